set_option maxHeartbeats 4000000 in
set_option maxRecDepth 100000 in
theorem con_X12_hangs {w : Wp} {N : Nat} {a0 : Nat} {a1 : Int32} {a2 : Int32} {a3 : Int32} {a4 : Int32} {M : Mm} {q : Int32 × Mm} (h_a0 : lay a0 = (5, 12)) (hq : D_X12_hangs N a0 a1 a2 a3 a4 M = some q) : Con w 8 yX12_hangs cX12_hangs 5 (some .int) [.ref (wB w + pz (a0)), .int a1, .int a2, .int a3, .int a4] M (encI q) := by
  refine Con.of encI q _ hq (by decide) (Nat.le_of_ble_eq_true rfl) ?_
  intro X G Q hQ
  have G : Good w X cX12_hangs 5 RX12 (some .int) 8 := G
  refine c_weak [(0, .ref (wB w + pz (a0))), (1, .int a1), (2, .int a2), (3, .int a3), (4, .int a4)] [0, 1, 2, 3, 4] rfl ?_
  rw [D_X12_hangs]
  refine c_iload G dX12_hangs_0 4 rfl ?_
  refine c_iconst G (nI 0) dX12_hangs_2 kI_0 ?_
  refine c_iconst G (nI 2) dX12_hangs_3 kI_2 ?_
  refine c_callS_PI (d := 0) (rest := []) G [.int a4, .int (nI 0), .int (nI 2)] ys_X12_isFrom ml_X12_246 (by omega) (by decide) rfl rfl (Nat.le_of_ble_eq_true rfl) (fun q hq => con_X12_isFrom hq) dX12_hangs_4 (fun q1 _ => ?_)
  refine c_if_ne (tgt := 16) G dX12_hangs_7 (by decide) (fun _ => ?_) (fun _ => ?_)
  · skip
    refine c_aload_n G dX12_hangs_10 rfl 0 rfl ?_
    refine c_iconst G (nI 1) dX12_hangs_11 kI_1 ?_
    refine c_callV_I (d := 0) (rest := []) G [.int (nI 1)] yv_X12_refuse ml_X12_305 (by omega) (by decide) rfl rfl (Nat.le_of_ble_eq_true rfl) h_a0 (fun q hq => con_X12_refuse h_a0 hq) dX12_hangs_12 (fun q2 _ => ?_)
    exact c_iret G hQ dX12_hangs_15
  · skip
    refine c_aload_n G dX12_hangs_16 rfl 0 rfl ?_
    refine c_iload_n G dX12_hangs_17 rfl 1 rfl ?_
    refine c_iload_n G dX12_hangs_18 rfl 2 rfl ?_
    refine c_callV_PI (d := 2) (rest := []) G [.int a1, .int a2] yv_X12_isOcc ml_X12_401 (by omega) (by decide) rfl rfl (Nat.le_of_ble_eq_true rfl) h_a0 (fun q hq => con_X12_isOcc h_a0 hq) dX12_hangs_19 (fun q3 _ => ?_)
    refine c_if_eq (tgt := 34) G dX12_hangs_22 (by decide) (fun _ => ?_) (fun _ => ?_)
    · skip
      refine c_aload_n G dX12_hangs_34 rfl 0 rfl ?_
      refine c_iconst G (nI 4) dX12_hangs_35 kI_4 ?_
      refine c_callV_I (d := 0) (rest := []) G [.int (nI 4)] yv_X12_refuse ml_X12_305 (by omega) (by decide) rfl rfl (Nat.le_of_ble_eq_true rfl) h_a0 (fun q hq => con_X12_refuse h_a0 hq) dX12_hangs_36 (fun q4 _ => ?_)
      exact c_iret G hQ dX12_hangs_39
    · skip
      refine c_aload_n G dX12_hangs_25 rfl 0 rfl ?_
      refine c_iload_n G dX12_hangs_26 rfl 1 rfl ?_
      refine c_iload_n G dX12_hangs_27 rfl 3 rfl ?_
      refine c_callV_PI (d := 2) (rest := []) G [.int a1, .int a3] yv_X12_isOcc ml_X12_401 (by omega) (by decide) rfl rfl (Nat.le_of_ble_eq_true rfl) h_a0 (fun q hq => con_X12_isOcc h_a0 hq) dX12_hangs_28 (fun q5 _ => ?_)
      refine c_if_ne (tgt := 40) G dX12_hangs_31 (by decide) (fun _ => ?_) (fun _ => ?_)
      · skip
        refine c_aload_n G dX12_hangs_34 rfl 0 rfl ?_
        refine c_iconst G (nI 4) dX12_hangs_35 kI_4 ?_
        refine c_callV_I (d := 0) (rest := []) G [.int (nI 4)] yv_X12_refuse ml_X12_305 (by omega) (by decide) rfl rfl (Nat.le_of_ble_eq_true rfl) h_a0 (fun q hq => con_X12_refuse h_a0 hq) dX12_hangs_36 (fun q6 _ => ?_)
        exact c_iret G hQ dX12_hangs_39
      · skip
        refine c_iload G dX12_hangs_40 4 rfl ?_
        refine c_iconst G (nI 2) dX12_hangs_42 kI_2 ?_
        refine c_jn (ej := fun (p61 : Unit) => [(0, .ref (wB w + pz (a0))), (1, .int a1), (2, .int a2), (3, .int a3), (4, .int a4)]) (sj := fun p61 => []) (mj := fun p61 => M) (pj := 61) (fun p61 => ?_) (fun J1 hJ61 => ?_)
        · skip
          refine c_iload G dX12_hangs_61 4 rfl ?_
          refine c_bj (ej := fun (p93 : Mm) => [(0, .ref (wB w + pz (a0))), (2, .int a2), (3, .int a3)]) (sj := fun p93 => []) (mj := fun p93 => p93) (pj := 93) (fun p93 => ?_) (fun F hJ93 => ?_)
          · skip
            refine c_aload_n G dX12_hangs_93 rfl 0 rfl ?_
            refine c_aload_n G dX12_hangs_94 rfl 0 rfl ?_
            refine c_getF G fl_X12_36 h_a0 rfl dX12_hangs_95 ?_
            refine c_iload_n G dX12_hangs_98 rfl 1 rfl ?_
            refine c_iald G (lf h_a0 23 rfl) dX12_hangs_99 (fun v1 _ => ?_)
            refine c_iload_n G dX12_hangs_100 rfl 2 rfl ?_
            refine c_callS_PI (d := 0) (rest := [.ref (wB w + pz (a0))]) G [.int v1, .int a3] ys_X12_has ml_X12_344 (by omega) (by decide) rfl rfl (Nat.le_of_ble_eq_true rfl) (fun q hq => con_X12_has hq) dX12_hangs_101 (fun q7 _ => ?_)
            refine c_if_eq (tgt := 111) G dX12_hangs_104 (by decide) (fun _ => ?_) (fun _ => ?_)
            · skip
              refine c_iconst G (nI 0) dX12_hangs_111 kI_0 ?_
              refine c_callV_I (d := 0) (rest := []) G [.int (nI 0)] yv_X12_gives ml_X12_328 (by omega) (by decide) rfl rfl (Nat.le_of_ble_eq_true rfl) h_a0 (fun q hq => con_X12_gives h_a0 hq) dX12_hangs_112 (fun q8 _ => ?_)
              exact c_iret G hQ dX12_hangs_115
            · skip
              refine c_iconst G (nI 1) dX12_hangs_107 kI_1 ?_
              refine c_goto (tgt := 112) G dX12_hangs_108 (by decide) ?_
              refine c_callV_I (d := 0) (rest := []) G [.int (nI 1)] yv_X12_gives ml_X12_328 (by omega) (by decide) rfl rfl (Nat.le_of_ble_eq_true rfl) h_a0 (fun q hq => con_X12_gives h_a0 hq) dX12_hangs_112 (fun q9 _ => ?_)
              exact c_iret G hQ dX12_hangs_115
          · skip
            refine c_if_ne (tgt := 74) G dX12_hangs_63 (by decide) (fun _ => ?_) (fun _ => ?_)
            · skip
              refine c_aload_n G dX12_hangs_66 rfl 0 rfl ?_
              refine c_iload_n G dX12_hangs_67 rfl 1 rfl ?_
              refine c_callV_V (d := 1) (rest := []) G [.int a1] yv_X12_laysRules ml_X12_347 (by omega) (by decide) rfl rfl (Nat.le_of_ble_eq_true rfl) h_a0 (fun q hq => con_X12_laysRules h_a0 hq) dX12_hangs_68 (fun M2 _ => ?_)
              refine c_goto (tgt := 93) G dX12_hangs_71 (by decide) ?_
              exact c_weak _ [0, 2, 3] rfl (hJ93 M2)
            · skip
              refine c_iload G dX12_hangs_74 4 rfl ?_
              refine c_iconst G (nI 1) dX12_hangs_76 kI_1 ?_
              refine c_icmp_ne (tgt := 88) G dX12_hangs_77 (by decide) (fun _ => ?_) (fun _ => ?_)
              · skip
                refine c_aload_n G dX12_hangs_80 rfl 0 rfl ?_
                refine c_iload_n G dX12_hangs_81 rfl 1 rfl ?_
                refine c_callV_V (d := 3) (rest := []) G [.int a1] yv_X12_laysClosed ml_X12_356 (by omega) (by decide) rfl rfl (Nat.le_of_ble_eq_true rfl) h_a0 (fun q hq => con_X12_laysClosed h_a0 hq) dX12_hangs_82 (fun M3 _ => ?_)
                refine c_goto (tgt := 93) G dX12_hangs_85 (by decide) ?_
                exact c_weak _ [0, 2, 3] rfl (hJ93 M3)
              · skip
                refine c_aload_n G dX12_hangs_88 rfl 0 rfl ?_
                refine c_iload_n G dX12_hangs_89 rfl 1 rfl ?_
                refine c_callV_V (d := 7) (rest := []) G [.int a1] yv_X12_laysOrdered ml_X12_395 (by omega) (by decide) rfl rfl (Nat.le_of_ble_eq_true rfl) h_a0 (fun q hq => con_X12_laysOrdered h_a0 hq) dX12_hangs_90 (fun M4 _ => ?_)
                exact c_weak _ [0, 2, 3] rfl (hJ93 M4)
        · skip
          refine c_icmp_ne (tgt := 61) G dX12_hangs_43 (by decide) (fun _ => ?_) (fun _ => ?_)
          · skip
            refine c_aload_n G dX12_hangs_46 rfl 0 rfl ?_
            refine c_iload_n G dX12_hangs_47 rfl 1 rfl ?_
            refine c_callV_PI (d := 3) (rest := []) G [.int a1] yv_X12_isSelfIn ml_X12_447 (by omega) (by decide) rfl rfl (Nat.le_of_ble_eq_true rfl) h_a0 (fun q hq => con_X12_isSelfIn h_a0 hq) dX12_hangs_48 (fun q10 _ => ?_)
            refine c_if_eq (tgt := 61) G dX12_hangs_51 (by decide) (fun _ => ?_) (fun _ => ?_)
            · skip
              exact c_weak _ [0, 1, 2, 3, 4] rfl (hJ61 ())
            · skip
              refine c_aload_n G dX12_hangs_54 rfl 0 rfl ?_
              refine c_bipush G (nI 7) dX12_hangs_55 kB_7 ?_
              refine c_callV_I (d := 0) (rest := []) G [.int (nI 7)] yv_X12_refuse ml_X12_305 (by omega) (by decide) rfl rfl (Nat.le_of_ble_eq_true rfl) h_a0 (fun q hq => con_X12_refuse h_a0 hq) dX12_hangs_57 (fun q11 _ => ?_)
              exact c_iret G hQ dX12_hangs_60
          · skip
            exact c_weak _ [0, 1, 2, 3, 4] rfl (hJ61 ())
set_option maxHeartbeats 4000000 in
set_option maxRecDepth 100000 in
theorem con_X12_induced {w : Wp} {N : Nat} {a0 : Nat} {a1 : Int32} {a2 : Int32} {a3 : Int32} {M : Mm} {q : Int32 × Mm} (h_a0 : lay a0 = (5, 12)) (hq : D_X12_induced N a0 a1 a2 a3 M = some q) : Con w 3 yX12_induced cX12_induced 4 (some .int) [.ref (wB w + pz (a0)), .int a1, .int a2, .int a3] M (encI q) := by
  refine Con.of encI q _ hq (by decide) (Nat.le_of_ble_eq_true rfl) ?_
  intro X G Q hQ
  have G : Good w X cX12_induced 4 RX12 (some .int) 3 := G
  refine c_weak [(0, .ref (wB w + pz (a0))), (1, .int a1), (2, .int a2), (3, .int a3)] [0, 1, 2, 3] rfl ?_
  rw [D_X12_induced]
  refine c_aload_n G dX12_induced_0 rfl 0 rfl ?_
  refine c_iload_n G dX12_induced_1 rfl 1 rfl ?_
  refine c_iload_n G dX12_induced_2 rfl 2 rfl ?_
  refine c_callV_PI (d := 2) (rest := []) G [.int a1, .int a2] yv_X12_isAttribute ml_X12_450 (by omega) (by decide) rfl rfl (Nat.le_of_ble_eq_true rfl) h_a0 (fun q hq => con_X12_isAttribute h_a0 hq) dX12_induced_3 (fun q1 _ => ?_)
  refine c_jn (ej := fun (p48 : Unit) => [(0, .ref (wB w + pz (a0)))]) (sj := fun p48 => []) (mj := fun p48 => M) (pj := 48) (fun p48 => ?_) (fun J1 hJ48 => ?_)
  · skip
    refine c_aload_n G dX12_induced_48 rfl 0 rfl ?_
    refine c_iconst G (nI 4) dX12_induced_49 kI_4 ?_
    refine c_callV_I (d := 0) (rest := []) G [.int (nI 4)] yv_X12_refuse ml_X12_305 (by omega) (by decide) rfl rfl (Nat.le_of_ble_eq_true rfl) h_a0 (fun q hq => con_X12_refuse h_a0 hq) dX12_induced_50 (fun q2 _ => ?_)
    exact c_iret G hQ dX12_induced_53
  · skip
    refine c_if_eq (tgt := 48) G dX12_induced_6 (by decide) (fun _ => ?_) (fun _ => ?_)
    · skip
      exact c_weak _ [0] rfl (hJ48 ())
    · skip
      refine c_aload_n G dX12_induced_9 rfl 0 rfl ?_
      refine c_iload_n G dX12_induced_10 rfl 1 rfl ?_
      refine c_iload_n G dX12_induced_11 rfl 3 rfl ?_
      refine c_callV_PI (d := 2) (rest := []) G [.int a1, .int a3] yv_X12_isAttribute ml_X12_450 (by omega) (by decide) rfl rfl (Nat.le_of_ble_eq_true rfl) h_a0 (fun q hq => con_X12_isAttribute h_a0 hq) dX12_induced_12 (fun q3 _ => ?_)
      refine c_if_eq (tgt := 48) G dX12_induced_15 (by decide) (fun _ => ?_) (fun _ => ?_)
      · skip
        exact c_weak _ [0] rfl (hJ48 ())
      · skip
        refine c_aload_n G dX12_induced_18 rfl 0 rfl ?_
        refine c_aload_n G dX12_induced_19 rfl 0 rfl ?_
        refine c_getF G fl_X12_33 h_a0 rfl dX12_induced_20 ?_
        refine c_bipush G (nI 8) dX12_induced_23 kB_8 ?_
        refine c_iload_n G dX12_induced_25 rfl 1 rfl ?_
        refine c_imul G dX12_induced_26 ?_
        refine c_iload_n G dX12_induced_27 rfl 2 rfl ?_
        refine c_iadd G dX12_induced_28 ?_
        refine c_iald G (lf h_a0 22 rfl) dX12_induced_29 (fun v1 _ => ?_)
        refine c_iload_n G dX12_induced_30 rfl 3 rfl ?_
        refine c_callS_PI (d := 0) (rest := [.ref (wB w + pz (a0))]) G [.int v1, .int a3] ys_X12_has ml_X12_344 (by omega) (by decide) rfl rfl (Nat.le_of_ble_eq_true rfl) (fun q hq => con_X12_has hq) dX12_induced_31 (fun q4 _ => ?_)
        refine c_bj (ej := fun (p42 : Int32) => []) (sj := fun p42 => [.int p42, .ref (wB w + pz (a0))]) (mj := fun p42 => M) (pj := 42) (fun p42 => ?_) (fun F hJ42 => ?_)
        · skip
          refine c_callV_I (d := 0) (rest := []) G [.int p42] yv_X12_gives ml_X12_328 (by omega) (by decide) rfl rfl (Nat.le_of_ble_eq_true rfl) h_a0 (fun q hq => con_X12_gives h_a0 hq) dX12_induced_42 (fun q5 _ => ?_)
          refine c_goto (tgt := 53) G dX12_induced_45 (by decide) ?_
          exact c_iret G hQ dX12_induced_53
        · skip
          refine c_if_eq (tgt := 41) G dX12_induced_34 (by decide) (fun _ => ?_) (fun _ => ?_)
          · skip
            refine c_iconst G (nI 0) dX12_induced_41 kI_0 ?_
            exact c_weak _ [] rfl (hJ42 (nI 0))
          · skip
            refine c_iconst G (nI 1) dX12_induced_37 kI_1 ?_
            refine c_goto (tgt := 42) G dX12_induced_38 (by decide) ?_
            exact c_weak _ [] rfl (hJ42 (nI 1))
set_option maxHeartbeats 4000000 in
set_option maxRecDepth 100000 in
theorem con_X12_circle {w : Wp} {N : Nat} {a0 : Nat} {a1 : Int32} {M : Mm} {q : Int32 × Mm} (h_a0 : lay a0 = (5, 12)) (hq : D_X12_circle N a0 a1 M = some q) : Con w 5 yX12_circle cX12_circle 3 (some .int) [.ref (wB w + pz (a0)), .int a1] M (encI q) := by
  refine Con.of encI q _ hq (by decide) (Nat.le_of_ble_eq_true rfl) ?_
  intro X G Q hQ
  have G : Good w X cX12_circle 3 RX12 (some .int) 5 := G
  refine c_weak [(0, .ref (wB w + pz (a0))), (1, .int a1)] [0, 1] rfl ?_
  rw [D_X12_circle]
  refine c_iload_n G dX12_circle_0 rfl 1 rfl ?_
  refine c_iconst G m1 dX12_circle_1 kI_m1 ?_
  refine c_icmp_ge (tgt := 11) G dX12_circle_2 (by decide) (fun _ => ?_) (fun _ => ?_)
  · skip
    refine c_aload_n G dX12_circle_11 rfl 0 rfl ?_
    refine c_getI G fl_X12_318 h_a0 rfl dX12_circle_12 ?_
    refine c_if_ne (tgt := 24) G dX12_circle_15 (by decide) (fun _ => ?_) (fun _ => ?_)
    · skip
      refine c_aload_n G dX12_circle_18 rfl 0 rfl ?_
      refine c_iconst G (nI 2) dX12_circle_19 kI_2 ?_
      refine c_callV_I (d := 0) (rest := []) G [.int (nI 2)] yv_X12_refuse ml_X12_305 (by omega) (by decide) rfl rfl (Nat.le_of_ble_eq_true rfl) h_a0 (fun q hq => con_X12_refuse h_a0 hq) dX12_circle_20 (fun q1 _ => ?_)
      exact c_iret G hQ dX12_circle_23
    · skip
      refine c_aload_n G dX12_circle_24 rfl 0 rfl ?_
      refine c_callV_I (d := 4) (rest := []) G [] yv_X12_findsCircle ml_X12_453 (by omega) (by decide) rfl rfl (Nat.le_of_ble_eq_true rfl) h_a0 (fun q hq => con_X12_findsCircle h_a0 hq) dX12_circle_25 (fun q2 _ => ?_)
      refine c_istore_n G [(2, .int q2.1), (0, .ref (wB w + pz (a0))), (1, .int a1)] dX12_circle_28 rfl (by decide) rfl ?_
      refine c_iload_n G dX12_circle_29 rfl 0 rfl ?_
      refine c_iconst G m1 dX12_circle_30 kI_m1 ?_
      refine c_icmp_ne (tgt := 41) G dX12_circle_31 (by decide) (fun _ => ?_) (fun _ => ?_)
      · skip
        refine c_aload_n G dX12_circle_34 rfl 1 rfl ?_
        refine c_bipush G (nI 7) dX12_circle_35 kB_7 ?_
        refine c_callV_I (d := 0) (rest := []) G [.int (nI 7)] yv_X12_refuse ml_X12_305 (by omega) (by decide) rfl rfl (Nat.le_of_ble_eq_true rfl) h_a0 (fun q hq => con_X12_refuse h_a0 hq) dX12_circle_37 (fun q3 _ => ?_)
        exact c_iret G hQ dX12_circle_40
      · skip
        refine c_iload_n G dX12_circle_41 rfl 2 rfl ?_
        refine c_iconst G m1 dX12_circle_42 kI_m1 ?_
        refine c_icmp_ne (tgt := 52) G dX12_circle_43 (by decide) (fun _ => ?_) (fun _ => ?_)
        · skip
          refine c_aload_n G dX12_circle_46 rfl 1 rfl ?_
          refine c_iload_n G dX12_circle_47 rfl 0 rfl ?_
          refine c_callV_I (d := 0) (rest := []) G [.int q2.1] yv_X12_gives ml_X12_328 (by omega) (by decide) rfl rfl (Nat.le_of_ble_eq_true rfl) h_a0 (fun q hq => con_X12_gives h_a0 hq) dX12_circle_48 (fun q4 _ => ?_)
          exact c_iret G hQ dX12_circle_51
        · skip
          refine c_iload_n G dX12_circle_52 rfl 2 rfl ?_
          refine c_aload_n G dX12_circle_53 rfl 1 rfl ?_
          refine c_getI G fl_X12_373 h_a0 rfl dX12_circle_54 ?_
          refine c_icmp_ge (tgt := 73) G dX12_circle_57 (by decide) (fun _ => ?_) (fun _ => ?_)
          · skip
            refine c_aload_n G dX12_circle_73 rfl 1 rfl ?_
            refine c_bipush G (nI 7) dX12_circle_74 kB_7 ?_
            refine c_callV_I (d := 0) (rest := []) G [.int (nI 7)] yv_X12_refuse ml_X12_305 (by omega) (by decide) rfl rfl (Nat.le_of_ble_eq_true rfl) h_a0 (fun q hq => con_X12_refuse h_a0 hq) dX12_circle_76 (fun q5 _ => ?_)
            exact c_iret G hQ dX12_circle_79
          · skip
            refine c_aload_n G dX12_circle_60 rfl 1 rfl ?_
            refine c_aload_n G dX12_circle_61 rfl 1 rfl ?_
            refine c_getF G fl_X12_45 h_a0 rfl dX12_circle_62 ?_
            refine c_iload_n G dX12_circle_65 rfl 2 rfl ?_
            refine c_iald G (lf h_a0 26 rfl) dX12_circle_66 (fun v1 _ => ?_)
            refine c_callV_I (d := 0) (rest := []) G [.int v1] yv_X12_gives ml_X12_328 (by omega) (by decide) rfl rfl (Nat.le_of_ble_eq_true rfl) h_a0 (fun q hq => con_X12_gives h_a0 hq) dX12_circle_67 (fun q6 _ => ?_)
            refine c_goto (tgt := 79) G dX12_circle_70 (by decide) ?_
            exact c_iret G hQ dX12_circle_79
  · skip
    refine c_aload_n G dX12_circle_5 rfl 0 rfl ?_
    refine c_iconst G (nI 1) dX12_circle_6 kI_1 ?_
    refine c_callV_I (d := 0) (rest := []) G [.int (nI 1)] yv_X12_refuse ml_X12_305 (by omega) (by decide) rfl rfl (Nat.le_of_ble_eq_true rfl) h_a0 (fun q hq => con_X12_refuse h_a0 hq) dX12_circle_7 (fun q7 _ => ?_)
    exact c_iret G hQ dX12_circle_10
set_option maxHeartbeats 4000000 in
set_option maxRecDepth 100000 in
theorem con_X12_visit {w : Wp} {N : Nat} {a0 : Nat} {a1 : Int32} {a2 : Int32} {M : Mm} {q : Int32 × Mm} (h_a0 : lay a0 = (5, 12)) (hq : D_X12_visit N a0 a1 a2 M = some q) : Con w 5 yX12_visit cX12_visit 3 (some .int) [.ref (wB w + pz (a0)), .int a1, .int a2] M (encI q) := by
  refine Con.of encI q _ hq (by decide) (Nat.le_of_ble_eq_true rfl) ?_
  intro X G Q hQ
  have G : Good w X cX12_visit 3 RX12 (some .int) 5 := G
  refine c_weak [(0, .ref (wB w + pz (a0))), (1, .int a1), (2, .int a2)] [0, 1, 2] rfl ?_
  rw [D_X12_visit]
  refine c_aload_n G dX12_visit_0 rfl 0 rfl ?_
  refine c_iload_n G dX12_visit_1 rfl 1 rfl ?_
  refine c_iload_n G dX12_visit_2 rfl 2 rfl ?_
  refine c_callV_PI (d := 2) (rest := []) G [.int a1, .int a2] yv_X12_isAttribute ml_X12_450 (by omega) (by decide) rfl rfl (Nat.le_of_ble_eq_true rfl) h_a0 (fun q hq => con_X12_isAttribute h_a0 hq) dX12_visit_3 (fun q1 _ => ?_)
  refine c_if_ne (tgt := 15) G dX12_visit_6 (by decide) (fun _ => ?_) (fun _ => ?_)
  · skip
    refine c_aload_n G dX12_visit_9 rfl 0 rfl ?_
    refine c_iconst G (nI 4) dX12_visit_10 kI_4 ?_
    refine c_callV_I (d := 0) (rest := []) G [.int (nI 4)] yv_X12_refuse ml_X12_305 (by omega) (by decide) rfl rfl (Nat.le_of_ble_eq_true rfl) h_a0 (fun q hq => con_X12_refuse h_a0 hq) dX12_visit_11 (fun q2 _ => ?_)
    exact c_iret G hQ dX12_visit_14
  · skip
    refine c_aload_n G dX12_visit_15 rfl 0 rfl ?_
    refine c_iload_n G dX12_visit_16 rfl 1 rfl ?_
    refine c_callV_PI (d := 2) (rest := []) G [.int a1] yv_X12_isSelf ml_X12_359 (by omega) (by decide) rfl rfl (Nat.le_of_ble_eq_true rfl) h_a0 (fun q hq => con_X12_isSelf h_a0 hq) dX12_visit_17 (fun q3 _ => ?_)
    refine c_if_eq (tgt := 30) G dX12_visit_20 (by decide) (fun _ => ?_) (fun _ => ?_)
    · skip
      refine c_aload_n G dX12_visit_30 rfl 0 rfl ?_
      refine c_iload_n G dX12_visit_31 rfl 1 rfl ?_
      refine c_callV_V (d := 4) (rest := []) G [.int a1] yv_X12_laysVisits ml_X12_386 (by omega) (by decide) rfl rfl (Nat.le_of_ble_eq_true rfl) h_a0 (fun q hq => con_X12_laysVisits h_a0 hq) dX12_visit_32 (fun M1 _ => ?_)
      refine c_aload_n G dX12_visit_35 rfl 0 rfl ?_
      refine c_aload_n G dX12_visit_36 rfl 0 rfl ?_
      refine c_getF G fl_X12_51 h_a0 rfl dX12_visit_37 ?_
      refine c_bipush G (nI 8) dX12_visit_40 kB_8 ?_
      refine c_iload_n G dX12_visit_42 rfl 1 rfl ?_
      refine c_imul G dX12_visit_43 ?_
      refine c_iload_n G dX12_visit_44 rfl 2 rfl ?_
      refine c_iadd G dX12_visit_45 ?_
      refine c_iald G (lf h_a0 29 rfl) dX12_visit_46 (fun v1 _ => ?_)
      refine c_callV_I (d := 0) (rest := []) G [.int v1] yv_X12_gives ml_X12_328 (by omega) (by decide) rfl rfl (Nat.le_of_ble_eq_true rfl) h_a0 (fun q hq => con_X12_gives h_a0 hq) dX12_visit_47 (fun q4 _ => ?_)
      exact c_iret G hQ dX12_visit_50
    · skip
      refine c_aload_n G dX12_visit_23 rfl 0 rfl ?_
      refine c_bipush G (nI 7) dX12_visit_24 kB_7 ?_
      refine c_callV_I (d := 0) (rest := []) G [.int (nI 7)] yv_X12_refuse ml_X12_305 (by omega) (by decide) rfl rfl (Nat.le_of_ble_eq_true rfl) h_a0 (fun q hq => con_X12_refuse h_a0 hq) dX12_visit_26 (fun q5 _ => ?_)
      exact c_iret G hQ dX12_visit_29
set_option maxHeartbeats 4000000 in
set_option maxRecDepth 100000 in
theorem con_X12_ordered {w : Wp} {N : Nat} {a0 : Nat} {a1 : Int32} {M : Mm} {q : Int32 × Mm} (h_a0 : lay a0 = (5, 12)) (hq : D_X12_ordered N a0 a1 M = some q) : Con w 9 yX12_ordered cX12_ordered 3 (some .int) [.ref (wB w + pz (a0)), .int a1] M (encI q) := by
  refine Con.of encI q _ hq (by decide) (Nat.le_of_ble_eq_true rfl) ?_
  intro X G Q hQ
  have G : Good w X cX12_ordered 3 RX12 (some .int) 9 := G
  refine c_weak [(0, .ref (wB w + pz (a0))), (1, .int a1)] [0, 1] rfl ?_
  rw [D_X12_ordered]
  refine c_iload_n G dX12_ordered_0 rfl 1 rfl ?_
  refine c_iconst G (nI 0) dX12_ordered_1 kI_0 ?_
  refine c_iconst G (nI 1) dX12_ordered_2 kI_1 ?_
  refine c_callS_PI (d := 0) (rest := []) G [.int a1, .int (nI 0), .int (nI 1)] ys_X12_isFrom ml_X12_246 (by omega) (by decide) rfl rfl (Nat.le_of_ble_eq_true rfl) (fun q hq => con_X12_isFrom hq) dX12_ordered_3 (fun q1 _ => ?_)
  refine c_if_ne (tgt := 15) G dX12_ordered_6 (by decide) (fun _ => ?_) (fun _ => ?_)
  · skip
    refine c_aload_n G dX12_ordered_9 rfl 0 rfl ?_
    refine c_iconst G (nI 1) dX12_ordered_10 kI_1 ?_
    refine c_callV_I (d := 0) (rest := []) G [.int (nI 1)] yv_X12_refuse ml_X12_305 (by omega) (by decide) rfl rfl (Nat.le_of_ble_eq_true rfl) h_a0 (fun q hq => con_X12_refuse h_a0 hq) dX12_ordered_11 (fun q2 _ => ?_)
    exact c_iret G hQ dX12_ordered_14
  · skip
    refine c_aload_n G dX12_ordered_15 rfl 0 rfl ?_
    refine c_getI G fl_X12_318 h_a0 rfl dX12_ordered_16 ?_
    refine c_if_ne (tgt := 28) G dX12_ordered_19 (by decide) (fun _ => ?_) (fun _ => ?_)
    · skip
      refine c_aload_n G dX12_ordered_22 rfl 0 rfl ?_
      refine c_iconst G (nI 2) dX12_ordered_23 kI_2 ?_
      refine c_callV_I (d := 0) (rest := []) G [.int (nI 2)] yv_X12_refuse ml_X12_305 (by omega) (by decide) rfl rfl (Nat.le_of_ble_eq_true rfl) h_a0 (fun q hq => con_X12_refuse h_a0 hq) dX12_ordered_24 (fun q3 _ => ?_)
      exact c_iret G hQ dX12_ordered_27
    · skip
      refine c_aload_n G dX12_ordered_28 rfl 0 rfl ?_
      refine c_callV_I (d := 8) (rest := []) G [] yv_X12_block ml_X12_456 (by omega) (by decide) rfl rfl (Nat.le_of_ble_eq_true rfl) h_a0 (fun q hq => con_X12_block h_a0 hq) dX12_ordered_29 (fun q4 _ => ?_)
      refine c_istore_n G [(2, .int q4.1), (0, .ref (wB w + pz (a0))), (1, .int a1)] dX12_ordered_32 rfl (by decide) rfl ?_
      refine c_iload_n G dX12_ordered_33 rfl 2 rfl ?_
      refine c_if_ne (tgt := 52) G dX12_ordered_34 (by decide) (fun _ => ?_) (fun _ => ?_)
      · skip
        refine c_aload_n G dX12_ordered_37 rfl 1 rfl ?_
        refine c_iload_n G dX12_ordered_38 rfl 0 rfl ?_
        refine c_iconst G m1 dX12_ordered_39 kI_m1 ?_
        refine c_icmp_ne (tgt := 47) G dX12_ordered_40 (by decide) (fun _ => ?_) (fun _ => ?_)
        · skip
          refine c_iconst G (nI 1) dX12_ordered_43 kI_1 ?_
          refine c_goto (tgt := 48) G dX12_ordered_44 (by decide) ?_
          refine c_callV_I (d := 0) (rest := []) G [.int (nI 1)] yv_X12_gives ml_X12_328 (by omega) (by decide) rfl rfl (Nat.le_of_ble_eq_true rfl) h_a0 (fun q hq => con_X12_gives h_a0 hq) dX12_ordered_48 (fun q5 _ => ?_)
          exact c_iret G hQ dX12_ordered_51
        · skip
          refine c_iconst G (nI 0) dX12_ordered_47 kI_0 ?_
          refine c_callV_I (d := 0) (rest := []) G [.int (nI 0)] yv_X12_gives ml_X12_328 (by omega) (by decide) rfl rfl (Nat.le_of_ble_eq_true rfl) h_a0 (fun q hq => con_X12_gives h_a0 hq) dX12_ordered_48 (fun q6 _ => ?_)
          exact c_iret G hQ dX12_ordered_51
      · skip
        refine c_iload_n G dX12_ordered_52 rfl 0 rfl ?_
        refine c_iconst G m1 dX12_ordered_53 kI_m1 ?_
        refine c_icmp_ne (tgt := 66) G dX12_ordered_54 (by decide) (fun _ => ?_) (fun _ => ?_)
        · skip
          refine c_aload_n G dX12_ordered_57 rfl 1 rfl ?_
          refine c_bipush G (nI 7) dX12_ordered_58 kB_7 ?_
          refine c_callV_I (d := 0) (rest := []) G [.int (nI 7)] yv_X12_refuse ml_X12_305 (by omega) (by decide) rfl rfl (Nat.le_of_ble_eq_true rfl) h_a0 (fun q hq => con_X12_refuse h_a0 hq) dX12_ordered_60 (fun q7 _ => ?_)
          refine c_goto (tgt := 71) G dX12_ordered_63 (by decide) ?_
          exact c_iret G hQ dX12_ordered_71
        · skip
          refine c_aload_n G dX12_ordered_66 rfl 1 rfl ?_
          refine c_iload_n G dX12_ordered_67 rfl 0 rfl ?_
          refine c_callV_I (d := 0) (rest := []) G [.int q4.1] yv_X12_gives ml_X12_328 (by omega) (by decide) rfl rfl (Nat.le_of_ble_eq_true rfl) h_a0 (fun q hq => con_X12_gives h_a0 hq) dX12_ordered_68 (fun q8 _ => ?_)
          exact c_iret G hQ dX12_ordered_71
set_option maxHeartbeats 4000000 in
set_option maxRecDepth 100000 in
theorem con_X12_plan {w : Wp} {N : Nat} {a0 : Nat} {a1 : Int32} {a2 : Int32} {M : Mm} {q : Int32 × Mm} (h_a0 : lay a0 = (5, 12)) (hq : D_X12_plan N a0 a1 a2 M = some q) : Con w 9 yX12_plan cX12_plan 3 (some .int) [.ref (wB w + pz (a0)), .int a1, .int a2] M (encI q) := by
  refine Con.of encI q _ hq (by decide) (Nat.le_of_ble_eq_true rfl) ?_
  intro X G Q hQ
  have G : Good w X cX12_plan 3 RX12 (some .int) 9 := G
  refine c_weak [(0, .ref (wB w + pz (a0))), (1, .int a1), (2, .int a2)] [0, 1, 2] rfl ?_
  rw [D_X12_plan]
  refine c_iload_n G dX12_plan_0 rfl 2 rfl ?_
  refine c_iconst G m1 dX12_plan_1 kI_m1 ?_
  refine c_icmp_ge (tgt := 11) G dX12_plan_2 (by decide) (fun _ => ?_) (fun _ => ?_)
  · skip
    refine c_aload_n G dX12_plan_11 rfl 0 rfl ?_
    refine c_iload_n G dX12_plan_12 rfl 1 rfl ?_
    refine c_callV_PI (d := 1) (rest := []) G [.int a1] yv_X12_isProduction ml_X12_337 (by omega) (by decide) rfl rfl (Nat.le_of_ble_eq_true rfl) h_a0 (fun q hq => con_X12_isProduction h_a0 hq) dX12_plan_13 (fun q1 _ => ?_)
    refine c_if_ne (tgt := 25) G dX12_plan_16 (by decide) (fun _ => ?_) (fun _ => ?_)
    · skip
      refine c_aload_n G dX12_plan_19 rfl 0 rfl ?_
      refine c_iconst G (nI 4) dX12_plan_20 kI_4 ?_
      refine c_callV_I (d := 0) (rest := []) G [.int (nI 4)] yv_X12_refuse ml_X12_305 (by omega) (by decide) rfl rfl (Nat.le_of_ble_eq_true rfl) h_a0 (fun q hq => con_X12_refuse h_a0 hq) dX12_plan_21 (fun q2 _ => ?_)
      exact c_iret G hQ dX12_plan_24
    · skip
      refine c_aload_n G dX12_plan_25 rfl 0 rfl ?_
      refine c_callV_I (d := 8) (rest := []) G [] yv_X12_block ml_X12_456 (by omega) (by decide) rfl rfl (Nat.le_of_ble_eq_true rfl) h_a0 (fun q hq => con_X12_block h_a0 hq) dX12_plan_26 (fun q3 _ => ?_)
      refine c_iconst G m1 dX12_plan_29 kI_m1 ?_
      refine c_icmp_eq (tgt := 39) G dX12_plan_30 (by decide) (fun _ => ?_) (fun _ => ?_)
      · skip
        refine c_aload_n G dX12_plan_39 rfl 0 rfl ?_
        refine c_iload_n G dX12_plan_40 rfl 1 rfl ?_
        refine c_callV_V (d := 6) (rest := []) G [.int a1] yv_X12_laysPlan ml_X12_459 (by omega) (by decide) rfl rfl (Nat.le_of_ble_eq_true rfl) h_a0 (fun q hq => con_X12_laysPlan h_a0 hq) dX12_plan_41 (fun M1 _ => ?_)
        refine c_iload_n G dX12_plan_44 rfl 2 rfl ?_
        refine c_iconst G m1 dX12_plan_45 kI_m1 ?_
        refine c_icmp_ne (tgt := 58) G dX12_plan_46 (by decide) (fun _ => ?_) (fun _ => ?_)
        · skip
          refine c_aload_n G dX12_plan_49 rfl 0 rfl ?_
          refine c_aload_n G dX12_plan_50 rfl 0 rfl ?_
          refine c_getI G fl_X12_398 h_a0 rfl dX12_plan_51 ?_
          refine c_callV_I (d := 0) (rest := []) G [.int (M1.1 a0 33)] yv_X12_gives ml_X12_328 (by omega) (by decide) rfl rfl (Nat.le_of_ble_eq_true rfl) h_a0 (fun q hq => con_X12_gives h_a0 hq) dX12_plan_54 (fun q4 _ => ?_)
          exact c_iret G hQ dX12_plan_57
        · skip
          refine c_iload_n G dX12_plan_58 rfl 2 rfl ?_
          refine c_aload_n G dX12_plan_59 rfl 0 rfl ?_
          refine c_getI G fl_X12_398 h_a0 rfl dX12_plan_60 ?_
          refine c_icmp_ge (tgt := 79) G dX12_plan_63 (by decide) (fun _ => ?_) (fun _ => ?_)
          · skip
            refine c_aload_n G dX12_plan_79 rfl 0 rfl ?_
            refine c_bipush G (nI 7) dX12_plan_80 kB_7 ?_
            refine c_callV_I (d := 0) (rest := []) G [.int (nI 7)] yv_X12_refuse ml_X12_305 (by omega) (by decide) rfl rfl (Nat.le_of_ble_eq_true rfl) h_a0 (fun q hq => con_X12_refuse h_a0 hq) dX12_plan_82 (fun q5 _ => ?_)
            exact c_iret G hQ dX12_plan_85
          · skip
            refine c_aload_n G dX12_plan_66 rfl 0 rfl ?_
            refine c_aload_n G dX12_plan_67 rfl 0 rfl ?_
            refine c_getF G fl_X12_57 h_a0 rfl dX12_plan_68 ?_
            refine c_iload_n G dX12_plan_71 rfl 2 rfl ?_
            refine c_iald G (lf h_a0 32 rfl) dX12_plan_72 (fun v1 _ => ?_)
            refine c_callV_I (d := 0) (rest := []) G [.int v1] yv_X12_gives ml_X12_328 (by omega) (by decide) rfl rfl (Nat.le_of_ble_eq_true rfl) h_a0 (fun q hq => con_X12_gives h_a0 hq) dX12_plan_73 (fun q6 _ => ?_)
            refine c_goto (tgt := 85) G dX12_plan_76 (by decide) ?_
            exact c_iret G hQ dX12_plan_85
      · skip
        refine c_aload_n G dX12_plan_33 rfl 0 rfl ?_
        refine c_iconst G (nI 5) dX12_plan_34 kI_5 ?_
        refine c_callV_I (d := 0) (rest := []) G [.int (nI 5)] yv_X12_refuse ml_X12_305 (by omega) (by decide) rfl rfl (Nat.le_of_ble_eq_true rfl) h_a0 (fun q hq => con_X12_refuse h_a0 hq) dX12_plan_35 (fun q7 _ => ?_)
        exact c_iret G hQ dX12_plan_38
  · skip
    refine c_aload_n G dX12_plan_5 rfl 0 rfl ?_
    refine c_iconst G (nI 1) dX12_plan_6 kI_1 ?_
    refine c_callV_I (d := 0) (rest := []) G [.int (nI 1)] yv_X12_refuse ml_X12_305 (by omega) (by decide) rfl rfl (Nat.le_of_ble_eq_true rfl) h_a0 (fun q hq => con_X12_refuse h_a0 hq) dX12_plan_7 (fun q8 _ => ?_)
    exact c_iret G hQ dX12_plan_10
set_option maxHeartbeats 4000000 in
set_option maxRecDepth 100000 in
theorem cl_X12_real_116 {w : Wp} {X : Cx} {Q : State → Prop} {ρ : Int32 × Mm} (G : Good w X cX12_real 4 RX12 (some .int) 11) (hQ : Q = MQ (xL X) (Qd w (encI ρ)) (xA X) (xS X) (xk X) (xs X) (Aw w)) {N : Nat} {a0 : Nat} {M1 : Mm} (h_a0 : lay a0 = (5, 12)) : ∀ (n : Nat) (l2_1 : Int32) (l3_1 : Int32), Cov w X Q ρ some 4 116 [(0, .ref (wB w + pz (a0))), (2, .int l2_1), (3, .int l3_1)] [] M1 (L_X12_real_116 N a0 M1 n l2_1 l3_1) := by
  intro n
  induction n with
  | zero => intro l2_1 l3_1; exact c_none
  | succ n ih =>
    intro l2_1 l3_1
    rw [L_X12_real_116]
    refine c_iload_n G dX12_real_116 rfl 2 rfl ?_
    refine c_bipush G (nI 8) dX12_real_117 kB_8 ?_
    refine c_icmp_ge (tgt := 137) G dX12_real_119 (by decide) (fun _ => ?_) (fun _ => ?_)
    · skip
      refine c_aload_n G dX12_real_137 rfl 0 rfl ?_
      refine c_iload_n G dX12_real_138 rfl 1 rfl ?_
      refine c_callV_I (d := 0) (rest := []) G [.int l2_1] yv_X12_gives ml_X12_328 (by omega) (by decide) rfl rfl (Nat.le_of_ble_eq_true rfl) h_a0 (fun q hq => con_X12_gives h_a0 hq) dX12_real_139 (fun q9 _ => ?_)
      exact c_iret G hQ dX12_real_142
    · skip
      refine c_iload_n G dX12_real_122 rfl 1 rfl ?_
      refine c_aload_n G dX12_real_123 rfl 0 rfl ?_
      refine c_getF G fl_X12_66 h_a0 rfl dX12_real_124 ?_
      refine c_iload_n G dX12_real_127 rfl 2 rfl ?_
      refine c_iald G (lf h_a0 36 rfl) dX12_real_128 (fun v1 _ => ?_)
      refine c_iadd G dX12_real_129 ?_
      refine c_let (fun l2_2 _ => ?_)
      refine c_istore_n G [(2, .int l2_2), (0, .ref (wB w + pz (a0))), (3, .int l3_1)] dX12_real_130 rfl (by decide) rfl ?_
      refine c_iinc G (fun y__ => [(3, .int y__), (2, .int l2_2), (0, .ref (wB w + pz (a0)))]) dX12_real_131 2 rfl kI_1 (by decide) (fun _ => rfl) (fun l3_2 _ => ?_)
      refine c_goto (tgt := 116) G dX12_real_134 (by decide) ?_
      exact c_weak _ [2, 1, 0] rfl (ih l2_2 l3_2)
set_option maxHeartbeats 4000000 in
set_option maxRecDepth 100000 in
theorem con_X12_real {w : Wp} {N : Nat} {a0 : Nat} {a1 : Int32} {M : Mm} {q : Int32 × Mm} (h_a0 : lay a0 = (5, 12)) (hq : D_X12_real N a0 a1 M = some q) : Con w 11 yX12_real cX12_real 4 (some .int) [.ref (wB w + pz (a0)), .int a1] M (encI q) := by
  refine Con.of encI q _ hq (by decide) (Nat.le_of_ble_eq_true rfl) ?_
  intro X G Q hQ
  have G : Good w X cX12_real 4 RX12 (some .int) 11 := G
  refine c_weak [(0, .ref (wB w + pz (a0))), (1, .int a1)] [0, 1] rfl ?_
  rw [D_X12_real]
  refine c_iload_n G dX12_real_0 rfl 1 rfl ?_
  refine c_iconst G (nI 0) dX12_real_1 kI_0 ?_
  refine c_iconst G (nI 3) dX12_real_2 kI_3 ?_
  refine c_callS_PI (d := 0) (rest := []) G [.int a1, .int (nI 0), .int (nI 3)] ys_X12_isFrom ml_X12_246 (by omega) (by decide) rfl rfl (Nat.le_of_ble_eq_true rfl) (fun q hq => con_X12_isFrom hq) dX12_real_3 (fun q1 _ => ?_)
  refine c_if_ne (tgt := 15) G dX12_real_6 (by decide) (fun _ => ?_) (fun _ => ?_)
  · skip
    refine c_aload_n G dX12_real_9 rfl 0 rfl ?_
    refine c_iconst G (nI 1) dX12_real_10 kI_1 ?_
    refine c_callV_I (d := 0) (rest := []) G [.int (nI 1)] yv_X12_refuse ml_X12_305 (by omega) (by decide) rfl rfl (Nat.le_of_ble_eq_true rfl) h_a0 (fun q hq => con_X12_refuse h_a0 hq) dX12_real_11 (fun q2 _ => ?_)
    exact c_iret G hQ dX12_real_14
  · skip
    refine c_aload_n G dX12_real_15 rfl 0 rfl ?_
    refine c_getI G fl_X12_318 h_a0 rfl dX12_real_16 ?_
    refine c_if_ne (tgt := 28) G dX12_real_19 (by decide) (fun _ => ?_) (fun _ => ?_)
    · skip
      refine c_aload_n G dX12_real_22 rfl 0 rfl ?_
      refine c_iconst G (nI 2) dX12_real_23 kI_2 ?_
      refine c_callV_I (d := 0) (rest := []) G [.int (nI 2)] yv_X12_refuse ml_X12_305 (by omega) (by decide) rfl rfl (Nat.le_of_ble_eq_true rfl) h_a0 (fun q hq => con_X12_refuse h_a0 hq) dX12_real_24 (fun q3 _ => ?_)
      exact c_iret G hQ dX12_real_27
    · skip
      refine c_aload_n G dX12_real_28 rfl 0 rfl ?_
      refine c_iconst G (nI 1) dX12_real_29 kI_1 ?_
      refine c_callV_V (d := 10) (rest := []) G [.int (nI 1)] yv_X12_seeks ml_X12_462 (by omega) (by decide) rfl rfl (Nat.le_of_ble_eq_true rfl) h_a0 (fun q hq => con_X12_seeks h_a0 hq) dX12_real_30 (fun M1 _ => ?_)
      refine c_aload_n G dX12_real_33 rfl 0 rfl ?_
      refine c_getI G fl_X12_423 h_a0 rfl dX12_real_34 ?_
      refine c_if_eq (tgt := 47) G dX12_real_37 (by decide) (fun _ => ?_) (fun _ => ?_)
      · skip
        refine c_iload_n G dX12_real_47 rfl 1 rfl ?_
        refine c_if_ne (tgt := 68) G dX12_real_48 (by decide) (fun _ => ?_) (fun _ => ?_)
        · skip
          refine c_aload_n G dX12_real_51 rfl 0 rfl ?_
          refine c_aload_n G dX12_real_52 rfl 0 rfl ?_
          refine c_getI G fl_X12_426 h_a0 rfl dX12_real_53 ?_
          refine c_if_le (tgt := 63) G dX12_real_56 (by decide) (fun _ => ?_) (fun _ => ?_)
          · skip
            refine c_iconst G (nI 0) dX12_real_63 kI_0 ?_
            refine c_callV_I (d := 0) (rest := []) G [.int (nI 0)] yv_X12_gives ml_X12_328 (by omega) (by decide) rfl rfl (Nat.le_of_ble_eq_true rfl) h_a0 (fun q hq => con_X12_gives h_a0 hq) dX12_real_64 (fun q4 _ => ?_)
            exact c_iret G hQ dX12_real_67
          · skip
            refine c_iconst G (nI 1) dX12_real_59 kI_1 ?_
            refine c_goto (tgt := 64) G dX12_real_60 (by decide) ?_
            refine c_callV_I (d := 0) (rest := []) G [.int (nI 1)] yv_X12_gives ml_X12_328 (by omega) (by decide) rfl rfl (Nat.le_of_ble_eq_true rfl) h_a0 (fun q hq => con_X12_gives h_a0 hq) dX12_real_64 (fun q5 _ => ?_)
            exact c_iret G hQ dX12_real_67
        · skip
          refine c_iload_n G dX12_real_68 rfl 1 rfl ?_
          refine c_iconst G (nI 1) dX12_real_69 kI_1 ?_
          refine c_icmp_ne (tgt := 98) G dX12_real_70 (by decide) (fun _ => ?_) (fun _ => ?_)
          · skip
            refine c_aload_n G dX12_real_73 rfl 0 rfl ?_
            refine c_getI G fl_X12_426 h_a0 rfl dX12_real_74 ?_
            refine c_if_le (tgt := 91) G dX12_real_77 (by decide) (fun _ => ?_) (fun _ => ?_)
            · skip
              refine c_aload_n G dX12_real_91 rfl 0 rfl ?_
              refine c_bipush G (nI 7) dX12_real_92 kB_7 ?_
              refine c_callV_I (d := 0) (rest := []) G [.int (nI 7)] yv_X12_refuse ml_X12_305 (by omega) (by decide) rfl rfl (Nat.le_of_ble_eq_true rfl) h_a0 (fun q hq => con_X12_refuse h_a0 hq) dX12_real_94 (fun q6 _ => ?_)
              exact c_iret G hQ dX12_real_97
            · skip
              refine c_aload_n G dX12_real_80 rfl 0 rfl ?_
              refine c_aload_n G dX12_real_81 rfl 0 rfl ?_
              refine c_getI G fl_X12_426 h_a0 rfl dX12_real_82 ?_
              refine c_callV_I (d := 0) (rest := []) G [.int (M1.1 a0 40)] yv_X12_gives ml_X12_328 (by omega) (by decide) rfl rfl (Nat.le_of_ble_eq_true rfl) h_a0 (fun q hq => con_X12_gives h_a0 hq) dX12_real_85 (fun q7 _ => ?_)
              refine c_goto (tgt := 97) G dX12_real_88 (by decide) ?_
              exact c_iret G hQ dX12_real_97
          · skip
            refine c_iload_n G dX12_real_98 rfl 1 rfl ?_
            refine c_iconst G (nI 2) dX12_real_99 kI_2 ?_
            refine c_icmp_ne (tgt := 112) G dX12_real_100 (by decide) (fun _ => ?_) (fun _ => ?_)
            · skip
              refine c_aload_n G dX12_real_103 rfl 0 rfl ?_
              refine c_aload_n G dX12_real_104 rfl 0 rfl ?_
              refine c_getI G fl_X12_429 h_a0 rfl dX12_real_105 ?_
              refine c_callV_I (d := 0) (rest := []) G [.int (M1.1 a0 39)] yv_X12_gives ml_X12_328 (by omega) (by decide) rfl rfl (Nat.le_of_ble_eq_true rfl) h_a0 (fun q hq => con_X12_gives h_a0 hq) dX12_real_108 (fun q8 _ => ?_)
              exact c_iret G hQ dX12_real_111
            · skip
              refine c_iconst G (nI 0) dX12_real_112 kI_0 ?_
              refine c_istore_n G [(2, .int (nI 0)), (0, .ref (wB w + pz (a0))), (1, .int a1)] dX12_real_113 rfl (by decide) rfl ?_
              refine c_iconst G (nI 0) dX12_real_114 kI_0 ?_
              refine c_istore_n G [(3, .int (nI 0)), (2, .int (nI 0)), (0, .ref (wB w + pz (a0))), (1, .int a1)] dX12_real_115 rfl (by decide) rfl ?_
              refine c_weak _ [2, 1, 0] rfl (cl_X12_real_116 G hQ  h_a0 N (nI 0) (nI 0))
      · skip
        refine c_aload_n G dX12_real_40 rfl 0 rfl ?_
        refine c_bipush G (nI 6) dX12_real_41 kB_6 ?_
        refine c_callV_I (d := 0) (rest := []) G [.int (nI 6)] yv_X12_refuse ml_X12_305 (by omega) (by decide) rfl rfl (Nat.le_of_ble_eq_true rfl) h_a0 (fun q hq => con_X12_refuse h_a0 hq) dX12_real_43 (fun q10 _ => ?_)
        exact c_iret G hQ dX12_real_46
set_option maxHeartbeats 4000000 in
set_option maxRecDepth 100000 in
theorem con_X12_shades {w : Wp} {N : Nat} {a0 : Nat} {a1 : Int32} {M : Mm} {q : Int32 × Mm} (h_a0 : lay a0 = (5, 12)) (hq : D_X12_shades N a0 a1 M = some q) : Con w 11 yX12_shades cX12_shades 2 (some .int) [.ref (wB w + pz (a0)), .int a1] M (encI q) := by
  refine Con.of encI q _ hq (by decide) (Nat.le_of_ble_eq_true rfl) ?_
  intro X G Q hQ
  have G : Good w X cX12_shades 2 RX12 (some .int) 11 := G
  refine c_weak [(0, .ref (wB w + pz (a0))), (1, .int a1)] [0, 1] rfl ?_
  rw [D_X12_shades]
  refine c_aload_n G dX12_shades_0 rfl 0 rfl ?_
  refine c_iload_n G dX12_shades_1 rfl 1 rfl ?_
  refine c_callV_PI (d := 1) (rest := []) G [.int a1] yv_X12_isSymbol ml_X12_331 (by omega) (by decide) rfl rfl (Nat.le_of_ble_eq_true rfl) h_a0 (fun q hq => con_X12_isSymbol h_a0 hq) dX12_shades_2 (fun q1 _ => ?_)
  refine c_if_ne (tgt := 14) G dX12_shades_5 (by decide) (fun _ => ?_) (fun _ => ?_)
  · skip
    refine c_aload_n G dX12_shades_8 rfl 0 rfl ?_
    refine c_iconst G (nI 4) dX12_shades_9 kI_4 ?_
    refine c_callV_I (d := 0) (rest := []) G [.int (nI 4)] yv_X12_refuse ml_X12_305 (by omega) (by decide) rfl rfl (Nat.le_of_ble_eq_true rfl) h_a0 (fun q hq => con_X12_refuse h_a0 hq) dX12_shades_10 (fun q2 _ => ?_)
    exact c_iret G hQ dX12_shades_13
  · skip
    refine c_aload_n G dX12_shades_14 rfl 0 rfl ?_
    refine c_iconst G (nI 0) dX12_shades_15 kI_0 ?_
    refine c_callV_V (d := 10) (rest := []) G [.int (nI 0)] yv_X12_seeks ml_X12_462 (by omega) (by decide) rfl rfl (Nat.le_of_ble_eq_true rfl) h_a0 (fun q hq => con_X12_seeks h_a0 hq) dX12_shades_16 (fun M1 _ => ?_)
    refine c_aload_n G dX12_shades_19 rfl 0 rfl ?_
    refine c_getI G fl_X12_423 h_a0 rfl dX12_shades_20 ?_
    refine c_if_eq (tgt := 35) G dX12_shades_23 (by decide) (fun _ => ?_) (fun _ => ?_)
    · skip
      refine c_aload_n G dX12_shades_35 rfl 0 rfl ?_
      refine c_aload_n G dX12_shades_36 rfl 0 rfl ?_
      refine c_getF G fl_X12_66 h_a0 rfl dX12_shades_37 ?_
      refine c_iload_n G dX12_shades_40 rfl 1 rfl ?_
      refine c_iald G (lf h_a0 36 rfl) dX12_shades_41 (fun v1 _ => ?_)
      refine c_callV_I (d := 0) (rest := []) G [.int v1] yv_X12_gives ml_X12_328 (by omega) (by decide) rfl rfl (Nat.le_of_ble_eq_true rfl) h_a0 (fun q hq => con_X12_gives h_a0 hq) dX12_shades_42 (fun q3 _ => ?_)
      exact c_iret G hQ dX12_shades_45
    · skip
      refine c_aload_n G dX12_shades_26 rfl 0 rfl ?_
      refine c_bipush G (nI 6) dX12_shades_27 kB_6 ?_
      refine c_callV_I (d := 0) (rest := []) G [.int (nI 6)] yv_X12_refuse ml_X12_305 (by omega) (by decide) rfl rfl (Nat.le_of_ble_eq_true rfl) h_a0 (fun q hq => con_X12_refuse h_a0 hq) dX12_shades_29 (fun q4 _ => ?_)
      refine c_goto (tgt := 45) G dX12_shades_32 (by decide) ?_
      exact c_iret G hQ dX12_shades_45
set_option maxHeartbeats 4000000 in
set_option maxRecDepth 100000 in
theorem cl_X12_readNode_170 {w : Wp} {rc : Nat → Int32 → Int32 → Int32 → Mm → Option (Int32 × Mm)} {X : Cx} {Q : State → Prop} {ρ : Int32 × Mm} {dd : Nat} (G : Good w X cX12_readNode 7 RX12 (some .boolean) (dd + 1)) (hQ : Q = MQ (xL X) (Qd w (encI ρ)) (xA X) (xS X) (xk X) (xs X) (Aw w)) (hdd : 3 ≤ dd) (hrc : ∀ (b0 : Nat) (b1 : Int32) (b2 : Int32) (b3 : Int32) (M : Mm) (q : Int32 × Mm), lay b0 = (5, 12) → rc b0 b1 b2 b3 M = some q → Con w dd yX12_readNode cX12_readNode 7 (some .boolean) [.ref (wB w + pz (b0)), .int b1, .int b2, .int b3] M (encI q)) (kE239 : Mm → Option (Int32 × Mm)) {a0 : Nat} {q3 : Int32} {N : Nat} {a2 : Int32} {l5_1 : Int32} (h_a0 : lay a0 = (5, 12)) (hE239 : ∀ (Mz : Mm), Cov w X Q ρ some 7 239 [(0, .ref (wB w + pz (a0))), (4, .int q3)] [] Mz (kE239 Mz)) : ∀ (n : Nat) (l6_1 : Int32) (M7 : Mm), Cov w X Q ρ some 7 170 [(0, .ref (wB w + pz (a0))), (2, .int a2), (4, .int q3), (5, .int l5_1), (6, .int l6_1)] [] M7 (L_X12_readNode_170 kE239 a0 q3 N rc a2 l5_1 n l6_1 M7) := by
  intro n
  induction n with
  | zero => intro l6_1 M7; exact c_none
  | succ n ih =>
    intro l6_1 M7
    rw [L_X12_readNode_170]
    refine c_iload G dX12_readNode_170 4 rfl ?_
    refine c_aload_n G dX12_readNode_172 rfl 0 rfl ?_
    refine c_getF G fl_X12_13 h_a0 rfl dX12_readNode_173 ?_
    refine c_bipush G (nI 32) dX12_readNode_176 kB_32 ?_
    refine c_iload G dX12_readNode_178 2 rfl ?_
    refine c_iadd G dX12_readNode_180 ?_
    refine c_iald G (lf h_a0 1 rfl) dX12_readNode_181 (fun v2 _ => ?_)
    refine c_icmp_ge (tgt := 239) G dX12_readNode_182 (by decide) (fun _ => ?_) (fun _ => ?_)
    · skip
      exact c_weak _ [0, 2] rfl (hE239 M7)
    · skip
      refine c_aload_n G dX12_readNode_185 rfl 0 rfl ?_
      refine c_iload G dX12_readNode_186 4 rfl ?_
      refine c_bj (ej := fun (p198 : Int32) => [(0, .ref (wB w + pz (a0))), (2, .int a2), (4, .int q3), (5, .int l5_1), (6, .int l6_1)]) (sj := fun p198 => [.int p198, .ref (wB w + pz (a0))]) (mj := fun p198 => M7) (pj := 198) (fun p198 => ?_) (fun F hJ198 => ?_)
      · skip
        refine c_callV_I (d := 2) (rest := []) G [.int p198] yv_X12_eats ml_X12_243 (by omega) (by decide) rfl rfl (Nat.le_of_ble_eq_true rfl) h_a0 (fun q hq => con_X12_eats h_a0 hq) dX12_readNode_198 (fun q6 _ => ?_)
        refine c_if_eq (tgt := 231) G dX12_readNode_201 (by decide) (fun _ => ?_) (fun _ => ?_)
        · skip
          refine c_iconst G (nI 0) dX12_readNode_231 kI_0 ?_
          exact c_zret G hQ dX12_readNode_232
        · skip
          refine c_aload_n G dX12_readNode_204 rfl 0 rfl ?_
          refine c_aload_n G dX12_readNode_205 rfl 0 rfl ?_
          refine c_getF G fl_X12_13 h_a0 rfl dX12_readNode_206 ?_
          refine c_bipush G (nI 44) dX12_readNode_209 kB_44 ?_
          refine c_iconst G (nI 3) dX12_readNode_211 kI_3 ?_
          refine c_iload G dX12_readNode_212 2 rfl ?_
          refine c_imul G dX12_readNode_214 ?_
          refine c_iadd G dX12_readNode_215 ?_
          refine c_iload G dX12_readNode_216 4 rfl ?_
          refine c_iadd G dX12_readNode_218 ?_
          refine c_iald G (lf h_a0 1 rfl) dX12_readNode_219 (fun v3 _ => ?_)
          refine c_iload_n G dX12_readNode_220 rfl 1 rfl ?_
          refine c_iconst G (nI 1) dX12_readNode_221 kI_1 ?_
          refine c_iadd G dX12_readNode_222 ?_
          refine c_iload G dX12_readNode_223 3 rfl ?_
          refine c_callV_I (d := dd) (rest := []) G [.int v3, .int (a2 + (nI 1)), .int l5_1] yv_X12_readNode ml_X12_472 (by omega) (by decide) rfl rfl (Nat.le_of_ble_eq_true rfl) h_a0 (fun q hq => hrc a0 v3 (a2 + (nI 1)) l5_1 q6.2 q h_a0 hq) dX12_readNode_225 (fun q7 _ => ?_)
          refine c_if_ne (tgt := 233) G dX12_readNode_228 (by decide) (fun _ => ?_) (fun _ => ?_)
          · skip
            refine c_iconst G (nI 0) dX12_readNode_231 kI_0 ?_
            exact c_zret G hQ dX12_readNode_232
          · skip
            refine c_iinc G (fun y__ => [(6, .int y__), (0, .ref (wB w + pz (a0))), (2, .int a2), (4, .int q3), (5, .int l5_1)]) dX12_readNode_233 4 rfl kI_1 (by decide) (fun _ => rfl) (fun l6_2 _ => ?_)
            refine c_goto (tgt := 170) G dX12_readNode_236 (by decide) ?_
            exact c_weak _ [1, 2, 3, 4, 0] rfl (ih l6_2 q7.2)
      · skip
        refine c_if_ne (tgt := 196) G dX12_readNode_188 (by decide) (fun _ => ?_) (fun _ => ?_)
        · skip
          refine c_bipush G (nI 40) dX12_readNode_191 kB_40 ?_
          refine c_goto (tgt := 198) G dX12_readNode_193 (by decide) ?_
          exact c_weak _ [0, 1, 2, 3, 4] rfl (hJ198 (nI 40))
        · skip
          refine c_bipush G (nI 44) dX12_readNode_196 kB_44 ?_
          exact c_weak _ [0, 1, 2, 3, 4] rfl (hJ198 (nI 44))
set_option maxHeartbeats 4000000 in
set_option maxRecDepth 100000 in
theorem conB_X12_readNode {w : Wp} {N : Nat} {dd : Nat} {rc : Nat → Int32 → Int32 → Int32 → Mm → Option (Int32 × Mm)} {a0 : Nat} {a1 : Int32} {a2 : Int32} {a3 : Int32} {M : Mm} {q : Int32 × Mm} (hdd : 3 ≤ dd) (hrc : ∀ (b0 : Nat) (b1 : Int32) (b2 : Int32) (b3 : Int32) (M : Mm) (q : Int32 × Mm), lay b0 = (5, 12) → rc b0 b1 b2 b3 M = some q → Con w dd yX12_readNode cX12_readNode 7 (some .boolean) [.ref (wB w + pz (b0)), .int b1, .int b2, .int b3] M (encI q)) (h_a0 : lay a0 = (5, 12)) (hq : DB_X12_readNode N rc a0 a1 a2 a3 M = some q) : Con w (dd + 1) yX12_readNode cX12_readNode 7 (some .boolean) [.ref (wB w + pz (a0)), .int a1, .int a2, .int a3] M (encI q) := by
  refine Con.of encI q _ hq (by decide) (Nat.le_of_ble_eq_true rfl) ?_
  intro X G Q hQ
  have G : Good w X cX12_readNode 7 RX12 (some .boolean) (dd + 1) := G
  refine c_weak [(0, .ref (wB w + pz (a0))), (1, .int a1), (2, .int a2), (3, .int a3)] [0, 1, 2, 3] rfl ?_
  rw [DB_X12_readNode]
  refine c_aload_n G dX12_readNode_0 rfl 0 rfl ?_
  refine c_callV_PI (d := 2) (rest := []) G [] yv_X12_isName ml_X12_224 (by omega) (by decide) rfl rfl (Nat.le_of_ble_eq_true rfl) h_a0 (fun q hq => con_X12_isName h_a0 hq) dX12_readNode_1 (fun q1 _ => ?_)
  refine c_if_ne (tgt := 13) G dX12_readNode_4 (by decide) (fun _ => ?_) (fun _ => ?_)
  · skip
    refine c_aload_n G dX12_readNode_7 rfl 0 rfl ?_
    refine c_iconst G (nI 2) dX12_readNode_8 kI_2 ?_
    refine c_callV_I (d := 0) (rest := []) G [.int (nI 2)] yv_X12_bad ml_X12_218 (by omega) (by decide) rfl rfl (Nat.le_of_ble_eq_true rfl) h_a0 (fun q hq => con_X12_bad h_a0 hq) dX12_readNode_9 (fun q2 _ => ?_)
    exact c_zret G hQ dX12_readNode_12
  · skip
    refine c_aload_n G dX12_readNode_13 rfl 0 rfl ?_
    refine c_getF G fl_X12_19 h_a0 rfl dX12_readNode_14 ?_
    refine c_bipush G (nI 8) dX12_readNode_17 kB_8 ?_
    refine c_aload_n G dX12_readNode_19 rfl 0 rfl ?_
    refine c_getF G fl_X12_13 h_a0 rfl dX12_readNode_20 ?_
    refine c_iconst G (nI 1) dX12_readNode_23 kI_1 ?_
    refine c_iald G (lf h_a0 1 rfl) dX12_readNode_24 (fun v1 _ => ?_)
    refine c_aload_n G dX12_readNode_25 rfl 0 rfl ?_
    refine c_getJ G fl_X12_181 h_a0 rfl dX12_readNode_26 ?_
    refine c_callS_PI (d := 0) (rest := []) G [.ref (wB w + pz ((a0 + 4))), .int (nI 8), .int v1, .long (M.2.1 a0 18)] ys_X12_findIn ml_X12_232 (by omega) (by decide) rfl rfl (Nat.le_of_ble_eq_true rfl) (fun q hq => con_X12_findIn (ll (lf h_a0 3 rfl)) hq) dX12_readNode_29 (fun q3 _ => ?_)
    refine c_istore G [(4, .int q3), (0, .ref (wB w + pz (a0))), (1, .int a1), (2, .int a2), (3, .int a3)] dX12_readNode_32 (by decide) rfl ?_
    refine c_iload G dX12_readNode_34 0 rfl ?_
    refine c_iconst G m1 dX12_readNode_36 kI_m1 ?_
    refine c_icmp_ne (tgt := 46) G dX12_readNode_37 (by decide) (fun _ => ?_) (fun _ => ?_)
    · skip
      refine c_aload_n G dX12_readNode_40 rfl 1 rfl ?_
      refine c_iconst G (nI 3) dX12_readNode_41 kI_3 ?_
      refine c_callV_I (d := 0) (rest := []) G [.int (nI 3)] yv_X12_bad ml_X12_218 (by omega) (by decide) rfl rfl (Nat.le_of_ble_eq_true rfl) h_a0 (fun q hq => con_X12_bad h_a0 hq) dX12_readNode_42 (fun q4 _ => ?_)
      exact c_zret G hQ dX12_readNode_45
    · skip
      refine c_aload_n G dX12_readNode_46 rfl 1 rfl ?_
      refine c_getI G fl_X12_466 h_a0 rfl dX12_readNode_47 ?_
      refine c_aload_n G dX12_readNode_50 rfl 1 rfl ?_
      refine c_getI G fl_X12_469 h_a0 rfl dX12_readNode_51 ?_
      refine c_iadd G dX12_readNode_54 ?_
      refine c_bipush G (nI 40) dX12_readNode_55 kB_40 ?_
      refine c_icmp_eq (tgt := 66) G dX12_readNode_57 (by decide) (fun _ => ?_) (fun _ => ?_)
      · skip
        refine c_aload_n G dX12_readNode_66 rfl 1 rfl ?_
        refine c_bipush G (nI 6) dX12_readNode_67 kB_6 ?_
        refine c_callV_I (d := 0) (rest := []) G [.int (nI 6)] yv_X12_bad ml_X12_218 (by omega) (by decide) rfl rfl (Nat.le_of_ble_eq_true rfl) h_a0 (fun q hq => con_X12_bad h_a0 hq) dX12_readNode_69 (fun q5 _ => ?_)
        exact c_zret G hQ dX12_readNode_72
      · skip
        refine c_iload_n G dX12_readNode_60 rfl 3 rfl ?_
        refine c_bipush G (nI 12) dX12_readNode_61 kB_12 ?_
        refine c_icmp_le (tgt := 73) G dX12_readNode_63 (by decide) (fun _ => ?_) (fun _ => ?_)
        · skip
          refine c_iload_n G dX12_readNode_73 rfl 2 rfl ?_
          refine c_iconst G m1 dX12_readNode_74 kI_m1 ?_
          refine c_jn (ej := fun (p99 : Unit) => [(0, .ref (wB w + pz (a0))), (2, .int a2), (3, .int a3), (4, .int q3)]) (sj := fun p99 => []) (mj := fun p99 => M) (pj := 99) (fun p99 => ?_) (fun J2 hJ99 => ?_)
          · skip
            refine c_aload_n G dX12_readNode_99 rfl 0 rfl ?_
            refine c_getI G fl_X12_469 h_a0 rfl dX12_readNode_100 ?_
            refine c_let (fun l5_1 _ => ?_)
            refine c_istore G [(5, .int l5_1), (0, .ref (wB w + pz (a0))), (2, .int a2), (3, .int a3), (4, .int q3)] dX12_readNode_103 (by decide) rfl ?_
            refine c_aload_n G dX12_readNode_105 rfl 1 rfl ?_
            refine c_dup G dX12_readNode_106 rfl ?_
            refine c_getI G fl_X12_469 h_a0 rfl dX12_readNode_107 ?_
            refine c_iconst G (nI 1) dX12_readNode_110 kI_1 ?_
            refine c_iadd G dX12_readNode_111 ?_
            refine c_putI G fp_X12_469 h_a0 rfl dX12_readNode_112 (fun M1 _ => ?_)
            refine c_aload_n G dX12_readNode_115 rfl 1 rfl ?_
            refine c_getF G fl_X12_84 h_a0 rfl dX12_readNode_116 ?_
            refine c_iload G dX12_readNode_119 0 rfl ?_
            refine c_iload G dX12_readNode_121 4 rfl ?_
            refine c_iast G (lf h_a0 46 rfl) dX12_readNode_123 (fun M2 _ => ?_)
            refine c_aload_n G dX12_readNode_124 rfl 1 rfl ?_
            refine c_getF G fl_X12_90 h_a0 rfl dX12_readNode_125 ?_
            refine c_iload G dX12_readNode_128 0 rfl ?_
            refine c_iload_n G dX12_readNode_130 rfl 3 rfl ?_
            refine c_iast G (lf h_a0 48 rfl) dX12_readNode_131 (fun M3 _ => ?_)
            refine c_aload_n G dX12_readNode_132 rfl 1 rfl ?_
            refine c_getF G fl_X12_87 h_a0 rfl dX12_readNode_133 ?_
            refine c_iload G dX12_readNode_136 0 rfl ?_
            refine c_iconst G (nI 0) dX12_readNode_138 kI_0 ?_
            refine c_iast G (lf h_a0 47 rfl) dX12_readNode_139 (fun M4 _ => ?_)
            refine c_aload_n G dX12_readNode_140 rfl 1 rfl ?_
            refine c_callV_V (d := 1) (rest := []) G [] yv_X12_go ml_X12_221 (by omega) (by decide) rfl rfl (Nat.le_of_ble_eq_true rfl) h_a0 (fun q hq => con_X12_go h_a0 hq) dX12_readNode_141 (fun M5 _ => ?_)
            refine c_aload_n G dX12_readNode_144 rfl 1 rfl ?_
            refine c_getI G fl_X12_174 h_a0 rfl dX12_readNode_145 ?_
            refine c_iconst G (nI 3) dX12_readNode_148 kI_3 ?_
            refine c_bj (ej := fun (p167 : Mm) => [(0, .ref (wB w + pz (a0))), (2, .int a2), (4, .int q3), (5, .int l5_1)]) (sj := fun p167 => []) (mj := fun p167 => p167) (pj := 167) (fun p167 => ?_) (fun F hJ167 => ?_)
            · skip
              refine c_iconst G (nI 0) dX12_readNode_167 kI_0 ?_
              refine c_istore G [(6, .int (nI 0)), (0, .ref (wB w + pz (a0))), (2, .int a2), (4, .int q3), (5, .int l5_1)] dX12_readNode_168 (by decide) rfl ?_
              refine c_weak _ [1, 2, 3, 4, 0] rfl (cl_X12_readNode_170 G hQ hdd hrc _ h_a0 ?_ N (nI 0) p167)
              · intro M8
                refine c_aload_n G dX12_readNode_239 rfl 0 rfl ?_
                refine c_getF G fl_X12_13 h_a0 rfl dX12_readNode_240 ?_
                refine c_bipush G (nI 32) dX12_readNode_243 kB_32 ?_
                refine c_iload G dX12_readNode_245 1 rfl ?_
                refine c_iadd G dX12_readNode_247 ?_
                refine c_iald G (lf h_a0 1 rfl) dX12_readNode_248 (fun v4 _ => ?_)
                refine c_jn (ej := fun (p261 : Mm) => []) (sj := fun p261 => []) (mj := fun p261 => p261) (pj := 261) (fun p261 => ?_) (fun J1 hJ261 => ?_)
                · skip
                  refine c_iconst G (nI 1) dX12_readNode_261 kI_1 ?_
                  refine c_goto (tgt := 266) G dX12_readNode_262 (by decide) ?_
                  exact c_zret G hQ dX12_readNode_266
                · skip
                  refine c_if_eq (tgt := 261) G dX12_readNode_249 (by decide) (fun _ => ?_) (fun _ => ?_)
                  · skip
                    exact c_weak _ [] rfl (hJ261 M8)
                  · skip
                    refine c_aload_n G dX12_readNode_252 rfl 0 rfl ?_
                    refine c_bipush G (nI 41) dX12_readNode_253 kB_41 ?_
                    refine c_callV_I (d := 2) (rest := []) G [.int (nI 41)] yv_X12_eats ml_X12_243 (by omega) (by decide) rfl rfl (Nat.le_of_ble_eq_true rfl) h_a0 (fun q hq => con_X12_eats h_a0 hq) dX12_readNode_255 (fun q8 _ => ?_)
                    refine c_if_eq (tgt := 265) G dX12_readNode_258 (by decide) (fun _ => ?_) (fun _ => ?_)
                    · skip
                      refine c_iconst G (nI 0) dX12_readNode_265 kI_0 ?_
                      exact c_zret G hQ dX12_readNode_266
                    · skip
                      exact c_weak _ [] rfl (hJ261 q8.2)
            · skip
              refine c_icmp_ne (tgt := 167) G dX12_readNode_149 (by decide) (fun _ => ?_) (fun _ => ?_)
              · skip
                refine c_aload_n G dX12_readNode_152 rfl 1 rfl ?_
                refine c_getF G fl_X12_87 h_a0 rfl dX12_readNode_153 ?_
                refine c_iload G dX12_readNode_156 0 rfl ?_
                refine c_aload_n G dX12_readNode_158 rfl 1 rfl ?_
                refine c_getI G fl_X12_192 h_a0 rfl dX12_readNode_159 ?_
                refine c_iast G (lf h_a0 47 rfl) dX12_readNode_162 (fun M10 _ => ?_)
                refine c_aload_n G dX12_readNode_163 rfl 1 rfl ?_
                refine c_callV_V (d := 1) (rest := []) G [] yv_X12_go ml_X12_221 (by omega) (by decide) rfl rfl (Nat.le_of_ble_eq_true rfl) h_a0 (fun q hq => con_X12_go h_a0 hq) dX12_readNode_164 (fun M11 _ => ?_)
                exact c_weak _ [1, 2, 4, 0] rfl (hJ167 M11)
              · skip
                exact c_weak _ [1, 2, 4, 0] rfl (hJ167 M5)
          · skip
            refine c_icmp_eq (tgt := 99) G dX12_readNode_75 (by decide) (fun _ => ?_) (fun _ => ?_)
            · skip
              exact c_weak _ [1, 3, 4, 0] rfl (hJ99 ())
            · skip
              refine c_aload_n G dX12_readNode_78 rfl 1 rfl ?_
              refine c_getF G fl_X12_13 h_a0 rfl dX12_readNode_79 ?_
              refine c_bipush G (nI 20) dX12_readNode_82 kB_20 ?_
              refine c_iload G dX12_readNode_84 0 rfl ?_
              refine c_iadd G dX12_readNode_86 ?_
              refine c_iald G (lf h_a0 1 rfl) dX12_readNode_87 (fun v5 _ => ?_)
              refine c_iload_n G dX12_readNode_88 rfl 2 rfl ?_
              refine c_icmp_eq (tgt := 99) G dX12_readNode_89 (by decide) (fun _ => ?_) (fun _ => ?_)
              · skip
                exact c_weak _ [1, 3, 4, 0] rfl (hJ99 ())
              · skip
                refine c_aload_n G dX12_readNode_92 rfl 1 rfl ?_
                refine c_bipush G (nI 7) dX12_readNode_93 kB_7 ?_
                refine c_callV_I (d := 0) (rest := []) G [.int (nI 7)] yv_X12_bad ml_X12_218 (by omega) (by decide) rfl rfl (Nat.le_of_ble_eq_true rfl) h_a0 (fun q hq => con_X12_bad h_a0 hq) dX12_readNode_95 (fun q9 _ => ?_)
                exact c_zret G hQ dX12_readNode_98
        · skip
          refine c_aload_n G dX12_readNode_66 rfl 1 rfl ?_
          refine c_bipush G (nI 6) dX12_readNode_67 kB_6 ?_
          refine c_callV_I (d := 0) (rest := []) G [.int (nI 6)] yv_X12_bad ml_X12_218 (by omega) (by decide) rfl rfl (Nat.le_of_ble_eq_true rfl) h_a0 (fun q hq => con_X12_bad h_a0 hq) dX12_readNode_69 (fun q10 _ => ?_)
          exact c_zret G hQ dX12_readNode_72
theorem con_X12_readNode_f {w : Wp} {N : Nat} : ∀ (fu : Nat) (a0 : Nat) (a1 : Int32) (a2 : Int32) (a3 : Int32) (M : Mm) (q : Int32 × Mm), lay a0 = (5, 12) → D_X12_readNode N fu a0 a1 a2 a3 M = some q → Con w (3 + 1 * fu) yX12_readNode cX12_readNode 7 (some .boolean) [.ref (wB w + pz (a0)), .int a1, .int a2, .int a3] M (encI q) := by
  intro fu
  induction fu with
  | zero => intro a0 a1 a2 a3 M q h_a0 h; cases h
  | succ fu ih =>
    intro a0 a1 a2 a3 M q h_a0 h
    exact conB_X12_readNode (dd := 3 + 1 * fu) (by omega) (fun a0 a1 a2 a3 M q h_a0 h => ih a0 a1 a2 a3 M q h_a0 h) h_a0 h
theorem con_X12_readNode {w : Wp} {N : Nat} {a0 : Nat} {a1 : Int32} {a2 : Int32} {a3 : Int32} {M : Mm} {q : Int32 × Mm} (h_a0 : lay a0 = (5, 12)) (hq : D_X12_readNode N 14 a0 a1 a2 a3 M = some q) : Con w 17 yX12_readNode cX12_readNode 7 (some .boolean) [.ref (wB w + pz (a0)), .int a1, .int a2, .int a3] M (encI q) := con_X12_readNode_f 14 a0 a1 a2 a3 M q h_a0 hq
set_option maxHeartbeats 4000000 in
set_option maxRecDepth 100000 in
theorem con_X12_readTree {w : Wp} {N : Nat} {a0 : Nat} {a1 : Int32} {a2 : Int32} {a3 : Int32} {M : Mm} {q : Int32 × Mm} (h_a0 : lay a0 = (5, 12)) (hq : D_X12_readTree N a0 a1 a2 a3 M = some q) : Con w 18 yX12_readTree cX12_readTree 4 (some .boolean) [.ref (wB w + pz (a0)), .int a1, .int a2, .int a3] M (encI q) := by
  refine Con.of encI q _ hq (by decide) (Nat.le_of_ble_eq_true rfl) ?_
  intro X G Q hQ
  have G : Good w X cX12_readTree 4 RX12 (some .boolean) 18 := G
  refine c_weak [(0, .ref (wB w + pz (a0))), (1, .int a1), (2, .int a2), (3, .int a3)] [0, 1, 2, 3] rfl ?_
  rw [D_X12_readTree]
  refine c_aload_n G dX12_readTree_0 rfl 0 rfl ?_
  refine c_iload_n G dX12_readTree_1 rfl 1 rfl ?_
  refine c_callV_V (d := 2) (rest := []) G [.int a1] yv_X12_begins ml_X12_308 (by omega) (by decide) rfl rfl (Nat.le_of_ble_eq_true rfl) h_a0 (fun q hq => con_X12_begins h_a0 hq) dX12_readTree_2 (fun M1 _ => ?_)
  refine c_aload_n G dX12_readTree_5 rfl 0 rfl ?_
  refine c_iconst G (nI 0) dX12_readTree_6 kI_0 ?_
  refine c_putI G fp_X12_469 h_a0 rfl dX12_readTree_7 (fun M2 _ => ?_)
  refine c_aload_n G dX12_readTree_10 rfl 0 rfl ?_
  refine c_iload_n G dX12_readTree_11 rfl 2 rfl ?_
  refine c_iload_n G dX12_readTree_12 rfl 3 rfl ?_
  refine c_iconst G m1 dX12_readTree_13 kI_m1 ?_
  refine c_callV_I (d := 17) (rest := []) G [.int a2, .int a3, .int m1] yv_X12_readNode ml_X12_472 (by omega) (by decide) rfl rfl (Nat.le_of_ble_eq_true rfl) h_a0 (fun q hq => con_X12_readNode h_a0 hq) dX12_readTree_14 (fun q1 _ => ?_)
  refine c_jn (ej := fun (p39 : Mm) => []) (sj := fun p39 => []) (mj := fun p39 => p39) (pj := 39) (fun p39 => ?_) (fun J1 hJ39 => ?_)
  · skip
    refine c_iconst G (nI 0) dX12_readTree_39 kI_0 ?_
    exact c_zret G hQ dX12_readTree_40
  · skip
    refine c_if_eq (tgt := 39) G dX12_readTree_17 (by decide) (fun _ => ?_) (fun _ => ?_)
    · skip
      exact c_weak _ [] rfl (hJ39 q1.2)
    · skip
      refine c_aload_n G dX12_readTree_20 rfl 0 rfl ?_
      refine c_getI G fl_X12_174 h_a0 rfl dX12_readTree_21 ?_
      refine c_jn (ej := fun (p35 : Mm) => []) (sj := fun p35 => []) (mj := fun p35 => p35) (pj := 35) (fun p35 => ?_) (fun J2 hJ35 => ?_)
      · skip
        refine c_iconst G (nI 1) dX12_readTree_35 kI_1 ?_
        refine c_goto (tgt := 40) G dX12_readTree_36 (by decide) ?_
        exact c_zret G hQ dX12_readTree_40
      · skip
        refine c_if_eq (tgt := 35) G dX12_readTree_24 (by decide) (fun _ => ?_) (fun _ => ?_)
        · skip
          exact c_weak _ [] rfl (hJ35 q1.2)
        · skip
          refine c_aload_n G dX12_readTree_27 rfl 0 rfl ?_
          refine c_iconst G (nI 2) dX12_readTree_28 kI_2 ?_
          refine c_callV_I (d := 0) (rest := []) G [.int (nI 2)] yv_X12_bad ml_X12_218 (by omega) (by decide) rfl rfl (Nat.le_of_ble_eq_true rfl) h_a0 (fun q hq => con_X12_bad h_a0 hq) dX12_readTree_29 (fun q2 _ => ?_)
          refine c_if_eq (tgt := 39) G dX12_readTree_32 (by decide) (fun _ => ?_) (fun _ => ?_)
          · skip
            exact c_weak _ [] rfl (hJ39 q2.2)
          · skip
            exact c_weak _ [] rfl (hJ35 q2.2)
set_option maxHeartbeats 4000000 in
set_option maxRecDepth 100000 in
theorem con_X12_isNode {w : Wp} {N : Nat} {a0 : Nat} {a1 : Int32} {M : Mm} {q : Int32} (h_a0 : lay a0 = (5, 12)) (hq : D_X12_isNode N a0 a1 M = some q) : Con w 1 yX12_isNode cX12_isNode 2 (some .boolean) [.ref (wB w + pz (a0)), .int a1] M ((encPI M) q) := by
  refine Con.of (encPI M) q _ hq (by decide) (Nat.le_of_ble_eq_true rfl) ?_
  intro X G Q hQ
  have G : Good w X cX12_isNode 2 RX12 (some .boolean) 1 := G
  refine c_weak [(0, .ref (wB w + pz (a0))), (1, .int a1)] [0, 1] rfl ?_
  rw [D_X12_isNode]
  refine c_iload_n G dX12_isNode_0 rfl 1 rfl ?_
  refine c_iconst G (nI 0) dX12_isNode_1 kI_0 ?_
  refine c_aload_n G dX12_isNode_2 rfl 0 rfl ?_
  refine c_getI G fl_X12_322 h_a0 rfl dX12_isNode_3 ?_
  refine c_iconst G (nI 1) dX12_isNode_6 kI_1 ?_
  refine c_isub G dX12_isNode_7 ?_
  refine c_callS_PI (d := 0) (rest := []) G [.int a1, .int (nI 0), .int ((M.1 a0 50) - (nI 1))] ys_X12_isFrom ml_X12_246 (by omega) (by decide) rfl rfl (Nat.le_of_ble_eq_true rfl) (fun q hq => con_X12_isFrom hq) dX12_isNode_8 (fun q1 _ => ?_)
  exact c_zretP G hQ dX12_isNode_11
set_option maxHeartbeats 4000000 in
set_option maxRecDepth 100000 in
theorem con_X12_symbolOf {w : Wp} {N : Nat} {a0 : Nat} {a1 : Int32} {M : Mm} {q : Int32} (h_a0 : lay a0 = (5, 12)) (hq : D_X12_symbolOf N a0 a1 M = some q) : Con w 0 yX12_symbolOf cX12_symbolOf 2 (some .int) [.ref (wB w + pz (a0)), .int a1] M ((encPI M) q) := by
  refine Con.of (encPI M) q _ hq (by decide) (Nat.le_of_ble_eq_true rfl) ?_
  intro X G Q hQ
  have G : Good w X cX12_symbolOf 2 RX12 (some .int) 0 := G
  refine c_weak [(0, .ref (wB w + pz (a0))), (1, .int a1)] [0, 1] rfl ?_
  rw [D_X12_symbolOf]
  refine c_aload_n G dX12_symbolOf_0 rfl 0 rfl ?_
  refine c_getF G fl_X12_13 h_a0 rfl dX12_symbolOf_1 ?_
  refine c_bipush G (nI 20) dX12_symbolOf_4 kB_20 ?_
  refine c_aload_n G dX12_symbolOf_6 rfl 0 rfl ?_
  refine c_getF G fl_X12_75 h_a0 rfl dX12_symbolOf_7 ?_
  refine c_iload_n G dX12_symbolOf_10 rfl 1 rfl ?_
  refine c_iald G (lf h_a0 43 rfl) dX12_symbolOf_11 (fun v1 _ => ?_)
  refine c_iadd G dX12_symbolOf_12 ?_
  refine c_iald G (lf h_a0 1 rfl) dX12_symbolOf_13 (fun v2 _ => ?_)
  exact c_iretP G hQ dX12_symbolOf_14
set_option maxHeartbeats 4000000 in
set_option maxRecDepth 100000 in
theorem con_X12_isInstance {w : Wp} {N : Nat} {a0 : Nat} {a1 : Int32} {a2 : Int32} {M : Mm} {q : Int32} (h_a0 : lay a0 = (5, 12)) (hq : D_X12_isInstance N a0 a1 a2 M = some q) : Con w 2 yX12_isInstance cX12_isInstance 3 (some .boolean) [.ref (wB w + pz (a0)), .int a1, .int a2] M ((encPI M) q) := by
  refine Con.of (encPI M) q _ hq (by decide) (Nat.le_of_ble_eq_true rfl) ?_
  intro X G Q hQ
  have G : Good w X cX12_isInstance 3 RX12 (some .boolean) 2 := G
  refine c_weak [(0, .ref (wB w + pz (a0))), (1, .int a1), (2, .int a2)] [0, 1, 2] rfl ?_
  rw [D_X12_isInstance]
  refine c_aload_n G dX12_isInstance_0 rfl 0 rfl ?_
  refine c_iload_n G dX12_isInstance_1 rfl 1 rfl ?_
  refine c_callV_PI (d := 1) (rest := []) G [.int a1] yv_X12_isNode ml_X12_484 (by omega) (by decide) rfl rfl (Nat.le_of_ble_eq_true rfl) h_a0 (fun q hq => con_X12_isNode h_a0 hq) dX12_isInstance_2 (fun q1 _ => ?_)
  refine c_jn (ej := fun (p31 : Unit) => []) (sj := fun p31 => []) (mj := fun p31 => M) (pj := 31) (fun p31 => ?_) (fun J1 hJ31 => ?_)
  · skip
    refine c_iconst G (nI 0) dX12_isInstance_31 kI_0 ?_
    exact c_zretP G hQ dX12_isInstance_32
  · skip
    refine c_if_eq (tgt := 31) G dX12_isInstance_5 (by decide) (fun _ => ?_) (fun _ => ?_)
    · skip
      exact c_weak _ [] rfl (hJ31 ())
    · skip
      refine c_iload_n G dX12_isInstance_8 rfl 2 rfl ?_
      refine c_iconst G (nI 0) dX12_isInstance_9 kI_0 ?_
      refine c_aload_n G dX12_isInstance_10 rfl 0 rfl ?_
      refine c_aload_n G dX12_isInstance_11 rfl 0 rfl ?_
      refine c_iload_n G dX12_isInstance_12 rfl 1 rfl ?_
      refine c_callV_PI (d := 0) (rest := [.ref (wB w + pz (a0)), .int (nI 0), .int a2]) G [.int a1] yv_X12_symbolOf ml_X12_487 (by omega) (by decide) rfl rfl (Nat.le_of_ble_eq_true rfl) h_a0 (fun q hq => con_X12_symbolOf h_a0 hq) dX12_isInstance_13 (fun q2 _ => ?_)
      refine c_callV_PI (d := 1) (rest := [.int (nI 0), .int a2]) G [.int q2] yv_X12_attributes ml_X12_334 (by omega) (by decide) rfl rfl (Nat.le_of_ble_eq_true rfl) h_a0 (fun q hq => con_X12_attributes h_a0 hq) dX12_isInstance_16 (fun q3 _ => ?_)
      refine c_iconst G (nI 1) dX12_isInstance_19 kI_1 ?_
      refine c_isub G dX12_isInstance_20 ?_
      refine c_callS_PI (d := 0) (rest := []) G [.int a2, .int (nI 0), .int (q3 - (nI 1))] ys_X12_isFrom ml_X12_246 (by omega) (by decide) rfl rfl (Nat.le_of_ble_eq_true rfl) (fun q hq => con_X12_isFrom hq) dX12_isInstance_21 (fun q4 _ => ?_)
      refine c_if_eq (tgt := 31) G dX12_isInstance_24 (by decide) (fun _ => ?_) (fun _ => ?_)
      · skip
        exact c_weak _ [] rfl (hJ31 ())
      · skip
        refine c_iconst G (nI 1) dX12_isInstance_27 kI_1 ?_
        refine c_goto (tgt := 32) G dX12_isInstance_28 (by decide) ?_
        exact c_zretP G hQ dX12_isInstance_32
set_option maxHeartbeats 4000000 in
set_option maxRecDepth 100000 in
theorem cl_X12_positionOf_11 {w : Wp} {M : Mm} {X : Cx} {Q : State → Prop} {ρ : Int32} (G : Good w X cX12_positionOf 4 RX12 (some .int) 0) (hQ : Q = MQ (xL X) (Qd w ((encPI M) ρ)) (xA X) (xS X) (xk X) (xs X) (Aw w)) {a1 : Int32} {a0 : Nat} (h_a0 : lay a0 = (5, 12)) : ∀ (n : Nat) (l2_1 : Int32) (l3_2 : Int32), Cov w X Q ρ some 4 11 [(0, .ref (wB w + pz (a0))), (1, .int a1), (2, .int l2_1), (3, .int l3_2)] [] M (L_X12_positionOf_11 a1 a0 M n l2_1 l3_2) := by
  intro n
  induction n with
  | zero => intro l2_1 l3_2; exact c_none
  | succ n ih =>
    intro l2_1 l3_2
    rw [L_X12_positionOf_11]
    refine c_iload_n G dX12_positionOf_11 rfl 3 rfl ?_
    refine c_iload_n G dX12_positionOf_12 rfl 1 rfl ?_
    refine c_icmp_ge (tgt := 45) G dX12_positionOf_13 (by decide) (fun _ => ?_) (fun _ => ?_)
    · skip
      refine c_iload_n G dX12_positionOf_45 rfl 2 rfl ?_
      exact c_iretP G hQ dX12_positionOf_46
    · skip
      refine c_iload_n G dX12_positionOf_16 rfl 2 rfl ?_
      refine c_aload_n G dX12_positionOf_17 rfl 0 rfl ?_
      refine c_getF G fl_X12_81 h_a0 rfl dX12_positionOf_18 ?_
      refine c_iload_n G dX12_positionOf_21 rfl 3 rfl ?_
      refine c_iald G (lf h_a0 45 rfl) dX12_positionOf_22 (fun v2 _ => ?_)
      refine c_aload_n G dX12_positionOf_23 rfl 0 rfl ?_
      refine c_getF G fl_X12_81 h_a0 rfl dX12_positionOf_24 ?_
      refine c_iload_n G dX12_positionOf_27 rfl 1 rfl ?_
      refine c_iald G (lf h_a0 45 rfl) dX12_positionOf_28 (fun v3 _ => ?_)
      refine c_icmp_ne (tgt := 36) G dX12_positionOf_29 (by decide) (fun _ => ?_) (fun _ => ?_)
      · skip
        refine c_iconst G (nI 1) dX12_positionOf_32 kI_1 ?_
        refine c_goto (tgt := 37) G dX12_positionOf_33 (by decide) ?_
        refine c_iadd G dX12_positionOf_37 ?_
        refine c_let (fun l2_2 _ => ?_)
        refine c_istore_n G [(2, .int l2_2), (0, .ref (wB w + pz (a0))), (1, .int a1), (3, .int l3_2)] dX12_positionOf_38 rfl (by decide) rfl ?_
        refine c_iinc G (fun y__ => [(3, .int y__), (2, .int l2_2), (0, .ref (wB w + pz (a0))), (1, .int a1)]) dX12_positionOf_39 3 rfl kI_1 (by decide) (fun _ => rfl) (fun l3_3 _ => ?_)
        refine c_goto (tgt := 11) G dX12_positionOf_42 (by decide) ?_
        exact c_weak _ [2, 3, 1, 0] rfl (ih l2_2 l3_3)
      · skip
        refine c_iconst G (nI 0) dX12_positionOf_36 kI_0 ?_
        refine c_iadd G dX12_positionOf_37 ?_
        refine c_let (fun l2_3 _ => ?_)
        refine c_istore_n G [(2, .int l2_3), (0, .ref (wB w + pz (a0))), (1, .int a1), (3, .int l3_2)] dX12_positionOf_38 rfl (by decide) rfl ?_
        refine c_iinc G (fun y__ => [(3, .int y__), (2, .int l2_3), (0, .ref (wB w + pz (a0))), (1, .int a1)]) dX12_positionOf_39 3 rfl kI_1 (by decide) (fun _ => rfl) (fun l3_4 _ => ?_)
        refine c_goto (tgt := 11) G dX12_positionOf_42 (by decide) ?_
        exact c_weak _ [2, 3, 1, 0] rfl (ih l2_3 l3_4)
set_option maxHeartbeats 4000000 in
set_option maxRecDepth 100000 in
theorem con_X12_positionOf {w : Wp} {N : Nat} {a0 : Nat} {a1 : Int32} {M : Mm} {q : Int32} (h_a0 : lay a0 = (5, 12)) (hq : D_X12_positionOf N a0 a1 M = some q) : Con w 0 yX12_positionOf cX12_positionOf 4 (some .int) [.ref (wB w + pz (a0)), .int a1] M ((encPI M) q) := by
  refine Con.of (encPI M) q _ hq (by decide) (Nat.le_of_ble_eq_true rfl) ?_
  intro X G Q hQ
  have G : Good w X cX12_positionOf 4 RX12 (some .int) 0 := G
  refine c_weak [(0, .ref (wB w + pz (a0))), (1, .int a1)] [0, 1] rfl ?_
  rw [D_X12_positionOf]
  refine c_iconst G (nI 1) dX12_positionOf_0 kI_1 ?_
  refine c_istore_n G [(2, .int (nI 1)), (0, .ref (wB w + pz (a0))), (1, .int a1)] dX12_positionOf_1 rfl (by decide) rfl ?_
  refine c_aload_n G dX12_positionOf_2 rfl 1 rfl ?_
  refine c_getF G fl_X12_81 h_a0 rfl dX12_positionOf_3 ?_
  refine c_iload_n G dX12_positionOf_6 rfl 2 rfl ?_
  refine c_iald G (lf h_a0 45 rfl) dX12_positionOf_7 (fun v1 _ => ?_)
  refine c_iconst G (nI 1) dX12_positionOf_8 kI_1 ?_
  refine c_iadd G dX12_positionOf_9 ?_
  refine c_let (fun l3_1 _ => ?_)
  refine c_istore_n G [(3, .int l3_1), (2, .int (nI 1)), (0, .ref (wB w + pz (a0))), (1, .int a1)] dX12_positionOf_10 rfl (by decide) rfl ?_
  refine c_weak _ [2, 3, 1, 0] rfl (cl_X12_positionOf_11 G hQ  h_a0 N (nI 1) l3_1)
set_option maxHeartbeats 4000000 in
set_option maxRecDepth 100000 in
theorem cl_X12_laysBases_2 {w : Wp} {X : Cx} {Q : State → Prop} {ρ : Mm} (G : Good w X cX12_laysBases 5 RX12 none 3) (hQ : Q = MQ (xL X) (Qd w (encV ρ)) (xA X) (xS X) (xk X) (xs X) (Aw w)) {N : Nat} {a0 : Nat} (h_a0 : lay a0 = (5, 12)) : ∀ (n : Nat) (l1_1 : Int32) (M1 : Mm), Cov w X Q ρ some 5 2 [(0, .ref (wB w + pz (a0))), (1, .int l1_1)] [] M1 (L_X12_laysBases_2 N a0 n l1_1 M1) := by
  intro n
  induction n with
  | zero => intro l1_1 M1; exact c_none
  | succ n ih =>
    intro l1_1 M1
    rw [L_X12_laysBases_2]
    refine c_iload_n G dX12_laysBases_2 rfl 1 rfl ?_
    refine c_sipush G (nI 320) dX12_laysBases_3 kS_320 ?_
    refine c_icmp_ge (tgt := 128) G dX12_laysBases_6 (by decide) (fun _ => ?_) (fun _ => ?_)
    · skip
      exact c_vret G hQ dX12_laysBases_128
    · skip
      refine c_iload_n G dX12_laysBases_9 rfl 1 rfl ?_
      refine c_bipush G (nI 8) dX12_laysBases_10 kB_8 ?_
      refine c_idiv G dX12_laysBases_12 (fun v1 _ => ?_)
      refine c_istore_n G [(2, .int v1), (0, .ref (wB w + pz (a0))), (1, .int l1_1)] dX12_laysBases_13 rfl (by decide) rfl ?_
      refine c_iload_n G dX12_laysBases_14 rfl 2 rfl ?_
      refine c_bipush G (nI 8) dX12_laysBases_15 kB_8 ?_
      refine c_irem G dX12_laysBases_17 (fun v2 _ => ?_)
      refine c_istore_n G [(3, .int v2), (2, .int v1), (0, .ref (wB w + pz (a0))), (1, .int l1_1)] dX12_laysBases_18 rfl (by decide) rfl ?_
      refine c_aload_n G dX12_laysBases_19 rfl 2 rfl ?_
      refine c_getF G fl_X12_126 h_a0 rfl dX12_laysBases_20 ?_
      refine c_iload_n G dX12_laysBases_23 rfl 3 rfl ?_
      refine c_aload_n G dX12_laysBases_24 rfl 2 rfl ?_
      refine c_iload_n G dX12_laysBases_25 rfl 1 rfl ?_
      refine c_iload_n G dX12_laysBases_26 rfl 0 rfl ?_
      refine c_callV_PI (d := 2) (rest := [.int l1_1, .ref (wB w + pz ((a0 + 37)))]) G [.int v1, .int v2] yv_X12_isInstance ml_X12_499 (by omega) (by decide) rfl rfl (Nat.le_of_ble_eq_true rfl) h_a0 (fun q hq => con_X12_isInstance h_a0 hq) dX12_laysBases_27 (fun q1 _ => ?_)
      refine c_zast G (lf h_a0 66 rfl) dX12_laysBases_30 (fun M2 _ => ?_)
      refine c_aload_n G dX12_laysBases_31 rfl 2 rfl ?_
      refine c_getF G fl_X12_126 h_a0 rfl dX12_laysBases_32 ?_
      refine c_iload_n G dX12_laysBases_35 rfl 3 rfl ?_
      refine c_zald G (lf h_a0 66 rfl) dX12_laysBases_36 (fun v3 _ => ?_)
      refine c_if_ne (tgt := 43) G dX12_laysBases_37 (by decide) (fun _ => ?_) (fun _ => ?_)
      · skip
        refine c_goto (tgt := 122) G dX12_laysBases_40 (by decide) ?_
        refine c_iinc G (fun y__ => [(1, .int y__), (3, .int v2), (2, .int v1), (0, .ref (wB w + pz (a0)))]) dX12_laysBases_122 3 rfl kI_1 (by decide) (fun _ => rfl) (fun l1_2 _ => ?_)
        refine c_goto (tgt := 2) G dX12_laysBases_125 (by decide) ?_
        exact c_weak _ [3, 0] rfl (ih l1_2 M2)
      · skip
        refine c_iload_n G dX12_laysBases_43 rfl 0 rfl ?_
        refine c_aload_n G dX12_laysBases_44 rfl 2 rfl ?_
        refine c_getF G fl_X12_13 h_a0 rfl dX12_laysBases_45 ?_
        refine c_iconst G (nI 4) dX12_laysBases_48 kI_4 ?_
        refine c_aload_n G dX12_laysBases_49 rfl 2 rfl ?_
        refine c_iload_n G dX12_laysBases_50 rfl 1 rfl ?_
        refine c_callV_PI (d := 0) (rest := [.int (nI 4), .ref (wB w + pz ((a0 + 2))), .int v2]) G [.int v1] yv_X12_symbolOf ml_X12_487 (by omega) (by decide) rfl rfl (Nat.le_of_ble_eq_true rfl) h_a0 (fun q hq => con_X12_symbolOf h_a0 hq) dX12_laysBases_51 (fun q2 _ => ?_)
        refine c_iadd G dX12_laysBases_54 ?_
        refine c_iald G (lf h_a0 1 rfl) dX12_laysBases_55 (fun v4 _ => ?_)
        refine c_bj (ej := fun (p64 : Int32) => [(0, .ref (wB w + pz (a0))), (1, .int l1_1), (2, .int v1), (3, .int v2)]) (sj := fun p64 => [.int p64]) (mj := fun p64 => M2) (pj := 64) (fun p64 => ?_) (fun F hJ64 => ?_)
        · skip
          refine c_istore G [(4, .int p64), (0, .ref (wB w + pz (a0))), (1, .int l1_1), (2, .int v1), (3, .int v2)] dX12_laysBases_64 (by decide) rfl ?_
          refine c_aload_n G dX12_laysBases_66 rfl 1 rfl ?_
          refine c_getF G fl_X12_96 h_a0 rfl dX12_laysBases_67 ?_
          refine c_iload_n G dX12_laysBases_70 rfl 2 rfl ?_
          refine c_iload G dX12_laysBases_71 0 rfl ?_
          refine c_bj (ej := fun (p86 : Int32) => [(0, .ref (wB w + pz (a0))), (1, .int l1_1), (2, .int v1), (3, .int v2), (4, .int p64)]) (sj := fun p86 => [.int p86, .int l1_1, .ref (wB w + pz ((a0 + 27)))]) (mj := fun p86 => M2) (pj := 86) (fun p86 => ?_) (fun F hJ86 => ?_)
          · skip
            refine c_iast G (lf h_a0 56 rfl) dX12_laysBases_86 (fun M3 _ => ?_)
            refine c_aload_n G dX12_laysBases_87 rfl 0 rfl ?_
            refine c_getF G fl_X12_99 h_a0 rfl dX12_laysBases_88 ?_
            refine c_iload_n G dX12_laysBases_91 rfl 1 rfl ?_
            refine c_iload G dX12_laysBases_92 4 rfl ?_
            refine c_bj (ej := fun (p121 : Int32) => [(0, .ref (wB w + pz (a0))), (1, .int l1_1)]) (sj := fun p121 => [.int p121, .int l1_1, .ref (wB w + pz ((a0 + 28)))]) (mj := fun p121 => M3) (pj := 121) (fun p121 => ?_) (fun F hJ121 => ?_)
            · skip
              refine c_iast G (lf h_a0 57 rfl) dX12_laysBases_121 (fun M4 _ => ?_)
              refine c_iinc G (fun y__ => [(1, .int y__), (0, .ref (wB w + pz (a0)))]) dX12_laysBases_122 1 rfl kI_1 (by decide) (fun _ => rfl) (fun l1_3 _ => ?_)
              refine c_goto (tgt := 2) G dX12_laysBases_125 (by decide) ?_
              exact c_weak _ [1, 0] rfl (ih l1_3 M4)
            · skip
              refine c_jn (ej := fun (p120 : Unit) => [(0, .ref (wB w + pz (a0))), (1, .int l1_1), (3, .int v2)]) (sj := fun p120 => [.int l1_1, .ref (wB w + pz ((a0 + 28)))]) (mj := fun p120 => M3) (pj := 120) (fun p120 => ?_) (fun J1 hJ120 => ?_)
              · skip
                refine c_iload_n G dX12_laysBases_120 rfl 2 rfl ?_
                exact c_weak _ [0, 1] rfl (hJ121 v2)
              · skip
                refine c_if_eq (tgt := 120) G dX12_laysBases_94 (by decide) (fun _ => ?_) (fun _ => ?_)
                · skip
                  exact c_weak _ [0, 1, 3] rfl (hJ120 ())
                · skip
                  refine c_aload_n G dX12_laysBases_97 rfl 0 rfl ?_
                  refine c_getF G fl_X12_81 h_a0 rfl dX12_laysBases_98 ?_
                  refine c_iload_n G dX12_laysBases_101 rfl 2 rfl ?_
                  refine c_iald G (lf h_a0 45 rfl) dX12_laysBases_102 (fun v5 _ => ?_)
                  refine c_iconst G m1 dX12_laysBases_103 kI_m1 ?_
                  refine c_icmp_eq (tgt := 120) G dX12_laysBases_104 (by decide) (fun _ => ?_) (fun _ => ?_)
                  · skip
                    exact c_weak _ [0, 1, 3] rfl (hJ120 ())
                  · skip
                    refine c_bipush G (nI 8) dX12_laysBases_107 kB_8 ?_
                    refine c_aload_n G dX12_laysBases_109 rfl 0 rfl ?_
                    refine c_iload_n G dX12_laysBases_110 rfl 2 rfl ?_
                    refine c_callV_PI (d := 0) (rest := [.int (nI 8), .int l1_1, .ref (wB w + pz ((a0 + 28)))]) G [.int v1] yv_X12_positionOf ml_X12_502 (by omega) (by decide) rfl rfl (Nat.le_of_ble_eq_true rfl) h_a0 (fun q hq => con_X12_positionOf h_a0 hq) dX12_laysBases_111 (fun q3 _ => ?_)
                    refine c_imul G dX12_laysBases_114 ?_
                    refine c_iload_n G dX12_laysBases_115 rfl 3 rfl ?_
                    refine c_iadd G dX12_laysBases_116 ?_
                    refine c_goto (tgt := 121) G dX12_laysBases_117 (by decide) ?_
                    exact c_weak _ [0, 1] rfl (hJ121 (((nI 8) * q3) + v2))
          · skip
            refine c_if_eq (tgt := 85) G dX12_laysBases_73 (by decide) (fun _ => ?_) (fun _ => ?_)
            · skip
              refine c_iload_n G dX12_laysBases_85 rfl 3 rfl ?_
              exact c_weak _ [1, 2, 3, 4, 0] rfl (hJ86 v1)
            · skip
              refine c_aload_n G dX12_laysBases_76 rfl 1 rfl ?_
              refine c_getF G fl_X12_81 h_a0 rfl dX12_laysBases_77 ?_
              refine c_iload_n G dX12_laysBases_80 rfl 3 rfl ?_
              refine c_iald G (lf h_a0 45 rfl) dX12_laysBases_81 (fun v6 _ => ?_)
              refine c_goto (tgt := 86) G dX12_laysBases_82 (by decide) ?_
              exact c_weak _ [1, 2, 3, 4, 0] rfl (hJ86 v6)
        · skip
          refine c_icmp_ge (tgt := 63) G dX12_laysBases_56 (by decide) (fun _ => ?_) (fun _ => ?_)
          · skip
            refine c_iconst G (nI 0) dX12_laysBases_63 kI_0 ?_
            exact c_weak _ [2, 3, 1, 0] rfl (hJ64 (nI 0))
          · skip
            refine c_iconst G (nI 1) dX12_laysBases_59 kI_1 ?_
            refine c_goto (tgt := 64) G dX12_laysBases_60 (by decide) ?_
            exact c_weak _ [2, 3, 1, 0] rfl (hJ64 (nI 1))
set_option maxHeartbeats 4000000 in
set_option maxRecDepth 100000 in
theorem con_X12_laysBases {w : Wp} {N : Nat} {a0 : Nat} {M : Mm} {q : Mm} (h_a0 : lay a0 = (5, 12)) (hq : D_X12_laysBases N a0 M = some q) : Con w 3 yX12_laysBases cX12_laysBases 5 none [.ref (wB w + pz (a0))] M (encV q) := by
  refine Con.of encV q _ hq (by decide) (Nat.le_of_ble_eq_true rfl) ?_
  intro X G Q hQ
  have G : Good w X cX12_laysBases 5 RX12 none 3 := G
  refine c_weak [(0, .ref (wB w + pz (a0)))] [0] rfl ?_
  rw [D_X12_laysBases]
  refine c_iconst G (nI 0) dX12_laysBases_0 kI_0 ?_
  refine c_istore_n G [(1, .int (nI 0)), (0, .ref (wB w + pz (a0)))] dX12_laysBases_1 rfl (by decide) rfl ?_
  refine c_weak _ [1, 0] rfl (cl_X12_laysBases_2 G hQ  h_a0 N (nI 0) M)
set_option maxHeartbeats 4000000 in
set_option maxRecDepth 100000 in
theorem con_X12_asksOf {w : Wp} {N : Nat} {a0 : Nat} {a1 : Int32} {M : Mm} {q : Int32} (h_a0 : lay a0 = (5, 12)) (hq : D_X12_asksOf N a0 a1 M = some q) : Con w 1 yX12_asksOf cX12_asksOf 2 (some .int) [.ref (wB w + pz (a0)), .int a1] M ((encPI M) q) := by
  refine Con.of (encPI M) q _ hq (by decide) (Nat.le_of_ble_eq_true rfl) ?_
  intro X G Q hQ
  have G : Good w X cX12_asksOf 2 RX12 (some .int) 1 := G
  refine c_weak [(0, .ref (wB w + pz (a0))), (1, .int a1)] [0, 1] rfl ?_
  rw [D_X12_asksOf]
  refine c_aload_n G dX12_asksOf_0 rfl 0 rfl ?_
  refine c_getF G fl_X12_96 h_a0 rfl dX12_asksOf_1 ?_
  refine c_iload_n G dX12_asksOf_4 rfl 1 rfl ?_
  refine c_iald G (lf h_a0 56 rfl) dX12_asksOf_5 (fun v1 _ => ?_)
  refine c_iconst G m1 dX12_asksOf_6 kI_m1 ?_
  refine c_icmp_ne (tgt := 14) G dX12_asksOf_7 (by decide) (fun _ => ?_) (fun _ => ?_)
  · skip
    refine c_iconst G (nI 0) dX12_asksOf_10 kI_0 ?_
    refine c_goto (tgt := 35) G dX12_asksOf_11 (by decide) ?_
    exact c_iretP G hQ dX12_asksOf_35
  · skip
    refine c_aload_n G dX12_asksOf_14 rfl 0 rfl ?_
    refine c_aload_n G dX12_asksOf_15 rfl 0 rfl ?_
    refine c_getF G fl_X12_75 h_a0 rfl dX12_asksOf_16 ?_
    refine c_aload_n G dX12_asksOf_19 rfl 0 rfl ?_
    refine c_getF G fl_X12_96 h_a0 rfl dX12_asksOf_20 ?_
    refine c_iload_n G dX12_asksOf_23 rfl 1 rfl ?_
    refine c_iald G (lf h_a0 56 rfl) dX12_asksOf_24 (fun v2 _ => ?_)
    refine c_iald G (lf h_a0 43 rfl) dX12_asksOf_25 (fun v3 _ => ?_)
    refine c_aload_n G dX12_asksOf_26 rfl 0 rfl ?_
    refine c_getF G fl_X12_99 h_a0 rfl dX12_asksOf_27 ?_
    refine c_iload_n G dX12_asksOf_30 rfl 1 rfl ?_
    refine c_iald G (lf h_a0 57 rfl) dX12_asksOf_31 (fun v4 _ => ?_)
    refine c_callV_PI (d := 0) (rest := []) G [.int v3, .int v4] yv_X12_asks ml_X12_340 (by omega) (by decide) rfl rfl (Nat.le_of_ble_eq_true rfl) h_a0 (fun q hq => con_X12_asks h_a0 hq) dX12_asksOf_32 (fun q1 _ => ?_)
    exact c_iretP G hQ dX12_asksOf_35
set_option maxHeartbeats 4000000 in
set_option maxRecDepth 100000 in
theorem cl_X12_child_7 {w : Wp} {M : Mm} {X : Cx} {Q : State → Prop} {ρ : Int32} (G : Good w X cX12_child 5 RX12 (some .int) 0) (hQ : Q = MQ (xL X) (Qd w ((encPI M) ρ)) (xA X) (xS X) (xk X) (xs X) (Aw w)) {a0 : Nat} {a1 : Int32} (h_a0 : lay a0 = (5, 12)) : ∀ (n : Nat) (l3_1 : Int32) (l4_2 : Int32), Cov w X Q ρ some 5 7 [(0, .ref (wB w + pz (a0))), (1, .int a1), (3, .int l3_1), (4, .int l4_2)] [] M (L_X12_child_7 M a0 a1 n l3_1 l4_2) := by
  intro n
  induction n with
  | zero => intro l3_1 l4_2; exact c_none
  | succ n ih =>
    intro l3_1 l4_2
    rw [L_X12_child_7]
    refine c_iload G dX12_child_7 3 rfl ?_
    refine c_aload_n G dX12_child_9 rfl 0 rfl ?_
    refine c_getI G fl_X12_322 h_a0 rfl dX12_child_10 ?_
    refine c_icmp_ge (tgt := 46) G dX12_child_13 (by decide) (fun _ => ?_) (fun _ => ?_)
    · skip
      refine c_iconst G m1 dX12_child_46 kI_m1 ?_
      exact c_iretP G hQ dX12_child_47
    · skip
      refine c_aload_n G dX12_child_16 rfl 0 rfl ?_
      refine c_getF G fl_X12_81 h_a0 rfl dX12_child_17 ?_
      refine c_iload G dX12_child_20 3 rfl ?_
      refine c_iald G (lf h_a0 45 rfl) dX12_child_22 (fun v1 _ => ?_)
      refine c_iload_n G dX12_child_23 rfl 1 rfl ?_
      refine c_icmp_eq (tgt := 30) G dX12_child_24 (by decide) (fun _ => ?_) (fun _ => ?_)
      · skip
        refine c_iload_n G dX12_child_30 rfl 2 rfl ?_
        refine c_if_ne (tgt := 37) G dX12_child_31 (by decide) (fun _ => ?_) (fun _ => ?_)
        · skip
          refine c_iload G dX12_child_34 3 rfl ?_
          exact c_iretP G hQ dX12_child_36
        · skip
          refine c_iinc G (fun y__ => [(3, .int y__), (0, .ref (wB w + pz (a0))), (1, .int a1), (4, .int l4_2)]) dX12_child_37 2 rfl kI_m1 (by decide) (fun _ => rfl) (fun l3_2 _ => ?_)
          refine c_iinc G (fun y__ => [(4, .int y__), (3, .int l3_2), (0, .ref (wB w + pz (a0))), (1, .int a1)]) dX12_child_40 3 rfl kI_1 (by decide) (fun _ => rfl) (fun l4_3 _ => ?_)
          refine c_goto (tgt := 7) G dX12_child_43 (by decide) ?_
          exact c_weak _ [2, 3, 1, 0] rfl (ih l3_2 l4_3)
      · skip
        refine c_goto (tgt := 40) G dX12_child_27 (by decide) ?_
        refine c_iinc G (fun y__ => [(4, .int y__), (0, .ref (wB w + pz (a0))), (1, .int a1), (3, .int l3_1)]) dX12_child_40 3 rfl kI_1 (by decide) (fun _ => rfl) (fun l4_4 _ => ?_)
        refine c_goto (tgt := 7) G dX12_child_43 (by decide) ?_
        exact c_weak _ [1, 2, 3, 0] rfl (ih l3_1 l4_4)
set_option maxHeartbeats 4000000 in
set_option maxRecDepth 100000 in
theorem con_X12_child {w : Wp} {N : Nat} {a0 : Nat} {a1 : Int32} {a2 : Int32} {M : Mm} {q : Int32} (h_a0 : lay a0 = (5, 12)) (hq : D_X12_child N a0 a1 a2 M = some q) : Con w 0 yX12_child cX12_child 5 (some .int) [.ref (wB w + pz (a0)), .int a1, .int a2] M ((encPI M) q) := by
  refine Con.of (encPI M) q _ hq (by decide) (Nat.le_of_ble_eq_true rfl) ?_
  intro X G Q hQ
  have G : Good w X cX12_child 5 RX12 (some .int) 0 := G
  refine c_weak [(0, .ref (wB w + pz (a0))), (1, .int a1), (2, .int a2)] [0, 1, 2] rfl ?_
  rw [D_X12_child]
  refine c_iload_n G dX12_child_0 rfl 2 rfl ?_
  refine c_istore_n G [(3, .int a2), (0, .ref (wB w + pz (a0))), (1, .int a1), (2, .int a2)] dX12_child_1 rfl (by decide) rfl ?_
  refine c_iload_n G dX12_child_2 rfl 2 rfl ?_
  refine c_iconst G (nI 1) dX12_child_3 kI_1 ?_
  refine c_iadd G dX12_child_4 ?_
  refine c_let (fun l4_1 _ => ?_)
  refine c_istore G [(4, .int l4_1), (3, .int a2), (0, .ref (wB w + pz (a0))), (1, .int a1), (2, .int a2)] dX12_child_5 (by decide) rfl ?_
  refine c_weak _ [2, 3, 1, 0] rfl (cl_X12_child_7 G hQ  h_a0 N a2 l4_1)
set_option maxHeartbeats 4000000 in
set_option maxRecDepth 100000 in
theorem con_X12_instanceOf {w : Wp} {N : Nat} {a0 : Nat} {a1 : Int32} {a2 : Int32} {M : Mm} {q : Int32} (h_a0 : lay a0 = (5, 12)) (hq : D_X12_instanceOf N a0 a1 a2 M = some q) : Con w 1 yX12_instanceOf cX12_instanceOf 3 (some .int) [.ref (wB w + pz (a0)), .int a1, .int a2] M ((encPI M) q) := by
  refine Con.of (encPI M) q _ hq (by decide) (Nat.le_of_ble_eq_true rfl) ?_
  intro X G Q hQ
  have G : Good w X cX12_instanceOf 3 RX12 (some .int) 1 := G
  refine c_weak [(0, .ref (wB w + pz (a0))), (1, .int a1), (2, .int a2)] [0, 1, 2] rfl ?_
  rw [D_X12_instanceOf]
  refine c_iload_n G dX12_instanceOf_0 rfl 2 rfl ?_
  refine c_bipush G (nI 8) dX12_instanceOf_1 kB_8 ?_
  refine c_icmp_ge (tgt := 15) G dX12_instanceOf_3 (by decide) (fun _ => ?_) (fun _ => ?_)
  · skip
    refine c_bipush G (nI 8) dX12_instanceOf_15 kB_8 ?_
    refine c_aload_n G dX12_instanceOf_17 rfl 0 rfl ?_
    refine c_iload_n G dX12_instanceOf_18 rfl 1 rfl ?_
    refine c_iload_n G dX12_instanceOf_19 rfl 2 rfl ?_
    refine c_bipush G (nI 8) dX12_instanceOf_20 kB_8 ?_
    refine c_idiv G dX12_instanceOf_22 (fun v1 _ => ?_)
    refine c_iconst G (nI 1) dX12_instanceOf_23 kI_1 ?_
    refine c_isub G dX12_instanceOf_24 ?_
    refine c_callV_PI (d := 0) (rest := [.int (nI 8)]) G [.int a1, .int (v1 - (nI 1))] yv_X12_child ml_X12_493 (by omega) (by decide) rfl rfl (Nat.le_of_ble_eq_true rfl) h_a0 (fun q hq => con_X12_child h_a0 hq) dX12_instanceOf_25 (fun q1 _ => ?_)
    refine c_imul G dX12_instanceOf_28 ?_
    refine c_iload_n G dX12_instanceOf_29 rfl 2 rfl ?_
    refine c_bipush G (nI 8) dX12_instanceOf_30 kB_8 ?_
    refine c_irem G dX12_instanceOf_32 (fun v2 _ => ?_)
    refine c_iadd G dX12_instanceOf_33 ?_
    exact c_iretP G hQ dX12_instanceOf_34
  · skip
    refine c_bipush G (nI 8) dX12_instanceOf_6 kB_8 ?_
    refine c_iload_n G dX12_instanceOf_8 rfl 1 rfl ?_
    refine c_imul G dX12_instanceOf_9 ?_
    refine c_iload_n G dX12_instanceOf_10 rfl 2 rfl ?_
    refine c_iadd G dX12_instanceOf_11 ?_
    refine c_goto (tgt := 34) G dX12_instanceOf_12 (by decide) ?_
    exact c_iretP G hQ dX12_instanceOf_34
set_option maxHeartbeats 4000000 in
set_option maxRecDepth 100000 in
theorem con_X12_bit {w : Wp} {N : Nat} {a0 : Nat} {a1 : Int32} {a2 : Int32} {M : Mm} {q : Int32} (h_a0 : lay a0 = (1, len a0)) (hq : D_X12_bit N a0 a1 a2 M = some q) : Con w 0 yX12_bit cX12_bit 3 (some .boolean) [.ref (wB w + pz (a0)), .int a1, .int a2] M ((encPI M) q) := by
  refine Con.of (encPI M) q _ hq (by decide) (Nat.le_of_ble_eq_true rfl) ?_
  intro X G Q hQ
  have G : Good w X cX12_bit 3 RX12 (some .boolean) 0 := G
  refine c_weak [(0, .ref (wB w + pz (a0))), (1, .int a1), (2, .int a2)] [0, 1, 2] rfl ?_
  rw [D_X12_bit]
  refine c_aload_n G dX12_bit_0 rfl 0 rfl ?_
  refine c_bipush G (nI 10) dX12_bit_1 kB_10 ?_
  refine c_iload_n G dX12_bit_3 rfl 1 rfl ?_
  refine c_imul G dX12_bit_4 ?_
  refine c_iload_n G dX12_bit_5 rfl 2 rfl ?_
  refine c_bipush G (nI 32) dX12_bit_6 kB_32 ?_
  refine c_idiv G dX12_bit_8 (fun v1 _ => ?_)
  refine c_iadd G dX12_bit_9 ?_
  refine c_iald G h_a0 dX12_bit_10 (fun v2 _ => ?_)
  refine c_iload_n G dX12_bit_11 rfl 2 rfl ?_
  refine c_bipush G (nI 32) dX12_bit_12 kB_32 ?_
  refine c_irem G dX12_bit_14 (fun v3 _ => ?_)
  refine c_iushr G dX12_bit_15 ?_
  refine c_iconst G (nI 1) dX12_bit_16 kI_1 ?_
  refine c_iand G dX12_bit_17 ?_
  refine c_iconst G (nI 1) dX12_bit_18 kI_1 ?_
  refine c_icmp_ne (tgt := 26) G dX12_bit_19 (by decide) (fun _ => ?_) (fun _ => ?_)
  · skip
    refine c_iconst G (nI 1) dX12_bit_22 kI_1 ?_
    refine c_goto (tgt := 27) G dX12_bit_23 (by decide) ?_
    exact c_zretP G hQ dX12_bit_27
  · skip
    refine c_iconst G (nI 0) dX12_bit_26 kI_0 ?_
    exact c_zretP G hQ dX12_bit_27
set_option maxHeartbeats 4000000 in
set_option maxRecDepth 100000 in
theorem cl_X12_laysReach_2 {w : Wp} {X : Cx} {Q : State → Prop} {ρ : Mm} (G : Good w X cX12_laysReach 5 RX12 none 2) (hQ : Q = MQ (xL X) (Qd w (encV ρ)) (xA X) (xS X) (xk X) (xs X) (Aw w)) (kE22 : Mm → Option (Mm)) {a0 : Nat} (h_a0 : lay a0 = (5, 12)) (hE22 : ∀ (Mz : Mm), Cov w X Q ρ some 5 22 [(0, .ref (wB w + pz (a0)))] [] Mz (kE22 Mz)) : ∀ (n : Nat) (l1_1 : Int32) (M1 : Mm), Cov w X Q ρ some 5 2 [(0, .ref (wB w + pz (a0))), (1, .int l1_1)] [] M1 (L_X12_laysReach_2 kE22 a0 n l1_1 M1) := by
  intro n
  induction n with
  | zero => intro l1_1 M1; exact c_none
  | succ n ih =>
    intro l1_1 M1
    rw [L_X12_laysReach_2]
    refine c_iload_n G dX12_laysReach_2 rfl 1 rfl ?_
    refine c_sipush G (nI 3200) dX12_laysReach_3 kS_3200 ?_
    refine c_icmp_ge (tgt := 22) G dX12_laysReach_6 (by decide) (fun _ => ?_) (fun _ => ?_)
    · skip
      exact c_weak _ [0] rfl (hE22 M1)
    · skip
      refine c_aload_n G dX12_laysReach_9 rfl 0 rfl ?_
      refine c_getF G fl_X12_120 h_a0 rfl dX12_laysReach_10 ?_
      refine c_iload_n G dX12_laysReach_13 rfl 1 rfl ?_
      refine c_iconst G (nI 0) dX12_laysReach_14 kI_0 ?_
      refine c_iast G (lf h_a0 64 rfl) dX12_laysReach_15 (fun M2 _ => ?_)
      refine c_iinc G (fun y__ => [(1, .int y__), (0, .ref (wB w + pz (a0)))]) dX12_laysReach_16 1 rfl kI_1 (by decide) (fun _ => rfl) (fun l1_2 _ => ?_)
      refine c_goto (tgt := 2) G dX12_laysReach_19 (by decide) ?_
      exact c_weak _ [1, 0] rfl (ih l1_2 M2)
set_option maxHeartbeats 4000000 in
set_option maxRecDepth 100000 in
theorem cl_X12_laysReach_51 {w : Wp} {X : Cx} {Q : State → Prop} {ρ : Mm} (G : Good w X cX12_laysReach 5 RX12 none 2) (hQ : Q = MQ (xL X) (Qd w (encV ρ)) (xA X) (xS X) (xk X) (xs X) (Aw w)) (kE112 : Mm → Option (Mm)) {N : Nat} {q1 : Int32} {a0 : Nat} {l1_3 : Int32} (h_a0 : lay a0 = (5, 12)) (hE112 : ∀ (Mz : Mm), Cov w X Q ρ some 5 112 [(0, .ref (wB w + pz (a0))), (1, .int l1_3)] [] Mz (kE112 Mz)) : ∀ (n : Nat) (l3_1 : Int32) (M5 : Mm), Cov w X Q ρ some 5 51 [(0, .ref (wB w + pz (a0))), (1, .int l1_3), (2, .int q1), (3, .int l3_1)] [] M5 (L_X12_laysReach_51 kE112 N q1 a0 l1_3 n l3_1 M5) := by
  intro n
  induction n with
  | zero => intro l3_1 M5; exact c_none
  | succ n ih =>
    intro l3_1 M5
    rw [L_X12_laysReach_51]
    refine c_iload_n G dX12_laysReach_51 rfl 3 rfl ?_
    refine c_bipush G (nI 32) dX12_laysReach_52 kB_32 ?_
    refine c_icmp_ge (tgt := 112) G dX12_laysReach_54 (by decide) (fun _ => ?_) (fun _ => ?_)
    · skip
      exact c_weak _ [0, 1] rfl (hE112 M5)
    · skip
      refine c_iload_n G dX12_laysReach_57 rfl 2 rfl ?_
      refine c_iload_n G dX12_laysReach_58 rfl 3 rfl ?_
      refine c_callS_PI (d := 0) (rest := []) G [.int q1, .int l3_1] ys_X12_has ml_X12_344 (by omega) (by decide) rfl rfl (Nat.le_of_ble_eq_true rfl) (fun q hq => con_X12_has hq) dX12_laysReach_59 (fun q2 _ => ?_)
      refine c_if_ne (tgt := 68) G dX12_laysReach_62 (by decide) (fun _ => ?_) (fun _ => ?_)
      · skip
        refine c_goto (tgt := 106) G dX12_laysReach_65 (by decide) ?_
        refine c_iinc G (fun y__ => [(3, .int y__), (0, .ref (wB w + pz (a0))), (1, .int l1_3), (2, .int q1)]) dX12_laysReach_106 3 rfl kI_1 (by decide) (fun _ => rfl) (fun l3_2 _ => ?_)
        refine c_goto (tgt := 51) G dX12_laysReach_109 (by decide) ?_
        exact c_weak _ [1, 2, 3, 0] rfl (ih l3_2 M5)
      · skip
        refine c_aload_n G dX12_laysReach_68 rfl 0 rfl ?_
        refine c_aload_n G dX12_laysReach_69 rfl 0 rfl ?_
        refine c_getF G fl_X12_96 h_a0 rfl dX12_laysReach_70 ?_
        refine c_iload_n G dX12_laysReach_73 rfl 1 rfl ?_
        refine c_iald G (lf h_a0 56 rfl) dX12_laysReach_74 (fun v2 _ => ?_)
        refine c_iload_n G dX12_laysReach_75 rfl 3 rfl ?_
        refine c_callV_PI (d := 1) (rest := []) G [.int v2, .int l3_1] yv_X12_instanceOf ml_X12_508 (by omega) (by decide) rfl rfl (Nat.le_of_ble_eq_true rfl) h_a0 (fun q hq => con_X12_instanceOf h_a0 hq) dX12_laysReach_76 (fun q3 _ => ?_)
        refine c_istore G [(4, .int q3), (0, .ref (wB w + pz (a0))), (1, .int l1_3), (2, .int q1), (3, .int l3_1)] dX12_laysReach_79 (by decide) rfl ?_
        refine c_aload_n G dX12_laysReach_81 rfl 1 rfl ?_
        refine c_getF G fl_X12_120 h_a0 rfl dX12_laysReach_82 ?_
        refine c_bipush G (nI 10) dX12_laysReach_85 kB_10 ?_
        refine c_iload_n G dX12_laysReach_87 rfl 2 rfl ?_
        refine c_imul G dX12_laysReach_88 ?_
        refine c_iload G dX12_laysReach_89 0 rfl ?_
        refine c_bipush G (nI 32) dX12_laysReach_91 kB_32 ?_
        refine c_idiv G dX12_laysReach_93 (fun v3 _ => ?_)
        refine c_iadd G dX12_laysReach_94 ?_
        refine c_dup2 G dX12_laysReach_95 rfl rfl ?_
        refine c_iald G (lf h_a0 64 rfl) dX12_laysReach_96 (fun v4 _ => ?_)
        refine c_iconst G (nI 1) dX12_laysReach_97 kI_1 ?_
        refine c_iload G dX12_laysReach_98 0 rfl ?_
        refine c_bipush G (nI 32) dX12_laysReach_100 kB_32 ?_
        refine c_irem G dX12_laysReach_102 (fun v5 _ => ?_)
        refine c_ishl G dX12_laysReach_103 ?_
        refine c_ior G dX12_laysReach_104 ?_
        refine c_iast G (lf h_a0 64 rfl) dX12_laysReach_105 (fun M6 _ => ?_)
        refine c_iinc G (fun y__ => [(3, .int y__), (4, .int q3), (0, .ref (wB w + pz (a0))), (1, .int l1_3), (2, .int q1)]) dX12_laysReach_106 4 rfl kI_1 (by decide) (fun _ => rfl) (fun l3_3 _ => ?_)
        refine c_goto (tgt := 51) G dX12_laysReach_109 (by decide) ?_
        exact c_weak _ [2, 3, 4, 0] rfl (ih l3_3 M6)
set_option maxHeartbeats 4000000 in
set_option maxRecDepth 100000 in
theorem cl_X12_laysReach_24 {w : Wp} {X : Cx} {Q : State → Prop} {ρ : Mm} (G : Good w X cX12_laysReach 5 RX12 none 2) (hQ : Q = MQ (xL X) (Qd w (encV ρ)) (xA X) (xS X) (xk X) (xs X) (Aw w)) (kE118 : Mm → Option (Mm)) {a0 : Nat} {N : Nat} (h_a0 : lay a0 = (5, 12)) (hE118 : ∀ (Mz : Mm), Cov w X Q ρ some 5 118 [(0, .ref (wB w + pz (a0)))] [] Mz (kE118 Mz)) : ∀ (n : Nat) (l1_3 : Int32) (M4 : Mm), Cov w X Q ρ some 5 24 [(0, .ref (wB w + pz (a0))), (1, .int l1_3)] [] M4 (L_X12_laysReach_24 kE118 a0 N n l1_3 M4) := by
  intro n
  induction n with
  | zero => intro l1_3 M4; exact c_none
  | succ n ih =>
    intro l1_3 M4
    rw [L_X12_laysReach_24]
    refine c_iload_n G dX12_laysReach_24 rfl 1 rfl ?_
    refine c_sipush G (nI 320) dX12_laysReach_25 kS_320 ?_
    refine c_icmp_ge (tgt := 118) G dX12_laysReach_28 (by decide) (fun _ => ?_) (fun _ => ?_)
    · skip
      exact c_weak _ [0] rfl (hE118 M4)
    · skip
      refine c_aload_n G dX12_laysReach_31 rfl 0 rfl ?_
      refine c_getF G fl_X12_126 h_a0 rfl dX12_laysReach_32 ?_
      refine c_iload_n G dX12_laysReach_35 rfl 1 rfl ?_
      refine c_zald G (lf h_a0 66 rfl) dX12_laysReach_36 (fun v1 _ => ?_)
      refine c_if_ne (tgt := 43) G dX12_laysReach_37 (by decide) (fun _ => ?_) (fun _ => ?_)
      · skip
        refine c_goto (tgt := 112) G dX12_laysReach_40 (by decide) ?_
        refine c_iinc G (fun y__ => [(1, .int y__), (0, .ref (wB w + pz (a0)))]) dX12_laysReach_112 1 rfl kI_1 (by decide) (fun _ => rfl) (fun l1_4 _ => ?_)
        refine c_goto (tgt := 24) G dX12_laysReach_115 (by decide) ?_
        exact c_weak _ [1, 0] rfl (ih l1_4 M4)
      · skip
        refine c_aload_n G dX12_laysReach_43 rfl 0 rfl ?_
        refine c_iload_n G dX12_laysReach_44 rfl 1 rfl ?_
        refine c_callV_PI (d := 1) (rest := []) G [.int l1_3] yv_X12_asksOf ml_X12_505 (by omega) (by decide) rfl rfl (Nat.le_of_ble_eq_true rfl) h_a0 (fun q hq => con_X12_asksOf h_a0 hq) dX12_laysReach_45 (fun q1 _ => ?_)
        refine c_istore_n G [(2, .int q1), (0, .ref (wB w + pz (a0))), (1, .int l1_3)] dX12_laysReach_48 rfl (by decide) rfl ?_
        refine c_iconst G (nI 0) dX12_laysReach_49 kI_0 ?_
        refine c_istore_n G [(3, .int (nI 0)), (2, .int q1), (0, .ref (wB w + pz (a0))), (1, .int l1_3)] dX12_laysReach_50 rfl (by decide) rfl ?_
        refine c_weak _ [2, 3, 1, 0] rfl (cl_X12_laysReach_51 G hQ _ h_a0 ?_ N (nI 0) M4)
        · intro M7
          refine c_iinc G (fun y__ => [(1, .int y__), (0, .ref (wB w + pz (a0)))]) dX12_laysReach_112 1 rfl kI_1 (by decide) (fun _ => rfl) (fun l1_5 _ => ?_)
          refine c_goto (tgt := 24) G dX12_laysReach_115 (by decide) ?_
          exact c_weak _ [1, 0] rfl (ih l1_5 M7)
set_option maxHeartbeats 4000000 in
set_option maxRecDepth 100000 in
theorem cl_X12_laysReach_120 {w : Wp} {X : Cx} {Q : State → Prop} {ρ : Mm} (G : Good w X cX12_laysReach 5 RX12 none 2) (hQ : Q = MQ (xL X) (Qd w (encV ρ)) (xA X) (xS X) (xk X) (xs X) (Aw w)) (kE145 : Mm → Option (Mm)) {a0 : Nat} (h_a0 : lay a0 = (5, 12)) (hE145 : ∀ (Mz : Mm), Cov w X Q ρ some 5 145 [(0, .ref (wB w + pz (a0)))] [] Mz (kE145 Mz)) : ∀ (n : Nat) (l1_6 : Int32) (M9 : Mm), Cov w X Q ρ some 5 120 [(0, .ref (wB w + pz (a0))), (1, .int l1_6)] [] M9 (L_X12_laysReach_120 kE145 a0 n l1_6 M9) := by
  intro n
  induction n with
  | zero => intro l1_6 M9; exact c_none
  | succ n ih =>
    intro l1_6 M9
    rw [L_X12_laysReach_120]
    refine c_iload_n G dX12_laysReach_120 rfl 1 rfl ?_
    refine c_sipush G (nI 3200) dX12_laysReach_121 kS_3200 ?_
    refine c_icmp_ge (tgt := 145) G dX12_laysReach_124 (by decide) (fun _ => ?_) (fun _ => ?_)
    · skip
      exact c_weak _ [0] rfl (hE145 M9)
    · skip
      refine c_aload_n G dX12_laysReach_127 rfl 0 rfl ?_
      refine c_getF G fl_X12_123 h_a0 rfl dX12_laysReach_128 ?_
      refine c_iload_n G dX12_laysReach_131 rfl 1 rfl ?_
      refine c_aload_n G dX12_laysReach_132 rfl 0 rfl ?_
      refine c_getF G fl_X12_120 h_a0 rfl dX12_laysReach_133 ?_
      refine c_iload_n G dX12_laysReach_136 rfl 1 rfl ?_
      refine c_iald G (lf h_a0 64 rfl) dX12_laysReach_137 (fun v6 _ => ?_)
      refine c_iast G (lf h_a0 65 rfl) dX12_laysReach_138 (fun M10 _ => ?_)
      refine c_iinc G (fun y__ => [(1, .int y__), (0, .ref (wB w + pz (a0)))]) dX12_laysReach_139 1 rfl kI_1 (by decide) (fun _ => rfl) (fun l1_7 _ => ?_)
      refine c_goto (tgt := 120) G dX12_laysReach_142 (by decide) ?_
      exact c_weak _ [1, 0] rfl (ih l1_7 M10)
set_option maxHeartbeats 4000000 in
set_option maxRecDepth 100000 in
theorem cl_X12_laysReach_185 {w : Wp} {X : Cx} {Q : State → Prop} {ρ : Mm} (G : Good w X cX12_laysReach 5 RX12 none 2) (hQ : Q = MQ (xL X) (Qd w (encV ρ)) (xA X) (xS X) (xk X) (xs X) (Aw w)) (kE222 : Mm → Option (Mm)) {a0 : Nat} {l2_1 : Int32} {l1_8 : Int32} (h_a0 : lay a0 = (5, 12)) (hE222 : ∀ (Mz : Mm), Cov w X Q ρ some 5 222 [(0, .ref (wB w + pz (a0))), (1, .int l1_8), (2, .int l2_1)] [] Mz (kE222 Mz)) : ∀ (n : Nat) (l3_4 : Int32) (M14 : Mm), Cov w X Q ρ some 5 185 [(0, .ref (wB w + pz (a0))), (1, .int l1_8), (2, .int l2_1), (3, .int l3_4)] [] M14 (L_X12_laysReach_185 kE222 a0 l2_1 l1_8 n l3_4 M14) := by
  intro n
  induction n with
  | zero => intro l3_4 M14; exact c_none
  | succ n ih =>
    intro l3_4 M14
    rw [L_X12_laysReach_185]
    refine c_iload_n G dX12_laysReach_185 rfl 3 rfl ?_
    refine c_bipush G (nI 10) dX12_laysReach_186 kB_10 ?_
    refine c_icmp_ge (tgt := 222) G dX12_laysReach_188 (by decide) (fun _ => ?_) (fun _ => ?_)
    · skip
      exact c_weak _ [0, 1, 2] rfl (hE222 M14)
    · skip
      refine c_aload_n G dX12_laysReach_191 rfl 0 rfl ?_
      refine c_getF G fl_X12_123 h_a0 rfl dX12_laysReach_192 ?_
      refine c_bipush G (nI 10) dX12_laysReach_195 kB_10 ?_
      refine c_iload_n G dX12_laysReach_197 rfl 2 rfl ?_
      refine c_imul G dX12_laysReach_198 ?_
      refine c_iload_n G dX12_laysReach_199 rfl 3 rfl ?_
      refine c_iadd G dX12_laysReach_200 ?_
      refine c_dup2 G dX12_laysReach_201 rfl rfl ?_
      refine c_iald G (lf h_a0 65 rfl) dX12_laysReach_202 (fun v7 _ => ?_)
      refine c_aload_n G dX12_laysReach_203 rfl 0 rfl ?_
      refine c_getF G fl_X12_123 h_a0 rfl dX12_laysReach_204 ?_
      refine c_bipush G (nI 10) dX12_laysReach_207 kB_10 ?_
      refine c_iload_n G dX12_laysReach_209 rfl 1 rfl ?_
      refine c_imul G dX12_laysReach_210 ?_
      refine c_iload_n G dX12_laysReach_211 rfl 3 rfl ?_
      refine c_iadd G dX12_laysReach_212 ?_
      refine c_iald G (lf h_a0 65 rfl) dX12_laysReach_213 (fun v8 _ => ?_)
      refine c_ior G dX12_laysReach_214 ?_
      refine c_iast G (lf h_a0 65 rfl) dX12_laysReach_215 (fun M15 _ => ?_)
      refine c_iinc G (fun y__ => [(3, .int y__), (0, .ref (wB w + pz (a0))), (1, .int l1_8), (2, .int l2_1)]) dX12_laysReach_216 3 rfl kI_1 (by decide) (fun _ => rfl) (fun l3_5 _ => ?_)
      refine c_goto (tgt := 185) G dX12_laysReach_219 (by decide) ?_
      exact c_weak _ [1, 2, 3, 0] rfl (ih l3_5 M15)
set_option maxHeartbeats 4000000 in
set_option maxRecDepth 100000 in
theorem cl_X12_laysReach_160 {w : Wp} {X : Cx} {Q : State → Prop} {ρ : Mm} (G : Good w X cX12_laysReach 5 RX12 none 2) (hQ : Q = MQ (xL X) (Qd w (encV ρ)) (xA X) (xS X) (xk X) (xs X) (Aw w)) (kE228 : Mm → Option (Mm)) {a0 : Nat} {N : Nat} {l1_8 : Int32} (h_a0 : lay a0 = (5, 12)) (hE228 : ∀ (Mz : Mm), Cov w X Q ρ some 5 228 [(0, .ref (wB w + pz (a0))), (1, .int l1_8)] [] Mz (kE228 Mz)) : ∀ (n : Nat) (l2_1 : Int32) (M13 : Mm), Cov w X Q ρ some 5 160 [(0, .ref (wB w + pz (a0))), (1, .int l1_8), (2, .int l2_1)] [] M13 (L_X12_laysReach_160 kE228 a0 N l1_8 n l2_1 M13) := by
  intro n
  induction n with
  | zero => intro l2_1 M13; exact c_none
  | succ n ih =>
    intro l2_1 M13
    rw [L_X12_laysReach_160]
    refine c_iload_n G dX12_laysReach_160 rfl 2 rfl ?_
    refine c_bipush G (nI 8) dX12_laysReach_161 kB_8 ?_
    refine c_aload_n G dX12_laysReach_163 rfl 0 rfl ?_
    refine c_getI G fl_X12_322 h_a0 rfl dX12_laysReach_164 ?_
    refine c_imul G dX12_laysReach_167 ?_
    refine c_icmp_ge (tgt := 228) G dX12_laysReach_168 (by decide) (fun _ => ?_) (fun _ => ?_)
    · skip
      exact c_weak _ [0, 1] rfl (hE228 M13)
    · skip
      refine c_aload_n G dX12_laysReach_171 rfl 0 rfl ?_
      refine c_getF G fl_X12_123 h_a0 rfl dX12_laysReach_172 ?_
      refine c_iload_n G dX12_laysReach_175 rfl 2 rfl ?_
      refine c_iload_n G dX12_laysReach_176 rfl 1 rfl ?_
      refine c_callS_PI (d := 0) (rest := []) G [.ref (wB w + pz ((a0 + 36))), .int l2_1, .int l1_8] ys_X12_bit ml_X12_511 (by omega) (by decide) rfl rfl (Nat.le_of_ble_eq_true rfl) (fun q hq => con_X12_bit (ll (lf h_a0 65 rfl)) hq) dX12_laysReach_177 (fun q4 _ => ?_)
      refine c_if_eq (tgt := 222) G dX12_laysReach_180 (by decide) (fun _ => ?_) (fun _ => ?_)
      · skip
        refine c_iinc G (fun y__ => [(2, .int y__), (0, .ref (wB w + pz (a0))), (1, .int l1_8)]) dX12_laysReach_222 2 rfl kI_1 (by decide) (fun _ => rfl) (fun l2_2 _ => ?_)
        refine c_goto (tgt := 160) G dX12_laysReach_225 (by decide) ?_
        exact c_weak _ [1, 2, 0] rfl (ih l2_2 M13)
      · skip
        refine c_iconst G (nI 0) dX12_laysReach_183 kI_0 ?_
        refine c_istore_n G [(3, .int (nI 0)), (0, .ref (wB w + pz (a0))), (1, .int l1_8), (2, .int l2_1)] dX12_laysReach_184 rfl (by decide) rfl ?_
        refine c_weak _ [1, 2, 3, 0] rfl (cl_X12_laysReach_185 G hQ _ h_a0 ?_ N (nI 0) M13)
        · intro M16
          refine c_iinc G (fun y__ => [(2, .int y__), (0, .ref (wB w + pz (a0))), (1, .int l1_8)]) dX12_laysReach_222 2 rfl kI_1 (by decide) (fun _ => rfl) (fun l2_3 _ => ?_)
          refine c_goto (tgt := 160) G dX12_laysReach_225 (by decide) ?_
          exact c_weak _ [1, 2, 0] rfl (ih l2_3 M16)
set_option maxHeartbeats 4000000 in
set_option maxRecDepth 100000 in
theorem cl_X12_laysReach_147 {w : Wp} {X : Cx} {Q : State → Prop} {ρ : Mm} (G : Good w X cX12_laysReach 5 RX12 none 2) (hQ : Q = MQ (xL X) (Qd w (encV ρ)) (xA X) (xS X) (xk X) (xs X) (Aw w)) {a0 : Nat} {N : Nat} (h_a0 : lay a0 = (5, 12)) : ∀ (n : Nat) (l1_8 : Int32) (M12 : Mm), Cov w X Q ρ some 5 147 [(0, .ref (wB w + pz (a0))), (1, .int l1_8)] [] M12 (L_X12_laysReach_147 a0 N n l1_8 M12) := by
  intro n
  induction n with
  | zero => intro l1_8 M12; exact c_none
  | succ n ih =>
    intro l1_8 M12
    rw [L_X12_laysReach_147]
    refine c_iload_n G dX12_laysReach_147 rfl 1 rfl ?_
    refine c_bipush G (nI 8) dX12_laysReach_148 kB_8 ?_
    refine c_aload_n G dX12_laysReach_150 rfl 0 rfl ?_
    refine c_getI G fl_X12_322 h_a0 rfl dX12_laysReach_151 ?_
    refine c_imul G dX12_laysReach_154 ?_
    refine c_icmp_ge (tgt := 234) G dX12_laysReach_155 (by decide) (fun _ => ?_) (fun _ => ?_)
    · skip
      exact c_vret G hQ dX12_laysReach_234
    · skip
      refine c_iconst G (nI 0) dX12_laysReach_158 kI_0 ?_
      refine c_istore_n G [(2, .int (nI 0)), (0, .ref (wB w + pz (a0))), (1, .int l1_8)] dX12_laysReach_159 rfl (by decide) rfl ?_
      refine c_weak _ [1, 2, 0] rfl (cl_X12_laysReach_160 G hQ _ h_a0 ?_ N (nI 0) M12)
      · intro M17
        refine c_iinc G (fun y__ => [(1, .int y__), (0, .ref (wB w + pz (a0)))]) dX12_laysReach_228 1 rfl kI_1 (by decide) (fun _ => rfl) (fun l1_9 _ => ?_)
        refine c_goto (tgt := 147) G dX12_laysReach_231 (by decide) ?_
        exact c_weak _ [1, 0] rfl (ih l1_9 M17)
set_option maxHeartbeats 4000000 in
set_option maxRecDepth 100000 in
theorem con_X12_laysReach {w : Wp} {N : Nat} {a0 : Nat} {M : Mm} {q : Mm} (h_a0 : lay a0 = (5, 12)) (hq : D_X12_laysReach N a0 M = some q) : Con w 2 yX12_laysReach cX12_laysReach 5 none [.ref (wB w + pz (a0))] M (encV q) := by
  refine Con.of encV q _ hq (by decide) (Nat.le_of_ble_eq_true rfl) ?_
  intro X G Q hQ
  have G : Good w X cX12_laysReach 5 RX12 none 2 := G
  refine c_weak [(0, .ref (wB w + pz (a0)))] [0] rfl ?_
  rw [D_X12_laysReach]
  refine c_iconst G (nI 0) dX12_laysReach_0 kI_0 ?_
  refine c_istore_n G [(1, .int (nI 0)), (0, .ref (wB w + pz (a0)))] dX12_laysReach_1 rfl (by decide) rfl ?_
  refine c_weak _ [1, 0] rfl (cl_X12_laysReach_2 G hQ _ h_a0 ?_ N (nI 0) M)
  · intro M3
    refine c_iconst G (nI 0) dX12_laysReach_22 kI_0 ?_
    refine c_istore_n G [(1, .int (nI 0)), (0, .ref (wB w + pz (a0)))] dX12_laysReach_23 rfl (by decide) rfl ?_
    refine c_weak _ [1, 0] rfl (cl_X12_laysReach_24 G hQ _ h_a0 ?_ N (nI 0) M3)
    · intro M8
      refine c_iconst G (nI 0) dX12_laysReach_118 kI_0 ?_
      refine c_istore_n G [(1, .int (nI 0)), (0, .ref (wB w + pz (a0)))] dX12_laysReach_119 rfl (by decide) rfl ?_
      refine c_weak _ [1, 0] rfl (cl_X12_laysReach_120 G hQ _ h_a0 ?_ N (nI 0) M8)
      · intro M11
        refine c_iconst G (nI 0) dX12_laysReach_145 kI_0 ?_
        refine c_istore_n G [(1, .int (nI 0)), (0, .ref (wB w + pz (a0)))] dX12_laysReach_146 rfl (by decide) rfl ?_
        refine c_weak _ [1, 0] rfl (cl_X12_laysReach_147 G hQ  h_a0 N (nI 0) M11)
set_option maxHeartbeats 4000000 in
set_option maxRecDepth 100000 in
theorem cl_X12_laysKnots_42 {w : Wp} {X : Cx} {Q : State → Prop} {ρ : Mm} (G : Good w X cX12_laysKnots 3 RX12 none 1) (hQ : Q = MQ (xL X) (Qd w (encV ρ)) (xA X) (xS X) (xk X) (xs X) (Aw w)) (kE81 : Int32 → Option (Mm)) {a0 : Nat} {M2 : Mm} {N : Nat} {l1_1 : Int32} (h_a0 : lay a0 = (5, 12)) (hE81 : ∀ (z2 : Int32), Cov w X Q ρ some 3 81 [(0, .ref (wB w + pz (a0))), (1, .int l1_1), (2, .int z2)] [] M2 (kE81 z2)) : ∀ (n : Nat) (l2_1 : Int32), Cov w X Q ρ some 3 42 [(0, .ref (wB w + pz (a0))), (1, .int l1_1), (2, .int l2_1)] [] M2 (L_X12_laysKnots_42 kE81 a0 M2 N l1_1 n l2_1) := by
  intro n
  induction n with
  | zero => intro l2_1; exact c_none
  | succ n ih =>
    intro l2_1
    rw [L_X12_laysKnots_42]
    refine c_aload_n G dX12_laysKnots_42 rfl 0 rfl ?_
    refine c_getF G fl_X12_126 h_a0 rfl dX12_laysKnots_43 ?_
    refine c_iload_n G dX12_laysKnots_46 rfl 2 rfl ?_
    refine c_zald G (lf h_a0 66 rfl) dX12_laysKnots_47 (fun v2 _ => ?_)
    refine c_if_eq (tgt := 75) G dX12_laysKnots_48 (by decide) (fun _ => ?_) (fun _ => ?_)
    · skip
      refine c_iinc G (fun y__ => [(2, .int y__), (0, .ref (wB w + pz (a0))), (1, .int l1_1)]) dX12_laysKnots_75 2 rfl kI_1 (by decide) (fun _ => rfl) (fun l2_2 _ => ?_)
      refine c_goto (tgt := 42) G dX12_laysKnots_78 (by decide) ?_
      exact c_weak _ [1, 2, 0] rfl (ih l2_2)
    · skip
      refine c_aload_n G dX12_laysKnots_51 rfl 0 rfl ?_
      refine c_getF G fl_X12_123 h_a0 rfl dX12_laysKnots_52 ?_
      refine c_iload_n G dX12_laysKnots_55 rfl 1 rfl ?_
      refine c_iload_n G dX12_laysKnots_56 rfl 2 rfl ?_
      refine c_callS_PI (d := 0) (rest := []) G [.ref (wB w + pz ((a0 + 36))), .int l1_1, .int l2_1] ys_X12_bit ml_X12_511 (by omega) (by decide) rfl rfl (Nat.le_of_ble_eq_true rfl) (fun q hq => con_X12_bit (ll (lf h_a0 65 rfl)) hq) dX12_laysKnots_57 (fun q2 _ => ?_)
      refine c_if_eq (tgt := 75) G dX12_laysKnots_60 (by decide) (fun _ => ?_) (fun _ => ?_)
      · skip
        refine c_iinc G (fun y__ => [(2, .int y__), (0, .ref (wB w + pz (a0))), (1, .int l1_1)]) dX12_laysKnots_75 2 rfl kI_1 (by decide) (fun _ => rfl) (fun l2_3 _ => ?_)
        refine c_goto (tgt := 42) G dX12_laysKnots_78 (by decide) ?_
        exact c_weak _ [1, 2, 0] rfl (ih l2_3)
      · skip
        refine c_aload_n G dX12_laysKnots_63 rfl 0 rfl ?_
        refine c_getF G fl_X12_123 h_a0 rfl dX12_laysKnots_64 ?_
        refine c_iload_n G dX12_laysKnots_67 rfl 2 rfl ?_
        refine c_iload_n G dX12_laysKnots_68 rfl 1 rfl ?_
        refine c_callS_PI (d := 0) (rest := []) G [.ref (wB w + pz ((a0 + 36))), .int l2_1, .int l1_1] ys_X12_bit ml_X12_511 (by omega) (by decide) rfl rfl (Nat.le_of_ble_eq_true rfl) (fun q hq => con_X12_bit (ll (lf h_a0 65 rfl)) hq) dX12_laysKnots_69 (fun q3 _ => ?_)
        refine c_if_ne (tgt := 81) G dX12_laysKnots_72 (by decide) (fun _ => ?_) (fun _ => ?_)
        · skip
          refine c_iinc G (fun y__ => [(2, .int y__), (0, .ref (wB w + pz (a0))), (1, .int l1_1)]) dX12_laysKnots_75 2 rfl kI_1 (by decide) (fun _ => rfl) (fun l2_4 _ => ?_)
          refine c_goto (tgt := 42) G dX12_laysKnots_78 (by decide) ?_
          exact c_weak _ [1, 2, 0] rfl (ih l2_4)
        · skip
          exact c_weak _ [0, 1, 2] rfl (hE81 l2_1)
set_option maxHeartbeats 4000000 in
set_option maxRecDepth 100000 in
theorem cl_X12_laysKnots_2 {w : Wp} {X : Cx} {Q : State → Prop} {ρ : Mm} (G : Good w X cX12_laysKnots 3 RX12 none 1) (hQ : Q = MQ (xL X) (Qd w (encV ρ)) (xA X) (xS X) (xk X) (xs X) (Aw w)) {a0 : Nat} {N : Nat} (h_a0 : lay a0 = (5, 12)) : ∀ (n : Nat) (l1_1 : Int32) (M1 : Mm), Cov w X Q ρ some 3 2 [(0, .ref (wB w + pz (a0))), (1, .int l1_1)] [] M1 (L_X12_laysKnots_2 a0 N n l1_1 M1) := by
  intro n
  induction n with
  | zero => intro l1_1 M1; exact c_none
  | succ n ih =>
    intro l1_1 M1
    rw [L_X12_laysKnots_2]
    refine c_iload_n G dX12_laysKnots_2 rfl 1 rfl ?_
    refine c_sipush G (nI 320) dX12_laysKnots_3 kS_320 ?_
    refine c_icmp_ge (tgt := 94) G dX12_laysKnots_6 (by decide) (fun _ => ?_) (fun _ => ?_)
    · skip
      exact c_vret G hQ dX12_laysKnots_94
    · skip
      refine c_aload_n G dX12_laysKnots_9 rfl 0 rfl ?_
      refine c_getF G fl_X12_105 h_a0 rfl dX12_laysKnots_10 ?_
      refine c_iload_n G dX12_laysKnots_13 rfl 1 rfl ?_
      refine c_iconst G m1 dX12_laysKnots_14 kI_m1 ?_
      refine c_iast G (lf h_a0 59 rfl) dX12_laysKnots_15 (fun M2 _ => ?_)
      refine c_aload_n G dX12_laysKnots_16 rfl 0 rfl ?_
      refine c_getF G fl_X12_126 h_a0 rfl dX12_laysKnots_17 ?_
      refine c_iload_n G dX12_laysKnots_20 rfl 1 rfl ?_
      refine c_zald G (lf h_a0 66 rfl) dX12_laysKnots_21 (fun v1 _ => ?_)
      refine c_if_eq (tgt := 88) G dX12_laysKnots_22 (by decide) (fun _ => ?_) (fun _ => ?_)
      · skip
        refine c_iinc G (fun y__ => [(1, .int y__), (0, .ref (wB w + pz (a0)))]) dX12_laysKnots_88 1 rfl kI_1 (by decide) (fun _ => rfl) (fun l1_2 _ => ?_)
        refine c_goto (tgt := 2) G dX12_laysKnots_91 (by decide) ?_
        exact c_weak _ [1, 0] rfl (ih l1_2 M2)
      · skip
        refine c_aload_n G dX12_laysKnots_25 rfl 0 rfl ?_
        refine c_getF G fl_X12_123 h_a0 rfl dX12_laysKnots_26 ?_
        refine c_iload_n G dX12_laysKnots_29 rfl 1 rfl ?_
        refine c_iload_n G dX12_laysKnots_30 rfl 1 rfl ?_
        refine c_callS_PI (d := 0) (rest := []) G [.ref (wB w + pz ((a0 + 36))), .int l1_1, .int l1_1] ys_X12_bit ml_X12_511 (by omega) (by decide) rfl rfl (Nat.le_of_ble_eq_true rfl) (fun q hq => con_X12_bit (ll (lf h_a0 65 rfl)) hq) dX12_laysKnots_31 (fun q1 _ => ?_)
        refine c_if_ne (tgt := 40) G dX12_laysKnots_34 (by decide) (fun _ => ?_) (fun _ => ?_)
        · skip
          refine c_goto (tgt := 88) G dX12_laysKnots_37 (by decide) ?_
          refine c_iinc G (fun y__ => [(1, .int y__), (0, .ref (wB w + pz (a0)))]) dX12_laysKnots_88 1 rfl kI_1 (by decide) (fun _ => rfl) (fun l1_3 _ => ?_)
          refine c_goto (tgt := 2) G dX12_laysKnots_91 (by decide) ?_
          exact c_weak _ [1, 0] rfl (ih l1_3 M2)
        · skip
          refine c_iconst G (nI 0) dX12_laysKnots_40 kI_0 ?_
          refine c_istore_n G [(2, .int (nI 0)), (0, .ref (wB w + pz (a0))), (1, .int l1_1)] dX12_laysKnots_41 rfl (by decide) rfl ?_
          refine c_weak _ [1, 2, 0] rfl (cl_X12_laysKnots_42 G hQ _ h_a0 ?_ N (nI 0))
          · intro l2_5
            refine c_aload_n G dX12_laysKnots_81 rfl 0 rfl ?_
            refine c_getF G fl_X12_105 h_a0 rfl dX12_laysKnots_82 ?_
            refine c_iload_n G dX12_laysKnots_85 rfl 1 rfl ?_
            refine c_iload_n G dX12_laysKnots_86 rfl 2 rfl ?_
            refine c_iast G (lf h_a0 59 rfl) dX12_laysKnots_87 (fun M3 _ => ?_)
            refine c_iinc G (fun y__ => [(1, .int y__), (0, .ref (wB w + pz (a0))), (2, .int l2_5)]) dX12_laysKnots_88 1 rfl kI_1 (by decide) (fun _ => rfl) (fun l1_4 _ => ?_)
            refine c_goto (tgt := 2) G dX12_laysKnots_91 (by decide) ?_
            exact c_weak _ [1, 0] rfl (ih l1_4 M3)
set_option maxHeartbeats 4000000 in
set_option maxRecDepth 100000 in
theorem con_X12_laysKnots {w : Wp} {N : Nat} {a0 : Nat} {M : Mm} {q : Mm} (h_a0 : lay a0 = (5, 12)) (hq : D_X12_laysKnots N a0 M = some q) : Con w 1 yX12_laysKnots cX12_laysKnots 3 none [.ref (wB w + pz (a0))] M (encV q) := by
  refine Con.of encV q _ hq (by decide) (Nat.le_of_ble_eq_true rfl) ?_
  intro X G Q hQ
  have G : Good w X cX12_laysKnots 3 RX12 none 1 := G
  refine c_weak [(0, .ref (wB w + pz (a0)))] [0] rfl ?_
  rw [D_X12_laysKnots]
  refine c_iconst G (nI 0) dX12_laysKnots_0 kI_0 ?_
  refine c_istore_n G [(1, .int (nI 0)), (0, .ref (wB w + pz (a0)))] dX12_laysKnots_1 rfl (by decide) rfl ?_
  refine c_weak _ [1, 0] rfl (cl_X12_laysKnots_2 G hQ  h_a0 N (nI 0) M)
set_option maxHeartbeats 4000000 in
set_option maxRecDepth 100000 in
theorem cl_X12_isReady_2 {w : Wp} {M : Mm} {X : Cx} {Q : State → Prop} {ρ : Int32} (G : Good w X cX12_isReady 3 RX12 (some .boolean) 1) (hQ : Q = MQ (xL X) (Qd w ((encPI M) ρ)) (xA X) (xS X) (xk X) (xs X) (Aw w)) {a0 : Nat} {N : Nat} {a1 : Int32} (h_a0 : lay a0 = (5, 12)) : ∀ (n : Nat) (l2_1 : Int32), Cov w X Q ρ some 3 2 [(0, .ref (wB w + pz (a0))), (1, .int a1), (2, .int l2_1)] [] M (L_X12_isReady_2 M a0 N a1 n l2_1) := by
  intro n
  induction n with
  | zero => intro l2_1; exact c_none
  | succ n ih =>
    intro l2_1
    rw [L_X12_isReady_2]
    refine c_iload_n G dX12_isReady_2 rfl 2 rfl ?_
    refine c_bipush G (nI 8) dX12_isReady_3 kB_8 ?_
    refine c_aload_n G dX12_isReady_5 rfl 0 rfl ?_
    refine c_getI G fl_X12_322 h_a0 rfl dX12_isReady_6 ?_
    refine c_imul G dX12_isReady_9 ?_
    refine c_icmp_ge (tgt := 67) G dX12_isReady_10 (by decide) (fun _ => ?_) (fun _ => ?_)
    · skip
      refine c_iconst G (nI 1) dX12_isReady_67 kI_1 ?_
      exact c_zretP G hQ dX12_isReady_68
    · skip
      refine c_aload_n G dX12_isReady_13 rfl 0 rfl ?_
      refine c_getF G fl_X12_120 h_a0 rfl dX12_isReady_14 ?_
      refine c_iload_n G dX12_isReady_17 rfl 1 rfl ?_
      refine c_iload_n G dX12_isReady_18 rfl 2 rfl ?_
      refine c_callS_PI (d := 0) (rest := []) G [.ref (wB w + pz ((a0 + 35))), .int a1, .int l2_1] ys_X12_bit ml_X12_511 (by omega) (by decide) rfl rfl (Nat.le_of_ble_eq_true rfl) (fun q hq => con_X12_bit (ll (lf h_a0 64 rfl)) hq) dX12_isReady_19 (fun q1 _ => ?_)
      refine c_if_eq (tgt := 61) G dX12_isReady_22 (by decide) (fun _ => ?_) (fun _ => ?_)
      · skip
        refine c_iinc G (fun y__ => [(2, .int y__), (0, .ref (wB w + pz (a0))), (1, .int a1)]) dX12_isReady_61 2 rfl kI_1 (by decide) (fun _ => rfl) (fun l2_2 _ => ?_)
        refine c_goto (tgt := 2) G dX12_isReady_64 (by decide) ?_
        exact c_weak _ [1, 2, 0] rfl (ih l2_2)
      · skip
        refine c_aload_n G dX12_isReady_25 rfl 0 rfl ?_
        refine c_getF G fl_X12_133 h_a0 rfl dX12_isReady_26 ?_
        refine c_iload_n G dX12_isReady_29 rfl 2 rfl ?_
        refine c_zald G (lf h_a0 68 rfl) dX12_isReady_30 (fun v1 _ => ?_)
        refine c_if_ne (tgt := 61) G dX12_isReady_31 (by decide) (fun _ => ?_) (fun _ => ?_)
        · skip
          refine c_aload_n G dX12_isReady_34 rfl 0 rfl ?_
          refine c_getF G fl_X12_105 h_a0 rfl dX12_isReady_35 ?_
          refine c_iload_n G dX12_isReady_38 rfl 1 rfl ?_
          refine c_iald G (lf h_a0 59 rfl) dX12_isReady_39 (fun v2 _ => ?_)
          refine c_iconst G m1 dX12_isReady_40 kI_m1 ?_
          refine c_icmp_eq (tgt := 59) G dX12_isReady_41 (by decide) (fun _ => ?_) (fun _ => ?_)
          · skip
            refine c_iconst G (nI 0) dX12_isReady_59 kI_0 ?_
            exact c_zretP G hQ dX12_isReady_60
          · skip
            refine c_aload_n G dX12_isReady_44 rfl 0 rfl ?_
            refine c_getF G fl_X12_105 h_a0 rfl dX12_isReady_45 ?_
            refine c_iload_n G dX12_isReady_48 rfl 2 rfl ?_
            refine c_iald G (lf h_a0 59 rfl) dX12_isReady_49 (fun v3 _ => ?_)
            refine c_aload_n G dX12_isReady_50 rfl 0 rfl ?_
            refine c_getF G fl_X12_105 h_a0 rfl dX12_isReady_51 ?_
            refine c_iload_n G dX12_isReady_54 rfl 1 rfl ?_
            refine c_iald G (lf h_a0 59 rfl) dX12_isReady_55 (fun v4 _ => ?_)
            refine c_icmp_eq (tgt := 61) G dX12_isReady_56 (by decide) (fun _ => ?_) (fun _ => ?_)
            · skip
              refine c_iinc G (fun y__ => [(2, .int y__), (0, .ref (wB w + pz (a0))), (1, .int a1)]) dX12_isReady_61 2 rfl kI_1 (by decide) (fun _ => rfl) (fun l2_3 _ => ?_)
              refine c_goto (tgt := 2) G dX12_isReady_64 (by decide) ?_
              exact c_weak _ [1, 2, 0] rfl (ih l2_3)
            · skip
              refine c_iconst G (nI 0) dX12_isReady_59 kI_0 ?_
              exact c_zretP G hQ dX12_isReady_60
        · skip
          refine c_iinc G (fun y__ => [(2, .int y__), (0, .ref (wB w + pz (a0))), (1, .int a1)]) dX12_isReady_61 2 rfl kI_1 (by decide) (fun _ => rfl) (fun l2_4 _ => ?_)
          refine c_goto (tgt := 2) G dX12_isReady_64 (by decide) ?_
          exact c_weak _ [1, 2, 0] rfl (ih l2_4)
set_option maxHeartbeats 4000000 in
set_option maxRecDepth 100000 in
theorem con_X12_isReady {w : Wp} {N : Nat} {a0 : Nat} {a1 : Int32} {M : Mm} {q : Int32} (h_a0 : lay a0 = (5, 12)) (hq : D_X12_isReady N a0 a1 M = some q) : Con w 1 yX12_isReady cX12_isReady 3 (some .boolean) [.ref (wB w + pz (a0)), .int a1] M ((encPI M) q) := by
  refine Con.of (encPI M) q _ hq (by decide) (Nat.le_of_ble_eq_true rfl) ?_
  intro X G Q hQ
  have G : Good w X cX12_isReady 3 RX12 (some .boolean) 1 := G
  refine c_weak [(0, .ref (wB w + pz (a0))), (1, .int a1)] [0, 1] rfl ?_
  rw [D_X12_isReady]
  refine c_iconst G (nI 0) dX12_isReady_0 kI_0 ?_
  refine c_istore_n G [(2, .int (nI 0)), (0, .ref (wB w + pz (a0))), (1, .int a1)] dX12_isReady_1 rfl (by decide) rfl ?_
  refine c_weak _ [1, 2, 0] rfl (cl_X12_isReady_2 G hQ  h_a0 N (nI 0))
set_option maxHeartbeats 4000000 in
set_option maxRecDepth 100000 in
theorem cl_X12_isKnotReady_2 {w : Wp} {M : Mm} {X : Cx} {Q : State → Prop} {ρ : Int32} (G : Good w X cX12_isKnotReady 3 RX12 (some .boolean) 2) (hQ : Q = MQ (xL X) (Qd w ((encPI M) ρ)) (xA X) (xS X) (xk X) (xs X) (Aw w)) {a0 : Nat} {a1 : Int32} {N : Nat} (h_a0 : lay a0 = (5, 12)) : ∀ (n : Nat) (l2_1 : Int32), Cov w X Q ρ some 3 2 [(0, .ref (wB w + pz (a0))), (1, .int a1), (2, .int l2_1)] [] M (L_X12_isKnotReady_2 M a0 a1 N n l2_1) := by
  intro n
  induction n with
  | zero => intro l2_1; exact c_none
  | succ n ih =>
    intro l2_1
    rw [L_X12_isKnotReady_2]
    refine c_iload_n G dX12_isKnotReady_2 rfl 2 rfl ?_
    refine c_bipush G (nI 8) dX12_isKnotReady_3 kB_8 ?_
    refine c_aload_n G dX12_isKnotReady_5 rfl 0 rfl ?_
    refine c_getI G fl_X12_322 h_a0 rfl dX12_isKnotReady_6 ?_
    refine c_imul G dX12_isKnotReady_9 ?_
    refine c_icmp_ge (tgt := 48) G dX12_isKnotReady_10 (by decide) (fun _ => ?_) (fun _ => ?_)
    · skip
      refine c_iconst G (nI 1) dX12_isKnotReady_48 kI_1 ?_
      exact c_zretP G hQ dX12_isKnotReady_49
    · skip
      refine c_aload_n G dX12_isKnotReady_13 rfl 0 rfl ?_
      refine c_getF G fl_X12_126 h_a0 rfl dX12_isKnotReady_14 ?_
      refine c_iload_n G dX12_isKnotReady_17 rfl 2 rfl ?_
      refine c_zald G (lf h_a0 66 rfl) dX12_isKnotReady_18 (fun v1 _ => ?_)
      refine c_if_eq (tgt := 42) G dX12_isKnotReady_19 (by decide) (fun _ => ?_) (fun _ => ?_)
      · skip
        refine c_iinc G (fun y__ => [(2, .int y__), (0, .ref (wB w + pz (a0))), (1, .int a1)]) dX12_isKnotReady_42 2 rfl kI_1 (by decide) (fun _ => rfl) (fun l2_2 _ => ?_)
        refine c_goto (tgt := 2) G dX12_isKnotReady_45 (by decide) ?_
        exact c_weak _ [1, 2, 0] rfl (ih l2_2)
      · skip
        refine c_aload_n G dX12_isKnotReady_22 rfl 0 rfl ?_
        refine c_getF G fl_X12_105 h_a0 rfl dX12_isKnotReady_23 ?_
        refine c_iload_n G dX12_isKnotReady_26 rfl 2 rfl ?_
        refine c_iald G (lf h_a0 59 rfl) dX12_isKnotReady_27 (fun v2 _ => ?_)
        refine c_iload_n G dX12_isKnotReady_28 rfl 1 rfl ?_
        refine c_icmp_ne (tgt := 42) G dX12_isKnotReady_29 (by decide) (fun _ => ?_) (fun _ => ?_)
        · skip
          refine c_aload_n G dX12_isKnotReady_32 rfl 0 rfl ?_
          refine c_iload_n G dX12_isKnotReady_33 rfl 2 rfl ?_
          refine c_callV_PI (d := 1) (rest := []) G [.int l2_1] yv_X12_isReady ml_X12_520 (by omega) (by decide) rfl rfl (Nat.le_of_ble_eq_true rfl) h_a0 (fun q hq => con_X12_isReady h_a0 hq) dX12_isKnotReady_34 (fun q1 _ => ?_)
          refine c_if_ne (tgt := 42) G dX12_isKnotReady_37 (by decide) (fun _ => ?_) (fun _ => ?_)
          · skip
            refine c_iconst G (nI 0) dX12_isKnotReady_40 kI_0 ?_
            exact c_zretP G hQ dX12_isKnotReady_41
          · skip
            refine c_iinc G (fun y__ => [(2, .int y__), (0, .ref (wB w + pz (a0))), (1, .int a1)]) dX12_isKnotReady_42 2 rfl kI_1 (by decide) (fun _ => rfl) (fun l2_3 _ => ?_)
            refine c_goto (tgt := 2) G dX12_isKnotReady_45 (by decide) ?_
            exact c_weak _ [1, 2, 0] rfl (ih l2_3)
        · skip
          refine c_iinc G (fun y__ => [(2, .int y__), (0, .ref (wB w + pz (a0))), (1, .int a1)]) dX12_isKnotReady_42 2 rfl kI_1 (by decide) (fun _ => rfl) (fun l2_4 _ => ?_)
          refine c_goto (tgt := 2) G dX12_isKnotReady_45 (by decide) ?_
          exact c_weak _ [1, 2, 0] rfl (ih l2_4)
set_option maxHeartbeats 4000000 in
set_option maxRecDepth 100000 in
theorem con_X12_isKnotReady {w : Wp} {N : Nat} {a0 : Nat} {a1 : Int32} {M : Mm} {q : Int32} (h_a0 : lay a0 = (5, 12)) (hq : D_X12_isKnotReady N a0 a1 M = some q) : Con w 2 yX12_isKnotReady cX12_isKnotReady 3 (some .boolean) [.ref (wB w + pz (a0)), .int a1] M ((encPI M) q) := by
  refine Con.of (encPI M) q _ hq (by decide) (Nat.le_of_ble_eq_true rfl) ?_
  intro X G Q hQ
  have G : Good w X cX12_isKnotReady 3 RX12 (some .boolean) 2 := G
  refine c_weak [(0, .ref (wB w + pz (a0))), (1, .int a1)] [0, 1] rfl ?_
  rw [D_X12_isKnotReady]
  refine c_iconst G (nI 0) dX12_isKnotReady_0 kI_0 ?_
  refine c_istore_n G [(2, .int (nI 0)), (0, .ref (wB w + pz (a0))), (1, .int a1)] dX12_isKnotReady_1 rfl (by decide) rfl ?_
  refine c_weak _ [1, 2, 0] rfl (cl_X12_isKnotReady_2 G hQ  h_a0 N (nI 0))
set_option maxHeartbeats 4000000 in
set_option maxRecDepth 100000 in
theorem con_X12_joined {w : Wp} {N : Nat} {a0 : Int32} {a1 : Int32} {a2 : Int32} {M : Mm} {q : Int32} (hq : D_X12_joined N a0 a1 a2 M = some q) : Con w 1 yX12_joined cX12_joined 3 (some .int) [.int a0, .int a1, .int a2] M ((encPI M) q) := by
  refine Con.of (encPI M) q _ hq (by decide) (Nat.le_of_ble_eq_true rfl) ?_
  intro X G Q hQ
  have G : Good w X cX12_joined 3 RX12 (some .int) 1 := G
  refine c_weak [(0, .int a0), (1, .int a1), (2, .int a2)] [0, 1, 2] rfl ?_
  rw [D_X12_joined]
  refine c_iload_n G dX12_joined_0 rfl 0 rfl ?_
  refine c_lsw (off := 98) (tgt := 99) G (nI 4) dX12_joined_1 (by decide +kernel) (by decide +kernel) (by decide) (fun _ => ?_) (fun hn4 => ?_)
  · skip
    refine c_iload_n G dX12_joined_99 rfl 1 rfl ?_
    refine c_iload_n G dX12_joined_100 rfl 2 rfl ?_
    refine c_mmax G ml_X12_514 ys_J9_max_7cf53 (by omega) (Nat.le_of_ble_eq_true rfl) dX12_joined_101 ?_
    exact c_iretP G hQ dX12_joined_104
  · skip
    refine c_lsw (off := 83) (tgt := 84) G (nI 38) dX12_joined_1 (by decide +kernel) (by decide +kernel) (by decide) (fun _ => ?_) (fun hn38 => ?_)
    · skip
      refine c_iload_n G dX12_joined_84 rfl 1 rfl ?_
      refine c_iload_n G dX12_joined_85 rfl 2 rfl ?_
      refine c_iand G dX12_joined_86 ?_
      exact c_iretP G hQ dX12_joined_87
    · skip
      refine c_lsw (off := 75) (tgt := 76) G (nI 42) dX12_joined_1 (by decide +kernel) (by decide +kernel) (by decide) (fun _ => ?_) (fun hn42 => ?_)
      · skip
        refine c_iload_n G dX12_joined_76 rfl 1 rfl ?_
        refine c_iload_n G dX12_joined_77 rfl 2 rfl ?_
        refine c_imul G dX12_joined_78 ?_
        exact c_iretP G hQ dX12_joined_79
      · skip
        refine c_lsw (off := 67) (tgt := 68) G (nI 43) dX12_joined_1 (by decide +kernel) (by decide +kernel) (by decide) (fun _ => ?_) (fun hn43 => ?_)
        · skip
          refine c_iload_n G dX12_joined_68 rfl 1 rfl ?_
          refine c_iload_n G dX12_joined_69 rfl 2 rfl ?_
          refine c_iadd G dX12_joined_70 ?_
          exact c_iretP G hQ dX12_joined_71
        · skip
          refine c_lsw (off := 71) (tgt := 72) G (nI 45) dX12_joined_1 (by decide +kernel) (by decide +kernel) (by decide) (fun _ => ?_) (fun hn45 => ?_)
          · skip
            refine c_iload_n G dX12_joined_72 rfl 1 rfl ?_
            refine c_iload_n G dX12_joined_73 rfl 2 rfl ?_
            refine c_isub G dX12_joined_74 ?_
            exact c_iretP G hQ dX12_joined_75
          · skip
            refine c_lsw (off := 87) (tgt := 88) G (nI 60) dX12_joined_1 (by decide +kernel) (by decide +kernel) (by decide) (fun _ => ?_) (fun hn60 => ?_)
            · skip
              refine c_iload_n G dX12_joined_88 rfl 1 rfl ?_
              refine c_iload_n G dX12_joined_89 rfl 2 rfl ?_
              refine c_icmp_ge (tgt := 97) G dX12_joined_90 (by decide) (fun _ => ?_) (fun _ => ?_)
              · skip
                refine c_iconst G (nI 0) dX12_joined_97 kI_0 ?_
                exact c_iretP G hQ dX12_joined_98
              · skip
                refine c_iconst G (nI 1) dX12_joined_93 kI_1 ?_
                refine c_goto (tgt := 98) G dX12_joined_94 (by decide) ?_
                exact c_iretP G hQ dX12_joined_98
            · skip
              refine c_lsw (off := 79) (tgt := 80) G (nI 124) dX12_joined_1 (by decide +kernel) (by decide +kernel) (by decide) (fun _ => ?_) (fun hn124 => ?_)
              · skip
                refine c_iload_n G dX12_joined_80 rfl 1 rfl ?_
                refine c_iload_n G dX12_joined_81 rfl 2 rfl ?_
                refine c_ior G dX12_joined_82 ?_
                exact c_iretP G hQ dX12_joined_83
              · skip
                refine c_lswD (tgt := 105) G dX12_joined_1 (by decide +kernel) (by show Op.lookupswitch.offset [(4, 98), (38, 83), (42, 75), (43, 67), (45, 71), (60, 87), (124, 79)] _ _ = _; rw [lv_osw hn4 (show (nI 4).toInt = 4 by decide +kernel), lv_osw hn38 (show (nI 38).toInt = 38 by decide +kernel), lv_osw hn42 (show (nI 42).toInt = 42 by decide +kernel), lv_osw hn43 (show (nI 43).toInt = 43 by decide +kernel), lv_osw hn45 (show (nI 45).toInt = 45 by decide +kernel), lv_osw hn60 (show (nI 60).toInt = 60 by decide +kernel), lv_osw hn124 (show (nI 124).toInt = 124 by decide +kernel)]; rfl) (by decide) ?_
                refine c_iload_n G dX12_joined_105 rfl 1 rfl ?_
                refine c_iload_n G dX12_joined_106 rfl 2 rfl ?_
                refine c_mmin G ml_X12_368 ys_J9_min_7cf53 (by omega) (Nat.le_of_ble_eq_true rfl) dX12_joined_107 ?_
                exact c_iretP G hQ dX12_joined_110
set_option maxHeartbeats 4000000 in
set_option maxRecDepth 100000 in
theorem cl_X12_worked_58 {w : Wp} {X : Cx} {Q : State → Prop} {ρ : Int32 × Mm} (G : Good w X cX12_worked 7 RX12 (some .int) 2) (hQ : Q = MQ (xL X) (Qd w (encI ρ)) (xA X) (xS X) (xk X) (xs X) (Aw w)) (kE251 : Int32 → Mm → Option (Int32 × Mm)) {a0 : Nat} {l3_1 : Int32} {N : Nat} {v4 : Int32} (h_a0 : lay a0 = (5, 12)) (hE251 : ∀ (z4 : Int32), ∀ (Mz : Mm), Cov w X Q ρ some 7 251 [(0, .ref (wB w + pz (a0))), (4, .int z4)] [] Mz (kE251 z4 Mz)) : ∀ (n : Nat) (l4_1 : Int32) (l5_1 : Int32) (M1 : Mm), Cov w X Q ρ some 7 58 [(0, .ref (wB w + pz (a0))), (2, .int v4), (3, .int l3_1), (4, .int l4_1), (5, .int l5_1)] [] M1 (L_X12_worked_58 kE251 a0 l3_1 N v4 n l4_1 l5_1 M1) := by
  intro n
  induction n with
  | zero => intro l4_1 l5_1 M1; exact c_none
  | succ n ih =>
    intro l4_1 l5_1 M1
    rw [L_X12_worked_58]
    refine c_iload G dX12_worked_58 4 rfl ?_
    refine c_aload_n G dX12_worked_60 rfl 0 rfl ?_
    refine c_getF G fl_X12_13 h_a0 rfl dX12_worked_61 ?_
    refine c_sipush G (nI 464) dX12_worked_64 kS_464 ?_
    refine c_iload_n G dX12_worked_67 rfl 2 rfl ?_
    refine c_iadd G dX12_worked_68 ?_
    refine c_iald G (lf h_a0 1 rfl) dX12_worked_69 (fun v8 _ => ?_)
    refine c_icmp_ge (tgt := 251) G dX12_worked_70 (by decide) (fun _ => ?_) (fun _ => ?_)
    · skip
      exact c_weak _ [0, 3] rfl (hE251 l4_1 M1)
    · skip
      refine c_aload_n G dX12_worked_73 rfl 0 rfl ?_
      refine c_getF G fl_X12_13 h_a0 rfl dX12_worked_74 ?_
      refine c_sipush G (nI 1616) dX12_worked_77 kS_1616 ?_
      refine c_iload G dX12_worked_80 4 rfl ?_
      refine c_iadd G dX12_worked_82 ?_
      refine c_iald G (lf h_a0 1 rfl) dX12_worked_83 (fun v9 _ => ?_)
      refine c_istore G [(6, .int v9), (0, .ref (wB w + pz (a0))), (2, .int v4), (3, .int l3_1), (4, .int l4_1), (5, .int l5_1)] dX12_worked_84 (by decide) rfl ?_
      refine c_iload G dX12_worked_86 0 rfl ?_
      refine c_iconst G (nI 2) dX12_worked_88 kI_2 ?_
      refine c_icmp_gt (tgt := 160) G dX12_worked_89 (by decide) (fun _ => ?_) (fun _ => ?_)
      · skip
        refine c_iload G dX12_worked_160 0 rfl ?_
        refine c_iconst G (nI 3) dX12_worked_162 kI_3 ?_
        refine c_icmp_ne (tgt := 212) G dX12_worked_163 (by decide) (fun _ => ?_) (fun _ => ?_)
        · skip
          refine c_iinc G (fun y__ => [(4, .int y__), (6, .int v9), (0, .ref (wB w + pz (a0))), (2, .int v4), (3, .int l3_1), (5, .int l5_1)]) dX12_worked_166 4 rfl kI_m2 (by decide) (fun _ => rfl) (fun l4_2 _ => ?_)
          refine c_aload_n G dX12_worked_169 rfl 2 rfl ?_
          refine c_getF G fl_X12_145 h_a0 rfl dX12_worked_170 ?_
          refine c_iload G dX12_worked_173 0 rfl ?_
          refine c_iconst G (nI 1) dX12_worked_175 kI_1 ?_
          refine c_isub G dX12_worked_176 ?_
          refine c_aload_n G dX12_worked_177 rfl 2 rfl ?_
          refine c_getF G fl_X12_145 h_a0 rfl dX12_worked_178 ?_
          refine c_iload G dX12_worked_181 0 rfl ?_
          refine c_iconst G (nI 1) dX12_worked_183 kI_1 ?_
          refine c_isub G dX12_worked_184 ?_
          refine c_iald G (lf h_a0 73 rfl) dX12_worked_185 (fun v10 _ => ?_)
          refine c_bj (ej := fun (p208 : Int32) => [(0, .ref (wB w + pz (a0))), (2, .int v4), (3, .int l3_1), (4, .int l4_2), (5, .int l5_1)]) (sj := fun p208 => [.int p208, .int (l4_2 - (nI 1)), .ref (wB w + pz ((a0 + 43)))]) (mj := fun p208 => M1) (pj := 208) (fun p208 => ?_) (fun F hJ208 => ?_)
          · skip
            refine c_iast G (lf h_a0 73 rfl) dX12_worked_208 (fun M2 _ => ?_)
            refine c_goto (tgt := 245) G dX12_worked_209 (by decide) ?_
            refine c_iinc G (fun y__ => [(5, .int y__), (0, .ref (wB w + pz (a0))), (2, .int v4), (3, .int l3_1), (4, .int l4_2)]) dX12_worked_245 4 rfl kI_1 (by decide) (fun _ => rfl) (fun l5_2 _ => ?_)
            refine c_goto (tgt := 58) G dX12_worked_248 (by decide) ?_
            exact c_weak _ [1, 2, 3, 4, 0] rfl (ih l4_2 l5_2 M2)
          · skip
            refine c_if_eq (tgt := 199) G dX12_worked_186 (by decide) (fun _ => ?_) (fun _ => ?_)
            · skip
              refine c_aload_n G dX12_worked_199 rfl 2 rfl ?_
              refine c_getF G fl_X12_145 h_a0 rfl dX12_worked_200 ?_
              refine c_iload G dX12_worked_203 0 rfl ?_
              refine c_iconst G (nI 1) dX12_worked_205 kI_1 ?_
              refine c_iadd G dX12_worked_206 ?_
              refine c_iald G (lf h_a0 73 rfl) dX12_worked_207 (fun v11 _ => ?_)
              exact c_weak _ [2, 3, 4, 0, 5] rfl (hJ208 v11)
            · skip
              refine c_aload_n G dX12_worked_189 rfl 2 rfl ?_
              refine c_getF G fl_X12_145 h_a0 rfl dX12_worked_190 ?_
              refine c_iload G dX12_worked_193 0 rfl ?_
              refine c_iald G (lf h_a0 73 rfl) dX12_worked_195 (fun v12 _ => ?_)
              refine c_goto (tgt := 208) G dX12_worked_196 (by decide) ?_
              exact c_weak _ [2, 3, 4, 0, 5] rfl (hJ208 v12)
        · skip
          refine c_iinc G (fun y__ => [(4, .int y__), (6, .int v9), (0, .ref (wB w + pz (a0))), (2, .int v4), (3, .int l3_1), (5, .int l5_1)]) dX12_worked_212 4 rfl kI_m1 (by decide) (fun _ => rfl) (fun l4_3 _ => ?_)
          refine c_aload_n G dX12_worked_215 rfl 2 rfl ?_
          refine c_getF G fl_X12_145 h_a0 rfl dX12_worked_216 ?_
          refine c_iload G dX12_worked_219 0 rfl ?_
          refine c_iconst G (nI 1) dX12_worked_221 kI_1 ?_
          refine c_isub G dX12_worked_222 ?_
          refine c_iload G dX12_worked_223 1 rfl ?_
          refine c_aload_n G dX12_worked_225 rfl 2 rfl ?_
          refine c_getF G fl_X12_145 h_a0 rfl dX12_worked_226 ?_
          refine c_iload G dX12_worked_229 0 rfl ?_
          refine c_iconst G (nI 1) dX12_worked_231 kI_1 ?_
          refine c_isub G dX12_worked_232 ?_
          refine c_iald G (lf h_a0 73 rfl) dX12_worked_233 (fun v13 _ => ?_)
          refine c_aload_n G dX12_worked_234 rfl 2 rfl ?_
          refine c_getF G fl_X12_145 h_a0 rfl dX12_worked_235 ?_
          refine c_iload G dX12_worked_238 0 rfl ?_
          refine c_iald G (lf h_a0 73 rfl) dX12_worked_240 (fun v14 _ => ?_)
          refine c_callS_PI (d := 1) (rest := [.int (l4_3 - (nI 1)), .ref (wB w + pz ((a0 + 43)))]) G [.int v9, .int v13, .int v14] ys_X12_joined ml_X12_517 (by omega) (by decide) rfl rfl (Nat.le_of_ble_eq_true rfl) (fun q hq => con_X12_joined hq) dX12_worked_241 (fun q1 _ => ?_)
          refine c_iast G (lf h_a0 73 rfl) dX12_worked_244 (fun M3 _ => ?_)
          refine c_iinc G (fun y__ => [(5, .int y__), (4, .int l4_3), (6, .int v9), (0, .ref (wB w + pz (a0))), (2, .int v4), (3, .int l3_1)]) dX12_worked_245 5 rfl kI_1 (by decide) (fun _ => rfl) (fun l5_3 _ => ?_)
          refine c_goto (tgt := 58) G dX12_worked_248 (by decide) ?_
          exact c_weak _ [3, 4, 5, 1, 0] rfl (ih l4_3 l5_3 M3)
      · skip
        refine c_aload_n G dX12_worked_92 rfl 1 rfl ?_
        refine c_getF G fl_X12_145 h_a0 rfl dX12_worked_93 ?_
        refine c_iload G dX12_worked_96 4 rfl ?_
        refine c_iload G dX12_worked_98 0 rfl ?_
        refine c_bj (ej := fun (p153 : Int32) => [(0, .ref (wB w + pz (a0))), (2, .int v4), (3, .int l3_1), (4, .int l4_1), (5, .int l5_1)]) (sj := fun p153 => [.int p153, .int l4_1, .ref (wB w + pz ((a0 + 43)))]) (mj := fun p153 => M1) (pj := 153) (fun p153 => ?_) (fun F hJ153 => ?_)
        · skip
          refine c_iast G (lf h_a0 73 rfl) dX12_worked_153 (fun M4 _ => ?_)
          refine c_iinc G (fun y__ => [(4, .int y__), (0, .ref (wB w + pz (a0))), (2, .int v4), (3, .int l3_1), (5, .int l5_1)]) dX12_worked_154 3 rfl kI_1 (by decide) (fun _ => rfl) (fun l4_4 _ => ?_)
          refine c_goto (tgt := 245) G dX12_worked_157 (by decide) ?_
          refine c_iinc G (fun y__ => [(5, .int y__), (4, .int l4_4), (0, .ref (wB w + pz (a0))), (2, .int v4), (3, .int l3_1)]) dX12_worked_245 4 rfl kI_1 (by decide) (fun _ => rfl) (fun l5_4 _ => ?_)
          refine c_goto (tgt := 58) G dX12_worked_248 (by decide) ?_
          exact c_weak _ [2, 3, 4, 1, 0] rfl (ih l4_4 l5_4 M4)
        · skip
          refine c_if_ne (tgt := 117) G dX12_worked_100 (by decide) (fun _ => ?_) (fun _ => ?_)
          · skip
            refine c_aload_n G dX12_worked_103 rfl 1 rfl ?_
            refine c_getF G fl_X12_13 h_a0 rfl dX12_worked_104 ?_
            refine c_sipush G (nI 2716) dX12_worked_107 kS_2716 ?_
            refine c_iload G dX12_worked_110 5 rfl ?_
            refine c_iadd G dX12_worked_112 ?_
            refine c_iald G (lf h_a0 1 rfl) dX12_worked_113 (fun v15 _ => ?_)
            refine c_goto (tgt := 153) G dX12_worked_114 (by decide) ?_
            exact c_weak _ [1, 2, 3, 4, 5] rfl (hJ153 v15)
          · skip
            refine c_iload G dX12_worked_117 0 rfl ?_
            refine c_iconst G (nI 1) dX12_worked_119 kI_1 ?_
            refine c_icmp_ne (tgt := 132) G dX12_worked_120 (by decide) (fun _ => ?_) (fun _ => ?_)
            · skip
              refine c_aload_n G dX12_worked_123 rfl 1 rfl ?_
              refine c_getF G fl_X12_78 h_a0 rfl dX12_worked_124 ?_
              refine c_iload_n G dX12_worked_127 rfl 2 rfl ?_
              refine c_iald G (lf h_a0 44 rfl) dX12_worked_128 (fun v16 _ => ?_)
              refine c_goto (tgt := 153) G dX12_worked_129 (by decide) ?_
              exact c_weak _ [1, 2, 3, 4, 5] rfl (hJ153 v16)
            · skip
              refine c_aload_n G dX12_worked_132 rfl 1 rfl ?_
              refine c_getF G fl_X12_102 h_a0 rfl dX12_worked_133 ?_
              refine c_aload_n G dX12_worked_136 rfl 1 rfl ?_
              refine c_iload_n G dX12_worked_137 rfl 2 rfl ?_
              refine c_aload_n G dX12_worked_138 rfl 1 rfl ?_
              refine c_getF G fl_X12_13 h_a0 rfl dX12_worked_139 ?_
              refine c_sipush G (nI 2716) dX12_worked_142 kS_2716 ?_
              refine c_iload G dX12_worked_145 5 rfl ?_
              refine c_iadd G dX12_worked_147 ?_
              refine c_iald G (lf h_a0 1 rfl) dX12_worked_148 (fun v17 _ => ?_)
              refine c_callV_PI (d := 1) (rest := [.ref (wB w + pz ((a0 + 29))), .int l4_1, .ref (wB w + pz ((a0 + 43)))]) G [.int v4, .int v17] yv_X12_instanceOf ml_X12_508 (by omega) (by decide) rfl rfl (Nat.le_of_ble_eq_true rfl) h_a0 (fun q hq => con_X12_instanceOf h_a0 hq) dX12_worked_149 (fun q2 _ => ?_)
              refine c_iald G (lf h_a0 58 rfl) dX12_worked_152 (fun v18 _ => ?_)
              exact c_weak _ [1, 2, 3, 4, 5] rfl (hJ153 v18)
set_option maxHeartbeats 4000000 in
set_option maxRecDepth 100000 in
theorem con_X12_worked {w : Wp} {N : Nat} {a0 : Nat} {a1 : Int32} {M : Mm} {q : Int32 × Mm} (h_a0 : lay a0 = (5, 12)) (hq : D_X12_worked N a0 a1 M = some q) : Con w 2 yX12_worked cX12_worked 7 (some .int) [.ref (wB w + pz (a0)), .int a1] M (encI q) := by
  refine Con.of encI q _ hq (by decide) (Nat.le_of_ble_eq_true rfl) ?_
  intro X G Q hQ
  have G : Good w X cX12_worked 7 RX12 (some .int) 2 := G
  refine c_weak [(0, .ref (wB w + pz (a0))), (1, .int a1)] [0, 1] rfl ?_
  rw [D_X12_worked]
  refine c_aload_n G dX12_worked_0 rfl 0 rfl ?_
  refine c_getF G fl_X12_96 h_a0 rfl dX12_worked_1 ?_
  refine c_iload_n G dX12_worked_4 rfl 1 rfl ?_
  refine c_iald G (lf h_a0 56 rfl) dX12_worked_5 (fun v1 _ => ?_)
  refine c_iconst G m1 dX12_worked_6 kI_m1 ?_
  refine c_icmp_ne (tgt := 20) G dX12_worked_7 (by decide) (fun _ => ?_) (fun _ => ?_)
  · skip
    refine c_aload_n G dX12_worked_10 rfl 0 rfl ?_
    refine c_getF G fl_X12_93 h_a0 rfl dX12_worked_11 ?_
    refine c_iload_n G dX12_worked_14 rfl 1 rfl ?_
    refine c_bipush G (nI 8) dX12_worked_15 kB_8 ?_
    refine c_irem G dX12_worked_17 (fun v2 _ => ?_)
    refine c_iald G (lf h_a0 49 rfl) dX12_worked_18 (fun v3 _ => ?_)
    exact c_iret G hQ dX12_worked_19
  · skip
    refine c_aload_n G dX12_worked_20 rfl 0 rfl ?_
    refine c_getF G fl_X12_96 h_a0 rfl dX12_worked_21 ?_
    refine c_iload_n G dX12_worked_24 rfl 1 rfl ?_
    refine c_iald G (lf h_a0 56 rfl) dX12_worked_25 (fun v4 _ => ?_)
    refine c_istore_n G [(2, .int v4), (0, .ref (wB w + pz (a0))), (1, .int a1)] dX12_worked_26 rfl (by decide) rfl ?_
    refine c_bipush G (nI 32) dX12_worked_27 kB_32 ?_
    refine c_aload_n G dX12_worked_29 rfl 1 rfl ?_
    refine c_getF G fl_X12_75 h_a0 rfl dX12_worked_30 ?_
    refine c_iload_n G dX12_worked_33 rfl 0 rfl ?_
    refine c_iald G (lf h_a0 43 rfl) dX12_worked_34 (fun v5 _ => ?_)
    refine c_imul G dX12_worked_35 ?_
    refine c_aload_n G dX12_worked_36 rfl 1 rfl ?_
    refine c_getF G fl_X12_99 h_a0 rfl dX12_worked_37 ?_
    refine c_iload_n G dX12_worked_40 rfl 2 rfl ?_
    refine c_iald G (lf h_a0 57 rfl) dX12_worked_41 (fun v6 _ => ?_)
    refine c_iadd G dX12_worked_42 ?_
    refine c_let (fun l3_1 _ => ?_)
    refine c_istore_n G [(3, .int l3_1), (2, .int v4), (0, .ref (wB w + pz (a0))), (1, .int a1)] dX12_worked_43 rfl (by decide) rfl ?_
    refine c_iconst G (nI 0) dX12_worked_44 kI_0 ?_
    refine c_istore G [(4, .int (nI 0)), (3, .int l3_1), (2, .int v4), (0, .ref (wB w + pz (a0))), (1, .int a1)] dX12_worked_45 (by decide) rfl ?_
    refine c_aload_n G dX12_worked_47 rfl 3 rfl ?_
    refine c_getF G fl_X12_13 h_a0 rfl dX12_worked_48 ?_
    refine c_bipush G (nI 80) dX12_worked_51 kB_80 ?_
    refine c_iload_n G dX12_worked_53 rfl 1 rfl ?_
    refine c_iadd G dX12_worked_54 ?_
    refine c_iald G (lf h_a0 1 rfl) dX12_worked_55 (fun v7 _ => ?_)
    refine c_istore G [(5, .int v7), (4, .int (nI 0)), (3, .int l3_1), (2, .int v4), (0, .ref (wB w + pz (a0))), (1, .int a1)] dX12_worked_56 (by decide) rfl ?_
    refine c_weak _ [4, 3, 2, 1, 0] rfl (cl_X12_worked_58 G hQ _ h_a0 ?_ N (nI 0) v7 M)
    · intro l4_5 M5
      refine c_iload G dX12_worked_251 1 rfl ?_
      refine c_if_ne (tgt := 260) G dX12_worked_253 (by decide) (fun _ => ?_) (fun _ => ?_)
      · skip
        refine c_iconst G (nI 0) dX12_worked_256 kI_0 ?_
        refine c_goto (tgt := 266) G dX12_worked_257 (by decide) ?_
        exact c_iret G hQ dX12_worked_266
      · skip
        refine c_aload_n G dX12_worked_260 rfl 0 rfl ?_
        refine c_getF G fl_X12_145 h_a0 rfl dX12_worked_261 ?_
        refine c_iconst G (nI 0) dX12_worked_264 kI_0 ?_
        refine c_iald G (lf h_a0 73 rfl) dX12_worked_265 (fun v19 _ => ?_)
        exact c_iret G hQ dX12_worked_266
set_option maxHeartbeats 4000000 in
set_option maxRecDepth 100000 in
theorem cl_X12_turnsKnot_2 {w : Wp} {X : Cx} {Q : State → Prop} {ρ : Mm} (G : Good w X cX12_turnsKnot 6 RX12 none 3) (hQ : Q = MQ (xL X) (Qd w (encV ρ)) (xA X) (xS X) (xk X) (xs X) (Aw w)) (kE45 : Mm → Option (Mm)) {a0 : Nat} {a1 : Int32} (h_a0 : lay a0 = (5, 12)) (hE45 : ∀ (Mz : Mm), Cov w X Q ρ some 6 45 [(0, .ref (wB w + pz (a0))), (1, .int a1)] [] Mz (kE45 Mz)) : ∀ (n : Nat) (l2_1 : Int32) (M1 : Mm), Cov w X Q ρ some 6 2 [(0, .ref (wB w + pz (a0))), (1, .int a1), (2, .int l2_1)] [] M1 (L_X12_turnsKnot_2 kE45 a0 a1 n l2_1 M1) := by
  intro n
  induction n with
  | zero => intro l2_1 M1; exact c_none
  | succ n ih =>
    intro l2_1 M1
    rw [L_X12_turnsKnot_2]
    refine c_iload_n G dX12_turnsKnot_2 rfl 2 rfl ?_
    refine c_bipush G (nI 8) dX12_turnsKnot_3 kB_8 ?_
    refine c_aload_n G dX12_turnsKnot_5 rfl 0 rfl ?_
    refine c_getI G fl_X12_322 h_a0 rfl dX12_turnsKnot_6 ?_
    refine c_imul G dX12_turnsKnot_9 ?_
    refine c_icmp_ge (tgt := 45) G dX12_turnsKnot_10 (by decide) (fun _ => ?_) (fun _ => ?_)
    · skip
      exact c_weak _ [0, 1] rfl (hE45 M1)
    · skip
      refine c_aload_n G dX12_turnsKnot_13 rfl 0 rfl ?_
      refine c_getF G fl_X12_126 h_a0 rfl dX12_turnsKnot_14 ?_
      refine c_iload_n G dX12_turnsKnot_17 rfl 2 rfl ?_
      refine c_zald G (lf h_a0 66 rfl) dX12_turnsKnot_18 (fun v1 _ => ?_)
      refine c_if_eq (tgt := 39) G dX12_turnsKnot_19 (by decide) (fun _ => ?_) (fun _ => ?_)
      · skip
        refine c_iinc G (fun y__ => [(2, .int y__), (0, .ref (wB w + pz (a0))), (1, .int a1)]) dX12_turnsKnot_39 2 rfl kI_1 (by decide) (fun _ => rfl) (fun l2_2 _ => ?_)
        refine c_goto (tgt := 2) G dX12_turnsKnot_42 (by decide) ?_
        exact c_weak _ [1, 2, 0] rfl (ih l2_2 M1)
      · skip
        refine c_aload_n G dX12_turnsKnot_22 rfl 0 rfl ?_
        refine c_getF G fl_X12_105 h_a0 rfl dX12_turnsKnot_23 ?_
        refine c_iload_n G dX12_turnsKnot_26 rfl 2 rfl ?_
        refine c_iald G (lf h_a0 59 rfl) dX12_turnsKnot_27 (fun v2 _ => ?_)
        refine c_iload_n G dX12_turnsKnot_28 rfl 1 rfl ?_
        refine c_icmp_ne (tgt := 39) G dX12_turnsKnot_29 (by decide) (fun _ => ?_) (fun _ => ?_)
        · skip
          refine c_aload_n G dX12_turnsKnot_32 rfl 0 rfl ?_
          refine c_getF G fl_X12_102 h_a0 rfl dX12_turnsKnot_33 ?_
          refine c_iload_n G dX12_turnsKnot_36 rfl 2 rfl ?_
          refine c_iconst G (nI 0) dX12_turnsKnot_37 kI_0 ?_
          refine c_iast G (lf h_a0 58 rfl) dX12_turnsKnot_38 (fun M2 _ => ?_)
          refine c_iinc G (fun y__ => [(2, .int y__), (0, .ref (wB w + pz (a0))), (1, .int a1)]) dX12_turnsKnot_39 2 rfl kI_1 (by decide) (fun _ => rfl) (fun l2_3 _ => ?_)
          refine c_goto (tgt := 2) G dX12_turnsKnot_42 (by decide) ?_
          exact c_weak _ [1, 2, 0] rfl (ih l2_3 M2)
        · skip
          refine c_iinc G (fun y__ => [(2, .int y__), (0, .ref (wB w + pz (a0))), (1, .int a1)]) dX12_turnsKnot_39 2 rfl kI_1 (by decide) (fun _ => rfl) (fun l2_4 _ => ?_)
          refine c_goto (tgt := 2) G dX12_turnsKnot_42 (by decide) ?_
          exact c_weak _ [1, 2, 0] rfl (ih l2_4 M1)
set_option maxHeartbeats 4000000 in
set_option maxRecDepth 100000 in
theorem cl_X12_turnsKnot_67 {w : Wp} {X : Cx} {Q : State → Prop} {ρ : Mm} (G : Good w X cX12_turnsKnot 6 RX12 none 3) (hQ : Q = MQ (xL X) (Qd w (encV ρ)) (xA X) (xS X) (xk X) (xs X) (Aw w)) (kE148 : Int32 → Mm → Option (Mm)) {a0 : Nat} {a1 : Int32} {N : Nat} {l2_6 : Int32} (h_a0 : lay a0 = (5, 12)) (hE148 : ∀ (z3 : Int32), ∀ (Mz : Mm), Cov w X Q ρ some 6 148 [(0, .ref (wB w + pz (a0))), (1, .int a1), (2, .int l2_6), (3, .int z3)] [] Mz (kE148 z3 Mz)) : ∀ (n : Nat) (l3_2 : Int32) (l4_1 : Int32) (M5 : Mm), Cov w X Q ρ some 6 67 [(0, .ref (wB w + pz (a0))), (1, .int a1), (2, .int l2_6), (3, .int l3_2), (4, .int l4_1)] [] M5 (L_X12_turnsKnot_67 kE148 a0 a1 N n l3_2 l4_1 M5) := by
  intro n
  induction n with
  | zero => intro l3_2 l4_1 M5; exact c_none
  | succ n ih =>
    intro l3_2 l4_1 M5
    rw [L_X12_turnsKnot_67]
    refine c_iload G dX12_turnsKnot_67 4 rfl ?_
    refine c_bipush G (nI 8) dX12_turnsKnot_69 kB_8 ?_
    refine c_aload_n G dX12_turnsKnot_71 rfl 0 rfl ?_
    refine c_getI G fl_X12_322 h_a0 rfl dX12_turnsKnot_72 ?_
    refine c_imul G dX12_turnsKnot_75 ?_
    refine c_icmp_ge (tgt := 148) G dX12_turnsKnot_76 (by decide) (fun _ => ?_) (fun _ => ?_)
    · skip
      exact c_weak _ [0, 1, 2, 3] rfl (hE148 l3_2 M5)
    · skip
      refine c_aload_n G dX12_turnsKnot_79 rfl 0 rfl ?_
      refine c_getF G fl_X12_126 h_a0 rfl dX12_turnsKnot_80 ?_
      refine c_iload G dX12_turnsKnot_83 4 rfl ?_
      refine c_zald G (lf h_a0 66 rfl) dX12_turnsKnot_85 (fun v3 _ => ?_)
      refine c_if_eq (tgt := 142) G dX12_turnsKnot_86 (by decide) (fun _ => ?_) (fun _ => ?_)
      · skip
        refine c_iinc G (fun y__ => [(4, .int y__), (0, .ref (wB w + pz (a0))), (1, .int a1), (2, .int l2_6), (3, .int l3_2)]) dX12_turnsKnot_142 4 rfl kI_1 (by decide) (fun _ => rfl) (fun l4_2 _ => ?_)
        refine c_goto (tgt := 67) G dX12_turnsKnot_145 (by decide) ?_
        exact c_weak _ [1, 2, 3, 4, 0] rfl (ih l3_2 l4_2 M5)
      · skip
        refine c_aload_n G dX12_turnsKnot_89 rfl 0 rfl ?_
        refine c_getF G fl_X12_105 h_a0 rfl dX12_turnsKnot_90 ?_
        refine c_iload G dX12_turnsKnot_93 4 rfl ?_
        refine c_iald G (lf h_a0 59 rfl) dX12_turnsKnot_95 (fun v4 _ => ?_)
        refine c_iload_n G dX12_turnsKnot_96 rfl 1 rfl ?_
        refine c_icmp_eq (tgt := 103) G dX12_turnsKnot_97 (by decide) (fun _ => ?_) (fun _ => ?_)
        · skip
          refine c_aload_n G dX12_turnsKnot_103 rfl 0 rfl ?_
          refine c_iload G dX12_turnsKnot_104 4 rfl ?_
          refine c_callV_I (d := 2) (rest := []) G [.int l4_1] yv_X12_worked ml_X12_523 (by omega) (by decide) rfl rfl (Nat.le_of_ble_eq_true rfl) h_a0 (fun q hq => con_X12_worked h_a0 hq) dX12_turnsKnot_106 (fun q1 _ => ?_)
          refine c_istore G [(5, .int q1.1), (0, .ref (wB w + pz (a0))), (1, .int a1), (2, .int l2_6), (3, .int l3_2), (4, .int l4_1)] dX12_turnsKnot_109 (by decide) rfl ?_
          refine c_iload_n G dX12_turnsKnot_111 rfl 4 rfl ?_
          refine c_bj (ej := fun (p132 : Int32) => [(0, .ref (wB w + pz (a0))), (1, .int a1), (2, .int l2_6), (4, .int l4_1), (5, .int q1.1)]) (sj := fun p132 => [.int p132]) (mj := fun p132 => q1.2) (pj := 132) (fun p132 => ?_) (fun F hJ132 => ?_)
          · skip
            refine c_istore_n G [(3, .int p132), (0, .ref (wB w + pz (a0))), (1, .int a1), (2, .int l2_6), (4, .int l4_1), (5, .int q1.1)] dX12_turnsKnot_132 rfl (by decide) rfl ?_
            refine c_aload_n G dX12_turnsKnot_133 rfl 1 rfl ?_
            refine c_getF G fl_X12_102 h_a0 rfl dX12_turnsKnot_134 ?_
            refine c_iload G dX12_turnsKnot_137 4 rfl ?_
            refine c_iload G dX12_turnsKnot_139 5 rfl ?_
            refine c_iast G (lf h_a0 58 rfl) dX12_turnsKnot_141 (fun M6 _ => ?_)
            refine c_iinc G (fun y__ => [(4, .int y__), (3, .int p132), (0, .ref (wB w + pz (a0))), (1, .int a1), (2, .int l2_6), (5, .int q1.1)]) dX12_turnsKnot_142 4 rfl kI_1 (by decide) (fun _ => rfl) (fun l4_3 _ => ?_)
            refine c_goto (tgt := 67) G dX12_turnsKnot_145 (by decide) ?_
            exact c_weak _ [2, 3, 4, 1, 0] rfl (ih p132 l4_3 M6)
          · skip
            refine c_jn (ej := fun (p127 : Unit) => [(0, .ref (wB w + pz (a0))), (1, .int a1), (2, .int l2_6), (4, .int l4_1), (5, .int q1.1)]) (sj := fun p127 => []) (mj := fun p127 => q1.2) (pj := 127) (fun p127 => ?_) (fun J1 hJ127 => ?_)
            · skip
              refine c_iconst G (nI 1) dX12_turnsKnot_127 kI_1 ?_
              refine c_goto (tgt := 132) G dX12_turnsKnot_128 (by decide) ?_
              exact c_weak _ [0, 1, 2, 3, 4] rfl (hJ132 (nI 1))
            · skip
              refine c_if_ne (tgt := 127) G dX12_turnsKnot_112 (by decide) (fun _ => ?_) (fun _ => ?_)
              · skip
                refine c_iload G dX12_turnsKnot_115 0 rfl ?_
                refine c_aload_n G dX12_turnsKnot_117 rfl 1 rfl ?_
                refine c_getF G fl_X12_102 h_a0 rfl dX12_turnsKnot_118 ?_
                refine c_iload G dX12_turnsKnot_121 5 rfl ?_
                refine c_iald G (lf h_a0 58 rfl) dX12_turnsKnot_123 (fun v5 _ => ?_)
                refine c_icmp_eq (tgt := 131) G dX12_turnsKnot_124 (by decide) (fun _ => ?_) (fun _ => ?_)
                · skip
                  refine c_iconst G (nI 0) dX12_turnsKnot_131 kI_0 ?_
                  exact c_weak _ [1, 2, 3, 5, 0] rfl (hJ132 (nI 0))
                · skip
                  exact c_weak _ [1, 2, 3, 5, 0] rfl (hJ127 ())
              · skip
                exact c_weak _ [1, 2, 3, 5, 0] rfl (hJ127 ())
        · skip
          refine c_goto (tgt := 142) G dX12_turnsKnot_100 (by decide) ?_
          refine c_iinc G (fun y__ => [(4, .int y__), (0, .ref (wB w + pz (a0))), (1, .int a1), (2, .int l2_6), (3, .int l3_2)]) dX12_turnsKnot_142 4 rfl kI_1 (by decide) (fun _ => rfl) (fun l4_4 _ => ?_)
          refine c_goto (tgt := 67) G dX12_turnsKnot_145 (by decide) ?_
          exact c_weak _ [1, 2, 3, 4, 0] rfl (ih l3_2 l4_4 M5)
set_option maxHeartbeats 4000000 in
set_option maxRecDepth 100000 in
theorem cl_X12_turnsKnot_49 {w : Wp} {X : Cx} {Q : State → Prop} {ρ : Mm} (G : Good w X cX12_turnsKnot 6 RX12 none 3) (hQ : Q = MQ (xL X) (Qd w (encV ρ)) (xA X) (xS X) (xk X) (xs X) (Aw w)) (kE151 : Int32 → Int32 → Mm → Option (Mm)) {a0 : Nat} {a1 : Int32} {N : Nat} (h_a0 : lay a0 = (5, 12)) (hE151 : ∀ (z2 : Int32), ∀ (z3 : Int32), ∀ (Mz : Mm), Cov w X Q ρ some 6 151 [(0, .ref (wB w + pz (a0))), (1, .int a1), (2, .int z2), (3, .int z3)] [] Mz (kE151 z2 z3 Mz)) : ∀ (n : Nat) (l2_5 : Int32) (l3_1 : Int32) (M4 : Mm), Cov w X Q ρ some 6 49 [(0, .ref (wB w + pz (a0))), (1, .int a1), (2, .int l2_5), (3, .int l3_1)] [] M4 (L_X12_turnsKnot_49 kE151 a0 a1 N n l2_5 l3_1 M4) := by
  intro n
  induction n with
  | zero => intro l2_5 l3_1 M4; exact c_none
  | succ n ih =>
    intro l2_5 l3_1 M4
    rw [L_X12_turnsKnot_49]
    refine c_iload_n G dX12_turnsKnot_49 rfl 3 rfl ?_
    refine c_if_eq (tgt := 151) G dX12_turnsKnot_50 (by decide) (fun _ => ?_) (fun _ => ?_)
    · skip
      exact c_weak _ [0, 1, 2, 3] rfl (hE151 l2_5 l3_1 M4)
    · skip
      refine c_iload_n G dX12_turnsKnot_53 rfl 2 rfl ?_
      refine c_bipush G (nI 64) dX12_turnsKnot_54 kB_64 ?_
      refine c_icmp_ge (tgt := 151) G dX12_turnsKnot_56 (by decide) (fun _ => ?_) (fun _ => ?_)
      · skip
        exact c_weak _ [0, 1, 2, 3] rfl (hE151 l2_5 l3_1 M4)
      · skip
        refine c_iconst G (nI 0) dX12_turnsKnot_59 kI_0 ?_
        refine c_istore_n G [(3, .int (nI 0)), (0, .ref (wB w + pz (a0))), (1, .int a1), (2, .int l2_5)] dX12_turnsKnot_60 rfl (by decide) rfl ?_
        refine c_iinc G (fun y__ => [(2, .int y__), (3, .int (nI 0)), (0, .ref (wB w + pz (a0))), (1, .int a1)]) dX12_turnsKnot_61 3 rfl kI_1 (by decide) (fun _ => rfl) (fun l2_6 _ => ?_)
        refine c_iconst G (nI 0) dX12_turnsKnot_64 kI_0 ?_
        refine c_istore G [(4, .int (nI 0)), (2, .int l2_6), (3, .int (nI 0)), (0, .ref (wB w + pz (a0))), (1, .int a1)] dX12_turnsKnot_65 (by decide) rfl ?_
        refine c_weak _ [3, 4, 1, 2, 0] rfl (cl_X12_turnsKnot_67 G hQ _ h_a0 ?_ N (nI 0) (nI 0) M4)
        · intro l3_3 M7
          refine c_goto (tgt := 49) G dX12_turnsKnot_148 (by decide) ?_
          exact c_weak _ [0, 1, 2, 3] rfl (ih l2_6 l3_3 M7)
set_option maxHeartbeats 4000000 in
set_option maxRecDepth 100000 in
theorem cl_X12_turnsKnot_154 {w : Wp} {X : Cx} {Q : State → Prop} {ρ : Mm} (G : Good w X cX12_turnsKnot 6 RX12 none 3) (hQ : Q = MQ (xL X) (Qd w (encV ρ)) (xA X) (xS X) (xk X) (xs X) (Aw w)) {a0 : Nat} {a1 : Int32} {l2_7 : Int32} {l3_4 : Int32} (h_a0 : lay a0 = (5, 12)) : ∀ (n : Nat) (l4_5 : Int32) (M9 : Mm), Cov w X Q ρ some 6 154 [(0, .ref (wB w + pz (a0))), (1, .int a1), (2, .int l2_7), (3, .int l3_4), (4, .int l4_5)] [] M9 (L_X12_turnsKnot_154 a0 a1 l2_7 l3_4 n l4_5 M9) := by
  intro n
  induction n with
  | zero => intro l4_5 M9; exact c_none
  | succ n ih =>
    intro l4_5 M9
    rw [L_X12_turnsKnot_154]
    refine c_iload G dX12_turnsKnot_154 4 rfl ?_
    refine c_bipush G (nI 8) dX12_turnsKnot_156 kB_8 ?_
    refine c_aload_n G dX12_turnsKnot_158 rfl 0 rfl ?_
    refine c_getI G fl_X12_322 h_a0 rfl dX12_turnsKnot_159 ?_
    refine c_imul G dX12_turnsKnot_162 ?_
    refine c_icmp_ge (tgt := 220) G dX12_turnsKnot_163 (by decide) (fun _ => ?_) (fun _ => ?_)
    · skip
      exact c_vret G hQ dX12_turnsKnot_220
    · skip
      refine c_aload_n G dX12_turnsKnot_166 rfl 0 rfl ?_
      refine c_getF G fl_X12_126 h_a0 rfl dX12_turnsKnot_167 ?_
      refine c_iload G dX12_turnsKnot_170 4 rfl ?_
      refine c_zald G (lf h_a0 66 rfl) dX12_turnsKnot_172 (fun v6 _ => ?_)
      refine c_if_eq (tgt := 214) G dX12_turnsKnot_173 (by decide) (fun _ => ?_) (fun _ => ?_)
      · skip
        refine c_iinc G (fun y__ => [(4, .int y__), (0, .ref (wB w + pz (a0))), (1, .int a1), (2, .int l2_7), (3, .int l3_4)]) dX12_turnsKnot_214 4 rfl kI_1 (by decide) (fun _ => rfl) (fun l4_6 _ => ?_)
        refine c_goto (tgt := 154) G dX12_turnsKnot_217 (by decide) ?_
        exact c_weak _ [1, 2, 3, 4, 0] rfl (ih l4_6 M9)
      · skip
        refine c_aload_n G dX12_turnsKnot_176 rfl 0 rfl ?_
        refine c_getF G fl_X12_105 h_a0 rfl dX12_turnsKnot_177 ?_
        refine c_iload G dX12_turnsKnot_180 4 rfl ?_
        refine c_iald G (lf h_a0 59 rfl) dX12_turnsKnot_182 (fun v7 _ => ?_)
        refine c_iload_n G dX12_turnsKnot_183 rfl 1 rfl ?_
        refine c_icmp_eq (tgt := 190) G dX12_turnsKnot_184 (by decide) (fun _ => ?_) (fun _ => ?_)
        · skip
          refine c_aload_n G dX12_turnsKnot_190 rfl 0 rfl ?_
          refine c_getF G fl_X12_108 h_a0 rfl dX12_turnsKnot_191 ?_
          refine c_iload G dX12_turnsKnot_194 4 rfl ?_
          refine c_iload_n G dX12_turnsKnot_196 rfl 2 rfl ?_
          refine c_iast G (lf h_a0 60 rfl) dX12_turnsKnot_197 (fun M10 _ => ?_)
          refine c_aload_n G dX12_turnsKnot_198 rfl 0 rfl ?_
          refine c_getF G fl_X12_130 h_a0 rfl dX12_turnsKnot_199 ?_
          refine c_iload G dX12_turnsKnot_202 4 rfl ?_
          refine c_iload_n G dX12_turnsKnot_204 rfl 3 rfl ?_
          refine c_zast G (lf h_a0 67 rfl) dX12_turnsKnot_205 (fun M11 _ => ?_)
          refine c_aload_n G dX12_turnsKnot_206 rfl 0 rfl ?_
          refine c_getF G fl_X12_133 h_a0 rfl dX12_turnsKnot_207 ?_
          refine c_iload G dX12_turnsKnot_210 4 rfl ?_
          refine c_iconst G (nI 1) dX12_turnsKnot_212 kI_1 ?_
          refine c_zast G (lf h_a0 68 rfl) dX12_turnsKnot_213 (fun M12 _ => ?_)
          refine c_iinc G (fun y__ => [(4, .int y__), (0, .ref (wB w + pz (a0))), (1, .int a1), (2, .int l2_7), (3, .int l3_4)]) dX12_turnsKnot_214 4 rfl kI_1 (by decide) (fun _ => rfl) (fun l4_7 _ => ?_)
          refine c_goto (tgt := 154) G dX12_turnsKnot_217 (by decide) ?_
          exact c_weak _ [1, 2, 3, 4, 0] rfl (ih l4_7 M12)
        · skip
          refine c_goto (tgt := 214) G dX12_turnsKnot_187 (by decide) ?_
          refine c_iinc G (fun y__ => [(4, .int y__), (0, .ref (wB w + pz (a0))), (1, .int a1), (2, .int l2_7), (3, .int l3_4)]) dX12_turnsKnot_214 4 rfl kI_1 (by decide) (fun _ => rfl) (fun l4_8 _ => ?_)
          refine c_goto (tgt := 154) G dX12_turnsKnot_217 (by decide) ?_
          exact c_weak _ [1, 2, 3, 4, 0] rfl (ih l4_8 M9)
set_option maxHeartbeats 4000000 in
set_option maxRecDepth 100000 in
theorem con_X12_turnsKnot {w : Wp} {N : Nat} {a0 : Nat} {a1 : Int32} {M : Mm} {q : Mm} (h_a0 : lay a0 = (5, 12)) (hq : D_X12_turnsKnot N a0 a1 M = some q) : Con w 3 yX12_turnsKnot cX12_turnsKnot 6 none [.ref (wB w + pz (a0)), .int a1] M (encV q) := by
  refine Con.of encV q _ hq (by decide) (Nat.le_of_ble_eq_true rfl) ?_
  intro X G Q hQ
  have G : Good w X cX12_turnsKnot 6 RX12 none 3 := G
  refine c_weak [(0, .ref (wB w + pz (a0))), (1, .int a1)] [0, 1] rfl ?_
  rw [D_X12_turnsKnot]
  refine c_iconst G (nI 0) dX12_turnsKnot_0 kI_0 ?_
  refine c_istore_n G [(2, .int (nI 0)), (0, .ref (wB w + pz (a0))), (1, .int a1)] dX12_turnsKnot_1 rfl (by decide) rfl ?_
  refine c_weak _ [1, 2, 0] rfl (cl_X12_turnsKnot_2 G hQ _ h_a0 ?_ N (nI 0) M)
  · intro M3
    refine c_iconst G (nI 0) dX12_turnsKnot_45 kI_0 ?_
    refine c_istore_n G [(2, .int (nI 0)), (0, .ref (wB w + pz (a0))), (1, .int a1)] dX12_turnsKnot_46 rfl (by decide) rfl ?_
    refine c_iconst G (nI 1) dX12_turnsKnot_47 kI_1 ?_
    refine c_istore_n G [(3, .int (nI 1)), (2, .int (nI 0)), (0, .ref (wB w + pz (a0))), (1, .int a1)] dX12_turnsKnot_48 rfl (by decide) rfl ?_
    refine c_weak _ [2, 3, 1, 0] rfl (cl_X12_turnsKnot_49 G hQ _ h_a0 ?_ N (nI 0) (nI 1) M3)
    · intro l2_7 l3_4 M8
      refine c_iconst G (nI 0) dX12_turnsKnot_151 kI_0 ?_
      refine c_istore G [(4, .int (nI 0)), (0, .ref (wB w + pz (a0))), (1, .int a1), (2, .int l2_7), (3, .int l3_4)] dX12_turnsKnot_152 (by decide) rfl ?_
      refine c_weak _ [1, 2, 3, 4, 0] rfl (cl_X12_turnsKnot_154 G hQ  h_a0 N (nI 0) M8)
set_option maxHeartbeats 4000000 in
set_option maxRecDepth 100000 in
theorem cl_X12_settles_14 {w : Wp} {X : Cx} {Q : State → Prop} {ρ : Mm} (G : Good w X cX12_settles 3 RX12 none 4) (hQ : Q = MQ (xL X) (Qd w (encV ρ)) (xA X) (xS X) (xk X) (xs X) (Aw w)) (kE34 : Mm → Option (Mm)) {a0 : Nat} (h_a0 : lay a0 = (5, 12)) (hE34 : ∀ (Mz : Mm), Cov w X Q ρ some 3 34 [(0, .ref (wB w + pz (a0)))] [] Mz (kE34 Mz)) : ∀ (n : Nat) (l1_1 : Int32) (M4 : Mm), Cov w X Q ρ some 3 14 [(0, .ref (wB w + pz (a0))), (1, .int l1_1)] [] M4 (L_X12_settles_14 kE34 a0 n l1_1 M4) := by
  intro n
  induction n with
  | zero => intro l1_1 M4; exact c_none
  | succ n ih =>
    intro l1_1 M4
    rw [L_X12_settles_14]
    refine c_iload_n G dX12_settles_14 rfl 1 rfl ?_
    refine c_sipush G (nI 320) dX12_settles_15 kS_320 ?_
    refine c_icmp_ge (tgt := 34) G dX12_settles_18 (by decide) (fun _ => ?_) (fun _ => ?_)
    · skip
      exact c_weak _ [0] rfl (hE34 M4)
    · skip
      refine c_aload_n G dX12_settles_21 rfl 0 rfl ?_
      refine c_getF G fl_X12_133 h_a0 rfl dX12_settles_22 ?_
      refine c_iload_n G dX12_settles_25 rfl 1 rfl ?_
      refine c_iconst G (nI 0) dX12_settles_26 kI_0 ?_
      refine c_zast G (lf h_a0 68 rfl) dX12_settles_27 (fun M5 _ => ?_)
      refine c_iinc G (fun y__ => [(1, .int y__), (0, .ref (wB w + pz (a0)))]) dX12_settles_28 1 rfl kI_1 (by decide) (fun _ => rfl) (fun l1_2 _ => ?_)
      refine c_goto (tgt := 14) G dX12_settles_31 (by decide) ?_
      exact c_weak _ [1, 0] rfl (ih l1_2 M5)
set_option maxHeartbeats 4000000 in
set_option maxRecDepth 100000 in
theorem cl_X12_settles_49 {w : Wp} {X : Cx} {Q : State → Prop} {ρ : Mm} (G : Good w X cX12_settles 3 RX12 none 4) (hQ : Q = MQ (xL X) (Qd w (encV ρ)) (xA X) (xS X) (xk X) (xs X) (Aw w)) (kE191 : Int32 → Mm → Option (Mm)) {a0 : Nat} {N : Nat} (h_a0 : lay a0 = (5, 12)) (hE191 : ∀ (z1 : Int32), ∀ (Mz : Mm), Cov w X Q ρ some 3 191 [(0, .ref (wB w + pz (a0))), (1, .int z1)] [] Mz (kE191 z1 Mz)) : ∀ (n : Nat) (l1_4 : Int32) (l2_1 : Int32) (M9 : Mm), Cov w X Q ρ some 3 49 [(0, .ref (wB w + pz (a0))), (1, .int l1_4), (2, .int l2_1)] [] M9 (L_X12_settles_49 kE191 a0 N n l1_4 l2_1 M9) := by
  intro n
  induction n with
  | zero => intro l1_4 l2_1 M9; exact c_none
  | succ n ih =>
    intro l1_4 l2_1 M9
    rw [L_X12_settles_49]
    refine c_iload_n G dX12_settles_49 rfl 2 rfl ?_
    refine c_bipush G (nI 8) dX12_settles_50 kB_8 ?_
    refine c_aload_n G dX12_settles_52 rfl 0 rfl ?_
    refine c_getI G fl_X12_322 h_a0 rfl dX12_settles_53 ?_
    refine c_imul G dX12_settles_56 ?_
    refine c_icmp_ge (tgt := 191) G dX12_settles_57 (by decide) (fun _ => ?_) (fun _ => ?_)
    · skip
      exact c_weak _ [0, 1] rfl (hE191 l1_4 M9)
    · skip
      refine c_aload_n G dX12_settles_60 rfl 0 rfl ?_
      refine c_getF G fl_X12_126 h_a0 rfl dX12_settles_61 ?_
      refine c_iload_n G dX12_settles_64 rfl 2 rfl ?_
      refine c_zald G (lf h_a0 66 rfl) dX12_settles_65 (fun v1 _ => ?_)
      refine c_if_eq (tgt := 185) G dX12_settles_66 (by decide) (fun _ => ?_) (fun _ => ?_)
      · skip
        refine c_iinc G (fun y__ => [(2, .int y__), (0, .ref (wB w + pz (a0))), (1, .int l1_4)]) dX12_settles_185 2 rfl kI_1 (by decide) (fun _ => rfl) (fun l2_2 _ => ?_)
        refine c_goto (tgt := 49) G dX12_settles_188 (by decide) ?_
        exact c_weak _ [1, 2, 0] rfl (ih l1_4 l2_2 M9)
      · skip
        refine c_aload_n G dX12_settles_69 rfl 0 rfl ?_
        refine c_getF G fl_X12_133 h_a0 rfl dX12_settles_70 ?_
        refine c_iload_n G dX12_settles_73 rfl 2 rfl ?_
        refine c_zald G (lf h_a0 68 rfl) dX12_settles_74 (fun v2 _ => ?_)
        refine c_if_ne (tgt := 185) G dX12_settles_75 (by decide) (fun _ => ?_) (fun _ => ?_)
        · skip
          refine c_aload_n G dX12_settles_78 rfl 0 rfl ?_
          refine c_getF G fl_X12_105 h_a0 rfl dX12_settles_79 ?_
          refine c_iload_n G dX12_settles_82 rfl 2 rfl ?_
          refine c_iald G (lf h_a0 59 rfl) dX12_settles_83 (fun v3 _ => ?_)
          refine c_iconst G m1 dX12_settles_84 kI_m1 ?_
          refine c_jn (ej := fun (p96 : Unit) => [(0, .ref (wB w + pz (a0))), (1, .int l1_4), (2, .int l2_1)]) (sj := fun p96 => []) (mj := fun p96 => M9) (pj := 96) (fun p96 => ?_) (fun J2 hJ96 => ?_)
          · skip
            refine c_aload_n G dX12_settles_96 rfl 0 rfl ?_
            refine c_getF G fl_X12_105 h_a0 rfl dX12_settles_97 ?_
            refine c_iload_n G dX12_settles_100 rfl 2 rfl ?_
            refine c_iald G (lf h_a0 59 rfl) dX12_settles_101 (fun v4 _ => ?_)
            refine c_iconst G m1 dX12_settles_102 kI_m1 ?_
            refine c_jn (ej := fun (p127 : Unit) => [(0, .ref (wB w + pz (a0))), (2, .int l2_1)]) (sj := fun p127 => []) (mj := fun p127 => M9) (pj := 127) (fun p127 => ?_) (fun J1 hJ127 => ?_)
            · skip
              refine c_aload_n G dX12_settles_127 rfl 0 rfl ?_
              refine c_getF G fl_X12_105 h_a0 rfl dX12_settles_128 ?_
              refine c_iload_n G dX12_settles_131 rfl 1 rfl ?_
              refine c_iald G (lf h_a0 59 rfl) dX12_settles_132 (fun v5 _ => ?_)
              refine c_iconst G m1 dX12_settles_133 kI_m1 ?_
              refine c_bj (ej := fun (p163 : Mm) => [(0, .ref (wB w + pz (a0))), (2, .int l2_1)]) (sj := fun p163 => []) (mj := fun p163 => p163) (pj := 163) (fun p163 => ?_) (fun F hJ163 => ?_)
              · skip
                refine c_aload_n G dX12_settles_163 rfl 0 rfl ?_
                refine c_getF G fl_X12_111 h_a0 rfl dX12_settles_164 ?_
                refine c_aload_n G dX12_settles_167 rfl 0 rfl ?_
                refine c_getI G fl_X12_535 h_a0 rfl dX12_settles_168 ?_
                refine c_iload_n G dX12_settles_171 rfl 1 rfl ?_
                refine c_iast G (lf h_a0 61 rfl) dX12_settles_172 (fun M11 _ => ?_)
                refine c_aload_n G dX12_settles_173 rfl 0 rfl ?_
                refine c_dup G dX12_settles_174 rfl ?_
                refine c_getI G fl_X12_535 h_a0 rfl dX12_settles_175 ?_
                refine c_iconst G (nI 1) dX12_settles_178 kI_1 ?_
                refine c_iadd G dX12_settles_179 ?_
                refine c_putI G fp_X12_535 h_a0 rfl dX12_settles_180 (fun M12 _ => ?_)
                refine c_iconst G (nI 1) dX12_settles_183 kI_1 ?_
                refine c_istore_n G [(1, .int (nI 1)), (0, .ref (wB w + pz (a0))), (2, .int l2_1)] dX12_settles_184 rfl (by decide) rfl ?_
                refine c_iinc G (fun y__ => [(2, .int y__), (1, .int (nI 1)), (0, .ref (wB w + pz (a0)))]) dX12_settles_185 2 rfl kI_1 (by decide) (fun _ => rfl) (fun l2_3 _ => ?_)
                refine c_goto (tgt := 49) G dX12_settles_188 (by decide) ?_
                exact c_weak _ [2, 1, 0] rfl (ih (nI 1) l2_3 M12)
              · skip
                refine c_icmp_ne (tgt := 158) G dX12_settles_134 (by decide) (fun _ => ?_) (fun _ => ?_)
                · skip
                  refine c_aload_n G dX12_settles_137 rfl 0 rfl ?_
                  refine c_getF G fl_X12_102 h_a0 rfl dX12_settles_138 ?_
                  refine c_iload_n G dX12_settles_141 rfl 1 rfl ?_
                  refine c_aload_n G dX12_settles_142 rfl 0 rfl ?_
                  refine c_iload_n G dX12_settles_143 rfl 1 rfl ?_
                  refine c_callV_I (d := 2) (rest := [.int l2_1, .ref (wB w + pz ((a0 + 29)))]) G [.int l2_1] yv_X12_worked ml_X12_523 (by omega) (by decide) rfl rfl (Nat.le_of_ble_eq_true rfl) h_a0 (fun q hq => con_X12_worked h_a0 hq) dX12_settles_144 (fun q1 _ => ?_)
                  refine c_iast G (lf h_a0 58 rfl) dX12_settles_147 (fun M13 _ => ?_)
                  refine c_aload_n G dX12_settles_148 rfl 0 rfl ?_
                  refine c_getF G fl_X12_133 h_a0 rfl dX12_settles_149 ?_
                  refine c_iload_n G dX12_settles_152 rfl 1 rfl ?_
                  refine c_iconst G (nI 1) dX12_settles_153 kI_1 ?_
                  refine c_zast G (lf h_a0 68 rfl) dX12_settles_154 (fun M14 _ => ?_)
                  refine c_goto (tgt := 163) G dX12_settles_155 (by decide) ?_
                  exact c_weak _ [0, 1] rfl (hJ163 M14)
                · skip
                  refine c_aload_n G dX12_settles_158 rfl 0 rfl ?_
                  refine c_iload_n G dX12_settles_159 rfl 1 rfl ?_
                  refine c_callV_V (d := 3) (rest := []) G [.int l2_1] yv_X12_turnsKnot ml_X12_541 (by omega) (by decide) rfl rfl (Nat.le_of_ble_eq_true rfl) h_a0 (fun q hq => con_X12_turnsKnot h_a0 hq) dX12_settles_160 (fun M15 _ => ?_)
                  exact c_weak _ [0, 1] rfl (hJ163 M15)
            · skip
              refine c_icmp_eq (tgt := 127) G dX12_settles_103 (by decide) (fun _ => ?_) (fun _ => ?_)
              · skip
                exact c_weak _ [0, 2] rfl (hJ127 ())
              · skip
                refine c_aload_n G dX12_settles_106 rfl 0 rfl ?_
                refine c_getF G fl_X12_105 h_a0 rfl dX12_settles_107 ?_
                refine c_iload_n G dX12_settles_110 rfl 2 rfl ?_
                refine c_iald G (lf h_a0 59 rfl) dX12_settles_111 (fun v6 _ => ?_)
                refine c_iload_n G dX12_settles_112 rfl 2 rfl ?_
                refine c_icmp_ne (tgt := 185) G dX12_settles_113 (by decide) (fun _ => ?_) (fun _ => ?_)
                · skip
                  refine c_aload_n G dX12_settles_116 rfl 0 rfl ?_
                  refine c_iload_n G dX12_settles_117 rfl 2 rfl ?_
                  refine c_callV_PI (d := 2) (rest := []) G [.int l2_1] yv_X12_isKnotReady ml_X12_538 (by omega) (by decide) rfl rfl (Nat.le_of_ble_eq_true rfl) h_a0 (fun q hq => con_X12_isKnotReady h_a0 hq) dX12_settles_118 (fun q2 _ => ?_)
                  refine c_if_ne (tgt := 127) G dX12_settles_121 (by decide) (fun _ => ?_) (fun _ => ?_)
                  · skip
                    refine c_goto (tgt := 185) G dX12_settles_124 (by decide) ?_
                    refine c_iinc G (fun y__ => [(2, .int y__), (0, .ref (wB w + pz (a0))), (1, .int l1_4)]) dX12_settles_185 2 rfl kI_1 (by decide) (fun _ => rfl) (fun l2_4 _ => ?_)
                    refine c_goto (tgt := 49) G dX12_settles_188 (by decide) ?_
                    exact c_weak _ [1, 2, 0] rfl (ih l1_4 l2_4 M9)
                  · skip
                    exact c_weak _ [0, 2] rfl (hJ127 ())
                · skip
                  refine c_iinc G (fun y__ => [(2, .int y__), (0, .ref (wB w + pz (a0))), (1, .int l1_4)]) dX12_settles_185 2 rfl kI_1 (by decide) (fun _ => rfl) (fun l2_5 _ => ?_)
                  refine c_goto (tgt := 49) G dX12_settles_188 (by decide) ?_
                  exact c_weak _ [1, 2, 0] rfl (ih l1_4 l2_5 M9)
          · skip
            refine c_icmp_ne (tgt := 96) G dX12_settles_85 (by decide) (fun _ => ?_) (fun _ => ?_)
            · skip
              refine c_aload_n G dX12_settles_88 rfl 0 rfl ?_
              refine c_iload_n G dX12_settles_89 rfl 2 rfl ?_
              refine c_callV_PI (d := 1) (rest := []) G [.int l2_1] yv_X12_isReady ml_X12_520 (by omega) (by decide) rfl rfl (Nat.le_of_ble_eq_true rfl) h_a0 (fun q hq => con_X12_isReady h_a0 hq) dX12_settles_90 (fun q3 _ => ?_)
              refine c_if_eq (tgt := 185) G dX12_settles_93 (by decide) (fun _ => ?_) (fun _ => ?_)
              · skip
                refine c_iinc G (fun y__ => [(2, .int y__), (0, .ref (wB w + pz (a0))), (1, .int l1_4)]) dX12_settles_185 2 rfl kI_1 (by decide) (fun _ => rfl) (fun l2_6 _ => ?_)
                refine c_goto (tgt := 49) G dX12_settles_188 (by decide) ?_
                exact c_weak _ [1, 2, 0] rfl (ih l1_4 l2_6 M9)
              · skip
                exact c_weak _ [0, 1, 2] rfl (hJ96 ())
            · skip
              exact c_weak _ [0, 1, 2] rfl (hJ96 ())
        · skip
          refine c_iinc G (fun y__ => [(2, .int y__), (0, .ref (wB w + pz (a0))), (1, .int l1_4)]) dX12_settles_185 2 rfl kI_1 (by decide) (fun _ => rfl) (fun l2_7 _ => ?_)
          refine c_goto (tgt := 49) G dX12_settles_188 (by decide) ?_
          exact c_weak _ [1, 2, 0] rfl (ih l1_4 l2_7 M9)
set_option maxHeartbeats 4000000 in
set_option maxRecDepth 100000 in
theorem cl_X12_settles_41 {w : Wp} {X : Cx} {Q : State → Prop} {ρ : Mm} (G : Good w X cX12_settles 3 RX12 none 4) (hQ : Q = MQ (xL X) (Qd w (encV ρ)) (xA X) (xS X) (xk X) (xs X) (Aw w)) {a0 : Nat} {N : Nat} (h_a0 : lay a0 = (5, 12)) : ∀ (n : Nat) (l1_3 : Int32) (M8 : Mm), Cov w X Q ρ some 3 41 [(0, .ref (wB w + pz (a0))), (1, .int l1_3)] [] M8 (L_X12_settles_41 a0 N n l1_3 M8) := by
  intro n
  induction n with
  | zero => intro l1_3 M8; exact c_none
  | succ n ih =>
    intro l1_3 M8
    rw [L_X12_settles_41]
    refine c_iload_n G dX12_settles_41 rfl 1 rfl ?_
    refine c_if_eq (tgt := 194) G dX12_settles_42 (by decide) (fun _ => ?_) (fun _ => ?_)
    · skip
      exact c_vret G hQ dX12_settles_194
    · skip
      refine c_iconst G (nI 0) dX12_settles_45 kI_0 ?_
      refine c_istore_n G [(1, .int (nI 0)), (0, .ref (wB w + pz (a0)))] dX12_settles_46 rfl (by decide) rfl ?_
      refine c_iconst G (nI 0) dX12_settles_47 kI_0 ?_
      refine c_istore_n G [(2, .int (nI 0)), (1, .int (nI 0)), (0, .ref (wB w + pz (a0)))] dX12_settles_48 rfl (by decide) rfl ?_
      refine c_weak _ [2, 1, 0] rfl (cl_X12_settles_49 G hQ _ h_a0 ?_ N (nI 0) (nI 0) M8)
      · intro l1_5 M16
        refine c_goto (tgt := 41) G dX12_settles_191 (by decide) ?_
        exact c_weak _ [0, 1] rfl (ih l1_5 M16)
set_option maxHeartbeats 4000000 in
set_option maxRecDepth 100000 in
theorem con_X12_settles {w : Wp} {N : Nat} {a0 : Nat} {M : Mm} {q : Mm} (h_a0 : lay a0 = (5, 12)) (hq : D_X12_settles N a0 M = some q) : Con w 4 yX12_settles cX12_settles 3 none [.ref (wB w + pz (a0))] M (encV q) := by
  refine Con.of encV q _ hq (by decide) (Nat.le_of_ble_eq_true rfl) ?_
  intro X G Q hQ
  have G : Good w X cX12_settles 3 RX12 none 4 := G
  refine c_weak [(0, .ref (wB w + pz (a0)))] [0] rfl ?_
  rw [D_X12_settles]
  refine c_aload_n G dX12_settles_0 rfl 0 rfl ?_
  refine c_callV_V (d := 3) (rest := []) G [] yv_X12_laysBases ml_X12_526 (by omega) (by decide) rfl rfl (Nat.le_of_ble_eq_true rfl) h_a0 (fun q hq => con_X12_laysBases h_a0 hq) dX12_settles_1 (fun M1 _ => ?_)
  refine c_aload_n G dX12_settles_4 rfl 0 rfl ?_
  refine c_callV_V (d := 2) (rest := []) G [] yv_X12_laysReach ml_X12_529 (by omega) (by decide) rfl rfl (Nat.le_of_ble_eq_true rfl) h_a0 (fun q hq => con_X12_laysReach h_a0 hq) dX12_settles_5 (fun M2 _ => ?_)
  refine c_aload_n G dX12_settles_8 rfl 0 rfl ?_
  refine c_callV_V (d := 1) (rest := []) G [] yv_X12_laysKnots ml_X12_532 (by omega) (by decide) rfl rfl (Nat.le_of_ble_eq_true rfl) h_a0 (fun q hq => con_X12_laysKnots h_a0 hq) dX12_settles_9 (fun M3 _ => ?_)
  refine c_iconst G (nI 0) dX12_settles_12 kI_0 ?_
  refine c_istore_n G [(1, .int (nI 0)), (0, .ref (wB w + pz (a0)))] dX12_settles_13 rfl (by decide) rfl ?_
  refine c_weak _ [1, 0] rfl (cl_X12_settles_14 G hQ _ h_a0 ?_ N (nI 0) M3)
  · intro M6
    refine c_aload_n G dX12_settles_34 rfl 0 rfl ?_
    refine c_iconst G (nI 0) dX12_settles_35 kI_0 ?_
    refine c_putI G fp_X12_535 h_a0 rfl dX12_settles_36 (fun M7 _ => ?_)
    refine c_iconst G (nI 1) dX12_settles_39 kI_1 ?_
    refine c_istore_n G [(1, .int (nI 1)), (0, .ref (wB w + pz (a0)))] dX12_settles_40 rfl (by decide) rfl ?_
    refine c_weak _ [1, 0] rfl (cl_X12_settles_41 G hQ  h_a0 N (nI 1) M7)
set_option maxHeartbeats 4000000 in
set_option maxRecDepth 100000 in
theorem cl_X12_tree_67 {w : Wp} {X : Cx} {Q : State → Prop} {ρ : Int32 × Mm} (G : Good w X cX12_tree 3 RX12 (some .int) 19) (hQ : Q = MQ (xL X) (Qd w (encI ρ)) (xA X) (xS X) (xk X) (xs X) (Aw w)) (kE117 : Mm → Option (Int32 × Mm)) {a0 : Nat} (h_a0 : lay a0 = (5, 12)) (hE117 : ∀ (Mz : Mm), Cov w X Q ρ some 3 117 [(0, .ref (wB w + pz (a0)))] [] Mz (kE117 Mz)) : ∀ (n : Nat) (l2_1 : Int32) (M3 : Mm), Cov w X Q ρ some 3 67 [(0, .ref (wB w + pz (a0))), (2, .int l2_1)] [] M3 (L_X12_tree_67 kE117 a0 n l2_1 M3) := by
  intro n
  induction n with
  | zero => intro l2_1 M3; exact c_none
  | succ n ih =>
    intro l2_1 M3
    rw [L_X12_tree_67]
    refine c_iload_n G dX12_tree_67 rfl 1 rfl ?_
    refine c_aload_n G dX12_tree_68 rfl 0 rfl ?_
    refine c_getI G fl_X12_322 h_a0 rfl dX12_tree_69 ?_
    refine c_icmp_ge (tgt := 117) G dX12_tree_72 (by decide) (fun _ => ?_) (fun _ => ?_)
    · skip
      exact c_weak _ [0] rfl (hE117 M3)
    · skip
      refine c_aload_n G dX12_tree_75 rfl 0 rfl ?_
      refine c_getF G fl_X12_75 h_a0 rfl dX12_tree_76 ?_
      refine c_iload_n G dX12_tree_79 rfl 1 rfl ?_
      refine c_aload_n G dX12_tree_80 rfl 0 rfl ?_
      refine c_getF G fl_X12_84 h_a0 rfl dX12_tree_81 ?_
      refine c_iload_n G dX12_tree_84 rfl 1 rfl ?_
      refine c_iald G (lf h_a0 46 rfl) dX12_tree_85 (fun v1 _ => ?_)
      refine c_iast G (lf h_a0 43 rfl) dX12_tree_86 (fun M4 _ => ?_)
      refine c_aload_n G dX12_tree_87 rfl 0 rfl ?_
      refine c_getF G fl_X12_78 h_a0 rfl dX12_tree_88 ?_
      refine c_iload_n G dX12_tree_91 rfl 1 rfl ?_
      refine c_aload_n G dX12_tree_92 rfl 0 rfl ?_
      refine c_getF G fl_X12_87 h_a0 rfl dX12_tree_93 ?_
      refine c_iload_n G dX12_tree_96 rfl 1 rfl ?_
      refine c_iald G (lf h_a0 47 rfl) dX12_tree_97 (fun v2 _ => ?_)
      refine c_iast G (lf h_a0 44 rfl) dX12_tree_98 (fun M5 _ => ?_)
      refine c_aload_n G dX12_tree_99 rfl 0 rfl ?_
      refine c_getF G fl_X12_81 h_a0 rfl dX12_tree_100 ?_
      refine c_iload_n G dX12_tree_103 rfl 1 rfl ?_
      refine c_aload_n G dX12_tree_104 rfl 0 rfl ?_
      refine c_getF G fl_X12_90 h_a0 rfl dX12_tree_105 ?_
      refine c_iload_n G dX12_tree_108 rfl 1 rfl ?_
      refine c_iald G (lf h_a0 48 rfl) dX12_tree_109 (fun v3 _ => ?_)
      refine c_iast G (lf h_a0 45 rfl) dX12_tree_110 (fun M6 _ => ?_)
      refine c_iinc G (fun y__ => [(2, .int y__), (0, .ref (wB w + pz (a0)))]) dX12_tree_111 1 rfl kI_1 (by decide) (fun _ => rfl) (fun l2_2 _ => ?_)
      refine c_goto (tgt := 67) G dX12_tree_114 (by decide) ?_
      exact c_weak _ [1, 0] rfl (ih l2_2 M6)
set_option maxHeartbeats 4000000 in
set_option maxRecDepth 100000 in
theorem cl_X12_tree_119 {w : Wp} {X : Cx} {Q : State → Prop} {ρ : Int32 × Mm} (G : Good w X cX12_tree 3 RX12 (some .int) 19) (hQ : Q = MQ (xL X) (Qd w (encI ρ)) (xA X) (xS X) (xk X) (xs X) (Aw w)) (kE137 : Mm → Option (Int32 × Mm)) {a0 : Nat} (h_a0 : lay a0 = (5, 12)) (hE137 : ∀ (Mz : Mm), Cov w X Q ρ some 3 137 [(0, .ref (wB w + pz (a0)))] [] Mz (kE137 Mz)) : ∀ (n : Nat) (l2_3 : Int32) (M8 : Mm), Cov w X Q ρ some 3 119 [(0, .ref (wB w + pz (a0))), (2, .int l2_3)] [] M8 (L_X12_tree_119 kE137 a0 n l2_3 M8) := by
  intro n
  induction n with
  | zero => intro l2_3 M8; exact c_none
  | succ n ih =>
    intro l2_3 M8
    rw [L_X12_tree_119]
    refine c_iload_n G dX12_tree_119 rfl 1 rfl ?_
    refine c_iconst G (nI 4) dX12_tree_120 kI_4 ?_
    refine c_icmp_ge (tgt := 137) G dX12_tree_121 (by decide) (fun _ => ?_) (fun _ => ?_)
    · skip
      exact c_weak _ [0] rfl (hE137 M8)
    · skip
      refine c_aload_n G dX12_tree_124 rfl 0 rfl ?_
      refine c_getF G fl_X12_93 h_a0 rfl dX12_tree_125 ?_
      refine c_iload_n G dX12_tree_128 rfl 1 rfl ?_
      refine c_iconst G (nI 0) dX12_tree_129 kI_0 ?_
      refine c_iast G (lf h_a0 49 rfl) dX12_tree_130 (fun M9 _ => ?_)
      refine c_iinc G (fun y__ => [(2, .int y__), (0, .ref (wB w + pz (a0)))]) dX12_tree_131 1 rfl kI_1 (by decide) (fun _ => rfl) (fun l2_4 _ => ?_)
      refine c_goto (tgt := 119) G dX12_tree_134 (by decide) ?_
      exact c_weak _ [1, 0] rfl (ih l2_4 M9)
set_option maxHeartbeats 4000000 in
set_option maxRecDepth 100000 in
theorem con_X12_tree {w : Wp} {N : Nat} {a0 : Nat} {a1 : Int32} {M : Mm} {q : Int32 × Mm} (h_a0 : lay a0 = (5, 12)) (hq : D_X12_tree N a0 a1 M = some q) : Con w 19 yX12_tree cX12_tree 3 (some .int) [.ref (wB w + pz (a0)), .int a1] M (encI q) := by
  refine Con.of encI q _ hq (by decide) (Nat.le_of_ble_eq_true rfl) ?_
  intro X G Q hQ
  have G : Good w X cX12_tree 3 RX12 (some .int) 19 := G
  refine c_weak [(0, .ref (wB w + pz (a0))), (1, .int a1)] [0, 1] rfl ?_
  rw [D_X12_tree]
  refine c_iload_n G dX12_tree_0 rfl 1 rfl ?_
  refine c_iconst G (nI 0) dX12_tree_1 kI_0 ?_
  refine c_aload_n G dX12_tree_2 rfl 0 rfl ?_
  refine c_getI G fl_X12_154 h_a0 rfl dX12_tree_3 ?_
  refine c_callS_PI (d := 0) (rest := []) G [.int a1, .int (nI 0), .int (M.1 a0 5)] ys_X12_isFrom ml_X12_246 (by omega) (by decide) rfl rfl (Nat.le_of_ble_eq_true rfl) (fun q hq => con_X12_isFrom hq) dX12_tree_6 (fun q1 _ => ?_)
  refine c_if_ne (tgt := 18) G dX12_tree_9 (by decide) (fun _ => ?_) (fun _ => ?_)
  · skip
    refine c_aload_n G dX12_tree_12 rfl 0 rfl ?_
    refine c_iconst G (nI 1) dX12_tree_13 kI_1 ?_
    refine c_callV_I (d := 0) (rest := []) G [.int (nI 1)] yv_X12_refuse ml_X12_305 (by omega) (by decide) rfl rfl (Nat.le_of_ble_eq_true rfl) h_a0 (fun q hq => con_X12_refuse h_a0 hq) dX12_tree_14 (fun q2 _ => ?_)
    exact c_iret G hQ dX12_tree_17
  · skip
    refine c_aload_n G dX12_tree_18 rfl 0 rfl ?_
    refine c_getI G fl_X12_318 h_a0 rfl dX12_tree_19 ?_
    refine c_if_ne (tgt := 31) G dX12_tree_22 (by decide) (fun _ => ?_) (fun _ => ?_)
    · skip
      refine c_aload_n G dX12_tree_25 rfl 0 rfl ?_
      refine c_iconst G (nI 2) dX12_tree_26 kI_2 ?_
      refine c_callV_I (d := 0) (rest := []) G [.int (nI 2)] yv_X12_refuse ml_X12_305 (by omega) (by decide) rfl rfl (Nat.le_of_ble_eq_true rfl) h_a0 (fun q hq => con_X12_refuse h_a0 hq) dX12_tree_27 (fun q3 _ => ?_)
      exact c_iret G hQ dX12_tree_30
    · skip
      refine c_aload_n G dX12_tree_31 rfl 0 rfl ?_
      refine c_iconst G (nI 0) dX12_tree_32 kI_0 ?_
      refine c_putI G fp_X12_466 h_a0 rfl dX12_tree_33 (fun M1 _ => ?_)
      refine c_aload_n G dX12_tree_36 rfl 0 rfl ?_
      refine c_aload_n G dX12_tree_37 rfl 0 rfl ?_
      refine c_iload_n G dX12_tree_38 rfl 1 rfl ?_
      refine c_iconst G m1 dX12_tree_39 kI_m1 ?_
      refine c_iconst G (nI 1) dX12_tree_40 kI_1 ?_
      refine c_callV_I (d := 18) (rest := [.ref (wB w + pz (a0))]) G [.int a1, .int m1, .int (nI 1)] yv_X12_readTree ml_X12_475 (by omega) (by decide) rfl rfl (Nat.le_of_ble_eq_true rfl) h_a0 (fun q hq => con_X12_readTree h_a0 hq) dX12_tree_41 (fun q4 _ => ?_)
      refine c_callV_I (d := 0) (rest := []) G [.int q4.1] yv_X12_ends ml_X12_314 (by omega) (by decide) rfl rfl (Nat.le_of_ble_eq_true rfl) h_a0 (fun q hq => con_X12_ends h_a0 hq) dX12_tree_44 (fun q5 _ => ?_)
      refine c_if_le (tgt := 57) G dX12_tree_47 (by decide) (fun _ => ?_) (fun _ => ?_)
      · skip
        refine c_aload_n G dX12_tree_57 rfl 0 rfl ?_
        refine c_aload_n G dX12_tree_58 rfl 0 rfl ?_
        refine c_getI G fl_X12_469 h_a0 rfl dX12_tree_59 ?_
        refine c_putI G fp_X12_322 h_a0 rfl dX12_tree_62 (fun M2 _ => ?_)
        refine c_iconst G (nI 0) dX12_tree_65 kI_0 ?_
        refine c_istore_n G [(2, .int (nI 0)), (0, .ref (wB w + pz (a0))), (1, .int a1)] dX12_tree_66 rfl (by decide) rfl ?_
        refine c_weak _ [1, 0] rfl (cl_X12_tree_67 G hQ _ h_a0 ?_ N (nI 0) M2)
        · intro M7
          refine c_iconst G (nI 0) dX12_tree_117 kI_0 ?_
          refine c_istore_n G [(2, .int (nI 0)), (0, .ref (wB w + pz (a0)))] dX12_tree_118 rfl (by decide) rfl ?_
          refine c_weak _ [1, 0] rfl (cl_X12_tree_119 G hQ _ h_a0 ?_ N (nI 0) M7)
          · intro M10
            refine c_aload_n G dX12_tree_137 rfl 0 rfl ?_
            refine c_iconst G (nI 0) dX12_tree_138 kI_0 ?_
            refine c_putZ G fp_X12_478 h_a0 rfl dX12_tree_139 (fun M11 _ => ?_)
            refine c_aload_n G dX12_tree_142 rfl 0 rfl ?_
            refine c_callV_V (d := 4) (rest := []) G [] yv_X12_settles ml_X12_481 (by omega) (by decide) rfl rfl (Nat.le_of_ble_eq_true rfl) h_a0 (fun q hq => con_X12_settles h_a0 hq) dX12_tree_143 (fun M12 _ => ?_)
            refine c_aload_n G dX12_tree_146 rfl 0 rfl ?_
            refine c_aload_n G dX12_tree_147 rfl 0 rfl ?_
            refine c_getI G fl_X12_322 h_a0 rfl dX12_tree_148 ?_
            refine c_callV_I (d := 0) (rest := []) G [.int (M12.1 a0 50)] yv_X12_gives ml_X12_328 (by omega) (by decide) rfl rfl (Nat.le_of_ble_eq_true rfl) h_a0 (fun q hq => con_X12_gives h_a0 hq) dX12_tree_151 (fun q6 _ => ?_)
            exact c_iret G hQ dX12_tree_154
      · skip
        refine c_aload_n G dX12_tree_50 rfl 0 rfl ?_
        refine c_bipush G (nI 9) dX12_tree_51 kB_9 ?_
        refine c_callV_I (d := 0) (rest := []) G [.int (nI 9)] yv_X12_refuse ml_X12_305 (by omega) (by decide) rfl rfl (Nat.le_of_ble_eq_true rfl) h_a0 (fun q hq => con_X12_refuse h_a0 hq) dX12_tree_53 (fun q7 _ => ?_)
        exact c_iret G hQ dX12_tree_56
set_option maxHeartbeats 4000000 in
set_option maxRecDepth 100000 in
theorem cl_X12_sizeOf_2 {w : Wp} {M : Mm} {X : Cx} {Q : State → Prop} {ρ : Int32} (G : Good w X cX12_sizeOf 3 RX12 (some .int) 0) (hQ : Q = MQ (xL X) (Qd w ((encPI M) ρ)) (xA X) (xS X) (xk X) (xs X) (Aw w)) {a0 : Nat} {a1 : Int32} (h_a0 : lay a0 = (5, 12)) : ∀ (n : Nat) (l2_1 : Int32), Cov w X Q ρ some 3 2 [(0, .ref (wB w + pz (a0))), (1, .int a1), (2, .int l2_1)] [] M (L_X12_sizeOf_2 M a0 a1 n l2_1) := by
  intro n
  induction n with
  | zero => intro l2_1; exact c_none
  | succ n ih =>
    intro l2_1
    rw [L_X12_sizeOf_2]
    refine c_iload_n G dX12_sizeOf_2 rfl 1 rfl ?_
    refine c_iload_n G dX12_sizeOf_3 rfl 2 rfl ?_
    refine c_iadd G dX12_sizeOf_4 ?_
    refine c_aload_n G dX12_sizeOf_5 rfl 0 rfl ?_
    refine c_getI G fl_X12_322 h_a0 rfl dX12_sizeOf_6 ?_
    refine c_icmp_ge (tgt := 30) G dX12_sizeOf_9 (by decide) (fun _ => ?_) (fun _ => ?_)
    · skip
      refine c_iload_n G dX12_sizeOf_30 rfl 2 rfl ?_
      exact c_iretP G hQ dX12_sizeOf_31
    · skip
      refine c_aload_n G dX12_sizeOf_12 rfl 0 rfl ?_
      refine c_getF G fl_X12_81 h_a0 rfl dX12_sizeOf_13 ?_
      refine c_iload_n G dX12_sizeOf_16 rfl 1 rfl ?_
      refine c_iload_n G dX12_sizeOf_17 rfl 2 rfl ?_
      refine c_iadd G dX12_sizeOf_18 ?_
      refine c_iald G (lf h_a0 45 rfl) dX12_sizeOf_19 (fun v1 _ => ?_)
      refine c_iload_n G dX12_sizeOf_20 rfl 1 rfl ?_
      refine c_icmp_lt (tgt := 30) G dX12_sizeOf_21 (by decide) (fun _ => ?_) (fun _ => ?_)
      · skip
        refine c_iload_n G dX12_sizeOf_30 rfl 2 rfl ?_
        exact c_iretP G hQ dX12_sizeOf_31
      · skip
        refine c_iinc G (fun y__ => [(2, .int y__), (0, .ref (wB w + pz (a0))), (1, .int a1)]) dX12_sizeOf_24 2 rfl kI_1 (by decide) (fun _ => rfl) (fun l2_2 _ => ?_)
        refine c_goto (tgt := 2) G dX12_sizeOf_27 (by decide) ?_
        exact c_weak _ [1, 2, 0] rfl (ih l2_2)
set_option maxHeartbeats 4000000 in
set_option maxRecDepth 100000 in
theorem con_X12_sizeOf {w : Wp} {N : Nat} {a0 : Nat} {a1 : Int32} {M : Mm} {q : Int32} (h_a0 : lay a0 = (5, 12)) (hq : D_X12_sizeOf N a0 a1 M = some q) : Con w 0 yX12_sizeOf cX12_sizeOf 3 (some .int) [.ref (wB w + pz (a0)), .int a1] M ((encPI M) q) := by
  refine Con.of (encPI M) q _ hq (by decide) (Nat.le_of_ble_eq_true rfl) ?_
  intro X G Q hQ
  have G : Good w X cX12_sizeOf 3 RX12 (some .int) 0 := G
  refine c_weak [(0, .ref (wB w + pz (a0))), (1, .int a1)] [0, 1] rfl ?_
  rw [D_X12_sizeOf]
  refine c_iconst G (nI 1) dX12_sizeOf_0 kI_1 ?_
  refine c_istore_n G [(2, .int (nI 1)), (0, .ref (wB w + pz (a0))), (1, .int a1)] dX12_sizeOf_1 rfl (by decide) rfl ?_
  refine c_weak _ [1, 2, 0] rfl (cl_X12_sizeOf_2 G hQ  h_a0 N (nI 1))
set_option maxHeartbeats 4000000 in
set_option maxRecDepth 100000 in
theorem conB_X12_depthOf {w : Wp} {N : Nat} {dd : Nat} {rc : Nat → Int32 → Mm → Option (Int32)} {a0 : Nat} {a1 : Int32} {M : Mm} {q : Int32} (hdd : 0 ≤ dd) (hrc : ∀ (b0 : Nat) (b1 : Int32) (M : Mm) (q : Int32), lay b0 = (5, 12) → rc b0 b1 M = some q → Con w dd yX12_depthOf cX12_depthOf 2 (some .int) [.ref (wB w + pz (b0)), .int b1] M ((encPI M) q)) (h_a0 : lay a0 = (5, 12)) (hq : DB_X12_depthOf N rc a0 a1 M = some q) : Con w (dd + 1) yX12_depthOf cX12_depthOf 2 (some .int) [.ref (wB w + pz (a0)), .int a1] M ((encPI M) q) := by
  refine Con.of (encPI M) q _ hq (by decide) (Nat.le_of_ble_eq_true rfl) ?_
  intro X G Q hQ
  have G : Good w X cX12_depthOf 2 RX12 (some .int) (dd + 1) := G
  refine c_weak [(0, .ref (wB w + pz (a0))), (1, .int a1)] [0, 1] rfl ?_
  rw [DB_X12_depthOf]
  refine c_aload_n G dX12_depthOf_0 rfl 0 rfl ?_
  refine c_getF G fl_X12_81 h_a0 rfl dX12_depthOf_1 ?_
  refine c_iload_n G dX12_depthOf_4 rfl 1 rfl ?_
  refine c_iald G (lf h_a0 45 rfl) dX12_depthOf_5 (fun v1 _ => ?_)
  refine c_iconst G m1 dX12_depthOf_6 kI_m1 ?_
  refine c_icmp_ne (tgt := 14) G dX12_depthOf_7 (by decide) (fun _ => ?_) (fun _ => ?_)
  · skip
    refine c_iconst G (nI 0) dX12_depthOf_10 kI_0 ?_
    refine c_goto (tgt := 26) G dX12_depthOf_11 (by decide) ?_
    exact c_iretP G hQ dX12_depthOf_26
  · skip
    refine c_aload_n G dX12_depthOf_14 rfl 0 rfl ?_
    refine c_aload_n G dX12_depthOf_15 rfl 0 rfl ?_
    refine c_getF G fl_X12_81 h_a0 rfl dX12_depthOf_16 ?_
    refine c_iload_n G dX12_depthOf_19 rfl 1 rfl ?_
    refine c_iald G (lf h_a0 45 rfl) dX12_depthOf_20 (fun v2 _ => ?_)
    refine c_callV_PI (d := dd) (rest := []) G [.int v2] yv_X12_depthOf ml_X12_490 (by omega) (by decide) rfl rfl (Nat.le_of_ble_eq_true rfl) h_a0 (fun q hq => hrc a0 v2 M q h_a0 hq) dX12_depthOf_21 (fun q1 _ => ?_)
    refine c_iconst G (nI 1) dX12_depthOf_24 kI_1 ?_
    refine c_iadd G dX12_depthOf_25 ?_
    exact c_iretP G hQ dX12_depthOf_26
theorem con_X12_depthOf_f {w : Wp} {N : Nat} : ∀ (fu : Nat) (a0 : Nat) (a1 : Int32) (M : Mm) (q : Int32), lay a0 = (5, 12) → D_X12_depthOf N fu a0 a1 M = some q → Con w (0 + 1 * fu) yX12_depthOf cX12_depthOf 2 (some .int) [.ref (wB w + pz (a0)), .int a1] M ((encPI M) q) := by
  intro fu
  induction fu with
  | zero => intro a0 a1 M q h_a0 h; cases h
  | succ fu ih =>
    intro a0 a1 M q h_a0 h
    exact conB_X12_depthOf (dd := 0 + 1 * fu) (by omega) (fun a0 a1 M q h_a0 h => ih a0 a1 M q h_a0 h) h_a0 h
theorem con_X12_depthOf {w : Wp} {N : Nat} {a0 : Nat} {a1 : Int32} {M : Mm} {q : Int32} (h_a0 : lay a0 = (5, 12)) (hq : D_X12_depthOf N 14 a0 a1 M = some q) : Con w 14 yX12_depthOf cX12_depthOf 2 (some .int) [.ref (wB w + pz (a0)), .int a1] M ((encPI M) q) := con_X12_depthOf_f 14 a0 a1 M q h_a0 hq
set_option maxHeartbeats 4000000 in
set_option maxRecDepth 100000 in
theorem con_X12_node {w : Wp} {N : Nat} {a0 : Nat} {a1 : Int32} {a2 : Int32} {M : Mm} {q : Int32 × Mm} (h_a0 : lay a0 = (5, 12)) (hq : D_X12_node N a0 a1 a2 M = some q) : Con w 15 yX12_node cX12_node 3 (some .int) [.ref (wB w + pz (a0)), .int a1, .int a2] M (encI q) := by
  refine Con.of encI q _ hq (by decide) (Nat.le_of_ble_eq_true rfl) ?_
  intro X G Q hQ
  have G : Good w X cX12_node 3 RX12 (some .int) 15 := G
  refine c_weak [(0, .ref (wB w + pz (a0))), (1, .int a1), (2, .int a2)] [0, 1, 2] rfl ?_
  rw [D_X12_node]
  refine c_iload_n G dX12_node_0 rfl 2 rfl ?_
  refine c_iconst G (nI 0) dX12_node_1 kI_0 ?_
  refine c_bipush G (nI 8) dX12_node_2 kB_8 ?_
  refine c_callS_PI (d := 0) (rest := []) G [.int a2, .int (nI 0), .int (nI 8)] ys_X12_isFrom ml_X12_246 (by omega) (by decide) rfl rfl (Nat.le_of_ble_eq_true rfl) (fun q hq => con_X12_isFrom hq) dX12_node_4 (fun q1 _ => ?_)
  refine c_if_ne (tgt := 16) G dX12_node_7 (by decide) (fun _ => ?_) (fun _ => ?_)
  · skip
    refine c_aload_n G dX12_node_10 rfl 0 rfl ?_
    refine c_iconst G (nI 1) dX12_node_11 kI_1 ?_
    refine c_callV_I (d := 0) (rest := []) G [.int (nI 1)] yv_X12_refuse ml_X12_305 (by omega) (by decide) rfl rfl (Nat.le_of_ble_eq_true rfl) h_a0 (fun q hq => con_X12_refuse h_a0 hq) dX12_node_12 (fun q2 _ => ?_)
    exact c_iret G hQ dX12_node_15
  · skip
    refine c_aload_n G dX12_node_16 rfl 0 rfl ?_
    refine c_getI G fl_X12_322 h_a0 rfl dX12_node_17 ?_
    refine c_if_ne (tgt := 29) G dX12_node_20 (by decide) (fun _ => ?_) (fun _ => ?_)
    · skip
      refine c_aload_n G dX12_node_23 rfl 0 rfl ?_
      refine c_iconst G (nI 3) dX12_node_24 kI_3 ?_
      refine c_callV_I (d := 0) (rest := []) G [.int (nI 3)] yv_X12_refuse ml_X12_305 (by omega) (by decide) rfl rfl (Nat.le_of_ble_eq_true rfl) h_a0 (fun q hq => con_X12_refuse h_a0 hq) dX12_node_25 (fun q3 _ => ?_)
      exact c_iret G hQ dX12_node_28
    · skip
      refine c_aload_n G dX12_node_29 rfl 0 rfl ?_
      refine c_iload_n G dX12_node_30 rfl 1 rfl ?_
      refine c_callV_PI (d := 1) (rest := []) G [.int a1] yv_X12_isNode ml_X12_484 (by omega) (by decide) rfl rfl (Nat.le_of_ble_eq_true rfl) h_a0 (fun q hq => con_X12_isNode h_a0 hq) dX12_node_31 (fun q4 _ => ?_)
      refine c_if_ne (tgt := 43) G dX12_node_34 (by decide) (fun _ => ?_) (fun _ => ?_)
      · skip
        refine c_aload_n G dX12_node_37 rfl 0 rfl ?_
        refine c_iconst G (nI 4) dX12_node_38 kI_4 ?_
        refine c_callV_I (d := 0) (rest := []) G [.int (nI 4)] yv_X12_refuse ml_X12_305 (by omega) (by decide) rfl rfl (Nat.le_of_ble_eq_true rfl) h_a0 (fun q hq => con_X12_refuse h_a0 hq) dX12_node_39 (fun q5 _ => ?_)
        exact c_iret G hQ dX12_node_42
      · skip
        refine c_iload_n G dX12_node_43 rfl 2 rfl ?_
        refine c_tsw (tgt := 92) G (nI 0) 0 dX12_node_44 (by decide +kernel) (by decide +kernel) rfl (by decide) (fun _ => ?_) (fun hn0 => ?_)
        · skip
          refine c_aload_n G dX12_node_92 rfl 0 rfl ?_
          refine c_aload_n G dX12_node_93 rfl 0 rfl ?_
          refine c_getF G fl_X12_75 h_a0 rfl dX12_node_94 ?_
          refine c_iload_n G dX12_node_97 rfl 1 rfl ?_
          refine c_iald G (lf h_a0 43 rfl) dX12_node_98 (fun v1 _ => ?_)
          refine c_callV_I (d := 0) (rest := []) G [.int v1] yv_X12_gives ml_X12_328 (by omega) (by decide) rfl rfl (Nat.le_of_ble_eq_true rfl) h_a0 (fun q hq => con_X12_gives h_a0 hq) dX12_node_99 (fun q6 _ => ?_)
          exact c_iret G hQ dX12_node_102
        · skip
          refine c_tsw (tgt := 103) G (nI 1) 1 dX12_node_44 (by decide +kernel) (by decide +kernel) rfl (by decide) (fun _ => ?_) (fun hn1 => ?_)
          · skip
            refine c_aload_n G dX12_node_103 rfl 0 rfl ?_
            refine c_aload_n G dX12_node_104 rfl 0 rfl ?_
            refine c_getF G fl_X12_78 h_a0 rfl dX12_node_105 ?_
            refine c_iload_n G dX12_node_108 rfl 1 rfl ?_
            refine c_iald G (lf h_a0 44 rfl) dX12_node_109 (fun v2 _ => ?_)
            refine c_callV_I (d := 0) (rest := []) G [.int v2] yv_X12_gives ml_X12_328 (by omega) (by decide) rfl rfl (Nat.le_of_ble_eq_true rfl) h_a0 (fun q hq => con_X12_gives h_a0 hq) dX12_node_110 (fun q7 _ => ?_)
            exact c_iret G hQ dX12_node_113
          · skip
            refine c_tsw (tgt := 114) G (nI 2) 2 dX12_node_44 (by decide +kernel) (by decide +kernel) rfl (by decide) (fun _ => ?_) (fun hn2 => ?_)
            · skip
              refine c_aload_n G dX12_node_114 rfl 0 rfl ?_
              refine c_aload_n G dX12_node_115 rfl 0 rfl ?_
              refine c_getF G fl_X12_81 h_a0 rfl dX12_node_116 ?_
              refine c_iload_n G dX12_node_119 rfl 1 rfl ?_
              refine c_iald G (lf h_a0 45 rfl) dX12_node_120 (fun v3 _ => ?_)
              refine c_callV_I (d := 0) (rest := []) G [.int v3] yv_X12_gives ml_X12_328 (by omega) (by decide) rfl rfl (Nat.le_of_ble_eq_true rfl) h_a0 (fun q hq => con_X12_gives h_a0 hq) dX12_node_121 (fun q8 _ => ?_)
              exact c_iret G hQ dX12_node_124
            · skip
              refine c_tsw (tgt := 125) G (nI 3) 3 dX12_node_44 (by decide +kernel) (by decide +kernel) rfl (by decide) (fun _ => ?_) (fun hn3 => ?_)
              · skip
                refine c_aload_n G dX12_node_125 rfl 0 rfl ?_
                refine c_aload_n G dX12_node_126 rfl 0 rfl ?_
                refine c_getF G fl_X12_13 h_a0 rfl dX12_node_127 ?_
                refine c_bipush G (nI 32) dX12_node_130 kB_32 ?_
                refine c_aload_n G dX12_node_132 rfl 0 rfl ?_
                refine c_getF G fl_X12_75 h_a0 rfl dX12_node_133 ?_
                refine c_iload_n G dX12_node_136 rfl 1 rfl ?_
                refine c_iald G (lf h_a0 43 rfl) dX12_node_137 (fun v4 _ => ?_)
                refine c_iadd G dX12_node_138 ?_
                refine c_iald G (lf h_a0 1 rfl) dX12_node_139 (fun v5 _ => ?_)
                refine c_callV_I (d := 0) (rest := []) G [.int v5] yv_X12_gives ml_X12_328 (by omega) (by decide) rfl rfl (Nat.le_of_ble_eq_true rfl) h_a0 (fun q hq => con_X12_gives h_a0 hq) dX12_node_140 (fun q9 _ => ?_)
                exact c_iret G hQ dX12_node_143
              · skip
                refine c_tsw (tgt := 144) G (nI 4) 4 dX12_node_44 (by decide +kernel) (by decide +kernel) rfl (by decide) (fun _ => ?_) (fun hn4 => ?_)
                · skip
                  refine c_iload_n G dX12_node_144 rfl 2 rfl ?_
                  refine c_iconst G (nI 4) dX12_node_145 kI_4 ?_
                  refine c_isub G dX12_node_146 ?_
                  refine c_aload_n G dX12_node_147 rfl 0 rfl ?_
                  refine c_getF G fl_X12_13 h_a0 rfl dX12_node_148 ?_
                  refine c_bipush G (nI 32) dX12_node_151 kB_32 ?_
                  refine c_aload_n G dX12_node_153 rfl 0 rfl ?_
                  refine c_getF G fl_X12_75 h_a0 rfl dX12_node_154 ?_
                  refine c_iload_n G dX12_node_157 rfl 1 rfl ?_
                  refine c_iald G (lf h_a0 43 rfl) dX12_node_158 (fun v6 _ => ?_)
                  refine c_iadd G dX12_node_159 ?_
                  refine c_iald G (lf h_a0 1 rfl) dX12_node_160 (fun v7 _ => ?_)
                  refine c_icmp_ge (tgt := 179) G dX12_node_161 (by decide) (fun _ => ?_) (fun _ => ?_)
                  · skip
                    refine c_aload_n G dX12_node_179 rfl 0 rfl ?_
                    refine c_bipush G (nI 7) dX12_node_180 kB_7 ?_
                    refine c_callV_I (d := 0) (rest := []) G [.int (nI 7)] yv_X12_refuse ml_X12_305 (by omega) (by decide) rfl rfl (Nat.le_of_ble_eq_true rfl) h_a0 (fun q hq => con_X12_refuse h_a0 hq) dX12_node_182 (fun q10 _ => ?_)
                    exact c_iret G hQ dX12_node_185
                  · skip
                    refine c_aload_n G dX12_node_164 rfl 0 rfl ?_
                    refine c_aload_n G dX12_node_165 rfl 0 rfl ?_
                    refine c_iload_n G dX12_node_166 rfl 1 rfl ?_
                    refine c_iload_n G dX12_node_167 rfl 2 rfl ?_
                    refine c_iconst G (nI 4) dX12_node_168 kI_4 ?_
                    refine c_isub G dX12_node_169 ?_
                    refine c_callV_PI (d := 0) (rest := [.ref (wB w + pz (a0))]) G [.int a1, .int (a2 - (nI 4))] yv_X12_child ml_X12_493 (by omega) (by decide) rfl rfl (Nat.le_of_ble_eq_true rfl) h_a0 (fun q hq => con_X12_child h_a0 hq) dX12_node_170 (fun q11 _ => ?_)
                    refine c_callV_I (d := 0) (rest := []) G [.int q11] yv_X12_gives ml_X12_328 (by omega) (by decide) rfl rfl (Nat.le_of_ble_eq_true rfl) h_a0 (fun q hq => con_X12_gives h_a0 hq) dX12_node_173 (fun q12 _ => ?_)
                    refine c_goto (tgt := 185) G dX12_node_176 (by decide) ?_
                    exact c_iret G hQ dX12_node_185
                · skip
                  refine c_tsw (tgt := 144) G (nI 5) 5 dX12_node_44 (by decide +kernel) (by decide +kernel) rfl (by decide) (fun _ => ?_) (fun hn5 => ?_)
                  · skip
                    refine c_iload_n G dX12_node_144 rfl 2 rfl ?_
                    refine c_iconst G (nI 4) dX12_node_145 kI_4 ?_
                    refine c_isub G dX12_node_146 ?_
                    refine c_aload_n G dX12_node_147 rfl 0 rfl ?_
                    refine c_getF G fl_X12_13 h_a0 rfl dX12_node_148 ?_
                    refine c_bipush G (nI 32) dX12_node_151 kB_32 ?_
                    refine c_aload_n G dX12_node_153 rfl 0 rfl ?_
                    refine c_getF G fl_X12_75 h_a0 rfl dX12_node_154 ?_
                    refine c_iload_n G dX12_node_157 rfl 1 rfl ?_
                    refine c_iald G (lf h_a0 43 rfl) dX12_node_158 (fun v8 _ => ?_)
                    refine c_iadd G dX12_node_159 ?_
                    refine c_iald G (lf h_a0 1 rfl) dX12_node_160 (fun v9 _ => ?_)
                    refine c_icmp_ge (tgt := 179) G dX12_node_161 (by decide) (fun _ => ?_) (fun _ => ?_)
                    · skip
                      refine c_aload_n G dX12_node_179 rfl 0 rfl ?_
                      refine c_bipush G (nI 7) dX12_node_180 kB_7 ?_
                      refine c_callV_I (d := 0) (rest := []) G [.int (nI 7)] yv_X12_refuse ml_X12_305 (by omega) (by decide) rfl rfl (Nat.le_of_ble_eq_true rfl) h_a0 (fun q hq => con_X12_refuse h_a0 hq) dX12_node_182 (fun q13 _ => ?_)
                      exact c_iret G hQ dX12_node_185
                    · skip
                      refine c_aload_n G dX12_node_164 rfl 0 rfl ?_
                      refine c_aload_n G dX12_node_165 rfl 0 rfl ?_
                      refine c_iload_n G dX12_node_166 rfl 1 rfl ?_
                      refine c_iload_n G dX12_node_167 rfl 2 rfl ?_
                      refine c_iconst G (nI 4) dX12_node_168 kI_4 ?_
                      refine c_isub G dX12_node_169 ?_
                      refine c_callV_PI (d := 0) (rest := [.ref (wB w + pz (a0))]) G [.int a1, .int (a2 - (nI 4))] yv_X12_child ml_X12_493 (by omega) (by decide) rfl rfl (Nat.le_of_ble_eq_true rfl) h_a0 (fun q hq => con_X12_child h_a0 hq) dX12_node_170 (fun q14 _ => ?_)
                      refine c_callV_I (d := 0) (rest := []) G [.int q14] yv_X12_gives ml_X12_328 (by omega) (by decide) rfl rfl (Nat.le_of_ble_eq_true rfl) h_a0 (fun q hq => con_X12_gives h_a0 hq) dX12_node_173 (fun q15 _ => ?_)
                      refine c_goto (tgt := 185) G dX12_node_176 (by decide) ?_
                      exact c_iret G hQ dX12_node_185
                  · skip
                    refine c_tsw (tgt := 144) G (nI 6) 6 dX12_node_44 (by decide +kernel) (by decide +kernel) rfl (by decide) (fun _ => ?_) (fun hn6 => ?_)
                    · skip
                      refine c_iload_n G dX12_node_144 rfl 2 rfl ?_
                      refine c_iconst G (nI 4) dX12_node_145 kI_4 ?_
                      refine c_isub G dX12_node_146 ?_
                      refine c_aload_n G dX12_node_147 rfl 0 rfl ?_
                      refine c_getF G fl_X12_13 h_a0 rfl dX12_node_148 ?_
                      refine c_bipush G (nI 32) dX12_node_151 kB_32 ?_
                      refine c_aload_n G dX12_node_153 rfl 0 rfl ?_
                      refine c_getF G fl_X12_75 h_a0 rfl dX12_node_154 ?_
                      refine c_iload_n G dX12_node_157 rfl 1 rfl ?_
                      refine c_iald G (lf h_a0 43 rfl) dX12_node_158 (fun v10 _ => ?_)
                      refine c_iadd G dX12_node_159 ?_
                      refine c_iald G (lf h_a0 1 rfl) dX12_node_160 (fun v11 _ => ?_)
                      refine c_icmp_ge (tgt := 179) G dX12_node_161 (by decide) (fun _ => ?_) (fun _ => ?_)
                      · skip
                        refine c_aload_n G dX12_node_179 rfl 0 rfl ?_
                        refine c_bipush G (nI 7) dX12_node_180 kB_7 ?_
                        refine c_callV_I (d := 0) (rest := []) G [.int (nI 7)] yv_X12_refuse ml_X12_305 (by omega) (by decide) rfl rfl (Nat.le_of_ble_eq_true rfl) h_a0 (fun q hq => con_X12_refuse h_a0 hq) dX12_node_182 (fun q16 _ => ?_)
                        exact c_iret G hQ dX12_node_185
                      · skip
                        refine c_aload_n G dX12_node_164 rfl 0 rfl ?_
                        refine c_aload_n G dX12_node_165 rfl 0 rfl ?_
                        refine c_iload_n G dX12_node_166 rfl 1 rfl ?_
                        refine c_iload_n G dX12_node_167 rfl 2 rfl ?_
                        refine c_iconst G (nI 4) dX12_node_168 kI_4 ?_
                        refine c_isub G dX12_node_169 ?_
                        refine c_callV_PI (d := 0) (rest := [.ref (wB w + pz (a0))]) G [.int a1, .int (a2 - (nI 4))] yv_X12_child ml_X12_493 (by omega) (by decide) rfl rfl (Nat.le_of_ble_eq_true rfl) h_a0 (fun q hq => con_X12_child h_a0 hq) dX12_node_170 (fun q17 _ => ?_)
                        refine c_callV_I (d := 0) (rest := []) G [.int q17] yv_X12_gives ml_X12_328 (by omega) (by decide) rfl rfl (Nat.le_of_ble_eq_true rfl) h_a0 (fun q hq => con_X12_gives h_a0 hq) dX12_node_173 (fun q18 _ => ?_)
                        refine c_goto (tgt := 185) G dX12_node_176 (by decide) ?_
                        exact c_iret G hQ dX12_node_185
                    · skip
                      refine c_tsw (tgt := 186) G (nI 7) 7 dX12_node_44 (by decide +kernel) (by decide +kernel) rfl (by decide) (fun _ => ?_) (fun hn7 => ?_)
                      · skip
                        refine c_aload_n G dX12_node_186 rfl 0 rfl ?_
                        refine c_aload_n G dX12_node_187 rfl 0 rfl ?_
                        refine c_iload_n G dX12_node_188 rfl 1 rfl ?_
                        refine c_callV_PI (d := 0) (rest := [.ref (wB w + pz (a0))]) G [.int a1] yv_X12_sizeOf ml_X12_496 (by omega) (by decide) rfl rfl (Nat.le_of_ble_eq_true rfl) h_a0 (fun q hq => con_X12_sizeOf h_a0 hq) dX12_node_189 (fun q19 _ => ?_)
                        refine c_callV_I (d := 0) (rest := []) G [.int q19] yv_X12_gives ml_X12_328 (by omega) (by decide) rfl rfl (Nat.le_of_ble_eq_true rfl) h_a0 (fun q hq => con_X12_gives h_a0 hq) dX12_node_192 (fun q20 _ => ?_)
                        exact c_iret G hQ dX12_node_195
                      · skip
                        have hm0 := lv_neT hn0 (show (nI 0).toInt = 0 by decide +kernel)
                        have hm1 := lv_neT hn1 (show (nI 1).toInt = 1 by decide +kernel)
                        have hm2 := lv_neT hn2 (show (nI 2).toInt = 2 by decide +kernel)
                        have hm3 := lv_neT hn3 (show (nI 3).toInt = 3 by decide +kernel)
                        have hm4 := lv_neT hn4 (show (nI 4).toInt = 4 by decide +kernel)
                        have hm5 := lv_neT hn5 (show (nI 5).toInt = 5 by decide +kernel)
                        have hm6 := lv_neT hn6 (show (nI 6).toInt = 6 by decide +kernel)
                        have hm7 := lv_neT hn7 (show (nI 7).toInt = 7 by decide +kernel)
                        refine c_tswD (tgt := 196) G dX12_node_44 (by omega) (by decide) ?_
                        refine c_aload_n G dX12_node_196 rfl 0 rfl ?_
                        refine c_aload_n G dX12_node_197 rfl 0 rfl ?_
                        refine c_iload_n G dX12_node_198 rfl 1 rfl ?_
                        refine c_callV_PI (d := 14) (rest := [.ref (wB w + pz (a0))]) G [.int a1] yv_X12_depthOf ml_X12_490 (by omega) (by decide) rfl rfl (Nat.le_of_ble_eq_true rfl) h_a0 (fun q hq => con_X12_depthOf h_a0 hq) dX12_node_199 (fun q21 _ => ?_)
                        refine c_callV_I (d := 0) (rest := []) G [.int q21] yv_X12_gives ml_X12_328 (by omega) (by decide) rfl rfl (Nat.le_of_ble_eq_true rfl) h_a0 (fun q hq => con_X12_gives h_a0 hq) dX12_node_202 (fun q22 _ => ?_)
                        exact c_iret G hQ dX12_node_205
set_option maxHeartbeats 4000000 in
set_option maxRecDepth 100000 in
theorem con_X12_hasTree {w : Wp} {N : Nat} {a0 : Nat} {M : Mm} {q : Int32} (h_a0 : lay a0 = (5, 12)) (hq : D_X12_hasTree N a0 M = some q) : Con w 0 yX12_hasTree cX12_hasTree 1 (some .boolean) [.ref (wB w + pz (a0))] M ((encPI M) q) := by
  refine Con.of (encPI M) q _ hq (by decide) (Nat.le_of_ble_eq_true rfl) ?_
  intro X G Q hQ
  have G : Good w X cX12_hasTree 1 RX12 (some .boolean) 0 := G
  refine c_weak [(0, .ref (wB w + pz (a0)))] [0] rfl ?_
  rw [D_X12_hasTree]
  refine c_aload_n G dX12_hasTree_0 rfl 0 rfl ?_
  refine c_getI G fl_X12_322 h_a0 rfl dX12_hasTree_1 ?_
  refine c_if_le (tgt := 11) G dX12_hasTree_4 (by decide) (fun _ => ?_) (fun _ => ?_)
  · skip
    refine c_iconst G (nI 0) dX12_hasTree_11 kI_0 ?_
    exact c_zretP G hQ dX12_hasTree_12
  · skip
    refine c_iconst G (nI 1) dX12_hasTree_7 kI_1 ?_
    refine c_goto (tgt := 12) G dX12_hasTree_8 (by decide) ?_
    exact c_zretP G hQ dX12_hasTree_12
set_option maxHeartbeats 4000000 in
set_option maxRecDepth 100000 in
theorem con_X12_value {w : Wp} {N : Nat} {a0 : Nat} {a1 : Int32} {a2 : Int32} {M : Mm} {q : Int32 × Mm} (h_a0 : lay a0 = (5, 12)) (hq : D_X12_value N a0 a1 a2 M = some q) : Con w 3 yX12_value cX12_value 3 (some .int) [.ref (wB w + pz (a0)), .int a1, .int a2] M (encI q) := by
  refine Con.of encI q _ hq (by decide) (Nat.le_of_ble_eq_true rfl) ?_
  intro X G Q hQ
  have G : Good w X cX12_value 3 RX12 (some .int) 3 := G
  refine c_weak [(0, .ref (wB w + pz (a0))), (1, .int a1), (2, .int a2)] [0, 1, 2] rfl ?_
  rw [D_X12_value]
  refine c_aload_n G dX12_value_0 rfl 0 rfl ?_
  refine c_callV_PI (d := 0) (rest := []) G [] yv_X12_hasTree ml_X12_544 (by omega) (by decide) rfl rfl (Nat.le_of_ble_eq_true rfl) h_a0 (fun q hq => con_X12_hasTree h_a0 hq) dX12_value_1 (fun q1 _ => ?_)
  refine c_if_ne (tgt := 13) G dX12_value_4 (by decide) (fun _ => ?_) (fun _ => ?_)
  · skip
    refine c_aload_n G dX12_value_7 rfl 0 rfl ?_
    refine c_iconst G (nI 3) dX12_value_8 kI_3 ?_
    refine c_callV_I (d := 0) (rest := []) G [.int (nI 3)] yv_X12_refuse ml_X12_305 (by omega) (by decide) rfl rfl (Nat.le_of_ble_eq_true rfl) h_a0 (fun q hq => con_X12_refuse h_a0 hq) dX12_value_9 (fun q2 _ => ?_)
    exact c_iret G hQ dX12_value_12
  · skip
    refine c_aload_n G dX12_value_13 rfl 0 rfl ?_
    refine c_iload_n G dX12_value_14 rfl 1 rfl ?_
    refine c_iload_n G dX12_value_15 rfl 2 rfl ?_
    refine c_callV_PI (d := 2) (rest := []) G [.int a1, .int a2] yv_X12_isInstance ml_X12_499 (by omega) (by decide) rfl rfl (Nat.le_of_ble_eq_true rfl) h_a0 (fun q hq => con_X12_isInstance h_a0 hq) dX12_value_16 (fun q3 _ => ?_)
    refine c_if_eq (tgt := 40) G dX12_value_19 (by decide) (fun _ => ?_) (fun _ => ?_)
    · skip
      refine c_aload_n G dX12_value_40 rfl 0 rfl ?_
      refine c_iconst G (nI 4) dX12_value_41 kI_4 ?_
      refine c_callV_I (d := 0) (rest := []) G [.int (nI 4)] yv_X12_refuse ml_X12_305 (by omega) (by decide) rfl rfl (Nat.le_of_ble_eq_true rfl) h_a0 (fun q hq => con_X12_refuse h_a0 hq) dX12_value_42 (fun q4 _ => ?_)
      exact c_iret G hQ dX12_value_45
    · skip
      refine c_aload_n G dX12_value_22 rfl 0 rfl ?_
      refine c_aload_n G dX12_value_23 rfl 0 rfl ?_
      refine c_getF G fl_X12_102 h_a0 rfl dX12_value_24 ?_
      refine c_bipush G (nI 8) dX12_value_27 kB_8 ?_
      refine c_iload_n G dX12_value_29 rfl 1 rfl ?_
      refine c_imul G dX12_value_30 ?_
      refine c_iload_n G dX12_value_31 rfl 2 rfl ?_
      refine c_iadd G dX12_value_32 ?_
      refine c_iald G (lf h_a0 58 rfl) dX12_value_33 (fun v1 _ => ?_)
      refine c_callV_I (d := 0) (rest := []) G [.int v1] yv_X12_gives ml_X12_328 (by omega) (by decide) rfl rfl (Nat.le_of_ble_eq_true rfl) h_a0 (fun q hq => con_X12_gives h_a0 hq) dX12_value_34 (fun q5 _ => ?_)
      refine c_goto (tgt := 45) G dX12_value_37 (by decide) ?_
      exact c_iret G hQ dX12_value_45
set_option maxHeartbeats 4000000 in
set_option maxRecDepth 100000 in
theorem cl_X12_knot_75 {w : Wp} {X : Cx} {Q : State → Prop} {ρ : Int32 × Mm} (G : Good w X cX12_knot 7 RX12 (some .int) 3) (hQ : Q = MQ (xL X) (Qd w (encI ρ)) (xA X) (xS X) (xk X) (xs X) (Aw w)) (kE130 : Int32 → Option (Int32 × Mm)) {M : Mm} {a0 : Nat} {l4_1 : Int32} {a3 : Int32} (h_a0 : lay a0 = (5, 12)) (hE130 : ∀ (z5 : Int32), Cov w X Q ρ some 7 130 [(0, .ref (wB w + pz (a0))), (3, .int a3), (4, .int l4_1), (5, .int z5)] [] M (kE130 z5)) : ∀ (n : Nat) (l5_1 : Int32) (l6_1 : Int32), Cov w X Q ρ some 7 75 [(0, .ref (wB w + pz (a0))), (3, .int a3), (4, .int l4_1), (5, .int l5_1), (6, .int l6_1)] [] M (L_X12_knot_75 kE130 M a0 l4_1 n l5_1 l6_1) := by
  intro n
  induction n with
  | zero => intro l5_1 l6_1; exact c_none
  | succ n ih =>
    intro l5_1 l6_1
    rw [L_X12_knot_75]
    refine c_iload G dX12_knot_75 4 rfl ?_
    refine c_bipush G (nI 8) dX12_knot_77 kB_8 ?_
    refine c_aload_n G dX12_knot_79 rfl 0 rfl ?_
    refine c_getI G fl_X12_322 h_a0 rfl dX12_knot_80 ?_
    refine c_imul G dX12_knot_83 ?_
    refine c_icmp_ge (tgt := 130) G dX12_knot_84 (by decide) (fun _ => ?_) (fun _ => ?_)
    · skip
      exact c_weak _ [0, 1, 2, 3] rfl (hE130 l5_1)
    · skip
      refine c_iload G dX12_knot_87 3 rfl ?_
      refine c_aload_n G dX12_knot_89 rfl 0 rfl ?_
      refine c_getF G fl_X12_126 h_a0 rfl dX12_knot_90 ?_
      refine c_iload G dX12_knot_93 4 rfl ?_
      refine c_zald G (lf h_a0 66 rfl) dX12_knot_95 (fun v2 _ => ?_)
      refine c_jn (ej := fun (p120 : Unit) => [(0, .ref (wB w + pz (a0))), (3, .int a3), (4, .int l4_1), (6, .int l6_1)]) (sj := fun p120 => [.int l5_1]) (mj := fun p120 => M) (pj := 120) (fun p120 => ?_) (fun J1 hJ120 => ?_)
      · skip
        refine c_iconst G (nI 0) dX12_knot_120 kI_0 ?_
        refine c_iadd G dX12_knot_121 ?_
        refine c_let (fun l5_2 _ => ?_)
        refine c_istore G [(5, .int l5_2), (0, .ref (wB w + pz (a0))), (3, .int a3), (4, .int l4_1), (6, .int l6_1)] dX12_knot_122 (by decide) rfl ?_
        refine c_iinc G (fun y__ => [(6, .int y__), (5, .int l5_2), (0, .ref (wB w + pz (a0))), (3, .int a3), (4, .int l4_1)]) dX12_knot_124 4 rfl kI_1 (by decide) (fun _ => rfl) (fun l6_2 _ => ?_)
        refine c_goto (tgt := 75) G dX12_knot_127 (by decide) ?_
        exact c_weak _ [2, 3, 4, 1, 0] rfl (ih l5_2 l6_2)
      · skip
        refine c_if_eq (tgt := 120) G dX12_knot_96 (by decide) (fun _ => ?_) (fun _ => ?_)
        · skip
          exact c_weak _ [0, 1, 2, 4] rfl (hJ120 ())
        · skip
          refine c_aload_n G dX12_knot_99 rfl 0 rfl ?_
          refine c_getF G fl_X12_105 h_a0 rfl dX12_knot_100 ?_
          refine c_iload G dX12_knot_103 4 rfl ?_
          refine c_iald G (lf h_a0 59 rfl) dX12_knot_105 (fun v3 _ => ?_)
          refine c_aload_n G dX12_knot_106 rfl 0 rfl ?_
          refine c_getF G fl_X12_105 h_a0 rfl dX12_knot_107 ?_
          refine c_iload G dX12_knot_110 2 rfl ?_
          refine c_iald G (lf h_a0 59 rfl) dX12_knot_112 (fun v4 _ => ?_)
          refine c_icmp_ne (tgt := 120) G dX12_knot_113 (by decide) (fun _ => ?_) (fun _ => ?_)
          · skip
            refine c_iconst G (nI 1) dX12_knot_116 kI_1 ?_
            refine c_goto (tgt := 121) G dX12_knot_117 (by decide) ?_
            refine c_iadd G dX12_knot_121 ?_
            refine c_let (fun l5_3 _ => ?_)
            refine c_istore G [(5, .int l5_3), (0, .ref (wB w + pz (a0))), (3, .int a3), (4, .int l4_1), (6, .int l6_1)] dX12_knot_122 (by decide) rfl ?_
            refine c_iinc G (fun y__ => [(6, .int y__), (5, .int l5_3), (0, .ref (wB w + pz (a0))), (3, .int a3), (4, .int l4_1)]) dX12_knot_124 4 rfl kI_1 (by decide) (fun _ => rfl) (fun l6_3 _ => ?_)
            refine c_goto (tgt := 75) G dX12_knot_127 (by decide) ?_
            exact c_weak _ [2, 3, 4, 1, 0] rfl (ih l5_3 l6_3)
          · skip
            exact c_weak _ [0, 1, 2, 4] rfl (hJ120 ())
set_option maxHeartbeats 4000000 in
set_option maxRecDepth 100000 in
theorem con_X12_knot {w : Wp} {N : Nat} {a0 : Nat} {a1 : Int32} {a2 : Int32} {a3 : Int32} {M : Mm} {q : Int32 × Mm} (h_a0 : lay a0 = (5, 12)) (hq : D_X12_knot N a0 a1 a2 a3 M = some q) : Con w 3 yX12_knot cX12_knot 7 (some .int) [.ref (wB w + pz (a0)), .int a1, .int a2, .int a3] M (encI q) := by
  refine Con.of encI q _ hq (by decide) (Nat.le_of_ble_eq_true rfl) ?_
  intro X G Q hQ
  have G : Good w X cX12_knot 7 RX12 (some .int) 3 := G
  refine c_weak [(0, .ref (wB w + pz (a0))), (1, .int a1), (2, .int a2), (3, .int a3)] [0, 1, 2, 3] rfl ?_
  rw [D_X12_knot]
  refine c_iload_n G dX12_knot_0 rfl 3 rfl ?_
  refine c_iconst G (nI 0) dX12_knot_1 kI_0 ?_
  refine c_iconst G (nI 4) dX12_knot_2 kI_4 ?_
  refine c_callS_PI (d := 0) (rest := []) G [.int a3, .int (nI 0), .int (nI 4)] ys_X12_isFrom ml_X12_246 (by omega) (by decide) rfl rfl (Nat.le_of_ble_eq_true rfl) (fun q hq => con_X12_isFrom hq) dX12_knot_3 (fun q1 _ => ?_)
  refine c_if_ne (tgt := 15) G dX12_knot_6 (by decide) (fun _ => ?_) (fun _ => ?_)
  · skip
    refine c_aload_n G dX12_knot_9 rfl 0 rfl ?_
    refine c_iconst G (nI 1) dX12_knot_10 kI_1 ?_
    refine c_callV_I (d := 0) (rest := []) G [.int (nI 1)] yv_X12_refuse ml_X12_305 (by omega) (by decide) rfl rfl (Nat.le_of_ble_eq_true rfl) h_a0 (fun q hq => con_X12_refuse h_a0 hq) dX12_knot_11 (fun q2 _ => ?_)
    exact c_iret G hQ dX12_knot_14
  · skip
    refine c_aload_n G dX12_knot_15 rfl 0 rfl ?_
    refine c_callV_PI (d := 0) (rest := []) G [] yv_X12_hasTree ml_X12_544 (by omega) (by decide) rfl rfl (Nat.le_of_ble_eq_true rfl) h_a0 (fun q hq => con_X12_hasTree h_a0 hq) dX12_knot_16 (fun q3 _ => ?_)
    refine c_if_ne (tgt := 28) G dX12_knot_19 (by decide) (fun _ => ?_) (fun _ => ?_)
    · skip
      refine c_aload_n G dX12_knot_22 rfl 0 rfl ?_
      refine c_iconst G (nI 3) dX12_knot_23 kI_3 ?_
      refine c_callV_I (d := 0) (rest := []) G [.int (nI 3)] yv_X12_refuse ml_X12_305 (by omega) (by decide) rfl rfl (Nat.le_of_ble_eq_true rfl) h_a0 (fun q hq => con_X12_refuse h_a0 hq) dX12_knot_24 (fun q4 _ => ?_)
      exact c_iret G hQ dX12_knot_27
    · skip
      refine c_aload_n G dX12_knot_28 rfl 0 rfl ?_
      refine c_iload_n G dX12_knot_29 rfl 1 rfl ?_
      refine c_iload_n G dX12_knot_30 rfl 2 rfl ?_
      refine c_callV_PI (d := 2) (rest := []) G [.int a1, .int a2] yv_X12_isInstance ml_X12_499 (by omega) (by decide) rfl rfl (Nat.le_of_ble_eq_true rfl) h_a0 (fun q hq => con_X12_isInstance h_a0 hq) dX12_knot_31 (fun q5 _ => ?_)
      refine c_if_ne (tgt := 43) G dX12_knot_34 (by decide) (fun _ => ?_) (fun _ => ?_)
      · skip
        refine c_aload_n G dX12_knot_37 rfl 0 rfl ?_
        refine c_iconst G (nI 4) dX12_knot_38 kI_4 ?_
        refine c_callV_I (d := 0) (rest := []) G [.int (nI 4)] yv_X12_refuse ml_X12_305 (by omega) (by decide) rfl rfl (Nat.le_of_ble_eq_true rfl) h_a0 (fun q hq => con_X12_refuse h_a0 hq) dX12_knot_39 (fun q6 _ => ?_)
        exact c_iret G hQ dX12_knot_42
      · skip
        refine c_bipush G (nI 8) dX12_knot_43 kB_8 ?_
        refine c_iload_n G dX12_knot_45 rfl 1 rfl ?_
        refine c_imul G dX12_knot_46 ?_
        refine c_iload_n G dX12_knot_47 rfl 2 rfl ?_
        refine c_iadd G dX12_knot_48 ?_
        refine c_let (fun l4_1 _ => ?_)
        refine c_istore G [(4, .int l4_1), (0, .ref (wB w + pz (a0))), (1, .int a1), (2, .int a2), (3, .int a3)] dX12_knot_49 (by decide) rfl ?_
        refine c_aload_n G dX12_knot_51 rfl 1 rfl ?_
        refine c_getF G fl_X12_105 h_a0 rfl dX12_knot_52 ?_
        refine c_iload G dX12_knot_55 0 rfl ?_
        refine c_iald G (lf h_a0 59 rfl) dX12_knot_57 (fun v1 _ => ?_)
        refine c_iconst G m1 dX12_knot_58 kI_m1 ?_
        refine c_icmp_ne (tgt := 69) G dX12_knot_59 (by decide) (fun _ => ?_) (fun _ => ?_)
        · skip
          refine c_aload_n G dX12_knot_62 rfl 1 rfl ?_
          refine c_bipush G (nI 7) dX12_knot_63 kB_7 ?_
          refine c_callV_I (d := 0) (rest := []) G [.int (nI 7)] yv_X12_refuse ml_X12_305 (by omega) (by decide) rfl rfl (Nat.le_of_ble_eq_true rfl) h_a0 (fun q hq => con_X12_refuse h_a0 hq) dX12_knot_65 (fun q7 _ => ?_)
          exact c_iret G hQ dX12_knot_68
        · skip
          refine c_iconst G (nI 0) dX12_knot_69 kI_0 ?_
          refine c_istore G [(5, .int (nI 0)), (4, .int l4_1), (0, .ref (wB w + pz (a0))), (1, .int a1), (2, .int a2), (3, .int a3)] dX12_knot_70 (by decide) rfl ?_
          refine c_iconst G (nI 0) dX12_knot_72 kI_0 ?_
          refine c_istore G [(6, .int (nI 0)), (5, .int (nI 0)), (4, .int l4_1), (0, .ref (wB w + pz (a0))), (1, .int a1), (2, .int a2), (3, .int a3)] dX12_knot_73 (by decide) rfl ?_
          refine c_weak _ [3, 6, 2, 1, 0] rfl (cl_X12_knot_75 G hQ _ h_a0 ?_ N (nI 0) (nI 0))
          · intro l5_4
            refine c_iload_n G dX12_knot_130 rfl 1 rfl ?_
            refine c_tsw (tgt := 160) G (nI 0) 0 dX12_knot_131 (by decide +kernel) (by decide +kernel) rfl (by decide) (fun _ => ?_) (fun hn0 => ?_)
            · skip
              refine c_aload_n G dX12_knot_160 rfl 0 rfl ?_
              refine c_iload G dX12_knot_161 3 rfl ?_
              refine c_callV_I (d := 0) (rest := []) G [.int l5_4] yv_X12_gives ml_X12_328 (by omega) (by decide) rfl rfl (Nat.le_of_ble_eq_true rfl) h_a0 (fun q hq => con_X12_gives h_a0 hq) dX12_knot_163 (fun q8 _ => ?_)
              exact c_iret G hQ dX12_knot_166
            · skip
              refine c_tsw (tgt := 167) G (nI 1) 1 dX12_knot_131 (by decide +kernel) (by decide +kernel) rfl (by decide) (fun _ => ?_) (fun hn1 => ?_)
              · skip
                refine c_aload_n G dX12_knot_167 rfl 0 rfl ?_
                refine c_aload_n G dX12_knot_168 rfl 0 rfl ?_
                refine c_getF G fl_X12_108 h_a0 rfl dX12_knot_169 ?_
                refine c_iload G dX12_knot_172 2 rfl ?_
                refine c_iald G (lf h_a0 60 rfl) dX12_knot_174 (fun v5 _ => ?_)
                refine c_callV_I (d := 0) (rest := []) G [.int v5] yv_X12_gives ml_X12_328 (by omega) (by decide) rfl rfl (Nat.le_of_ble_eq_true rfl) h_a0 (fun q hq => con_X12_gives h_a0 hq) dX12_knot_175 (fun q9 _ => ?_)
                exact c_iret G hQ dX12_knot_178
              · skip
                refine c_tsw (tgt := 179) G (nI 2) 2 dX12_knot_131 (by decide +kernel) (by decide +kernel) rfl (by decide) (fun _ => ?_) (fun hn2 => ?_)
                · skip
                  refine c_aload_n G dX12_knot_179 rfl 0 rfl ?_
                  refine c_aload_n G dX12_knot_180 rfl 0 rfl ?_
                  refine c_getF G fl_X12_130 h_a0 rfl dX12_knot_181 ?_
                  refine c_iload G dX12_knot_184 2 rfl ?_
                  refine c_zald G (lf h_a0 67 rfl) dX12_knot_186 (fun v6 _ => ?_)
                  refine c_if_eq (tgt := 194) G dX12_knot_187 (by decide) (fun _ => ?_) (fun _ => ?_)
                  · skip
                    refine c_iconst G (nI 0) dX12_knot_194 kI_0 ?_
                    refine c_callV_I (d := 0) (rest := []) G [.int (nI 0)] yv_X12_gives ml_X12_328 (by omega) (by decide) rfl rfl (Nat.le_of_ble_eq_true rfl) h_a0 (fun q hq => con_X12_gives h_a0 hq) dX12_knot_195 (fun q10 _ => ?_)
                    exact c_iret G hQ dX12_knot_198
                  · skip
                    refine c_iconst G (nI 1) dX12_knot_190 kI_1 ?_
                    refine c_goto (tgt := 195) G dX12_knot_191 (by decide) ?_
                    refine c_callV_I (d := 0) (rest := []) G [.int (nI 1)] yv_X12_gives ml_X12_328 (by omega) (by decide) rfl rfl (Nat.le_of_ble_eq_true rfl) h_a0 (fun q hq => con_X12_gives h_a0 hq) dX12_knot_195 (fun q11 _ => ?_)
                    exact c_iret G hQ dX12_knot_198
                · skip
                  refine c_tsw (tgt := 199) G (nI 3) 3 dX12_knot_131 (by decide +kernel) (by decide +kernel) rfl (by decide) (fun _ => ?_) (fun hn3 => ?_)
                  · skip
                    refine c_aload_n G dX12_knot_199 rfl 0 rfl ?_
                    refine c_aload_n G dX12_knot_200 rfl 0 rfl ?_
                    refine c_getF G fl_X12_105 h_a0 rfl dX12_knot_201 ?_
                    refine c_iload G dX12_knot_204 2 rfl ?_
                    refine c_iald G (lf h_a0 59 rfl) dX12_knot_206 (fun v7 _ => ?_)
                    refine c_bipush G (nI 8) dX12_knot_207 kB_8 ?_
                    refine c_idiv G dX12_knot_209 (fun v8 _ => ?_)
                    refine c_callV_I (d := 0) (rest := []) G [.int v8] yv_X12_gives ml_X12_328 (by omega) (by decide) rfl rfl (Nat.le_of_ble_eq_true rfl) h_a0 (fun q hq => con_X12_gives h_a0 hq) dX12_knot_210 (fun q12 _ => ?_)
                    exact c_iret G hQ dX12_knot_213
                  · skip
                    have hm0 := lv_neT hn0 (show (nI 0).toInt = 0 by decide +kernel)
                    have hm1 := lv_neT hn1 (show (nI 1).toInt = 1 by decide +kernel)
                    have hm2 := lv_neT hn2 (show (nI 2).toInt = 2 by decide +kernel)
                    have hm3 := lv_neT hn3 (show (nI 3).toInt = 3 by decide +kernel)
                    refine c_tswD (tgt := 214) G dX12_knot_131 (by omega) (by decide) ?_
                    refine c_aload_n G dX12_knot_214 rfl 0 rfl ?_
                    refine c_aload_n G dX12_knot_215 rfl 0 rfl ?_
                    refine c_getF G fl_X12_105 h_a0 rfl dX12_knot_216 ?_
                    refine c_iload G dX12_knot_219 2 rfl ?_
                    refine c_iald G (lf h_a0 59 rfl) dX12_knot_221 (fun v9 _ => ?_)
                    refine c_bipush G (nI 8) dX12_knot_222 kB_8 ?_
                    refine c_irem G dX12_knot_224 (fun v10 _ => ?_)
                    refine c_callV_I (d := 0) (rest := []) G [.int v10] yv_X12_gives ml_X12_328 (by omega) (by decide) rfl rfl (Nat.le_of_ble_eq_true rfl) h_a0 (fun q hq => con_X12_gives h_a0 hq) dX12_knot_225 (fun q13 _ => ?_)
                    exact c_iret G hQ dX12_knot_228
set_option maxHeartbeats 4000000 in
set_option maxRecDepth 100000 in
theorem cl_X12_span_57 {w : Wp} {X : Cx} {Q : State → Prop} {ρ : Int32 × Mm} (G : Good w X cX12_span 7 RX12 (some .int) 3) (hQ : Q = MQ (xL X) (Qd w (encI ρ)) (xA X) (xS X) (xk X) (xs X) (Aw w)) {M : Mm} {a0 : Nat} {N : Nat} {l4_1 : Int32} {a3 : Int32} (h_a0 : lay a0 = (5, 12)) : ∀ (n : Nat) (l5_1 : Int32) (l6_1 : Int32), Cov w X Q ρ some 7 57 [(0, .ref (wB w + pz (a0))), (3, .int a3), (4, .int l4_1), (5, .int l5_1), (6, .int l6_1)] [] M (L_X12_span_57 M a0 N l4_1 a3 n l5_1 l6_1) := by
  intro n
  induction n with
  | zero => intro l5_1 l6_1; exact c_none
  | succ n ih =>
    intro l5_1 l6_1
    rw [L_X12_span_57]
    refine c_iload G dX12_span_57 4 rfl ?_
    refine c_bipush G (nI 8) dX12_span_59 kB_8 ?_
    refine c_aload_n G dX12_span_61 rfl 0 rfl ?_
    refine c_getI G fl_X12_322 h_a0 rfl dX12_span_62 ?_
    refine c_imul G dX12_span_65 ?_
    refine c_icmp_ge (tgt := 137) G dX12_span_66 (by decide) (fun _ => ?_) (fun _ => ?_)
    · skip
      refine c_aload_n G dX12_span_137 rfl 0 rfl ?_
      refine c_iload G dX12_span_138 3 rfl ?_
      refine c_callV_I (d := 0) (rest := []) G [.int l5_1] yv_X12_gives ml_X12_328 (by omega) (by decide) rfl rfl (Nat.le_of_ble_eq_true rfl) h_a0 (fun q hq => con_X12_gives h_a0 hq) dX12_span_140 (fun q7 _ => ?_)
      exact c_iret G hQ dX12_span_143
    · skip
      refine c_iload G dX12_span_69 4 rfl ?_
      refine c_iload G dX12_span_71 2 rfl ?_
      refine c_icmp_eq (tgt := 131) G dX12_span_73 (by decide) (fun _ => ?_) (fun _ => ?_)
      · skip
        refine c_iinc G (fun y__ => [(6, .int y__), (0, .ref (wB w + pz (a0))), (3, .int a3), (4, .int l4_1), (5, .int l5_1)]) dX12_span_131 4 rfl kI_1 (by decide) (fun _ => rfl) (fun l6_2 _ => ?_)
        refine c_goto (tgt := 57) G dX12_span_134 (by decide) ?_
        exact c_weak _ [1, 2, 3, 4, 0] rfl (ih l5_1 l6_2)
      · skip
        refine c_aload_n G dX12_span_76 rfl 0 rfl ?_
        refine c_getF G fl_X12_126 h_a0 rfl dX12_span_77 ?_
        refine c_iload G dX12_span_80 4 rfl ?_
        refine c_zald G (lf h_a0 66 rfl) dX12_span_82 (fun v1 _ => ?_)
        refine c_if_eq (tgt := 131) G dX12_span_83 (by decide) (fun _ => ?_) (fun _ => ?_)
        · skip
          refine c_iinc G (fun y__ => [(6, .int y__), (0, .ref (wB w + pz (a0))), (3, .int a3), (4, .int l4_1), (5, .int l5_1)]) dX12_span_131 4 rfl kI_1 (by decide) (fun _ => rfl) (fun l6_3 _ => ?_)
          refine c_goto (tgt := 57) G dX12_span_134 (by decide) ?_
          exact c_weak _ [1, 2, 3, 4, 0] rfl (ih l5_1 l6_3)
        · skip
          refine c_iload G dX12_span_86 3 rfl ?_
          refine c_iload_n G dX12_span_88 rfl 1 rfl ?_
          refine c_bj (ej := fun (p128 : Int32) => [(0, .ref (wB w + pz (a0))), (3, .int a3), (4, .int l4_1), (6, .int l6_1)]) (sj := fun p128 => [.int p128, .int l5_1]) (mj := fun p128 => M) (pj := 128) (fun p128 => ?_) (fun F hJ128 => ?_)
          · skip
            refine c_iadd G dX12_span_128 ?_
            refine c_let (fun l5_2 _ => ?_)
            refine c_istore G [(5, .int l5_2), (0, .ref (wB w + pz (a0))), (3, .int a3), (4, .int l4_1), (6, .int l6_1)] dX12_span_129 (by decide) rfl ?_
            refine c_iinc G (fun y__ => [(6, .int y__), (5, .int l5_2), (0, .ref (wB w + pz (a0))), (3, .int a3), (4, .int l4_1)]) dX12_span_131 4 rfl kI_1 (by decide) (fun _ => rfl) (fun l6_4 _ => ?_)
            refine c_goto (tgt := 57) G dX12_span_134 (by decide) ?_
            exact c_weak _ [2, 3, 4, 1, 0] rfl (ih l5_2 l6_4)
          · skip
            refine c_jn (ej := fun (p127 : Unit) => [(0, .ref (wB w + pz (a0))), (3, .int a3), (4, .int l4_1), (6, .int l6_1)]) (sj := fun p127 => [.int l5_1]) (mj := fun p127 => M) (pj := 127) (fun p127 => ?_) (fun J1 hJ127 => ?_)
            · skip
              refine c_iconst G (nI 0) dX12_span_127 kI_0 ?_
              exact c_weak _ [0, 1, 2, 3] rfl (hJ128 (nI 0))
            · skip
              refine c_jn (ej := fun (p123 : Unit) => [(0, .ref (wB w + pz (a0))), (3, .int a3), (4, .int l4_1), (6, .int l6_1)]) (sj := fun p123 => [.int l5_1]) (mj := fun p123 => M) (pj := 123) (fun p123 => ?_) (fun J2 hJ123 => ?_)
              · skip
                refine c_iconst G (nI 1) dX12_span_123 kI_1 ?_
                refine c_goto (tgt := 128) G dX12_span_124 (by decide) ?_
                exact c_weak _ [0, 1, 2, 3] rfl (hJ128 (nI 1))
              · skip
                refine c_if_ne (tgt := 109) G dX12_span_89 (by decide) (fun _ => ?_) (fun _ => ?_)
                · skip
                  refine c_aload_n G dX12_span_92 rfl 0 rfl ?_
                  refine c_getF G fl_X12_123 h_a0 rfl dX12_span_93 ?_
                  refine c_iload G dX12_span_96 2 rfl ?_
                  refine c_iload G dX12_span_98 4 rfl ?_
                  refine c_callS_PI (d := 0) (rest := [.int l5_1]) G [.ref (wB w + pz ((a0 + 36))), .int l4_1, .int l6_1] ys_X12_bit ml_X12_511 (by omega) (by decide) rfl rfl (Nat.le_of_ble_eq_true rfl) (fun q hq => con_X12_bit (ll (lf h_a0 65 rfl)) hq) dX12_span_100 (fun q8 _ => ?_)
                  refine c_if_eq (tgt := 127) G dX12_span_103 (by decide) (fun _ => ?_) (fun _ => ?_)
                  · skip
                    exact c_weak _ [0, 1, 2, 4] rfl (hJ127 ())
                  · skip
                    refine c_goto (tgt := 123) G dX12_span_106 (by decide) ?_
                    exact c_weak _ [0, 1, 2, 4] rfl (hJ123 ())
                · skip
                  refine c_aload_n G dX12_span_109 rfl 0 rfl ?_
                  refine c_getF G fl_X12_123 h_a0 rfl dX12_span_110 ?_
                  refine c_iload G dX12_span_113 4 rfl ?_
                  refine c_iload G dX12_span_115 2 rfl ?_
                  refine c_callS_PI (d := 0) (rest := [.int l5_1]) G [.ref (wB w + pz ((a0 + 36))), .int l6_1, .int l4_1] ys_X12_bit ml_X12_511 (by omega) (by decide) rfl rfl (Nat.le_of_ble_eq_true rfl) (fun q hq => con_X12_bit (ll (lf h_a0 65 rfl)) hq) dX12_span_117 (fun q9 _ => ?_)
                  refine c_if_eq (tgt := 127) G dX12_span_120 (by decide) (fun _ => ?_) (fun _ => ?_)
                  · skip
                    exact c_weak _ [0, 1, 2, 4] rfl (hJ127 ())
                  · skip
                    exact c_weak _ [0, 1, 2, 4] rfl (hJ123 ())
set_option maxHeartbeats 4000000 in
set_option maxRecDepth 100000 in
theorem con_X12_span {w : Wp} {N : Nat} {a0 : Nat} {a1 : Int32} {a2 : Int32} {a3 : Int32} {M : Mm} {q : Int32 × Mm} (h_a0 : lay a0 = (5, 12)) (hq : D_X12_span N a0 a1 a2 a3 M = some q) : Con w 3 yX12_span cX12_span 7 (some .int) [.ref (wB w + pz (a0)), .int a1, .int a2, .int a3] M (encI q) := by
  refine Con.of encI q _ hq (by decide) (Nat.le_of_ble_eq_true rfl) ?_
  intro X G Q hQ
  have G : Good w X cX12_span 7 RX12 (some .int) 3 := G
  refine c_weak [(0, .ref (wB w + pz (a0))), (1, .int a1), (2, .int a2), (3, .int a3)] [0, 1, 2, 3] rfl ?_
  rw [D_X12_span]
  refine c_iload_n G dX12_span_0 rfl 3 rfl ?_
  refine c_iconst G (nI 0) dX12_span_1 kI_0 ?_
  refine c_iconst G (nI 1) dX12_span_2 kI_1 ?_
  refine c_callS_PI (d := 0) (rest := []) G [.int a3, .int (nI 0), .int (nI 1)] ys_X12_isFrom ml_X12_246 (by omega) (by decide) rfl rfl (Nat.le_of_ble_eq_true rfl) (fun q hq => con_X12_isFrom hq) dX12_span_3 (fun q1 _ => ?_)
  refine c_if_ne (tgt := 15) G dX12_span_6 (by decide) (fun _ => ?_) (fun _ => ?_)
  · skip
    refine c_aload_n G dX12_span_9 rfl 0 rfl ?_
    refine c_iconst G (nI 1) dX12_span_10 kI_1 ?_
    refine c_callV_I (d := 0) (rest := []) G [.int (nI 1)] yv_X12_refuse ml_X12_305 (by omega) (by decide) rfl rfl (Nat.le_of_ble_eq_true rfl) h_a0 (fun q hq => con_X12_refuse h_a0 hq) dX12_span_11 (fun q2 _ => ?_)
    exact c_iret G hQ dX12_span_14
  · skip
    refine c_aload_n G dX12_span_15 rfl 0 rfl ?_
    refine c_callV_PI (d := 0) (rest := []) G [] yv_X12_hasTree ml_X12_544 (by omega) (by decide) rfl rfl (Nat.le_of_ble_eq_true rfl) h_a0 (fun q hq => con_X12_hasTree h_a0 hq) dX12_span_16 (fun q3 _ => ?_)
    refine c_if_ne (tgt := 28) G dX12_span_19 (by decide) (fun _ => ?_) (fun _ => ?_)
    · skip
      refine c_aload_n G dX12_span_22 rfl 0 rfl ?_
      refine c_iconst G (nI 3) dX12_span_23 kI_3 ?_
      refine c_callV_I (d := 0) (rest := []) G [.int (nI 3)] yv_X12_refuse ml_X12_305 (by omega) (by decide) rfl rfl (Nat.le_of_ble_eq_true rfl) h_a0 (fun q hq => con_X12_refuse h_a0 hq) dX12_span_24 (fun q4 _ => ?_)
      exact c_iret G hQ dX12_span_27
    · skip
      refine c_aload_n G dX12_span_28 rfl 0 rfl ?_
      refine c_iload_n G dX12_span_29 rfl 1 rfl ?_
      refine c_iload_n G dX12_span_30 rfl 2 rfl ?_
      refine c_callV_PI (d := 2) (rest := []) G [.int a1, .int a2] yv_X12_isInstance ml_X12_499 (by omega) (by decide) rfl rfl (Nat.le_of_ble_eq_true rfl) h_a0 (fun q hq => con_X12_isInstance h_a0 hq) dX12_span_31 (fun q5 _ => ?_)
      refine c_if_ne (tgt := 43) G dX12_span_34 (by decide) (fun _ => ?_) (fun _ => ?_)
      · skip
        refine c_aload_n G dX12_span_37 rfl 0 rfl ?_
        refine c_iconst G (nI 4) dX12_span_38 kI_4 ?_
        refine c_callV_I (d := 0) (rest := []) G [.int (nI 4)] yv_X12_refuse ml_X12_305 (by omega) (by decide) rfl rfl (Nat.le_of_ble_eq_true rfl) h_a0 (fun q hq => con_X12_refuse h_a0 hq) dX12_span_39 (fun q6 _ => ?_)
        exact c_iret G hQ dX12_span_42
      · skip
        refine c_bipush G (nI 8) dX12_span_43 kB_8 ?_
        refine c_iload_n G dX12_span_45 rfl 1 rfl ?_
        refine c_imul G dX12_span_46 ?_
        refine c_iload_n G dX12_span_47 rfl 2 rfl ?_
        refine c_iadd G dX12_span_48 ?_
        refine c_let (fun l4_1 _ => ?_)
        refine c_istore G [(4, .int l4_1), (0, .ref (wB w + pz (a0))), (1, .int a1), (2, .int a2), (3, .int a3)] dX12_span_49 (by decide) rfl ?_
        refine c_iconst G (nI 1) dX12_span_51 kI_1 ?_
        refine c_istore G [(5, .int (nI 1)), (4, .int l4_1), (0, .ref (wB w + pz (a0))), (1, .int a1), (2, .int a2), (3, .int a3)] dX12_span_52 (by decide) rfl ?_
        refine c_iconst G (nI 0) dX12_span_54 kI_0 ?_
        refine c_istore G [(6, .int (nI 0)), (5, .int (nI 1)), (4, .int l4_1), (0, .ref (wB w + pz (a0))), (1, .int a1), (2, .int a2), (3, .int a3)] dX12_span_55 (by decide) rfl ?_
        refine c_weak _ [3, 6, 2, 1, 0] rfl (cl_X12_span_57 G hQ  h_a0 N (nI 1) (nI 0))
set_option maxHeartbeats 4000000 in
set_option maxRecDepth 100000 in
theorem cl_X12_run_82 {w : Wp} {X : Cx} {Q : State → Prop} {ρ : Int32 × Mm} (G : Good w X cX12_run 5 RX12 (some .int) 9) (hQ : Q = MQ (xL X) (Qd w (encI ρ)) (xA X) (xS X) (xk X) (xs X) (Aw w)) (kE141 : Int32 → Option (Int32 × Mm)) {a1 : Int32} {a0 : Nat} {l3_1 : Int32} {M1 : Mm} {N : Nat} (h_a0 : lay a0 = (5, 12)) (hE141 : ∀ (z2 : Int32), Cov w X Q ρ some 5 141 [(0, .ref (wB w + pz (a0))), (1, .int a1), (2, .int z2), (3, .int l3_1)] [] M1 (kE141 z2)) : ∀ (n : Nat) (l2_3 : Int32) (l4_1 : Int32), Cov w X Q ρ some 5 82 [(0, .ref (wB w + pz (a0))), (1, .int a1), (2, .int l2_3), (3, .int l3_1), (4, .int l4_1)] [] M1 (L_X12_run_82 kE141 a1 a0 l3_1 M1 N n l2_3 l4_1) := by
  intro n
  induction n with
  | zero => intro l2_3 l4_1; exact c_none
  | succ n ih =>
    intro l2_3 l4_1
    rw [L_X12_run_82]
    refine c_iload G dX12_run_82 4 rfl ?_
    refine c_bipush G (nI 32) dX12_run_84 kB_32 ?_
    refine c_icmp_ge (tgt := 141) G dX12_run_86 (by decide) (fun _ => ?_) (fun _ => ?_)
    · skip
      exact c_weak _ [0, 1, 2, 3] rfl (hE141 l2_3)
    · skip
      refine c_iload_n G dX12_run_89 rfl 1 rfl ?_
      refine c_iconst G (nI 1) dX12_run_90 kI_1 ?_
      refine c_icmp_ne (tgt := 141) G dX12_run_91 (by decide) (fun _ => ?_) (fun _ => ?_)
      · skip
        refine c_iload_n G dX12_run_94 rfl 2 rfl ?_
        refine c_aload_n G dX12_run_95 rfl 0 rfl ?_
        refine c_aload_n G dX12_run_96 rfl 0 rfl ?_
        refine c_getF G fl_X12_75 h_a0 rfl dX12_run_97 ?_
        refine c_iload_n G dX12_run_100 rfl 3 rfl ?_
        refine c_iald G (lf h_a0 43 rfl) dX12_run_101 (fun v1 _ => ?_)
        refine c_iload G dX12_run_102 4 rfl ?_
        refine c_callV_PI (d := 2) (rest := [.int l2_3]) G [.int v1, .int l4_1] yv_X12_isOcc ml_X12_401 (by omega) (by decide) rfl rfl (Nat.le_of_ble_eq_true rfl) h_a0 (fun q hq => con_X12_isOcc h_a0 hq) dX12_run_104 (fun q7 _ => ?_)
        refine c_jn (ej := fun (p132 : Unit) => [(0, .ref (wB w + pz (a0))), (1, .int a1), (3, .int l3_1), (4, .int l4_1)]) (sj := fun p132 => [.int l2_3]) (mj := fun p132 => M1) (pj := 132) (fun p132 => ?_) (fun J1 hJ132 => ?_)
        · skip
          refine c_iconst G (nI 0) dX12_run_132 kI_0 ?_
          refine c_iadd G dX12_run_133 ?_
          refine c_let (fun l2_4 _ => ?_)
          refine c_istore_n G [(2, .int l2_4), (0, .ref (wB w + pz (a0))), (1, .int a1), (3, .int l3_1), (4, .int l4_1)] dX12_run_134 rfl (by decide) rfl ?_
          refine c_iinc G (fun y__ => [(4, .int y__), (2, .int l2_4), (0, .ref (wB w + pz (a0))), (1, .int a1), (3, .int l3_1)]) dX12_run_135 4 rfl kI_1 (by decide) (fun _ => rfl) (fun l4_2 _ => ?_)
          refine c_goto (tgt := 82) G dX12_run_138 (by decide) ?_
          exact c_weak _ [2, 3, 1, 4, 0] rfl (ih l2_4 l4_2)
        · skip
          refine c_if_eq (tgt := 132) G dX12_run_107 (by decide) (fun _ => ?_) (fun _ => ?_)
          · skip
            exact c_weak _ [0, 1, 3, 4] rfl (hJ132 ())
          · skip
            refine c_aload_n G dX12_run_110 rfl 0 rfl ?_
            refine c_getF G fl_X12_13 h_a0 rfl dX12_run_111 ?_
            refine c_aload_n G dX12_run_114 rfl 0 rfl ?_
            refine c_getF G fl_X12_75 h_a0 rfl dX12_run_115 ?_
            refine c_iload_n G dX12_run_118 rfl 3 rfl ?_
            refine c_iald G (lf h_a0 43 rfl) dX12_run_119 (fun v2 _ => ?_)
            refine c_iload G dX12_run_120 4 rfl ?_
            refine c_callS_PI (d := 1) (rest := [.int l2_3]) G [.ref (wB w + pz ((a0 + 2))), .int v2, .int l4_1] ys_X12_canTell ml_X12_264 (by omega) (by decide) rfl rfl (Nat.le_of_ble_eq_true rfl) (fun q hq => con_X12_canTell (ll (lf h_a0 1 rfl)) hq) dX12_run_122 (fun q8 _ => ?_)
            refine c_if_eq (tgt := 132) G dX12_run_125 (by decide) (fun _ => ?_) (fun _ => ?_)
            · skip
              exact c_weak _ [0, 1, 3, 4] rfl (hJ132 ())
            · skip
              refine c_iconst G (nI 1) dX12_run_128 kI_1 ?_
              refine c_goto (tgt := 133) G dX12_run_129 (by decide) ?_
              refine c_iadd G dX12_run_133 ?_
              refine c_let (fun l2_5 _ => ?_)
              refine c_istore_n G [(2, .int l2_5), (0, .ref (wB w + pz (a0))), (1, .int a1), (3, .int l3_1), (4, .int l4_1)] dX12_run_134 rfl (by decide) rfl ?_
              refine c_iinc G (fun y__ => [(4, .int y__), (2, .int l2_5), (0, .ref (wB w + pz (a0))), (1, .int a1), (3, .int l3_1)]) dX12_run_135 4 rfl kI_1 (by decide) (fun _ => rfl) (fun l4_3 _ => ?_)
              refine c_goto (tgt := 82) G dX12_run_138 (by decide) ?_
              exact c_weak _ [2, 3, 1, 4, 0] rfl (ih l2_5 l4_3)
      · skip
        exact c_weak _ [0, 1, 2, 3] rfl (hE141 l2_3)
set_option maxHeartbeats 4000000 in
set_option maxRecDepth 100000 in
theorem cl_X12_run_50 {w : Wp} {X : Cx} {Q : State → Prop} {ρ : Int32 × Mm} (G : Good w X cX12_run 5 RX12 (some .int) 9) (hQ : Q = MQ (xL X) (Qd w (encI ρ)) (xA X) (xS X) (xk X) (xs X) (Aw w)) {M1 : Mm} {a0 : Nat} {N : Nat} {a1 : Int32} (h_a0 : lay a0 = (5, 12)) : ∀ (n : Nat) (l2_1 : Int32) (l3_1 : Int32), Cov w X Q ρ some 5 50 [(0, .ref (wB w + pz (a0))), (1, .int a1), (2, .int l2_1), (3, .int l3_1)] [] M1 (L_X12_run_50 M1 a0 N a1 n l2_1 l3_1) := by
  intro n
  induction n with
  | zero => intro l2_1 l3_1; exact c_none
  | succ n ih =>
    intro l2_1 l3_1
    rw [L_X12_run_50]
    refine c_iload_n G dX12_run_50 rfl 3 rfl ?_
    refine c_aload_n G dX12_run_51 rfl 0 rfl ?_
    refine c_getI G fl_X12_322 h_a0 rfl dX12_run_52 ?_
    refine c_icmp_ge (tgt := 147) G dX12_run_55 (by decide) (fun _ => ?_) (fun _ => ?_)
    · skip
      refine c_aload_n G dX12_run_147 rfl 0 rfl ?_
      refine c_iload_n G dX12_run_148 rfl 2 rfl ?_
      refine c_callV_I (d := 0) (rest := []) G [.int l2_1] yv_X12_gives ml_X12_328 (by omega) (by decide) rfl rfl (Nat.le_of_ble_eq_true rfl) h_a0 (fun q hq => con_X12_gives h_a0 hq) dX12_run_149 (fun q6 _ => ?_)
      exact c_iret G hQ dX12_run_152
    · skip
      refine c_iload_n G dX12_run_58 rfl 2 rfl ?_
      refine c_iload_n G dX12_run_59 rfl 1 rfl ?_
      refine c_bj (ej := fun (p77 : Int32) => [(0, .ref (wB w + pz (a0))), (1, .int a1), (3, .int l3_1)]) (sj := fun p77 => [.int p77, .int l2_1]) (mj := fun p77 => M1) (pj := 77) (fun p77 => ?_) (fun F hJ77 => ?_)
      · skip
        refine c_iadd G dX12_run_77 ?_
        refine c_let (fun l2_2 _ => ?_)
        refine c_istore_n G [(2, .int l2_2), (0, .ref (wB w + pz (a0))), (1, .int a1), (3, .int l3_1)] dX12_run_78 rfl (by decide) rfl ?_
        refine c_iconst G (nI 0) dX12_run_79 kI_0 ?_
        refine c_istore G [(4, .int (nI 0)), (2, .int l2_2), (0, .ref (wB w + pz (a0))), (1, .int a1), (3, .int l3_1)] dX12_run_80 (by decide) rfl ?_
        refine c_weak _ [2, 3, 1, 4, 0] rfl (cl_X12_run_82 G hQ _ h_a0 ?_ N l2_2 (nI 0))
        · intro l2_6
          refine c_iinc G (fun y__ => [(3, .int y__), (0, .ref (wB w + pz (a0))), (1, .int a1), (2, .int l2_6)]) dX12_run_141 3 rfl kI_1 (by decide) (fun _ => rfl) (fun l3_2 _ => ?_)
          refine c_goto (tgt := 50) G dX12_run_144 (by decide) ?_
          exact c_weak _ [1, 2, 3, 0] rfl (ih l2_6 l3_2)
      · skip
        refine c_if_ne (tgt := 76) G dX12_run_60 (by decide) (fun _ => ?_) (fun _ => ?_)
        · skip
          refine c_aload_n G dX12_run_63 rfl 0 rfl ?_
          refine c_getF G fl_X12_54 h_a0 rfl dX12_run_64 ?_
          refine c_aload_n G dX12_run_67 rfl 0 rfl ?_
          refine c_iload_n G dX12_run_68 rfl 3 rfl ?_
          refine c_callV_PI (d := 0) (rest := [.ref (wB w + pz ((a0 + 13))), .int l2_1]) G [.int l3_1] yv_X12_symbolOf ml_X12_487 (by omega) (by decide) rfl rfl (Nat.le_of_ble_eq_true rfl) h_a0 (fun q hq => con_X12_symbolOf h_a0 hq) dX12_run_69 (fun q9 _ => ?_)
          refine c_iald G (lf h_a0 30 rfl) dX12_run_72 (fun v3 _ => ?_)
          refine c_goto (tgt := 77) G dX12_run_73 (by decide) ?_
          exact c_weak _ [0, 1, 3] rfl (hJ77 v3)
        · skip
          refine c_iconst G (nI 0) dX12_run_76 kI_0 ?_
          exact c_weak _ [0, 1, 3] rfl (hJ77 (nI 0))
set_option maxHeartbeats 4000000 in
set_option maxRecDepth 100000 in
theorem con_X12_run {w : Wp} {N : Nat} {a0 : Nat} {a1 : Int32} {M : Mm} {q : Int32 × Mm} (h_a0 : lay a0 = (5, 12)) (hq : D_X12_run N a0 a1 M = some q) : Con w 9 yX12_run cX12_run 5 (some .int) [.ref (wB w + pz (a0)), .int a1] M (encI q) := by
  refine Con.of encI q _ hq (by decide) (Nat.le_of_ble_eq_true rfl) ?_
  intro X G Q hQ
  have G : Good w X cX12_run 5 RX12 (some .int) 9 := G
  refine c_weak [(0, .ref (wB w + pz (a0))), (1, .int a1)] [0, 1] rfl ?_
  rw [D_X12_run]
  refine c_iload_n G dX12_run_0 rfl 1 rfl ?_
  refine c_iconst G (nI 0) dX12_run_1 kI_0 ?_
  refine c_iconst G (nI 1) dX12_run_2 kI_1 ?_
  refine c_callS_PI (d := 0) (rest := []) G [.int a1, .int (nI 0), .int (nI 1)] ys_X12_isFrom ml_X12_246 (by omega) (by decide) rfl rfl (Nat.le_of_ble_eq_true rfl) (fun q hq => con_X12_isFrom hq) dX12_run_3 (fun q1 _ => ?_)
  refine c_if_ne (tgt := 15) G dX12_run_6 (by decide) (fun _ => ?_) (fun _ => ?_)
  · skip
    refine c_aload_n G dX12_run_9 rfl 0 rfl ?_
    refine c_iconst G (nI 1) dX12_run_10 kI_1 ?_
    refine c_callV_I (d := 0) (rest := []) G [.int (nI 1)] yv_X12_refuse ml_X12_305 (by omega) (by decide) rfl rfl (Nat.le_of_ble_eq_true rfl) h_a0 (fun q hq => con_X12_refuse h_a0 hq) dX12_run_11 (fun q2 _ => ?_)
    exact c_iret G hQ dX12_run_14
  · skip
    refine c_aload_n G dX12_run_15 rfl 0 rfl ?_
    refine c_callV_PI (d := 0) (rest := []) G [] yv_X12_hasTree ml_X12_544 (by omega) (by decide) rfl rfl (Nat.le_of_ble_eq_true rfl) h_a0 (fun q hq => con_X12_hasTree h_a0 hq) dX12_run_16 (fun q3 _ => ?_)
    refine c_if_ne (tgt := 28) G dX12_run_19 (by decide) (fun _ => ?_) (fun _ => ?_)
    · skip
      refine c_aload_n G dX12_run_22 rfl 0 rfl ?_
      refine c_iconst G (nI 3) dX12_run_23 kI_3 ?_
      refine c_callV_I (d := 0) (rest := []) G [.int (nI 3)] yv_X12_refuse ml_X12_305 (by omega) (by decide) rfl rfl (Nat.le_of_ble_eq_true rfl) h_a0 (fun q hq => con_X12_refuse h_a0 hq) dX12_run_24 (fun q4 _ => ?_)
      exact c_iret G hQ dX12_run_27
    · skip
      refine c_aload_n G dX12_run_28 rfl 0 rfl ?_
      refine c_callV_I (d := 8) (rest := []) G [] yv_X12_block ml_X12_456 (by omega) (by decide) rfl rfl (Nat.le_of_ble_eq_true rfl) h_a0 (fun q hq => con_X12_block h_a0 hq) dX12_run_29 (fun q5 _ => ?_)
      refine c_iconst G m1 dX12_run_32 kI_m1 ?_
      refine c_icmp_eq (tgt := 42) G dX12_run_33 (by decide) (fun _ => ?_) (fun _ => ?_)
      · skip
        refine c_aload_n G dX12_run_42 rfl 0 rfl ?_
        refine c_callV_V (d := 5) (rest := []) G [] yv_X12_laysAllVisits ml_X12_389 (by omega) (by decide) rfl rfl (Nat.le_of_ble_eq_true rfl) h_a0 (fun q hq => con_X12_laysAllVisits h_a0 hq) dX12_run_43 (fun M1 _ => ?_)
        refine c_iconst G (nI 0) dX12_run_46 kI_0 ?_
        refine c_istore_n G [(2, .int (nI 0)), (0, .ref (wB w + pz (a0))), (1, .int a1)] dX12_run_47 rfl (by decide) rfl ?_
        refine c_iconst G (nI 0) dX12_run_48 kI_0 ?_
        refine c_istore_n G [(3, .int (nI 0)), (2, .int (nI 0)), (0, .ref (wB w + pz (a0))), (1, .int a1)] dX12_run_49 rfl (by decide) rfl ?_
        refine c_weak _ [2, 3, 1, 0] rfl (cl_X12_run_50 G hQ  h_a0 N (nI 0) (nI 0))
      · skip
        refine c_aload_n G dX12_run_36 rfl 0 rfl ?_
        refine c_iconst G (nI 5) dX12_run_37 kI_5 ?_
        refine c_callV_I (d := 0) (rest := []) G [.int (nI 5)] yv_X12_refuse ml_X12_305 (by omega) (by decide) rfl rfl (Nat.le_of_ble_eq_true rfl) h_a0 (fun q hq => con_X12_refuse h_a0 hq) dX12_run_38 (fun q10 _ => ?_)
        exact c_iret G hQ dX12_run_41
set_option maxHeartbeats 4000000 in
set_option maxRecDepth 100000 in
theorem cl_X12_longest_62 {w : Wp} {X : Cx} {Q : State → Prop} {ρ : Int32 × Mm} (G : Good w X cX12_longest 5 RX12 (some .int) 1) (hQ : Q = MQ (xL X) (Qd w (encI ρ)) (xA X) (xS X) (xk X) (xs X) (Aw w)) (kE128 : Mm → Option (Int32 × Mm)) {a0 : Nat} {N : Nat} {v1 : Int32} {l1_1 : Int32} {l2_1 : Int32} (h_a0 : lay a0 = (5, 12)) (hE128 : ∀ (Mz : Mm), Cov w X Q ρ some 5 128 [(0, .ref (wB w + pz (a0))), (1, .int l1_1), (2, .int l2_1), (3, .int v1)] [] Mz (kE128 Mz)) : ∀ (n : Nat) (l4_1 : Int32) (M4 : Mm), Cov w X Q ρ some 5 62 [(0, .ref (wB w + pz (a0))), (1, .int l1_1), (2, .int l2_1), (3, .int v1), (4, .int l4_1)] [] M4 (L_X12_longest_62 kE128 a0 N v1 n l4_1 M4) := by
  intro n
  induction n with
  | zero => intro l4_1 M4; exact c_none
  | succ n ih =>
    intro l4_1 M4
    rw [L_X12_longest_62]
    refine c_iload G dX12_longest_62 4 rfl ?_
    refine c_bipush G (nI 8) dX12_longest_64 kB_8 ?_
    refine c_aload_n G dX12_longest_66 rfl 0 rfl ?_
    refine c_getI G fl_X12_322 h_a0 rfl dX12_longest_67 ?_
    refine c_imul G dX12_longest_70 ?_
    refine c_icmp_ge (tgt := 128) G dX12_longest_71 (by decide) (fun _ => ?_) (fun _ => ?_)
    · skip
      exact c_weak _ [0, 1, 2, 3] rfl (hE128 M4)
    · skip
      refine c_aload_n G dX12_longest_74 rfl 0 rfl ?_
      refine c_getF G fl_X12_120 h_a0 rfl dX12_longest_75 ?_
      refine c_iload_n G dX12_longest_78 rfl 3 rfl ?_
      refine c_iload G dX12_longest_79 4 rfl ?_
      refine c_callS_PI (d := 0) (rest := []) G [.ref (wB w + pz ((a0 + 35))), .int v1, .int l4_1] ys_X12_bit ml_X12_511 (by omega) (by decide) rfl rfl (Nat.le_of_ble_eq_true rfl) (fun q hq => con_X12_bit (ll (lf h_a0 64 rfl)) hq) dX12_longest_81 (fun q4 _ => ?_)
      refine c_if_eq (tgt := 122) G dX12_longest_84 (by decide) (fun _ => ?_) (fun _ => ?_)
      · skip
        refine c_iinc G (fun y__ => [(4, .int y__), (0, .ref (wB w + pz (a0))), (1, .int l1_1), (2, .int l2_1), (3, .int v1)]) dX12_longest_122 4 rfl kI_1 (by decide) (fun _ => rfl) (fun l4_2 _ => ?_)
        refine c_goto (tgt := 62) G dX12_longest_125 (by decide) ?_
        exact c_weak _ [1, 2, 3, 4, 0] rfl (ih l4_2 M4)
      · skip
        refine c_aload_n G dX12_longest_87 rfl 0 rfl ?_
        refine c_getF G fl_X12_105 h_a0 rfl dX12_longest_88 ?_
        refine c_iload G dX12_longest_91 4 rfl ?_
        refine c_iald G (lf h_a0 59 rfl) dX12_longest_93 (fun v3 _ => ?_)
        refine c_iconst G m1 dX12_longest_94 kI_m1 ?_
        refine c_icmp_ne (tgt := 122) G dX12_longest_95 (by decide) (fun _ => ?_) (fun _ => ?_)
        · skip
          refine c_aload_n G dX12_longest_98 rfl 0 rfl ?_
          refine c_getF G fl_X12_148 h_a0 rfl dX12_longest_99 ?_
          refine c_iload_n G dX12_longest_102 rfl 3 rfl ?_
          refine c_aload_n G dX12_longest_103 rfl 0 rfl ?_
          refine c_getF G fl_X12_148 h_a0 rfl dX12_longest_104 ?_
          refine c_iload_n G dX12_longest_107 rfl 3 rfl ?_
          refine c_iald G (lf h_a0 74 rfl) dX12_longest_108 (fun v4 _ => ?_)
          refine c_aload_n G dX12_longest_109 rfl 0 rfl ?_
          refine c_getF G fl_X12_148 h_a0 rfl dX12_longest_110 ?_
          refine c_iload G dX12_longest_113 4 rfl ?_
          refine c_iald G (lf h_a0 74 rfl) dX12_longest_115 (fun v5 _ => ?_)
          refine c_iconst G (nI 1) dX12_longest_116 kI_1 ?_
          refine c_iadd G dX12_longest_117 ?_
          refine c_mmax G ml_X12_514 ys_J9_max_7cf53 (by omega) (Nat.le_of_ble_eq_true rfl) dX12_longest_118 ?_
          refine c_iast G (lf h_a0 74 rfl) dX12_longest_121 (fun M5 _ => ?_)
          refine c_iinc G (fun y__ => [(4, .int y__), (0, .ref (wB w + pz (a0))), (1, .int l1_1), (2, .int l2_1), (3, .int v1)]) dX12_longest_122 4 rfl kI_1 (by decide) (fun _ => rfl) (fun l4_3 _ => ?_)
          refine c_goto (tgt := 62) G dX12_longest_125 (by decide) ?_
          exact c_weak _ [1, 2, 3, 4, 0] rfl (ih l4_3 M5)
        · skip
          refine c_iinc G (fun y__ => [(4, .int y__), (0, .ref (wB w + pz (a0))), (1, .int l1_1), (2, .int l2_1), (3, .int v1)]) dX12_longest_122 4 rfl kI_1 (by decide) (fun _ => rfl) (fun l4_4 _ => ?_)
          refine c_goto (tgt := 62) G dX12_longest_125 (by decide) ?_
          exact c_weak _ [1, 2, 3, 4, 0] rfl (ih l4_4 M4)
