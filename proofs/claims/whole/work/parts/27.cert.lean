set_option maxRecDepth 100000 in
set_option maxHeartbeats 4000000 in
theorem ce_X12_planOf (X : Xt) (a1 : Int32) (a2 : Int32) (w : Wd) : E gWL X m_X12_planOf 86 0 [(0, .ref (xa X 54)), (1, .int a1), (2, .int a2)] [] w (f_X12_planOf a1 a2 w) := by
  unfold f_X12_planOf
  refine e_aload_n (pc := 0) dX12_planOf_0 0 rfl rfl ?_
  refine e_iload_n (pc := 1) dX12_planOf_1 1 rfl rfl ?_
  refine e_iconst (pc := 2) (v := (0 : Int32)) dX12_planOf_2 ic_0 ?_
  refine e_callVWV (pc := 3) (As := [.int a1, .int (0 : Int32)]) (rest := []) kk54 Kc12 (cf_X12_beginParts X a1 (0 : Int32) w) lk_X12_268 (Nat.le_of_ble_eq_true rfl) (Nat.le_of_ble_eq_true rfl) rfl rfl (Nat.le_of_ble_eq_true rfl) dX12_planOf_3 (fun w1 => ?_)
  refine e_aload_n (pc := 6) dX12_planOf_6 0 rfl rfl ?_
  refine e_iconst (pc := 7) (v := (0 : Int32)) dX12_planOf_7 ic_0 ?_
  refine e_iload_n (pc := 8) dX12_planOf_8 2 rfl rfl ?_
  refine e_callVWL (pc := 9) (As := [.int (0 : Int32), .int a2]) (rest := []) kk54 Kc12 (cf_X12_planFrom X rf (0 : Int32) a2 w1) lk_X12_320 (Nat.le_of_ble_eq_true rfl) (Nat.le_of_ble_eq_true rfl) rfl rfl (Nat.le_of_ble_eq_true rfl) dX12_planOf_9 (fun r2 w3 => ?_)
  exact e_lretW rfl dX12_planOf_12
theorem cf_X12_planOf (X : Xt) (a1 : Int32) (a2 : Int32) (w : Wd) : CF gWL X m_X12_planOf 86 [.ref (xa X 54), .int a1, .int a2] w (f_X12_planOf a1 a2 w) := CF_of (by decide) (Nat.le_of_ble_eq_true rfl) (ce_X12_planOf X a1 a2 w)
set_option maxRecDepth 100000 in
set_option maxHeartbeats 4000000 in
theorem ce_X12_plan (X : Xt) (a1 : Int32) (a2 : Int32) (a3 : Int32) (w : Wd) : E gWL X m_X12_plan 87 0 [(0, .ref (xa X 54)), (1, .int a1), (2, .int a2), (3, .int a3)] [] w (f_X12_plan a1 a2 a3 w) := by
  unfold f_X12_plan
  refine e_iload_n (pc := 0) dX12_plan_0 1 rfl rfl ?_
  refine e_callSRI (pc := 1) (As := [.int a1]) (rest := []) (cf_X12_isBag X a1 w) lk_X12_155 (Nat.le_of_ble_eq_true rfl) (Nat.le_of_ble_eq_true rfl) rfl rfl (Nat.le_of_ble_eq_true rfl) dX12_plan_1 (fun r1 => ?_)
  refine e_if_eq (pc := 4) (tgt := 25) dX12_plan_4 (by decide) (fun _ => ?_) (fun _ => ?_)
  · refine e_ldc2 (pc := 25) (v := (-9223372036854775808 : Int64)) dX12_plan_25 cl_X12_283 ?_
    exact e_lretW rfl dX12_plan_28
  · refine e_iload_n (pc := 7) dX12_plan_7 2 rfl rfl ?_
    refine e_iconst (pc := 8) (v := (0 : Int32)) dX12_plan_8 ic_0 ?_
    refine e_iconst (pc := 9) (v := (3 : Int32)) dX12_plan_9 ic_3 ?_
    refine e_callSRI (pc := 10) (As := [.int a2, .int (0 : Int32), .int (3 : Int32)]) (rest := []) (cf_X12_in X a2 (0 : Int32) (3 : Int32) w) lk_X12_124 (Nat.le_of_ble_eq_true rfl) (Nat.le_of_ble_eq_true rfl) rfl rfl (Nat.le_of_ble_eq_true rfl) dX12_plan_10 (fun r2 => ?_)
    refine e_if_eq (pc := 13) (tgt := 25) dX12_plan_13 (by decide) (fun _ => ?_) (fun _ => ?_)
    · refine e_ldc2 (pc := 25) (v := (-9223372036854775808 : Int64)) dX12_plan_25 cl_X12_283 ?_
      exact e_lretW rfl dX12_plan_28
    · refine e_iload_n (pc := 16) dX12_plan_16 3 rfl rfl ?_
      refine e_iconst (pc := 17) (v := (0 : Int32)) dX12_plan_17 ic_0 ?_
      refine e_iconst (pc := 18) (v := (2 : Int32)) dX12_plan_18 ic_2 ?_
      refine e_callSRI (pc := 19) (As := [.int a3, .int (0 : Int32), .int (2 : Int32)]) (rest := []) (cf_X12_in X a3 (0 : Int32) (2 : Int32) w) lk_X12_124 (Nat.le_of_ble_eq_true rfl) (Nat.le_of_ble_eq_true rfl) rfl rfl (Nat.le_of_ble_eq_true rfl) dX12_plan_19 (fun r3 => ?_)
      refine e_if_ne (pc := 22) (tgt := 29) dX12_plan_22 (by decide) (fun _ => ?_) (fun _ => ?_)
      · refine e_ldc2 (pc := 25) (v := (-9223372036854775808 : Int64)) dX12_plan_25 cl_X12_283 ?_
        exact e_lretW rfl dX12_plan_28
      · refine e_aload_n (pc := 29) dX12_plan_29 0 rfl rfl ?_
        refine e_iload_n (pc := 30) dX12_plan_30 1 rfl rfl ?_
        refine e_iload_n (pc := 31) dX12_plan_31 2 rfl rfl ?_
        refine e_callVWL (pc := 32) (As := [.int a1, .int a2]) (rest := []) kk54 Kc12 (cf_X12_planOf X a1 a2 w) lk_X12_327 (Nat.le_of_ble_eq_true rfl) (Nat.le_of_ble_eq_true rfl) rfl rfl (Nat.le_of_ble_eq_true rfl) dX12_plan_32 (fun r4 w5 => ?_)
        refine e_lstore (pc := 35) (lv' := [(4, .long r4), (0, .ref (xa X 54)), (1, .int a1), (2, .int a2), (3, .int a3)]) dX12_plan_35 (Nat.le_of_ble_eq_true rfl) rfl ?_
        refine e_iload_n (pc := 37) dX12_plan_37 4 rfl rfl ?_
        refine e_iconst (pc := 38) (v := (2 : Int32)) dX12_plan_38 ic_2 ?_
        refine e_icmp_ne (pc := 39) (tgt := 50) dX12_plan_39 (by decide) (fun _ => ?_) (fun _ => ?_)
        · refine e_aload_n (pc := 42) dX12_plan_42 1 rfl rfl ?_
          refine g_I (pc := 43) kk54 fl_X12_324 dX12_plan_43 ?_
          refine e_i2l (pc := 46) dX12_plan_46 ?_
          refine e_goto (pc := 47) (tgt := 70) dX12_plan_47 (by decide) ?_
          exact e_lretW rfl dX12_plan_70
        · refine e_lload (pc := 50) dX12_plan_50 0 rfl ?_
          refine e_aload_n (pc := 52) dX12_plan_52 1 rfl rfl ?_
          refine e_iload_n (pc := 53) dX12_plan_53 2 rfl rfl ?_
          refine e_callVRI (pc := 54) (As := [.int a1]) (rest := [.long r4]) kk54 Kc12 (cf_X12_measureOf X a1 w5) lk_X12_298 (Nat.le_of_ble_eq_true rfl) (Nat.le_of_ble_eq_true rfl) rfl rfl (Nat.le_of_ble_eq_true rfl) dX12_plan_54 (fun r6 => ?_)
          refine e_i2l (pc := 57) dX12_plan_57 ?_
          refine e_ldc2 (pc := 58) (v := (1728 : Int64)) dX12_plan_58 cl_X12_301 ?_
          refine e_iload_n (pc := 61) dX12_plan_61 3 rfl rfl ?_
          refine e_callSRL (pc := 62) (As := [.long (1728 : Int64), .int a2]) (rest := [.long (Int32.toInt64 r6), .long r4]) (cf_X12_power X (1728 : Int64) a2 w5) lk_X12_258 (Nat.le_of_ble_eq_true rfl) (Nat.le_of_ble_eq_true rfl) rfl rfl (Nat.le_of_ble_eq_true rfl) dX12_plan_62 (fun r7 => ?_)
          refine e_lmul (pc := 65) dX12_plan_65 ?_
          refine e_iload_n (pc := 66) dX12_plan_66 4 rfl rfl ?_
          refine e_callSRL (pc := 67) (As := [.long r4, .long ((Int32.toInt64 r6) * r7), .int a3]) (rest := []) (cf_X12_asPart X r4 ((Int32.toInt64 r6) * r7) a3 w5) lk_X12_294 (Nat.le_of_ble_eq_true rfl) (Nat.le_of_ble_eq_true rfl) rfl rfl (Nat.le_of_ble_eq_true rfl) dX12_plan_67 (fun r8 => ?_)
          exact e_lretW rfl dX12_plan_70
theorem cf_X12_plan (X : Xt) (a1 : Int32) (a2 : Int32) (a3 : Int32) (w : Wd) : CF gWL X m_X12_plan 87 [.ref (xa X 54), .int a1, .int a2, .int a3] w (f_X12_plan a1 a2 a3 w) := CF_of (by decide) (Nat.le_of_ble_eq_true rfl) (ce_X12_plan X a1 a2 a3 w)
set_option maxRecDepth 100000 in
set_option maxHeartbeats 4000000 in
theorem cb_X12_buy_b118 (X : Xt) (k23 : Int32 → Int32 → Int64 → Int64 → Int32 → Wd → Option (Int64 × Wd)) (hk23 : ∀ (x1 : Int32) (x2 : Int32) (x3 : Int64) (x5 : Int64) (x7 : Int32)  (w : Wd), E gWL X m_X12_buy 87 23 [(0, .ref (xa X 54)), (1, .int x1), (2, .int x2), (3, .long x3), (5, .long x5), (7, .int x7)] [] w (k23 x1 x2 x3 x5 x7 w)) (x1 : Int32) (x2 : Int32) (x3 : Int64) (x5 : Int64) (x7 : Int32) (w : Wd) : E gWL X m_X12_buy 87 118 [(0, .ref (xa X 54)), (1, .int x1), (2, .int x2), (3, .long x3), (5, .long x5), (7, .int x7)] [] w (f_X12_buy_b118 k23 x1 x2 x3 x5 x7 w) := by
  unfold f_X12_buy_b118
  refine e_iinc (pc := 118) (lv' := [(7, .int (x7 + (1 : Int32))), (0, .ref (xa X 54)), (1, .int x1), (2, .int x2), (3, .long x3), (5, .long x5)]) dX12_buy_118 5 rfl (ii_1 _) (Nat.le_of_ble_eq_true rfl) rfl ?_
  refine e_goto (pc := 121) (tgt := 23) dX12_buy_121 (by decide) ?_
  refine e_lv [1, 2, 3, 4, 5, 0] rfl ?_
  exact hk23 x1 x2 x3 x5 (x7 + (1 : Int32)) w
set_option maxRecDepth 100000 in
set_option maxHeartbeats 4000000 in
theorem cb_X12_buy_b102 (X : Xt) (k23 : Int32 → Int32 → Int64 → Int64 → Int32 → Wd → Option (Int64 × Wd)) (hk23 : ∀ (x1 : Int32) (x2 : Int32) (x3 : Int64) (x5 : Int64) (x7 : Int32)  (w : Wd), E gWL X m_X12_buy 87 23 [(0, .ref (xa X 54)), (1, .int x1), (2, .int x2), (3, .long x3), (5, .long x5), (7, .int x7)] [] w (k23 x1 x2 x3 x5 x7 w)) (x1 : Int32) (x7 : Int32) (x8 : Int64) (x10 : Int64) (x12 : Int64) (w : Wd) : E gWL X m_X12_buy 87 102 [(0, .ref (xa X 54)), (1, .int x1), (7, .int x7), (8, .long x8), (10, .long x10), (12, .long x12)] [] w (f_X12_buy_b102 k23 x1 x7 x8 x10 x12 w) := by
  unfold f_X12_buy_b102
  refine e_iload (pc := 102) dX12_buy_102 2 rfl ?_
  refine e_istore_n (pc := 104) (lv' := [(2, .int x7), (0, .ref (xa X 54)), (1, .int x1), (7, .int x7), (8, .long x8), (10, .long x10), (12, .long x12)]) dX12_buy_104 rfl (Nat.le_of_ble_eq_true rfl) rfl ?_
  refine e_lload (pc := 105) dX12_buy_105 5 rfl ?_
  refine e_lload (pc := 107) dX12_buy_107 6 rfl ?_
  refine e_ldivG (pc := 109) dX12_buy_109 (fun v11 => ?_)
  refine e_lstore_n (pc := 110) (lv' := [(3, .long v11), (2, .int x7), (0, .ref (xa X 54)), (1, .int x1), (7, .int x7), (8, .long x8), (10, .long x10), (12, .long x12)]) dX12_buy_110 rfl (Nat.le_of_ble_eq_true rfl) rfl ?_
  refine e_lload (pc := 111) dX12_buy_111 5 rfl ?_
  refine e_lload (pc := 113) dX12_buy_113 7 rfl ?_
  refine e_ldivG (pc := 115) dX12_buy_115 (fun v12 => ?_)
  refine e_lstore (pc := 116) (lv' := [(5, .long v12), (3, .long v11), (2, .int x7), (0, .ref (xa X 54)), (1, .int x1), (7, .int x7), (8, .long x8), (10, .long x10), (12, .long x12)]) dX12_buy_116 (Nat.le_of_ble_eq_true rfl) rfl ?_
  refine e_lv [3, 4, 2, 1, 0, 5] rfl ?_
  exact cb_X12_buy_b118 X k23 hk23 x1 x7 v11 v12 x7 w
set_option maxRecDepth 100000 in
set_option maxHeartbeats 4000000 in
theorem cb_X12_buy_b23_y (X : Xt) (k23 : Int32 → Int32 → Int64 → Int64 → Int32 → Wd → Option (Int64 × Wd)) (hk23 : ∀ (x1 : Int32) (x2 : Int32) (x3 : Int64) (x5 : Int64) (x7 : Int32)  (w : Wd), E gWL X m_X12_buy 87 23 [(0, .ref (xa X 54)), (1, .int x1), (2, .int x2), (3, .long x3), (5, .long x5), (7, .int x7)] [] w (k23 x1 x2 x3 x5 x7 w)) (x1 : Int32) (x2 : Int32) (x3 : Int64) (x5 : Int64) (x7 : Int32) (w : Wd) : E gWL X m_X12_buy 87 23 [(0, .ref (xa X 54)), (1, .int x1), (2, .int x2), (3, .long x3), (5, .long x5), (7, .int x7)] [] w (f_X12_buy_b23_y k23 x1 x2 x3 x5 x7 w) := by
  unfold f_X12_buy_b23_y
  refine e_iload (pc := 23) dX12_buy_23 5 rfl ?_
  refine e_iconst (pc := 25) (v := (4 : Int32)) dX12_buy_25 ic_4 ?_
  refine e_icmp_ge (pc := 26) (tgt := 124) dX12_buy_26 (by decide) (fun _ => ?_) (fun _ => ?_)
  · refine e_iload_n (pc := 124) dX12_buy_124 1 rfl rfl ?_
    refine e_iconst (pc := 125) (v := (2 : Int32)) dX12_buy_125 ic_2 ?_
    refine e_icmp_ne (pc := 126) (tgt := 134) dX12_buy_126 (by decide) (fun _ => ?_) (fun _ => ?_)
    · refine e_iload_n (pc := 129) dX12_buy_129 2 rfl rfl ?_
      refine e_i2l (pc := 130) dX12_buy_130 ?_
      refine e_goto (pc := 131) (tgt := 141) dX12_buy_131 (by decide) ?_
      exact e_lretW rfl dX12_buy_141
    · refine e_lload_n (pc := 134) dX12_buy_134 3 rfl rfl ?_
      refine e_lload (pc := 135) dX12_buy_135 4 rfl ?_
      refine e_iload_n (pc := 137) dX12_buy_137 1 rfl rfl ?_
      refine e_callSRL (pc := 138) (As := [.long x3, .long x5, .int x1]) (rest := []) (cf_X12_asPart X x3 x5 x1 w) lk_X12_294 (Nat.le_of_ble_eq_true rfl) (Nat.le_of_ble_eq_true rfl) rfl rfl (Nat.le_of_ble_eq_true rfl) dX12_buy_138 (fun r2 => ?_)
      exact e_lretW rfl dX12_buy_141
  · refine e_aload_n (pc := 29) dX12_buy_29 0 rfl rfl ?_
    refine e_iload (pc := 30) dX12_buy_30 5 rfl ?_
    refine e_callVRI (pc := 32) (As := [.int x7]) (rest := []) kk54 Kc12 (cf_X12_measureOf X x7 w) lk_X12_298 (Nat.le_of_ble_eq_true rfl) (Nat.le_of_ble_eq_true rfl) rfl rfl (Nat.le_of_ble_eq_true rfl) dX12_buy_32 (fun r3 => ?_)
    refine e_i2l (pc := 35) dX12_buy_35 ?_
    refine e_ldc2 (pc := 36) (v := (1728 : Int64)) dX12_buy_36 cl_X12_301 ?_
    refine e_iconst (pc := 39) (v := (2 : Int32)) dX12_buy_39 ic_2 ?_
    refine e_callSRL (pc := 40) (As := [.long (1728 : Int64), .int (2 : Int32)]) (rest := [.long (Int32.toInt64 r3)]) (cf_X12_power X (1728 : Int64) (2 : Int32) w) lk_X12_258 (Nat.le_of_ble_eq_true rfl) (Nat.le_of_ble_eq_true rfl) rfl rfl (Nat.le_of_ble_eq_true rfl) dX12_buy_40 (fun r4 => ?_)
    refine e_lmul (pc := 43) dX12_buy_43 ?_
    refine e_nameL (fun y5 => ?_)
    refine e_lstore (pc := 44) (lv' := [(8, .long y5), (0, .ref (xa X 54)), (1, .int x1), (2, .int x2), (3, .long x3), (5, .long x5), (7, .int x7)]) dX12_buy_44 (Nat.le_of_ble_eq_true rfl) rfl ?_
    refine e_aload_n (pc := 46) dX12_buy_46 1 rfl rfl ?_
    refine e_iload (pc := 47) dX12_buy_47 6 rfl ?_
    refine e_iconst (pc := 49) (v := (2 : Int32)) dX12_buy_49 ic_2 ?_
    refine e_callVWL (pc := 50) (As := [.int x7, .int (2 : Int32)]) (rest := []) kk54 Kc12 (cf_X12_planOf X x7 (2 : Int32) w) lk_X12_327 (Nat.le_of_ble_eq_true rfl) (Nat.le_of_ble_eq_true rfl) rfl rfl (Nat.le_of_ble_eq_true rfl) dX12_buy_50 (fun r6 w7 => ?_)
    refine e_aload_n (pc := 53) dX12_buy_53 1 rfl rfl ?_
    refine g_R (pc := 54) (cl' := 56) kk54 fl_X12_15 rfl dX12_buy_54 ?_
    refine e_iload (pc := 57) dX12_buy_57 6 rfl ?_
    refine e_iald (pc := 59) kk56 dX12_buy_59 (fun v8 => ?_)
    refine e_i2l (pc := 60) dX12_buy_60 ?_
    refine e_lload (pc := 61) dX12_buy_61 0 rfl ?_
    refine e_lmul (pc := 63) dX12_buy_63 ?_
    refine e_ladd (pc := 64) dX12_buy_64 ?_
    refine e_nameL (fun y9 => ?_)
    refine e_lstore (pc := 65) (lv' := [(10, .long y9), (8, .long y5), (0, .ref (xa X 54)), (1, .int x1), (2, .int x2), (3, .long x3), (5, .long x5), (7, .int x7)]) dX12_buy_65 (Nat.le_of_ble_eq_true rfl) rfl ?_
    refine e_lload (pc := 67) dX12_buy_67 0 rfl ?_
    refine e_lload (pc := 69) dX12_buy_69 1 rfl ?_
    refine e_callSRL (pc := 71) (As := [.long y9, .long y5]) (rest := []) (cf_X12_asBy X y9 y5 w7) lk_X12_306 (Nat.le_of_ble_eq_true rfl) (Nat.le_of_ble_eq_true rfl) rfl rfl (Nat.le_of_ble_eq_true rfl) dX12_buy_71 (fun r10 => ?_)
    refine e_lstore (pc := 74) (lv' := [(12, .long r10), (10, .long y9), (8, .long y5), (0, .ref (xa X 54)), (1, .int x1), (2, .int x2), (3, .long x3), (5, .long x5), (7, .int x7)]) dX12_buy_74 (Nat.le_of_ble_eq_true rfl) rfl ?_
    refine e_iload_n (pc := 76) dX12_buy_76 5 rfl rfl ?_
    refine e_if_lt (pc := 77) (tgt := 102) dX12_buy_77 (by decide) (fun _ => ?_) (fun _ => ?_)
    · refine e_lv [3, 4, 8, 2, 1, 0] rfl ?_
      exact cb_X12_buy_b102 X k23 hk23 x1 x7 y5 y9 r10 w7
    · refine e_lload (pc := 80) dX12_buy_80 1 rfl ?_
      refine e_lload (pc := 82) dX12_buy_82 0 rfl ?_
      refine e_ldivG (pc := 84) dX12_buy_84 (fun v13 => ?_)
      refine e_lload (pc := 85) dX12_buy_85 7 rfl ?_
      refine e_lmul (pc := 87) dX12_buy_87 ?_
      refine e_lload_n (pc := 88) dX12_buy_88 6 rfl rfl ?_
      refine e_lload (pc := 89) dX12_buy_89 2 rfl ?_
      refine e_lload (pc := 91) dX12_buy_91 0 rfl ?_
      refine e_ldivG (pc := 93) dX12_buy_93 (fun v14 => ?_)
      refine e_lmul (pc := 94) dX12_buy_94 ?_
      refine e_lcmp_lt (pc := 95) (tgt := 102) dX12_buy_95 dX12_buy_96 (by decide) (fun _ => ?_) (fun _ => ?_)
      · refine e_lv [3, 4, 8, 2, 1, 0] rfl ?_
        exact cb_X12_buy_b102 X k23 hk23 x1 x7 y5 y9 r10 w7
      · refine e_goto (pc := 99) (tgt := 118) dX12_buy_99 (by decide) ?_
        refine e_lv [3, 4, 5, 6, 7, 8] rfl ?_
        exact cb_X12_buy_b118 X k23 hk23 x1 x2 x3 x5 x7 w7
theorem cb_X12_buy_b23 (X : Xt) : ∀ (n : Nat) (x1 : Int32) (x2 : Int32) (x3 : Int64) (x5 : Int64) (x7 : Int32) (w : Wd), E gWL X m_X12_buy 87 23 [(0, .ref (xa X 54)), (1, .int x1), (2, .int x2), (3, .long x3), (5, .long x5), (7, .int x7)] [] w (f_X12_buy_b23 n x1 x2 x3 x5 x7 w) := by
  intro n
  induction n with
  | zero =>
    intro x1 x2 x3 x5 x7 w
    exact E_none
  | succ n ih =>
    intro x1 x2 x3 x5 x7 w
    exact cb_X12_buy_b23_y X _ ih x1 x2 x3 x5 x7 w
set_option maxRecDepth 100000 in
set_option maxHeartbeats 4000000 in
theorem ce_X12_buy (X : Xt) (a1 : Int32) (w : Wd) : E gWL X m_X12_buy 87 0 [(0, .ref (xa X 54)), (1, .int a1)] [] w (f_X12_buy a1 w) := by
  unfold f_X12_buy
  refine e_iload_n (pc := 0) dX12_buy_0 1 rfl rfl ?_
  refine e_iconst (pc := 1) (v := (0 : Int32)) dX12_buy_1 ic_0 ?_
  refine e_iconst (pc := 2) (v := (2 : Int32)) dX12_buy_2 ic_2 ?_
  refine e_callSRI (pc := 3) (As := [.int a1, .int (0 : Int32), .int (2 : Int32)]) (rest := []) (cf_X12_in X a1 (0 : Int32) (2 : Int32) w) lk_X12_124 (Nat.le_of_ble_eq_true rfl) (Nat.le_of_ble_eq_true rfl) rfl rfl (Nat.le_of_ble_eq_true rfl) dX12_buy_3 (fun r1 => ?_)
  refine e_if_ne (pc := 6) (tgt := 13) dX12_buy_6 (by decide) (fun _ => ?_) (fun _ => ?_)
  · refine e_ldc2 (pc := 9) (v := (-9223372036854775808 : Int64)) dX12_buy_9 cl_X12_283 ?_
    exact e_lretW rfl dX12_buy_12
  · refine e_iconst (pc := 13) (v := (-1 : Int32)) dX12_buy_13 ic_m1 ?_
    refine e_istore_n (pc := 14) (lv' := [(2, .int (-1 : Int32)), (0, .ref (xa X 54)), (1, .int a1)]) dX12_buy_14 rfl (Nat.le_of_ble_eq_true rfl) rfl ?_
    refine e_lconst (pc := 15) (v := (0 : Int64)) dX12_buy_15 lc_0 ?_
    refine e_lstore_n (pc := 16) (lv' := [(3, .long (0 : Int64)), (2, .int (-1 : Int32)), (0, .ref (xa X 54)), (1, .int a1)]) dX12_buy_16 rfl (Nat.le_of_ble_eq_true rfl) rfl ?_
    refine e_lconst (pc := 17) (v := (1 : Int64)) dX12_buy_17 lc_1 ?_
    refine e_lstore (pc := 18) (lv' := [(5, .long (1 : Int64)), (3, .long (0 : Int64)), (2, .int (-1 : Int32)), (0, .ref (xa X 54)), (1, .int a1)]) dX12_buy_18 (Nat.le_of_ble_eq_true rfl) rfl ?_
    refine e_iconst (pc := 20) (v := (0 : Int32)) dX12_buy_20 ic_0 ?_
    refine e_istore (pc := 21) (lv' := [(7, .int (0 : Int32)), (5, .long (1 : Int64)), (3, .long (0 : Int64)), (2, .int (-1 : Int32)), (0, .ref (xa X 54)), (1, .int a1)]) dX12_buy_21 (Nat.le_of_ble_eq_true rfl) rfl ?_
    refine e_lv [4, 5, 3, 2, 1, 0] rfl ?_
    exact cb_X12_buy_b23 X fu a1 (-1 : Int32) (0 : Int64) (1 : Int64) (0 : Int32) w
theorem cf_X12_buy (X : Xt) (a1 : Int32) (w : Wd) : CF gWL X m_X12_buy 87 [.ref (xa X 54), .int a1] w (f_X12_buy a1 w) := CF_of (by decide) (Nat.le_of_ble_eq_true rfl) (ce_X12_buy X a1 w)
set_option maxRecDepth 100000 in
set_option maxHeartbeats 4000000 in
theorem ce_X12_areLists (X : Xt) (a0 : Int32) (w : Wd) : E (gRI w) X m_X12_areLists 1 0 [(0, .int a0)] [] w (f_X12_areLists a0) := by
  unfold f_X12_areLists
  refine e_iload_n (pc := 0) dX12_areLists_0 0 rfl rfl ?_
  refine e_if_lt (pc := 1) (tgt := 56) dX12_areLists_1 (by decide) (fun _ => ?_) (fun _ => ?_)
  · refine e_iconst (pc := 56) (v := (0 : Int32)) dX12_areLists_56 ic_0 ?_
    exact e_zretR0 rfl (by decide) dX12_areLists_57
  · refine e_iload_n (pc := 4) dX12_areLists_4 0 rfl rfl ?_
    refine e_sipush (pc := 5) (v := (10000 : Int32)) dX12_areLists_5 sp_10000 ?_
    refine e_idiv (pc := 8) dX12_areLists_8 (by decide) ?_
    refine e_bipush (pc := 9) (v := (20 : Int32)) dX12_areLists_9 bp_20 ?_
    refine e_icmp_gt (pc := 11) (tgt := 56) dX12_areLists_11 (by decide) (fun _ => ?_) (fun _ => ?_)
    · refine e_iconst (pc := 56) (v := (0 : Int32)) dX12_areLists_56 ic_0 ?_
      exact e_zretR0 rfl (by decide) dX12_areLists_57
    · refine e_iload_n (pc := 14) dX12_areLists_14 0 rfl rfl ?_
      refine e_bipush (pc := 15) (v := (100 : Int32)) dX12_areLists_15 bp_100 ?_
      refine e_idiv (pc := 17) dX12_areLists_17 (by decide) ?_
      refine e_bipush (pc := 18) (v := (100 : Int32)) dX12_areLists_18 bp_100 ?_
      refine e_irem (pc := 20) dX12_areLists_20 (by decide) ?_
      refine e_bipush (pc := 21) (v := (20 : Int32)) dX12_areLists_21 bp_20 ?_
      refine e_icmp_gt (pc := 23) (tgt := 56) dX12_areLists_23 (by decide) (fun _ => ?_) (fun _ => ?_)
      · refine e_iconst (pc := 56) (v := (0 : Int32)) dX12_areLists_56 ic_0 ?_
        exact e_zretR0 rfl (by decide) dX12_areLists_57
      · refine e_iload_n (pc := 26) dX12_areLists_26 0 rfl rfl ?_
        refine e_bipush (pc := 27) (v := (100 : Int32)) dX12_areLists_27 bp_100 ?_
        refine e_irem (pc := 29) dX12_areLists_29 (by decide) ?_
        refine e_iload_n (pc := 30) dX12_areLists_30 0 rfl rfl ?_
        refine e_sipush (pc := 31) (v := (10000 : Int32)) dX12_areLists_31 sp_10000 ?_
        refine e_idiv (pc := 34) dX12_areLists_34 (by decide) ?_
        refine e_icmp_gt (pc := 35) (tgt := 56) dX12_areLists_35 (by decide) (fun _ => ?_) (fun _ => ?_)
        · refine e_iconst (pc := 56) (v := (0 : Int32)) dX12_areLists_56 ic_0 ?_
          exact e_zretR0 rfl (by decide) dX12_areLists_57
        · refine e_iload_n (pc := 38) dX12_areLists_38 0 rfl rfl ?_
          refine e_bipush (pc := 39) (v := (100 : Int32)) dX12_areLists_39 bp_100 ?_
          refine e_irem (pc := 41) dX12_areLists_41 (by decide) ?_
          refine e_iload_n (pc := 42) dX12_areLists_42 0 rfl rfl ?_
          refine e_bipush (pc := 43) (v := (100 : Int32)) dX12_areLists_43 bp_100 ?_
          refine e_idiv (pc := 45) dX12_areLists_45 (by decide) ?_
          refine e_bipush (pc := 46) (v := (100 : Int32)) dX12_areLists_46 bp_100 ?_
          refine e_irem (pc := 48) dX12_areLists_48 (by decide) ?_
          refine e_icmp_gt (pc := 49) (tgt := 56) dX12_areLists_49 (by decide) (fun _ => ?_) (fun _ => ?_)
          · refine e_iconst (pc := 56) (v := (0 : Int32)) dX12_areLists_56 ic_0 ?_
            exact e_zretR0 rfl (by decide) dX12_areLists_57
          · refine e_iconst (pc := 52) (v := (1 : Int32)) dX12_areLists_52 ic_1 ?_
            refine e_goto (pc := 53) (tgt := 57) dX12_areLists_53 (by decide) ?_
            exact e_zretR0 rfl (by decide) dX12_areLists_57
theorem cf_X12_areLists (X : Xt) (a0 : Int32) (w : Wd) : CF (gRI w) X m_X12_areLists 1 [.int a0] w (f_X12_areLists a0) := CF_of (by decide) (Nat.le_of_ble_eq_true rfl) (ce_X12_areLists X a0 w)
set_option maxRecDepth 100000 in
set_option maxHeartbeats 4000000 in
theorem cb_X12_lists_b89 (X : Xt) (w : Wd) (x3 : Int32) (x6 : Int32) (s0 : Int64) : E (gRL w) X m_X12_lists 3 89 [(3, .int x3), (6, .int x6)] [.long s0] w (f_X12_lists_b89 x3 x6 s0) := by
  unfold f_X12_lists_b89
  refine e_iload (pc := 89) dX12_lists_89 1 rfl ?_
  refine e_i2l (pc := 91) dX12_lists_91 ?_
  refine e_iload_n (pc := 92) dX12_lists_92 0 rfl rfl ?_
  refine e_callSRL (pc := 93) (As := [.long s0, .long (Int32.toInt64 x6), .int x3]) (rest := []) (cf_X12_asPart X s0 (Int32.toInt64 x6) x3 w) lk_X12_294 (Nat.le_of_ble_eq_true rfl) (Nat.le_of_ble_eq_true rfl) rfl rfl (Nat.le_of_ble_eq_true rfl) dX12_lists_93 (fun r7 => ?_)
  exact e_lretR rfl dX12_lists_96
set_option maxRecDepth 100000 in
set_option maxHeartbeats 4000000 in
theorem ce_X12_lists (X : Xt) (a1 : Int32) (a2 : Int32) (a3 : Int32) (w : Wd) : E (gRL w) X m_X12_lists 3 0 [(0, .ref (xa X 54)), (1, .int a1), (2, .int a2), (3, .int a3)] [] w (f_X12_lists a1 a2 a3) := by
  unfold f_X12_lists
  refine e_iload_n (pc := 0) dX12_lists_0 1 rfl rfl ?_
  refine e_callSRI (pc := 1) (As := [.int a1]) (rest := []) (cf_X12_areLists X a1 w) lk_X12_330 (Nat.le_of_ble_eq_true rfl) (Nat.le_of_ble_eq_true rfl) rfl rfl (Nat.le_of_ble_eq_true rfl) dX12_lists_1 (fun r1 => ?_)
  refine e_if_eq (pc := 4) (tgt := 23) dX12_lists_4 (by decide) (fun _ => ?_) (fun _ => ?_)
  · refine e_ldc2 (pc := 23) (v := (-9223372036854775808 : Int64)) dX12_lists_23 cl_X12_283 ?_
    exact e_lretR rfl dX12_lists_26
  · refine e_iload_n (pc := 7) dX12_lists_7 2 rfl rfl ?_
    refine e_iconst (pc := 8) (v := (0 : Int32)) dX12_lists_8 ic_0 ?_
    refine e_iconst (pc := 9) (v := (1 : Int32)) dX12_lists_9 ic_1 ?_
    refine e_callSRI (pc := 10) (As := [.int a2, .int (0 : Int32), .int (1 : Int32)]) (rest := []) (cf_X12_in X a2 (0 : Int32) (1 : Int32) w) lk_X12_124 (Nat.le_of_ble_eq_true rfl) (Nat.le_of_ble_eq_true rfl) rfl rfl (Nat.le_of_ble_eq_true rfl) dX12_lists_10 (fun r2 => ?_)
    refine e_if_eq (pc := 13) (tgt := 23) dX12_lists_13 (by decide) (fun _ => ?_) (fun _ => ?_)
    · refine e_ldc2 (pc := 23) (v := (-9223372036854775808 : Int64)) dX12_lists_23 cl_X12_283 ?_
      exact e_lretR rfl dX12_lists_26
    · refine e_iload_n (pc := 16) dX12_lists_16 3 rfl rfl ?_
      refine e_callSRI (pc := 17) (As := [.int a3]) (rest := []) (cf_X12_isPart X a3 w) lk_X12_277 (Nat.le_of_ble_eq_true rfl) (Nat.le_of_ble_eq_true rfl) rfl rfl (Nat.le_of_ble_eq_true rfl) dX12_lists_17 (fun r3 => ?_)
      refine e_if_ne (pc := 20) (tgt := 27) dX12_lists_20 (by decide) (fun _ => ?_) (fun _ => ?_)
      · refine e_ldc2 (pc := 23) (v := (-9223372036854775808 : Int64)) dX12_lists_23 cl_X12_283 ?_
        exact e_lretR rfl dX12_lists_26
      · refine e_iload_n (pc := 27) dX12_lists_27 1 rfl rfl ?_
        refine e_sipush (pc := 28) (v := (10000 : Int32)) dX12_lists_28 sp_10000 ?_
        refine e_idiv (pc := 31) dX12_lists_31 (by decide) ?_
        refine e_nameI (fun y4 => ?_)
        refine e_istore (pc := 32) (lv' := [(4, .int y4), (0, .ref (xa X 54)), (1, .int a1), (2, .int a2), (3, .int a3)]) dX12_lists_32 (Nat.le_of_ble_eq_true rfl) rfl ?_
        refine e_iload_n (pc := 34) dX12_lists_34 2 rfl rfl ?_
        refine e_bipush (pc := 35) (v := (100 : Int32)) dX12_lists_35 bp_100 ?_
        refine e_idiv (pc := 37) dX12_lists_37 (by decide) ?_
        refine e_bipush (pc := 38) (v := (100 : Int32)) dX12_lists_38 bp_100 ?_
        refine e_irem (pc := 40) dX12_lists_40 (by decide) ?_
        refine e_nameI (fun y5 => ?_)
        refine e_istore (pc := 41) (lv' := [(5, .int y5), (4, .int y4), (0, .ref (xa X 54)), (1, .int a1), (2, .int a2), (3, .int a3)]) dX12_lists_41 (Nat.le_of_ble_eq_true rfl) rfl ?_
        refine e_iload_n (pc := 43) dX12_lists_43 3 rfl rfl ?_
        refine e_bipush (pc := 44) (v := (100 : Int32)) dX12_lists_44 bp_100 ?_
        refine e_irem (pc := 46) dX12_lists_46 (by decide) ?_
        refine e_nameI (fun y6 => ?_)
        refine e_istore (pc := 47) (lv' := [(6, .int y6), (5, .int y5), (4, .int y4), (0, .ref (xa X 54)), (1, .int a1), (2, .int a2), (3, .int a3)]) dX12_lists_47 (Nat.le_of_ble_eq_true rfl) rfl ?_
        refine e_iload (pc := 49) dX12_lists_49 0 rfl ?_
        refine e_if_ne (pc := 51) (tgt := 58) dX12_lists_51 (by decide) (fun _ => ?_) (fun _ => ?_)
        · refine e_ldc2 (pc := 54) (v := (-2 : Int64)) dX12_lists_54 cl_X12_292 ?_
          exact e_lretR rfl dX12_lists_57
        · refine e_iload_n (pc := 58) dX12_lists_58 5 rfl rfl ?_
          refine e_if_ne (pc := 59) (tgt := 71) dX12_lists_59 (by decide) (fun _ => ?_) (fun _ => ?_)
          · refine e_iload (pc := 62) dX12_lists_62 2 rfl ?_
            refine e_iload (pc := 64) dX12_lists_64 1 rfl ?_
            refine e_imul (pc := 66) dX12_lists_66 ?_
            refine e_i2l (pc := 67) dX12_lists_67 ?_
            refine e_goto (pc := 68) (tgt := 89) dX12_lists_68 (by decide) ?_
            refine e_lv [6, 0] rfl ?_
            exact cb_X12_lists_b89 X w a3 y6 (Int32.toInt64 (y4 * y5))
          · refine e_iload (pc := 71) dX12_lists_71 2 rfl ?_
            refine e_iload (pc := 73) dX12_lists_73 1 rfl ?_
            refine e_imul (pc := 75) dX12_lists_75 ?_
            refine e_iload (pc := 76) dX12_lists_76 2 rfl ?_
            refine e_iload (pc := 78) dX12_lists_78 1 rfl ?_
            refine e_iadd (pc := 80) dX12_lists_80 ?_
            refine e_iload (pc := 81) dX12_lists_81 0 rfl ?_
            refine e_isub (pc := 83) dX12_lists_83 ?_
            refine e_iload (pc := 84) dX12_lists_84 0 rfl ?_
            refine e_imul (pc := 86) dX12_lists_86 ?_
            refine e_isub (pc := 87) dX12_lists_87 ?_
            refine e_i2l (pc := 88) dX12_lists_88 ?_
            refine e_lv [6, 0] rfl ?_
            exact cb_X12_lists_b89 X w a3 y6 (Int32.toInt64 ((y4 * y5) - (((y4 + y5) - y6) * y6)))
theorem cf_X12_lists (X : Xt) (a1 : Int32) (a2 : Int32) (a3 : Int32) (w : Wd) : CF (gRL w) X m_X12_lists 3 [.ref (xa X 54), .int a1, .int a2, .int a3] w (f_X12_lists a1 a2 a3) := CF_of (by decide) (Nat.le_of_ble_eq_true rfl) (ce_X12_lists X a1 a2 a3 w)
set_option maxRecDepth 100000 in
set_option maxHeartbeats 4000000 in
theorem cb_X12_likeliest_b37_y (X : Xt) (w : Wd) (k37 : Int32 → Int32 → Int32 → Int32 → Option Int32) (hk37 : ∀ (x2 : Int32) (x3 : Int32) (x4 : Int32) (x5 : Int32), E (gRI w) X m_X12_likeliest 2 37 [(2, .int x2), (3, .int x3), (4, .int x4), (5, .int x5)] [] w (k37 x2 x3 x4 x5)) (x2 : Int32) (x3 : Int32) (x4 : Int32) (x5 : Int32) : E (gRI w) X m_X12_likeliest 2 37 [(2, .int x2), (3, .int x3), (4, .int x4), (5, .int x5)] [] w (f_X12_likeliest_b37_y k37 x2 x3 x4 x5) := by
  unfold f_X12_likeliest_b37_y
  refine e_iload (pc := 37) dX12_likeliest_37 3 rfl ?_
  refine e_bipush (pc := 39) (v := (60 : Int32)) dX12_likeliest_39 bp_60 ?_
  refine e_icmp_ge (pc := 41) (tgt := 63) dX12_likeliest_41 (by decide) (fun _ => ?_) (fun _ => ?_)
  · refine e_iload (pc := 63) dX12_likeliest_63 3 rfl ?_
    exact e_iretR rfl dX12_likeliest_65
  · refine e_iload_n (pc := 44) dX12_likeliest_44 0 rfl rfl ?_
    refine e_iload_n (pc := 45) dX12_likeliest_45 1 rfl rfl ?_
    refine e_imul (pc := 46) dX12_likeliest_46 ?_
    refine e_iload (pc := 47) dX12_likeliest_47 2 rfl ?_
    refine e_iload (pc := 49) dX12_likeliest_49 3 rfl ?_
    refine e_iconst (pc := 51) (v := (1 : Int32)) dX12_likeliest_51 ic_1 ?_
    refine e_iadd (pc := 52) dX12_likeliest_52 ?_
    refine e_imul (pc := 53) dX12_likeliest_53 ?_
    refine e_icmp_le (pc := 54) (tgt := 63) dX12_likeliest_54 (by decide) (fun _ => ?_) (fun _ => ?_)
    · refine e_iload (pc := 63) dX12_likeliest_63 3 rfl ?_
      exact e_iretR rfl dX12_likeliest_65
    · refine e_iinc (pc := 57) (lv' := [(5, .int (x5 + (1 : Int32))), (2, .int x2), (3, .int x3), (4, .int x4)]) dX12_likeliest_57 3 rfl (ii_1 _) (Nat.le_of_ble_eq_true rfl) rfl ?_
      refine e_goto (pc := 60) (tgt := 37) dX12_likeliest_60 (by decide) ?_
      refine e_lv [1, 2, 3, 0] rfl ?_
      exact hk37 x2 x3 x4 (x5 + (1 : Int32))
theorem cb_X12_likeliest_b37 (X : Xt) (w : Wd) : ∀ (n : Nat) (x2 : Int32) (x3 : Int32) (x4 : Int32) (x5 : Int32), E (gRI w) X m_X12_likeliest 2 37 [(2, .int x2), (3, .int x3), (4, .int x4), (5, .int x5)] [] w (f_X12_likeliest_b37 n x2 x3 x4 x5) := by
  intro n
  induction n with
  | zero =>
    intro x2 x3 x4 x5
    exact E_none
  | succ n ih =>
    intro x2 x3 x4 x5
    exact cb_X12_likeliest_b37_y X w _ ih x2 x3 x4 x5
set_option maxRecDepth 100000 in
set_option maxHeartbeats 4000000 in
theorem ce_X12_likeliest (X : Xt) (a1 : Int32) (w : Wd) : E (gRI w) X m_X12_likeliest 2 0 [(0, .ref (xa X 54)), (1, .int a1)] [] w (f_X12_likeliest a1) := by
  unfold f_X12_likeliest
  refine e_iload_n (pc := 0) dX12_likeliest_0 1 rfl rfl ?_
  refine e_callSRI (pc := 1) (As := [.int a1]) (rest := []) (cf_X12_areLists X a1 w) lk_X12_330 (Nat.le_of_ble_eq_true rfl) (Nat.le_of_ble_eq_true rfl) rfl rfl (Nat.le_of_ble_eq_true rfl) dX12_likeliest_1 (fun r1 => ?_)
  refine e_if_ne (pc := 4) (tgt := 9) dX12_likeliest_4 (by decide) (fun _ => ?_) (fun _ => ?_)
  · refine e_iconst (pc := 7) (v := (-1 : Int32)) dX12_likeliest_7 ic_m1 ?_
    exact e_iretR rfl dX12_likeliest_8
  · refine e_iload_n (pc := 9) dX12_likeliest_9 1 rfl rfl ?_
    refine e_sipush (pc := 10) (v := (10000 : Int32)) dX12_likeliest_10 sp_10000 ?_
    refine e_idiv (pc := 13) dX12_likeliest_13 (by decide) ?_
    refine e_nameI (fun y2 => ?_)
    refine e_istore_n (pc := 14) (lv' := [(2, .int y2), (0, .ref (xa X 54)), (1, .int a1)]) dX12_likeliest_14 rfl (Nat.le_of_ble_eq_true rfl) rfl ?_
    refine e_iload_n (pc := 15) dX12_likeliest_15 2 rfl rfl ?_
    refine e_bipush (pc := 16) (v := (100 : Int32)) dX12_likeliest_16 bp_100 ?_
    refine e_idiv (pc := 18) dX12_likeliest_18 (by decide) ?_
    refine e_bipush (pc := 19) (v := (100 : Int32)) dX12_likeliest_19 bp_100 ?_
    refine e_irem (pc := 21) dX12_likeliest_21 (by decide) ?_
    refine e_nameI (fun y3 => ?_)
    refine e_istore_n (pc := 22) (lv' := [(3, .int y3), (2, .int y2), (0, .ref (xa X 54)), (1, .int a1)]) dX12_likeliest_22 rfl (Nat.le_of_ble_eq_true rfl) rfl ?_
    refine e_iload_n (pc := 23) dX12_likeliest_23 3 rfl rfl ?_
    refine e_bipush (pc := 24) (v := (100 : Int32)) dX12_likeliest_24 bp_100 ?_
    refine e_irem (pc := 26) dX12_likeliest_26 (by decide) ?_
    refine e_nameI (fun y4 => ?_)
    refine e_istore (pc := 27) (lv' := [(4, .int y4), (3, .int y3), (2, .int y2), (0, .ref (xa X 54)), (1, .int a1)]) dX12_likeliest_27 (Nat.le_of_ble_eq_true rfl) rfl ?_
    refine e_iload_n (pc := 29) dX12_likeliest_29 2 rfl rfl ?_
    refine e_iload_n (pc := 30) dX12_likeliest_30 1 rfl rfl ?_
    refine e_iadd (pc := 31) dX12_likeliest_31 ?_
    refine e_iload (pc := 32) dX12_likeliest_32 0 rfl ?_
    refine e_isub (pc := 34) dX12_likeliest_34 ?_
    refine e_nameI (fun y5 => ?_)
    refine e_istore (pc := 35) (lv' := [(5, .int y5), (4, .int y4), (3, .int y3), (2, .int y2), (0, .ref (xa X 54)), (1, .int a1)]) dX12_likeliest_35 (Nat.le_of_ble_eq_true rfl) rfl ?_
    refine e_lv [3, 2, 1, 0] rfl ?_
    exact cb_X12_likeliest_b37 X w fu y2 y3 y4 y5
theorem cf_X12_likeliest (X : Xt) (a1 : Int32) (w : Wd) : CF (gRI w) X m_X12_likeliest 2 [.ref (xa X 54), .int a1] w (f_X12_likeliest a1) := CF_of (by decide) (Nat.le_of_ble_eq_true rfl) (ce_X12_likeliest X a1 w)
set_option maxRecDepth 100000 in
set_option maxHeartbeats 4000000 in
theorem cb_X12_layProduct_b57_y (X : Xt) (k28 : Int32 → Int32 → Int32 → Int32 → Int32 → Wd → Option Wd) (hk28 : ∀ (x1 : Int32) (x2 : Int32) (x3 : Int32) (x4 : Int32) (x5 : Int32)  (w : Wd), E gWV X m_X12_layProduct 1 28 [(0, .ref (xa X 54)), (1, .int x1), (2, .int x2), (3, .int x3), (4, .int x4), (5, .int x5)] [] w (k28 x1 x2 x3 x4 x5 w)) (k57 : Int32 → Int32 → Int32 → Int32 → Int32 → Int32 → Int64 → Int32 → Wd → Option Wd) (hk57 : ∀ (x1 : Int32) (x2 : Int32) (x3 : Int32) (x4 : Int32) (x5 : Int32) (x6 : Int32) (x7 : Int64) (x9 : Int32)  (w : Wd), E gWV X m_X12_layProduct 1 57 [(0, .ref (xa X 54)), (1, .int x1), (2, .int x2), (3, .int x3), (4, .int x4), (5, .int x5), (6, .int x6), (7, .long x7), (9, .int x9)] [] w (k57 x1 x2 x3 x4 x5 x6 x7 x9 w)) (x1 : Int32) (x2 : Int32) (x3 : Int32) (x4 : Int32) (x5 : Int32) (x6 : Int32) (x7 : Int64) (x9 : Int32) (w : Wd) : E gWV X m_X12_layProduct 1 57 [(0, .ref (xa X 54)), (1, .int x1), (2, .int x2), (3, .int x3), (4, .int x4), (5, .int x5), (6, .int x6), (7, .long x7), (9, .int x9)] [] w (f_X12_layProduct_b57_y k28 k57 x1 x2 x3 x4 x5 x6 x7 x9 w) := by
  unfold f_X12_layProduct_b57_y
  refine e_iload (pc := 57) dX12_layProduct_57 8 rfl ?_
  refine e_iconst (pc := 59) (v := (3 : Int32)) dX12_layProduct_59 ic_3 ?_
  refine e_icmp_ge (pc := 60) (tgt := 110) dX12_layProduct_60 (by decide) (fun _ => ?_) (fun _ => ?_)
  · refine e_iinc (pc := 110) (lv' := [(5, .int (x5 + (1 : Int32))), (0, .ref (xa X 54)), (1, .int x1), (2, .int x2), (3, .int x3), (4, .int x4), (6, .int x6), (7, .long x7), (9, .int x9)]) dX12_layProduct_110 5 rfl (ii_1 _) (Nat.le_of_ble_eq_true rfl) rfl ?_
    refine e_goto (pc := 113) (tgt := 28) dX12_layProduct_113 (by decide) ?_
    refine e_lv [1, 2, 3, 4, 5, 0] rfl ?_
    exact hk28 x1 x2 x3 x4 (x5 + (1 : Int32)) w
  · refine e_aload_n (pc := 63) dX12_layProduct_63 0 rfl rfl ?_
    refine g_R (pc := 64) (cl' := 72) kk54 fl_X12_79 rfl dX12_layProduct_64 ?_
    refine e_iload_n (pc := 67) dX12_layProduct_67 1 rfl rfl ?_
    refine e_iload (pc := 68) dX12_layProduct_68 8 rfl ?_
    refine e_iadd (pc := 70) dX12_layProduct_70 ?_
    refine e_lald (pc := 71) kk72 dX12_layProduct_71 (fun v4 => ?_)
    refine e_iload (pc := 72) dX12_layProduct_72 6 rfl ?_
    refine e_i2l (pc := 74) dX12_layProduct_74 ?_
    refine e_lmul (pc := 75) dX12_layProduct_75 ?_
    refine e_lload (pc := 76) dX12_layProduct_76 7 rfl ?_
    refine e_ladd (pc := 78) dX12_layProduct_78 ?_
    refine e_nameL (fun y5 => ?_)
    refine e_lstore (pc := 79) (lv' := [(10, .long y5), (0, .ref (xa X 54)), (1, .int x1), (2, .int x2), (3, .int x3), (4, .int x4), (5, .int x5), (6, .int x6), (7, .long x7), (9, .int x9)]) dX12_layProduct_79 (Nat.le_of_ble_eq_true rfl) rfl ?_
    refine e_aload_n (pc := 81) dX12_layProduct_81 1 rfl rfl ?_
    refine g_R (pc := 82) (cl' := 72) kk54 fl_X12_79 rfl dX12_layProduct_82 ?_
    refine e_iload_n (pc := 85) dX12_layProduct_85 2 rfl rfl ?_
    refine e_iload (pc := 86) dX12_layProduct_86 9 rfl ?_
    refine e_iadd (pc := 88) dX12_layProduct_88 ?_
    refine e_lload (pc := 89) dX12_layProduct_89 0 rfl ?_
    refine e_ldc2 (pc := 91) (v := (1000000000 : Int64)) dX12_layProduct_91 cl_X12_333 ?_
    refine e_lrem (pc := 94) dX12_layProduct_94 (by decide) ?_
    refine e_last (pc := 95) kk72 dX12_layProduct_95 (fun w6 => ?_)
    refine e_lload (pc := 96) dX12_layProduct_96 0 rfl ?_
    refine e_ldc2 (pc := 98) (v := (1000000000 : Int64)) dX12_layProduct_98 cl_X12_333 ?_
    refine e_ldiv (pc := 101) dX12_layProduct_101 (by decide) ?_
    refine e_nameL (fun y7 => ?_)
    refine e_lstore (pc := 102) (lv' := [(7, .long y7), (10, .long y5), (0, .ref (xa X 54)), (1, .int x1), (2, .int x2), (3, .int x3), (4, .int x4), (5, .int x5), (6, .int x6), (9, .int x9)]) dX12_layProduct_102 (Nat.le_of_ble_eq_true rfl) rfl ?_
    refine e_iinc (pc := 104) (lv' := [(9, .int (x9 + (1 : Int32))), (7, .long y7), (10, .long y5), (0, .ref (xa X 54)), (1, .int x1), (2, .int x2), (3, .int x3), (4, .int x4), (5, .int x5), (6, .int x6)]) dX12_layProduct_104 9 rfl (ii_1 _) (Nat.le_of_ble_eq_true rfl) rfl ?_
    refine e_goto (pc := 107) (tgt := 57) dX12_layProduct_107 (by decide) ?_
    refine e_lv [3, 4, 5, 6, 7, 8, 9, 1, 0] rfl ?_
    exact hk57 x1 x2 x3 x4 x5 x6 y7 (x9 + (1 : Int32)) w6
theorem cb_X12_layProduct_b57 (X : Xt) (k28 : Int32 → Int32 → Int32 → Int32 → Int32 → Wd → Option Wd) (hk28 : ∀ (x1 : Int32) (x2 : Int32) (x3 : Int32) (x4 : Int32) (x5 : Int32)  (w : Wd), E gWV X m_X12_layProduct 1 28 [(0, .ref (xa X 54)), (1, .int x1), (2, .int x2), (3, .int x3), (4, .int x4), (5, .int x5)] [] w (k28 x1 x2 x3 x4 x5 w)) : ∀ (n : Nat) (x1 : Int32) (x2 : Int32) (x3 : Int32) (x4 : Int32) (x5 : Int32) (x6 : Int32) (x7 : Int64) (x9 : Int32) (w : Wd), E gWV X m_X12_layProduct 1 57 [(0, .ref (xa X 54)), (1, .int x1), (2, .int x2), (3, .int x3), (4, .int x4), (5, .int x5), (6, .int x6), (7, .long x7), (9, .int x9)] [] w (f_X12_layProduct_b57 k28 n x1 x2 x3 x4 x5 x6 x7 x9 w) := by
  intro n
  induction n with
  | zero =>
    intro x1 x2 x3 x4 x5 x6 x7 x9 w
    exact E_none
  | succ n ih =>
    intro x1 x2 x3 x4 x5 x6 x7 x9 w
    exact cb_X12_layProduct_b57_y X k28 hk28 _ ih x1 x2 x3 x4 x5 x6 x7 x9 w
set_option maxRecDepth 100000 in
set_option maxHeartbeats 4000000 in
theorem cb_X12_layProduct_b49 (X : Xt) (k28 : Int32 → Int32 → Int32 → Int32 → Int32 → Wd → Option Wd) (hk28 : ∀ (x1 : Int32) (x2 : Int32) (x3 : Int32) (x4 : Int32) (x5 : Int32)  (w : Wd), E gWV X m_X12_layProduct 1 28 [(0, .ref (xa X 54)), (1, .int x1), (2, .int x2), (3, .int x3), (4, .int x4), (5, .int x5)] [] w (k28 x1 x2 x3 x4 x5 w)) (x1 : Int32) (x2 : Int32) (x3 : Int32) (x4 : Int32) (x5 : Int32) (s0 : Int32) (w : Wd) : E gWV X m_X12_layProduct 1 49 [(0, .ref (xa X 54)), (1, .int x1), (2, .int x2), (3, .int x3), (4, .int x4), (5, .int x5)] [.int s0] w (f_X12_layProduct_b49 k28 x1 x2 x3 x4 x5 s0 w) := by
  unfold f_X12_layProduct_b49
  refine e_istore (pc := 49) (lv' := [(6, .int s0), (0, .ref (xa X 54)), (1, .int x1), (2, .int x2), (3, .int x3), (4, .int x4), (5, .int x5)]) dX12_layProduct_49 (Nat.le_of_ble_eq_true rfl) rfl ?_
  refine e_lconst (pc := 51) (v := (0 : Int64)) dX12_layProduct_51 lc_0 ?_
  refine e_lstore (pc := 52) (lv' := [(7, .long (0 : Int64)), (6, .int s0), (0, .ref (xa X 54)), (1, .int x1), (2, .int x2), (3, .int x3), (4, .int x4), (5, .int x5)]) dX12_layProduct_52 (Nat.le_of_ble_eq_true rfl) rfl ?_
  refine e_iconst (pc := 54) (v := (0 : Int32)) dX12_layProduct_54 ic_0 ?_
  refine e_istore (pc := 55) (lv' := [(9, .int (0 : Int32)), (7, .long (0 : Int64)), (6, .int s0), (0, .ref (xa X 54)), (1, .int x1), (2, .int x2), (3, .int x3), (4, .int x4), (5, .int x5)]) dX12_layProduct_55 (Nat.le_of_ble_eq_true rfl) rfl ?_
  refine e_lv [3, 4, 5, 6, 7, 8, 2, 1, 0] rfl ?_
  exact cb_X12_layProduct_b57 X k28 hk28 fu x1 x2 x3 x4 x5 s0 (0 : Int64) (0 : Int32) w
set_option maxRecDepth 100000 in
set_option maxHeartbeats 4000000 in
theorem cb_X12_layProduct_b28_y (X : Xt) (k28 : Int32 → Int32 → Int32 → Int32 → Int32 → Wd → Option Wd) (hk28 : ∀ (x1 : Int32) (x2 : Int32) (x3 : Int32) (x4 : Int32) (x5 : Int32)  (w : Wd), E gWV X m_X12_layProduct 1 28 [(0, .ref (xa X 54)), (1, .int x1), (2, .int x2), (3, .int x3), (4, .int x4), (5, .int x5)] [] w (k28 x1 x2 x3 x4 x5 w)) (x1 : Int32) (x2 : Int32) (x3 : Int32) (x4 : Int32) (x5 : Int32) (w : Wd) : E gWV X m_X12_layProduct 1 28 [(0, .ref (xa X 54)), (1, .int x1), (2, .int x2), (3, .int x3), (4, .int x4), (5, .int x5)] [] w (f_X12_layProduct_b28_y k28 x1 x2 x3 x4 x5 w) := by
  unfold f_X12_layProduct_b28_y
  refine e_iload (pc := 28) dX12_layProduct_28 5 rfl ?_
  refine e_iload (pc := 30) dX12_layProduct_30 4 rfl ?_
  refine e_icmp_ge (pc := 32) (tgt := 116) dX12_layProduct_32 (by decide) (fun _ => ?_) (fun _ => ?_)
  · exact e_vret rfl dX12_layProduct_116
  · refine e_iload (pc := 35) dX12_layProduct_35 5 rfl ?_
    refine e_iload_n (pc := 37) dX12_layProduct_37 3 rfl rfl ?_
    refine e_icmp_ge (pc := 38) (tgt := 45) dX12_layProduct_38 (by decide) (fun _ => ?_) (fun _ => ?_)
    · refine e_bipush (pc := 45) (v := (12 : Int32)) dX12_layProduct_45 bp_12 ?_
      refine e_iload_n (pc := 47) dX12_layProduct_47 2 rfl rfl ?_
      refine e_isub (pc := 48) dX12_layProduct_48 ?_
      refine e_lv [0, 1, 2, 3, 4, 5] rfl ?_
      exact cb_X12_layProduct_b49 X k28 hk28 x1 x2 x3 x4 x5 ((12 : Int32) - x2) w
    · refine e_iload_n (pc := 41) dX12_layProduct_41 2 rfl rfl ?_
      refine e_goto (pc := 42) (tgt := 49) dX12_layProduct_42 (by decide) ?_
      refine e_lv [0, 1, 2, 3, 4, 5] rfl ?_
      exact cb_X12_layProduct_b49 X k28 hk28 x1 x2 x3 x4 x5 x2 w
theorem cb_X12_layProduct_b28 (X : Xt) : ∀ (n : Nat) (x1 : Int32) (x2 : Int32) (x3 : Int32) (x4 : Int32) (x5 : Int32) (w : Wd), E gWV X m_X12_layProduct 1 28 [(0, .ref (xa X 54)), (1, .int x1), (2, .int x2), (3, .int x3), (4, .int x4), (5, .int x5)] [] w (f_X12_layProduct_b28 n x1 x2 x3 x4 x5 w) := by
  intro n
  induction n with
  | zero =>
    intro x1 x2 x3 x4 x5 w
    exact E_none
  | succ n ih =>
    intro x1 x2 x3 x4 x5 w
    exact cb_X12_layProduct_b28_y X _ ih x1 x2 x3 x4 x5 w
set_option maxRecDepth 100000 in
set_option maxHeartbeats 4000000 in
theorem ce_X12_layProduct (X : Xt) (a1 : Int32) (a2 : Int32) (a3 : Int32) (a4 : Int32) (w : Wd) : E gWV X m_X12_layProduct 1 0 [(0, .ref (xa X 54)), (1, .int a1), (2, .int a2), (3, .int a3), (4, .int a4)] [] w (f_X12_layProduct a1 a2 a3 a4 w) := by
  unfold f_X12_layProduct
  refine e_aload_n (pc := 0) dX12_layProduct_0 0 rfl rfl ?_
  refine g_R (pc := 1) (cl' := 72) kk54 fl_X12_79 rfl dX12_layProduct_1 ?_
  refine e_iload_n (pc := 4) dX12_layProduct_4 1 rfl rfl ?_
  refine e_lconst (pc := 5) (v := (1 : Int64)) dX12_layProduct_5 lc_1 ?_
  refine e_last (pc := 6) kk72 dX12_layProduct_6 (fun w1 => ?_)
  refine e_aload_n (pc := 7) dX12_layProduct_7 0 rfl rfl ?_
  refine g_R (pc := 8) (cl' := 72) kk54 fl_X12_79 rfl dX12_layProduct_8 ?_
  refine e_iload_n (pc := 11) dX12_layProduct_11 1 rfl rfl ?_
  refine e_iconst (pc := 12) (v := (1 : Int32)) dX12_layProduct_12 ic_1 ?_
  refine e_iadd (pc := 13) dX12_layProduct_13 ?_
  refine e_lconst (pc := 14) (v := (0 : Int64)) dX12_layProduct_14 lc_0 ?_
  refine e_last (pc := 15) kk72 dX12_layProduct_15 (fun w2 => ?_)
  refine e_aload_n (pc := 16) dX12_layProduct_16 0 rfl rfl ?_
  refine g_R (pc := 17) (cl' := 72) kk54 fl_X12_79 rfl dX12_layProduct_17 ?_
  refine e_iload_n (pc := 20) dX12_layProduct_20 1 rfl rfl ?_
  refine e_iconst (pc := 21) (v := (2 : Int32)) dX12_layProduct_21 ic_2 ?_
  refine e_iadd (pc := 22) dX12_layProduct_22 ?_
  refine e_lconst (pc := 23) (v := (0 : Int64)) dX12_layProduct_23 lc_0 ?_
  refine e_last (pc := 24) kk72 dX12_layProduct_24 (fun w3 => ?_)
  refine e_iconst (pc := 25) (v := (0 : Int32)) dX12_layProduct_25 ic_0 ?_
  refine e_istore (pc := 26) (lv' := [(5, .int (0 : Int32)), (0, .ref (xa X 54)), (1, .int a1), (2, .int a2), (3, .int a3), (4, .int a4)]) dX12_layProduct_26 (Nat.le_of_ble_eq_true rfl) rfl ?_
  refine e_lv [1, 2, 3, 4, 5, 0] rfl ?_
  exact cb_X12_layProduct_b28 X fu a1 a2 a3 a4 (0 : Int32) w3
theorem cf_X12_layProduct (X : Xt) (a1 : Int32) (a2 : Int32) (a3 : Int32) (a4 : Int32) (w : Wd) : CF gWV X m_X12_layProduct 1 [.ref (xa X 54), .int a1, .int a2, .int a3, .int a4] w (f_X12_layProduct a1 a2 a3 a4 w) := CF_of (by decide) (Nat.le_of_ble_eq_true rfl) (ce_X12_layProduct X a1 a2 a3 a4 w)
set_option maxRecDepth 100000 in
set_option maxHeartbeats 4000000 in
theorem cb_X12_isMore_b2_y (X : Xt) (w : Wd) (k2 : Int32 → Option Int32) (hk2 : ∀ (x1 : Int32), E (gRI w) X m_X12_isMore 1 2 [(0, .ref (xa X 54)), (1, .int x1)] [] w (k2 x1)) (x1 : Int32) : E (gRI w) X m_X12_isMore 1 2 [(0, .ref (xa X 54)), (1, .int x1)] [] w (f_X12_isMore_b2_y w k2 x1) := by
  unfold f_X12_isMore_b2_y
  refine e_iload_n (pc := 2) dX12_isMore_2 1 rfl rfl ?_
  refine e_if_lt (pc := 3) (tgt := 54) dX12_isMore_3 (by decide) (fun _ => ?_) (fun _ => ?_)
  · refine e_iconst (pc := 54) (v := (0 : Int32)) dX12_isMore_54 ic_0 ?_
    exact e_zretR0 rfl (by decide) dX12_isMore_55
  · refine e_aload_n (pc := 6) dX12_isMore_6 0 rfl rfl ?_
    refine g_R (pc := 7) (cl' := 72) kk54 fl_X12_79 rfl dX12_isMore_7 ?_
    refine e_iload_n (pc := 10) dX12_isMore_10 1 rfl rfl ?_
    refine e_lald (pc := 11) kk72 dX12_isMore_11 (fun v1 => ?_)
    refine e_aload_n (pc := 12) dX12_isMore_12 0 rfl rfl ?_
    refine g_R (pc := 13) (cl' := 72) kk54 fl_X12_79 rfl dX12_isMore_13 ?_
    refine e_iconst (pc := 16) (v := (3 : Int32)) dX12_isMore_16 ic_3 ?_
    refine e_iload_n (pc := 17) dX12_isMore_17 1 rfl rfl ?_
    refine e_iadd (pc := 18) dX12_isMore_18 ?_
    refine e_lald (pc := 19) kk72 dX12_isMore_19 (fun v2 => ?_)
    refine e_lcmp_eq (pc := 20) (tgt := 48) dX12_isMore_20 dX12_isMore_21 (by decide) (fun _ => ?_) (fun _ => ?_)
    · refine e_iinc (pc := 48) (lv' := [(1, .int (x1 + (-1 : Int32))), (0, .ref (xa X 54))]) dX12_isMore_48 1 rfl (ii_m1 _) (Nat.le_of_ble_eq_true rfl) rfl ?_
      refine e_goto (pc := 51) (tgt := 2) dX12_isMore_51 (by decide) ?_
      refine e_lv [1, 0] rfl ?_
      exact hk2 (x1 + (-1 : Int32))
    · refine e_aload_n (pc := 24) dX12_isMore_24 0 rfl rfl ?_
      refine g_R (pc := 25) (cl' := 72) kk54 fl_X12_79 rfl dX12_isMore_25 ?_
      refine e_iload_n (pc := 28) dX12_isMore_28 1 rfl rfl ?_
      refine e_lald (pc := 29) kk72 dX12_isMore_29 (fun v3 => ?_)
      refine e_aload_n (pc := 30) dX12_isMore_30 0 rfl rfl ?_
      refine g_R (pc := 31) (cl' := 72) kk54 fl_X12_79 rfl dX12_isMore_31 ?_
      refine e_iconst (pc := 34) (v := (3 : Int32)) dX12_isMore_34 ic_3 ?_
      refine e_iload_n (pc := 35) dX12_isMore_35 1 rfl rfl ?_
      refine e_iadd (pc := 36) dX12_isMore_36 ?_
      refine e_lald (pc := 37) kk72 dX12_isMore_37 (fun v4 => ?_)
      refine e_lcmp_le (pc := 38) (tgt := 46) dX12_isMore_38 dX12_isMore_39 (by decide) (fun _ => ?_) (fun _ => ?_)
      · refine e_iconst (pc := 46) (v := (0 : Int32)) dX12_isMore_46 ic_0 ?_
        exact e_zretR0 rfl (by decide) dX12_isMore_47
      · refine e_iconst (pc := 42) (v := (1 : Int32)) dX12_isMore_42 ic_1 ?_
        refine e_goto (pc := 43) (tgt := 47) dX12_isMore_43 (by decide) ?_
        exact e_zretR0 rfl (by decide) dX12_isMore_47
theorem cb_X12_isMore_b2 (X : Xt) (w : Wd) : ∀ (n : Nat) (x1 : Int32), E (gRI w) X m_X12_isMore 1 2 [(0, .ref (xa X 54)), (1, .int x1)] [] w (f_X12_isMore_b2 w n x1) := by
  intro n
  induction n with
  | zero =>
    intro x1
    exact E_none
  | succ n ih =>
    intro x1
    exact cb_X12_isMore_b2_y X w _ ih x1
set_option maxRecDepth 100000 in
set_option maxHeartbeats 4000000 in
theorem ce_X12_isMore (X : Xt) (w : Wd) : E (gRI w) X m_X12_isMore 1 0 [(0, .ref (xa X 54))] [] w (f_X12_isMore w) := by
  unfold f_X12_isMore
  refine e_iconst (pc := 0) (v := (2 : Int32)) dX12_isMore_0 ic_2 ?_
  refine e_istore_n (pc := 1) (lv' := [(1, .int (2 : Int32)), (0, .ref (xa X 54))]) dX12_isMore_1 rfl (Nat.le_of_ble_eq_true rfl) rfl ?_
  refine e_lv [1, 0] rfl ?_
  exact cb_X12_isMore_b2 X w fu (2 : Int32)
theorem cf_X12_isMore (X : Xt) (w : Wd) : CF (gRI w) X m_X12_isMore 1 [.ref (xa X 54)] w (f_X12_isMore w) := CF_of (by decide) (Nat.le_of_ble_eq_true rfl) (ce_X12_isMore X w)
set_option maxRecDepth 100000 in
set_option maxHeartbeats 4000000 in
theorem ce_X12_isPutIn (X : Xt) (a0 : Int32) (w : Wd) : E (gRI w) X m_X12_isPutIn 2 0 [(0, .int a0)] [] w (f_X12_isPutIn a0) := by
  unfold f_X12_isPutIn
  refine e_iload_n (pc := 0) dX12_isPutIn_0 0 rfl rfl ?_
  refine e_if_lt (pc := 1) (tgt := 32) dX12_isPutIn_1 (by decide) (fun _ => ?_) (fun _ => ?_)
  · refine e_iconst (pc := 32) (v := (0 : Int32)) dX12_isPutIn_32 ic_0 ?_
    exact e_zretR0 rfl (by decide) dX12_isPutIn_33
  · refine e_iload_n (pc := 4) dX12_isPutIn_4 0 rfl rfl ?_
    refine e_bipush (pc := 5) (v := (100 : Int32)) dX12_isPutIn_5 bp_100 ?_
    refine e_idiv (pc := 7) dX12_isPutIn_7 (by decide) ?_
    refine e_iconst (pc := 8) (v := (1 : Int32)) dX12_isPutIn_8 ic_1 ?_
    refine e_bipush (pc := 9) (v := (20 : Int32)) dX12_isPutIn_9 bp_20 ?_
    refine e_callSRI (pc := 11) (As := [.int (a0 / (100 : Int32)), .int (1 : Int32), .int (20 : Int32)]) (rest := []) (cf_X12_in X (a0 / (100 : Int32)) (1 : Int32) (20 : Int32) w) lk_X12_124 (Nat.le_of_ble_eq_true rfl) (Nat.le_of_ble_eq_true rfl) rfl rfl (Nat.le_of_ble_eq_true rfl) dX12_isPutIn_11 (fun r1 => ?_)
    refine e_if_eq (pc := 14) (tgt := 32) dX12_isPutIn_14 (by decide) (fun _ => ?_) (fun _ => ?_)
    · refine e_iconst (pc := 32) (v := (0 : Int32)) dX12_isPutIn_32 ic_0 ?_
      exact e_zretR0 rfl (by decide) dX12_isPutIn_33
    · refine e_iload_n (pc := 17) dX12_isPutIn_17 0 rfl rfl ?_
      refine e_bipush (pc := 18) (v := (100 : Int32)) dX12_isPutIn_18 bp_100 ?_
      refine e_irem (pc := 20) dX12_isPutIn_20 (by decide) ?_
      refine e_iload_n (pc := 21) dX12_isPutIn_21 0 rfl rfl ?_
      refine e_bipush (pc := 22) (v := (100 : Int32)) dX12_isPutIn_22 bp_100 ?_
      refine e_idiv (pc := 24) dX12_isPutIn_24 (by decide) ?_
      refine e_icmp_gt (pc := 25) (tgt := 32) dX12_isPutIn_25 (by decide) (fun _ => ?_) (fun _ => ?_)
      · refine e_iconst (pc := 32) (v := (0 : Int32)) dX12_isPutIn_32 ic_0 ?_
        exact e_zretR0 rfl (by decide) dX12_isPutIn_33
      · refine e_iconst (pc := 28) (v := (1 : Int32)) dX12_isPutIn_28 ic_1 ?_
        refine e_goto (pc := 29) (tgt := 33) dX12_isPutIn_29 (by decide) ?_
        exact e_zretR0 rfl (by decide) dX12_isPutIn_33
theorem cf_X12_isPutIn (X : Xt) (a0 : Int32) (w : Wd) : CF (gRI w) X m_X12_isPutIn 2 [.int a0] w (f_X12_isPutIn a0) := CF_of (by decide) (Nat.le_of_ble_eq_true rfl) (ce_X12_isPutIn X a0 w)
set_option maxRecDepth 100000 in
set_option maxHeartbeats 4000000 in
theorem cb_X12_likeliestSees_b81 (X : Xt) (k18 : Int32 → Int32 → Int32 → Wd → Option (Int32 × Wd)) (hk18 : ∀ (x1 : Int32) (x2 : Int32) (x3 : Int32)  (w : Wd), E gWI X m_X12_likeliestSees 2 18 [(0, .ref (xa X 54)), (1, .int x1), (2, .int x2), (3, .int x3)] [] w (k18 x1 x2 x3 w)) (x1 : Int32) (x2 : Int32) (x3 : Int32) (w : Wd) : E gWI X m_X12_likeliestSees 2 81 [(0, .ref (xa X 54)), (1, .int x1), (2, .int x2), (3, .int x3)] [] w (f_X12_likeliestSees_b81 k18 x1 x2 x3 w) := by
  unfold f_X12_likeliestSees_b81
  refine e_iinc (pc := 81) (lv' := [(3, .int (x3 + (1 : Int32))), (0, .ref (xa X 54)), (1, .int x1), (2, .int x2)]) dX12_likeliestSees_81 3 rfl (ii_1 _) (Nat.le_of_ble_eq_true rfl) rfl ?_
  refine e_goto (pc := 84) (tgt := 18) dX12_likeliestSees_84 (by decide) ?_
  refine e_lv [1, 2, 3, 0] rfl ?_
  exact hk18 x1 x2 (x3 + (1 : Int32)) w
set_option maxRecDepth 100000 in
set_option maxHeartbeats 4000000 in
theorem cb_X12_likeliestSees_b53_y (X : Xt) (k18 : Int32 → Int32 → Int32 → Wd → Option (Int32 × Wd)) (hk18 : ∀ (x1 : Int32) (x2 : Int32) (x3 : Int32)  (w : Wd), E gWI X m_X12_likeliestSees 2 18 [(0, .ref (xa X 54)), (1, .int x1), (2, .int x2), (3, .int x3)] [] w (k18 x1 x2 x3 w)) (k53 : Int32 → Int32 → Int32 → Int32 → Wd → Option (Int32 × Wd)) (hk53 : ∀ (x1 : Int32) (x2 : Int32) (x3 : Int32) (x4 : Int32)  (w : Wd), E gWI X m_X12_likeliestSees 2 53 [(0, .ref (xa X 54)), (1, .int x1), (2, .int x2), (3, .int x3), (4, .int x4)] [] w (k53 x1 x2 x3 x4 w)) (x1 : Int32) (x2 : Int32) (x3 : Int32) (x4 : Int32) (w : Wd) : E gWI X m_X12_likeliestSees 2 53 [(0, .ref (xa X 54)), (1, .int x1), (2, .int x2), (3, .int x3), (4, .int x4)] [] w (f_X12_likeliestSees_b53_y k18 k53 x1 x2 x3 x4 w) := by
  unfold f_X12_likeliestSees_b53_y
  refine e_iload (pc := 53) dX12_likeliestSees_53 4 rfl ?_
  refine e_iconst (pc := 55) (v := (3 : Int32)) dX12_likeliestSees_55 ic_3 ?_
  refine e_icmp_ge (pc := 56) (tgt := 81) dX12_likeliestSees_56 (by decide) (fun _ => ?_) (fun _ => ?_)
  · refine e_lv [0, 1, 2, 3] rfl ?_
    exact cb_X12_likeliestSees_b81 X k18 hk18 x1 x2 x3 w
  · refine e_aload_n (pc := 59) dX12_likeliestSees_59 0 rfl rfl ?_
    refine g_R (pc := 60) (cl' := 72) kk54 fl_X12_79 rfl dX12_likeliestSees_60 ?_
    refine e_iconst (pc := 63) (v := (3 : Int32)) dX12_likeliestSees_63 ic_3 ?_
    refine e_iload (pc := 64) dX12_likeliestSees_64 4 rfl ?_
    refine e_iadd (pc := 66) dX12_likeliestSees_66 ?_
    refine e_aload_n (pc := 67) dX12_likeliestSees_67 0 rfl rfl ?_
    refine g_R (pc := 68) (cl' := 72) kk54 fl_X12_79 rfl dX12_likeliestSees_68 ?_
    refine e_iload (pc := 71) dX12_likeliestSees_71 4 rfl ?_
    refine e_lald (pc := 73) kk72 dX12_likeliestSees_73 (fun v4 => ?_)
    refine e_last (pc := 74) kk72 dX12_likeliestSees_74 (fun w5 => ?_)
    refine e_iinc (pc := 75) (lv' := [(4, .int (x4 + (1 : Int32))), (0, .ref (xa X 54)), (1, .int x1), (2, .int x2), (3, .int x3)]) dX12_likeliestSees_75 4 rfl (ii_1 _) (Nat.le_of_ble_eq_true rfl) rfl ?_
    refine e_goto (pc := 78) (tgt := 53) dX12_likeliestSees_78 (by decide) ?_
    refine e_lv [1, 2, 3, 4, 0] rfl ?_
    exact hk53 x1 x2 x3 (x4 + (1 : Int32)) w5
theorem cb_X12_likeliestSees_b53 (X : Xt) (k18 : Int32 → Int32 → Int32 → Wd → Option (Int32 × Wd)) (hk18 : ∀ (x1 : Int32) (x2 : Int32) (x3 : Int32)  (w : Wd), E gWI X m_X12_likeliestSees 2 18 [(0, .ref (xa X 54)), (1, .int x1), (2, .int x2), (3, .int x3)] [] w (k18 x1 x2 x3 w)) : ∀ (n : Nat) (x1 : Int32) (x2 : Int32) (x3 : Int32) (x4 : Int32) (w : Wd), E gWI X m_X12_likeliestSees 2 53 [(0, .ref (xa X 54)), (1, .int x1), (2, .int x2), (3, .int x3), (4, .int x4)] [] w (f_X12_likeliestSees_b53 k18 n x1 x2 x3 x4 w) := by
  intro n
  induction n with
  | zero =>
    intro x1 x2 x3 x4 w
    exact E_none
  | succ n ih =>
    intro x1 x2 x3 x4 w
    exact cb_X12_likeliestSees_b53_y X k18 hk18 _ ih x1 x2 x3 x4 w
set_option maxRecDepth 100000 in
set_option maxHeartbeats 4000000 in
theorem cb_X12_likeliestSees_b18_y (X : Xt) (k18 : Int32 → Int32 → Int32 → Wd → Option (Int32 × Wd)) (hk18 : ∀ (x1 : Int32) (x2 : Int32) (x3 : Int32)  (w : Wd), E gWI X m_X12_likeliestSees 2 18 [(0, .ref (xa X 54)), (1, .int x1), (2, .int x2), (3, .int x3)] [] w (k18 x1 x2 x3 w)) (x1 : Int32) (x2 : Int32) (x3 : Int32) (w : Wd) : E gWI X m_X12_likeliestSees 2 18 [(0, .ref (xa X 54)), (1, .int x1), (2, .int x2), (3, .int x3)] [] w (f_X12_likeliestSees_b18_y k18 x1 x2 x3 w) := by
  unfold f_X12_likeliestSees_b18_y
  refine e_iload_n (pc := 18) dX12_likeliestSees_18 3 rfl rfl ?_
  refine e_bipush (pc := 19) (v := (12 : Int32)) dX12_likeliestSees_19 bp_12 ?_
  refine e_icmp_gt (pc := 21) (tgt := 87) dX12_likeliestSees_21 (by decide) (fun _ => ?_) (fun _ => ?_)
  · refine e_iload_n (pc := 87) dX12_likeliestSees_87 2 rfl rfl ?_
    exact e_iretW rfl dX12_likeliestSees_88
  · refine e_aload_n (pc := 24) dX12_likeliestSees_24 0 rfl rfl ?_
    refine e_iconst (pc := 25) (v := (0 : Int32)) dX12_likeliestSees_25 ic_0 ?_
    refine e_iload_n (pc := 26) dX12_likeliestSees_26 3 rfl rfl ?_
    refine e_iload_n (pc := 27) dX12_likeliestSees_27 1 rfl rfl ?_
    refine e_bipush (pc := 28) (v := (100 : Int32)) dX12_likeliestSees_28 bp_100 ?_
    refine e_irem (pc := 30) dX12_likeliestSees_30 (by decide) ?_
    refine e_iload_n (pc := 31) dX12_likeliestSees_31 1 rfl rfl ?_
    refine e_bipush (pc := 32) (v := (100 : Int32)) dX12_likeliestSees_32 bp_100 ?_
    refine e_idiv (pc := 34) dX12_likeliestSees_34 (by decide) ?_
    refine e_callVWV (pc := 35) (As := [.int (0 : Int32), .int x3, .int (ire x1 (100 : Int32)), .int (x1 / (100 : Int32))]) (rest := []) kk54 Kc12 (cf_X12_layProduct X (0 : Int32) x3 (ire x1 (100 : Int32)) (x1 / (100 : Int32)) w) lk_X12_335 (Nat.le_of_ble_eq_true rfl) (Nat.le_of_ble_eq_true rfl) rfl rfl (Nat.le_of_ble_eq_true rfl) dX12_likeliestSees_35 (fun w2 => ?_)
    refine e_aload_n (pc := 38) dX12_likeliestSees_38 0 rfl rfl ?_
    refine e_callVRI (pc := 39) (As := []) (rest := []) kk54 Kc12 (cf_X12_isMore X w2) lk_X12_339 (Nat.le_of_ble_eq_true rfl) (Nat.le_of_ble_eq_true rfl) rfl rfl (Nat.le_of_ble_eq_true rfl) dX12_likeliestSees_39 (fun r3 => ?_)
    refine e_if_ne (pc := 42) (tgt := 48) dX12_likeliestSees_42 (by decide) (fun _ => ?_) (fun _ => ?_)
    · refine e_goto (pc := 45) (tgt := 81) dX12_likeliestSees_45 (by decide) ?_
      refine e_lv [0, 1, 2, 3] rfl ?_
      exact cb_X12_likeliestSees_b81 X k18 hk18 x1 x2 x3 w2
    · refine e_iload_n (pc := 48) dX12_likeliestSees_48 3 rfl rfl ?_
      refine e_istore_n (pc := 49) (lv' := [(2, .int x3), (0, .ref (xa X 54)), (1, .int x1), (3, .int x3)]) dX12_likeliestSees_49 rfl (Nat.le_of_ble_eq_true rfl) rfl ?_
      refine e_iconst (pc := 50) (v := (0 : Int32)) dX12_likeliestSees_50 ic_0 ?_
      refine e_istore (pc := 51) (lv' := [(4, .int (0 : Int32)), (2, .int x3), (0, .ref (xa X 54)), (1, .int x1), (3, .int x3)]) dX12_likeliestSees_51 (Nat.le_of_ble_eq_true rfl) rfl ?_
      refine e_lv [2, 3, 1, 4, 0] rfl ?_
      exact cb_X12_likeliestSees_b53 X k18 hk18 fu x1 x3 x3 (0 : Int32) w2
theorem cb_X12_likeliestSees_b18 (X : Xt) : ∀ (n : Nat) (x1 : Int32) (x2 : Int32) (x3 : Int32) (w : Wd), E gWI X m_X12_likeliestSees 2 18 [(0, .ref (xa X 54)), (1, .int x1), (2, .int x2), (3, .int x3)] [] w (f_X12_likeliestSees_b18 n x1 x2 x3 w) := by
  intro n
  induction n with
  | zero =>
    intro x1 x2 x3 w
    exact E_none
  | succ n ih =>
    intro x1 x2 x3 w
    exact cb_X12_likeliestSees_b18_y X _ ih x1 x2 x3 w
set_option maxRecDepth 100000 in
set_option maxHeartbeats 4000000 in
theorem ce_X12_likeliestSees (X : Xt) (a1 : Int32) (w : Wd) : E gWI X m_X12_likeliestSees 2 0 [(0, .ref (xa X 54)), (1, .int a1)] [] w (f_X12_likeliestSees a1 w) := by
  unfold f_X12_likeliestSees
  refine e_iconst (pc := 0) (v := (0 : Int32)) dX12_likeliestSees_0 ic_0 ?_
  refine e_istore_n (pc := 1) (lv' := [(2, .int (0 : Int32)), (0, .ref (xa X 54)), (1, .int a1)]) dX12_likeliestSees_1 rfl (Nat.le_of_ble_eq_true rfl) rfl ?_
  refine e_aload_n (pc := 2) dX12_likeliestSees_2 1 rfl rfl ?_
  refine e_iconst (pc := 3) (v := (3 : Int32)) dX12_likeliestSees_3 ic_3 ?_
  refine e_iconst (pc := 4) (v := (0 : Int32)) dX12_likeliestSees_4 ic_0 ?_
  refine e_iload_n (pc := 5) dX12_likeliestSees_5 2 rfl rfl ?_
  refine e_bipush (pc := 6) (v := (100 : Int32)) dX12_likeliestSees_6 bp_100 ?_
  refine e_irem (pc := 8) dX12_likeliestSees_8 (by decide) ?_
  refine e_iload_n (pc := 9) dX12_likeliestSees_9 2 rfl rfl ?_
  refine e_bipush (pc := 10) (v := (100 : Int32)) dX12_likeliestSees_10 bp_100 ?_
  refine e_idiv (pc := 12) dX12_likeliestSees_12 (by decide) ?_
  refine e_callVWV (pc := 13) (As := [.int (3 : Int32), .int (0 : Int32), .int (ire a1 (100 : Int32)), .int (a1 / (100 : Int32))]) (rest := []) kk54 Kc12 (cf_X12_layProduct X (3 : Int32) (0 : Int32) (ire a1 (100 : Int32)) (a1 / (100 : Int32)) w) lk_X12_335 (Nat.le_of_ble_eq_true rfl) (Nat.le_of_ble_eq_true rfl) rfl rfl (Nat.le_of_ble_eq_true rfl) dX12_likeliestSees_13 (fun w1 => ?_)
  refine e_iconst (pc := 16) (v := (1 : Int32)) dX12_likeliestSees_16 ic_1 ?_
  refine e_istore_n (pc := 17) (lv' := [(3, .int (1 : Int32)), (2, .int (0 : Int32)), (0, .ref (xa X 54)), (1, .int a1)]) dX12_likeliestSees_17 rfl (Nat.le_of_ble_eq_true rfl) rfl ?_
  refine e_lv [2, 3, 1, 0] rfl ?_
  exact cb_X12_likeliestSees_b18 X fu a1 (0 : Int32) (1 : Int32) w1
theorem cf_X12_likeliestSees (X : Xt) (a1 : Int32) (w : Wd) : CF gWI X m_X12_likeliestSees 2 [.ref (xa X 54), .int a1] w (f_X12_likeliestSees a1 w) := CF_of (by decide) (Nat.le_of_ble_eq_true rfl) (ce_X12_likeliestSees X a1 w)
set_option maxRecDepth 100000 in
set_option maxHeartbeats 4000000 in
theorem ce_X12_seesFor (X : Xt) (a1 : Int32) (w : Wd) : E gWI X m_X12_seesFor 3 0 [(0, .ref (xa X 54)), (1, .int a1)] [] w (f_X12_seesFor a1 w) := by
  unfold f_X12_seesFor
  refine e_iload_n (pc := 0) dX12_seesFor_0 1 rfl rfl ?_
  refine e_callSRI (pc := 1) (As := [.int a1]) (rest := []) (cf_X12_isPutIn X a1 w) lk_X12_342 (Nat.le_of_ble_eq_true rfl) (Nat.le_of_ble_eq_true rfl) rfl rfl (Nat.le_of_ble_eq_true rfl) dX12_seesFor_1 (fun r1 => ?_)
  refine e_if_eq (pc := 4) (tgt := 15) dX12_seesFor_4 (by decide) (fun _ => ?_) (fun _ => ?_)
  · refine e_iconst (pc := 15) (v := (-1 : Int32)) dX12_seesFor_15 ic_m1 ?_
    exact e_iretW rfl dX12_seesFor_16
  · refine e_aload_n (pc := 7) dX12_seesFor_7 0 rfl rfl ?_
    refine e_iload_n (pc := 8) dX12_seesFor_8 1 rfl rfl ?_
    refine e_callVWI (pc := 9) (As := [.int a1]) (rest := []) kk54 Kc12 (cf_X12_likeliestSees X a1 w) lk_X12_345 (Nat.le_of_ble_eq_true rfl) (Nat.le_of_ble_eq_true rfl) rfl rfl (Nat.le_of_ble_eq_true rfl) dX12_seesFor_9 (fun r2 w3 => ?_)
    refine e_goto (pc := 12) (tgt := 16) dX12_seesFor_12 (by decide) ?_
    exact e_iretW rfl dX12_seesFor_16
theorem cf_X12_seesFor (X : Xt) (a1 : Int32) (w : Wd) : CF gWI X m_X12_seesFor 3 [.ref (xa X 54), .int a1] w (f_X12_seesFor a1 w) := CF_of (by decide) (Nat.le_of_ble_eq_true rfl) (ce_X12_seesFor X a1 w)
set_option maxRecDepth 100000 in
set_option maxHeartbeats 4000000 in
theorem ce_X12_besides (X : Xt) (a1 : Int32) (a2 : Int32) (a3 : Int32) (w : Wd) : E gWL X m_X12_besides 3 0 [(0, .ref (xa X 54)), (1, .int a1), (2, .int a2), (3, .int a3)] [] w (f_X12_besides a1 a2 a3 w) := by
  unfold f_X12_besides
  refine e_iload_n (pc := 0) dX12_besides_0 1 rfl rfl ?_
  refine e_callSRI (pc := 1) (As := [.int a1]) (rest := []) (cf_X12_isPutIn X a1 w) lk_X12_342 (Nat.le_of_ble_eq_true rfl) (Nat.le_of_ble_eq_true rfl) rfl rfl (Nat.le_of_ble_eq_true rfl) dX12_besides_1 (fun r1 => ?_)
  refine e_if_eq (pc := 4) (tgt := 24) dX12_besides_4 (by decide) (fun _ => ?_) (fun _ => ?_)
  · refine e_ldc2 (pc := 24) (v := (-9223372036854775808 : Int64)) dX12_besides_24 cl_X12_283 ?_
    exact e_lretW rfl dX12_besides_27
  · refine e_iload_n (pc := 7) dX12_besides_7 2 rfl rfl ?_
    refine e_iconst (pc := 8) (v := (0 : Int32)) dX12_besides_8 ic_0 ?_
    refine e_bipush (pc := 9) (v := (99 : Int32)) dX12_besides_9 bp_99 ?_
    refine e_callSRI (pc := 11) (As := [.int a2, .int (0 : Int32), .int (99 : Int32)]) (rest := []) (cf_X12_in X a2 (0 : Int32) (99 : Int32) w) lk_X12_124 (Nat.le_of_ble_eq_true rfl) (Nat.le_of_ble_eq_true rfl) rfl rfl (Nat.le_of_ble_eq_true rfl) dX12_besides_11 (fun r2 => ?_)
    refine e_if_eq (pc := 14) (tgt := 24) dX12_besides_14 (by decide) (fun _ => ?_) (fun _ => ?_)
    · refine e_ldc2 (pc := 24) (v := (-9223372036854775808 : Int64)) dX12_besides_24 cl_X12_283 ?_
      exact e_lretW rfl dX12_besides_27
    · refine e_iload_n (pc := 17) dX12_besides_17 3 rfl rfl ?_
      refine e_callSRI (pc := 18) (As := [.int a3]) (rest := []) (cf_X12_isPart X a3 w) lk_X12_277 (Nat.le_of_ble_eq_true rfl) (Nat.le_of_ble_eq_true rfl) rfl rfl (Nat.le_of_ble_eq_true rfl) dX12_besides_18 (fun r3 => ?_)
      refine e_if_ne (pc := 21) (tgt := 28) dX12_besides_21 (by decide) (fun _ => ?_) (fun _ => ?_)
      · refine e_ldc2 (pc := 24) (v := (-9223372036854775808 : Int64)) dX12_besides_24 cl_X12_283 ?_
        exact e_lretW rfl dX12_besides_27
      · refine e_aload_n (pc := 28) dX12_besides_28 0 rfl rfl ?_
        refine e_iload_n (pc := 29) dX12_besides_29 1 rfl rfl ?_
        refine e_callVWI (pc := 30) (As := [.int a1]) (rest := []) kk54 Kc12 (cf_X12_likeliestSees X a1 w) lk_X12_345 (Nat.le_of_ble_eq_true rfl) (Nat.le_of_ble_eq_true rfl) rfl rfl (Nat.le_of_ble_eq_true rfl) dX12_besides_30 (fun r4 w5 => ?_)
        refine e_istore (pc := 33) (lv' := [(4, .int r4), (0, .ref (xa X 54)), (1, .int a1), (2, .int a2), (3, .int a3)]) dX12_besides_33 (Nat.le_of_ble_eq_true rfl) rfl ?_
        refine e_iload (pc := 35) dX12_besides_35 0 rfl ?_
        refine e_if_ne (pc := 37) (tgt := 46) dX12_besides_37 (by decide) (fun _ => ?_) (fun _ => ?_)
        · refine e_ldc2 (pc := 40) (v := (-2 : Int64)) dX12_besides_40 cl_X12_292 ?_
          refine e_goto (pc := 43) (tgt := 58) dX12_besides_43 (by decide) ?_
          exact e_lretW rfl dX12_besides_58
        · refine e_iload_n (pc := 46) dX12_besides_46 3 rfl rfl ?_
          refine e_bipush (pc := 47) (v := (12 : Int32)) dX12_besides_47 bp_12 ?_
          refine e_imul (pc := 49) dX12_besides_49 ?_
          refine e_i2l (pc := 50) dX12_besides_50 ?_
          refine e_iload (pc := 51) dX12_besides_51 0 rfl ?_
          refine e_i2l (pc := 53) dX12_besides_53 ?_
          refine e_iload_n (pc := 54) dX12_besides_54 4 rfl rfl ?_
          refine e_callSRL (pc := 55) (As := [.long (Int32.toInt64 (a2 * (12 : Int32))), .long (Int32.toInt64 r4), .int a3]) (rest := []) (cf_X12_asPart X (Int32.toInt64 (a2 * (12 : Int32))) (Int32.toInt64 r4) a3 w5) lk_X12_294 (Nat.le_of_ble_eq_true rfl) (Nat.le_of_ble_eq_true rfl) rfl rfl (Nat.le_of_ble_eq_true rfl) dX12_besides_55 (fun r6 => ?_)
          exact e_lretW rfl dX12_besides_58
theorem cf_X12_besides (X : Xt) (a1 : Int32) (a2 : Int32) (a3 : Int32) (w : Wd) : CF gWL X m_X12_besides 3 [.ref (xa X 54), .int a1, .int a2, .int a3] w (f_X12_besides a1 a2 a3 w) := CF_of (by decide) (Nat.le_of_ble_eq_true rfl) (ce_X12_besides X a1 a2 a3 w)
set_option maxRecDepth 100000 in
set_option maxHeartbeats 4000000 in
theorem cb_X12_noneOf_b59 (X : Xt) (w : Wd) (k6 : Int32 → Int32 → Int32 → Int64 → Int32 → Option Int64) (hk6 : ∀ (x1 : Int32) (x2 : Int32) (x3 : Int32) (x4 : Int64) (x6 : Int32), E (gRL w) X m_X12_noneOf 1 6 [(1, .int x1), (2, .int x2), (3, .int x3), (4, .long x4), (6, .int x6)] [] w (k6 x1 x2 x3 x4 x6)) (x1 : Int32) (x2 : Int32) (x3 : Int32) (x6 : Int32) (s0 : Int64) (s1 : Int64) : E (gRL w) X m_X12_noneOf 1 59 [(1, .int x1), (2, .int x2), (3, .int x3), (6, .int x6)] [.long s0, .long s1] w (f_X12_noneOf_b59 k6 x1 x2 x3 x6 s0 s1) := by
  unfold f_X12_noneOf_b59
  refine e_lmul (pc := 59) dX12_noneOf_59 ?_
  refine e_nameL (fun y1 => ?_)
  refine e_lstore (pc := 60) (lv' := [(4, .long y1), (1, .int x1), (2, .int x2), (3, .int x3), (6, .int x6)]) dX12_noneOf_60 (Nat.le_of_ble_eq_true rfl) rfl ?_
  refine e_iinc (pc := 62) (lv' := [(6, .int (x6 + (1 : Int32))), (4, .long y1), (1, .int x1), (2, .int x2), (3, .int x3)]) dX12_noneOf_62 4 rfl (ii_1 _) (Nat.le_of_ble_eq_true rfl) rfl ?_
  refine e_goto (pc := 65) (tgt := 6) dX12_noneOf_65 (by decide) ?_
  refine e_lv [2, 3, 4, 1, 0] rfl ?_
  exact hk6 x1 x2 x3 y1 (x6 + (1 : Int32))
set_option maxRecDepth 100000 in
set_option maxHeartbeats 4000000 in
theorem cb_X12_noneOf_b39 (X : Xt) (w : Wd) (k6 : Int32 → Int32 → Int32 → Int64 → Int32 → Option Int64) (hk6 : ∀ (x1 : Int32) (x2 : Int32) (x3 : Int32) (x4 : Int64) (x6 : Int32), E (gRL w) X m_X12_noneOf 1 6 [(1, .int x1), (2, .int x2), (3, .int x3), (4, .long x4), (6, .int x6)] [] w (k6 x1 x2 x3 x4 x6)) (x1 : Int32) (x2 : Int32) (x3 : Int32) (x6 : Int32) (s0 : Int32) (s1 : Int64) : E (gRL w) X m_X12_noneOf 1 39 [(1, .int x1), (2, .int x2), (3, .int x3), (6, .int x6)] [.int s0, .long s1] w (f_X12_noneOf_b39 k6 x1 x2 x3 x6 s0 s1) := by
  unfold f_X12_noneOf_b39
  refine e_i2l (pc := 39) dX12_noneOf_39 ?_
  refine e_goto (pc := 40) (tgt := 59) dX12_noneOf_40 (by decide) ?_
  refine e_lv [0, 1, 2, 3] rfl ?_
  exact cb_X12_noneOf_b59 X w k6 hk6 x1 x2 x3 x6 (Int32.toInt64 s0) s1
set_option maxRecDepth 100000 in
set_option maxHeartbeats 4000000 in
theorem cb_X12_noneOf_b6_y (X : Xt) (w : Wd) (k6 : Int32 → Int32 → Int32 → Int64 → Int32 → Option Int64) (hk6 : ∀ (x1 : Int32) (x2 : Int32) (x3 : Int32) (x4 : Int64) (x6 : Int32), E (gRL w) X m_X12_noneOf 1 6 [(1, .int x1), (2, .int x2), (3, .int x3), (4, .long x4), (6, .int x6)] [] w (k6 x1 x2 x3 x4 x6)) (x1 : Int32) (x2 : Int32) (x3 : Int32) (x4 : Int64) (x6 : Int32) : E (gRL w) X m_X12_noneOf 1 6 [(1, .int x1), (2, .int x2), (3, .int x3), (4, .long x4), (6, .int x6)] [] w (f_X12_noneOf_b6_y k6 x1 x2 x3 x4 x6) := by
  unfold f_X12_noneOf_b6_y
  refine e_iload (pc := 6) dX12_noneOf_6 4 rfl ?_
  refine e_iconst (pc := 8) (v := (3 : Int32)) dX12_noneOf_8 ic_3 ?_
  refine e_icmp_ge (pc := 9) (tgt := 68) dX12_noneOf_9 (by decide) (fun _ => ?_) (fun _ => ?_)
  · refine e_lload (pc := 68) dX12_noneOf_68 3 rfl ?_
    exact e_lretR rfl dX12_noneOf_70
  · refine e_lload (pc := 12) dX12_noneOf_12 3 rfl ?_
    refine e_iload (pc := 14) dX12_noneOf_14 4 rfl ?_
    refine e_iload_n (pc := 16) dX12_noneOf_16 2 rfl rfl ?_
    refine e_icmp_ge (pc := 17) (tgt := 43) dX12_noneOf_17 (by decide) (fun _ => ?_) (fun _ => ?_)
    · refine e_iload_n (pc := 43) dX12_noneOf_43 0 rfl rfl ?_
      refine e_iload (pc := 44) dX12_noneOf_44 4 rfl ?_
      refine e_isub (pc := 46) dX12_noneOf_46 ?_
      refine e_if_le (pc := 47) (tgt := 58) dX12_noneOf_47 (by decide) (fun _ => ?_) (fun _ => ?_)
      · refine e_lconst (pc := 58) (v := (1 : Int64)) dX12_noneOf_58 lc_1 ?_
        refine e_lv [0, 1, 2, 4] rfl ?_
        exact cb_X12_noneOf_b59 X w k6 hk6 x1 x2 x3 x6 (1 : Int64) x4
      · refine e_iload_n (pc := 50) dX12_noneOf_50 0 rfl rfl ?_
        refine e_iload (pc := 51) dX12_noneOf_51 4 rfl ?_
        refine e_isub (pc := 53) dX12_noneOf_53 ?_
        refine e_i2l (pc := 54) dX12_noneOf_54 ?_
        refine e_goto (pc := 55) (tgt := 59) dX12_noneOf_55 (by decide) ?_
        refine e_lv [0, 1, 2, 4] rfl ?_
        exact cb_X12_noneOf_b59 X w k6 hk6 x1 x2 x3 x6 (Int32.toInt64 (x1 - x6)) x4
    · refine e_iload_n (pc := 20) dX12_noneOf_20 0 rfl rfl ?_
      refine e_iload_n (pc := 21) dX12_noneOf_21 1 rfl rfl ?_
      refine e_isub (pc := 22) dX12_noneOf_22 ?_
      refine e_iload (pc := 23) dX12_noneOf_23 4 rfl ?_
      refine e_isub (pc := 25) dX12_noneOf_25 ?_
      refine e_if_le (pc := 26) (tgt := 38) dX12_noneOf_26 (by decide) (fun _ => ?_) (fun _ => ?_)
      · refine e_iconst (pc := 38) (v := (0 : Int32)) dX12_noneOf_38 ic_0 ?_
        refine e_lv [0, 1, 2, 4] rfl ?_
        exact cb_X12_noneOf_b39 X w k6 hk6 x1 x2 x3 x6 (0 : Int32) x4
      · refine e_iload_n (pc := 29) dX12_noneOf_29 0 rfl rfl ?_
        refine e_iload_n (pc := 30) dX12_noneOf_30 1 rfl rfl ?_
        refine e_isub (pc := 31) dX12_noneOf_31 ?_
        refine e_iload (pc := 32) dX12_noneOf_32 4 rfl ?_
        refine e_isub (pc := 34) dX12_noneOf_34 ?_
        refine e_goto (pc := 35) (tgt := 39) dX12_noneOf_35 (by decide) ?_
        refine e_lv [0, 1, 2, 4] rfl ?_
        exact cb_X12_noneOf_b39 X w k6 hk6 x1 x2 x3 x6 ((x1 - x2) - x6) x4
theorem cb_X12_noneOf_b6 (X : Xt) (w : Wd) : ∀ (n : Nat) (x1 : Int32) (x2 : Int32) (x3 : Int32) (x4 : Int64) (x6 : Int32), E (gRL w) X m_X12_noneOf 1 6 [(1, .int x1), (2, .int x2), (3, .int x3), (4, .long x4), (6, .int x6)] [] w (f_X12_noneOf_b6 n x1 x2 x3 x4 x6) := by
  intro n
  induction n with
  | zero =>
    intro x1 x2 x3 x4 x6
    exact E_none
  | succ n ih =>
    intro x1 x2 x3 x4 x6
    exact cb_X12_noneOf_b6_y X w _ ih x1 x2 x3 x4 x6
set_option maxRecDepth 100000 in
set_option maxHeartbeats 4000000 in
theorem ce_X12_noneOf (X : Xt) (a1 : Int32) (a2 : Int32) (a3 : Int32) (w : Wd) : E (gRL w) X m_X12_noneOf 1 0 [(0, .ref (xa X 54)), (1, .int a1), (2, .int a2), (3, .int a3)] [] w (f_X12_noneOf a1 a2 a3) := by
  unfold f_X12_noneOf
  refine e_lconst (pc := 0) (v := (1 : Int64)) dX12_noneOf_0 lc_1 ?_
  refine e_lstore (pc := 1) (lv' := [(4, .long (1 : Int64)), (0, .ref (xa X 54)), (1, .int a1), (2, .int a2), (3, .int a3)]) dX12_noneOf_1 (Nat.le_of_ble_eq_true rfl) rfl ?_
  refine e_iconst (pc := 3) (v := (0 : Int32)) dX12_noneOf_3 ic_0 ?_
  refine e_istore (pc := 4) (lv' := [(6, .int (0 : Int32)), (4, .long (1 : Int64)), (0, .ref (xa X 54)), (1, .int a1), (2, .int a2), (3, .int a3)]) dX12_noneOf_4 (Nat.le_of_ble_eq_true rfl) rfl ?_
  refine e_lv [3, 4, 5, 1, 0] rfl ?_
  exact cb_X12_noneOf_b6 X w fu a1 a2 a3 (1 : Int64) (0 : Int32)
theorem cf_X12_noneOf (X : Xt) (a1 : Int32) (a2 : Int32) (a3 : Int32) (w : Wd) : CF (gRL w) X m_X12_noneOf 1 [.ref (xa X 54), .int a1, .int a2, .int a3] w (f_X12_noneOf a1 a2 a3) := CF_of (by decide) (Nat.le_of_ble_eq_true rfl) (ce_X12_noneOf X a1 a2 a3 w)
set_option maxRecDepth 100000 in
set_option maxHeartbeats 4000000 in
theorem cb_X12_allOf_b24 (X : Xt) (w : Wd) (k4 : Int32 → Int64 → Int32 → Option Int64) (hk4 : ∀ (x0 : Int32) (x1 : Int64) (x3 : Int32), E (gRL w) X m_X12_allOf 1 4 [(0, .int x0), (1, .long x1), (3, .int x3)] [] w (k4 x0 x1 x3)) (x0 : Int32) (x3 : Int32) (s0 : Int64) (s1 : Int64) : E (gRL w) X m_X12_allOf 1 24 [(0, .int x0), (3, .int x3)] [.long s0, .long s1] w (f_X12_allOf_b24 k4 x0 x3 s0 s1) := by
  unfold f_X12_allOf_b24
  refine e_lmul (pc := 24) dX12_allOf_24 ?_
  refine e_nameL (fun y1 => ?_)
  refine e_lstore_n (pc := 25) (lv' := [(1, .long y1), (0, .int x0), (3, .int x3)]) dX12_allOf_25 rfl (Nat.le_of_ble_eq_true rfl) rfl ?_
  refine e_iinc (pc := 26) (lv' := [(3, .int (x3 + (1 : Int32))), (1, .long y1), (0, .int x0)]) dX12_allOf_26 2 rfl (ii_1 _) (Nat.le_of_ble_eq_true rfl) rfl ?_
  refine e_goto (pc := 29) (tgt := 4) dX12_allOf_29 (by decide) ?_
  refine e_lv [2, 1, 0] rfl ?_
  exact hk4 x0 y1 (x3 + (1 : Int32))
set_option maxRecDepth 100000 in
set_option maxHeartbeats 4000000 in
theorem cb_X12_allOf_b4_y (X : Xt) (w : Wd) (k4 : Int32 → Int64 → Int32 → Option Int64) (hk4 : ∀ (x0 : Int32) (x1 : Int64) (x3 : Int32), E (gRL w) X m_X12_allOf 1 4 [(0, .int x0), (1, .long x1), (3, .int x3)] [] w (k4 x0 x1 x3)) (x0 : Int32) (x1 : Int64) (x3 : Int32) : E (gRL w) X m_X12_allOf 1 4 [(0, .int x0), (1, .long x1), (3, .int x3)] [] w (f_X12_allOf_b4_y k4 x0 x1 x3) := by
  unfold f_X12_allOf_b4_y
  refine e_iload_n (pc := 4) dX12_allOf_4 2 rfl rfl ?_
  refine e_iconst (pc := 5) (v := (3 : Int32)) dX12_allOf_5 ic_3 ?_
  refine e_icmp_ge (pc := 6) (tgt := 32) dX12_allOf_6 (by decide) (fun _ => ?_) (fun _ => ?_)
  · refine e_lload_n (pc := 32) dX12_allOf_32 1 rfl rfl ?_
    exact e_lretR rfl dX12_allOf_33
  · refine e_lload_n (pc := 9) dX12_allOf_9 1 rfl rfl ?_
    refine e_iload_n (pc := 10) dX12_allOf_10 0 rfl rfl ?_
    refine e_iload_n (pc := 11) dX12_allOf_11 2 rfl rfl ?_
    refine e_isub (pc := 12) dX12_allOf_12 ?_
    refine e_if_le (pc := 13) (tgt := 23) dX12_allOf_13 (by decide) (fun _ => ?_) (fun _ => ?_)
    · refine e_lconst (pc := 23) (v := (1 : Int64)) dX12_allOf_23 lc_1 ?_
      refine e_lv [0, 2] rfl ?_
      exact cb_X12_allOf_b24 X w k4 hk4 x0 x3 (1 : Int64) x1
    · refine e_iload_n (pc := 16) dX12_allOf_16 0 rfl rfl ?_
      refine e_iload_n (pc := 17) dX12_allOf_17 2 rfl rfl ?_
      refine e_isub (pc := 18) dX12_allOf_18 ?_
      refine e_i2l (pc := 19) dX12_allOf_19 ?_
      refine e_goto (pc := 20) (tgt := 24) dX12_allOf_20 (by decide) ?_
      refine e_lv [0, 2] rfl ?_
      exact cb_X12_allOf_b24 X w k4 hk4 x0 x3 (Int32.toInt64 (x0 - x3)) x1
theorem cb_X12_allOf_b4 (X : Xt) (w : Wd) : ∀ (n : Nat) (x0 : Int32) (x1 : Int64) (x3 : Int32), E (gRL w) X m_X12_allOf 1 4 [(0, .int x0), (1, .long x1), (3, .int x3)] [] w (f_X12_allOf_b4 n x0 x1 x3) := by
  intro n
  induction n with
  | zero =>
    intro x0 x1 x3
    exact E_none
  | succ n ih =>
    intro x0 x1 x3
    exact cb_X12_allOf_b4_y X w _ ih x0 x1 x3
set_option maxRecDepth 100000 in
set_option maxHeartbeats 4000000 in
theorem ce_X12_allOf (X : Xt) (a0 : Int32) (w : Wd) : E (gRL w) X m_X12_allOf 1 0 [(0, .int a0)] [] w (f_X12_allOf a0) := by
  unfold f_X12_allOf
  refine e_lconst (pc := 0) (v := (1 : Int64)) dX12_allOf_0 lc_1 ?_
  refine e_lstore_n (pc := 1) (lv' := [(1, .long (1 : Int64)), (0, .int a0)]) dX12_allOf_1 rfl (Nat.le_of_ble_eq_true rfl) rfl ?_
  refine e_iconst (pc := 2) (v := (0 : Int32)) dX12_allOf_2 ic_0 ?_
  refine e_istore_n (pc := 3) (lv' := [(3, .int (0 : Int32)), (1, .long (1 : Int64)), (0, .int a0)]) dX12_allOf_3 rfl (Nat.le_of_ble_eq_true rfl) rfl ?_
  refine e_lv [2, 1, 0] rfl ?_
  exact cb_X12_allOf_b4 X w fu a0 (1 : Int64) (0 : Int32)
theorem cf_X12_allOf (X : Xt) (a0 : Int32) (w : Wd) : CF (gRL w) X m_X12_allOf 1 [.int a0] w (f_X12_allOf a0) := CF_of (by decide) (Nat.le_of_ble_eq_true rfl) (ce_X12_allOf X a0 w)
set_option maxRecDepth 100000 in
set_option maxHeartbeats 4000000 in
theorem cb_X12_handful_b238 (X : Xt) (w : Wd) (x4 : Int32) (x5 : Int32) (x6 : Int32) (x8 : Int64) (s0 : Int32) : E (gRL w) X m_X12_handful 3 238 [(0, .ref (xa X 54)), (4, .int x4), (5, .int x5), (6, .int x6), (8, .long x8)] [.int s0] w (f_X12_handful_b238 w x4 x5 x6 x8 s0) := by
  unfold f_X12_handful_b238
  refine e_i2l (pc := 238) dX12_handful_238 ?_
  refine e_aload_n (pc := 239) dX12_handful_239 0 rfl rfl ?_
  refine e_iload (pc := 240) dX12_handful_240 2 rfl ?_
  refine e_iload (pc := 242) dX12_handful_242 3 rfl ?_
  refine e_iconst (pc := 244) (v := (0 : Int32)) dX12_handful_244 ic_0 ?_
  refine e_callVRL (pc := 245) (As := [.int x5, .int x6, .int (0 : Int32)]) (rest := [.long (Int32.toInt64 s0)]) kk54 Kc12 (cf_X12_noneOf X x5 x6 (0 : Int32) w) lk_X12_348 (Nat.le_of_ble_eq_true rfl) (Nat.le_of_ble_eq_true rfl) rfl rfl (Nat.le_of_ble_eq_true rfl) dX12_handful_245 (fun r8 => ?_)
  refine e_lmul (pc := 248) dX12_handful_248 ?_
  refine e_lload (pc := 249) dX12_handful_249 4 rfl ?_
  refine e_iload (pc := 251) dX12_handful_251 1 rfl ?_
  refine e_callSRL (pc := 253) (As := [.long ((Int32.toInt64 s0) * r8), .long x8, .int x4]) (rest := []) (cf_X12_asPart X ((Int32.toInt64 s0) * r8) x8 x4 w) lk_X12_294 (Nat.le_of_ble_eq_true rfl) (Nat.le_of_ble_eq_true rfl) rfl rfl (Nat.le_of_ble_eq_true rfl) dX12_handful_253 (fun r9 => ?_)
  exact e_lretR rfl dX12_handful_256
set_option maxRecDepth 100000 in
set_option maxHeartbeats 4000000 in
theorem cb_X12_handful_b197 (X : Xt) (w : Wd) (x4 : Int32) (x5 : Int32) (s0 : Int32) (s1 : Int64) : E (gRL w) X m_X12_handful 3 197 [(4, .int x4), (5, .int x5)] [.int s0, .long s1] w (f_X12_handful_b197 w x4 x5 s0 s1) := by
  unfold f_X12_handful_b197
  refine e_i2l (pc := 197) dX12_handful_197 ?_
  refine e_iload (pc := 198) dX12_handful_198 1 rfl ?_
  refine e_callSRL (pc := 200) (As := [.int x5]) (rest := [.long (Int32.toInt64 s0), .long s1]) (cf_X12_allOf X x5 w) lk_X12_352 (Nat.le_of_ble_eq_true rfl) (Nat.le_of_ble_eq_true rfl) rfl rfl (Nat.le_of_ble_eq_true rfl) dX12_handful_200 (fun r10 => ?_)
  refine e_lmul (pc := 203) dX12_handful_203 ?_
  refine e_iload (pc := 204) dX12_handful_204 0 rfl ?_
  refine e_callSRL (pc := 206) (As := [.long s1, .long ((Int32.toInt64 s0) * r10), .int x4]) (rest := []) (cf_X12_asPart X s1 ((Int32.toInt64 s0) * r10) x4 w) lk_X12_294 (Nat.le_of_ble_eq_true rfl) (Nat.le_of_ble_eq_true rfl) rfl rfl (Nat.le_of_ble_eq_true rfl) dX12_handful_206 (fun r11 => ?_)
  exact e_lretR rfl dX12_handful_209
set_option maxRecDepth 100000 in
set_option maxHeartbeats 4000000 in
theorem cb_X12_handful_b180 (X : Xt) (w : Wd) (x1 : Int32) (x3 : Int32) (x4 : Int32) (x5 : Int32) (x6 : Int32) (x7 : Int32) (x8 : Int64) : E (gRL w) X m_X12_handful 3 180 [(0, .ref (xa X 54)), (1, .int x1), (3, .int x3), (4, .int x4), (5, .int x5), (6, .int x6), (7, .int x7), (8, .long x8)] [] w (f_X12_handful_b180 w x1 x3 x4 x5 x6 x7 x8) := by
  unfold f_X12_handful_b180
  refine e_iload_n (pc := 180) dX12_handful_180 2 rfl rfl ?_
  refine e_if_ne (pc := 181) (tgt := 210) dX12_handful_181 (by decide) (fun _ => ?_) (fun _ => ?_)
  · refine e_lload (pc := 184) dX12_handful_184 7 rfl ?_
    refine e_iload (pc := 186) dX12_handful_186 6 rfl ?_
    refine e_if_ne (pc := 188) (tgt := 195) dX12_handful_188 (by decide) (fun _ => ?_) (fun _ => ?_)
    · refine e_iconst (pc := 191) (v := (1 : Int32)) dX12_handful_191 ic_1 ?_
      refine e_goto (pc := 192) (tgt := 197) dX12_handful_192 (by decide) ?_
      refine e_lv [3, 4] rfl ?_
      exact cb_X12_handful_b197 X w x4 x5 (1 : Int32) x8
    · refine e_iload (pc := 195) dX12_handful_195 6 rfl ?_
      refine e_lv [3, 4] rfl ?_
      exact cb_X12_handful_b197 X w x4 x5 x7 x8
  · refine e_lload (pc := 210) dX12_handful_210 7 rfl ?_
    refine e_lconst (pc := 212) (v := (0 : Int64)) dX12_handful_212 lc_0 ?_
    refine e_lcmp_ne (pc := 213) (tgt := 221) dX12_handful_213 dX12_handful_214 (by decide) (fun _ => ?_) (fun _ => ?_)
    · refine e_ldc2 (pc := 217) (v := (-2 : Int64)) dX12_handful_217 cl_X12_292 ?_
      exact e_lretR rfl dX12_handful_220
    · refine e_iload (pc := 221) dX12_handful_221 6 rfl ?_
      refine e_if_ne (pc := 223) (tgt := 230) dX12_handful_223 (by decide) (fun _ => ?_) (fun _ => ?_)
      · refine e_iconst (pc := 226) (v := (1 : Int32)) dX12_handful_226 ic_1 ?_
        refine e_goto (pc := 227) (tgt := 238) dX12_handful_227 (by decide) ?_
        refine e_lv [0, 3, 4, 5, 7] rfl ?_
        exact cb_X12_handful_b238 X w x4 x5 x6 x8 (1 : Int32)
      · refine e_aload_n (pc := 230) dX12_handful_230 0 rfl rfl ?_
        refine g_R (pc := 231) (cl' := 55) kk54 fl_X12_9 rfl dX12_handful_231 ?_
        refine e_iconst (pc := 234) (v := (4 : Int32)) dX12_handful_234 ic_4 ?_
        refine e_iload_n (pc := 235) dX12_handful_235 1 rfl rfl ?_
        refine e_imul (pc := 236) dX12_handful_236 ?_
        refine e_iald (pc := 237) kk55 dX12_handful_237 (fun v7 => ?_)
        refine e_lv [0, 3, 4, 5, 7] rfl ?_
        exact cb_X12_handful_b238 X w x4 x5 x6 x8 v7
set_option maxRecDepth 100000 in
set_option maxHeartbeats 4000000 in
theorem cb_X12_handful_b159 (X : Xt) (w : Wd) (k115 : Int32 → Int32 → Int32 → Int32 → Int32 → Int32 → Int64 → Int32 → Option Int64) (hk115 : ∀ (x1 : Int32) (x3 : Int32) (x4 : Int32) (x5 : Int32) (x6 : Int32) (x7 : Int32) (x8 : Int64) (x10 : Int32), E (gRL w) X m_X12_handful 3 115 [(0, .ref (xa X 54)), (1, .int x1), (3, .int x3), (4, .int x4), (5, .int x5), (6, .int x6), (7, .int x7), (8, .long x8), (10, .int x10)] [] w (k115 x1 x3 x4 x5 x6 x7 x8 x10)) (x1 : Int32) (x3 : Int32) (x4 : Int32) (x5 : Int32) (x6 : Int32) (x7 : Int32) (x10 : Int32) (s0 : Int32) (s1 : Int64) : E (gRL w) X m_X12_handful 3 159 [(0, .ref (xa X 54)), (1, .int x1), (3, .int x3), (4, .int x4), (5, .int x5), (6, .int x6), (7, .int x7), (10, .int x10)] [.int s0, .long s1] w (f_X12_handful_b159 w k115 x1 x3 x4 x5 x6 x7 x10 s0 s1) := by
  unfold f_X12_handful_b159
  refine e_i2l (pc := 159) dX12_handful_159 ?_
  refine e_aload_n (pc := 160) dX12_handful_160 0 rfl rfl ?_
  refine e_iload (pc := 161) dX12_handful_161 4 rfl ?_
  refine e_iload (pc := 163) dX12_handful_163 5 rfl ?_
  refine e_iload (pc := 165) dX12_handful_165 7 rfl ?_
  refine e_callVRL (pc := 167) (As := [.int x5, .int x6, .int x10]) (rest := [.long (Int32.toInt64 s0), .long s1]) kk54 Kc12 (cf_X12_noneOf X x5 x6 x10 w) lk_X12_348 (Nat.le_of_ble_eq_true rfl) (Nat.le_of_ble_eq_true rfl) rfl rfl (Nat.le_of_ble_eq_true rfl) dX12_handful_167 (fun r13 => ?_)
  refine e_lmul (pc := 170) dX12_handful_170 ?_
  refine e_ladd (pc := 171) dX12_handful_171 ?_
  refine e_nameL (fun y14 => ?_)
  refine e_lstore (pc := 172) (lv' := [(8, .long y14), (0, .ref (xa X 54)), (1, .int x1), (3, .int x3), (4, .int x4), (5, .int x5), (6, .int x6), (7, .int x7), (10, .int x10)]) dX12_handful_172 (Nat.le_of_ble_eq_true rfl) rfl ?_
  refine e_iinc (pc := 174) (lv' := [(10, .int (x10 + (1 : Int32))), (8, .long y14), (0, .ref (xa X 54)), (1, .int x1), (3, .int x3), (4, .int x4), (5, .int x5), (6, .int x6), (7, .int x7)]) dX12_handful_174 8 rfl (ii_1 _) (Nat.le_of_ble_eq_true rfl) rfl ?_
  refine e_goto (pc := 177) (tgt := 115) dX12_handful_177 (by decide) ?_
  refine e_lv [2, 3, 4, 5, 6, 7, 8, 1, 0] rfl ?_
  exact hk115 x1 x3 x4 x5 x6 x7 y14 (x10 + (1 : Int32))
set_option maxRecDepth 100000 in
set_option maxHeartbeats 4000000 in
theorem cb_X12_handful_b115_y (X : Xt) (w : Wd) (k115 : Int32 → Int32 → Int32 → Int32 → Int32 → Int32 → Int64 → Int32 → Option Int64) (hk115 : ∀ (x1 : Int32) (x3 : Int32) (x4 : Int32) (x5 : Int32) (x6 : Int32) (x7 : Int32) (x8 : Int64) (x10 : Int32), E (gRL w) X m_X12_handful 3 115 [(0, .ref (xa X 54)), (1, .int x1), (3, .int x3), (4, .int x4), (5, .int x5), (6, .int x6), (7, .int x7), (8, .long x8), (10, .int x10)] [] w (k115 x1 x3 x4 x5 x6 x7 x8 x10)) (x1 : Int32) (x3 : Int32) (x4 : Int32) (x5 : Int32) (x6 : Int32) (x7 : Int32) (x8 : Int64) (x10 : Int32) : E (gRL w) X m_X12_handful 3 115 [(0, .ref (xa X 54)), (1, .int x1), (3, .int x3), (4, .int x4), (5, .int x5), (6, .int x6), (7, .int x7), (8, .long x8), (10, .int x10)] [] w (f_X12_handful_b115_y w k115 x1 x3 x4 x5 x6 x7 x8 x10) := by
  unfold f_X12_handful_b115_y
  refine e_iload (pc := 115) dX12_handful_115 8 rfl ?_
  refine e_iconst (pc := 117) (v := (3 : Int32)) dX12_handful_117 ic_3 ?_
  refine e_icmp_gt (pc := 118) (tgt := 180) dX12_handful_118 (by decide) (fun _ => ?_) (fun _ => ?_)
  · refine e_lv [0, 1, 2, 3, 4, 5, 6, 7] rfl ?_
    exact cb_X12_handful_b180 X w x1 x3 x4 x5 x6 x7 x8
  · refine e_iload (pc := 121) dX12_handful_121 8 rfl ?_
    refine e_iload (pc := 123) dX12_handful_123 4 rfl ?_
    refine e_icmp_gt (pc := 125) (tgt := 180) dX12_handful_125 (by decide) (fun _ => ?_) (fun _ => ?_)
    · refine e_lv [0, 1, 2, 3, 4, 5, 6, 7] rfl ?_
      exact cb_X12_handful_b180 X w x1 x3 x4 x5 x6 x7 x8
    · refine e_lload (pc := 128) dX12_handful_128 7 rfl ?_
      refine e_iload (pc := 130) dX12_handful_130 6 rfl ?_
      refine e_if_ne (pc := 132) (tgt := 148) dX12_handful_132 (by decide) (fun _ => ?_) (fun _ => ?_)
      · refine e_iload (pc := 135) dX12_handful_135 8 rfl ?_
        refine e_if_ne (pc := 137) (tgt := 144) dX12_handful_137 (by decide) (fun _ => ?_) (fun _ => ?_)
        · refine e_iconst (pc := 140) (v := (1 : Int32)) dX12_handful_140 ic_1 ?_
          refine e_goto (pc := 141) (tgt := 159) dX12_handful_141 (by decide) ?_
          refine e_lv [0, 1, 2, 3, 4, 5, 6, 8] rfl ?_
          exact cb_X12_handful_b159 X w k115 hk115 x1 x3 x4 x5 x6 x7 x10 (1 : Int32) x8
        · refine e_iconst (pc := 144) (v := (0 : Int32)) dX12_handful_144 ic_0 ?_
          refine e_goto (pc := 145) (tgt := 159) dX12_handful_145 (by decide) ?_
          refine e_lv [0, 1, 2, 3, 4, 5, 6, 8] rfl ?_
          exact cb_X12_handful_b159 X w k115 hk115 x1 x3 x4 x5 x6 x7 x10 (0 : Int32) x8
      · refine e_aload_n (pc := 148) dX12_handful_148 0 rfl rfl ?_
        refine g_R (pc := 149) (cl' := 55) kk54 fl_X12_9 rfl dX12_handful_149 ?_
        refine e_iconst (pc := 152) (v := (4 : Int32)) dX12_handful_152 ic_4 ?_
        refine e_iload_n (pc := 153) dX12_handful_153 1 rfl rfl ?_
        refine e_imul (pc := 154) dX12_handful_154 ?_
        refine e_iload (pc := 155) dX12_handful_155 8 rfl ?_
        refine e_iadd (pc := 157) dX12_handful_157 ?_
        refine e_iald (pc := 158) kk55 dX12_handful_158 (fun v12 => ?_)
        refine e_lv [0, 1, 2, 3, 4, 5, 6, 8] rfl ?_
        exact cb_X12_handful_b159 X w k115 hk115 x1 x3 x4 x5 x6 x7 x10 v12 x8
theorem cb_X12_handful_b115 (X : Xt) (w : Wd) : ∀ (n : Nat) (x1 : Int32) (x3 : Int32) (x4 : Int32) (x5 : Int32) (x6 : Int32) (x7 : Int32) (x8 : Int64) (x10 : Int32), E (gRL w) X m_X12_handful 3 115 [(0, .ref (xa X 54)), (1, .int x1), (3, .int x3), (4, .int x4), (5, .int x5), (6, .int x6), (7, .int x7), (8, .long x8), (10, .int x10)] [] w (f_X12_handful_b115 w n x1 x3 x4 x5 x6 x7 x8 x10) := by
  intro n
  induction n with
  | zero =>
    intro x1 x3 x4 x5 x6 x7 x8 x10
    exact E_none
  | succ n ih =>
    intro x1 x3 x4 x5 x6 x7 x8 x10
    exact cb_X12_handful_b115_y X w _ ih x1 x3 x4 x5 x6 x7 x8 x10
set_option maxRecDepth 100000 in
set_option maxHeartbeats 4000000 in
theorem cb_X12_handful_b112 (X : Xt) (w : Wd) (x1 : Int32) (x3 : Int32) (x4 : Int32) (x5 : Int32) (x6 : Int32) (x7 : Int32) (x8 : Int64) : E (gRL w) X m_X12_handful 3 112 [(0, .ref (xa X 54)), (1, .int x1), (3, .int x3), (4, .int x4), (5, .int x5), (6, .int x6), (7, .int x7), (8, .long x8)] [] w (f_X12_handful_b112 w x1 x3 x4 x5 x6 x7 x8) := by
  unfold f_X12_handful_b112
  refine e_iconst (pc := 112) (v := (0 : Int32)) dX12_handful_112 ic_0 ?_
  refine e_istore (pc := 113) (lv' := [(10, .int (0 : Int32)), (0, .ref (xa X 54)), (1, .int x1), (3, .int x3), (4, .int x4), (5, .int x5), (6, .int x6), (7, .int x7), (8, .long x8)]) dX12_handful_113 (Nat.le_of_ble_eq_true rfl) rfl ?_
  refine e_lv [1, 2, 3, 4, 5, 6, 7, 8, 0] rfl ?_
  exact cb_X12_handful_b115 X w fu x1 x3 x4 x5 x6 x7 x8 (0 : Int32)
set_option maxRecDepth 100000 in
set_option maxHeartbeats 4000000 in
theorem cb_X12_handful_b77_y (X : Xt) (w : Wd) (k77 : Int32 → Int32 → Int32 → Int32 → Int32 → Int32 → Int64 → Int32 → Option Int64) (hk77 : ∀ (x1 : Int32) (x3 : Int32) (x4 : Int32) (x5 : Int32) (x6 : Int32) (x7 : Int32) (x8 : Int64) (x10 : Int32), E (gRL w) X m_X12_handful 3 77 [(0, .ref (xa X 54)), (1, .int x1), (3, .int x3), (4, .int x4), (5, .int x5), (6, .int x6), (7, .int x7), (8, .long x8), (10, .int x10)] [] w (k77 x1 x3 x4 x5 x6 x7 x8 x10)) (x1 : Int32) (x3 : Int32) (x4 : Int32) (x5 : Int32) (x6 : Int32) (x7 : Int32) (x8 : Int64) (x10 : Int32) : E (gRL w) X m_X12_handful 3 77 [(0, .ref (xa X 54)), (1, .int x1), (3, .int x3), (4, .int x4), (5, .int x5), (6, .int x6), (7, .int x7), (8, .long x8), (10, .int x10)] [] w (f_X12_handful_b77_y w k77 x1 x3 x4 x5 x6 x7 x8 x10) := by
  unfold f_X12_handful_b77_y
  refine e_iload (pc := 77) dX12_handful_77 8 rfl ?_
  refine e_iconst (pc := 79) (v := (3 : Int32)) dX12_handful_79 ic_3 ?_
  refine e_icmp_gt (pc := 80) (tgt := 112) dX12_handful_80 (by decide) (fun _ => ?_) (fun _ => ?_)
  · refine e_lv [0, 1, 2, 3, 4, 5, 6, 7] rfl ?_
    exact cb_X12_handful_b112 X w x1 x3 x4 x5 x6 x7 x8
  · refine e_iload (pc := 83) dX12_handful_83 8 rfl ?_
    refine e_iload (pc := 85) dX12_handful_85 4 rfl ?_
    refine e_icmp_gt (pc := 87) (tgt := 112) dX12_handful_87 (by decide) (fun _ => ?_) (fun _ => ?_)
    · refine e_lv [0, 1, 2, 3, 4, 5, 6, 7] rfl ?_
      exact cb_X12_handful_b112 X w x1 x3 x4 x5 x6 x7 x8
    · refine e_iload (pc := 90) dX12_handful_90 6 rfl ?_
      refine e_aload_n (pc := 92) dX12_handful_92 0 rfl rfl ?_
      refine g_R (pc := 93) (cl' := 55) kk54 fl_X12_9 rfl dX12_handful_93 ?_
      refine e_iconst (pc := 96) (v := (4 : Int32)) dX12_handful_96 ic_4 ?_
      refine e_iload_n (pc := 97) dX12_handful_97 1 rfl rfl ?_
      refine e_imul (pc := 98) dX12_handful_98 ?_
      refine e_iload (pc := 99) dX12_handful_99 8 rfl ?_
      refine e_iadd (pc := 101) dX12_handful_101 ?_
      refine e_iald (pc := 102) kk55 dX12_handful_102 (fun v15 => ?_)
      refine e_iadd (pc := 103) dX12_handful_103 ?_
      refine e_nameI (fun y16 => ?_)
      refine e_istore (pc := 104) (lv' := [(7, .int y16), (0, .ref (xa X 54)), (1, .int x1), (3, .int x3), (4, .int x4), (5, .int x5), (6, .int x6), (8, .long x8), (10, .int x10)]) dX12_handful_104 (Nat.le_of_ble_eq_true rfl) rfl ?_
      refine e_iinc (pc := 106) (lv' := [(10, .int (x10 + (1 : Int32))), (7, .int y16), (0, .ref (xa X 54)), (1, .int x1), (3, .int x3), (4, .int x4), (5, .int x5), (6, .int x6), (8, .long x8)]) dX12_handful_106 8 rfl (ii_1 _) (Nat.le_of_ble_eq_true rfl) rfl ?_
      refine e_goto (pc := 109) (tgt := 77) dX12_handful_109 (by decide) ?_
      refine e_lv [2, 3, 4, 5, 6, 7, 1, 8, 0] rfl ?_
      exact hk77 x1 x3 x4 x5 x6 y16 x8 (x10 + (1 : Int32))
theorem cb_X12_handful_b77 (X : Xt) (w : Wd) : ∀ (n : Nat) (x1 : Int32) (x3 : Int32) (x4 : Int32) (x5 : Int32) (x6 : Int32) (x7 : Int32) (x8 : Int64) (x10 : Int32), E (gRL w) X m_X12_handful 3 77 [(0, .ref (xa X 54)), (1, .int x1), (3, .int x3), (4, .int x4), (5, .int x5), (6, .int x6), (7, .int x7), (8, .long x8), (10, .int x10)] [] w (f_X12_handful_b77 w n x1 x3 x4 x5 x6 x7 x8 x10) := by
  intro n
  induction n with
  | zero =>
    intro x1 x3 x4 x5 x6 x7 x8 x10
    exact E_none
  | succ n ih =>
    intro x1 x3 x4 x5 x6 x7 x8 x10
    exact cb_X12_handful_b77_y X w _ ih x1 x3 x4 x5 x6 x7 x8 x10
set_option maxRecDepth 100000 in
set_option maxHeartbeats 4000000 in
theorem ce_X12_handful (X : Xt) (a1 : Int32) (a2 : Int32) (a3 : Int32) (a4 : Int32) (w : Wd) : E (gRL w) X m_X12_handful 3 0 [(0, .ref (xa X 54)), (1, .int a1), (2, .int a2), (3, .int a3), (4, .int a4)] [] w (f_X12_handful a1 a2 a3 a4 w) := by
  unfold f_X12_handful
  refine e_iload_n (pc := 0) dX12_handful_0 1 rfl rfl ?_
  refine e_callSRI (pc := 1) (As := [.int a1]) (rest := []) (cf_X12_isBag X a1 w) lk_X12_155 (Nat.le_of_ble_eq_true rfl) (Nat.le_of_ble_eq_true rfl) rfl rfl (Nat.le_of_ble_eq_true rfl) dX12_handful_1 (fun r1 => ?_)
  refine e_if_eq (pc := 4) (tgt := 52) dX12_handful_4 (by decide) (fun _ => ?_) (fun _ => ?_)
  · refine e_ldc2 (pc := 52) (v := (-9223372036854775808 : Int64)) dX12_handful_52 cl_X12_283 ?_
    exact e_lretR rfl dX12_handful_55
  · refine e_iload_n (pc := 7) dX12_handful_7 2 rfl rfl ?_
    refine e_if_lt (pc := 8) (tgt := 52) dX12_handful_8 (by decide) (fun _ => ?_) (fun _ => ?_)
    · refine e_ldc2 (pc := 52) (v := (-9223372036854775808 : Int64)) dX12_handful_52 cl_X12_283 ?_
      exact e_lretR rfl dX12_handful_55
    · refine e_iload_n (pc := 11) dX12_handful_11 2 rfl rfl ?_
      refine e_bipush (pc := 12) (v := (100 : Int32)) dX12_handful_12 bp_100 ?_
      refine e_idiv (pc := 14) dX12_handful_14 (by decide) ?_
      refine e_iconst (pc := 15) (v := (1 : Int32)) dX12_handful_15 ic_1 ?_
      refine e_bipush (pc := 16) (v := (60 : Int32)) dX12_handful_16 bp_60 ?_
      refine e_callSRI (pc := 18) (As := [.int (a2 / (100 : Int32)), .int (1 : Int32), .int (60 : Int32)]) (rest := []) (cf_X12_in X (a2 / (100 : Int32)) (1 : Int32) (60 : Int32) w) lk_X12_124 (Nat.le_of_ble_eq_true rfl) (Nat.le_of_ble_eq_true rfl) rfl rfl (Nat.le_of_ble_eq_true rfl) dX12_handful_18 (fun r2 => ?_)
      refine e_if_eq (pc := 21) (tgt := 52) dX12_handful_21 (by decide) (fun _ => ?_) (fun _ => ?_)
      · refine e_ldc2 (pc := 52) (v := (-9223372036854775808 : Int64)) dX12_handful_52 cl_X12_283 ?_
        exact e_lretR rfl dX12_handful_55
      · refine e_iload_n (pc := 24) dX12_handful_24 2 rfl rfl ?_
        refine e_bipush (pc := 25) (v := (100 : Int32)) dX12_handful_25 bp_100 ?_
        refine e_irem (pc := 27) dX12_handful_27 (by decide) ?_
        refine e_iload_n (pc := 28) dX12_handful_28 2 rfl rfl ?_
        refine e_bipush (pc := 29) (v := (100 : Int32)) dX12_handful_29 bp_100 ?_
        refine e_idiv (pc := 31) dX12_handful_31 (by decide) ?_
        refine e_icmp_gt (pc := 32) (tgt := 52) dX12_handful_32 (by decide) (fun _ => ?_) (fun _ => ?_)
        · refine e_ldc2 (pc := 52) (v := (-9223372036854775808 : Int64)) dX12_handful_52 cl_X12_283 ?_
          exact e_lretR rfl dX12_handful_55
        · refine e_iload_n (pc := 35) dX12_handful_35 3 rfl rfl ?_
          refine e_iconst (pc := 36) (v := (0 : Int32)) dX12_handful_36 ic_0 ?_
          refine e_iconst (pc := 37) (v := (1 : Int32)) dX12_handful_37 ic_1 ?_
          refine e_callSRI (pc := 38) (As := [.int a3, .int (0 : Int32), .int (1 : Int32)]) (rest := []) (cf_X12_in X a3 (0 : Int32) (1 : Int32) w) lk_X12_124 (Nat.le_of_ble_eq_true rfl) (Nat.le_of_ble_eq_true rfl) rfl rfl (Nat.le_of_ble_eq_true rfl) dX12_handful_38 (fun r3 => ?_)
          refine e_if_eq (pc := 41) (tgt := 52) dX12_handful_41 (by decide) (fun _ => ?_) (fun _ => ?_)
          · refine e_ldc2 (pc := 52) (v := (-9223372036854775808 : Int64)) dX12_handful_52 cl_X12_283 ?_
            exact e_lretR rfl dX12_handful_55
          · refine e_iload (pc := 44) dX12_handful_44 4 rfl ?_
            refine e_callSRI (pc := 46) (As := [.int a4]) (rest := []) (cf_X12_isPart X a4 w) lk_X12_277 (Nat.le_of_ble_eq_true rfl) (Nat.le_of_ble_eq_true rfl) rfl rfl (Nat.le_of_ble_eq_true rfl) dX12_handful_46 (fun r4 => ?_)
            refine e_if_ne (pc := 49) (tgt := 56) dX12_handful_49 (by decide) (fun _ => ?_) (fun _ => ?_)
            · refine e_ldc2 (pc := 52) (v := (-9223372036854775808 : Int64)) dX12_handful_52 cl_X12_283 ?_
              exact e_lretR rfl dX12_handful_55
            · refine e_iload_n (pc := 56) dX12_handful_56 2 rfl rfl ?_
              refine e_bipush (pc := 57) (v := (100 : Int32)) dX12_handful_57 bp_100 ?_
              refine e_idiv (pc := 59) dX12_handful_59 (by decide) ?_
              refine e_nameI (fun y5 => ?_)
              refine e_istore (pc := 60) (lv' := [(5, .int y5), (0, .ref (xa X 54)), (1, .int a1), (2, .int a2), (3, .int a3), (4, .int a4)]) dX12_handful_60 (Nat.le_of_ble_eq_true rfl) rfl ?_
              refine e_iload_n (pc := 62) dX12_handful_62 3 rfl rfl ?_
              refine e_bipush (pc := 63) (v := (100 : Int32)) dX12_handful_63 bp_100 ?_
              refine e_irem (pc := 65) dX12_handful_65 (by decide) ?_
              refine e_nameI (fun y6 => ?_)
              refine e_istore (pc := 66) (lv' := [(6, .int y6), (5, .int y5), (0, .ref (xa X 54)), (1, .int a1), (2, .int a2), (3, .int a3), (4, .int a4)]) dX12_handful_66 (Nat.le_of_ble_eq_true rfl) rfl ?_
              refine e_iconst (pc := 68) (v := (0 : Int32)) dX12_handful_68 ic_0 ?_
              refine e_istore (pc := 69) (lv' := [(7, .int (0 : Int32)), (6, .int y6), (5, .int y5), (0, .ref (xa X 54)), (1, .int a1), (2, .int a2), (3, .int a3), (4, .int a4)]) dX12_handful_69 (Nat.le_of_ble_eq_true rfl) rfl ?_
              refine e_lconst (pc := 71) (v := (0 : Int64)) dX12_handful_71 lc_0 ?_
              refine e_lstore (pc := 72) (lv' := [(8, .long (0 : Int64)), (7, .int (0 : Int32)), (6, .int y6), (5, .int y5), (0, .ref (xa X 54)), (1, .int a1), (2, .int a2), (3, .int a3), (4, .int a4)]) dX12_handful_72 (Nat.le_of_ble_eq_true rfl) rfl ?_
              refine e_iconst (pc := 74) (v := (0 : Int32)) dX12_handful_74 ic_0 ?_
              refine e_istore (pc := 75) (lv' := [(10, .int (0 : Int32)), (8, .long (0 : Int64)), (7, .int (0 : Int32)), (6, .int y6), (5, .int y5), (0, .ref (xa X 54)), (1, .int a1), (2, .int a2), (3, .int a3), (4, .int a4)]) dX12_handful_75 (Nat.le_of_ble_eq_true rfl) rfl ?_
              refine e_lv [5, 6, 8, 9, 4, 3, 2, 1, 0] rfl ?_
              exact cb_X12_handful_b77 X w fu a1 a3 a4 y5 y6 (0 : Int32) (0 : Int64) (0 : Int32)
theorem cf_X12_handful (X : Xt) (a1 : Int32) (a2 : Int32) (a3 : Int32) (a4 : Int32) (w : Wd) : CF (gRL w) X m_X12_handful 3 [.ref (xa X 54), .int a1, .int a2, .int a3, .int a4] w (f_X12_handful a1 a2 a3 a4 w) := CF_of (by decide) (Nat.le_of_ble_eq_true rfl) (ce_X12_handful X a1 a2 a3 a4 w)
set_option maxRecDepth 100000 in
set_option maxHeartbeats 4000000 in
theorem cb_X12_heaps_b358 (X : Xt) (k137 : Int32 → Int32 → Int32 → Int32 → Int32 → Int32 → Int32 → Int32 → Int32 → Wd → Option (Int32 × Wd)) (hk137 : ∀ (x1 : Int32) (x2 : Int32) (x3 : Int32) (x4 : Int32) (x5 : Int32) (x6 : Int32) (x7 : Int32) (x8 : Int32) (x9 : Int32)  (w : Wd), E gWI X m_X12_heaps 5 137 [(0, .ref (xa X 54)), (1, .int x1), (2, .int x2), (3, .int x3), (4, .int x4), (5, .int x5), (6, .int x6), (7, .int x7), (8, .int x8), (9, .int x9)] [] w (k137 x1 x2 x3 x4 x5 x6 x7 x8 x9 w)) (k157 : Int32 → Int32 → Int32 → Int32 → Int32 → Int32 → Int32 → Int32 → Int32 → Int32 → Wd → Option (Int32 × Wd)) (hk157 : ∀ (x1 : Int32) (x2 : Int32) (x3 : Int32) (x4 : Int32) (x5 : Int32) (x6 : Int32) (x7 : Int32) (x8 : Int32) (x9 : Int32) (x10 : Int32)  (w : Wd), E gWI X m_X12_heaps 5 157 [(0, .ref (xa X 54)), (1, .int x1), (2, .int x2), (3, .int x3), (4, .int x4), (5, .int x5), (6, .int x6), (7, .int x7), (8, .int x8), (9, .int x9), (10, .int x10)] [] w (k157 x1 x2 x3 x4 x5 x6 x7 x8 x9 x10 w)) (k181 : Int32 → Int32 → Int32 → Int32 → Int32 → Int32 → Int32 → Int32 → Int32 → Int32 → Int32 → Wd → Option (Int32 × Wd)) (hk181 : ∀ (x1 : Int32) (x2 : Int32) (x3 : Int32) (x4 : Int32) (x5 : Int32) (x6 : Int32) (x7 : Int32) (x8 : Int32) (x9 : Int32) (x10 : Int32) (x11 : Int32)  (w : Wd), E gWI X m_X12_heaps 5 181 [(0, .ref (xa X 54)), (1, .int x1), (2, .int x2), (3, .int x3), (4, .int x4), (5, .int x5), (6, .int x6), (7, .int x7), (8, .int x8), (9, .int x9), (10, .int x10), (11, .int x11)] [] w (k181 x1 x2 x3 x4 x5 x6 x7 x8 x9 x10 x11 w)) (x1 : Int32) (x2 : Int32) (x3 : Int32) (x4 : Int32) (x5 : Int32) (x6 : Int32) (x7 : Int32) (x8 : Int32) (x9 : Int32) (x10 : Int32) (x11 : Int32) (w : Wd) : E gWI X m_X12_heaps 5 358 [(0, .ref (xa X 54)), (1, .int x1), (2, .int x2), (3, .int x3), (4, .int x4), (5, .int x5), (6, .int x6), (7, .int x7), (8, .int x8), (9, .int x9), (10, .int x10), (11, .int x11)] [] w (f_X12_heaps_b358 k137 k157 k181 x1 x2 x3 x4 x5 x6 x7 x8 x9 x10 x11 w) := by
  unfold f_X12_heaps_b358
  refine e_iinc (pc := 358) (lv' := [(11, .int (x11 + (1 : Int32))), (0, .ref (xa X 54)), (1, .int x1), (2, .int x2), (3, .int x3), (4, .int x4), (5, .int x5), (6, .int x6), (7, .int x7), (8, .int x8), (9, .int x9), (10, .int x10)]) dX12_heaps_358 11 rfl (ii_1 _) (Nat.le_of_ble_eq_true rfl) rfl ?_
  refine e_goto (pc := 361) (tgt := 181) dX12_heaps_361 (by decide) ?_
  refine e_lv [1, 2, 3, 4, 5, 6, 7, 8, 9, 10, 11, 0] rfl ?_
  exact hk181 x1 x2 x3 x4 x5 x6 x7 x8 x9 x10 (x11 + (1 : Int32)) w
set_option maxRecDepth 100000 in
set_option maxHeartbeats 4000000 in
theorem cb_X12_heaps_b338 (X : Xt) (k137 : Int32 → Int32 → Int32 → Int32 → Int32 → Int32 → Int32 → Int32 → Int32 → Wd → Option (Int32 × Wd)) (hk137 : ∀ (x1 : Int32) (x2 : Int32) (x3 : Int32) (x4 : Int32) (x5 : Int32) (x6 : Int32) (x7 : Int32) (x8 : Int32) (x9 : Int32)  (w : Wd), E gWI X m_X12_heaps 5 137 [(0, .ref (xa X 54)), (1, .int x1), (2, .int x2), (3, .int x3), (4, .int x4), (5, .int x5), (6, .int x6), (7, .int x7), (8, .int x8), (9, .int x9)] [] w (k137 x1 x2 x3 x4 x5 x6 x7 x8 x9 w)) (k157 : Int32 → Int32 → Int32 → Int32 → Int32 → Int32 → Int32 → Int32 → Int32 → Int32 → Wd → Option (Int32 × Wd)) (hk157 : ∀ (x1 : Int32) (x2 : Int32) (x3 : Int32) (x4 : Int32) (x5 : Int32) (x6 : Int32) (x7 : Int32) (x8 : Int32) (x9 : Int32) (x10 : Int32)  (w : Wd), E gWI X m_X12_heaps 5 157 [(0, .ref (xa X 54)), (1, .int x1), (2, .int x2), (3, .int x3), (4, .int x4), (5, .int x5), (6, .int x6), (7, .int x7), (8, .int x8), (9, .int x9), (10, .int x10)] [] w (k157 x1 x2 x3 x4 x5 x6 x7 x8 x9 x10 w)) (k181 : Int32 → Int32 → Int32 → Int32 → Int32 → Int32 → Int32 → Int32 → Int32 → Int32 → Int32 → Wd → Option (Int32 × Wd)) (hk181 : ∀ (x1 : Int32) (x2 : Int32) (x3 : Int32) (x4 : Int32) (x5 : Int32) (x6 : Int32) (x7 : Int32) (x8 : Int32) (x9 : Int32) (x10 : Int32) (x11 : Int32)  (w : Wd), E gWI X m_X12_heaps 5 181 [(0, .ref (xa X 54)), (1, .int x1), (2, .int x2), (3, .int x3), (4, .int x4), (5, .int x5), (6, .int x6), (7, .int x7), (8, .int x8), (9, .int x9), (10, .int x10), (11, .int x11)] [] w (k181 x1 x2 x3 x4 x5 x6 x7 x8 x9 x10 x11 w)) (x1 : Int32) (x2 : Int32) (x3 : Int32) (x9 : Int32) (x10 : Int32) (x11 : Int32) (x12 : Int32) (x13 : Int32) (w : Wd) : E gWI X m_X12_heaps 5 338 [(0, .ref (xa X 54)), (1, .int x1), (2, .int x2), (3, .int x3), (9, .int x9), (10, .int x10), (11, .int x11), (12, .int x12), (13, .int x13)] [] w (f_X12_heaps_b338 k137 k157 k181 x1 x2 x3 x9 x10 x11 x12 x13 w) := by
  unfold f_X12_heaps_b338
  refine e_iload (pc := 338) dX12_heaps_338 8 rfl ?_
  refine e_istore (pc := 340) (lv' := [(4, .int x13), (0, .ref (xa X 54)), (1, .int x1), (2, .int x2), (3, .int x3), (9, .int x9), (10, .int x10), (11, .int x11), (12, .int x12), (13, .int x13)]) dX12_heaps_340 (Nat.le_of_ble_eq_true rfl) rfl ?_
  refine e_iload (pc := 342) dX12_heaps_342 8 rfl ?_
  refine e_istore (pc := 344) (lv' := [(5, .int x12), (4, .int x13), (0, .ref (xa X 54)), (1, .int x1), (2, .int x2), (3, .int x3), (9, .int x9), (10, .int x10), (11, .int x11), (12, .int x12), (13, .int x13)]) dX12_heaps_344 (Nat.le_of_ble_eq_true rfl) rfl ?_
  refine e_iload (pc := 346) dX12_heaps_346 6 rfl ?_
  refine e_istore (pc := 348) (lv' := [(6, .int x9), (5, .int x12), (4, .int x13), (0, .ref (xa X 54)), (1, .int x1), (2, .int x2), (3, .int x3), (9, .int x9), (10, .int x10), (11, .int x11), (12, .int x12), (13, .int x13)]) dX12_heaps_348 (Nat.le_of_ble_eq_true rfl) rfl ?_
  refine e_iload (pc := 350) dX12_heaps_350 8 rfl ?_
  refine e_istore (pc := 352) (lv' := [(7, .int x10), (6, .int x9), (5, .int x12), (4, .int x13), (0, .ref (xa X 54)), (1, .int x1), (2, .int x2), (3, .int x3), (9, .int x9), (10, .int x10), (11, .int x11), (12, .int x12), (13, .int x13)]) dX12_heaps_352 (Nat.le_of_ble_eq_true rfl) rfl ?_
  refine e_iload (pc := 354) dX12_heaps_354 10 rfl ?_
  refine e_istore (pc := 356) (lv' := [(8, .int x11), (7, .int x10), (6, .int x9), (5, .int x12), (4, .int x13), (0, .ref (xa X 54)), (1, .int x1), (2, .int x2), (3, .int x3), (9, .int x9), (10, .int x10), (11, .int x11), (12, .int x12), (13, .int x13)]) dX12_heaps_356 (Nat.le_of_ble_eq_true rfl) rfl ?_
  refine e_lv [5, 6, 7, 8, 4, 3, 2, 1, 0, 9, 10, 11] rfl ?_
  exact cb_X12_heaps_b358 X k137 hk137 k157 hk157 k181 hk181 x1 x2 x3 x13 x12 x9 x10 x11 x9 x10 x11 w
set_option maxRecDepth 100000 in
set_option maxHeartbeats 4000000 in
theorem cb_X12_heaps_b304 (X : Xt) (k137 : Int32 → Int32 → Int32 → Int32 → Int32 → Int32 → Int32 → Int32 → Int32 → Wd → Option (Int32 × Wd)) (hk137 : ∀ (x1 : Int32) (x2 : Int32) (x3 : Int32) (x4 : Int32) (x5 : Int32) (x6 : Int32) (x7 : Int32) (x8 : Int32) (x9 : Int32)  (w : Wd), E gWI X m_X12_heaps 5 137 [(0, .ref (xa X 54)), (1, .int x1), (2, .int x2), (3, .int x3), (4, .int x4), (5, .int x5), (6, .int x6), (7, .int x7), (8, .int x8), (9, .int x9)] [] w (k137 x1 x2 x3 x4 x5 x6 x7 x8 x9 w)) (k157 : Int32 → Int32 → Int32 → Int32 → Int32 → Int32 → Int32 → Int32 → Int32 → Int32 → Wd → Option (Int32 × Wd)) (hk157 : ∀ (x1 : Int32) (x2 : Int32) (x3 : Int32) (x4 : Int32) (x5 : Int32) (x6 : Int32) (x7 : Int32) (x8 : Int32) (x9 : Int32) (x10 : Int32)  (w : Wd), E gWI X m_X12_heaps 5 157 [(0, .ref (xa X 54)), (1, .int x1), (2, .int x2), (3, .int x3), (4, .int x4), (5, .int x5), (6, .int x6), (7, .int x7), (8, .int x8), (9, .int x9), (10, .int x10)] [] w (k157 x1 x2 x3 x4 x5 x6 x7 x8 x9 x10 w)) (k181 : Int32 → Int32 → Int32 → Int32 → Int32 → Int32 → Int32 → Int32 → Int32 → Int32 → Int32 → Wd → Option (Int32 × Wd)) (hk181 : ∀ (x1 : Int32) (x2 : Int32) (x3 : Int32) (x4 : Int32) (x5 : Int32) (x6 : Int32) (x7 : Int32) (x8 : Int32) (x9 : Int32) (x10 : Int32) (x11 : Int32)  (w : Wd), E gWI X m_X12_heaps 5 181 [(0, .ref (xa X 54)), (1, .int x1), (2, .int x2), (3, .int x3), (4, .int x4), (5, .int x5), (6, .int x6), (7, .int x7), (8, .int x8), (9, .int x9), (10, .int x10), (11, .int x11)] [] w (k181 x1 x2 x3 x4 x5 x6 x7 x8 x9 x10 x11 w)) (x1 : Int32) (x2 : Int32) (x3 : Int32) (x4 : Int32) (x5 : Int32) (x6 : Int32) (x7 : Int32) (x8 : Int32) (x9 : Int32) (x10 : Int32) (x11 : Int32) (x12 : Int32) (s0 : Int32) (s1 : Int32) (s2 : Int32) (w : Wd) : E gWI X m_X12_heaps 5 304 [(0, .ref (xa X 54)), (1, .int x1), (2, .int x2), (3, .int x3), (4, .int x4), (5, .int x5), (6, .int x6), (7, .int x7), (8, .int x8), (9, .int x9), (10, .int x10), (11, .int x11), (12, .int x12)] [.int s0, .int s1, .int s2] w (f_X12_heaps_b304 k137 k157 k181 x1 x2 x3 x4 x5 x6 x7 x8 x9 x10 x11 x12 s0 s1 s2 w) := by
  unfold f_X12_heaps_b304
  refine e_imul (pc := 304) dX12_heaps_304 ?_
  refine e_iadd (pc := 305) dX12_heaps_305 ?_
  refine e_nameI (fun y11 => ?_)
  refine e_istore (pc := 306) (lv' := [(13, .int y11), (0, .ref (xa X 54)), (1, .int x1), (2, .int x2), (3, .int x3), (4, .int x4), (5, .int x5), (6, .int x6), (7, .int x7), (8, .int x8), (9, .int x9), (10, .int x10), (11, .int x11), (12, .int x12)]) dX12_heaps_306 (Nat.le_of_ble_eq_true rfl) rfl ?_
  refine e_iload (pc := 308) dX12_heaps_308 13 rfl ?_
  refine e_iload_n (pc := 310) dX12_heaps_310 3 rfl rfl ?_
  refine e_icmp_gt (pc := 311) (tgt := 358) dX12_heaps_311 (by decide) (fun _ => ?_) (fun _ => ?_)
  · refine e_lv [1, 2, 3, 4, 5, 6, 7, 8, 9, 10, 11, 12] rfl ?_
    exact cb_X12_heaps_b358 X k137 hk137 k157 hk157 k181 hk181 x1 x2 x3 x4 x5 x6 x7 x8 x9 x10 x11 w
  · refine e_iload (pc := 314) dX12_heaps_314 0 rfl ?_
    refine e_iload (pc := 316) dX12_heaps_316 5 rfl ?_
    refine e_icmp_lt (pc := 318) (tgt := 358) dX12_heaps_318 (by decide) (fun _ => ?_) (fun _ => ?_)
    · refine e_lv [1, 2, 3, 4, 5, 6, 7, 8, 9, 10, 11, 12] rfl ?_
      exact cb_X12_heaps_b358 X k137 hk137 k157 hk157 k181 hk181 x1 x2 x3 x4 x5 x6 x7 x8 x9 x10 x11 w
    · refine e_iload (pc := 321) dX12_heaps_321 0 rfl ?_
      refine e_iload (pc := 323) dX12_heaps_323 5 rfl ?_
      refine e_icmp_ne (pc := 325) (tgt := 338) dX12_heaps_325 (by decide) (fun _ => ?_) (fun _ => ?_)
      · refine e_iload (pc := 328) dX12_heaps_328 13 rfl ?_
        refine e_iload (pc := 330) dX12_heaps_330 6 rfl ?_
        refine e_icmp_lt (pc := 332) (tgt := 338) dX12_heaps_332 (by decide) (fun _ => ?_) (fun _ => ?_)
        · refine e_lv [1, 2, 3, 4, 10, 11, 12, 13, 0] rfl ?_
          exact cb_X12_heaps_b338 X k137 hk137 k157 hk157 k181 hk181 x1 x2 x3 x9 x10 x11 x12 y11 w
        · refine e_goto (pc := 335) (tgt := 358) dX12_heaps_335 (by decide) ?_
          refine e_lv [1, 2, 3, 4, 5, 6, 7, 8, 9, 10, 11, 12] rfl ?_
          exact cb_X12_heaps_b358 X k137 hk137 k157 hk157 k181 hk181 x1 x2 x3 x4 x5 x6 x7 x8 x9 x10 x11 w
      · refine e_lv [1, 2, 3, 4, 10, 11, 12, 13, 0] rfl ?_
        exact cb_X12_heaps_b338 X k137 hk137 k157 hk157 k181 hk181 x1 x2 x3 x9 x10 x11 x12 y11 w
set_option maxRecDepth 100000 in
set_option maxHeartbeats 4000000 in
theorem cb_X12_heaps_b279 (X : Xt) (k137 : Int32 → Int32 → Int32 → Int32 → Int32 → Int32 → Int32 → Int32 → Int32 → Wd → Option (Int32 × Wd)) (hk137 : ∀ (x1 : Int32) (x2 : Int32) (x3 : Int32) (x4 : Int32) (x5 : Int32) (x6 : Int32) (x7 : Int32) (x8 : Int32) (x9 : Int32)  (w : Wd), E gWI X m_X12_heaps 5 137 [(0, .ref (xa X 54)), (1, .int x1), (2, .int x2), (3, .int x3), (4, .int x4), (5, .int x5), (6, .int x6), (7, .int x7), (8, .int x8), (9, .int x9)] [] w (k137 x1 x2 x3 x4 x5 x6 x7 x8 x9 w)) (k157 : Int32 → Int32 → Int32 → Int32 → Int32 → Int32 → Int32 → Int32 → Int32 → Int32 → Wd → Option (Int32 × Wd)) (hk157 : ∀ (x1 : Int32) (x2 : Int32) (x3 : Int32) (x4 : Int32) (x5 : Int32) (x6 : Int32) (x7 : Int32) (x8 : Int32) (x9 : Int32) (x10 : Int32)  (w : Wd), E gWI X m_X12_heaps 5 157 [(0, .ref (xa X 54)), (1, .int x1), (2, .int x2), (3, .int x3), (4, .int x4), (5, .int x5), (6, .int x6), (7, .int x7), (8, .int x8), (9, .int x9), (10, .int x10)] [] w (k157 x1 x2 x3 x4 x5 x6 x7 x8 x9 x10 w)) (k181 : Int32 → Int32 → Int32 → Int32 → Int32 → Int32 → Int32 → Int32 → Int32 → Int32 → Int32 → Wd → Option (Int32 × Wd)) (hk181 : ∀ (x1 : Int32) (x2 : Int32) (x3 : Int32) (x4 : Int32) (x5 : Int32) (x6 : Int32) (x7 : Int32) (x8 : Int32) (x9 : Int32) (x10 : Int32) (x11 : Int32)  (w : Wd), E gWI X m_X12_heaps 5 181 [(0, .ref (xa X 54)), (1, .int x1), (2, .int x2), (3, .int x3), (4, .int x4), (5, .int x5), (6, .int x6), (7, .int x7), (8, .int x8), (9, .int x9), (10, .int x10), (11, .int x11)] [] w (k181 x1 x2 x3 x4 x5 x6 x7 x8 x9 x10 x11 w)) (x1 : Int32) (x2 : Int32) (x3 : Int32) (x4 : Int32) (x5 : Int32) (x6 : Int32) (x7 : Int32) (x8 : Int32) (x9 : Int32) (x10 : Int32) (x11 : Int32) (x12 : Int32) (s0 : Int32) (s1 : Int32) (s2 : Int32) (w : Wd) : E gWI X m_X12_heaps 5 279 [(0, .ref (xa X 54)), (1, .int x1), (2, .int x2), (3, .int x3), (4, .int x4), (5, .int x5), (6, .int x6), (7, .int x7), (8, .int x8), (9, .int x9), (10, .int x10), (11, .int x11), (12, .int x12)] [.int s0, .int s1, .int s2] w (f_X12_heaps_b279 k137 k157 k181 x1 x2 x3 x4 x5 x6 x7 x8 x9 x10 x11 x12 s0 s1 s2 w) := by
  unfold f_X12_heaps_b279
  refine e_imul (pc := 279) dX12_heaps_279 ?_
  refine e_iadd (pc := 280) dX12_heaps_280 ?_
  refine e_aload_n (pc := 281) dX12_heaps_281 0 rfl rfl ?_
  refine g_R (pc := 282) (cl' := 73) kk54 fl_X12_82 rfl dX12_heaps_282 ?_
  refine e_bipush (pc := 285) (v := (82 : Int32)) dX12_heaps_285 bp_82 ?_
  refine e_iload (pc := 287) dX12_heaps_287 11 rfl ?_
  refine e_iadd (pc := 289) dX12_heaps_289 ?_
  refine e_iald (pc := 290) kk73 dX12_heaps_290 (fun v10 => ?_)
  refine e_aload_n (pc := 291) dX12_heaps_291 0 rfl rfl ?_
  refine g_I (pc := 292) kk54 fl_X12_128 dX12_heaps_292 ?_
  refine e_iconst (pc := 295) (v := (2 : Int32)) dX12_heaps_295 ic_2 ?_
  refine e_icmp_le (pc := 296) (tgt := 303) dX12_heaps_296 (by decide) (fun _ => ?_) (fun _ => ?_)
  · refine e_iconst (pc := 303) (v := (0 : Int32)) dX12_heaps_303 ic_0 ?_
    refine e_lv [0, 1, 2, 3, 4, 5, 6, 7, 8, 9, 10, 11, 12] rfl ?_
    exact cb_X12_heaps_b304 X k137 hk137 k157 hk157 k181 hk181 x1 x2 x3 x4 x5 x6 x7 x8 x9 x10 x11 x12 (0 : Int32) v10 (s2 + (s1 * s0)) w
  · refine e_iconst (pc := 299) (v := (1 : Int32)) dX12_heaps_299 ic_1 ?_
    refine e_goto (pc := 300) (tgt := 304) dX12_heaps_300 (by decide) ?_
    refine e_lv [0, 1, 2, 3, 4, 5, 6, 7, 8, 9, 10, 11, 12] rfl ?_
    exact cb_X12_heaps_b304 X k137 hk137 k157 hk157 k181 hk181 x1 x2 x3 x4 x5 x6 x7 x8 x9 x10 x11 x12 (1 : Int32) v10 (s2 + (s1 * s0)) w
set_option maxRecDepth 100000 in
set_option maxHeartbeats 4000000 in
theorem cb_X12_heaps_b255 (X : Xt) (k137 : Int32 → Int32 → Int32 → Int32 → Int32 → Int32 → Int32 → Int32 → Int32 → Wd → Option (Int32 × Wd)) (hk137 : ∀ (x1 : Int32) (x2 : Int32) (x3 : Int32) (x4 : Int32) (x5 : Int32) (x6 : Int32) (x7 : Int32) (x8 : Int32) (x9 : Int32)  (w : Wd), E gWI X m_X12_heaps 5 137 [(0, .ref (xa X 54)), (1, .int x1), (2, .int x2), (3, .int x3), (4, .int x4), (5, .int x5), (6, .int x6), (7, .int x7), (8, .int x8), (9, .int x9)] [] w (k137 x1 x2 x3 x4 x5 x6 x7 x8 x9 w)) (k157 : Int32 → Int32 → Int32 → Int32 → Int32 → Int32 → Int32 → Int32 → Int32 → Int32 → Wd → Option (Int32 × Wd)) (hk157 : ∀ (x1 : Int32) (x2 : Int32) (x3 : Int32) (x4 : Int32) (x5 : Int32) (x6 : Int32) (x7 : Int32) (x8 : Int32) (x9 : Int32) (x10 : Int32)  (w : Wd), E gWI X m_X12_heaps 5 157 [(0, .ref (xa X 54)), (1, .int x1), (2, .int x2), (3, .int x3), (4, .int x4), (5, .int x5), (6, .int x6), (7, .int x7), (8, .int x8), (9, .int x9), (10, .int x10)] [] w (k157 x1 x2 x3 x4 x5 x6 x7 x8 x9 x10 w)) (k181 : Int32 → Int32 → Int32 → Int32 → Int32 → Int32 → Int32 → Int32 → Int32 → Int32 → Int32 → Wd → Option (Int32 × Wd)) (hk181 : ∀ (x1 : Int32) (x2 : Int32) (x3 : Int32) (x4 : Int32) (x5 : Int32) (x6 : Int32) (x7 : Int32) (x8 : Int32) (x9 : Int32) (x10 : Int32) (x11 : Int32)  (w : Wd), E gWI X m_X12_heaps 5 181 [(0, .ref (xa X 54)), (1, .int x1), (2, .int x2), (3, .int x3), (4, .int x4), (5, .int x5), (6, .int x6), (7, .int x7), (8, .int x8), (9, .int x9), (10, .int x10), (11, .int x11)] [] w (k181 x1 x2 x3 x4 x5 x6 x7 x8 x9 x10 x11 w)) (x1 : Int32) (x2 : Int32) (x3 : Int32) (x4 : Int32) (x5 : Int32) (x6 : Int32) (x7 : Int32) (x8 : Int32) (x9 : Int32) (x10 : Int32) (x11 : Int32) (x12 : Int32) (s0 : Int32) (s1 : Int32) (w : Wd) : E gWI X m_X12_heaps 5 255 [(0, .ref (xa X 54)), (1, .int x1), (2, .int x2), (3, .int x3), (4, .int x4), (5, .int x5), (6, .int x6), (7, .int x7), (8, .int x8), (9, .int x9), (10, .int x10), (11, .int x11), (12, .int x12)] [.int s0, .int s1] w (f_X12_heaps_b255 k137 k157 k181 x1 x2 x3 x4 x5 x6 x7 x8 x9 x10 x11 x12 s0 s1 w) := by
  unfold f_X12_heaps_b255
  refine e_imul (pc := 255) dX12_heaps_255 ?_
  refine e_aload_n (pc := 256) dX12_heaps_256 0 rfl rfl ?_
  refine g_R (pc := 257) (cl' := 73) kk54 fl_X12_82 rfl dX12_heaps_257 ?_
  refine e_bipush (pc := 260) (v := (41 : Int32)) dX12_heaps_260 bp_41 ?_
  refine e_iload (pc := 262) dX12_heaps_262 10 rfl ?_
  refine e_iadd (pc := 264) dX12_heaps_264 ?_
  refine e_iald (pc := 265) kk73 dX12_heaps_265 (fun v9 => ?_)
  refine e_aload_n (pc := 266) dX12_heaps_266 0 rfl rfl ?_
  refine g_I (pc := 267) kk54 fl_X12_128 dX12_heaps_267 ?_
  refine e_iconst (pc := 270) (v := (1 : Int32)) dX12_heaps_270 ic_1 ?_
  refine e_icmp_le (pc := 271) (tgt := 278) dX12_heaps_271 (by decide) (fun _ => ?_) (fun _ => ?_)
  · refine e_iconst (pc := 278) (v := (0 : Int32)) dX12_heaps_278 ic_0 ?_
    refine e_lv [0, 1, 2, 3, 4, 5, 6, 7, 8, 9, 10, 11, 12] rfl ?_
    exact cb_X12_heaps_b279 X k137 hk137 k157 hk157 k181 hk181 x1 x2 x3 x4 x5 x6 x7 x8 x9 x10 x11 x12 (0 : Int32) v9 (s1 * s0) w
  · refine e_iconst (pc := 274) (v := (1 : Int32)) dX12_heaps_274 ic_1 ?_
    refine e_goto (pc := 275) (tgt := 279) dX12_heaps_275 (by decide) ?_
    refine e_lv [0, 1, 2, 3, 4, 5, 6, 7, 8, 9, 10, 11, 12] rfl ?_
    exact cb_X12_heaps_b279 X k137 hk137 k157 hk157 k181 hk181 x1 x2 x3 x4 x5 x6 x7 x8 x9 x10 x11 x12 (1 : Int32) v9 (s1 * s0) w
set_option maxRecDepth 100000 in
set_option maxHeartbeats 4000000 in
theorem cb_X12_heaps_b202 (X : Xt) (k137 : Int32 → Int32 → Int32 → Int32 → Int32 → Int32 → Int32 → Int32 → Int32 → Wd → Option (Int32 × Wd)) (hk137 : ∀ (x1 : Int32) (x2 : Int32) (x3 : Int32) (x4 : Int32) (x5 : Int32) (x6 : Int32) (x7 : Int32) (x8 : Int32) (x9 : Int32)  (w : Wd), E gWI X m_X12_heaps 5 137 [(0, .ref (xa X 54)), (1, .int x1), (2, .int x2), (3, .int x3), (4, .int x4), (5, .int x5), (6, .int x6), (7, .int x7), (8, .int x8), (9, .int x9)] [] w (k137 x1 x2 x3 x4 x5 x6 x7 x8 x9 w)) (k157 : Int32 → Int32 → Int32 → Int32 → Int32 → Int32 → Int32 → Int32 → Int32 → Int32 → Wd → Option (Int32 × Wd)) (hk157 : ∀ (x1 : Int32) (x2 : Int32) (x3 : Int32) (x4 : Int32) (x5 : Int32) (x6 : Int32) (x7 : Int32) (x8 : Int32) (x9 : Int32) (x10 : Int32)  (w : Wd), E gWI X m_X12_heaps 5 157 [(0, .ref (xa X 54)), (1, .int x1), (2, .int x2), (3, .int x3), (4, .int x4), (5, .int x5), (6, .int x6), (7, .int x7), (8, .int x8), (9, .int x9), (10, .int x10)] [] w (k157 x1 x2 x3 x4 x5 x6 x7 x8 x9 x10 w)) (k181 : Int32 → Int32 → Int32 → Int32 → Int32 → Int32 → Int32 → Int32 → Int32 → Int32 → Int32 → Wd → Option (Int32 × Wd)) (hk181 : ∀ (x1 : Int32) (x2 : Int32) (x3 : Int32) (x4 : Int32) (x5 : Int32) (x6 : Int32) (x7 : Int32) (x8 : Int32) (x9 : Int32) (x10 : Int32) (x11 : Int32)  (w : Wd), E gWI X m_X12_heaps 5 181 [(0, .ref (xa X 54)), (1, .int x1), (2, .int x2), (3, .int x3), (4, .int x4), (5, .int x5), (6, .int x6), (7, .int x7), (8, .int x8), (9, .int x9), (10, .int x10), (11, .int x11)] [] w (k181 x1 x2 x3 x4 x5 x6 x7 x8 x9 x10 x11 w)) (x1 : Int32) (x2 : Int32) (x3 : Int32) (x4 : Int32) (x5 : Int32) (x6 : Int32) (x7 : Int32) (x8 : Int32) (x9 : Int32) (x10 : Int32) (x11 : Int32) (s0 : Int32) (s1 : Int32) (w : Wd) : E gWI X m_X12_heaps 5 202 [(0, .ref (xa X 54)), (1, .int x1), (2, .int x2), (3, .int x3), (4, .int x4), (5, .int x5), (6, .int x6), (7, .int x7), (8, .int x8), (9, .int x9), (10, .int x10), (11, .int x11)] [.int s0, .int s1] w (f_X12_heaps_b202 k137 k157 k181 x1 x2 x3 x4 x5 x6 x7 x8 x9 x10 x11 s0 s1 w) := by
  unfold f_X12_heaps_b202
  refine e_icmp_gt (pc := 202) (tgt := 364) dX12_heaps_202 (by decide) (fun _ => ?_) (fun _ => ?_)
  · refine e_iinc (pc := 364) (lv' := [(10, .int (x10 + (1 : Int32))), (0, .ref (xa X 54)), (1, .int x1), (2, .int x2), (3, .int x3), (4, .int x4), (5, .int x5), (6, .int x6), (7, .int x7), (8, .int x8), (9, .int x9), (11, .int x11)]) dX12_heaps_364 10 rfl (ii_1 _) (Nat.le_of_ble_eq_true rfl) rfl ?_
    refine e_goto (pc := 367) (tgt := 157) dX12_heaps_367 (by decide) ?_
    refine e_lv [1, 2, 3, 4, 5, 6, 7, 8, 9, 10, 0] rfl ?_
    exact hk157 x1 x2 x3 x4 x5 x6 x7 x8 x9 (x10 + (1 : Int32)) w
  · refine e_aload_n (pc := 205) dX12_heaps_205 0 rfl rfl ?_
    refine g_R (pc := 206) (cl' := 58) kk54 fl_X12_21 rfl dX12_heaps_206 ?_
    refine e_iconst (pc := 209) (v := (0 : Int32)) dX12_heaps_209 ic_0 ?_
    refine e_iald (pc := 210) kk58 dX12_heaps_210 (fun v4 => ?_)
    refine e_iload (pc := 211) dX12_heaps_211 9 rfl ?_
    refine e_imul (pc := 213) dX12_heaps_213 ?_
    refine e_aload_n (pc := 214) dX12_heaps_214 0 rfl rfl ?_
    refine g_R (pc := 215) (cl' := 58) kk54 fl_X12_21 rfl dX12_heaps_215 ?_
    refine e_iconst (pc := 218) (v := (1 : Int32)) dX12_heaps_218 ic_1 ?_
    refine e_iald (pc := 219) kk58 dX12_heaps_219 (fun v5 => ?_)
    refine e_iload (pc := 220) dX12_heaps_220 10 rfl ?_
    refine e_imul (pc := 222) dX12_heaps_222 ?_
    refine e_iadd (pc := 223) dX12_heaps_223 ?_
    refine e_aload_n (pc := 224) dX12_heaps_224 0 rfl rfl ?_
    refine g_R (pc := 225) (cl' := 58) kk54 fl_X12_21 rfl dX12_heaps_225 ?_
    refine e_iconst (pc := 228) (v := (2 : Int32)) dX12_heaps_228 ic_2 ?_
    refine e_iald (pc := 229) kk58 dX12_heaps_229 (fun v6 => ?_)
    refine e_iload (pc := 230) dX12_heaps_230 11 rfl ?_
    refine e_imul (pc := 232) dX12_heaps_232 ?_
    refine e_iadd (pc := 233) dX12_heaps_233 ?_
    refine e_nameI (fun y7 => ?_)
    refine e_istore (pc := 234) (lv' := [(12, .int y7), (0, .ref (xa X 54)), (1, .int x1), (2, .int x2), (3, .int x3), (4, .int x4), (5, .int x5), (6, .int x6), (7, .int x7), (8, .int x8), (9, .int x9), (10, .int x10), (11, .int x11)]) dX12_heaps_234 (Nat.le_of_ble_eq_true rfl) rfl ?_
    refine e_aload_n (pc := 236) dX12_heaps_236 1 rfl rfl ?_
    refine g_R (pc := 237) (cl' := 73) kk54 fl_X12_82 rfl dX12_heaps_237 ?_
    refine e_iload (pc := 240) dX12_heaps_240 10 rfl ?_
    refine e_iald (pc := 242) kk73 dX12_heaps_242 (fun v8 => ?_)
    refine e_aload_n (pc := 243) dX12_heaps_243 1 rfl rfl ?_
    refine g_I (pc := 244) kk54 fl_X12_128 dX12_heaps_244 ?_
    refine e_if_le (pc := 247) (tgt := 254) dX12_heaps_247 (by decide) (fun _ => ?_) (fun _ => ?_)
    · refine e_iconst (pc := 254) (v := (0 : Int32)) dX12_heaps_254 ic_0 ?_
      refine e_lv [1, 2, 3, 4, 5, 6, 7, 8, 9, 10, 11, 12, 0] rfl ?_
      exact cb_X12_heaps_b255 X k137 hk137 k157 hk157 k181 hk181 x1 x2 x3 x4 x5 x6 x7 x8 x9 x10 x11 y7 (0 : Int32) v8 w
    · refine e_iconst (pc := 250) (v := (1 : Int32)) dX12_heaps_250 ic_1 ?_
      refine e_goto (pc := 251) (tgt := 255) dX12_heaps_251 (by decide) ?_
      refine e_lv [1, 2, 3, 4, 5, 6, 7, 8, 9, 10, 11, 12, 0] rfl ?_
      exact cb_X12_heaps_b255 X k137 hk137 k157 hk157 k181 hk181 x1 x2 x3 x4 x5 x6 x7 x8 x9 x10 x11 y7 (1 : Int32) v8 w
set_option maxRecDepth 100000 in
set_option maxHeartbeats 4000000 in
theorem cb_X12_heaps_b181_y (X : Xt) (k137 : Int32 → Int32 → Int32 → Int32 → Int32 → Int32 → Int32 → Int32 → Int32 → Wd → Option (Int32 × Wd)) (hk137 : ∀ (x1 : Int32) (x2 : Int32) (x3 : Int32) (x4 : Int32) (x5 : Int32) (x6 : Int32) (x7 : Int32) (x8 : Int32) (x9 : Int32)  (w : Wd), E gWI X m_X12_heaps 5 137 [(0, .ref (xa X 54)), (1, .int x1), (2, .int x2), (3, .int x3), (4, .int x4), (5, .int x5), (6, .int x6), (7, .int x7), (8, .int x8), (9, .int x9)] [] w (k137 x1 x2 x3 x4 x5 x6 x7 x8 x9 w)) (k157 : Int32 → Int32 → Int32 → Int32 → Int32 → Int32 → Int32 → Int32 → Int32 → Int32 → Wd → Option (Int32 × Wd)) (hk157 : ∀ (x1 : Int32) (x2 : Int32) (x3 : Int32) (x4 : Int32) (x5 : Int32) (x6 : Int32) (x7 : Int32) (x8 : Int32) (x9 : Int32) (x10 : Int32)  (w : Wd), E gWI X m_X12_heaps 5 157 [(0, .ref (xa X 54)), (1, .int x1), (2, .int x2), (3, .int x3), (4, .int x4), (5, .int x5), (6, .int x6), (7, .int x7), (8, .int x8), (9, .int x9), (10, .int x10)] [] w (k157 x1 x2 x3 x4 x5 x6 x7 x8 x9 x10 w)) (k181 : Int32 → Int32 → Int32 → Int32 → Int32 → Int32 → Int32 → Int32 → Int32 → Int32 → Int32 → Wd → Option (Int32 × Wd)) (hk181 : ∀ (x1 : Int32) (x2 : Int32) (x3 : Int32) (x4 : Int32) (x5 : Int32) (x6 : Int32) (x7 : Int32) (x8 : Int32) (x9 : Int32) (x10 : Int32) (x11 : Int32)  (w : Wd), E gWI X m_X12_heaps 5 181 [(0, .ref (xa X 54)), (1, .int x1), (2, .int x2), (3, .int x3), (4, .int x4), (5, .int x5), (6, .int x6), (7, .int x7), (8, .int x8), (9, .int x9), (10, .int x10), (11, .int x11)] [] w (k181 x1 x2 x3 x4 x5 x6 x7 x8 x9 x10 x11 w)) (x1 : Int32) (x2 : Int32) (x3 : Int32) (x4 : Int32) (x5 : Int32) (x6 : Int32) (x7 : Int32) (x8 : Int32) (x9 : Int32) (x10 : Int32) (x11 : Int32) (w : Wd) : E gWI X m_X12_heaps 5 181 [(0, .ref (xa X 54)), (1, .int x1), (2, .int x2), (3, .int x3), (4, .int x4), (5, .int x5), (6, .int x6), (7, .int x7), (8, .int x8), (9, .int x9), (10, .int x10), (11, .int x11)] [] w (f_X12_heaps_b181_y k137 k157 k181 x1 x2 x3 x4 x5 x6 x7 x8 x9 x10 x11 w) := by
  unfold f_X12_heaps_b181_y
  refine e_iload (pc := 181) dX12_heaps_181 11 rfl ?_
  refine e_aload_n (pc := 183) dX12_heaps_183 0 rfl rfl ?_
  refine g_I (pc := 184) kk54 fl_X12_128 dX12_heaps_184 ?_
  refine e_iconst (pc := 187) (v := (2 : Int32)) dX12_heaps_187 ic_2 ?_
  refine e_icmp_le (pc := 188) (tgt := 201) dX12_heaps_188 (by decide) (fun _ => ?_) (fun _ => ?_)
  · refine e_iconst (pc := 201) (v := (0 : Int32)) dX12_heaps_201 ic_0 ?_
    refine e_lv [0, 1, 2, 3, 4, 5, 6, 7, 8, 9, 10, 11] rfl ?_
    exact cb_X12_heaps_b202 X k137 hk137 k157 hk157 k181 hk181 x1 x2 x3 x4 x5 x6 x7 x8 x9 x10 x11 (0 : Int32) x11 w
  · refine e_iload_n (pc := 191) dX12_heaps_191 1 rfl rfl ?_
    refine e_iload (pc := 192) dX12_heaps_192 9 rfl ?_
    refine e_isub (pc := 194) dX12_heaps_194 ?_
    refine e_iload (pc := 195) dX12_heaps_195 10 rfl ?_
    refine e_isub (pc := 197) dX12_heaps_197 ?_
    refine e_goto (pc := 198) (tgt := 202) dX12_heaps_198 (by decide) ?_
    refine e_lv [0, 1, 2, 3, 4, 5, 6, 7, 8, 9, 10, 11] rfl ?_
    exact cb_X12_heaps_b202 X k137 hk137 k157 hk157 k181 hk181 x1 x2 x3 x4 x5 x6 x7 x8 x9 x10 x11 ((x1 - x9) - x10) x11 w
theorem cb_X12_heaps_b181 (X : Xt) (k137 : Int32 → Int32 → Int32 → Int32 → Int32 → Int32 → Int32 → Int32 → Int32 → Wd → Option (Int32 × Wd)) (hk137 : ∀ (x1 : Int32) (x2 : Int32) (x3 : Int32) (x4 : Int32) (x5 : Int32) (x6 : Int32) (x7 : Int32) (x8 : Int32) (x9 : Int32)  (w : Wd), E gWI X m_X12_heaps 5 137 [(0, .ref (xa X 54)), (1, .int x1), (2, .int x2), (3, .int x3), (4, .int x4), (5, .int x5), (6, .int x6), (7, .int x7), (8, .int x8), (9, .int x9)] [] w (k137 x1 x2 x3 x4 x5 x6 x7 x8 x9 w)) (k157 : Int32 → Int32 → Int32 → Int32 → Int32 → Int32 → Int32 → Int32 → Int32 → Int32 → Wd → Option (Int32 × Wd)) (hk157 : ∀ (x1 : Int32) (x2 : Int32) (x3 : Int32) (x4 : Int32) (x5 : Int32) (x6 : Int32) (x7 : Int32) (x8 : Int32) (x9 : Int32) (x10 : Int32)  (w : Wd), E gWI X m_X12_heaps 5 157 [(0, .ref (xa X 54)), (1, .int x1), (2, .int x2), (3, .int x3), (4, .int x4), (5, .int x5), (6, .int x6), (7, .int x7), (8, .int x8), (9, .int x9), (10, .int x10)] [] w (k157 x1 x2 x3 x4 x5 x6 x7 x8 x9 x10 w)) : ∀ (n : Nat) (x1 : Int32) (x2 : Int32) (x3 : Int32) (x4 : Int32) (x5 : Int32) (x6 : Int32) (x7 : Int32) (x8 : Int32) (x9 : Int32) (x10 : Int32) (x11 : Int32) (w : Wd), E gWI X m_X12_heaps 5 181 [(0, .ref (xa X 54)), (1, .int x1), (2, .int x2), (3, .int x3), (4, .int x4), (5, .int x5), (6, .int x6), (7, .int x7), (8, .int x8), (9, .int x9), (10, .int x10), (11, .int x11)] [] w (f_X12_heaps_b181 k137 k157 n x1 x2 x3 x4 x5 x6 x7 x8 x9 x10 x11 w) := by
  intro n
  induction n with
  | zero =>
    intro x1 x2 x3 x4 x5 x6 x7 x8 x9 x10 x11 w
    exact E_none
  | succ n ih =>
    intro x1 x2 x3 x4 x5 x6 x7 x8 x9 x10 x11 w
    exact cb_X12_heaps_b181_y X k137 hk137 k157 hk157 _ ih x1 x2 x3 x4 x5 x6 x7 x8 x9 x10 x11 w
set_option maxRecDepth 100000 in
set_option maxHeartbeats 4000000 in
theorem cb_X12_heaps_b175 (X : Xt) (k137 : Int32 → Int32 → Int32 → Int32 → Int32 → Int32 → Int32 → Int32 → Int32 → Wd → Option (Int32 × Wd)) (hk137 : ∀ (x1 : Int32) (x2 : Int32) (x3 : Int32) (x4 : Int32) (x5 : Int32) (x6 : Int32) (x7 : Int32) (x8 : Int32) (x9 : Int32)  (w : Wd), E gWI X m_X12_heaps 5 137 [(0, .ref (xa X 54)), (1, .int x1), (2, .int x2), (3, .int x3), (4, .int x4), (5, .int x5), (6, .int x6), (7, .int x7), (8, .int x8), (9, .int x9)] [] w (k137 x1 x2 x3 x4 x5 x6 x7 x8 x9 w)) (k157 : Int32 → Int32 → Int32 → Int32 → Int32 → Int32 → Int32 → Int32 → Int32 → Int32 → Wd → Option (Int32 × Wd)) (hk157 : ∀ (x1 : Int32) (x2 : Int32) (x3 : Int32) (x4 : Int32) (x5 : Int32) (x6 : Int32) (x7 : Int32) (x8 : Int32) (x9 : Int32) (x10 : Int32)  (w : Wd), E gWI X m_X12_heaps 5 157 [(0, .ref (xa X 54)), (1, .int x1), (2, .int x2), (3, .int x3), (4, .int x4), (5, .int x5), (6, .int x6), (7, .int x7), (8, .int x8), (9, .int x9), (10, .int x10)] [] w (k157 x1 x2 x3 x4 x5 x6 x7 x8 x9 x10 w)) (x1 : Int32) (x2 : Int32) (x3 : Int32) (x4 : Int32) (x5 : Int32) (x6 : Int32) (x7 : Int32) (x8 : Int32) (x9 : Int32) (x10 : Int32) (s0 : Int32) (s1 : Int32) (w : Wd) : E gWI X m_X12_heaps 5 175 [(0, .ref (xa X 54)), (1, .int x1), (2, .int x2), (3, .int x3), (4, .int x4), (5, .int x5), (6, .int x6), (7, .int x7), (8, .int x8), (9, .int x9), (10, .int x10)] [.int s0, .int s1] w (f_X12_heaps_b175 k137 k157 x1 x2 x3 x4 x5 x6 x7 x8 x9 x10 s0 s1 w) := by
  unfold f_X12_heaps_b175
  refine e_icmp_gt (pc := 175) (tgt := 370) dX12_heaps_175 (by decide) (fun _ => ?_) (fun _ => ?_)
  · refine e_iinc (pc := 370) (lv' := [(9, .int (x9 + (1 : Int32))), (0, .ref (xa X 54)), (1, .int x1), (2, .int x2), (3, .int x3), (4, .int x4), (5, .int x5), (6, .int x6), (7, .int x7), (8, .int x8), (10, .int x10)]) dX12_heaps_370 9 rfl (ii_1 _) (Nat.le_of_ble_eq_true rfl) rfl ?_
    refine e_goto (pc := 373) (tgt := 137) dX12_heaps_373 (by decide) ?_
    refine e_lv [1, 2, 3, 4, 5, 6, 7, 8, 9, 0] rfl ?_
    exact hk137 x1 x2 x3 x4 x5 x6 x7 x8 (x9 + (1 : Int32)) w
  · refine e_iconst (pc := 178) (v := (0 : Int32)) dX12_heaps_178 ic_0 ?_
    refine e_istore (pc := 179) (lv' := [(11, .int (0 : Int32)), (0, .ref (xa X 54)), (1, .int x1), (2, .int x2), (3, .int x3), (4, .int x4), (5, .int x5), (6, .int x6), (7, .int x7), (8, .int x8), (9, .int x9), (10, .int x10)]) dX12_heaps_179 (Nat.le_of_ble_eq_true rfl) rfl ?_
    refine e_lv [1, 2, 3, 4, 5, 6, 7, 8, 9, 10, 11, 0] rfl ?_
    exact cb_X12_heaps_b181 X k137 hk137 k157 hk157 fu x1 x2 x3 x4 x5 x6 x7 x8 x9 x10 (0 : Int32) w
set_option maxRecDepth 100000 in
set_option maxHeartbeats 4000000 in
theorem cb_X12_heaps_b157_y (X : Xt) (k137 : Int32 → Int32 → Int32 → Int32 → Int32 → Int32 → Int32 → Int32 → Int32 → Wd → Option (Int32 × Wd)) (hk137 : ∀ (x1 : Int32) (x2 : Int32) (x3 : Int32) (x4 : Int32) (x5 : Int32) (x6 : Int32) (x7 : Int32) (x8 : Int32) (x9 : Int32)  (w : Wd), E gWI X m_X12_heaps 5 137 [(0, .ref (xa X 54)), (1, .int x1), (2, .int x2), (3, .int x3), (4, .int x4), (5, .int x5), (6, .int x6), (7, .int x7), (8, .int x8), (9, .int x9)] [] w (k137 x1 x2 x3 x4 x5 x6 x7 x8 x9 w)) (k157 : Int32 → Int32 → Int32 → Int32 → Int32 → Int32 → Int32 → Int32 → Int32 → Int32 → Wd → Option (Int32 × Wd)) (hk157 : ∀ (x1 : Int32) (x2 : Int32) (x3 : Int32) (x4 : Int32) (x5 : Int32) (x6 : Int32) (x7 : Int32) (x8 : Int32) (x9 : Int32) (x10 : Int32)  (w : Wd), E gWI X m_X12_heaps 5 157 [(0, .ref (xa X 54)), (1, .int x1), (2, .int x2), (3, .int x3), (4, .int x4), (5, .int x5), (6, .int x6), (7, .int x7), (8, .int x8), (9, .int x9), (10, .int x10)] [] w (k157 x1 x2 x3 x4 x5 x6 x7 x8 x9 x10 w)) (x1 : Int32) (x2 : Int32) (x3 : Int32) (x4 : Int32) (x5 : Int32) (x6 : Int32) (x7 : Int32) (x8 : Int32) (x9 : Int32) (x10 : Int32) (w : Wd) : E gWI X m_X12_heaps 5 157 [(0, .ref (xa X 54)), (1, .int x1), (2, .int x2), (3, .int x3), (4, .int x4), (5, .int x5), (6, .int x6), (7, .int x7), (8, .int x8), (9, .int x9), (10, .int x10)] [] w (f_X12_heaps_b157_y k137 k157 x1 x2 x3 x4 x5 x6 x7 x8 x9 x10 w) := by
  unfold f_X12_heaps_b157_y
  refine e_iload (pc := 157) dX12_heaps_157 10 rfl ?_
  refine e_aload_n (pc := 159) dX12_heaps_159 0 rfl rfl ?_
  refine g_I (pc := 160) kk54 fl_X12_128 dX12_heaps_160 ?_
  refine e_iconst (pc := 163) (v := (1 : Int32)) dX12_heaps_163 ic_1 ?_
  refine e_icmp_le (pc := 164) (tgt := 174) dX12_heaps_164 (by decide) (fun _ => ?_) (fun _ => ?_)
  · refine e_iconst (pc := 174) (v := (0 : Int32)) dX12_heaps_174 ic_0 ?_
    refine e_lv [0, 1, 2, 3, 4, 5, 6, 7, 8, 9, 10] rfl ?_
    exact cb_X12_heaps_b175 X k137 hk137 k157 hk157 x1 x2 x3 x4 x5 x6 x7 x8 x9 x10 (0 : Int32) x10 w
  · refine e_iload_n (pc := 167) dX12_heaps_167 1 rfl rfl ?_
    refine e_iload (pc := 168) dX12_heaps_168 9 rfl ?_
    refine e_isub (pc := 170) dX12_heaps_170 ?_
    refine e_goto (pc := 171) (tgt := 175) dX12_heaps_171 (by decide) ?_
    refine e_lv [0, 1, 2, 3, 4, 5, 6, 7, 8, 9, 10] rfl ?_
    exact cb_X12_heaps_b175 X k137 hk137 k157 hk157 x1 x2 x3 x4 x5 x6 x7 x8 x9 x10 (x1 - x9) x10 w
theorem cb_X12_heaps_b157 (X : Xt) (k137 : Int32 → Int32 → Int32 → Int32 → Int32 → Int32 → Int32 → Int32 → Int32 → Wd → Option (Int32 × Wd)) (hk137 : ∀ (x1 : Int32) (x2 : Int32) (x3 : Int32) (x4 : Int32) (x5 : Int32) (x6 : Int32) (x7 : Int32) (x8 : Int32) (x9 : Int32)  (w : Wd), E gWI X m_X12_heaps 5 137 [(0, .ref (xa X 54)), (1, .int x1), (2, .int x2), (3, .int x3), (4, .int x4), (5, .int x5), (6, .int x6), (7, .int x7), (8, .int x8), (9, .int x9)] [] w (k137 x1 x2 x3 x4 x5 x6 x7 x8 x9 w)) : ∀ (n : Nat) (x1 : Int32) (x2 : Int32) (x3 : Int32) (x4 : Int32) (x5 : Int32) (x6 : Int32) (x7 : Int32) (x8 : Int32) (x9 : Int32) (x10 : Int32) (w : Wd), E gWI X m_X12_heaps 5 157 [(0, .ref (xa X 54)), (1, .int x1), (2, .int x2), (3, .int x3), (4, .int x4), (5, .int x5), (6, .int x6), (7, .int x7), (8, .int x8), (9, .int x9), (10, .int x10)] [] w (f_X12_heaps_b157 k137 n x1 x2 x3 x4 x5 x6 x7 x8 x9 x10 w) := by
  intro n
  induction n with
  | zero =>
    intro x1 x2 x3 x4 x5 x6 x7 x8 x9 x10 w
    exact E_none
  | succ n ih =>
    intro x1 x2 x3 x4 x5 x6 x7 x8 x9 x10 w
    exact cb_X12_heaps_b157_y X k137 hk137 _ ih x1 x2 x3 x4 x5 x6 x7 x8 x9 x10 w
set_option maxRecDepth 100000 in
set_option maxHeartbeats 4000000 in
theorem cb_X12_heaps_b151 (X : Xt) (k137 : Int32 → Int32 → Int32 → Int32 → Int32 → Int32 → Int32 → Int32 → Int32 → Wd → Option (Int32 × Wd)) (hk137 : ∀ (x1 : Int32) (x2 : Int32) (x3 : Int32) (x4 : Int32) (x5 : Int32) (x6 : Int32) (x7 : Int32) (x8 : Int32) (x9 : Int32)  (w : Wd), E gWI X m_X12_heaps 5 137 [(0, .ref (xa X 54)), (1, .int x1), (2, .int x2), (3, .int x3), (4, .int x4), (5, .int x5), (6, .int x6), (7, .int x7), (8, .int x8), (9, .int x9)] [] w (k137 x1 x2 x3 x4 x5 x6 x7 x8 x9 w)) (x1 : Int32) (x2 : Int32) (x3 : Int32) (x4 : Int32) (x5 : Int32) (x6 : Int32) (x7 : Int32) (x8 : Int32) (x9 : Int32) (s0 : Int32) (s1 : Int32) (w : Wd) : E gWI X m_X12_heaps 5 151 [(0, .ref (xa X 54)), (1, .int x1), (2, .int x2), (3, .int x3), (4, .int x4), (5, .int x5), (6, .int x6), (7, .int x7), (8, .int x8), (9, .int x9)] [.int s0, .int s1] w (f_X12_heaps_b151 k137 x1 x2 x3 x4 x5 x6 x7 x8 x9 s0 s1 w) := by
  unfold f_X12_heaps_b151
  refine e_icmp_gt (pc := 151) (tgt := 376) dX12_heaps_151 (by decide) (fun _ => ?_) (fun _ => ?_)
  · refine e_iload_n (pc := 376) dX12_heaps_376 3 rfl rfl ?_
    refine e_ite (fun h377_0 => ?_) (fun h377_0 => ?_)
    · refine e_tabIn (pc := 377) (off := 31) (tgt := 408) dX12_heaps_377 (by rw [h377_0]; decide) (by rw [h377_0]; decide) (by rw [h377_0]; decide) (by decide) ?_
      refine e_iload (pc := 408) dX12_heaps_408 4 rfl ?_
      exact e_iretW rfl dX12_heaps_410
    · refine e_ite (fun h377_1 => ?_) (fun h377_1 => ?_)
      · refine e_tabIn (pc := 377) (off := 34) (tgt := 411) dX12_heaps_377 (by rw [h377_1]; decide) (by rw [h377_1]; decide) (by rw [h377_1]; decide) (by decide) ?_
        refine e_iload (pc := 411) dX12_heaps_411 5 rfl ?_
        exact e_iretW rfl dX12_heaps_413
      · refine e_ite (fun h377_2 => ?_) (fun h377_2 => ?_)
        · refine e_tabIn (pc := 377) (off := 37) (tgt := 414) dX12_heaps_377 (by rw [h377_2]; decide) (by rw [h377_2]; decide) (by rw [h377_2]; decide) (by decide) ?_
          refine e_iload (pc := 414) dX12_heaps_414 6 rfl ?_
          exact e_iretW rfl dX12_heaps_416
        · refine e_ite (fun h377_3 => ?_) (fun h377_3 => ?_)
          · refine e_tabIn (pc := 377) (off := 40) (tgt := 417) dX12_heaps_377 (by rw [h377_3]; decide) (by rw [h377_3]; decide) (by rw [h377_3]; decide) (by decide) ?_
            refine e_iload (pc := 417) dX12_heaps_417 7 rfl ?_
            exact e_iretW rfl dX12_heaps_419
          · by_cases q0 : (x3).toInt < 0 ∨ 3 < (x3).toInt
            · refine e_tabOut (pc := 377) (tgt := 420) dX12_heaps_377 q0 (by decide) ?_
              refine e_iload (pc := 420) dX12_heaps_420 8 rfl ?_
              exact e_iretW rfl dX12_heaps_422
            · have z0 := lv_neT h377_0 (show (0 : Int32).toInt = 0 by decide)
              have z1 := lv_neT h377_1 (show (1 : Int32).toInt = 1 by decide)
              have z2 := lv_neT h377_2 (show (2 : Int32).toInt = 2 by decide)
              have z3 := lv_neT h377_3 (show (3 : Int32).toInt = 3 by decide)
              exfalso
              omega
  · refine e_iconst (pc := 154) (v := (0 : Int32)) dX12_heaps_154 ic_0 ?_
    refine e_istore (pc := 155) (lv' := [(10, .int (0 : Int32)), (0, .ref (xa X 54)), (1, .int x1), (2, .int x2), (3, .int x3), (4, .int x4), (5, .int x5), (6, .int x6), (7, .int x7), (8, .int x8), (9, .int x9)]) dX12_heaps_155 (Nat.le_of_ble_eq_true rfl) rfl ?_
    refine e_lv [1, 2, 3, 4, 5, 6, 7, 8, 9, 10, 0] rfl ?_
    exact cb_X12_heaps_b157 X k137 hk137 fu x1 x2 x3 x4 x5 x6 x7 x8 x9 (0 : Int32) w
set_option maxRecDepth 100000 in
set_option maxHeartbeats 4000000 in
theorem cb_X12_heaps_b137_y (X : Xt) (k137 : Int32 → Int32 → Int32 → Int32 → Int32 → Int32 → Int32 → Int32 → Int32 → Wd → Option (Int32 × Wd)) (hk137 : ∀ (x1 : Int32) (x2 : Int32) (x3 : Int32) (x4 : Int32) (x5 : Int32) (x6 : Int32) (x7 : Int32) (x8 : Int32) (x9 : Int32)  (w : Wd), E gWI X m_X12_heaps 5 137 [(0, .ref (xa X 54)), (1, .int x1), (2, .int x2), (3, .int x3), (4, .int x4), (5, .int x5), (6, .int x6), (7, .int x7), (8, .int x8), (9, .int x9)] [] w (k137 x1 x2 x3 x4 x5 x6 x7 x8 x9 w)) (x1 : Int32) (x2 : Int32) (x3 : Int32) (x4 : Int32) (x5 : Int32) (x6 : Int32) (x7 : Int32) (x8 : Int32) (x9 : Int32) (w : Wd) : E gWI X m_X12_heaps 5 137 [(0, .ref (xa X 54)), (1, .int x1), (2, .int x2), (3, .int x3), (4, .int x4), (5, .int x5), (6, .int x6), (7, .int x7), (8, .int x8), (9, .int x9)] [] w (f_X12_heaps_b137_y k137 x1 x2 x3 x4 x5 x6 x7 x8 x9 w) := by
  unfold f_X12_heaps_b137_y
  refine e_iload (pc := 137) dX12_heaps_137 9 rfl ?_
  refine e_aload_n (pc := 139) dX12_heaps_139 0 rfl rfl ?_
  refine g_I (pc := 140) kk54 fl_X12_128 dX12_heaps_140 ?_
  refine e_if_le (pc := 143) (tgt := 150) dX12_heaps_143 (by decide) (fun _ => ?_) (fun _ => ?_)
  · refine e_iconst (pc := 150) (v := (0 : Int32)) dX12_heaps_150 ic_0 ?_
    refine e_lv [0, 1, 2, 3, 4, 5, 6, 7, 8, 9] rfl ?_
    exact cb_X12_heaps_b151 X k137 hk137 x1 x2 x3 x4 x5 x6 x7 x8 x9 (0 : Int32) x9 w
  · refine e_iload_n (pc := 146) dX12_heaps_146 1 rfl rfl ?_
    refine e_goto (pc := 147) (tgt := 151) dX12_heaps_147 (by decide) ?_
    refine e_lv [0, 1, 2, 3, 4, 5, 6, 7, 8, 9] rfl ?_
    exact cb_X12_heaps_b151 X k137 hk137 x1 x2 x3 x4 x5 x6 x7 x8 x9 x1 x9 w
theorem cb_X12_heaps_b137 (X : Xt) : ∀ (n : Nat) (x1 : Int32) (x2 : Int32) (x3 : Int32) (x4 : Int32) (x5 : Int32) (x6 : Int32) (x7 : Int32) (x8 : Int32) (x9 : Int32) (w : Wd), E gWI X m_X12_heaps 5 137 [(0, .ref (xa X 54)), (1, .int x1), (2, .int x2), (3, .int x3), (4, .int x4), (5, .int x5), (6, .int x6), (7, .int x7), (8, .int x8), (9, .int x9)] [] w (f_X12_heaps_b137 n x1 x2 x3 x4 x5 x6 x7 x8 x9 w) := by
  intro n
  induction n with
  | zero =>
    intro x1 x2 x3 x4 x5 x6 x7 x8 x9 w
    exact E_none
  | succ n ih =>
    intro x1 x2 x3 x4 x5 x6 x7 x8 x9 w
    exact cb_X12_heaps_b137_y X _ ih x1 x2 x3 x4 x5 x6 x7 x8 x9 w
set_option maxRecDepth 100000 in
set_option maxHeartbeats 4000000 in
theorem cb_X12_heaps_b68_y (X : Xt) (k56 : Int32 → Int32 → Int32 → Int32 → Wd → Option (Int32 × Wd)) (hk56 : ∀ (x1 : Int32) (x2 : Int32) (x3 : Int32) (x4 : Int32)  (w : Wd), E gWI X m_X12_heaps 5 56 [(0, .ref (xa X 54)), (1, .int x1), (2, .int x2), (3, .int x3), (4, .int x4)] [] w (k56 x1 x2 x3 x4 w)) (k68 : Int32 → Int32 → Int32 → Int32 → Int32 → Wd → Option (Int32 × Wd)) (hk68 : ∀ (x1 : Int32) (x2 : Int32) (x3 : Int32) (x4 : Int32) (x5 : Int32)  (w : Wd), E gWI X m_X12_heaps 5 68 [(0, .ref (xa X 54)), (1, .int x1), (2, .int x2), (3, .int x3), (4, .int x4), (5, .int x5)] [] w (k68 x1 x2 x3 x4 x5 w)) (x1 : Int32) (x2 : Int32) (x3 : Int32) (x4 : Int32) (x5 : Int32) (w : Wd) : E gWI X m_X12_heaps 5 68 [(0, .ref (xa X 54)), (1, .int x1), (2, .int x2), (3, .int x3), (4, .int x4), (5, .int x5)] [] w (f_X12_heaps_b68_y k56 k68 x1 x2 x3 x4 x5 w) := by
  unfold f_X12_heaps_b68_y
  refine e_iload (pc := 68) dX12_heaps_68 5 rfl ?_
  refine e_bipush (pc := 70) (v := (40 : Int32)) dX12_heaps_70 bp_40 ?_
  refine e_icmp_gt (pc := 72) (tgt := 113) dX12_heaps_72 (by decide) (fun _ => ?_) (fun _ => ?_)
  · refine e_iinc (pc := 113) (lv' := [(4, .int (x4 + (1 : Int32))), (0, .ref (xa X 54)), (1, .int x1), (2, .int x2), (3, .int x3), (5, .int x5)]) dX12_heaps_113 4 rfl (ii_1 _) (Nat.le_of_ble_eq_true rfl) rfl ?_
    refine e_goto (pc := 116) (tgt := 56) dX12_heaps_116 (by decide) ?_
    refine e_lv [1, 2, 3, 4, 0] rfl ?_
    exact hk56 x1 x2 x3 (x4 + (1 : Int32)) w
  · refine e_aload_n (pc := 75) dX12_heaps_75 0 rfl rfl ?_
    refine g_R (pc := 76) (cl' := 73) kk54 fl_X12_82 rfl dX12_heaps_76 ?_
    refine e_bipush (pc := 79) (v := (41 : Int32)) dX12_heaps_79 bp_41 ?_
    refine e_iload (pc := 81) dX12_heaps_81 4 rfl ?_
    refine e_imul (pc := 83) dX12_heaps_83 ?_
    refine e_iload (pc := 84) dX12_heaps_84 5 rfl ?_
    refine e_iadd (pc := 86) dX12_heaps_86 ?_
    refine e_iload (pc := 87) dX12_heaps_87 5 rfl ?_
    refine e_aload_n (pc := 89) dX12_heaps_89 0 rfl rfl ?_
    refine e_iload (pc := 90) dX12_heaps_90 4 rfl ?_
    refine e_iconst (pc := 92) (v := (0 : Int32)) dX12_heaps_92 ic_0 ?_
    refine e_aload_n (pc := 93) dX12_heaps_93 0 rfl rfl ?_
    refine g_I (pc := 94) kk54 fl_X12_28 dX12_heaps_94 ?_
    refine e_iload (pc := 97) dX12_heaps_97 5 rfl ?_
    refine e_iconst (pc := 99) (v := (5 : Int32)) dX12_heaps_99 ic_5 ?_
    refine e_idiv (pc := 100) dX12_heaps_100 (by decide) ?_
    refine e_iadd (pc := 101) dX12_heaps_101 ?_
    refine e_callVWI (pc := 102) (As := [.int x4, .int (0 : Int32), .int ((gi w 54 8) + (x5 / (5 : Int32)))]) (rest := [.int x5, .int (((41 : Int32) * x4) + x5), .ref (xa X 73)]) kk54 Kc12 (cf_X12_findsBy X x4 (0 : Int32) ((gi w 54 8) + (x5 / (5 : Int32))) w) lk_X12_246 (Nat.le_of_ble_eq_true rfl) (Nat.le_of_ble_eq_true rfl) rfl rfl (Nat.le_of_ble_eq_true rfl) dX12_heaps_102 (fun r12 w13 => ?_)
    refine e_imul (pc := 105) dX12_heaps_105 ?_
    refine e_iast (pc := 106) kk73 dX12_heaps_106 (fun w14 => ?_)
    refine e_iinc (pc := 107) (lv' := [(5, .int (x5 + (1 : Int32))), (0, .ref (xa X 54)), (1, .int x1), (2, .int x2), (3, .int x3), (4, .int x4)]) dX12_heaps_107 5 rfl (ii_1 _) (Nat.le_of_ble_eq_true rfl) rfl ?_
    refine e_goto (pc := 110) (tgt := 68) dX12_heaps_110 (by decide) ?_
    refine e_lv [1, 2, 3, 4, 5, 0] rfl ?_
    exact hk68 x1 x2 x3 x4 (x5 + (1 : Int32)) w14
theorem cb_X12_heaps_b68 (X : Xt) (k56 : Int32 → Int32 → Int32 → Int32 → Wd → Option (Int32 × Wd)) (hk56 : ∀ (x1 : Int32) (x2 : Int32) (x3 : Int32) (x4 : Int32)  (w : Wd), E gWI X m_X12_heaps 5 56 [(0, .ref (xa X 54)), (1, .int x1), (2, .int x2), (3, .int x3), (4, .int x4)] [] w (k56 x1 x2 x3 x4 w)) : ∀ (n : Nat) (x1 : Int32) (x2 : Int32) (x3 : Int32) (x4 : Int32) (x5 : Int32) (w : Wd), E gWI X m_X12_heaps 5 68 [(0, .ref (xa X 54)), (1, .int x1), (2, .int x2), (3, .int x3), (4, .int x4), (5, .int x5)] [] w (f_X12_heaps_b68 k56 n x1 x2 x3 x4 x5 w) := by
  intro n
  induction n with
  | zero =>
    intro x1 x2 x3 x4 x5 w
    exact E_none
  | succ n ih =>
    intro x1 x2 x3 x4 x5 w
    exact cb_X12_heaps_b68_y X k56 hk56 _ ih x1 x2 x3 x4 x5 w
set_option maxRecDepth 100000 in
set_option maxHeartbeats 4000000 in
theorem cb_X12_heaps_b56_y (X : Xt) (k56 : Int32 → Int32 → Int32 → Int32 → Wd → Option (Int32 × Wd)) (hk56 : ∀ (x1 : Int32) (x2 : Int32) (x3 : Int32) (x4 : Int32)  (w : Wd), E gWI X m_X12_heaps 5 56 [(0, .ref (xa X 54)), (1, .int x1), (2, .int x2), (3, .int x3), (4, .int x4)] [] w (k56 x1 x2 x3 x4 w)) (x1 : Int32) (x2 : Int32) (x3 : Int32) (x4 : Int32) (w : Wd) : E gWI X m_X12_heaps 5 56 [(0, .ref (xa X 54)), (1, .int x1), (2, .int x2), (3, .int x3), (4, .int x4)] [] w (f_X12_heaps_b56_y k56 x1 x2 x3 x4 w) := by
  unfold f_X12_heaps_b56_y
  refine e_iload (pc := 56) dX12_heaps_56 4 rfl ?_
  refine e_aload_n (pc := 58) dX12_heaps_58 0 rfl rfl ?_
  refine g_I (pc := 59) kk54 fl_X12_128 dX12_heaps_59 ?_
  refine e_icmp_ge (pc := 62) (tgt := 119) dX12_heaps_62 (by decide) (fun _ => ?_) (fun _ => ?_)
  · refine e_iconst (pc := 119) (v := (-1 : Int32)) dX12_heaps_119 ic_m1 ?_
    refine e_istore (pc := 120) (lv' := [(4, .int (-1 : Int32)), (0, .ref (xa X 54)), (1, .int x1), (2, .int x2), (3, .int x3)]) dX12_heaps_120 (Nat.le_of_ble_eq_true rfl) rfl ?_
    refine e_iconst (pc := 122) (v := (0 : Int32)) dX12_heaps_122 ic_0 ?_
    refine e_istore (pc := 123) (lv' := [(5, .int (0 : Int32)), (4, .int (-1 : Int32)), (0, .ref (xa X 54)), (1, .int x1), (2, .int x2), (3, .int x3)]) dX12_heaps_123 (Nat.le_of_ble_eq_true rfl) rfl ?_
    refine e_iconst (pc := 125) (v := (0 : Int32)) dX12_heaps_125 ic_0 ?_
    refine e_istore (pc := 126) (lv' := [(6, .int (0 : Int32)), (5, .int (0 : Int32)), (4, .int (-1 : Int32)), (0, .ref (xa X 54)), (1, .int x1), (2, .int x2), (3, .int x3)]) dX12_heaps_126 (Nat.le_of_ble_eq_true rfl) rfl ?_
    refine e_iconst (pc := 128) (v := (0 : Int32)) dX12_heaps_128 ic_0 ?_
    refine e_istore (pc := 129) (lv' := [(7, .int (0 : Int32)), (6, .int (0 : Int32)), (5, .int (0 : Int32)), (4, .int (-1 : Int32)), (0, .ref (xa X 54)), (1, .int x1), (2, .int x2), (3, .int x3)]) dX12_heaps_129 (Nat.le_of_ble_eq_true rfl) rfl ?_
    refine e_iconst (pc := 131) (v := (0 : Int32)) dX12_heaps_131 ic_0 ?_
    refine e_istore (pc := 132) (lv' := [(8, .int (0 : Int32)), (7, .int (0 : Int32)), (6, .int (0 : Int32)), (5, .int (0 : Int32)), (4, .int (-1 : Int32)), (0, .ref (xa X 54)), (1, .int x1), (2, .int x2), (3, .int x3)]) dX12_heaps_132 (Nat.le_of_ble_eq_true rfl) rfl ?_
    refine e_iconst (pc := 134) (v := (0 : Int32)) dX12_heaps_134 ic_0 ?_
    refine e_istore (pc := 135) (lv' := [(9, .int (0 : Int32)), (8, .int (0 : Int32)), (7, .int (0 : Int32)), (6, .int (0 : Int32)), (5, .int (0 : Int32)), (4, .int (-1 : Int32)), (0, .ref (xa X 54)), (1, .int x1), (2, .int x2), (3, .int x3)]) dX12_heaps_135 (Nat.le_of_ble_eq_true rfl) rfl ?_
    refine e_lv [6, 7, 8, 9, 5, 4, 3, 2, 1, 0] rfl ?_
    exact cb_X12_heaps_b137 X fu x1 x2 x3 (-1 : Int32) (0 : Int32) (0 : Int32) (0 : Int32) (0 : Int32) (0 : Int32) w
  · refine e_iconst (pc := 65) (v := (0 : Int32)) dX12_heaps_65 ic_0 ?_
    refine e_istore (pc := 66) (lv' := [(5, .int (0 : Int32)), (0, .ref (xa X 54)), (1, .int x1), (2, .int x2), (3, .int x3), (4, .int x4)]) dX12_heaps_66 (Nat.le_of_ble_eq_true rfl) rfl ?_
    refine e_lv [1, 2, 3, 4, 5, 0] rfl ?_
    exact cb_X12_heaps_b68 X k56 hk56 fu x1 x2 x3 x4 (0 : Int32) w
theorem cb_X12_heaps_b56 (X : Xt) : ∀ (n : Nat) (x1 : Int32) (x2 : Int32) (x3 : Int32) (x4 : Int32) (w : Wd), E gWI X m_X12_heaps 5 56 [(0, .ref (xa X 54)), (1, .int x1), (2, .int x2), (3, .int x3), (4, .int x4)] [] w (f_X12_heaps_b56 n x1 x2 x3 x4 w) := by
  intro n
  induction n with
  | zero =>
    intro x1 x2 x3 x4 w
    exact E_none
  | succ n ih =>
    intro x1 x2 x3 x4 w
    exact cb_X12_heaps_b56_y X _ ih x1 x2 x3 x4 w
set_option maxRecDepth 100000 in
set_option maxHeartbeats 4000000 in
theorem cb_X12_heaps_b42 (X : Xt) (x1 : Int32) (x2 : Int32) (x3 : Int32) (w : Wd) : E gWI X m_X12_heaps 5 42 [(0, .ref (xa X 54)), (1, .int x1), (2, .int x2), (3, .int x3)] [] w (f_X12_heaps_b42 x1 x2 x3 w) := by
  unfold f_X12_heaps_b42
  refine e_aload_n (pc := 42) dX12_heaps_42 0 rfl rfl ?_
  refine g_I (pc := 43) kk54 fl_X12_128 dX12_heaps_43 ?_
  refine e_iconst (pc := 46) (v := (3 : Int32)) dX12_heaps_46 ic_3 ?_
  refine e_icmp_le (pc := 47) (tgt := 53) dX12_heaps_47 (by decide) (fun _ => ?_) (fun _ => ?_)
  · refine e_iconst (pc := 53) (v := (0 : Int32)) dX12_heaps_53 ic_0 ?_
    refine e_istore (pc := 54) (lv' := [(4, .int (0 : Int32)), (0, .ref (xa X 54)), (1, .int x1), (2, .int x2), (3, .int x3)]) dX12_heaps_54 (Nat.le_of_ble_eq_true rfl) rfl ?_
    refine e_lv [1, 2, 3, 4, 0] rfl ?_
    exact cb_X12_heaps_b56 X fu x1 x2 x3 (0 : Int32) w
  · refine e_bipush (pc := 50) (v := (-5 : Int32)) dX12_heaps_50 bp_m5 ?_
    exact e_iretW rfl dX12_heaps_52
set_option maxRecDepth 100000 in
set_option maxHeartbeats 4000000 in
theorem ce_X12_heaps (X : Xt) (a1 : Int32) (a2 : Int32) (a3 : Int32) (w : Wd) : E gWI X m_X12_heaps 5 0 [(0, .ref (xa X 54)), (1, .int a1), (2, .int a2), (3, .int a3)] [] w (f_X12_heaps a1 a2 a3 w) := by
  unfold f_X12_heaps
  refine e_iload_n (pc := 0) dX12_heaps_0 1 rfl rfl ?_
  refine e_iconst (pc := 1) (v := (1 : Int32)) dX12_heaps_1 ic_1 ?_
  refine e_bipush (pc := 2) (v := (40 : Int32)) dX12_heaps_2 bp_40 ?_
  refine e_callSRI (pc := 4) (As := [.int a1, .int (1 : Int32), .int (40 : Int32)]) (rest := []) (cf_X12_in X a1 (1 : Int32) (40 : Int32) w) lk_X12_124 (Nat.le_of_ble_eq_true rfl) (Nat.le_of_ble_eq_true rfl) rfl rfl (Nat.le_of_ble_eq_true rfl) dX12_heaps_4 (fun r1 => ?_)
  refine e_if_eq (pc := 7) (tgt := 40) dX12_heaps_7 (by decide) (fun _ => ?_) (fun _ => ?_)
  · refine e_iconst (pc := 40) (v := (-1 : Int32)) dX12_heaps_40 ic_m1 ?_
    exact e_iretW rfl dX12_heaps_41
  · refine e_iload_n (pc := 10) dX12_heaps_10 2 rfl rfl ?_
    refine e_iconst (pc := 11) (v := (0 : Int32)) dX12_heaps_11 ic_0 ?_
    refine e_sipush (pc := 12) (v := (999 : Int32)) dX12_heaps_12 sp_999 ?_
    refine e_callSRI (pc := 15) (As := [.int a2, .int (0 : Int32), .int (999 : Int32)]) (rest := []) (cf_X12_in X a2 (0 : Int32) (999 : Int32) w) lk_X12_124 (Nat.le_of_ble_eq_true rfl) (Nat.le_of_ble_eq_true rfl) rfl rfl (Nat.le_of_ble_eq_true rfl) dX12_heaps_15 (fun r2 => ?_)
    refine e_if_eq (pc := 18) (tgt := 40) dX12_heaps_18 (by decide) (fun _ => ?_) (fun _ => ?_)
    · refine e_iconst (pc := 40) (v := (-1 : Int32)) dX12_heaps_40 ic_m1 ?_
      exact e_iretW rfl dX12_heaps_41
    · refine e_iload_n (pc := 21) dX12_heaps_21 3 rfl rfl ?_
      refine e_iconst (pc := 22) (v := (0 : Int32)) dX12_heaps_22 ic_0 ?_
      refine e_iconst (pc := 23) (v := (1 : Int32)) dX12_heaps_23 ic_1 ?_
      refine e_callSRI (pc := 24) (As := [.int a3, .int (0 : Int32), .int (1 : Int32)]) (rest := []) (cf_X12_in X a3 (0 : Int32) (1 : Int32) w) lk_X12_124 (Nat.le_of_ble_eq_true rfl) (Nat.le_of_ble_eq_true rfl) rfl rfl (Nat.le_of_ble_eq_true rfl) dX12_heaps_24 (fun r3 => ?_)
      refine e_if_ne (pc := 27) (tgt := 42) dX12_heaps_27 (by decide) (fun _ => ?_) (fun _ => ?_)
      · refine e_aload_n (pc := 30) dX12_heaps_30 0 rfl rfl ?_
        refine e_iload_n (pc := 31) dX12_heaps_31 3 rfl rfl ?_
        refine e_iconst (pc := 32) (v := (2 : Int32)) dX12_heaps_32 ic_2 ?_
        refine e_isub (pc := 33) dX12_heaps_33 ?_
        refine e_callVRI (pc := 34) (As := [.int (a3 - (2 : Int32))]) (rest := []) kk54 Kc12 (cf_X12_isLooker X (a3 - (2 : Int32)) w) lk_X12_158 (Nat.le_of_ble_eq_true rfl) (Nat.le_of_ble_eq_true rfl) rfl rfl (Nat.le_of_ble_eq_true rfl) dX12_heaps_34 (fun r15 => ?_)
        refine e_if_ne (pc := 37) (tgt := 42) dX12_heaps_37 (by decide) (fun _ => ?_) (fun _ => ?_)
        · refine e_iconst (pc := 40) (v := (-1 : Int32)) dX12_heaps_40 ic_m1 ?_
          exact e_iretW rfl dX12_heaps_41
        · refine e_lv [0, 1, 2, 3] rfl ?_
          exact cb_X12_heaps_b42 X a1 a2 a3 w
      · refine e_lv [0, 1, 2, 3] rfl ?_
        exact cb_X12_heaps_b42 X a1 a2 a3 w
theorem cf_X12_heaps (X : Xt) (a1 : Int32) (a2 : Int32) (a3 : Int32) (w : Wd) : CF gWI X m_X12_heaps 5 [.ref (xa X 54), .int a1, .int a2, .int a3] w (f_X12_heaps a1 a2 a3 w) := CF_of (by decide) (Nat.le_of_ble_eq_true rfl) (ce_X12_heaps X a1 a2 a3 w)
set_option maxRecDepth 100000 in
set_option maxHeartbeats 4000000 in
theorem cb_X12_goRows_b160 (X : Xt) {dd : Nat} (hb : 5 ≤ dd) (r_X12_goRows : Int32 → Wd → Option Wd) (hr_X12_goRows : ∀ (a1 : Int32) (w : Wd), CF gWV X m_X12_goRows dd [.ref (xa X 54), .int a1] w (r_X12_goRows a1 w)) (k105 : Int32 → Int32 → Wd → Option Wd) (hk105 : ∀ (x1 : Int32) (x2 : Int32)  (w : Wd), E gWV X m_X12_goRows (dd + 1) 105 [(0, .ref (xa X 54)), (1, .int x1), (2, .int x2)] [] w (k105 x1 x2 w)) (x1 : Int32) (x2 : Int32) (w : Wd) : E gWV X m_X12_goRows (dd + 1) 160 [(0, .ref (xa X 54)), (1, .int x1), (2, .int x2)] [] w (f_X12_goRows_b160 r_X12_goRows k105 x1 x2 w) := by
  unfold f_X12_goRows_b160
  refine e_iinc (pc := 160) (lv' := [(2, .int (x2 + (1 : Int32))), (0, .ref (xa X 54)), (1, .int x1)]) dX12_goRows_160 2 rfl (ii_1 _) (Nat.le_of_ble_eq_true rfl) rfl ?_
  refine e_goto (pc := 163) (tgt := 105) dX12_goRows_163 (by decide) ?_
  refine e_lv [1, 2, 0] rfl ?_
  exact hk105 x1 (x2 + (1 : Int32)) w
set_option maxRecDepth 100000 in
set_option maxHeartbeats 4000000 in
theorem cb_X12_goRows_b105_y (X : Xt) {dd : Nat} (hb : 5 ≤ dd) (r_X12_goRows : Int32 → Wd → Option Wd) (hr_X12_goRows : ∀ (a1 : Int32) (w : Wd), CF gWV X m_X12_goRows dd [.ref (xa X 54), .int a1] w (r_X12_goRows a1 w)) (k105 : Int32 → Int32 → Wd → Option Wd) (hk105 : ∀ (x1 : Int32) (x2 : Int32)  (w : Wd), E gWV X m_X12_goRows (dd + 1) 105 [(0, .ref (xa X 54)), (1, .int x1), (2, .int x2)] [] w (k105 x1 x2 w)) (x1 : Int32) (x2 : Int32) (w : Wd) : E gWV X m_X12_goRows (dd + 1) 105 [(0, .ref (xa X 54)), (1, .int x1), (2, .int x2)] [] w (f_X12_goRows_b105_y r_X12_goRows k105 x1 x2 w) := by
  unfold f_X12_goRows_b105_y
  refine e_iload_n (pc := 105) dX12_goRows_105 2 rfl rfl ?_
  refine e_aload_n (pc := 106) dX12_goRows_106 0 rfl rfl ?_
  refine g_I (pc := 107) kk54 fl_X12_128 dX12_goRows_107 ?_
  refine e_icmp_ge (pc := 110) (tgt := 166) dX12_goRows_110 (by decide) (fun _ => ?_) (fun _ => ?_)
  · exact e_vret rfl dX12_goRows_166
  · refine e_aload_n (pc := 113) dX12_goRows_113 0 rfl rfl ?_
    refine g_R (pc := 114) (cl' := 75) kk54 fl_X12_88 rfl dX12_goRows_114 ?_
    refine e_iload_n (pc := 117) dX12_goRows_117 1 rfl rfl ?_
    refine e_iload_n (pc := 118) dX12_goRows_118 2 rfl rfl ?_
    refine e_iast (pc := 119) kk75 dX12_goRows_119 (fun w1 => ?_)
    refine e_aload_n (pc := 120) dX12_goRows_120 0 rfl rfl ?_
    refine e_iload_n (pc := 121) dX12_goRows_121 1 rfl rfl ?_
    refine e_aload_n (pc := 122) dX12_goRows_122 0 rfl rfl ?_
    refine e_iload_n (pc := 123) dX12_goRows_123 2 rfl rfl ?_
    refine e_iload_n (pc := 124) dX12_goRows_124 1 rfl rfl ?_
    refine e_aload_n (pc := 125) dX12_goRows_125 0 rfl rfl ?_
    refine g_I (pc := 126) kk54 fl_X12_28 dX12_goRows_126 ?_
    refine e_callVWI (pc := 129) (As := [.int x2, .int x1, .int (gi w1 54 8)]) (rest := [.int x1, .ref (xa X 54)]) kk54 Kc12 (cf_X12_findsBy X x2 x1 (gi w1 54 8) w1) lk_X12_246 (by omega) (Nat.le_of_ble_eq_true rfl) rfl rfl (Nat.le_of_ble_eq_true rfl) dX12_goRows_129 (fun r2 w3 => ?_)
    refine e_aload_n (pc := 132) dX12_goRows_132 0 rfl rfl ?_
    refine g_R (pc := 133) (cl' := 74) kk54 fl_X12_85 rfl dX12_goRows_133 ?_
    refine e_iload_n (pc := 136) dX12_goRows_136 1 rfl rfl ?_
    refine e_iald (pc := 137) kk74 dX12_goRows_137 (fun v4 => ?_)
    refine e_callVWV (pc := 138) (As := [.int x1, .int r2, .int v4]) (rest := []) kk54 Kc12 (cf_X12_lookTo X x1 r2 v4 w3) lk_X12_274 (by omega) (Nat.le_of_ble_eq_true rfl) rfl rfl (Nat.le_of_ble_eq_true rfl) dX12_goRows_138 (fun w5 => ?_)
    refine e_aload_n (pc := 141) dX12_goRows_141 0 rfl rfl ?_
    refine e_iload_n (pc := 142) dX12_goRows_142 1 rfl rfl ?_
    refine e_iconst (pc := 143) (v := (1 : Int32)) dX12_goRows_143 ic_1 ?_
    refine e_iadd (pc := 144) dX12_goRows_144 ?_
    refine e_callVRL (pc := 145) (As := [.int (x1 + (1 : Int32))]) (rest := []) kk54 Kc12 (cf_X12_allParts X (x1 + (1 : Int32)) w5) lk_X12_288 (by omega) (Nat.le_of_ble_eq_true rfl) rfl rfl (Nat.le_of_ble_eq_true rfl) dX12_goRows_145 (fun r6 => ?_)
    refine e_lconst (pc := 148) (v := (0 : Int64)) dX12_goRows_148 lc_0 ?_
    refine e_lcmp_le (pc := 149) (tgt := 160) dX12_goRows_149 dX12_goRows_150 (by decide) (fun _ => ?_) (fun _ => ?_)
    · refine e_lv [0, 1, 2] rfl ?_
      exact cb_X12_goRows_b160 X hb r_X12_goRows hr_X12_goRows k105 hk105 x1 x2 w5
    · refine e_aload_n (pc := 153) dX12_goRows_153 0 rfl rfl ?_
      refine e_iload_n (pc := 154) dX12_goRows_154 1 rfl rfl ?_
      refine e_iconst (pc := 155) (v := (1 : Int32)) dX12_goRows_155 ic_1 ?_
      refine e_iadd (pc := 156) dX12_goRows_156 ?_
      refine e_callVWV (pc := 157) (As := [.int (x1 + (1 : Int32))]) (rest := []) kk54 Kc12 (hr_X12_goRows (x1 + (1 : Int32)) w5) lk_X12_364 (Nat.le_refl _) (Nat.le_of_ble_eq_true rfl) rfl rfl (Nat.le_of_ble_eq_true rfl) dX12_goRows_157 (fun w7 => ?_)
      refine e_lv [0, 1, 2] rfl ?_
      exact cb_X12_goRows_b160 X hb r_X12_goRows hr_X12_goRows k105 hk105 x1 x2 w7
theorem cb_X12_goRows_b105 (X : Xt) {dd : Nat} (hb : 5 ≤ dd) (r_X12_goRows : Int32 → Wd → Option Wd) (hr_X12_goRows : ∀ (a1 : Int32) (w : Wd), CF gWV X m_X12_goRows dd [.ref (xa X 54), .int a1] w (r_X12_goRows a1 w)) : ∀ (n : Nat) (x1 : Int32) (x2 : Int32) (w : Wd), E gWV X m_X12_goRows (dd + 1) 105 [(0, .ref (xa X 54)), (1, .int x1), (2, .int x2)] [] w (f_X12_goRows_b105 r_X12_goRows n x1 x2 w) := by
  intro n
  induction n with
  | zero =>
    intro x1 x2 w
    exact E_none
  | succ n ih =>
    intro x1 x2 w
    exact cb_X12_goRows_b105_y X hb r_X12_goRows hr_X12_goRows _ ih x1 x2 w
set_option maxRecDepth 100000 in
set_option maxHeartbeats 4000000 in
theorem cb_X12_goRows_b76_y (X : Xt) {dd : Nat} (hb : 5 ≤ dd) (r_X12_goRows : Int32 → Wd → Option Wd) (hr_X12_goRows : ∀ (a1 : Int32) (w : Wd), CF gWV X m_X12_goRows dd [.ref (xa X 54), .int a1] w (r_X12_goRows a1 w)) (k76 : Int32 → Wd → Option Wd) (hk76 : ∀ (x2 : Int32)  (w : Wd), E gWV X m_X12_goRows (dd + 1) 76 [(0, .ref (xa X 54)), (2, .int x2)] [] w (k76 x2 w)) (x2 : Int32) (w : Wd) : E gWV X m_X12_goRows (dd + 1) 76 [(0, .ref (xa X 54)), (2, .int x2)] [] w (f_X12_goRows_b76_y r_X12_goRows k76 x2 w) := by
  unfold f_X12_goRows_b76_y
  refine e_iload_n (pc := 76) dX12_goRows_76 1 rfl rfl ?_
  refine e_aload_n (pc := 77) dX12_goRows_77 0 rfl rfl ?_
  refine g_I (pc := 78) kk54 fl_X12_355 dX12_goRows_78 ?_
  refine e_icmp_ge (pc := 81) (tgt := 102) dX12_goRows_81 (by decide) (fun _ => ?_) (fun _ => ?_)
  · exact e_vret rfl dX12_goRows_102
  · refine e_aload_n (pc := 84) dX12_goRows_84 0 rfl rfl ?_
    refine g_R (pc := 85) (cl' := 76) kk54 fl_X12_91 rfl dX12_goRows_85 ?_
    refine e_iload_n (pc := 88) dX12_goRows_88 1 rfl rfl ?_
    refine e_aload_n (pc := 89) dX12_goRows_89 0 rfl rfl ?_
    refine g_R (pc := 90) (cl' := 75) kk54 fl_X12_88 rfl dX12_goRows_90 ?_
    refine e_iload_n (pc := 93) dX12_goRows_93 1 rfl rfl ?_
    refine e_iald (pc := 94) kk75 dX12_goRows_94 (fun v12 => ?_)
    refine e_iast (pc := 95) kk76 dX12_goRows_95 (fun w13 => ?_)
    refine e_iinc (pc := 96) (lv' := [(2, .int (x2 + (1 : Int32))), (0, .ref (xa X 54))]) dX12_goRows_96 1 rfl (ii_1 _) (Nat.le_of_ble_eq_true rfl) rfl ?_
    refine e_goto (pc := 99) (tgt := 76) dX12_goRows_99 (by decide) ?_
    refine e_lv [1, 0] rfl ?_
    exact hk76 (x2 + (1 : Int32)) w13
theorem cb_X12_goRows_b76 (X : Xt) {dd : Nat} (hb : 5 ≤ dd) (r_X12_goRows : Int32 → Wd → Option Wd) (hr_X12_goRows : ∀ (a1 : Int32) (w : Wd), CF gWV X m_X12_goRows dd [.ref (xa X 54), .int a1] w (r_X12_goRows a1 w)) : ∀ (n : Nat) (x2 : Int32) (w : Wd), E gWV X m_X12_goRows (dd + 1) 76 [(0, .ref (xa X 54)), (2, .int x2)] [] w (f_X12_goRows_b76 r_X12_goRows n x2 w) := by
  intro n
  induction n with
  | zero =>
    intro x2 w
    exact E_none
  | succ n ih =>
    intro x2 w
    exact cb_X12_goRows_b76_y X hb r_X12_goRows hr_X12_goRows _ ih x2 w
set_option maxRecDepth 100000 in
set_option maxHeartbeats 4000000 in
theorem cb_X12_goRows_b20_y (X : Xt) {dd : Nat} (hb : 5 ≤ dd) (r_X12_goRows : Int32 → Wd → Option Wd) (hr_X12_goRows : ∀ (a1 : Int32) (w : Wd), CF gWV X m_X12_goRows dd [.ref (xa X 54), .int a1] w (r_X12_goRows a1 w)) (k20 : Int32 → Int32 → Wd → Option Wd) (hk20 : ∀ (x1 : Int32) (x2 : Int32)  (w : Wd), E gWV X m_X12_goRows (dd + 1) 20 [(0, .ref (xa X 54)), (1, .int x1), (2, .int x2)] [] w (k20 x1 x2 w)) (x1 : Int32) (x2 : Int32) (w : Wd) : E gWV X m_X12_goRows (dd + 1) 20 [(0, .ref (xa X 54)), (1, .int x1), (2, .int x2)] [] w (f_X12_goRows_b20_y r_X12_goRows k20 x1 x2 w) := by
  unfold f_X12_goRows_b20_y
  refine e_iload_n (pc := 20) dX12_goRows_20 2 rfl rfl ?_
  refine e_aload_n (pc := 21) dX12_goRows_21 0 rfl rfl ?_
  refine g_I (pc := 22) kk54 fl_X12_355 dX12_goRows_22 ?_
  refine e_icmp_ge (pc := 25) (tgt := 51) dX12_goRows_25 (by decide) (fun _ => ?_) (fun _ => ?_)
  · refine e_aload_n (pc := 51) dX12_goRows_51 0 rfl rfl ?_
    refine e_iload_n (pc := 52) dX12_goRows_52 1 rfl rfl ?_
    refine e_callVRL (pc := 53) (As := [.int x1]) (rest := []) kk54 Kc12 (cf_X12_allParts X x1 w) lk_X12_288 (by omega) (Nat.le_of_ble_eq_true rfl) rfl rfl (Nat.le_of_ble_eq_true rfl) dX12_goRows_53 (fun r9 => ?_)
    refine e_aload_n (pc := 56) dX12_goRows_56 0 rfl rfl ?_
    refine g_L (pc := 57) kk54 fl_X12_361 dX12_goRows_57 ?_
    refine e_lcmp_gt (pc := 60) (tgt := 65) dX12_goRows_60 dX12_goRows_61 (by decide) (fun _ => ?_) (fun _ => ?_)
    · refine e_aload_n (pc := 65) dX12_goRows_65 0 rfl rfl ?_
      refine e_aload_n (pc := 66) dX12_goRows_66 0 rfl rfl ?_
      refine e_iload_n (pc := 67) dX12_goRows_67 1 rfl rfl ?_
      refine e_callVRL (pc := 68) (As := [.int x1]) (rest := [.ref (xa X 54)]) kk54 Kc12 (cf_X12_allParts X x1 w) lk_X12_288 (by omega) (Nat.le_of_ble_eq_true rfl) rfl rfl (Nat.le_of_ble_eq_true rfl) dX12_goRows_68 (fun r10 => ?_)
      refine p_L (pc := 71) kk54 fp_X12_361 dX12_goRows_71 (fun w11 => ?_)
      refine e_iconst (pc := 74) (v := (0 : Int32)) dX12_goRows_74 ic_0 ?_
      refine e_istore_n (pc := 75) (lv' := [(2, .int (0 : Int32)), (0, .ref (xa X 54)), (1, .int x1)]) dX12_goRows_75 rfl (Nat.le_of_ble_eq_true rfl) rfl ?_
      refine e_lv [1, 0] rfl ?_
      exact cb_X12_goRows_b76 X hb r_X12_goRows hr_X12_goRows fu (0 : Int32) w11
    · exact e_vret rfl dX12_goRows_64
  · refine e_aload_n (pc := 28) dX12_goRows_28 0 rfl rfl ?_
    refine g_R (pc := 29) (cl' := 77) kk54 fl_X12_94 rfl dX12_goRows_29 ?_
    refine e_iload_n (pc := 32) dX12_goRows_32 2 rfl rfl ?_
    refine e_dup2 (pc := 33) dX12_goRows_33 rfl rfl ?_
    refine e_iald (pc := 34) kk77 dX12_goRows_34 (fun v14 => ?_)
    refine e_iconst (pc := 35) (v := (1 : Int32)) dX12_goRows_35 ic_1 ?_
    refine e_aload_n (pc := 36) dX12_goRows_36 0 rfl rfl ?_
    refine g_R (pc := 37) (cl' := 75) kk54 fl_X12_88 rfl dX12_goRows_37 ?_
    refine e_iload_n (pc := 40) dX12_goRows_40 2 rfl rfl ?_
    refine e_iald (pc := 41) kk75 dX12_goRows_41 (fun v15 => ?_)
    refine e_ishl (pc := 42) dX12_goRows_42 ?_
    refine e_iand (pc := 43) dX12_goRows_43 ?_
    refine e_iast (pc := 44) kk77 dX12_goRows_44 (fun w16 => ?_)
    refine e_iinc (pc := 45) (lv' := [(2, .int (x2 + (1 : Int32))), (0, .ref (xa X 54)), (1, .int x1)]) dX12_goRows_45 2 rfl (ii_1 _) (Nat.le_of_ble_eq_true rfl) rfl ?_
    refine e_goto (pc := 48) (tgt := 20) dX12_goRows_48 (by decide) ?_
    refine e_lv [1, 2, 0] rfl ?_
    exact hk20 x1 (x2 + (1 : Int32)) w16
theorem cb_X12_goRows_b20 (X : Xt) {dd : Nat} (hb : 5 ≤ dd) (r_X12_goRows : Int32 → Wd → Option Wd) (hr_X12_goRows : ∀ (a1 : Int32) (w : Wd), CF gWV X m_X12_goRows dd [.ref (xa X 54), .int a1] w (r_X12_goRows a1 w)) : ∀ (n : Nat) (x1 : Int32) (x2 : Int32) (w : Wd), E gWV X m_X12_goRows (dd + 1) 20 [(0, .ref (xa X 54)), (1, .int x1), (2, .int x2)] [] w (f_X12_goRows_b20 r_X12_goRows n x1 x2 w) := by
  intro n
  induction n with
  | zero =>
    intro x1 x2 w
    exact E_none
  | succ n ih =>
    intro x1 x2 w
    exact cb_X12_goRows_b20_y X hb r_X12_goRows hr_X12_goRows _ ih x1 x2 w
set_option maxRecDepth 100000 in
set_option maxHeartbeats 4000000 in
theorem ce_X12_goRows (X : Xt) {dd : Nat} (hb : 5 ≤ dd) (r_X12_goRows : Int32 → Wd → Option Wd) (hr_X12_goRows : ∀ (a1 : Int32) (w : Wd), CF gWV X m_X12_goRows dd [.ref (xa X 54), .int a1] w (r_X12_goRows a1 w)) (a1 : Int32) (w : Wd) : E gWV X m_X12_goRows (dd + 1) 0 [(0, .ref (xa X 54)), (1, .int a1)] [] w (f_X12_goRows_y r_X12_goRows a1 w) := by
  unfold f_X12_goRows_y
  refine e_iload_n (pc := 0) dX12_goRows_0 1 rfl rfl ?_
  refine e_aload_n (pc := 1) dX12_goRows_1 0 rfl rfl ?_
  refine g_I (pc := 2) kk54 fl_X12_355 dX12_goRows_2 ?_
  refine e_icmp_ne (pc := 5) (tgt := 103) dX12_goRows_5 (by decide) (fun _ => ?_) (fun _ => ?_)
  · refine e_aload_n (pc := 8) dX12_goRows_8 0 rfl rfl ?_
    refine e_dup (pc := 9) dX12_goRows_9 rfl ?_
    refine g_I (pc := 10) kk54 fl_X12_358 dX12_goRows_10 ?_
    refine e_iconst (pc := 13) (v := (1 : Int32)) dX12_goRows_13 ic_1 ?_
    refine e_iadd (pc := 14) dX12_goRows_14 ?_
    refine p_I (pc := 15) kk54 fp_X12_358 dX12_goRows_15 (fun w8 => ?_)
    refine e_iconst (pc := 18) (v := (0 : Int32)) dX12_goRows_18 ic_0 ?_
    refine e_istore_n (pc := 19) (lv' := [(2, .int (0 : Int32)), (0, .ref (xa X 54)), (1, .int a1)]) dX12_goRows_19 rfl (Nat.le_of_ble_eq_true rfl) rfl ?_
    refine e_lv [1, 2, 0] rfl ?_
    exact cb_X12_goRows_b20 X hb r_X12_goRows hr_X12_goRows fu a1 (0 : Int32) w8
  · refine e_iconst (pc := 103) (v := (0 : Int32)) dX12_goRows_103 ic_0 ?_
    refine e_istore_n (pc := 104) (lv' := [(2, .int (0 : Int32)), (0, .ref (xa X 54)), (1, .int a1)]) dX12_goRows_104 rfl (Nat.le_of_ble_eq_true rfl) rfl ?_
    refine e_lv [1, 2, 0] rfl ?_
    exact cb_X12_goRows_b105 X hb r_X12_goRows hr_X12_goRows fu a1 (0 : Int32) w
set_option maxRecDepth 100000 in
theorem cs_X12_goRows (X : Xt) : ∀ n : Nat, (∀ (a1 : Int32) (w : Wd), CF gWV X m_X12_goRows (5 + n) [.ref (xa X 54), .int a1] w (f_X12_goRows n a1 w)) := by
  intro n
  induction n with
  | zero => exact fun _ _ => CF_none
  | succ n ih =>
    have ih0 := ih
    exact fun a1 w => CF_of (by decide) (Nat.le_of_ble_eq_true rfl) (ce_X12_goRows X (Nat.le_add_right _ _) (f_X12_goRows n) ih0 a1 w)
theorem cf_X12_goRows (X : Xt) (n : Nat) (a1 : Int32) (w : Wd) : CF gWV X m_X12_goRows (5 + n) [.ref (xa X 54), .int a1] w (f_X12_goRows n a1 w) := cs_X12_goRows X n a1 w
set_option maxRecDepth 100000 in
set_option maxHeartbeats 4000000 in
theorem cb_X12_who_b165_y (X : Xt) (k165 : Int32 → Int32 → Int32 → Int32 → Wd → Option (Int32 × Wd)) (hk165 : ∀ (x2 : Int32) (x3 : Int32) (x4 : Int32) (x5 : Int32)  (w : Wd), E gWI X m_X12_who 86 165 [(0, .ref (xa X 54)), (2, .int x2), (3, .int x3), (4, .int x4), (5, .int x5)] [] w (k165 x2 x3 x4 x5 w)) (x2 : Int32) (x3 : Int32) (x4 : Int32) (x5 : Int32) (w : Wd) : E gWI X m_X12_who 86 165 [(0, .ref (xa X 54)), (2, .int x2), (3, .int x3), (4, .int x4), (5, .int x5)] [] w (f_X12_who_b165_y k165 x2 x3 x4 x5 w) := by
  unfold f_X12_who_b165_y
  refine e_iload (pc := 165) dX12_who_165 4 rfl ?_
  refine e_iconst (pc := 167) (v := (4 : Int32)) dX12_who_167 ic_4 ?_
  refine e_icmp_ge (pc := 168) (tgt := 192) dX12_who_168 (by decide) (fun _ => ?_) (fun _ => ?_)
  · refine e_aload_n (pc := 192) dX12_who_192 0 rfl rfl ?_
    refine e_iload_n (pc := 193) dX12_who_193 1 rfl rfl ?_
    refine e_iconst (pc := 194) (v := (0 : Int32)) dX12_who_194 ic_0 ?_
    refine e_callVWV (pc := 195) (As := [.int x2, .int (0 : Int32)]) (rest := []) kk54 Kc12 (cf_X12_beginParts X x2 (0 : Int32) w) lk_X12_268 (Nat.le_of_ble_eq_true rfl) (Nat.le_of_ble_eq_true rfl) rfl rfl (Nat.le_of_ble_eq_true rfl) dX12_who_195 (fun w8 => ?_)
    refine e_aload_n (pc := 198) dX12_who_198 0 rfl rfl ?_
    refine e_iconst (pc := 199) (v := (0 : Int32)) dX12_who_199 ic_0 ?_
    refine e_callVWV (pc := 200) (As := [.int (0 : Int32)]) (rest := []) kk54 Kc12 (cf_X12_goRows X rf (0 : Int32) w8) lk_X12_364 (Nat.le_of_ble_eq_true rfl) (Nat.le_of_ble_eq_true rfl) rfl rfl (Nat.le_of_ble_eq_true rfl) dX12_who_200 (fun w9 => ?_)
    refine e_iload_n (pc := 203) dX12_who_203 2 rfl rfl ?_
    refine e_if_ne (pc := 204) (tgt := 212) dX12_who_204 (by decide) (fun _ => ?_) (fun _ => ?_)
    · refine e_aload_n (pc := 207) dX12_who_207 0 rfl rfl ?_
      refine g_I (pc := 208) kk54 fl_X12_358 dX12_who_208 ?_
      exact e_iretW rfl dX12_who_211
    · refine e_iload_n (pc := 212) dX12_who_212 2 rfl rfl ?_
      refine e_iconst (pc := 213) (v := (1 : Int32)) dX12_who_213 ic_1 ?_
      refine e_icmp_ne (pc := 214) (tgt := 236) dX12_who_214 (by decide) (fun _ => ?_) (fun _ => ?_)
      · refine e_aload_n (pc := 217) dX12_who_217 0 rfl rfl ?_
        refine g_I (pc := 218) kk54 fl_X12_358 dX12_who_218 ?_
        refine e_if_ne (pc := 221) (tgt := 228) dX12_who_221 (by decide) (fun _ => ?_) (fun _ => ?_)
        · refine e_iconst (pc := 224) (v := (0 : Int32)) dX12_who_224 ic_0 ?_
          refine e_goto (pc := 225) (tgt := 235) dX12_who_225 (by decide) ?_
          exact e_iretW rfl dX12_who_235
        · refine e_aload_n (pc := 228) dX12_who_228 0 rfl rfl ?_
          refine g_R (pc := 229) (cl' := 77) kk54 fl_X12_94 rfl dX12_who_229 ?_
          refine e_iload (pc := 232) dX12_who_232 3 rfl ?_
          refine e_iald (pc := 234) kk77 dX12_who_234 (fun v11 => ?_)
          exact e_iretW rfl dX12_who_235
      · refine e_aload_n (pc := 236) dX12_who_236 0 rfl rfl ?_
        refine g_I (pc := 237) kk54 fl_X12_358 dX12_who_237 ?_
        refine e_if_ne (pc := 240) (tgt := 248) dX12_who_240 (by decide) (fun _ => ?_) (fun _ => ?_)
        · refine e_bipush (pc := 243) (v := (-2 : Int32)) dX12_who_243 bp_m2 ?_
          refine e_goto (pc := 245) (tgt := 255) dX12_who_245 (by decide) ?_
          exact e_iretW rfl dX12_who_255
        · refine e_aload_n (pc := 248) dX12_who_248 0 rfl rfl ?_
          refine g_R (pc := 249) (cl' := 76) kk54 fl_X12_91 rfl dX12_who_249 ?_
          refine e_iload (pc := 252) dX12_who_252 3 rfl ?_
          refine e_iald (pc := 254) kk76 dX12_who_254 (fun v10 => ?_)
          exact e_iretW rfl dX12_who_255
  · refine e_aload_n (pc := 171) dX12_who_171 0 rfl rfl ?_
    refine g_R (pc := 172) (cl' := 77) kk54 fl_X12_94 rfl dX12_who_172 ?_
    refine e_iload (pc := 175) dX12_who_175 4 rfl ?_
    refine e_iconst (pc := 177) (v := (1 : Int32)) dX12_who_177 ic_1 ?_
    refine e_aload_n (pc := 178) dX12_who_178 0 rfl rfl ?_
    refine g_I (pc := 179) kk54 fl_X12_128 dX12_who_179 ?_
    refine e_ishl (pc := 182) dX12_who_182 ?_
    refine e_iconst (pc := 183) (v := (1 : Int32)) dX12_who_183 ic_1 ?_
    refine e_isub (pc := 184) dX12_who_184 ?_
    refine e_iast (pc := 185) kk77 dX12_who_185 (fun w12 => ?_)
    refine e_iinc (pc := 186) (lv' := [(5, .int (x5 + (1 : Int32))), (0, .ref (xa X 54)), (2, .int x2), (3, .int x3), (4, .int x4)]) dX12_who_186 4 rfl (ii_1 _) (Nat.le_of_ble_eq_true rfl) rfl ?_
    refine e_goto (pc := 189) (tgt := 165) dX12_who_189 (by decide) ?_
    refine e_lv [1, 2, 3, 4, 0] rfl ?_
    exact hk165 x2 x3 x4 (x5 + (1 : Int32)) w12
theorem cb_X12_who_b165 (X : Xt) : ∀ (n : Nat) (x2 : Int32) (x3 : Int32) (x4 : Int32) (x5 : Int32) (w : Wd), E gWI X m_X12_who 86 165 [(0, .ref (xa X 54)), (2, .int x2), (3, .int x3), (4, .int x4), (5, .int x5)] [] w (f_X12_who_b165 n x2 x3 x4 x5 w) := by
  intro n
  induction n with
  | zero =>
    intro x2 x3 x4 x5 w
    exact E_none
  | succ n ih =>
    intro x2 x3 x4 x5 w
    exact cb_X12_who_b165_y X _ ih x2 x3 x4 x5 w
set_option maxRecDepth 100000 in
set_option maxHeartbeats 4000000 in
theorem cb_X12_who_b152 (X : Xt) (x2 : Int32) (x3 : Int32) (x4 : Int32) (w : Wd) : E gWI X m_X12_who 86 152 [(0, .ref (xa X 54)), (2, .int x2), (3, .int x3), (4, .int x4)] [] w (f_X12_who_b152 x2 x3 x4 w) := by
  unfold f_X12_who_b152
  refine e_aload_n (pc := 152) dX12_who_152 0 rfl rfl ?_
  refine e_iconst (pc := 153) (v := (0 : Int32)) dX12_who_153 ic_0 ?_
  refine p_I (pc := 154) kk54 fp_X12_358 dX12_who_154 (fun w6 => ?_)
  refine e_aload_n (pc := 157) dX12_who_157 0 rfl rfl ?_
  refine e_lconst (pc := 158) (v := (0 : Int64)) dX12_who_158 lc_0 ?_
  refine p_L (pc := 159) kk54 fp_X12_361 dX12_who_159 (fun w7 => ?_)
  refine e_iconst (pc := 162) (v := (0 : Int32)) dX12_who_162 ic_0 ?_
  refine e_istore (pc := 163) (lv' := [(5, .int (0 : Int32)), (0, .ref (xa X 54)), (2, .int x2), (3, .int x3), (4, .int x4)]) dX12_who_163 (Nat.le_of_ble_eq_true rfl) rfl ?_
  refine e_lv [1, 2, 3, 4, 0] rfl ?_
  exact cb_X12_who_b165 X fu x2 x3 x4 (0 : Int32) w7
set_option maxRecDepth 100000 in
set_option maxHeartbeats 4000000 in
theorem cb_X12_who_b131 (X : Xt) (x2 : Int32) (x3 : Int32) (x4 : Int32) (w : Wd) : E gWI X m_X12_who 86 131 [(0, .ref (xa X 54)), (2, .int x2), (3, .int x3), (4, .int x4)] [] w (f_X12_who_b131 x2 x3 x4 w) := by
  unfold f_X12_who_b131
  refine e_iload_n (pc := 131) dX12_who_131 2 rfl rfl ?_
  refine e_if_le (pc := 132) (tgt := 152) dX12_who_132 (by decide) (fun _ => ?_) (fun _ => ?_)
  · refine e_lv [0, 1, 2, 3] rfl ?_
    exact cb_X12_who_b152 X x2 x3 x4 w
  · refine e_iload (pc := 135) dX12_who_135 3 rfl ?_
    refine e_iconst (pc := 137) (v := (0 : Int32)) dX12_who_137 ic_0 ?_
    refine e_aload_n (pc := 138) dX12_who_138 0 rfl rfl ?_
    refine g_I (pc := 139) kk54 fl_X12_355 dX12_who_139 ?_
    refine e_iconst (pc := 142) (v := (1 : Int32)) dX12_who_142 ic_1 ?_
    refine e_isub (pc := 143) dX12_who_143 ?_
    refine e_callSRI (pc := 144) (As := [.int x4, .int (0 : Int32), .int ((gi w 54 38) - (1 : Int32))]) (rest := []) (cf_X12_in X x4 (0 : Int32) ((gi w 54 38) - (1 : Int32)) w) lk_X12_124 (Nat.le_of_ble_eq_true rfl) (Nat.le_of_ble_eq_true rfl) rfl rfl (Nat.le_of_ble_eq_true rfl) dX12_who_144 (fun r13 => ?_)
    refine e_if_ne (pc := 147) (tgt := 152) dX12_who_147 (by decide) (fun _ => ?_) (fun _ => ?_)
    · refine e_iconst (pc := 150) (v := (-1 : Int32)) dX12_who_150 ic_m1 ?_
      exact e_iretW rfl dX12_who_151
    · refine e_lv [0, 1, 2, 3] rfl ?_
      exact cb_X12_who_b152 X x2 x3 x4 w
set_option maxRecDepth 100000 in
set_option maxHeartbeats 4000000 in
theorem cb_X12_who_b62_y (X : Xt) (k62 : Int32 → Int32 → Int32 → Int32 → Wd → Option (Int32 × Wd)) (hk62 : ∀ (x1 : Int32) (x2 : Int32) (x3 : Int32) (x4 : Int32)  (w : Wd), E gWI X m_X12_who 86 62 [(0, .ref (xa X 54)), (1, .int x1), (2, .int x2), (3, .int x3), (4, .int x4)] [] w (k62 x1 x2 x3 x4 w)) (x1 : Int32) (x2 : Int32) (x3 : Int32) (x4 : Int32) (w : Wd) : E gWI X m_X12_who 86 62 [(0, .ref (xa X 54)), (1, .int x1), (2, .int x2), (3, .int x3), (4, .int x4)] [] w (f_X12_who_b62_y k62 x1 x2 x3 x4 w) := by
  unfold f_X12_who_b62_y
  refine e_aload_n (pc := 62) dX12_who_62 0 rfl rfl ?_
  refine g_I (pc := 63) kk54 fl_X12_355 dX12_who_63 ?_
  refine e_iconst (pc := 66) (v := (4 : Int32)) dX12_who_66 ic_4 ?_
  refine e_icmp_ge (pc := 67) (tgt := 131) dX12_who_67 (by decide) (fun _ => ?_) (fun _ => ?_)
  · refine e_lv [0, 2, 3, 4] rfl ?_
    exact cb_X12_who_b131 X x2 x3 x4 w
  · refine e_aload_n (pc := 70) dX12_who_70 0 rfl rfl ?_
    refine g_I (pc := 71) kk54 fl_X12_355 dX12_who_71 ?_
    refine e_aload_n (pc := 74) dX12_who_74 0 rfl rfl ?_
    refine g_R (pc := 75) (cl' := 83) kk54 fl_X12_112 rfl dX12_who_75 ?_
    refine e_iload_n (pc := 78) dX12_who_78 1 rfl rfl ?_
    refine e_iald (pc := 79) kk83 dX12_who_79 (fun v14 => ?_)
    refine e_icmp_ge (pc := 80) (tgt := 131) dX12_who_80 (by decide) (fun _ => ?_) (fun _ => ?_)
    · refine e_lv [0, 2, 3, 4] rfl ?_
      exact cb_X12_who_b131 X x2 x3 x4 w
    · refine e_aload_n (pc := 83) dX12_who_83 0 rfl rfl ?_
      refine e_iload_n (pc := 84) dX12_who_84 1 rfl rfl ?_
      refine e_aload_n (pc := 85) dX12_who_85 0 rfl rfl ?_
      refine g_I (pc := 86) kk54 fl_X12_355 dX12_who_86 ?_
      refine e_callVRI (pc := 89) (As := [.int x1, .int (gi w 54 38)]) (rest := []) kk54 Kc12 (cf_X12_byteAt X x1 (gi w 54 38) w) lk_X12_271 (Nat.le_of_ble_eq_true rfl) (Nat.le_of_ble_eq_true rfl) rfl rfl (Nat.le_of_ble_eq_true rfl) dX12_who_89 (fun r15 => ?_)
      refine e_iconst (pc := 92) (v := (0 : Int32)) dX12_who_92 ic_0 ?_
      refine e_iconst (pc := 93) (v := (3 : Int32)) dX12_who_93 ic_3 ?_
      refine e_callSRI (pc := 94) (As := [.int r15, .int (0 : Int32), .int (3 : Int32)]) (rest := []) (cf_X12_in X r15 (0 : Int32) (3 : Int32) w) lk_X12_124 (Nat.le_of_ble_eq_true rfl) (Nat.le_of_ble_eq_true rfl) rfl rfl (Nat.le_of_ble_eq_true rfl) dX12_who_94 (fun r16 => ?_)
      refine e_if_eq (pc := 97) (tgt := 131) dX12_who_97 (by decide) (fun _ => ?_) (fun _ => ?_)
      · refine e_lv [0, 2, 3, 4] rfl ?_
        exact cb_X12_who_b131 X x2 x3 x4 w
      · refine e_aload_n (pc := 100) dX12_who_100 0 rfl rfl ?_
        refine g_R (pc := 101) (cl' := 74) kk54 fl_X12_85 rfl dX12_who_101 ?_
        refine e_aload_n (pc := 104) dX12_who_104 0 rfl rfl ?_
        refine g_I (pc := 105) kk54 fl_X12_355 dX12_who_105 ?_
        refine e_aload_n (pc := 108) dX12_who_108 0 rfl rfl ?_
        refine e_iload_n (pc := 109) dX12_who_109 1 rfl rfl ?_
        refine e_aload_n (pc := 110) dX12_who_110 0 rfl rfl ?_
        refine g_I (pc := 111) kk54 fl_X12_355 dX12_who_111 ?_
        refine e_callVRI (pc := 114) (As := [.int x1, .int (gi w 54 38)]) (rest := [.int (gi w 54 38), .ref (xa X 74)]) kk54 Kc12 (cf_X12_byteAt X x1 (gi w 54 38) w) lk_X12_271 (Nat.le_of_ble_eq_true rfl) (Nat.le_of_ble_eq_true rfl) rfl rfl (Nat.le_of_ble_eq_true rfl) dX12_who_114 (fun r17 => ?_)
        refine e_iast (pc := 117) kk74 dX12_who_117 (fun w18 => ?_)
        refine e_aload_n (pc := 118) dX12_who_118 0 rfl rfl ?_
        refine e_dup (pc := 119) dX12_who_119 rfl ?_
        refine g_I (pc := 120) kk54 fl_X12_355 dX12_who_120 ?_
        refine e_iconst (pc := 123) (v := (1 : Int32)) dX12_who_123 ic_1 ?_
        refine e_iadd (pc := 124) dX12_who_124 ?_
        refine p_I (pc := 125) kk54 fp_X12_355 dX12_who_125 (fun w19 => ?_)
        refine e_goto (pc := 128) (tgt := 62) dX12_who_128 (by decide) ?_
        refine e_lv [0, 1, 2, 3, 4] rfl ?_
        exact hk62 x1 x2 x3 x4 w19
theorem cb_X12_who_b62 (X : Xt) : ∀ (n : Nat) (x1 : Int32) (x2 : Int32) (x3 : Int32) (x4 : Int32) (w : Wd), E gWI X m_X12_who 86 62 [(0, .ref (xa X 54)), (1, .int x1), (2, .int x2), (3, .int x3), (4, .int x4)] [] w (f_X12_who_b62 n x1 x2 x3 x4 w) := by
  intro n
  induction n with
  | zero =>
    intro x1 x2 x3 x4 w
    exact E_none
  | succ n ih =>
    intro x1 x2 x3 x4 w
    exact cb_X12_who_b62_y X _ ih x1 x2 x3 x4 w
set_option maxRecDepth 100000 in
set_option maxHeartbeats 4000000 in
theorem cb_X12_who_b51 (X : Xt) (x1 : Int32) (w : Wd) : E gWI X m_X12_who 86 51 [(0, .ref (xa X 54)), (1, .int x1)] [] w (f_X12_who_b51 x1 w) := by
  unfold f_X12_who_b51
  refine e_aload_n (pc := 51) dX12_who_51 0 rfl rfl ?_
  refine e_iload_n (pc := 52) dX12_who_52 1 rfl rfl ?_
  refine e_callVRI (pc := 53) (As := [.int x1]) (rest := []) kk54 Kc12 (cf_X12_rowFault X x1 w) lk_X12_280 (Nat.le_of_ble_eq_true rfl) (Nat.le_of_ble_eq_true rfl) rfl rfl (Nat.le_of_ble_eq_true rfl) dX12_who_53 (fun r20 => ?_)
  exact e_iretW rfl dX12_who_56
set_option maxRecDepth 100000 in
set_option maxHeartbeats 4000000 in
theorem ce_X12_who (X : Xt) (a1 : Int32) (a2 : Int32) (a3 : Int32) (a4 : Int32) (w : Wd) : E gWI X m_X12_who 86 0 [(0, .ref (xa X 54)), (1, .int a1), (2, .int a2), (3, .int a3), (4, .int a4)] [] w (f_X12_who a1 a2 a3 a4 w) := by
  unfold f_X12_who
  refine e_iload_n (pc := 0) dX12_who_0 1 rfl rfl ?_
  refine e_callSRI (pc := 1) (As := [.int a1]) (rest := []) (cf_X12_isShelf X a1 w) lk_X12_135 (Nat.le_of_ble_eq_true rfl) (Nat.le_of_ble_eq_true rfl) rfl rfl (Nat.le_of_ble_eq_true rfl) dX12_who_1 (fun r1 => ?_)
  refine e_if_eq (pc := 4) (tgt := 23) dX12_who_4 (by decide) (fun _ => ?_) (fun _ => ?_)
  · refine e_iconst (pc := 23) (v := (-1 : Int32)) dX12_who_23 ic_m1 ?_
    exact e_iretW rfl dX12_who_24
  · refine e_iload_n (pc := 7) dX12_who_7 2 rfl rfl ?_
    refine e_callSRI (pc := 8) (As := [.int a2]) (rest := []) (cf_X12_isBag X a2 w) lk_X12_155 (Nat.le_of_ble_eq_true rfl) (Nat.le_of_ble_eq_true rfl) rfl rfl (Nat.le_of_ble_eq_true rfl) dX12_who_8 (fun r2 => ?_)
    refine e_if_eq (pc := 11) (tgt := 23) dX12_who_11 (by decide) (fun _ => ?_) (fun _ => ?_)
    · refine e_iconst (pc := 23) (v := (-1 : Int32)) dX12_who_23 ic_m1 ?_
      exact e_iretW rfl dX12_who_24
    · refine e_iload_n (pc := 14) dX12_who_14 3 rfl rfl ?_
      refine e_iconst (pc := 15) (v := (0 : Int32)) dX12_who_15 ic_0 ?_
      refine e_iconst (pc := 16) (v := (2 : Int32)) dX12_who_16 ic_2 ?_
      refine e_callSRI (pc := 17) (As := [.int a3, .int (0 : Int32), .int (2 : Int32)]) (rest := []) (cf_X12_in X a3 (0 : Int32) (2 : Int32) w) lk_X12_124 (Nat.le_of_ble_eq_true rfl) (Nat.le_of_ble_eq_true rfl) rfl rfl (Nat.le_of_ble_eq_true rfl) dX12_who_17 (fun r3 => ?_)
      refine e_if_ne (pc := 20) (tgt := 25) dX12_who_20 (by decide) (fun _ => ?_) (fun _ => ?_)
      · refine e_iconst (pc := 23) (v := (-1 : Int32)) dX12_who_23 ic_m1 ?_
        exact e_iretW rfl dX12_who_24
      · refine e_aload_n (pc := 25) dX12_who_25 0 rfl rfl ?_
        refine e_iload_n (pc := 26) dX12_who_26 1 rfl rfl ?_
        refine e_callVRI (pc := 27) (As := [.int a1]) (rest := []) kk54 Kc12 (cf_X12_rowFault X a1 w) lk_X12_280 (Nat.le_of_ble_eq_true rfl) (Nat.le_of_ble_eq_true rfl) rfl rfl (Nat.le_of_ble_eq_true rfl) dX12_who_27 (fun r4 => ?_)
        refine e_if_ge (pc := 30) (tgt := 57) dX12_who_30 (by decide) (fun _ => ?_) (fun _ => ?_)
        · refine e_aload_n (pc := 57) dX12_who_57 0 rfl rfl ?_
          refine e_iconst (pc := 58) (v := (0 : Int32)) dX12_who_58 ic_0 ?_
          refine p_I (pc := 59) kk54 fp_X12_355 dX12_who_59 (fun w5 => ?_)
          refine e_lv [0, 1, 2, 3, 4] rfl ?_
          exact cb_X12_who_b62 X fu a1 a2 a3 a4 w5
        · refine e_iload_n (pc := 33) dX12_who_33 3 rfl rfl ?_
          refine e_if_le (pc := 34) (tgt := 51) dX12_who_34 (by decide) (fun _ => ?_) (fun _ => ?_)
          · refine e_lv [0, 1] rfl ?_
            exact cb_X12_who_b51 X a1 w
          · refine e_iload (pc := 37) dX12_who_37 4 rfl ?_
            refine e_iconst (pc := 39) (v := (0 : Int32)) dX12_who_39 ic_0 ?_
            refine e_iconst (pc := 40) (v := (3 : Int32)) dX12_who_40 ic_3 ?_
            refine e_callSRI (pc := 41) (As := [.int a4, .int (0 : Int32), .int (3 : Int32)]) (rest := []) (cf_X12_in X a4 (0 : Int32) (3 : Int32) w) lk_X12_124 (Nat.le_of_ble_eq_true rfl) (Nat.le_of_ble_eq_true rfl) rfl rfl (Nat.le_of_ble_eq_true rfl) dX12_who_41 (fun r21 => ?_)
            refine e_if_ne (pc := 44) (tgt := 51) dX12_who_44 (by decide) (fun _ => ?_) (fun _ => ?_)
            · refine e_iconst (pc := 47) (v := (-1 : Int32)) dX12_who_47 ic_m1 ?_
              refine e_goto (pc := 48) (tgt := 56) dX12_who_48 (by decide) ?_
              exact e_iretW rfl dX12_who_56
            · refine e_lv [0, 1] rfl ?_
              exact cb_X12_who_b51 X a1 w
theorem cf_X12_who (X : Xt) (a1 : Int32) (a2 : Int32) (a3 : Int32) (a4 : Int32) (w : Wd) : CF gWI X m_X12_who 86 [.ref (xa X 54), .int a1, .int a2, .int a3, .int a4] w (f_X12_who a1 a2 a3 a4 w) := CF_of (by decide) (Nat.le_of_ble_eq_true rfl) (ce_X12_who X a1 a2 a3 a4 w)
