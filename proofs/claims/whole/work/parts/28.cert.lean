set_option maxRecDepth 100000 in
set_option maxHeartbeats 4000000 in
theorem ce_X12_draw (X : Xt) (a1 : Int32) (w : Wd) : E gWI X m_X12_draw 1 0 [(0, .ref (xa X 54)), (1, .int a1)] [] w (f_X12_draw a1 w) := by
  unfold f_X12_draw
  refine e_aload_n (pc := 0) dX12_draw_0 0 rfl rfl ?_
  refine e_aload_n (pc := 1) dX12_draw_1 0 rfl rfl ?_
  refine g_I (pc := 2) kk54 fl_X12_368 dX12_draw_2 ?_
  refine e_ldc_w (pc := 5) (v := (1103515245 : Int32)) dX12_draw_5 co_X12_371 ?_
  refine e_imul (pc := 8) dX12_draw_8 ?_
  refine e_sipush (pc := 9) (v := (12345 : Int32)) dX12_draw_9 sp_12345 ?_
  refine e_iadd (pc := 12) dX12_draw_12 ?_
  refine p_I (pc := 13) kk54 fp_X12_368 dX12_draw_13 (fun w1 => ?_)
  refine e_aload_n (pc := 16) dX12_draw_16 0 rfl rfl ?_
  refine g_I (pc := 17) kk54 fl_X12_368 dX12_draw_17 ?_
  refine e_bipush (pc := 20) (v := (8 : Int32)) dX12_draw_20 bp_8 ?_
  refine e_iushr (pc := 22) dX12_draw_22 ?_
  refine e_iload_n (pc := 23) dX12_draw_23 1 rfl rfl ?_
  refine e_iremG (pc := 24) dX12_draw_24 (fun v2 => ?_)
  exact e_iretW rfl dX12_draw_25
theorem cf_X12_draw (X : Xt) (a1 : Int32) (w : Wd) : CF gWI X m_X12_draw 1 [.ref (xa X 54), .int a1] w (f_X12_draw a1 w) := CF_of (by decide) (Nat.le_of_ble_eq_true rfl) (ce_X12_draw X a1 w)
set_option maxRecDepth 100000 in
set_option maxHeartbeats 4000000 in
theorem cb_X12_drawStones_b22_y (X : Xt) (k22 : Int32 → Int32 → Int32 → Wd → Option (Int32 × Wd)) (hk22 : ∀ (x1 : Int32) (x2 : Int32) (x3 : Int32)  (w : Wd), E gWI X m_X12_drawStones 2 22 [(0, .ref (xa X 54)), (1, .int x1), (2, .int x2), (3, .int x3)] [] w (k22 x1 x2 x3 w)) (x1 : Int32) (x2 : Int32) (x3 : Int32) (w : Wd) : E gWI X m_X12_drawStones 2 22 [(0, .ref (xa X 54)), (1, .int x1), (2, .int x2), (3, .int x3)] [] w (f_X12_drawStones_b22_y k22 x1 x2 x3 w) := by
  unfold f_X12_drawStones_b22_y
  refine e_iload_n (pc := 22) dX12_drawStones_22 2 rfl rfl ?_
  refine e_aload_n (pc := 23) dX12_drawStones_23 0 rfl rfl ?_
  refine g_R (pc := 24) (cl' := 55) kk54 fl_X12_9 rfl dX12_drawStones_24 ?_
  refine e_iconst (pc := 27) (v := (4 : Int32)) dX12_drawStones_27 ic_4 ?_
  refine e_iload_n (pc := 28) dX12_drawStones_28 1 rfl rfl ?_
  refine e_imul (pc := 29) dX12_drawStones_29 ?_
  refine e_iload_n (pc := 30) dX12_drawStones_30 3 rfl rfl ?_
  refine e_iadd (pc := 31) dX12_drawStones_31 ?_
  refine e_iald (pc := 32) kk55 dX12_drawStones_32 (fun v5 => ?_)
  refine e_icmp_lt (pc := 33) (tgt := 55) dX12_drawStones_33 (by decide) (fun _ => ?_) (fun _ => ?_)
  · refine e_iload_n (pc := 55) dX12_drawStones_55 3 rfl rfl ?_
    exact e_iretW rfl dX12_drawStones_56
  · refine e_iload_n (pc := 36) dX12_drawStones_36 2 rfl rfl ?_
    refine e_aload_n (pc := 37) dX12_drawStones_37 0 rfl rfl ?_
    refine g_R (pc := 38) (cl' := 55) kk54 fl_X12_9 rfl dX12_drawStones_38 ?_
    refine e_iconst (pc := 41) (v := (4 : Int32)) dX12_drawStones_41 ic_4 ?_
    refine e_iload_n (pc := 42) dX12_drawStones_42 1 rfl rfl ?_
    refine e_imul (pc := 43) dX12_drawStones_43 ?_
    refine e_iload_n (pc := 44) dX12_drawStones_44 3 rfl rfl ?_
    refine e_iadd (pc := 45) dX12_drawStones_45 ?_
    refine e_iald (pc := 46) kk55 dX12_drawStones_46 (fun v6 => ?_)
    refine e_isub (pc := 47) dX12_drawStones_47 ?_
    refine e_nameI (fun y7 => ?_)
    refine e_istore_n (pc := 48) (lv' := [(2, .int y7), (0, .ref (xa X 54)), (1, .int x1), (3, .int x3)]) dX12_drawStones_48 rfl (Nat.le_of_ble_eq_true rfl) rfl ?_
    refine e_iinc (pc := 49) (lv' := [(3, .int (x3 + (1 : Int32))), (2, .int y7), (0, .ref (xa X 54)), (1, .int x1)]) dX12_drawStones_49 3 rfl (ii_1 _) (Nat.le_of_ble_eq_true rfl) rfl ?_
    refine e_goto (pc := 52) (tgt := 22) dX12_drawStones_52 (by decide) ?_
    refine e_lv [2, 3, 1, 0] rfl ?_
    exact hk22 x1 y7 (x3 + (1 : Int32)) w
theorem cb_X12_drawStones_b22 (X : Xt) : ∀ (n : Nat) (x1 : Int32) (x2 : Int32) (x3 : Int32) (w : Wd), E gWI X m_X12_drawStones 2 22 [(0, .ref (xa X 54)), (1, .int x1), (2, .int x2), (3, .int x3)] [] w (f_X12_drawStones_b22 n x1 x2 x3 w) := by
  intro n
  induction n with
  | zero =>
    intro x1 x2 x3 w
    exact E_none
  | succ n ih =>
    intro x1 x2 x3 w
    exact cb_X12_drawStones_b22_y X _ ih x1 x2 x3 w
set_option maxRecDepth 100000 in
set_option maxHeartbeats 4000000 in
theorem ce_X12_drawStones (X : Xt) (a1 : Int32) (w : Wd) : E gWI X m_X12_drawStones 2 0 [(0, .ref (xa X 54)), (1, .int a1)] [] w (f_X12_drawStones a1 w) := by
  unfold f_X12_drawStones
  refine e_aload_n (pc := 0) dX12_drawStones_0 0 rfl rfl ?_
  refine e_iload_n (pc := 1) dX12_drawStones_1 1 rfl rfl ?_
  refine e_callVRI (pc := 2) (As := [.int a1]) (rest := []) kk54 Kc12 (cf_X12_allWeights X a1 w) lk_X12_249 (Nat.le_of_ble_eq_true rfl) (Nat.le_of_ble_eq_true rfl) rfl rfl (Nat.le_of_ble_eq_true rfl) dX12_drawStones_2 (fun r1 => ?_)
  refine e_if_ne (pc := 5) (tgt := 10) dX12_drawStones_5 (by decide) (fun _ => ?_) (fun _ => ?_)
  · refine e_iconst (pc := 8) (v := (0 : Int32)) dX12_drawStones_8 ic_0 ?_
    exact e_iretW rfl dX12_drawStones_9
  · refine e_aload_n (pc := 10) dX12_drawStones_10 0 rfl rfl ?_
    refine e_aload_n (pc := 11) dX12_drawStones_11 0 rfl rfl ?_
    refine e_iload_n (pc := 12) dX12_drawStones_12 1 rfl rfl ?_
    refine e_callVRI (pc := 13) (As := [.int a1]) (rest := [.ref (xa X 54)]) kk54 Kc12 (cf_X12_allWeights X a1 w) lk_X12_249 (Nat.le_of_ble_eq_true rfl) (Nat.le_of_ble_eq_true rfl) rfl rfl (Nat.le_of_ble_eq_true rfl) dX12_drawStones_13 (fun r2 => ?_)
    refine e_callVWI (pc := 16) (As := [.int r2]) (rest := []) kk54 Kc12 (cf_X12_draw X r2 w) lk_X12_372 (Nat.le_of_ble_eq_true rfl) (Nat.le_of_ble_eq_true rfl) rfl rfl (Nat.le_of_ble_eq_true rfl) dX12_drawStones_16 (fun r3 w4 => ?_)
    refine e_istore_n (pc := 19) (lv' := [(2, .int r3), (0, .ref (xa X 54)), (1, .int a1)]) dX12_drawStones_19 rfl (Nat.le_of_ble_eq_true rfl) rfl ?_
    refine e_iconst (pc := 20) (v := (0 : Int32)) dX12_drawStones_20 ic_0 ?_
    refine e_istore_n (pc := 21) (lv' := [(3, .int (0 : Int32)), (2, .int r3), (0, .ref (xa X 54)), (1, .int a1)]) dX12_drawStones_21 rfl (Nat.le_of_ble_eq_true rfl) rfl ?_
    refine e_lv [2, 3, 1, 0] rfl ?_
    exact cb_X12_drawStones_b22 X fu a1 r3 (0 : Int32) w4
theorem cf_X12_drawStones (X : Xt) (a1 : Int32) (w : Wd) : CF gWI X m_X12_drawStones 2 [.ref (xa X 54), .int a1] w (f_X12_drawStones a1 w) := CF_of (by decide) (Nat.le_of_ble_eq_true rfl) (ce_X12_drawStones X a1 w)
set_option maxRecDepth 100000 in
set_option maxHeartbeats 4000000 in
theorem cb_X12_drawFound_b24 (X : Xt) (k5 : Int32 → Int32 → Int32 → Int32 → Wd → Option (Int32 × Wd)) (hk5 : ∀ (x1 : Int32) (x2 : Int32) (x3 : Int32) (x4 : Int32)  (w : Wd), E gWI X m_X12_drawFound 2 5 [(0, .ref (xa X 54)), (1, .int x1), (2, .int x2), (3, .int x3), (4, .int x4)] [] w (k5 x1 x2 x3 x4 w)) (x1 : Int32) (x2 : Int32) (x3 : Int32) (x4 : Int32) (w : Wd) : E gWI X m_X12_drawFound 2 24 [(0, .ref (xa X 54)), (1, .int x1), (2, .int x2), (3, .int x3), (4, .int x4)] [] w (f_X12_drawFound_b24 k5 x1 x2 x3 x4 w) := by
  unfold f_X12_drawFound_b24
  refine e_iinc (pc := 24) (lv' := [(4, .int (x4 + (1 : Int32))), (0, .ref (xa X 54)), (1, .int x1), (2, .int x2), (3, .int x3)]) dX12_drawFound_24 4 rfl (ii_1 _) (Nat.le_of_ble_eq_true rfl) rfl ?_
  refine e_goto (pc := 27) (tgt := 5) dX12_drawFound_27 (by decide) ?_
  refine e_lv [1, 2, 3, 4, 0] rfl ?_
  exact hk5 x1 x2 x3 (x4 + (1 : Int32)) w
set_option maxRecDepth 100000 in
set_option maxHeartbeats 4000000 in
theorem cb_X12_drawFound_b5_y (X : Xt) (k5 : Int32 → Int32 → Int32 → Int32 → Wd → Option (Int32 × Wd)) (hk5 : ∀ (x1 : Int32) (x2 : Int32) (x3 : Int32) (x4 : Int32)  (w : Wd), E gWI X m_X12_drawFound 2 5 [(0, .ref (xa X 54)), (1, .int x1), (2, .int x2), (3, .int x3), (4, .int x4)] [] w (k5 x1 x2 x3 x4 w)) (x1 : Int32) (x2 : Int32) (x3 : Int32) (x4 : Int32) (w : Wd) : E gWI X m_X12_drawFound 2 5 [(0, .ref (xa X 54)), (1, .int x1), (2, .int x2), (3, .int x3), (4, .int x4)] [] w (f_X12_drawFound_b5_y k5 x1 x2 x3 x4 w) := by
  unfold f_X12_drawFound_b5_y
  refine e_iload (pc := 5) dX12_drawFound_5 4 rfl ?_
  refine e_iload_n (pc := 7) dX12_drawFound_7 1 rfl rfl ?_
  refine e_icmp_ge (pc := 8) (tgt := 30) dX12_drawFound_8 (by decide) (fun _ => ?_) (fun _ => ?_)
  · refine e_iload_n (pc := 30) dX12_drawFound_30 3 rfl rfl ?_
    exact e_iretW rfl dX12_drawFound_31
  · refine e_aload_n (pc := 11) dX12_drawFound_11 0 rfl rfl ?_
    refine e_bipush (pc := 12) (v := (12 : Int32)) dX12_drawFound_12 bp_12 ?_
    refine e_callVWI (pc := 14) (As := [.int (12 : Int32)]) (rest := []) kk54 Kc12 (cf_X12_draw X (12 : Int32) w) lk_X12_372 (Nat.le_of_ble_eq_true rfl) (Nat.le_of_ble_eq_true rfl) rfl rfl (Nat.le_of_ble_eq_true rfl) dX12_drawFound_14 (fun r1 w2 => ?_)
    refine e_iload_n (pc := 17) dX12_drawFound_17 2 rfl rfl ?_
    refine e_icmp_ge (pc := 18) (tgt := 24) dX12_drawFound_18 (by decide) (fun _ => ?_) (fun _ => ?_)
    · refine e_lv [0, 1, 2, 3, 4] rfl ?_
      exact cb_X12_drawFound_b24 X k5 hk5 x1 x2 x3 x4 w2
    · refine e_iinc (pc := 21) (lv' := [(3, .int (x3 + (1 : Int32))), (0, .ref (xa X 54)), (1, .int x1), (2, .int x2), (4, .int x4)]) dX12_drawFound_21 3 rfl (ii_1 _) (Nat.le_of_ble_eq_true rfl) rfl ?_
      refine e_lv [1, 2, 3, 0, 4] rfl ?_
      exact cb_X12_drawFound_b24 X k5 hk5 x1 x2 (x3 + (1 : Int32)) x4 w2
theorem cb_X12_drawFound_b5 (X : Xt) : ∀ (n : Nat) (x1 : Int32) (x2 : Int32) (x3 : Int32) (x4 : Int32) (w : Wd), E gWI X m_X12_drawFound 2 5 [(0, .ref (xa X 54)), (1, .int x1), (2, .int x2), (3, .int x3), (4, .int x4)] [] w (f_X12_drawFound_b5 n x1 x2 x3 x4 w) := by
  intro n
  induction n with
  | zero =>
    intro x1 x2 x3 x4 w
    exact E_none
  | succ n ih =>
    intro x1 x2 x3 x4 w
    exact cb_X12_drawFound_b5_y X _ ih x1 x2 x3 x4 w
set_option maxRecDepth 100000 in
set_option maxHeartbeats 4000000 in
theorem ce_X12_drawFound (X : Xt) (a1 : Int32) (a2 : Int32) (w : Wd) : E gWI X m_X12_drawFound 2 0 [(0, .ref (xa X 54)), (1, .int a1), (2, .int a2)] [] w (f_X12_drawFound a1 a2 w) := by
  unfold f_X12_drawFound
  refine e_iconst (pc := 0) (v := (0 : Int32)) dX12_drawFound_0 ic_0 ?_
  refine e_istore_n (pc := 1) (lv' := [(3, .int (0 : Int32)), (0, .ref (xa X 54)), (1, .int a1), (2, .int a2)]) dX12_drawFound_1 rfl (Nat.le_of_ble_eq_true rfl) rfl ?_
  refine e_iconst (pc := 2) (v := (0 : Int32)) dX12_drawFound_2 ic_0 ?_
  refine e_istore (pc := 3) (lv' := [(4, .int (0 : Int32)), (3, .int (0 : Int32)), (0, .ref (xa X 54)), (1, .int a1), (2, .int a2)]) dX12_drawFound_3 (Nat.le_of_ble_eq_true rfl) rfl ?_
  refine e_lv [2, 3, 4, 1, 0] rfl ?_
  exact cb_X12_drawFound_b5 X fu a1 a2 (0 : Int32) (0 : Int32) w
theorem cf_X12_drawFound (X : Xt) (a1 : Int32) (a2 : Int32) (w : Wd) : CF gWI X m_X12_drawFound 2 [.ref (xa X 54), .int a1, .int a2] w (f_X12_drawFound a1 a2 w) := CF_of (by decide) (Nat.le_of_ble_eq_true rfl) (ce_X12_drawFound X a1 a2 w)
set_option maxRecDepth 100000 in
set_option maxHeartbeats 4000000 in
theorem cb_X12_drawn_b188 (X : Xt) (k74 : Int32 → Int32 → Int32 → Int32 → Int32 → Int32 → Wd → Option (Int32 × Wd)) (hk74 : ∀ (x1 : Int32) (x3 : Int32) (x4 : Int32) (x5 : Int32) (x6 : Int32) (x7 : Int32)  (w : Wd), E gWI X m_X12_drawn 5 74 [(0, .ref (xa X 54)), (1, .int x1), (3, .int x3), (4, .int x4), (5, .int x5), (6, .int x6), (7, .int x7)] [] w (k74 x1 x3 x4 x5 x6 x7 w)) (x1 : Int32) (x3 : Int32) (x4 : Int32) (x5 : Int32) (x6 : Int32) (x7 : Int32) (x8 : Int32) (w : Wd) : E gWI X m_X12_drawn 5 188 [(0, .ref (xa X 54)), (1, .int x1), (3, .int x3), (4, .int x4), (5, .int x5), (6, .int x6), (7, .int x7), (8, .int x8)] [] w (f_X12_drawn_b188 k74 x1 x3 x4 x5 x6 x7 x8 w) := by
  unfold f_X12_drawn_b188
  refine e_iload (pc := 188) dX12_drawn_188 4 rfl ?_
  refine e_iload (pc := 190) dX12_drawn_190 7 rfl ?_
  refine e_iadd (pc := 192) dX12_drawn_192 ?_
  refine e_nameI (fun y9 => ?_)
  refine e_istore (pc := 193) (lv' := [(5, .int y9), (0, .ref (xa X 54)), (1, .int x1), (3, .int x3), (4, .int x4), (6, .int x6), (7, .int x7), (8, .int x8)]) dX12_drawn_193 (Nat.le_of_ble_eq_true rfl) rfl ?_
  refine e_iinc (pc := 195) (lv' := [(7, .int (x7 + (1 : Int32))), (5, .int y9), (0, .ref (xa X 54)), (1, .int x1), (3, .int x3), (4, .int x4), (6, .int x6), (8, .int x8)]) dX12_drawn_195 6 rfl (ii_1 _) (Nat.le_of_ble_eq_true rfl) rfl ?_
  refine e_goto (pc := 198) (tgt := 74) dX12_drawn_198 (by decide) ?_
  refine e_lv [2, 3, 4, 5, 1, 6, 0] rfl ?_
  exact hk74 x1 x3 x4 y9 x6 (x7 + (1 : Int32)) w
set_option maxRecDepth 100000 in
set_option maxHeartbeats 4000000 in
theorem cb_X12_drawn_b96_y (X : Xt) (k74 : Int32 → Int32 → Int32 → Int32 → Int32 → Int32 → Wd → Option (Int32 × Wd)) (hk74 : ∀ (x1 : Int32) (x3 : Int32) (x4 : Int32) (x5 : Int32) (x6 : Int32) (x7 : Int32)  (w : Wd), E gWI X m_X12_drawn 5 74 [(0, .ref (xa X 54)), (1, .int x1), (3, .int x3), (4, .int x4), (5, .int x5), (6, .int x6), (7, .int x7)] [] w (k74 x1 x3 x4 x5 x6 x7 w)) (k96 : Int32 → Int32 → Int32 → Int32 → Int32 → Int32 → Int32 → Int32 → Wd → Option (Int32 × Wd)) (hk96 : ∀ (x1 : Int32) (x3 : Int32) (x4 : Int32) (x5 : Int32) (x6 : Int32) (x7 : Int32) (x8 : Int32) (x9 : Int32)  (w : Wd), E gWI X m_X12_drawn 5 96 [(0, .ref (xa X 54)), (1, .int x1), (3, .int x3), (4, .int x4), (5, .int x5), (6, .int x6), (7, .int x7), (8, .int x8), (9, .int x9)] [] w (k96 x1 x3 x4 x5 x6 x7 x8 x9 w)) (x1 : Int32) (x3 : Int32) (x4 : Int32) (x5 : Int32) (x6 : Int32) (x7 : Int32) (x8 : Int32) (x9 : Int32) (w : Wd) : E gWI X m_X12_drawn 5 96 [(0, .ref (xa X 54)), (1, .int x1), (3, .int x3), (4, .int x4), (5, .int x5), (6, .int x6), (7, .int x7), (8, .int x8), (9, .int x9)] [] w (f_X12_drawn_b96_y k74 k96 x1 x3 x4 x5 x6 x7 x8 x9 w) := by
  unfold f_X12_drawn_b96_y
  refine e_iload (pc := 96) dX12_drawn_96 8 rfl ?_
  refine e_iconst (pc := 98) (v := (4 : Int32)) dX12_drawn_98 ic_4 ?_
  refine e_icmp_ge (pc := 99) (tgt := 188) dX12_drawn_99 (by decide) (fun _ => ?_) (fun _ => ?_)
  · refine e_lv [0, 1, 2, 3, 4, 5, 6, 7] rfl ?_
    exact cb_X12_drawn_b188 X k74 hk74 x1 x3 x4 x5 x6 x7 x8 w
  · refine e_iconst (pc := 102) (v := (2 : Int32)) dX12_drawn_102 ic_2 ?_
    refine e_iload (pc := 103) dX12_drawn_103 8 rfl ?_
    refine e_imul (pc := 105) dX12_drawn_105 ?_
    refine e_iconst (pc := 106) (v := (1 : Int32)) dX12_drawn_106 ic_1 ?_
    refine e_iadd (pc := 107) dX12_drawn_107 ?_
    refine e_aload_n (pc := 108) dX12_drawn_108 0 rfl rfl ?_
    refine g_R (pc := 109) (cl' := 83) kk54 fl_X12_112 rfl dX12_drawn_109 ?_
    refine e_iload_n (pc := 112) dX12_drawn_112 1 rfl rfl ?_
    refine e_iald (pc := 113) kk83 dX12_drawn_113 (fun v10 => ?_)
    refine e_icmp_ge (pc := 114) (tgt := 188) dX12_drawn_114 (by decide) (fun _ => ?_) (fun _ => ?_)
    · refine e_lv [0, 1, 2, 3, 4, 5, 6, 7] rfl ?_
      exact cb_X12_drawn_b188 X k74 hk74 x1 x3 x4 x5 x6 x7 x8 w
    · refine e_aload_n (pc := 117) dX12_drawn_117 0 rfl rfl ?_
      refine e_aload_n (pc := 118) dX12_drawn_118 0 rfl rfl ?_
      refine e_iload_n (pc := 119) dX12_drawn_119 1 rfl rfl ?_
      refine e_iconst (pc := 120) (v := (2 : Int32)) dX12_drawn_120 ic_2 ?_
      refine e_iload (pc := 121) dX12_drawn_121 8 rfl ?_
      refine e_imul (pc := 123) dX12_drawn_123 ?_
      refine e_callVRI (pc := 124) (As := [.int x1, .int ((2 : Int32) * x9)]) (rest := [.ref (xa X 54)]) kk54 Kc12 (cf_X12_byteAt X x1 ((2 : Int32) * x9) w) lk_X12_271 (Nat.le_of_ble_eq_true rfl) (Nat.le_of_ble_eq_true rfl) rfl rfl (Nat.le_of_ble_eq_true rfl) dX12_drawn_124 (fun r11 => ?_)
      refine e_callVRI (pc := 127) (As := [.int r11]) (rest := []) kk54 Kc12 (cf_X12_isLooker X r11 w) lk_X12_158 (Nat.le_of_ble_eq_true rfl) (Nat.le_of_ble_eq_true rfl) rfl rfl (Nat.le_of_ble_eq_true rfl) dX12_drawn_127 (fun r12 => ?_)
      refine e_if_eq (pc := 130) (tgt := 188) dX12_drawn_130 (by decide) (fun _ => ?_) (fun _ => ?_)
      · refine e_lv [0, 1, 2, 3, 4, 5, 6, 7] rfl ?_
        exact cb_X12_drawn_b188 X k74 hk74 x1 x3 x4 x5 x6 x7 x8 w
      · refine e_iload (pc := 133) dX12_drawn_133 7 rfl ?_
        refine e_aload_n (pc := 135) dX12_drawn_135 0 rfl rfl ?_
        refine e_iload (pc := 136) dX12_drawn_136 7 rfl ?_
        refine e_aload_n (pc := 138) dX12_drawn_138 0 rfl rfl ?_
        refine e_aload_n (pc := 139) dX12_drawn_139 0 rfl rfl ?_
        refine e_iload_n (pc := 140) dX12_drawn_140 1 rfl rfl ?_
        refine e_iconst (pc := 141) (v := (2 : Int32)) dX12_drawn_141 ic_2 ?_
        refine e_iload (pc := 142) dX12_drawn_142 8 rfl ?_
        refine e_imul (pc := 144) dX12_drawn_144 ?_
        refine e_callVRI (pc := 145) (As := [.int x1, .int ((2 : Int32) * x9)]) (rest := [.ref (xa X 54), .int x8, .ref (xa X 54), .int x8]) kk54 Kc12 (cf_X12_byteAt X x1 ((2 : Int32) * x9) w) lk_X12_271 (Nat.le_of_ble_eq_true rfl) (Nat.le_of_ble_eq_true rfl) rfl rfl (Nat.le_of_ble_eq_true rfl) dX12_drawn_145 (fun r13 => ?_)
        refine e_iload (pc := 148) dX12_drawn_148 8 rfl ?_
        refine e_aload_n (pc := 150) dX12_drawn_150 0 rfl rfl ?_
        refine g_I (pc := 151) kk54 fl_X12_28 dX12_drawn_151 ?_
        refine e_callVWI (pc := 154) (As := [.int r13, .int x9, .int (gi w 54 8)]) (rest := [.int x8, .ref (xa X 54), .int x8]) kk54 Kc12 (cf_X12_findsBy X r13 x9 (gi w 54 8) w) lk_X12_246 (Nat.le_of_ble_eq_true rfl) (Nat.le_of_ble_eq_true rfl) rfl rfl (Nat.le_of_ble_eq_true rfl) dX12_drawn_154 (fun r14 w15 => ?_)
        refine e_callVWI (pc := 157) (As := [.int x8, .int r14]) (rest := [.int x8]) kk54 Kc12 (cf_X12_drawFound X x8 r14 w15) lk_X12_378 (Nat.le_of_ble_eq_true rfl) (Nat.le_of_ble_eq_true rfl) rfl rfl (Nat.le_of_ble_eq_true rfl) dX12_drawn_157 (fun r16 w17 => ?_)
        refine e_isub (pc := 160) dX12_drawn_160 ?_
        refine e_nameI (fun y18 => ?_)
        refine e_istore (pc := 161) (lv' := [(8, .int y18), (0, .ref (xa X 54)), (1, .int x1), (3, .int x3), (4, .int x4), (5, .int x5), (6, .int x6), (7, .int x7), (9, .int x9)]) dX12_drawn_161 (Nat.le_of_ble_eq_true rfl) rfl ?_
        refine e_iload (pc := 163) dX12_drawn_163 6 rfl ?_
        refine e_aload_n (pc := 165) dX12_drawn_165 1 rfl rfl ?_
        refine g_R (pc := 166) (cl' := 58) kk54 fl_X12_21 rfl dX12_drawn_166 ?_
        refine e_aload_n (pc := 169) dX12_drawn_169 1 rfl rfl ?_
        refine e_iload_n (pc := 170) dX12_drawn_170 2 rfl rfl ?_
        refine e_iconst (pc := 171) (v := (2 : Int32)) dX12_drawn_171 ic_2 ?_
        refine e_iload (pc := 172) dX12_drawn_172 8 rfl ?_
        refine e_imul (pc := 174) dX12_drawn_174 ?_
        refine e_callVRI (pc := 175) (As := [.int x1, .int ((2 : Int32) * x9)]) (rest := [.ref (xa X 58), .int x6]) kk54 Kc12 (cf_X12_byteAt X x1 ((2 : Int32) * x9) w17) lk_X12_271 (Nat.le_of_ble_eq_true rfl) (Nat.le_of_ble_eq_true rfl) rfl rfl (Nat.le_of_ble_eq_true rfl) dX12_drawn_175 (fun r19 => ?_)
        refine e_iald (pc := 178) kk58 dX12_drawn_178 (fun v20 => ?_)
        refine e_iadd (pc := 179) dX12_drawn_179 ?_
        refine e_nameI (fun y21 => ?_)
        refine e_istore (pc := 180) (lv' := [(6, .int y21), (8, .int y18), (0, .ref (xa X 54)), (1, .int x1), (3, .int x3), (4, .int x4), (5, .int x5), (7, .int x7), (9, .int x9)]) dX12_drawn_180 (Nat.le_of_ble_eq_true rfl) rfl ?_
        refine e_iinc (pc := 182) (lv' := [(9, .int (x9 + (1 : Int32))), (6, .int y21), (8, .int y18), (0, .ref (xa X 54)), (1, .int x1), (3, .int x3), (4, .int x4), (5, .int x5), (7, .int x7)]) dX12_drawn_182 8 rfl (ii_1 _) (Nat.le_of_ble_eq_true rfl) rfl ?_
        refine e_goto (pc := 185) (tgt := 96) dX12_drawn_185 (by decide) ?_
        refine e_lv [3, 4, 5, 6, 7, 1, 8, 2, 0] rfl ?_
        exact hk96 x1 x3 x4 x5 y21 x7 y18 (x9 + (1 : Int32)) w17
theorem cb_X12_drawn_b96 (X : Xt) (k74 : Int32 → Int32 → Int32 → Int32 → Int32 → Int32 → Wd → Option (Int32 × Wd)) (hk74 : ∀ (x1 : Int32) (x3 : Int32) (x4 : Int32) (x5 : Int32) (x6 : Int32) (x7 : Int32)  (w : Wd), E gWI X m_X12_drawn 5 74 [(0, .ref (xa X 54)), (1, .int x1), (3, .int x3), (4, .int x4), (5, .int x5), (6, .int x6), (7, .int x7)] [] w (k74 x1 x3 x4 x5 x6 x7 w)) : ∀ (n : Nat) (x1 : Int32) (x3 : Int32) (x4 : Int32) (x5 : Int32) (x6 : Int32) (x7 : Int32) (x8 : Int32) (x9 : Int32) (w : Wd), E gWI X m_X12_drawn 5 96 [(0, .ref (xa X 54)), (1, .int x1), (3, .int x3), (4, .int x4), (5, .int x5), (6, .int x6), (7, .int x7), (8, .int x8), (9, .int x9)] [] w (f_X12_drawn_b96 k74 n x1 x3 x4 x5 x6 x7 x8 x9 w) := by
  intro n
  induction n with
  | zero =>
    intro x1 x3 x4 x5 x6 x7 x8 x9 w
    exact E_none
  | succ n ih =>
    intro x1 x3 x4 x5 x6 x7 x8 x9 w
    exact cb_X12_drawn_b96_y X k74 hk74 _ ih x1 x3 x4 x5 x6 x7 x8 x9 w
set_option maxRecDepth 100000 in
set_option maxHeartbeats 4000000 in
theorem cb_X12_drawn_b74_y (X : Xt) (k74 : Int32 → Int32 → Int32 → Int32 → Int32 → Int32 → Wd → Option (Int32 × Wd)) (hk74 : ∀ (x1 : Int32) (x3 : Int32) (x4 : Int32) (x5 : Int32) (x6 : Int32) (x7 : Int32)  (w : Wd), E gWI X m_X12_drawn 5 74 [(0, .ref (xa X 54)), (1, .int x1), (3, .int x3), (4, .int x4), (5, .int x5), (6, .int x6), (7, .int x7)] [] w (k74 x1 x3 x4 x5 x6 x7 w)) (x1 : Int32) (x3 : Int32) (x4 : Int32) (x5 : Int32) (x6 : Int32) (x7 : Int32) (w : Wd) : E gWI X m_X12_drawn 5 74 [(0, .ref (xa X 54)), (1, .int x1), (3, .int x3), (4, .int x4), (5, .int x5), (6, .int x6), (7, .int x7)] [] w (f_X12_drawn_b74_y k74 x1 x3 x4 x5 x6 x7 w) := by
  unfold f_X12_drawn_b74_y
  refine e_iload (pc := 74) dX12_drawn_74 6 rfl ?_
  refine e_iload_n (pc := 76) dX12_drawn_76 2 rfl rfl ?_
  refine e_bipush (pc := 77) (v := (100 : Int32)) dX12_drawn_77 bp_100 ?_
  refine e_irem (pc := 79) dX12_drawn_79 (by decide) ?_
  refine e_icmp_ge (pc := 80) (tgt := 201) dX12_drawn_80 (by decide) (fun _ => ?_) (fun _ => ?_)
  · refine e_iload (pc := 201) dX12_drawn_201 3 rfl ?_
    refine e_if_ne (pc := 203) (tgt := 211) dX12_drawn_203 (by decide) (fun _ => ?_) (fun _ => ?_)
    · refine e_iload (pc := 206) dX12_drawn_206 4 rfl ?_
      refine e_goto (pc := 208) (tgt := 221) dX12_drawn_208 (by decide) ?_
      exact e_iretW rfl dX12_drawn_221
    · refine e_iload (pc := 211) dX12_drawn_211 5 rfl ?_
      refine e_aload_n (pc := 213) dX12_drawn_213 0 rfl rfl ?_
      refine g_I (pc := 214) kk54 fl_X12_31 dX12_drawn_214 ?_
      refine e_iload (pc := 217) dX12_drawn_217 4 rfl ?_
      refine e_imul (pc := 219) dX12_drawn_219 ?_
      refine e_iadd (pc := 220) dX12_drawn_220 ?_
      exact e_iretW rfl dX12_drawn_221
  · refine e_aload_n (pc := 83) dX12_drawn_83 0 rfl rfl ?_
    refine e_iload_n (pc := 84) dX12_drawn_84 2 rfl rfl ?_
    refine e_bipush (pc := 85) (v := (100 : Int32)) dX12_drawn_85 bp_100 ?_
    refine e_idiv (pc := 87) dX12_drawn_87 (by decide) ?_
    refine e_callVWI (pc := 88) (As := [.int (x3 / (100 : Int32))]) (rest := []) kk54 Kc12 (cf_X12_drawStones X (x3 / (100 : Int32)) w) lk_X12_375 (Nat.le_of_ble_eq_true rfl) (Nat.le_of_ble_eq_true rfl) rfl rfl (Nat.le_of_ble_eq_true rfl) dX12_drawn_88 (fun r7 w8 => ?_)
    refine e_istore (pc := 91) (lv' := [(8, .int r7), (0, .ref (xa X 54)), (1, .int x1), (3, .int x3), (4, .int x4), (5, .int x5), (6, .int x6), (7, .int x7)]) dX12_drawn_91 (Nat.le_of_ble_eq_true rfl) rfl ?_
    refine e_iconst (pc := 93) (v := (0 : Int32)) dX12_drawn_93 ic_0 ?_
    refine e_istore (pc := 94) (lv' := [(9, .int (0 : Int32)), (8, .int r7), (0, .ref (xa X 54)), (1, .int x1), (3, .int x3), (4, .int x4), (5, .int x5), (6, .int x6), (7, .int x7)]) dX12_drawn_94 (Nat.le_of_ble_eq_true rfl) rfl ?_
    refine e_lv [2, 3, 4, 5, 6, 7, 8, 1, 0] rfl ?_
    exact cb_X12_drawn_b96 X k74 hk74 fu x1 x3 x4 x5 x6 x7 r7 (0 : Int32) w8
theorem cb_X12_drawn_b74 (X : Xt) : ∀ (n : Nat) (x1 : Int32) (x3 : Int32) (x4 : Int32) (x5 : Int32) (x6 : Int32) (x7 : Int32) (w : Wd), E gWI X m_X12_drawn 5 74 [(0, .ref (xa X 54)), (1, .int x1), (3, .int x3), (4, .int x4), (5, .int x5), (6, .int x6), (7, .int x7)] [] w (f_X12_drawn_b74 n x1 x3 x4 x5 x6 x7 w) := by
  intro n
  induction n with
  | zero =>
    intro x1 x3 x4 x5 x6 x7 w
    exact E_none
  | succ n ih =>
    intro x1 x3 x4 x5 x6 x7 w
    exact cb_X12_drawn_b74_y X _ ih x1 x3 x4 x5 x6 x7 w
set_option maxRecDepth 100000 in
set_option maxHeartbeats 4000000 in
theorem ce_X12_drawn (X : Xt) (a1 : Int32) (a2 : Int32) (a3 : Int32) (a4 : Int32) (w : Wd) : E gWI X m_X12_drawn 5 0 [(0, .ref (xa X 54)), (1, .int a1), (2, .int a2), (3, .int a3), (4, .int a4)] [] w (f_X12_drawn a1 a2 a3 a4 w) := by
  unfold f_X12_drawn
  refine e_iload_n (pc := 0) dX12_drawn_0 1 rfl rfl ?_
  refine e_callSRI (pc := 1) (As := [.int a1]) (rest := []) (cf_X12_isShelf X a1 w) lk_X12_135 (Nat.le_of_ble_eq_true rfl) (Nat.le_of_ble_eq_true rfl) rfl rfl (Nat.le_of_ble_eq_true rfl) dX12_drawn_1 (fun r1 => ?_)
  refine e_if_eq (pc := 4) (tgt := 44) dX12_drawn_4 (by decide) (fun _ => ?_) (fun _ => ?_)
  · refine e_iconst (pc := 44) (v := (-1 : Int32)) dX12_drawn_44 ic_m1 ?_
    exact e_iretW rfl dX12_drawn_45
  · refine e_iload_n (pc := 7) dX12_drawn_7 3 rfl rfl ?_
    refine e_if_lt (pc := 8) (tgt := 44) dX12_drawn_8 (by decide) (fun _ => ?_) (fun _ => ?_)
    · refine e_iconst (pc := 44) (v := (-1 : Int32)) dX12_drawn_44 ic_m1 ?_
      exact e_iretW rfl dX12_drawn_45
    · refine e_iload_n (pc := 11) dX12_drawn_11 3 rfl rfl ?_
      refine e_bipush (pc := 12) (v := (100 : Int32)) dX12_drawn_12 bp_100 ?_
      refine e_idiv (pc := 14) dX12_drawn_14 (by decide) ?_
      refine e_callSRI (pc := 15) (As := [.int (a3 / (100 : Int32))]) (rest := []) (cf_X12_isBag X (a3 / (100 : Int32)) w) lk_X12_155 (Nat.le_of_ble_eq_true rfl) (Nat.le_of_ble_eq_true rfl) rfl rfl (Nat.le_of_ble_eq_true rfl) dX12_drawn_15 (fun r2 => ?_)
      refine e_if_eq (pc := 18) (tgt := 44) dX12_drawn_18 (by decide) (fun _ => ?_) (fun _ => ?_)
      · refine e_iconst (pc := 44) (v := (-1 : Int32)) dX12_drawn_44 ic_m1 ?_
        exact e_iretW rfl dX12_drawn_45
      · refine e_iload_n (pc := 21) dX12_drawn_21 3 rfl rfl ?_
        refine e_bipush (pc := 22) (v := (100 : Int32)) dX12_drawn_22 bp_100 ?_
        refine e_irem (pc := 24) dX12_drawn_24 (by decide) ?_
        refine e_iconst (pc := 25) (v := (1 : Int32)) dX12_drawn_25 ic_1 ?_
        refine e_bipush (pc := 26) (v := (30 : Int32)) dX12_drawn_26 bp_30 ?_
        refine e_callSRI (pc := 28) (As := [.int (ire a3 (100 : Int32)), .int (1 : Int32), .int (30 : Int32)]) (rest := []) (cf_X12_in X (ire a3 (100 : Int32)) (1 : Int32) (30 : Int32) w) lk_X12_124 (Nat.le_of_ble_eq_true rfl) (Nat.le_of_ble_eq_true rfl) rfl rfl (Nat.le_of_ble_eq_true rfl) dX12_drawn_28 (fun r3 => ?_)
        refine e_if_eq (pc := 31) (tgt := 44) dX12_drawn_31 (by decide) (fun _ => ?_) (fun _ => ?_)
        · refine e_iconst (pc := 44) (v := (-1 : Int32)) dX12_drawn_44 ic_m1 ?_
          exact e_iretW rfl dX12_drawn_45
        · refine e_iload (pc := 34) dX12_drawn_34 4 rfl ?_
          refine e_iconst (pc := 36) (v := (0 : Int32)) dX12_drawn_36 ic_0 ?_
          refine e_iconst (pc := 37) (v := (1 : Int32)) dX12_drawn_37 ic_1 ?_
          refine e_callSRI (pc := 38) (As := [.int a4, .int (0 : Int32), .int (1 : Int32)]) (rest := []) (cf_X12_in X a4 (0 : Int32) (1 : Int32) w) lk_X12_124 (Nat.le_of_ble_eq_true rfl) (Nat.le_of_ble_eq_true rfl) rfl rfl (Nat.le_of_ble_eq_true rfl) dX12_drawn_38 (fun r4 => ?_)
          refine e_if_ne (pc := 41) (tgt := 46) dX12_drawn_41 (by decide) (fun _ => ?_) (fun _ => ?_)
          · refine e_iconst (pc := 44) (v := (-1 : Int32)) dX12_drawn_44 ic_m1 ?_
            exact e_iretW rfl dX12_drawn_45
          · refine e_aload_n (pc := 46) dX12_drawn_46 0 rfl rfl ?_
            refine e_iload_n (pc := 47) dX12_drawn_47 1 rfl rfl ?_
            refine e_callVRI (pc := 48) (As := [.int a1]) (rest := []) kk54 Kc12 (cf_X12_rowFault X a1 w) lk_X12_280 (Nat.le_of_ble_eq_true rfl) (Nat.le_of_ble_eq_true rfl) rfl rfl (Nat.le_of_ble_eq_true rfl) dX12_drawn_48 (fun r5 => ?_)
            refine e_if_ge (pc := 51) (tgt := 60) dX12_drawn_51 (by decide) (fun _ => ?_) (fun _ => ?_)
            · refine e_aload_n (pc := 60) dX12_drawn_60 0 rfl rfl ?_
              refine e_iload_n (pc := 61) dX12_drawn_61 2 rfl rfl ?_
              refine p_I (pc := 62) kk54 fp_X12_368 dX12_drawn_62 (fun w6 => ?_)
              refine e_iconst (pc := 65) (v := (0 : Int32)) dX12_drawn_65 ic_0 ?_
              refine e_istore (pc := 66) (lv' := [(5, .int (0 : Int32)), (0, .ref (xa X 54)), (1, .int a1), (2, .int a2), (3, .int a3), (4, .int a4)]) dX12_drawn_66 (Nat.le_of_ble_eq_true rfl) rfl ?_
              refine e_iconst (pc := 68) (v := (0 : Int32)) dX12_drawn_68 ic_0 ?_
              refine e_istore (pc := 69) (lv' := [(6, .int (0 : Int32)), (5, .int (0 : Int32)), (0, .ref (xa X 54)), (1, .int a1), (2, .int a2), (3, .int a3), (4, .int a4)]) dX12_drawn_69 (Nat.le_of_ble_eq_true rfl) rfl ?_
              refine e_iconst (pc := 71) (v := (0 : Int32)) dX12_drawn_71 ic_0 ?_
              refine e_istore (pc := 72) (lv' := [(7, .int (0 : Int32)), (6, .int (0 : Int32)), (5, .int (0 : Int32)), (0, .ref (xa X 54)), (1, .int a1), (2, .int a2), (3, .int a3), (4, .int a4)]) dX12_drawn_72 (Nat.le_of_ble_eq_true rfl) rfl ?_
              refine e_lv [3, 4, 6, 7, 2, 1, 0] rfl ?_
              exact cb_X12_drawn_b74 X fu a1 a3 a4 (0 : Int32) (0 : Int32) (0 : Int32) w6
            · refine e_aload_n (pc := 54) dX12_drawn_54 0 rfl rfl ?_
              refine e_iload_n (pc := 55) dX12_drawn_55 1 rfl rfl ?_
              refine e_callVRI (pc := 56) (As := [.int a1]) (rest := []) kk54 Kc12 (cf_X12_rowFault X a1 w) lk_X12_280 (Nat.le_of_ble_eq_true rfl) (Nat.le_of_ble_eq_true rfl) rfl rfl (Nat.le_of_ble_eq_true rfl) dX12_drawn_56 (fun r22 => ?_)
              exact e_iretW rfl dX12_drawn_59
theorem cf_X12_drawn (X : Xt) (a1 : Int32) (a2 : Int32) (a3 : Int32) (a4 : Int32) (w : Wd) : CF gWI X m_X12_drawn 5 [.ref (xa X 54), .int a1, .int a2, .int a3, .int a4] w (f_X12_drawn a1 a2 a3 a4 w) := CF_of (by decide) (Nat.le_of_ble_eq_true rfl) (ce_X12_drawn X a1 a2 a3 a4 w)
set_option maxRecDepth 100000 in
set_option maxHeartbeats 4000000 in
theorem ce_X12_open (X : Xt) (a1 : Int32) (a2 : Int32) (w : Wd) : E gWI X m_X12_open 3 0 [(0, .ref (xa X 54)), (1, .int a1), (2, .int a2)] [] w (f_X12_open a1 a2 w) := by
  unfold f_X12_open
  refine e_iload_n (pc := 0) dX12_open_0 1 rfl rfl ?_
  refine e_callSRI (pc := 1) (As := [.int a1]) (rest := []) (cf_X12_isBag X a1 w) lk_X12_155 (Nat.le_of_ble_eq_true rfl) (Nat.le_of_ble_eq_true rfl) rfl rfl (Nat.le_of_ble_eq_true rfl) dX12_open_1 (fun r1 => ?_)
  refine e_if_ne (pc := 4) (tgt := 9) dX12_open_4 (by decide) (fun _ => ?_) (fun _ => ?_)
  · refine e_iconst (pc := 7) (v := (-1 : Int32)) dX12_open_7 ic_m1 ?_
    exact e_iretW rfl dX12_open_8
  · refine e_aload_n (pc := 9) dX12_open_9 0 rfl rfl ?_
    refine g_R (pc := 10) (cl' := 78) kk54 fl_X12_97 rfl dX12_open_10 ?_
    refine e_iconst (pc := 13) (v := (5 : Int32)) dX12_open_13 ic_5 ?_
    refine e_iald (pc := 14) kk78 dX12_open_14 (fun v2 => ?_)
    refine e_if_lt (pc := 15) (tgt := 21) dX12_open_15 (by decide) (fun _ => ?_) (fun _ => ?_)
    · refine e_aload_n (pc := 21) dX12_open_21 0 rfl rfl ?_
      refine e_iload_n (pc := 22) dX12_open_22 2 rfl rfl ?_
      refine p_I (pc := 23) kk54 fp_X12_368 dX12_open_23 (fun w3 => ?_)
      refine e_aload_n (pc := 26) dX12_open_26 0 rfl rfl ?_
      refine g_R (pc := 27) (cl' := 78) kk54 fl_X12_97 rfl dX12_open_27 ?_
      refine e_iconst (pc := 30) (v := (5 : Int32)) dX12_open_30 ic_5 ?_
      refine e_aload_n (pc := 31) dX12_open_31 0 rfl rfl ?_
      refine e_iload_n (pc := 32) dX12_open_32 1 rfl rfl ?_
      refine e_callVWI (pc := 33) (As := [.int a1]) (rest := [.int (5 : Int32), .ref (xa X 78)]) kk54 Kc12 (cf_X12_drawStones X a1 w3) lk_X12_375 (Nat.le_of_ble_eq_true rfl) (Nat.le_of_ble_eq_true rfl) rfl rfl (Nat.le_of_ble_eq_true rfl) dX12_open_33 (fun r4 w5 => ?_)
      refine e_iast (pc := 36) kk78 dX12_open_36 (fun w6 => ?_)
      refine e_aload_n (pc := 37) dX12_open_37 0 rfl rfl ?_
      refine g_R (pc := 38) (cl' := 78) kk54 fl_X12_97 rfl dX12_open_38 ?_
      refine e_bipush (pc := 41) (v := (6 : Int32)) dX12_open_41 bp_6 ?_
      refine e_iconst (pc := 43) (v := (0 : Int32)) dX12_open_43 ic_0 ?_
      refine e_iast (pc := 44) kk78 dX12_open_44 (fun w7 => ?_)
      refine e_aload_n (pc := 45) dX12_open_45 0 rfl rfl ?_
      refine g_R (pc := 46) (cl' := 78) kk54 fl_X12_97 rfl dX12_open_46 ?_
      refine e_bipush (pc := 49) (v := (7 : Int32)) dX12_open_49 bp_7 ?_
      refine e_aload_n (pc := 51) dX12_open_51 0 rfl rfl ?_
      refine g_I (pc := 52) kk54 fl_X12_368 dX12_open_52 ?_
      refine e_iast (pc := 55) kk78 dX12_open_55 (fun w8 => ?_)
      refine e_iload_n (pc := 56) dX12_open_56 1 rfl rfl ?_
      exact e_iretW rfl dX12_open_57
    · refine e_bipush (pc := 18) (v := (-5 : Int32)) dX12_open_18 bp_m5 ?_
      exact e_iretW rfl dX12_open_20
theorem cf_X12_open (X : Xt) (a1 : Int32) (a2 : Int32) (w : Wd) : CF gWI X m_X12_open 3 [.ref (xa X 54), .int a1, .int a2] w (f_X12_open a1 a2 w) := CF_of (by decide) (Nat.le_of_ble_eq_true rfl) (ce_X12_open X a1 a2 w)
set_option maxRecDepth 100000 in
set_option maxHeartbeats 4000000 in
theorem ce_X12_look (X : Xt) (a1 : Int32) (w : Wd) : E gWI X m_X12_look 5 0 [(0, .ref (xa X 54)), (1, .int a1)] [] w (f_X12_look a1 w) := by
  unfold f_X12_look
  refine e_aload_n (pc := 0) dX12_look_0 0 rfl rfl ?_
  refine e_iload_n (pc := 1) dX12_look_1 1 rfl rfl ?_
  refine e_callVRI (pc := 2) (As := [.int a1]) (rest := []) kk54 Kc12 (cf_X12_isLooker X a1 w) lk_X12_158 (Nat.le_of_ble_eq_true rfl) (Nat.le_of_ble_eq_true rfl) rfl rfl (Nat.le_of_ble_eq_true rfl) dX12_look_2 (fun r1 => ?_)
  refine e_if_ne (pc := 5) (tgt := 10) dX12_look_5 (by decide) (fun _ => ?_) (fun _ => ?_)
  · refine e_iconst (pc := 8) (v := (-1 : Int32)) dX12_look_8 ic_m1 ?_
    exact e_iretW rfl dX12_look_9
  · refine e_aload_n (pc := 10) dX12_look_10 0 rfl rfl ?_
    refine g_R (pc := 11) (cl' := 78) kk54 fl_X12_97 rfl dX12_look_11 ?_
    refine e_iconst (pc := 14) (v := (5 : Int32)) dX12_look_14 ic_5 ?_
    refine e_iald (pc := 15) kk78 dX12_look_15 (fun v2 => ?_)
    refine e_if_ge (pc := 16) (tgt := 22) dX12_look_16 (by decide) (fun _ => ?_) (fun _ => ?_)
    · refine e_aload_n (pc := 22) dX12_look_22 0 rfl rfl ?_
      refine e_aload_n (pc := 23) dX12_look_23 0 rfl rfl ?_
      refine g_R (pc := 24) (cl' := 78) kk54 fl_X12_97 rfl dX12_look_24 ?_
      refine e_bipush (pc := 27) (v := (7 : Int32)) dX12_look_27 bp_7 ?_
      refine e_iald (pc := 29) kk78 dX12_look_29 (fun v3 => ?_)
      refine p_I (pc := 30) kk54 fp_X12_368 dX12_look_30 (fun w4 => ?_)
      refine e_aload_n (pc := 33) dX12_look_33 0 rfl rfl ?_
      refine e_aload_n (pc := 34) dX12_look_34 0 rfl rfl ?_
      refine g_R (pc := 35) (cl' := 78) kk54 fl_X12_97 rfl dX12_look_35 ?_
      refine e_iconst (pc := 38) (v := (5 : Int32)) dX12_look_38 ic_5 ?_
      refine e_iald (pc := 39) kk78 dX12_look_39 (fun v5 => ?_)
      refine e_aload_n (pc := 40) dX12_look_40 0 rfl rfl ?_
      refine e_iload_n (pc := 41) dX12_look_41 1 rfl rfl ?_
      refine e_aload_n (pc := 42) dX12_look_42 0 rfl rfl ?_
      refine g_R (pc := 43) (cl' := 78) kk54 fl_X12_97 rfl dX12_look_43 ?_
      refine e_bipush (pc := 46) (v := (6 : Int32)) dX12_look_46 bp_6 ?_
      refine e_iald (pc := 48) kk78 dX12_look_48 (fun v6 => ?_)
      refine e_aload_n (pc := 49) dX12_look_49 0 rfl rfl ?_
      refine g_I (pc := 50) kk54 fl_X12_28 dX12_look_50 ?_
      refine e_callVWI (pc := 53) (As := [.int a1, .int v6, .int (gi w4 54 8)]) (rest := [.int v5, .ref (xa X 54)]) kk54 Kc12 (cf_X12_findsBy X a1 v6 (gi w4 54 8) w4) lk_X12_246 (Nat.le_of_ble_eq_true rfl) (Nat.le_of_ble_eq_true rfl) rfl rfl (Nat.le_of_ble_eq_true rfl) dX12_look_53 (fun r7 w8 => ?_)
      refine e_callVWI (pc := 56) (As := [.int v5, .int r7]) (rest := []) kk54 Kc12 (cf_X12_drawFound X v5 r7 w8) lk_X12_378 (Nat.le_of_ble_eq_true rfl) (Nat.le_of_ble_eq_true rfl) rfl rfl (Nat.le_of_ble_eq_true rfl) dX12_look_56 (fun r9 w10 => ?_)
      refine e_istore_n (pc := 59) (lv' := [(2, .int r9), (0, .ref (xa X 54)), (1, .int a1)]) dX12_look_59 rfl (Nat.le_of_ble_eq_true rfl) rfl ?_
      refine e_aload_n (pc := 60) dX12_look_60 1 rfl rfl ?_
      refine g_R (pc := 61) (cl' := 78) kk54 fl_X12_97 rfl dX12_look_61 ?_
      refine e_bipush (pc := 64) (v := (7 : Int32)) dX12_look_64 bp_7 ?_
      refine e_aload_n (pc := 66) dX12_look_66 1 rfl rfl ?_
      refine g_I (pc := 67) kk54 fl_X12_368 dX12_look_67 ?_
      refine e_iast (pc := 70) kk78 dX12_look_70 (fun w11 => ?_)
      refine e_aload_n (pc := 71) dX12_look_71 1 rfl rfl ?_
      refine g_R (pc := 72) (cl' := 78) kk54 fl_X12_97 rfl dX12_look_72 ?_
      refine e_iconst (pc := 75) (v := (5 : Int32)) dX12_look_75 ic_5 ?_
      refine e_dup2 (pc := 76) dX12_look_76 rfl rfl ?_
      refine e_iald (pc := 77) kk78 dX12_look_77 (fun v12 => ?_)
      refine e_iload_n (pc := 78) dX12_look_78 0 rfl rfl ?_
      refine e_isub (pc := 79) dX12_look_79 ?_
      refine e_iast (pc := 80) kk78 dX12_look_80 (fun w13 => ?_)
      refine e_aload_n (pc := 81) dX12_look_81 1 rfl rfl ?_
      refine g_R (pc := 82) (cl' := 78) kk54 fl_X12_97 rfl dX12_look_82 ?_
      refine e_bipush (pc := 85) (v := (6 : Int32)) dX12_look_85 bp_6 ?_
      refine e_dup2 (pc := 87) dX12_look_87 rfl rfl ?_
      refine e_iald (pc := 88) kk78 dX12_look_88 (fun v14 => ?_)
      refine e_iconst (pc := 89) (v := (1 : Int32)) dX12_look_89 ic_1 ?_
      refine e_iadd (pc := 90) dX12_look_90 ?_
      refine e_iast (pc := 91) kk78 dX12_look_91 (fun w15 => ?_)
      refine e_aload_n (pc := 92) dX12_look_92 1 rfl rfl ?_
      refine g_R (pc := 93) (cl' := 78) kk54 fl_X12_97 rfl dX12_look_93 ?_
      refine e_iconst (pc := 96) (v := (1 : Int32)) dX12_look_96 ic_1 ?_
      refine e_dup2 (pc := 97) dX12_look_97 rfl rfl ?_
      refine e_iald (pc := 98) kk78 dX12_look_98 (fun v16 => ?_)
      refine e_iconst (pc := 99) (v := (1 : Int32)) dX12_look_99 ic_1 ?_
      refine e_iadd (pc := 100) dX12_look_100 ?_
      refine e_iast (pc := 101) kk78 dX12_look_101 (fun w17 => ?_)
      refine e_aload_n (pc := 102) dX12_look_102 1 rfl rfl ?_
      refine g_R (pc := 103) (cl' := 78) kk54 fl_X12_97 rfl dX12_look_103 ?_
      refine e_iconst (pc := 106) (v := (2 : Int32)) dX12_look_106 ic_2 ?_
      refine e_dup2 (pc := 107) dX12_look_107 rfl rfl ?_
      refine e_iald (pc := 108) kk78 dX12_look_108 (fun v18 => ?_)
      refine e_iload_n (pc := 109) dX12_look_109 0 rfl rfl ?_
      refine e_iadd (pc := 110) dX12_look_110 ?_
      refine e_iast (pc := 111) kk78 dX12_look_111 (fun w19 => ?_)
      refine e_aload_n (pc := 112) dX12_look_112 1 rfl rfl ?_
      refine g_R (pc := 113) (cl' := 78) kk54 fl_X12_97 rfl dX12_look_113 ?_
      refine e_iconst (pc := 116) (v := (4 : Int32)) dX12_look_116 ic_4 ?_
      refine e_dup2 (pc := 117) dX12_look_117 rfl rfl ?_
      refine e_iald (pc := 118) kk78 dX12_look_118 (fun v20 => ?_)
      refine e_aload_n (pc := 119) dX12_look_119 1 rfl rfl ?_
      refine g_R (pc := 120) (cl' := 58) kk54 fl_X12_21 rfl dX12_look_120 ?_
      refine e_iload_n (pc := 123) dX12_look_123 2 rfl rfl ?_
      refine e_iald (pc := 124) kk58 dX12_look_124 (fun v21 => ?_)
      refine e_iadd (pc := 125) dX12_look_125 ?_
      refine e_iast (pc := 126) kk78 dX12_look_126 (fun w22 => ?_)
      refine e_iload_n (pc := 127) dX12_look_127 0 rfl rfl ?_
      exact e_iretW rfl dX12_look_128
    · refine e_bipush (pc := 19) (v := (-5 : Int32)) dX12_look_19 bp_m5 ?_
      exact e_iretW rfl dX12_look_21
theorem cf_X12_look (X : Xt) (a1 : Int32) (w : Wd) : CF gWI X m_X12_look 5 [.ref (xa X 54), .int a1] w (f_X12_look a1 w) := CF_of (by decide) (Nat.le_of_ble_eq_true rfl) (ce_X12_look X a1 w)
set_option maxRecDepth 100000 in
set_option maxHeartbeats 4000000 in
theorem ce_X12_eat (X : Xt) (w : Wd) : E gWI X m_X12_eat 1 0 [(0, .ref (xa X 54))] [] w (f_X12_eat w) := by
  unfold f_X12_eat
  refine e_aload_n (pc := 0) dX12_eat_0 0 rfl rfl ?_
  refine g_R (pc := 1) (cl' := 78) kk54 fl_X12_97 rfl dX12_eat_1 ?_
  refine e_iconst (pc := 4) (v := (5 : Int32)) dX12_eat_4 ic_5 ?_
  refine e_iald (pc := 5) kk78 dX12_eat_5 (fun v1 => ?_)
  refine e_if_ge (pc := 6) (tgt := 12) dX12_eat_6 (by decide) (fun _ => ?_) (fun _ => ?_)
  · refine e_aload_n (pc := 12) dX12_eat_12 0 rfl rfl ?_
    refine g_R (pc := 13) (cl' := 78) kk54 fl_X12_97 rfl dX12_eat_13 ?_
    refine e_iconst (pc := 16) (v := (5 : Int32)) dX12_eat_16 ic_5 ?_
    refine e_iald (pc := 17) kk78 dX12_eat_17 (fun v2 => ?_)
    refine e_istore_n (pc := 18) (lv' := [(1, .int v2), (0, .ref (xa X 54))]) dX12_eat_18 rfl (Nat.le_of_ble_eq_true rfl) rfl ?_
    refine e_aload_n (pc := 19) dX12_eat_19 1 rfl rfl ?_
    refine g_R (pc := 20) (cl' := 78) kk54 fl_X12_97 rfl dX12_eat_20 ?_
    refine e_iconst (pc := 23) (v := (0 : Int32)) dX12_eat_23 ic_0 ?_
    refine e_dup2 (pc := 24) dX12_eat_24 rfl rfl ?_
    refine e_iald (pc := 25) kk78 dX12_eat_25 (fun v3 => ?_)
    refine e_iconst (pc := 26) (v := (1 : Int32)) dX12_eat_26 ic_1 ?_
    refine e_iadd (pc := 27) dX12_eat_27 ?_
    refine e_iast (pc := 28) kk78 dX12_eat_28 (fun w4 => ?_)
    refine e_aload_n (pc := 29) dX12_eat_29 1 rfl rfl ?_
    refine g_R (pc := 30) (cl' := 78) kk54 fl_X12_97 rfl dX12_eat_30 ?_
    refine e_iconst (pc := 33) (v := (3 : Int32)) dX12_eat_33 ic_3 ?_
    refine e_dup2 (pc := 34) dX12_eat_34 rfl rfl ?_
    refine e_iald (pc := 35) kk78 dX12_eat_35 (fun v5 => ?_)
    refine e_iload_n (pc := 36) dX12_eat_36 0 rfl rfl ?_
    refine e_iadd (pc := 37) dX12_eat_37 ?_
    refine e_iast (pc := 38) kk78 dX12_eat_38 (fun w6 => ?_)
    refine e_aload_n (pc := 39) dX12_eat_39 1 rfl rfl ?_
    refine g_R (pc := 40) (cl' := 78) kk54 fl_X12_97 rfl dX12_eat_40 ?_
    refine e_iconst (pc := 43) (v := (4 : Int32)) dX12_eat_43 ic_4 ?_
    refine e_dup2 (pc := 44) dX12_eat_44 rfl rfl ?_
    refine e_iald (pc := 45) kk78 dX12_eat_45 (fun v7 => ?_)
    refine e_aload_n (pc := 46) dX12_eat_46 1 rfl rfl ?_
    refine g_I (pc := 47) kk54 fl_X12_31 dX12_eat_47 ?_
    refine e_iload_n (pc := 50) dX12_eat_50 0 rfl rfl ?_
    refine e_imul (pc := 51) dX12_eat_51 ?_
    refine e_iadd (pc := 52) dX12_eat_52 ?_
    refine e_iast (pc := 53) kk78 dX12_eat_53 (fun w8 => ?_)
    refine e_aload_n (pc := 54) dX12_eat_54 1 rfl rfl ?_
    refine g_R (pc := 55) (cl' := 78) kk54 fl_X12_97 rfl dX12_eat_55 ?_
    refine e_iconst (pc := 58) (v := (5 : Int32)) dX12_eat_58 ic_5 ?_
    refine e_iconst (pc := 59) (v := (-1 : Int32)) dX12_eat_59 ic_m1 ?_
    refine e_iast (pc := 60) kk78 dX12_eat_60 (fun w9 => ?_)
    refine e_iload_n (pc := 61) dX12_eat_61 0 rfl rfl ?_
    exact e_iretW rfl dX12_eat_62
  · refine e_bipush (pc := 9) (v := (-5 : Int32)) dX12_eat_9 bp_m5 ?_
    exact e_iretW rfl dX12_eat_11
theorem cf_X12_eat (X : Xt) (w : Wd) : CF gWI X m_X12_eat 1 [.ref (xa X 54)] w (f_X12_eat w) := CF_of (by decide) (Nat.le_of_ble_eq_true rfl) (ce_X12_eat X w)
set_option maxRecDepth 100000 in
set_option maxHeartbeats 4000000 in
theorem ce_X12_led (X : Xt) (a1 : Int32) (w : Wd) : E (gRI w) X m_X12_led 2 0 [(0, .ref (xa X 54)), (1, .int a1)] [] w (f_X12_led a1 w) := by
  unfold f_X12_led
  refine e_iload_n (pc := 0) dX12_led_0 1 rfl rfl ?_
  refine e_iconst (pc := 1) (v := (5 : Int32)) dX12_led_1 ic_5 ?_
  refine e_icmp_ne (pc := 2) (tgt := 27) dX12_led_2 (by decide) (fun _ => ?_) (fun _ => ?_)
  · refine e_aload_n (pc := 5) dX12_led_5 0 rfl rfl ?_
    refine g_R (pc := 6) (cl' := 78) kk54 fl_X12_97 rfl dX12_led_6 ?_
    refine e_iconst (pc := 9) (v := (5 : Int32)) dX12_led_9 ic_5 ?_
    refine e_iald (pc := 10) kk78 dX12_led_10 (fun v3 => ?_)
    refine e_if_ge (pc := 11) (tgt := 19) dX12_led_11 (by decide) (fun _ => ?_) (fun _ => ?_)
    · refine e_aload_n (pc := 19) dX12_led_19 0 rfl rfl ?_
      refine g_R (pc := 20) (cl' := 78) kk54 fl_X12_97 rfl dX12_led_20 ?_
      refine e_bipush (pc := 23) (v := (6 : Int32)) dX12_led_23 bp_6 ?_
      refine e_iald (pc := 25) kk78 dX12_led_25 (fun v4 => ?_)
      exact e_iretR rfl dX12_led_26
    · refine e_bipush (pc := 14) (v := (-5 : Int32)) dX12_led_14 bp_m5 ?_
      refine e_goto (pc := 16) (tgt := 26) dX12_led_16 (by decide) ?_
      exact e_iretR rfl dX12_led_26
  · refine e_iload_n (pc := 27) dX12_led_27 1 rfl rfl ?_
    refine e_iconst (pc := 28) (v := (0 : Int32)) dX12_led_28 ic_0 ?_
    refine e_iconst (pc := 29) (v := (4 : Int32)) dX12_led_29 ic_4 ?_
    refine e_callSRI (pc := 30) (As := [.int a1, .int (0 : Int32), .int (4 : Int32)]) (rest := []) (cf_X12_in X a1 (0 : Int32) (4 : Int32) w) lk_X12_124 (Nat.le_of_ble_eq_true rfl) (Nat.le_of_ble_eq_true rfl) rfl rfl (Nat.le_of_ble_eq_true rfl) dX12_led_30 (fun r1 => ?_)
    refine e_if_eq (pc := 33) (tgt := 45) dX12_led_33 (by decide) (fun _ => ?_) (fun _ => ?_)
    · refine e_iconst (pc := 45) (v := (-1 : Int32)) dX12_led_45 ic_m1 ?_
      exact e_iretR rfl dX12_led_46
    · refine e_aload_n (pc := 36) dX12_led_36 0 rfl rfl ?_
      refine g_R (pc := 37) (cl' := 78) kk54 fl_X12_97 rfl dX12_led_37 ?_
      refine e_iload_n (pc := 40) dX12_led_40 1 rfl rfl ?_
      refine e_iald (pc := 41) kk78 dX12_led_41 (fun v2 => ?_)
      refine e_goto (pc := 42) (tgt := 46) dX12_led_42 (by decide) ?_
      exact e_iretR rfl dX12_led_46
theorem cf_X12_led (X : Xt) (a1 : Int32) (w : Wd) : CF (gRI w) X m_X12_led 2 [.ref (xa X 54), .int a1] w (f_X12_led a1 w) := CF_of (by decide) (Nat.le_of_ble_eq_true rfl) (ce_X12_led X a1 w)
set_option maxRecDepth 100000 in
set_option maxHeartbeats 4000000 in
theorem cb_X12_image_b7_y (X : Xt) (k7 : Int32 → Wd → Option (Int32 × Wd)) (hk7 : ∀ (x1 : Int32)  (w : Wd), E gWI X m_X12_image 1 7 [(0, .ref (xa X 54)), (1, .int x1)] [] w (k7 x1 w)) (x1 : Int32) (w : Wd) : E gWI X m_X12_image 1 7 [(0, .ref (xa X 54)), (1, .int x1)] [] w (f_X12_image_b7_y k7 x1 w) := by
  unfold f_X12_image_b7_y
  refine e_iload_n (pc := 7) dX12_image_7 1 rfl rfl ?_
  refine e_bipush (pc := 8) (v := (8 : Int32)) dX12_image_8 bp_8 ?_
  refine e_icmp_ge (pc := 10) (tgt := 31) dX12_image_10 (by decide) (fun _ => ?_) (fun _ => ?_)
  · refine e_aload_n (pc := 31) dX12_image_31 0 rfl rfl ?_
    refine g_R (pc := 32) (cl' := 78) kk54 fl_X12_97 rfl dX12_image_32 ?_
    refine e_iconst (pc := 35) (v := (0 : Int32)) dX12_image_35 ic_0 ?_
    refine e_iald (pc := 36) kk78 dX12_image_36 (fun v2 => ?_)
    exact e_iretW rfl dX12_image_37
  · refine e_aload_n (pc := 13) dX12_image_13 0 rfl rfl ?_
    refine g_R (pc := 14) (cl' := 79) kk54 fl_X12_100 rfl dX12_image_14 ?_
    refine e_iload_n (pc := 17) dX12_image_17 1 rfl rfl ?_
    refine e_aload_n (pc := 18) dX12_image_18 0 rfl rfl ?_
    refine g_R (pc := 19) (cl' := 78) kk54 fl_X12_97 rfl dX12_image_19 ?_
    refine e_iload_n (pc := 22) dX12_image_22 1 rfl rfl ?_
    refine e_iald (pc := 23) kk78 dX12_image_23 (fun v3 => ?_)
    refine e_iast (pc := 24) kk79 dX12_image_24 (fun w4 => ?_)
    refine e_iinc (pc := 25) (lv' := [(1, .int (x1 + (1 : Int32))), (0, .ref (xa X 54))]) dX12_image_25 1 rfl (ii_1 _) (Nat.le_of_ble_eq_true rfl) rfl ?_
    refine e_goto (pc := 28) (tgt := 7) dX12_image_28 (by decide) ?_
    refine e_lv [1, 0] rfl ?_
    exact hk7 (x1 + (1 : Int32)) w4
theorem cb_X12_image_b7 (X : Xt) : ∀ (n : Nat) (x1 : Int32) (w : Wd), E gWI X m_X12_image 1 7 [(0, .ref (xa X 54)), (1, .int x1)] [] w (f_X12_image_b7 n x1 w) := by
  intro n
  induction n with
  | zero =>
    intro x1 w
    exact E_none
  | succ n ih =>
    intro x1 w
    exact cb_X12_image_b7_y X _ ih x1 w
set_option maxRecDepth 100000 in
set_option maxHeartbeats 4000000 in
theorem ce_X12_image (X : Xt) (w : Wd) : E gWI X m_X12_image 1 0 [(0, .ref (xa X 54))] [] w (f_X12_image w) := by
  unfold f_X12_image
  refine e_aload_n (pc := 0) dX12_image_0 0 rfl rfl ?_
  refine e_iconst (pc := 1) (v := (1 : Int32)) dX12_image_1 ic_1 ?_
  refine p_Z (pc := 2) kk54 fp_X12_381 dX12_image_2 (fun w1 => ?_)
  refine e_iconst (pc := 5) (v := (0 : Int32)) dX12_image_5 ic_0 ?_
  refine e_istore_n (pc := 6) (lv' := [(1, .int (0 : Int32)), (0, .ref (xa X 54))]) dX12_image_6 rfl (Nat.le_of_ble_eq_true rfl) rfl ?_
  refine e_lv [1, 0] rfl ?_
  exact cb_X12_image_b7 X fu (0 : Int32) w1
theorem cf_X12_image (X : Xt) (w : Wd) : CF gWI X m_X12_image 1 [.ref (xa X 54)] w (f_X12_image w) := CF_of (by decide) (Nat.le_of_ble_eq_true rfl) (ce_X12_image X w)
set_option maxRecDepth 100000 in
set_option maxHeartbeats 4000000 in
theorem cb_X12_back_b12_y (X : Xt) (k12 : Int32 → Wd → Option (Int32 × Wd)) (hk12 : ∀ (x1 : Int32)  (w : Wd), E gWI X m_X12_back 1 12 [(0, .ref (xa X 54)), (1, .int x1)] [] w (k12 x1 w)) (x1 : Int32) (w : Wd) : E gWI X m_X12_back 1 12 [(0, .ref (xa X 54)), (1, .int x1)] [] w (f_X12_back_b12_y k12 x1 w) := by
  unfold f_X12_back_b12_y
  refine e_iload_n (pc := 12) dX12_back_12 1 rfl rfl ?_
  refine e_bipush (pc := 13) (v := (8 : Int32)) dX12_back_13 bp_8 ?_
  refine e_icmp_ge (pc := 15) (tgt := 36) dX12_back_15 (by decide) (fun _ => ?_) (fun _ => ?_)
  · refine e_aload_n (pc := 36) dX12_back_36 0 rfl rfl ?_
    refine g_R (pc := 37) (cl' := 78) kk54 fl_X12_97 rfl dX12_back_37 ?_
    refine e_iconst (pc := 40) (v := (0 : Int32)) dX12_back_40 ic_0 ?_
    refine e_iald (pc := 41) kk78 dX12_back_41 (fun v1 => ?_)
    exact e_iretW rfl dX12_back_42
  · refine e_aload_n (pc := 18) dX12_back_18 0 rfl rfl ?_
    refine g_R (pc := 19) (cl' := 78) kk54 fl_X12_97 rfl dX12_back_19 ?_
    refine e_iload_n (pc := 22) dX12_back_22 1 rfl rfl ?_
    refine e_aload_n (pc := 23) dX12_back_23 0 rfl rfl ?_
    refine g_R (pc := 24) (cl' := 79) kk54 fl_X12_100 rfl dX12_back_24 ?_
    refine e_iload_n (pc := 27) dX12_back_27 1 rfl rfl ?_
    refine e_iald (pc := 28) kk79 dX12_back_28 (fun v2 => ?_)
    refine e_iast (pc := 29) kk78 dX12_back_29 (fun w3 => ?_)
    refine e_iinc (pc := 30) (lv' := [(1, .int (x1 + (1 : Int32))), (0, .ref (xa X 54))]) dX12_back_30 1 rfl (ii_1 _) (Nat.le_of_ble_eq_true rfl) rfl ?_
    refine e_goto (pc := 33) (tgt := 12) dX12_back_33 (by decide) ?_
    refine e_lv [1, 0] rfl ?_
    exact hk12 (x1 + (1 : Int32)) w3
theorem cb_X12_back_b12 (X : Xt) : ∀ (n : Nat) (x1 : Int32) (w : Wd), E gWI X m_X12_back 1 12 [(0, .ref (xa X 54)), (1, .int x1)] [] w (f_X12_back_b12 n x1 w) := by
  intro n
  induction n with
  | zero =>
    intro x1 w
    exact E_none
  | succ n ih =>
    intro x1 w
    exact cb_X12_back_b12_y X _ ih x1 w
set_option maxRecDepth 100000 in
set_option maxHeartbeats 4000000 in
theorem ce_X12_back (X : Xt) (w : Wd) : E gWI X m_X12_back 1 0 [(0, .ref (xa X 54))] [] w (f_X12_back w) := by
  unfold f_X12_back
  refine e_aload_n (pc := 0) dX12_back_0 0 rfl rfl ?_
  refine g_I (pc := 1) kk54 fl_X12_381 dX12_back_1 ?_
  refine e_if_ne (pc := 4) (tgt := 10) dX12_back_4 (by decide) (fun _ => ?_) (fun _ => ?_)
  · refine e_bipush (pc := 7) (v := (-5 : Int32)) dX12_back_7 bp_m5 ?_
    exact e_iretW rfl dX12_back_9
  · refine e_iconst (pc := 10) (v := (0 : Int32)) dX12_back_10 ic_0 ?_
    refine e_istore_n (pc := 11) (lv' := [(1, .int (0 : Int32)), (0, .ref (xa X 54))]) dX12_back_11 rfl (Nat.le_of_ble_eq_true rfl) rfl ?_
    refine e_lv [1, 0] rfl ?_
    exact cb_X12_back_b12 X fu (0 : Int32) w
theorem cf_X12_back (X : Xt) (w : Wd) : CF gWI X m_X12_back 1 [.ref (xa X 54)] w (f_X12_back w) := CF_of (by decide) (Nat.le_of_ble_eq_true rfl) (ce_X12_back X w)
set_option maxRecDepth 100000 in
set_option maxHeartbeats 4000000 in
theorem ce_X12_isBody (X : Xt) (a1 : Int32) (w : Wd) : E (gRI w) X m_X12_isBody 2 0 [(0, .ref (xa X 54)), (1, .int a1)] [] w (f_X12_isBody a1 w) := by
  unfold f_X12_isBody
  refine e_iload_n (pc := 0) dX12_isBody_0 1 rfl rfl ?_
  refine e_iconst (pc := 1) (v := (0 : Int32)) dX12_isBody_1 ic_0 ?_
  refine e_aload_n (pc := 2) dX12_isBody_2 0 rfl rfl ?_
  refine g_I (pc := 3) kk54 fl_X12_384 dX12_isBody_3 ?_
  refine e_iconst (pc := 6) (v := (1 : Int32)) dX12_isBody_6 ic_1 ?_
  refine e_isub (pc := 7) dX12_isBody_7 ?_
  refine e_callSRI (pc := 8) (As := [.int a1, .int (0 : Int32), .int ((gi w 54 48) - (1 : Int32))]) (rest := []) (cf_X12_in X a1 (0 : Int32) ((gi w 54 48) - (1 : Int32)) w) lk_X12_124 (Nat.le_of_ble_eq_true rfl) (Nat.le_of_ble_eq_true rfl) rfl rfl (Nat.le_of_ble_eq_true rfl) dX12_isBody_8 (fun r1 => ?_)
  exact e_zretR rfl dX12_isBody_11
theorem cf_X12_isBody (X : Xt) (a1 : Int32) (w : Wd) : CF (gRI w) X m_X12_isBody 2 [.ref (xa X 54), .int a1] w (f_X12_isBody a1 w) := CF_of (by decide) (Nat.le_of_ble_eq_true rfl) (ce_X12_isBody X a1 w)
set_option maxRecDepth 100000 in
set_option maxHeartbeats 4000000 in
theorem cb_X12_ran_b19 (X : Xt) (w : Wd) : E gWV X m_X12_ran 1 19 [(0, .ref (xa X 54))] [] w (f_X12_ran_b19 w) := by
  unfold f_X12_ran_b19
  refine e_aload_n (pc := 19) dX12_ran_19 0 rfl rfl ?_
  refine e_dup (pc := 20) dX12_ran_20 rfl ?_
  refine g_I (pc := 21) kk54 fl_X12_387 dX12_ran_21 ?_
  refine e_iconst (pc := 24) (v := (1 : Int32)) dX12_ran_24 ic_1 ?_
  refine e_iadd (pc := 25) dX12_ran_25 ?_
  refine p_I (pc := 26) kk54 fp_X12_387 dX12_ran_26 (fun w1 => ?_)
  exact e_vret rfl dX12_ran_29
set_option maxRecDepth 100000 in
set_option maxHeartbeats 4000000 in
theorem ce_X12_ran (X : Xt) (a1 : Int32) (w : Wd) : E gWV X m_X12_ran 1 0 [(0, .ref (xa X 54)), (1, .int a1)] [] w (f_X12_ran a1 w) := by
  unfold f_X12_ran
  refine e_aload_n (pc := 0) dX12_ran_0 0 rfl rfl ?_
  refine g_I (pc := 1) kk54 fl_X12_387 dX12_ran_1 ?_
  refine e_bipush (pc := 4) (v := (24 : Int32)) dX12_ran_4 bp_24 ?_
  refine e_icmp_ge (pc := 6) (tgt := 19) dX12_ran_6 (by decide) (fun _ => ?_) (fun _ => ?_)
  · refine e_lv [0] rfl ?_
    exact cb_X12_ran_b19 X w
  · refine e_aload_n (pc := 9) dX12_ran_9 0 rfl rfl ?_
    refine g_R (pc := 10) (cl' := 81) kk54 fl_X12_106 rfl dX12_ran_10 ?_
    refine e_aload_n (pc := 13) dX12_ran_13 0 rfl rfl ?_
    refine g_I (pc := 14) kk54 fl_X12_387 dX12_ran_14 ?_
    refine e_iload_n (pc := 17) dX12_ran_17 1 rfl rfl ?_
    refine e_iast (pc := 18) kk81 dX12_ran_18 (fun w2 => ?_)
    refine e_lv [0] rfl ?_
    exact cb_X12_ran_b19 X w2
theorem cf_X12_ran (X : Xt) (a1 : Int32) (w : Wd) : CF gWV X m_X12_ran 1 [.ref (xa X 54), .int a1] w (f_X12_ran a1 w) := CF_of (by decide) (Nat.le_of_ble_eq_true rfl) (ce_X12_ran X a1 w)
set_option maxRecDepth 100000 in
set_option maxHeartbeats 4000000 in
theorem ce_X12_trace (X : Xt) (a1 : Int32) (w : Wd) : E (gRI w) X m_X12_trace 1 0 [(0, .ref (xa X 54)), (1, .int a1)] [] w (f_X12_trace a1 w) := by
  unfold f_X12_trace
  refine e_iload_n (pc := 0) dX12_trace_0 1 rfl rfl ?_
  refine e_if_lt (pc := 1) (tgt := 27) dX12_trace_1 (by decide) (fun _ => ?_) (fun _ => ?_)
  · refine e_iconst (pc := 27) (v := (-1 : Int32)) dX12_trace_27 ic_m1 ?_
    exact e_iretR rfl dX12_trace_28
  · refine e_iload_n (pc := 4) dX12_trace_4 1 rfl rfl ?_
    refine e_aload_n (pc := 5) dX12_trace_5 0 rfl rfl ?_
    refine g_I (pc := 6) kk54 fl_X12_387 dX12_trace_6 ?_
    refine e_icmp_ge (pc := 9) (tgt := 27) dX12_trace_9 (by decide) (fun _ => ?_) (fun _ => ?_)
    · refine e_iconst (pc := 27) (v := (-1 : Int32)) dX12_trace_27 ic_m1 ?_
      exact e_iretR rfl dX12_trace_28
    · refine e_iload_n (pc := 12) dX12_trace_12 1 rfl rfl ?_
      refine e_bipush (pc := 13) (v := (24 : Int32)) dX12_trace_13 bp_24 ?_
      refine e_icmp_ge (pc := 15) (tgt := 27) dX12_trace_15 (by decide) (fun _ => ?_) (fun _ => ?_)
      · refine e_iconst (pc := 27) (v := (-1 : Int32)) dX12_trace_27 ic_m1 ?_
        exact e_iretR rfl dX12_trace_28
      · refine e_aload_n (pc := 18) dX12_trace_18 0 rfl rfl ?_
        refine g_R (pc := 19) (cl' := 81) kk54 fl_X12_106 rfl dX12_trace_19 ?_
        refine e_iload_n (pc := 22) dX12_trace_22 1 rfl rfl ?_
        refine e_iald (pc := 23) kk81 dX12_trace_23 (fun v1 => ?_)
        refine e_goto (pc := 24) (tgt := 28) dX12_trace_24 (by decide) ?_
        exact e_iretR rfl dX12_trace_28
theorem cf_X12_trace (X : Xt) (a1 : Int32) (w : Wd) : CF (gRI w) X m_X12_trace 1 [.ref (xa X 54), .int a1] w (f_X12_trace a1 w) := CF_of (by decide) (Nat.le_of_ble_eq_true rfl) (ce_X12_trace X a1 w)
set_option maxRecDepth 100000 in
set_option maxHeartbeats 4000000 in
theorem ce_X12_body (X : Xt) (a1 : Int32) (w : Wd) : E gWI X m_X12_body 2 0 [(0, .ref (xa X 54)), (1, .int a1)] [] w (f_X12_body a1 w) := by
  unfold f_X12_body
  refine e_iload_n (pc := 0) dX12_body_0 1 rfl rfl ?_
  refine e_iconst (pc := 1) (v := (0 : Int32)) dX12_body_1 ic_0 ?_
  refine e_bipush (pc := 2) (v := (7 : Int32)) dX12_body_2 bp_7 ?_
  refine e_callSRI (pc := 4) (As := [.int a1, .int (0 : Int32), .int (7 : Int32)]) (rest := []) (cf_X12_in X a1 (0 : Int32) (7 : Int32) w) lk_X12_124 (Nat.le_of_ble_eq_true rfl) (Nat.le_of_ble_eq_true rfl) rfl rfl (Nat.le_of_ble_eq_true rfl) dX12_body_4 (fun r1 => ?_)
  refine e_if_ne (pc := 7) (tgt := 12) dX12_body_7 (by decide) (fun _ => ?_) (fun _ => ?_)
  · refine e_iconst (pc := 10) (v := (-1 : Int32)) dX12_body_10 ic_m1 ?_
    exact e_iretW rfl dX12_body_11
  · refine e_aload_n (pc := 12) dX12_body_12 0 rfl rfl ?_
    refine g_I (pc := 13) kk54 fl_X12_384 dX12_body_13 ?_
    refine e_bipush (pc := 16) (v := (50 : Int32)) dX12_body_16 bp_50 ?_
    refine e_icmp_ne (pc := 18) (tgt := 24) dX12_body_18 (by decide) (fun _ => ?_) (fun _ => ?_)
    · refine e_bipush (pc := 21) (v := (-3 : Int32)) dX12_body_21 bp_m3 ?_
      exact e_iretW rfl dX12_body_23
    · refine e_aload_n (pc := 24) dX12_body_24 0 rfl rfl ?_
      refine g_R (pc := 25) (cl' := 80) kk54 fl_X12_103 rfl dX12_body_25 ?_
      refine e_aload_n (pc := 28) dX12_body_28 0 rfl rfl ?_
      refine g_I (pc := 29) kk54 fl_X12_384 dX12_body_29 ?_
      refine e_iload_n (pc := 32) dX12_body_32 1 rfl rfl ?_
      refine e_iast (pc := 33) kk80 dX12_body_33 (fun w2 => ?_)
      refine e_aload_n (pc := 34) dX12_body_34 0 rfl rfl ?_
      refine e_dup (pc := 35) dX12_body_35 rfl ?_
      refine g_I (pc := 36) kk54 fl_X12_384 dX12_body_36 ?_
      refine e_iconst (pc := 39) (v := (1 : Int32)) dX12_body_39 ic_1 ?_
      refine e_iadd (pc := 40) dX12_body_40 ?_
      refine p_I (pc := 41) kk54 fp_X12_384 dX12_body_41 (fun w3 => ?_)
      refine e_aload_n (pc := 44) dX12_body_44 0 rfl rfl ?_
      refine g_I (pc := 45) kk54 fl_X12_384 dX12_body_45 ?_
      refine e_iconst (pc := 48) (v := (1 : Int32)) dX12_body_48 ic_1 ?_
      refine e_isub (pc := 49) dX12_body_49 ?_
      exact e_iretW rfl dX12_body_50
theorem cf_X12_body (X : Xt) (a1 : Int32) (w : Wd) : CF gWI X m_X12_body 2 [.ref (xa X 54), .int a1] w (f_X12_body a1 w) := CF_of (by decide) (Nat.le_of_ble_eq_true rfl) (ce_X12_body X a1 w)
set_option maxRecDepth 100000 in
set_option maxHeartbeats 4000000 in
theorem cb_X12_isUnder_b44 (X : Xt) (w : Wd) (x0 : Int32) (x1 : Int32) : E (gRI w) X m_X12_isUnder 1 44 [(0, .int x0), (1, .int x1)] [] w (f_X12_isUnder_b44 x0 x1) := by
  unfold f_X12_isUnder_b44
  refine e_iload_n (pc := 44) dX12_isUnder_44 1 rfl rfl ?_
  refine e_bipush (pc := 45) (v := (6 : Int32)) dX12_isUnder_45 bp_6 ?_
  refine e_icmp_ne (pc := 47) (tgt := 60) dX12_isUnder_47 (by decide) (fun _ => ?_) (fun _ => ?_)
  · refine e_iload_n (pc := 50) dX12_isUnder_50 0 rfl rfl ?_
    refine e_bipush (pc := 51) (v := (7 : Int32)) dX12_isUnder_51 bp_7 ?_
    refine e_icmp_ne (pc := 53) (tgt := 60) dX12_isUnder_53 (by decide) (fun _ => ?_) (fun _ => ?_)
    · refine e_iconst (pc := 56) (v := (1 : Int32)) dX12_isUnder_56 ic_1 ?_
      refine e_goto (pc := 57) (tgt := 61) dX12_isUnder_57 (by decide) ?_
      exact e_zretR0 rfl (by decide) dX12_isUnder_61
    · refine e_iconst (pc := 60) (v := (0 : Int32)) dX12_isUnder_60 ic_0 ?_
      exact e_zretR0 rfl (by decide) dX12_isUnder_61
  · refine e_iconst (pc := 60) (v := (0 : Int32)) dX12_isUnder_60 ic_0 ?_
    exact e_zretR0 rfl (by decide) dX12_isUnder_61
set_option maxRecDepth 100000 in
set_option maxHeartbeats 4000000 in
theorem cb_X12_isUnder_b34 (X : Xt) (w : Wd) (x0 : Int32) (x1 : Int32) : E (gRI w) X m_X12_isUnder 1 34 [(0, .int x0), (1, .int x1)] [] w (f_X12_isUnder_b34 x0 x1) := by
  unfold f_X12_isUnder_b34
  refine e_iload_n (pc := 34) dX12_isUnder_34 1 rfl rfl ?_
  refine e_iconst (pc := 35) (v := (3 : Int32)) dX12_isUnder_35 ic_3 ?_
  refine e_icmp_ne (pc := 36) (tgt := 44) dX12_isUnder_36 (by decide) (fun _ => ?_) (fun _ => ?_)
  · refine e_iload_n (pc := 39) dX12_isUnder_39 0 rfl rfl ?_
    refine e_iconst (pc := 40) (v := (5 : Int32)) dX12_isUnder_40 ic_5 ?_
    refine e_icmp_eq (pc := 41) (tgt := 56) dX12_isUnder_41 (by decide) (fun _ => ?_) (fun _ => ?_)
    · refine e_iconst (pc := 56) (v := (1 : Int32)) dX12_isUnder_56 ic_1 ?_
      refine e_goto (pc := 57) (tgt := 61) dX12_isUnder_57 (by decide) ?_
      exact e_zretR0 rfl (by decide) dX12_isUnder_61
    · refine e_lv [0, 1] rfl ?_
      exact cb_X12_isUnder_b44 X w x0 x1
  · refine e_lv [0, 1] rfl ?_
    exact cb_X12_isUnder_b44 X w x0 x1
set_option maxRecDepth 100000 in
set_option maxHeartbeats 4000000 in
theorem cb_X12_isUnder_b19 (X : Xt) (w : Wd) (x0 : Int32) (x1 : Int32) : E (gRI w) X m_X12_isUnder 1 19 [(0, .int x0), (1, .int x1)] [] w (f_X12_isUnder_b19 x0 x1) := by
  unfold f_X12_isUnder_b19
  refine e_iload_n (pc := 19) dX12_isUnder_19 1 rfl rfl ?_
  refine e_iconst (pc := 20) (v := (2 : Int32)) dX12_isUnder_20 ic_2 ?_
  refine e_icmp_ne (pc := 21) (tgt := 34) dX12_isUnder_21 (by decide) (fun _ => ?_) (fun _ => ?_)
  · refine e_iload_n (pc := 24) dX12_isUnder_24 0 rfl rfl ?_
    refine e_iconst (pc := 25) (v := (3 : Int32)) dX12_isUnder_25 ic_3 ?_
    refine e_icmp_eq (pc := 26) (tgt := 56) dX12_isUnder_26 (by decide) (fun _ => ?_) (fun _ => ?_)
    · refine e_iconst (pc := 56) (v := (1 : Int32)) dX12_isUnder_56 ic_1 ?_
      refine e_goto (pc := 57) (tgt := 61) dX12_isUnder_57 (by decide) ?_
      exact e_zretR0 rfl (by decide) dX12_isUnder_61
    · refine e_iload_n (pc := 29) dX12_isUnder_29 0 rfl rfl ?_
      refine e_iconst (pc := 30) (v := (5 : Int32)) dX12_isUnder_30 ic_5 ?_
      refine e_icmp_eq (pc := 31) (tgt := 56) dX12_isUnder_31 (by decide) (fun _ => ?_) (fun _ => ?_)
      · refine e_iconst (pc := 56) (v := (1 : Int32)) dX12_isUnder_56 ic_1 ?_
        refine e_goto (pc := 57) (tgt := 61) dX12_isUnder_57 (by decide) ?_
        exact e_zretR0 rfl (by decide) dX12_isUnder_61
      · refine e_lv [0, 1] rfl ?_
        exact cb_X12_isUnder_b34 X w x0 x1
  · refine e_lv [0, 1] rfl ?_
    exact cb_X12_isUnder_b34 X w x0 x1
set_option maxRecDepth 100000 in
set_option maxHeartbeats 4000000 in
theorem ce_X12_isUnder (X : Xt) (a0 : Int32) (a1 : Int32) (w : Wd) : E (gRI w) X m_X12_isUnder 1 0 [(0, .int a0), (1, .int a1)] [] w (f_X12_isUnder a0 a1) := by
  unfold f_X12_isUnder
  refine e_iload_n (pc := 0) dX12_isUnder_0 1 rfl rfl ?_
  refine e_if_eq (pc := 1) (tgt := 56) dX12_isUnder_1 (by decide) (fun _ => ?_) (fun _ => ?_)
  · refine e_iconst (pc := 56) (v := (1 : Int32)) dX12_isUnder_56 ic_1 ?_
    refine e_goto (pc := 57) (tgt := 61) dX12_isUnder_57 (by decide) ?_
    exact e_zretR0 rfl (by decide) dX12_isUnder_61
  · refine e_iload_n (pc := 4) dX12_isUnder_4 0 rfl rfl ?_
    refine e_iload_n (pc := 5) dX12_isUnder_5 1 rfl rfl ?_
    refine e_icmp_eq (pc := 6) (tgt := 56) dX12_isUnder_6 (by decide) (fun _ => ?_) (fun _ => ?_)
    · refine e_iconst (pc := 56) (v := (1 : Int32)) dX12_isUnder_56 ic_1 ?_
      refine e_goto (pc := 57) (tgt := 61) dX12_isUnder_57 (by decide) ?_
      exact e_zretR0 rfl (by decide) dX12_isUnder_61
    · refine e_iload_n (pc := 9) dX12_isUnder_9 1 rfl rfl ?_
      refine e_iconst (pc := 10) (v := (1 : Int32)) dX12_isUnder_10 ic_1 ?_
      refine e_icmp_ne (pc := 11) (tgt := 19) dX12_isUnder_11 (by decide) (fun _ => ?_) (fun _ => ?_)
      · refine e_iload_n (pc := 14) dX12_isUnder_14 0 rfl rfl ?_
        refine e_iconst (pc := 15) (v := (4 : Int32)) dX12_isUnder_15 ic_4 ?_
        refine e_icmp_eq (pc := 16) (tgt := 56) dX12_isUnder_16 (by decide) (fun _ => ?_) (fun _ => ?_)
        · refine e_iconst (pc := 56) (v := (1 : Int32)) dX12_isUnder_56 ic_1 ?_
          refine e_goto (pc := 57) (tgt := 61) dX12_isUnder_57 (by decide) ?_
          exact e_zretR0 rfl (by decide) dX12_isUnder_61
        · refine e_lv [0, 1] rfl ?_
          exact cb_X12_isUnder_b19 X w a0 a1
      · refine e_lv [0, 1] rfl ?_
        exact cb_X12_isUnder_b19 X w a0 a1
theorem cf_X12_isUnder (X : Xt) (a0 : Int32) (a1 : Int32) (w : Wd) : CF (gRI w) X m_X12_isUnder 1 [.int a0, .int a1] w (f_X12_isUnder a0 a1) := CF_of (by decide) (Nat.le_of_ble_eq_true rfl) (ce_X12_isUnder X a0 a1 w)
set_option maxRecDepth 100000 in
set_option maxHeartbeats 4000000 in
theorem ce_X12_plainPicks (X : Xt) (a1 : Int32) (a2 : Int32) (w : Wd) : E gWI X m_X12_plainPicks 2 0 [(0, .ref (xa X 54)), (1, .int a1), (2, .int a2)] [] w (f_X12_plainPicks a1 a2 w) := by
  unfold f_X12_plainPicks
  refine e_aload_n (pc := 0) dX12_plainPicks_0 0 rfl rfl ?_
  refine e_iconst (pc := 1) (v := (1 : Int32)) dX12_plainPicks_1 ic_1 ?_
  refine e_callVWV (pc := 2) (As := [.int (1 : Int32)]) (rest := []) kk54 Kc12 (cf_X12_ran X (1 : Int32) w) lk_X12_390 (Nat.le_of_ble_eq_true rfl) (Nat.le_of_ble_eq_true rfl) rfl rfl (Nat.le_of_ble_eq_true rfl) dX12_plainPicks_2 (fun w1 => ?_)
  refine e_iload_n (pc := 5) dX12_plainPicks_5 2 rfl rfl ?_
  refine e_iload_n (pc := 6) dX12_plainPicks_6 1 rfl rfl ?_
  refine e_iadd (pc := 7) dX12_plainPicks_7 ?_
  exact e_iretW rfl dX12_plainPicks_8
theorem cf_X12_plainPicks (X : Xt) (a1 : Int32) (a2 : Int32) (w : Wd) : CF gWI X m_X12_plainPicks 2 [.ref (xa X 54), .int a1, .int a2] w (f_X12_plainPicks a1 a2 w) := CF_of (by decide) (Nat.le_of_ble_eq_true rfl) (ce_X12_plainPicks X a1 a2 w)
set_option maxRecDepth 100000 in
set_option maxHeartbeats 4000000 in
theorem ce_X12_countedPicks (X : Xt) (a1 : Int32) (a2 : Int32) (w : Wd) : E gWI X m_X12_countedPicks 3 0 [(0, .ref (xa X 54)), (1, .int a1), (2, .int a2)] [] w (f_X12_countedPicks a1 a2 w) := by
  unfold f_X12_countedPicks
  refine e_aload_n (pc := 0) dX12_countedPicks_0 0 rfl rfl ?_
  refine e_bipush (pc := 1) (v := (70 : Int32)) dX12_countedPicks_1 bp_70 ?_
  refine e_callVWV (pc := 3) (As := [.int (70 : Int32)]) (rest := []) kk54 Kc12 (cf_X12_ran X (70 : Int32) w) lk_X12_390 (Nat.le_of_ble_eq_true rfl) (Nat.le_of_ble_eq_true rfl) rfl rfl (Nat.le_of_ble_eq_true rfl) dX12_countedPicks_3 (fun w1 => ?_)
  refine e_aload_n (pc := 6) dX12_countedPicks_6 0 rfl rfl ?_
  refine e_iload_n (pc := 7) dX12_countedPicks_7 1 rfl rfl ?_
  refine e_iload_n (pc := 8) dX12_countedPicks_8 2 rfl rfl ?_
  refine e_callVWI (pc := 9) (As := [.int a1, .int a2]) (rest := []) kk54 Kc12 (cf_X12_plainPicks X a1 a2 w1) lk_X12_393 (Nat.le_of_ble_eq_true rfl) (Nat.le_of_ble_eq_true rfl) rfl rfl (Nat.le_of_ble_eq_true rfl) dX12_countedPicks_9 (fun r2 w3 => ?_)
  refine e_iconst (pc := 12) (v := (2 : Int32)) dX12_countedPicks_12 ic_2 ?_
  refine e_imul (pc := 13) dX12_countedPicks_13 ?_
  exact e_iretW rfl dX12_countedPicks_14
theorem cf_X12_countedPicks (X : Xt) (a1 : Int32) (a2 : Int32) (w : Wd) : CF gWI X m_X12_countedPicks 3 [.ref (xa X 54), .int a1, .int a2] w (f_X12_countedPicks a1 a2 w) := CF_of (by decide) (Nat.le_of_ble_eq_true rfl) (ce_X12_countedPicks X a1 a2 w)
set_option maxRecDepth 100000 in
set_option maxHeartbeats 4000000 in
theorem ce_X12_picking (X : Xt) (a1 : Int32) (a2 : Int32) (w : Wd) : E gWI X m_X12_picking 4 0 [(0, .ref (xa X 54)), (1, .int a1), (2, .int a2)] [] w (f_X12_picking a1 a2 w) := by
  unfold f_X12_picking
  refine e_aload_n (pc := 0) dX12_picking_0 0 rfl rfl ?_
  refine g_R (pc := 1) (cl' := 80) kk54 fl_X12_103 rfl dX12_picking_1 ?_
  refine e_iload_n (pc := 4) dX12_picking_4 1 rfl rfl ?_
  refine e_iald (pc := 5) kk80 dX12_picking_5 (fun v1 => ?_)
  refine e_iconst (pc := 6) (v := (1 : Int32)) dX12_picking_6 ic_1 ?_
  refine e_callSRI (pc := 7) (As := [.int v1, .int (1 : Int32)]) (rest := []) (cf_X12_isUnder X v1 (1 : Int32) w) lk_X12_396 (Nat.le_of_ble_eq_true rfl) (Nat.le_of_ble_eq_true rfl) rfl rfl (Nat.le_of_ble_eq_true rfl) dX12_picking_7 (fun r2 => ?_)
  refine e_if_eq (pc := 10) (tgt := 28) dX12_picking_10 (by decide) (fun _ => ?_) (fun _ => ?_)
  · refine e_aload_n (pc := 28) dX12_picking_28 0 rfl rfl ?_
    refine g_R (pc := 29) (cl' := 80) kk54 fl_X12_103 rfl dX12_picking_29 ?_
    refine e_iload_n (pc := 32) dX12_picking_32 1 rfl rfl ?_
    refine e_iald (pc := 33) kk80 dX12_picking_33 (fun v3 => ?_)
    refine e_bipush (pc := 34) (v := (7 : Int32)) dX12_picking_34 bp_7 ?_
    refine e_icmp_ne (pc := 36) (tgt := 54) dX12_picking_36 (by decide) (fun _ => ?_) (fun _ => ?_)
    · refine e_aload_n (pc := 39) dX12_picking_39 0 rfl rfl ?_
      refine e_bipush (pc := 40) (v := (81 : Int32)) dX12_picking_40 bp_81 ?_
      refine e_callVWV (pc := 42) (As := [.int (81 : Int32)]) (rest := []) kk54 Kc12 (cf_X12_ran X (81 : Int32) w) lk_X12_390 (Nat.le_of_ble_eq_true rfl) (Nat.le_of_ble_eq_true rfl) rfl rfl (Nat.le_of_ble_eq_true rfl) dX12_picking_42 (fun w9 => ?_)
      refine e_aload_n (pc := 45) dX12_picking_45 0 rfl rfl ?_
      refine e_iload_n (pc := 46) dX12_picking_46 1 rfl rfl ?_
      refine e_iload_n (pc := 47) dX12_picking_47 2 rfl rfl ?_
      refine e_callVWI (pc := 48) (As := [.int a1, .int a2]) (rest := []) kk54 Kc12 (cf_X12_countedPicks X a1 a2 w9) lk_X12_399 (Nat.le_of_ble_eq_true rfl) (Nat.le_of_ble_eq_true rfl) rfl rfl (Nat.le_of_ble_eq_true rfl) dX12_picking_48 (fun r10 w11 => ?_)
      refine e_iconst (pc := 51) (v := (1 : Int32)) dX12_picking_51 ic_1 ?_
      refine e_isub (pc := 52) dX12_picking_52 ?_
      exact e_iretW rfl dX12_picking_53
    · refine e_aload_n (pc := 54) dX12_picking_54 0 rfl rfl ?_
      refine g_R (pc := 55) (cl' := 80) kk54 fl_X12_103 rfl dX12_picking_55 ?_
      refine e_iload_n (pc := 58) dX12_picking_58 1 rfl rfl ?_
      refine e_iald (pc := 59) kk80 dX12_picking_59 (fun v4 => ?_)
      refine e_bipush (pc := 60) (v := (6 : Int32)) dX12_picking_60 bp_6 ?_
      refine e_icmp_ne (pc := 62) (tgt := 74) dX12_picking_62 (by decide) (fun _ => ?_) (fun _ => ?_)
      · refine e_aload_n (pc := 65) dX12_picking_65 0 rfl rfl ?_
        refine e_iload_n (pc := 66) dX12_picking_66 1 rfl rfl ?_
        refine e_iload_n (pc := 67) dX12_picking_67 2 rfl rfl ?_
        refine e_callVWI (pc := 68) (As := [.int a1, .int a2]) (rest := []) kk54 Kc12 (cf_X12_countedPicks X a1 a2 w) lk_X12_399 (Nat.le_of_ble_eq_true rfl) (Nat.le_of_ble_eq_true rfl) rfl rfl (Nat.le_of_ble_eq_true rfl) dX12_picking_68 (fun r7 w8 => ?_)
        refine e_goto (pc := 71) (tgt := 80) dX12_picking_71 (by decide) ?_
        exact e_iretW rfl dX12_picking_80
      · refine e_aload_n (pc := 74) dX12_picking_74 0 rfl rfl ?_
        refine e_iload_n (pc := 75) dX12_picking_75 1 rfl rfl ?_
        refine e_iload_n (pc := 76) dX12_picking_76 2 rfl rfl ?_
        refine e_callVWI (pc := 77) (As := [.int a1, .int a2]) (rest := []) kk54 Kc12 (cf_X12_plainPicks X a1 a2 w) lk_X12_393 (Nat.le_of_ble_eq_true rfl) (Nat.le_of_ble_eq_true rfl) rfl rfl (Nat.le_of_ble_eq_true rfl) dX12_picking_77 (fun r5 w6 => ?_)
        exact e_iretW rfl dX12_picking_80
  · refine e_aload_n (pc := 13) dX12_picking_13 0 rfl rfl ?_
    refine e_bipush (pc := 14) (v := (20 : Int32)) dX12_picking_14 bp_20 ?_
    refine e_callVWV (pc := 16) (As := [.int (20 : Int32)]) (rest := []) kk54 Kc12 (cf_X12_ran X (20 : Int32) w) lk_X12_390 (Nat.le_of_ble_eq_true rfl) (Nat.le_of_ble_eq_true rfl) rfl rfl (Nat.le_of_ble_eq_true rfl) dX12_picking_16 (fun w12 => ?_)
    refine e_aload_n (pc := 19) dX12_picking_19 0 rfl rfl ?_
    refine e_iload_n (pc := 20) dX12_picking_20 1 rfl rfl ?_
    refine e_iload_n (pc := 21) dX12_picking_21 2 rfl rfl ?_
    refine e_callVWI (pc := 22) (As := [.int a1, .int a2]) (rest := []) kk54 Kc12 (cf_X12_plainPicks X a1 a2 w12) lk_X12_393 (Nat.le_of_ble_eq_true rfl) (Nat.le_of_ble_eq_true rfl) rfl rfl (Nat.le_of_ble_eq_true rfl) dX12_picking_22 (fun r13 w14 => ?_)
    refine e_iconst (pc := 25) (v := (3 : Int32)) dX12_picking_25 ic_3 ?_
    refine e_iadd (pc := 26) dX12_picking_26 ?_
    exact e_iretW rfl dX12_picking_27
theorem cf_X12_picking (X : Xt) (a1 : Int32) (a2 : Int32) (w : Wd) : CF gWI X m_X12_picking 4 [.ref (xa X 54), .int a1, .int a2] w (f_X12_picking a1 a2 w) := CF_of (by decide) (Nat.le_of_ble_eq_true rfl) (ce_X12_picking X a1 a2 w)
set_option maxRecDepth 100000 in
set_option maxHeartbeats 4000000 in
theorem ce_X12_plainFinds (X : Xt) (a1 : Int32) (a2 : Int32) (w : Wd) : E gWI X m_X12_plainFinds 5 0 [(0, .ref (xa X 54)), (1, .int a1), (2, .int a2)] [] w (f_X12_plainFinds a1 a2 w) := by
  unfold f_X12_plainFinds
  refine e_aload_n (pc := 0) dX12_plainFinds_0 0 rfl rfl ?_
  refine e_bipush (pc := 1) (v := (10 : Int32)) dX12_plainFinds_1 bp_10 ?_
  refine e_callVWV (pc := 3) (As := [.int (10 : Int32)]) (rest := []) kk54 Kc12 (cf_X12_ran X (10 : Int32) w) lk_X12_390 (Nat.le_of_ble_eq_true rfl) (Nat.le_of_ble_eq_true rfl) rfl rfl (Nat.le_of_ble_eq_true rfl) dX12_plainFinds_3 (fun w1 => ?_)
  refine e_aload_n (pc := 6) dX12_plainFinds_6 0 rfl rfl ?_
  refine e_iload_n (pc := 7) dX12_plainFinds_7 1 rfl rfl ?_
  refine e_iload_n (pc := 8) dX12_plainFinds_8 2 rfl rfl ?_
  refine e_callVWI (pc := 9) (As := [.int a1, .int a2]) (rest := []) kk54 Kc12 (cf_X12_picking X a1 a2 w1) lk_X12_402 (Nat.le_of_ble_eq_true rfl) (Nat.le_of_ble_eq_true rfl) rfl rfl (Nat.le_of_ble_eq_true rfl) dX12_plainFinds_9 (fun r2 w3 => ?_)
  refine e_iconst (pc := 12) (v := (2 : Int32)) dX12_plainFinds_12 ic_2 ?_
  refine e_imul (pc := 13) dX12_plainFinds_13 ?_
  exact e_iretW rfl dX12_plainFinds_14
theorem cf_X12_plainFinds (X : Xt) (a1 : Int32) (a2 : Int32) (w : Wd) : CF gWI X m_X12_plainFinds 5 [.ref (xa X 54), .int a1, .int a2] w (f_X12_plainFinds a1 a2 w) := CF_of (by decide) (Nat.le_of_ble_eq_true rfl) (ce_X12_plainFinds X a1 a2 w)
set_option maxRecDepth 100000 in
set_option maxHeartbeats 4000000 in
theorem ce_X12_slowFinds (X : Xt) (a1 : Int32) (a2 : Int32) (w : Wd) : E gWI X m_X12_slowFinds 6 0 [(0, .ref (xa X 54)), (1, .int a1), (2, .int a2)] [] w (f_X12_slowFinds a1 a2 w) := by
  unfold f_X12_slowFinds
  refine e_aload_n (pc := 0) dX12_slowFinds_0 0 rfl rfl ?_
  refine e_bipush (pc := 1) (v := (30 : Int32)) dX12_slowFinds_1 bp_30 ?_
  refine e_callVWV (pc := 3) (As := [.int (30 : Int32)]) (rest := []) kk54 Kc12 (cf_X12_ran X (30 : Int32) w) lk_X12_390 (Nat.le_of_ble_eq_true rfl) (Nat.le_of_ble_eq_true rfl) rfl rfl (Nat.le_of_ble_eq_true rfl) dX12_slowFinds_3 (fun w1 => ?_)
  refine e_aload_n (pc := 6) dX12_slowFinds_6 0 rfl rfl ?_
  refine e_iload_n (pc := 7) dX12_slowFinds_7 1 rfl rfl ?_
  refine e_iload_n (pc := 8) dX12_slowFinds_8 2 rfl rfl ?_
  refine e_callVWI (pc := 9) (As := [.int a1, .int a2]) (rest := []) kk54 Kc12 (cf_X12_plainFinds X a1 a2 w1) lk_X12_405 (Nat.le_of_ble_eq_true rfl) (Nat.le_of_ble_eq_true rfl) rfl rfl (Nat.le_of_ble_eq_true rfl) dX12_slowFinds_9 (fun r2 w3 => ?_)
  refine e_ineg (pc := 12) dX12_slowFinds_12 ?_
  exact e_iretW rfl dX12_slowFinds_13
theorem cf_X12_slowFinds (X : Xt) (a1 : Int32) (a2 : Int32) (w : Wd) : CF gWI X m_X12_slowFinds 6 [.ref (xa X 54), .int a1, .int a2] w (f_X12_slowFinds a1 a2 w) := CF_of (by decide) (Nat.le_of_ble_eq_true rfl) (ce_X12_slowFinds X a1 a2 w)
set_option maxRecDepth 100000 in
set_option maxHeartbeats 4000000 in
theorem ce_X12_plainLeaves (X : Xt) (a1 : Int32) (a2 : Int32) (w : Wd) : E gWI X m_X12_plainLeaves 2 0 [(0, .ref (xa X 54)), (1, .int a1), (2, .int a2)] [] w (f_X12_plainLeaves a1 a2 w) := by
  unfold f_X12_plainLeaves
  refine e_aload_n (pc := 0) dX12_plainLeaves_0 0 rfl rfl ?_
  refine e_bipush (pc := 1) (v := (11 : Int32)) dX12_plainLeaves_1 bp_11 ?_
  refine e_callVWV (pc := 3) (As := [.int (11 : Int32)]) (rest := []) kk54 Kc12 (cf_X12_ran X (11 : Int32) w) lk_X12_390 (Nat.le_of_ble_eq_true rfl) (Nat.le_of_ble_eq_true rfl) rfl rfl (Nat.le_of_ble_eq_true rfl) dX12_plainLeaves_3 (fun w1 => ?_)
  refine e_iload_n (pc := 6) dX12_plainLeaves_6 2 rfl rfl ?_
  refine e_iload_n (pc := 7) dX12_plainLeaves_7 1 rfl rfl ?_
  refine e_ixor (pc := 8) dX12_plainLeaves_8 ?_
  exact e_iretW rfl dX12_plainLeaves_9
theorem cf_X12_plainLeaves (X : Xt) (a1 : Int32) (a2 : Int32) (w : Wd) : CF gWI X m_X12_plainLeaves 2 [.ref (xa X 54), .int a1, .int a2] w (f_X12_plainLeaves a1 a2 w) := CF_of (by decide) (Nat.le_of_ble_eq_true rfl) (ce_X12_plainLeaves X a1 a2 w)
set_option maxRecDepth 100000 in
set_option maxHeartbeats 4000000 in
theorem ce_X12_lampedLeaves (X : Xt) (a1 : Int32) (a2 : Int32) (w : Wd) : E gWI X m_X12_lampedLeaves 3 0 [(0, .ref (xa X 54)), (1, .int a1), (2, .int a2)] [] w (f_X12_lampedLeaves a1 a2 w) := by
  unfold f_X12_lampedLeaves
  refine e_aload_n (pc := 0) dX12_lampedLeaves_0 0 rfl rfl ?_
  refine e_bipush (pc := 1) (v := (40 : Int32)) dX12_lampedLeaves_1 bp_40 ?_
  refine e_callVWV (pc := 3) (As := [.int (40 : Int32)]) (rest := []) kk54 Kc12 (cf_X12_ran X (40 : Int32) w) lk_X12_390 (Nat.le_of_ble_eq_true rfl) (Nat.le_of_ble_eq_true rfl) rfl rfl (Nat.le_of_ble_eq_true rfl) dX12_lampedLeaves_3 (fun w1 => ?_)
  refine e_aload_n (pc := 6) dX12_lampedLeaves_6 0 rfl rfl ?_
  refine e_iload_n (pc := 7) dX12_lampedLeaves_7 1 rfl rfl ?_
  refine e_iload_n (pc := 8) dX12_lampedLeaves_8 2 rfl rfl ?_
  refine e_callVWI (pc := 9) (As := [.int a1, .int a2]) (rest := []) kk54 Kc12 (cf_X12_plainLeaves X a1 a2 w1) lk_X12_414 (Nat.le_of_ble_eq_true rfl) (Nat.le_of_ble_eq_true rfl) rfl rfl (Nat.le_of_ble_eq_true rfl) dX12_lampedLeaves_9 (fun r2 w3 => ?_)
  refine e_iconst (pc := 12) (v := (3 : Int32)) dX12_lampedLeaves_12 ic_3 ?_
  refine e_imul (pc := 13) dX12_lampedLeaves_13 ?_
  exact e_iretW rfl dX12_lampedLeaves_14
theorem cf_X12_lampedLeaves (X : Xt) (a1 : Int32) (a2 : Int32) (w : Wd) : CF gWI X m_X12_lampedLeaves 3 [.ref (xa X 54), .int a1, .int a2] w (f_X12_lampedLeaves a1 a2 w) := CF_of (by decide) (Nat.le_of_ble_eq_true rfl) (ce_X12_lampedLeaves X a1 a2 w)
set_option maxRecDepth 100000 in
set_option maxHeartbeats 4000000 in
theorem ce_X12_leaving (X : Xt) (a1 : Int32) (a2 : Int32) (w : Wd) : E gWI X m_X12_leaving 5 0 [(0, .ref (xa X 54)), (1, .int a1), (2, .int a2)] [] w (f_X12_leaving a1 a2 w) := by
  unfold f_X12_leaving
  refine e_aload_n (pc := 0) dX12_leaving_0 0 rfl rfl ?_
  refine g_R (pc := 1) (cl' := 80) kk54 fl_X12_103 rfl dX12_leaving_1 ?_
  refine e_iload_n (pc := 4) dX12_leaving_4 1 rfl rfl ?_
  refine e_iald (pc := 5) kk80 dX12_leaving_5 (fun v1 => ?_)
  refine e_iconst (pc := 6) (v := (5 : Int32)) dX12_leaving_6 ic_5 ?_
  refine e_icmp_ne (pc := 7) (tgt := 32) dX12_leaving_7 (by decide) (fun _ => ?_) (fun _ => ?_)
  · refine e_aload_n (pc := 10) dX12_leaving_10 0 rfl rfl ?_
    refine e_bipush (pc := 11) (v := (60 : Int32)) dX12_leaving_11 bp_60 ?_
    refine e_callVWV (pc := 13) (As := [.int (60 : Int32)]) (rest := []) kk54 Kc12 (cf_X12_ran X (60 : Int32) w) lk_X12_390 (Nat.le_of_ble_eq_true rfl) (Nat.le_of_ble_eq_true rfl) rfl rfl (Nat.le_of_ble_eq_true rfl) dX12_leaving_13 (fun w7 => ?_)
    refine e_aload_n (pc := 16) dX12_leaving_16 0 rfl rfl ?_
    refine e_iload_n (pc := 17) dX12_leaving_17 1 rfl rfl ?_
    refine e_iload_n (pc := 18) dX12_leaving_18 2 rfl rfl ?_
    refine e_callVWI (pc := 19) (As := [.int a1, .int a2]) (rest := []) kk54 Kc12 (cf_X12_lampedLeaves X a1 a2 w7) lk_X12_417 (Nat.le_of_ble_eq_true rfl) (Nat.le_of_ble_eq_true rfl) rfl rfl (Nat.le_of_ble_eq_true rfl) dX12_leaving_19 (fun r8 w9 => ?_)
    refine e_istore_n (pc := 22) (lv' := [(3, .int r8), (0, .ref (xa X 54)), (1, .int a1), (2, .int a2)]) dX12_leaving_22 rfl (Nat.le_of_ble_eq_true rfl) rfl ?_
    refine e_iload_n (pc := 23) dX12_leaving_23 0 rfl rfl ?_
    refine e_aload_n (pc := 24) dX12_leaving_24 1 rfl rfl ?_
    refine e_iload_n (pc := 25) dX12_leaving_25 2 rfl rfl ?_
    refine e_iconst (pc := 26) (v := (2 : Int32)) dX12_leaving_26 ic_2 ?_
    refine e_callVWI (pc := 27) (As := [.int a1, .int (2 : Int32)]) (rest := [.int r8]) kk54 Kc12 (cf_X12_picking X a1 (2 : Int32) w9) lk_X12_402 (Nat.le_of_ble_eq_true rfl) (Nat.le_of_ble_eq_true rfl) rfl rfl (Nat.le_of_ble_eq_true rfl) dX12_leaving_27 (fun r10 w11 => ?_)
    refine e_isub (pc := 30) dX12_leaving_30 ?_
    exact e_iretW rfl dX12_leaving_31
  · refine e_aload_n (pc := 32) dX12_leaving_32 0 rfl rfl ?_
    refine g_R (pc := 33) (cl' := 80) kk54 fl_X12_103 rfl dX12_leaving_33 ?_
    refine e_iload_n (pc := 36) dX12_leaving_36 1 rfl rfl ?_
    refine e_iald (pc := 37) kk80 dX12_leaving_37 (fun v2 => ?_)
    refine e_iconst (pc := 38) (v := (3 : Int32)) dX12_leaving_38 ic_3 ?_
    refine e_icmp_ne (pc := 39) (tgt := 51) dX12_leaving_39 (by decide) (fun _ => ?_) (fun _ => ?_)
    · refine e_aload_n (pc := 42) dX12_leaving_42 0 rfl rfl ?_
      refine e_iload_n (pc := 43) dX12_leaving_43 1 rfl rfl ?_
      refine e_iload_n (pc := 44) dX12_leaving_44 2 rfl rfl ?_
      refine e_callVWI (pc := 45) (As := [.int a1, .int a2]) (rest := []) kk54 Kc12 (cf_X12_lampedLeaves X a1 a2 w) lk_X12_417 (Nat.le_of_ble_eq_true rfl) (Nat.le_of_ble_eq_true rfl) rfl rfl (Nat.le_of_ble_eq_true rfl) dX12_leaving_45 (fun r5 w6 => ?_)
      refine e_goto (pc := 48) (tgt := 57) dX12_leaving_48 (by decide) ?_
      exact e_iretW rfl dX12_leaving_57
    · refine e_aload_n (pc := 51) dX12_leaving_51 0 rfl rfl ?_
      refine e_iload_n (pc := 52) dX12_leaving_52 1 rfl rfl ?_
      refine e_iload_n (pc := 53) dX12_leaving_53 2 rfl rfl ?_
      refine e_callVWI (pc := 54) (As := [.int a1, .int a2]) (rest := []) kk54 Kc12 (cf_X12_plainLeaves X a1 a2 w) lk_X12_414 (Nat.le_of_ble_eq_true rfl) (Nat.le_of_ble_eq_true rfl) rfl rfl (Nat.le_of_ble_eq_true rfl) dX12_leaving_54 (fun r3 w4 => ?_)
      exact e_iretW rfl dX12_leaving_57
theorem cf_X12_leaving (X : Xt) (a1 : Int32) (a2 : Int32) (w : Wd) : CF gWI X m_X12_leaving 5 [.ref (xa X 54), .int a1, .int a2] w (f_X12_leaving a1 a2 w) := CF_of (by decide) (Nat.le_of_ble_eq_true rfl) (ce_X12_leaving X a1 a2 w)
set_option maxRecDepth 100000 in
set_option maxHeartbeats 4000000 in
theorem ce_X12_finding (X : Xt) (a1 : Int32) (a2 : Int32) (w : Wd) : E gWI X m_X12_finding 7 0 [(0, .ref (xa X 54)), (1, .int a1), (2, .int a2)] [] w (f_X12_finding a1 a2 w) := by
  unfold f_X12_finding
  refine e_aload_n (pc := 0) dX12_finding_0 0 rfl rfl ?_
  refine g_R (pc := 1) (cl' := 80) kk54 fl_X12_103 rfl dX12_finding_1 ?_
  refine e_iload_n (pc := 4) dX12_finding_4 1 rfl rfl ?_
  refine e_iald (pc := 5) kk80 dX12_finding_5 (fun v1 => ?_)
  refine e_iconst (pc := 6) (v := (3 : Int32)) dX12_finding_6 ic_3 ?_
  refine e_callSRI (pc := 7) (As := [.int v1, .int (3 : Int32)]) (rest := []) (cf_X12_isUnder X v1 (3 : Int32) w) lk_X12_396 (Nat.le_of_ble_eq_true rfl) (Nat.le_of_ble_eq_true rfl) rfl rfl (Nat.le_of_ble_eq_true rfl) dX12_finding_7 (fun r2 => ?_)
  refine e_if_eq (pc := 10) (tgt := 28) dX12_finding_10 (by decide) (fun _ => ?_) (fun _ => ?_)
  · refine e_aload_n (pc := 28) dX12_finding_28 0 rfl rfl ?_
    refine g_R (pc := 29) (cl' := 80) kk54 fl_X12_103 rfl dX12_finding_29 ?_
    refine e_iload_n (pc := 32) dX12_finding_32 1 rfl rfl ?_
    refine e_iald (pc := 33) kk80 dX12_finding_33 (fun v3 => ?_)
    refine e_bipush (pc := 34) (v := (7 : Int32)) dX12_finding_34 bp_7 ?_
    refine e_icmp_ne (pc := 36) (tgt := 61) dX12_finding_36 (by decide) (fun _ => ?_) (fun _ => ?_)
    · refine e_aload_n (pc := 39) dX12_finding_39 0 rfl rfl ?_
      refine e_bipush (pc := 40) (v := (80 : Int32)) dX12_finding_40 bp_80 ?_
      refine e_callVWV (pc := 42) (As := [.int (80 : Int32)]) (rest := []) kk54 Kc12 (cf_X12_ran X (80 : Int32) w) lk_X12_390 (Nat.le_of_ble_eq_true rfl) (Nat.le_of_ble_eq_true rfl) rfl rfl (Nat.le_of_ble_eq_true rfl) dX12_finding_42 (fun w9 => ?_)
      refine e_aload_n (pc := 45) dX12_finding_45 0 rfl rfl ?_
      refine e_iload_n (pc := 46) dX12_finding_46 1 rfl rfl ?_
      refine e_iload_n (pc := 47) dX12_finding_47 2 rfl rfl ?_
      refine e_callVWI (pc := 48) (As := [.int a1, .int a2]) (rest := []) kk54 Kc12 (cf_X12_plainFinds X a1 a2 w9) lk_X12_405 (Nat.le_of_ble_eq_true rfl) (Nat.le_of_ble_eq_true rfl) rfl rfl (Nat.le_of_ble_eq_true rfl) dX12_finding_48 (fun r10 w11 => ?_)
      refine e_istore_n (pc := 51) (lv' := [(3, .int r10), (0, .ref (xa X 54)), (1, .int a1), (2, .int a2)]) dX12_finding_51 rfl (Nat.le_of_ble_eq_true rfl) rfl ?_
      refine e_iload_n (pc := 52) dX12_finding_52 0 rfl rfl ?_
      refine e_aload_n (pc := 53) dX12_finding_53 1 rfl rfl ?_
      refine e_iload_n (pc := 54) dX12_finding_54 2 rfl rfl ?_
      refine e_iconst (pc := 55) (v := (2 : Int32)) dX12_finding_55 ic_2 ?_
      refine e_callVWI (pc := 56) (As := [.int a1, .int (2 : Int32)]) (rest := [.int r10]) kk54 Kc12 (cf_X12_leaving X a1 (2 : Int32) w11) lk_X12_411 (Nat.le_of_ble_eq_true rfl) (Nat.le_of_ble_eq_true rfl) rfl rfl (Nat.le_of_ble_eq_true rfl) dX12_finding_56 (fun r12 w13 => ?_)
      refine e_iadd (pc := 59) dX12_finding_59 ?_
      exact e_iretW rfl dX12_finding_60
    · refine e_aload_n (pc := 61) dX12_finding_61 0 rfl rfl ?_
      refine g_R (pc := 62) (cl' := 80) kk54 fl_X12_103 rfl dX12_finding_62 ?_
      refine e_iload_n (pc := 65) dX12_finding_65 1 rfl rfl ?_
      refine e_iald (pc := 66) kk80 dX12_finding_66 (fun v4 => ?_)
      refine e_iconst (pc := 67) (v := (2 : Int32)) dX12_finding_67 ic_2 ?_
      refine e_icmp_ne (pc := 68) (tgt := 80) dX12_finding_68 (by decide) (fun _ => ?_) (fun _ => ?_)
      · refine e_aload_n (pc := 71) dX12_finding_71 0 rfl rfl ?_
        refine e_iload_n (pc := 72) dX12_finding_72 1 rfl rfl ?_
        refine e_iload_n (pc := 73) dX12_finding_73 2 rfl rfl ?_
        refine e_callVWI (pc := 74) (As := [.int a1, .int a2]) (rest := []) kk54 Kc12 (cf_X12_slowFinds X a1 a2 w) lk_X12_408 (Nat.le_of_ble_eq_true rfl) (Nat.le_of_ble_eq_true rfl) rfl rfl (Nat.le_of_ble_eq_true rfl) dX12_finding_74 (fun r7 w8 => ?_)
        refine e_goto (pc := 77) (tgt := 86) dX12_finding_77 (by decide) ?_
        exact e_iretW rfl dX12_finding_86
      · refine e_aload_n (pc := 80) dX12_finding_80 0 rfl rfl ?_
        refine e_iload_n (pc := 81) dX12_finding_81 1 rfl rfl ?_
        refine e_iload_n (pc := 82) dX12_finding_82 2 rfl rfl ?_
        refine e_callVWI (pc := 83) (As := [.int a1, .int a2]) (rest := []) kk54 Kc12 (cf_X12_plainFinds X a1 a2 w) lk_X12_405 (Nat.le_of_ble_eq_true rfl) (Nat.le_of_ble_eq_true rfl) rfl rfl (Nat.le_of_ble_eq_true rfl) dX12_finding_83 (fun r5 w6 => ?_)
        exact e_iretW rfl dX12_finding_86
  · refine e_aload_n (pc := 13) dX12_finding_13 0 rfl rfl ?_
    refine e_bipush (pc := 14) (v := (41 : Int32)) dX12_finding_14 bp_41 ?_
    refine e_callVWV (pc := 16) (As := [.int (41 : Int32)]) (rest := []) kk54 Kc12 (cf_X12_ran X (41 : Int32) w) lk_X12_390 (Nat.le_of_ble_eq_true rfl) (Nat.le_of_ble_eq_true rfl) rfl rfl (Nat.le_of_ble_eq_true rfl) dX12_finding_16 (fun w14 => ?_)
    refine e_aload_n (pc := 19) dX12_finding_19 0 rfl rfl ?_
    refine e_iload_n (pc := 20) dX12_finding_20 1 rfl rfl ?_
    refine e_iload_n (pc := 21) dX12_finding_21 2 rfl rfl ?_
    refine e_iconst (pc := 22) (v := (1 : Int32)) dX12_finding_22 ic_1 ?_
    refine e_iadd (pc := 23) dX12_finding_23 ?_
    refine e_callVWI (pc := 24) (As := [.int a1, .int (a2 + (1 : Int32))]) (rest := []) kk54 Kc12 (cf_X12_slowFinds X a1 (a2 + (1 : Int32)) w14) lk_X12_408 (Nat.le_of_ble_eq_true rfl) (Nat.le_of_ble_eq_true rfl) rfl rfl (Nat.le_of_ble_eq_true rfl) dX12_finding_24 (fun r15 w16 => ?_)
    exact e_iretW rfl dX12_finding_27
theorem cf_X12_finding (X : Xt) (a1 : Int32) (a2 : Int32) (w : Wd) : CF gWI X m_X12_finding 7 [.ref (xa X 54), .int a1, .int a2] w (f_X12_finding a1 a2 w) := CF_of (by decide) (Nat.le_of_ble_eq_true rfl) (ce_X12_finding X a1 a2 w)
set_option maxRecDepth 100000 in
set_option maxHeartbeats 4000000 in
theorem ce_X12_plainTells (X : Xt) (a1 : Int32) (a2 : Int32) (w : Wd) : E gWI X m_X12_plainTells 8 0 [(0, .ref (xa X 54)), (1, .int a1), (2, .int a2)] [] w (f_X12_plainTells a1 a2 w) := by
  unfold f_X12_plainTells
  refine e_aload_n (pc := 0) dX12_plainTells_0 0 rfl rfl ?_
  refine e_iconst (pc := 1) (v := (2 : Int32)) dX12_plainTells_1 ic_2 ?_
  refine e_callVWV (pc := 2) (As := [.int (2 : Int32)]) (rest := []) kk54 Kc12 (cf_X12_ran X (2 : Int32) w) lk_X12_390 (Nat.le_of_ble_eq_true rfl) (Nat.le_of_ble_eq_true rfl) rfl rfl (Nat.le_of_ble_eq_true rfl) dX12_plainTells_2 (fun w1 => ?_)
  refine e_aload_n (pc := 5) dX12_plainTells_5 0 rfl rfl ?_
  refine e_iload_n (pc := 6) dX12_plainTells_6 1 rfl rfl ?_
  refine e_iload_n (pc := 7) dX12_plainTells_7 2 rfl rfl ?_
  refine e_callVWI (pc := 8) (As := [.int a1, .int a2]) (rest := []) kk54 Kc12 (cf_X12_finding X a1 a2 w1) lk_X12_420 (Nat.le_of_ble_eq_true rfl) (Nat.le_of_ble_eq_true rfl) rfl rfl (Nat.le_of_ble_eq_true rfl) dX12_plainTells_8 (fun r2 w3 => ?_)
  refine e_istore_n (pc := 11) (lv' := [(3, .int r2), (0, .ref (xa X 54)), (1, .int a1), (2, .int a2)]) dX12_plainTells_11 rfl (Nat.le_of_ble_eq_true rfl) rfl ?_
  refine e_iload_n (pc := 12) dX12_plainTells_12 0 rfl rfl ?_
  refine e_aload_n (pc := 13) dX12_plainTells_13 1 rfl rfl ?_
  refine e_iload_n (pc := 14) dX12_plainTells_14 2 rfl rfl ?_
  refine e_iconst (pc := 15) (v := (1 : Int32)) dX12_plainTells_15 ic_1 ?_
  refine e_callVWI (pc := 16) (As := [.int a1, .int (1 : Int32)]) (rest := [.int r2]) kk54 Kc12 (cf_X12_leaving X a1 (1 : Int32) w3) lk_X12_411 (Nat.le_of_ble_eq_true rfl) (Nat.le_of_ble_eq_true rfl) rfl rfl (Nat.le_of_ble_eq_true rfl) dX12_plainTells_16 (fun r4 w5 => ?_)
  refine e_isub (pc := 19) dX12_plainTells_19 ?_
  exact e_iretW rfl dX12_plainTells_20
theorem cf_X12_plainTells (X : Xt) (a1 : Int32) (a2 : Int32) (w : Wd) : CF gWI X m_X12_plainTells 8 [.ref (xa X 54), .int a1, .int a2] w (f_X12_plainTells a1 a2 w) := CF_of (by decide) (Nat.le_of_ble_eq_true rfl) (ce_X12_plainTells X a1 a2 w)
set_option maxRecDepth 100000 in
set_option maxHeartbeats 4000000 in
theorem ce_X12_telling (X : Xt) (a1 : Int32) (a2 : Int32) (w : Wd) : E gWI X m_X12_telling 9 0 [(0, .ref (xa X 54)), (1, .int a1), (2, .int a2)] [] w (f_X12_telling a1 a2 w) := by
  unfold f_X12_telling
  refine e_aload_n (pc := 0) dX12_telling_0 0 rfl rfl ?_
  refine g_R (pc := 1) (cl' := 80) kk54 fl_X12_103 rfl dX12_telling_1 ?_
  refine e_iload_n (pc := 4) dX12_telling_4 1 rfl rfl ?_
  refine e_iald (pc := 5) kk80 dX12_telling_5 (fun v1 => ?_)
  refine e_iconst (pc := 6) (v := (4 : Int32)) dX12_telling_6 ic_4 ?_
  refine e_icmp_ne (pc := 7) (tgt := 25) dX12_telling_7 (by decide) (fun _ => ?_) (fun _ => ?_)
  · refine e_aload_n (pc := 10) dX12_telling_10 0 rfl rfl ?_
    refine e_bipush (pc := 11) (v := (50 : Int32)) dX12_telling_11 bp_50 ?_
    refine e_callVWV (pc := 13) (As := [.int (50 : Int32)]) (rest := []) kk54 Kc12 (cf_X12_ran X (50 : Int32) w) lk_X12_390 (Nat.le_of_ble_eq_true rfl) (Nat.le_of_ble_eq_true rfl) rfl rfl (Nat.le_of_ble_eq_true rfl) dX12_telling_13 (fun w8 => ?_)
    refine e_aload_n (pc := 16) dX12_telling_16 0 rfl rfl ?_
    refine e_iload_n (pc := 17) dX12_telling_17 1 rfl rfl ?_
    refine e_iload_n (pc := 18) dX12_telling_18 2 rfl rfl ?_
    refine e_callVWI (pc := 19) (As := [.int a1, .int a2]) (rest := []) kk54 Kc12 (cf_X12_plainTells X a1 a2 w8) lk_X12_423 (Nat.le_of_ble_eq_true rfl) (Nat.le_of_ble_eq_true rfl) rfl rfl (Nat.le_of_ble_eq_true rfl) dX12_telling_19 (fun r9 w10 => ?_)
    refine e_iconst (pc := 22) (v := (5 : Int32)) dX12_telling_22 ic_5 ?_
    refine e_ixor (pc := 23) dX12_telling_23 ?_
    exact e_iretW rfl dX12_telling_24
  · refine e_aload_n (pc := 25) dX12_telling_25 0 rfl rfl ?_
    refine g_R (pc := 26) (cl' := 80) kk54 fl_X12_103 rfl dX12_telling_26 ?_
    refine e_iload_n (pc := 29) dX12_telling_29 1 rfl rfl ?_
    refine e_iald (pc := 30) kk80 dX12_telling_30 (fun v2 => ?_)
    refine e_iconst (pc := 31) (v := (5 : Int32)) dX12_telling_31 ic_5 ?_
    refine e_icmp_ne (pc := 32) (tgt := 50) dX12_telling_32 (by decide) (fun _ => ?_) (fun _ => ?_)
    · refine e_aload_n (pc := 35) dX12_telling_35 0 rfl rfl ?_
      refine e_bipush (pc := 36) (v := (61 : Int32)) dX12_telling_36 bp_61 ?_
      refine e_callVWV (pc := 38) (As := [.int (61 : Int32)]) (rest := []) kk54 Kc12 (cf_X12_ran X (61 : Int32) w) lk_X12_390 (Nat.le_of_ble_eq_true rfl) (Nat.le_of_ble_eq_true rfl) rfl rfl (Nat.le_of_ble_eq_true rfl) dX12_telling_38 (fun w5 => ?_)
      refine e_aload_n (pc := 41) dX12_telling_41 0 rfl rfl ?_
      refine e_iload_n (pc := 42) dX12_telling_42 1 rfl rfl ?_
      refine e_iload_n (pc := 43) dX12_telling_43 2 rfl rfl ?_
      refine e_callVWI (pc := 44) (As := [.int a1, .int a2]) (rest := []) kk54 Kc12 (cf_X12_plainTells X a1 a2 w5) lk_X12_423 (Nat.le_of_ble_eq_true rfl) (Nat.le_of_ble_eq_true rfl) rfl rfl (Nat.le_of_ble_eq_true rfl) dX12_telling_44 (fun r6 w7 => ?_)
      refine e_iconst (pc := 47) (v := (1 : Int32)) dX12_telling_47 ic_1 ?_
      refine e_iadd (pc := 48) dX12_telling_48 ?_
      exact e_iretW rfl dX12_telling_49
    · refine e_aload_n (pc := 50) dX12_telling_50 0 rfl rfl ?_
      refine e_iload_n (pc := 51) dX12_telling_51 1 rfl rfl ?_
      refine e_iload_n (pc := 52) dX12_telling_52 2 rfl rfl ?_
      refine e_callVWI (pc := 53) (As := [.int a1, .int a2]) (rest := []) kk54 Kc12 (cf_X12_plainTells X a1 a2 w) lk_X12_423 (Nat.le_of_ble_eq_true rfl) (Nat.le_of_ble_eq_true rfl) rfl rfl (Nat.le_of_ble_eq_true rfl) dX12_telling_53 (fun r3 w4 => ?_)
      exact e_iretW rfl dX12_telling_56
theorem cf_X12_telling (X : Xt) (a1 : Int32) (a2 : Int32) (w : Wd) : CF gWI X m_X12_telling 9 [.ref (xa X 54), .int a1, .int a2] w (f_X12_telling a1 a2 w) := CF_of (by decide) (Nat.le_of_ble_eq_true rfl) (ce_X12_telling X a1 a2 w)
set_option maxRecDepth 100000 in
set_option maxHeartbeats 4000000 in
theorem ce_X12_act (X : Xt) (a1 : Int32) (a2 : Int32) (a3 : Int32) (w : Wd) : E gWI X m_X12_act 10 0 [(0, .ref (xa X 54)), (1, .int a1), (2, .int a2), (3, .int a3)] [] w (f_X12_act a1 a2 a3 w) := by
  unfold f_X12_act
  refine e_aload_n (pc := 0) dX12_act_0 0 rfl rfl ?_
  refine e_iconst (pc := 1) (v := (0 : Int32)) dX12_act_1 ic_0 ?_
  refine p_I (pc := 2) kk54 fp_X12_387 dX12_act_2 (fun w1 => ?_)
  refine e_aload_n (pc := 5) dX12_act_5 0 rfl rfl ?_
  refine e_iload_n (pc := 6) dX12_act_6 1 rfl rfl ?_
  refine e_callVRI (pc := 7) (As := [.int a1]) (rest := []) kk54 Kc12 (cf_X12_isBody X a1 w1) lk_X12_426 (Nat.le_of_ble_eq_true rfl) (Nat.le_of_ble_eq_true rfl) rfl rfl (Nat.le_of_ble_eq_true rfl) dX12_act_7 (fun r2 => ?_)
  refine e_if_eq (pc := 10) (tgt := 22) dX12_act_10 (by decide) (fun _ => ?_) (fun _ => ?_)
  · refine e_iconst (pc := 22) (v := (0 : Int32)) dX12_act_22 ic_0 ?_
    exact e_iretW rfl dX12_act_23
  · refine e_iload_n (pc := 13) dX12_act_13 2 rfl rfl ?_
    refine e_iconst (pc := 14) (v := (0 : Int32)) dX12_act_14 ic_0 ?_
    refine e_iconst (pc := 15) (v := (3 : Int32)) dX12_act_15 ic_3 ?_
    refine e_callSRI (pc := 16) (As := [.int a2, .int (0 : Int32), .int (3 : Int32)]) (rest := []) (cf_X12_in X a2 (0 : Int32) (3 : Int32) w1) lk_X12_124 (Nat.le_of_ble_eq_true rfl) (Nat.le_of_ble_eq_true rfl) rfl rfl (Nat.le_of_ble_eq_true rfl) dX12_act_16 (fun r3 => ?_)
    refine e_if_ne (pc := 19) (tgt := 24) dX12_act_19 (by decide) (fun _ => ?_) (fun _ => ?_)
    · refine e_iconst (pc := 22) (v := (0 : Int32)) dX12_act_22 ic_0 ?_
      exact e_iretW rfl dX12_act_23
    · refine e_iload_n (pc := 24) dX12_act_24 2 rfl rfl ?_
      refine e_if_ne (pc := 25) (tgt := 37) dX12_act_25 (by decide) (fun _ => ?_) (fun _ => ?_)
      · refine e_aload_n (pc := 28) dX12_act_28 0 rfl rfl ?_
        refine e_iload_n (pc := 29) dX12_act_29 1 rfl rfl ?_
        refine e_iload_n (pc := 30) dX12_act_30 3 rfl rfl ?_
        refine e_callVWI (pc := 31) (As := [.int a1, .int a3]) (rest := []) kk54 Kc12 (cf_X12_picking X a1 a3 w1) lk_X12_402 (Nat.le_of_ble_eq_true rfl) (Nat.le_of_ble_eq_true rfl) rfl rfl (Nat.le_of_ble_eq_true rfl) dX12_act_31 (fun r10 w11 => ?_)
        refine e_goto (pc := 34) (tgt := 71) dX12_act_34 (by decide) ?_
        exact e_iretW rfl dX12_act_71
      · refine e_iload_n (pc := 37) dX12_act_37 2 rfl rfl ?_
        refine e_iconst (pc := 38) (v := (1 : Int32)) dX12_act_38 ic_1 ?_
        refine e_icmp_ne (pc := 39) (tgt := 51) dX12_act_39 (by decide) (fun _ => ?_) (fun _ => ?_)
        · refine e_aload_n (pc := 42) dX12_act_42 0 rfl rfl ?_
          refine e_iload_n (pc := 43) dX12_act_43 1 rfl rfl ?_
          refine e_iload_n (pc := 44) dX12_act_44 3 rfl rfl ?_
          refine e_callVWI (pc := 45) (As := [.int a1, .int a3]) (rest := []) kk54 Kc12 (cf_X12_finding X a1 a3 w1) lk_X12_420 (Nat.le_of_ble_eq_true rfl) (Nat.le_of_ble_eq_true rfl) rfl rfl (Nat.le_of_ble_eq_true rfl) dX12_act_45 (fun r8 w9 => ?_)
          refine e_goto (pc := 48) (tgt := 71) dX12_act_48 (by decide) ?_
          exact e_iretW rfl dX12_act_71
        · refine e_iload_n (pc := 51) dX12_act_51 2 rfl rfl ?_
          refine e_iconst (pc := 52) (v := (2 : Int32)) dX12_act_52 ic_2 ?_
          refine e_icmp_ne (pc := 53) (tgt := 65) dX12_act_53 (by decide) (fun _ => ?_) (fun _ => ?_)
          · refine e_aload_n (pc := 56) dX12_act_56 0 rfl rfl ?_
            refine e_iload_n (pc := 57) dX12_act_57 1 rfl rfl ?_
            refine e_iload_n (pc := 58) dX12_act_58 3 rfl rfl ?_
            refine e_callVWI (pc := 59) (As := [.int a1, .int a3]) (rest := []) kk54 Kc12 (cf_X12_leaving X a1 a3 w1) lk_X12_411 (Nat.le_of_ble_eq_true rfl) (Nat.le_of_ble_eq_true rfl) rfl rfl (Nat.le_of_ble_eq_true rfl) dX12_act_59 (fun r6 w7 => ?_)
            refine e_goto (pc := 62) (tgt := 71) dX12_act_62 (by decide) ?_
            exact e_iretW rfl dX12_act_71
          · refine e_aload_n (pc := 65) dX12_act_65 0 rfl rfl ?_
            refine e_iload_n (pc := 66) dX12_act_66 1 rfl rfl ?_
            refine e_iload_n (pc := 67) dX12_act_67 3 rfl rfl ?_
            refine e_callVWI (pc := 68) (As := [.int a1, .int a3]) (rest := []) kk54 Kc12 (cf_X12_telling X a1 a3 w1) lk_X12_429 (Nat.le_of_ble_eq_true rfl) (Nat.le_of_ble_eq_true rfl) rfl rfl (Nat.le_of_ble_eq_true rfl) dX12_act_68 (fun r4 w5 => ?_)
            exact e_iretW rfl dX12_act_71
theorem cf_X12_act (X : Xt) (a1 : Int32) (a2 : Int32) (a3 : Int32) (w : Wd) : CF gWI X m_X12_act 10 [.ref (xa X 54), .int a1, .int a2, .int a3] w (f_X12_act a1 a2 a3 w) := CF_of (by decide) (Nat.le_of_ble_eq_true rfl) (ce_X12_act X a1 a2 a3 w)
set_option maxRecDepth 100000 in
set_option maxHeartbeats 4000000 in
theorem ce_X12_count (X : Xt) (a1 : Int32) (w : Wd) : E (gRI w) X m_X12_count 1 0 [(0, .ref (xa X 54)), (1, .int a1)] [] w (f_X12_count a1 w) := by
  unfold f_X12_count
  refine e_iload_n (pc := 0) dX12_count_0 1 rfl rfl ?_
  refine e_ite (fun h1_0 => ?_) (fun h1_0 => ?_)
  · refine e_tabIn (pc := 1) (off := 35) (tgt := 36) dX12_count_1 (by rw [h1_0]; decide) (by rw [h1_0]; decide) (by rw [h1_0]; decide) (by decide) ?_
    refine e_aload_n (pc := 36) dX12_count_36 0 rfl rfl ?_
    refine g_I (pc := 37) kk54 fl_X12_128 dX12_count_37 ?_
    exact e_iretR rfl dX12_count_40
  · refine e_ite (fun h1_1 => ?_) (fun h1_1 => ?_)
    · refine e_tabIn (pc := 1) (off := 40) (tgt := 41) dX12_count_1 (by rw [h1_1]; decide) (by rw [h1_1]; decide) (by rw [h1_1]; decide) (by decide) ?_
      refine e_aload_n (pc := 41) dX12_count_41 0 rfl rfl ?_
      refine g_I (pc := 42) kk54 fl_X12_172 dX12_count_42 ?_
      exact e_iretR rfl dX12_count_45
    · refine e_ite (fun h1_2 => ?_) (fun h1_2 => ?_)
      · refine e_tabIn (pc := 1) (off := 45) (tgt := 46) dX12_count_1 (by rw [h1_2]; decide) (by rw [h1_2]; decide) (by rw [h1_2]; decide) (by decide) ?_
        refine e_aload_n (pc := 46) dX12_count_46 0 rfl rfl ?_
        refine g_I (pc := 47) kk54 fl_X12_148 dX12_count_47 ?_
        exact e_iretR rfl dX12_count_50
      · refine e_ite (fun h1_3 => ?_) (fun h1_3 => ?_)
        · refine e_tabIn (pc := 1) (off := 50) (tgt := 51) dX12_count_1 (by rw [h1_3]; decide) (by rw [h1_3]; decide) (by rw [h1_3]; decide) (by decide) ?_
          refine e_aload_n (pc := 51) dX12_count_51 0 rfl rfl ?_
          refine g_I (pc := 52) kk54 fl_X12_384 dX12_count_52 ?_
          exact e_iretR rfl dX12_count_55
        · refine e_ite (fun h1_4 => ?_) (fun h1_4 => ?_)
          · refine e_tabIn (pc := 1) (off := 55) (tgt := 56) dX12_count_1 (by rw [h1_4]; decide) (by rw [h1_4]; decide) (by rw [h1_4]; decide) (by decide) ?_
            refine e_aload_n (pc := 56) dX12_count_56 0 rfl rfl ?_
            refine g_I (pc := 57) kk54 fl_X12_387 dX12_count_57 ?_
            exact e_iretR rfl dX12_count_60
          · by_cases q0 : (a1).toInt < 0 ∨ 4 < (a1).toInt
            · refine e_tabOut (pc := 1) (tgt := 61) dX12_count_1 q0 (by decide) ?_
              refine e_iconst (pc := 61) (v := (-1 : Int32)) dX12_count_61 ic_m1 ?_
              exact e_iretR rfl dX12_count_62
            · have z0 := lv_neT h1_0 (show (0 : Int32).toInt = 0 by decide)
              have z1 := lv_neT h1_1 (show (1 : Int32).toInt = 1 by decide)
              have z2 := lv_neT h1_2 (show (2 : Int32).toInt = 2 by decide)
              have z3 := lv_neT h1_3 (show (3 : Int32).toInt = 3 by decide)
              have z4 := lv_neT h1_4 (show (4 : Int32).toInt = 4 by decide)
              exfalso
              omega
theorem cf_X12_count (X : Xt) (a1 : Int32) (w : Wd) : CF (gRI w) X m_X12_count 1 [.ref (xa X 54), .int a1] w (f_X12_count a1 w) := CF_of (by decide) (Nat.le_of_ble_eq_true rfl) (ce_X12_count X a1 w)
set_option maxRecDepth 100000 in
set_option maxHeartbeats 4000000 in
theorem cb_X12_keep_b22 (X : Xt) (x1 : Int32) (x2 : Int32) (w : Wd) : E gWI X m_X12_keep 3 22 [(0, .ref (xa X 54)), (1, .int x1), (2, .int x2)] [] w (f_X12_keep_b22 x1 x2 w) := by
  unfold f_X12_keep_b22
  refine e_aload_n (pc := 22) dX12_keep_22 0 rfl rfl ?_
  refine g_R (pc := 23) (cl' := 82) kk54 fl_X12_109 rfl dX12_keep_23 ?_
  refine e_iload_n (pc := 26) dX12_keep_26 1 rfl rfl ?_
  refine e_iload_n (pc := 27) dX12_keep_27 2 rfl rfl ?_
  refine e_iast (pc := 28) kk82 dX12_keep_28 (fun w2 => ?_)
  refine e_iconst (pc := 29) (v := (1 : Int32)) dX12_keep_29 ic_1 ?_
  exact e_iretW rfl dX12_keep_30
set_option maxRecDepth 100000 in
set_option maxHeartbeats 4000000 in
theorem ce_X12_keep (X : Xt) (a1 : Int32) (a2 : Int32) (w : Wd) : E gWI X m_X12_keep 3 0 [(0, .ref (xa X 54)), (1, .int a1), (2, .int a2)] [] w (f_X12_keep a1 a2 w) := by
  unfold f_X12_keep
  refine e_iload_n (pc := 0) dX12_keep_0 1 rfl rfl ?_
  refine e_callSRI (pc := 1) (As := [.int a1]) (rest := []) (cf_X12_isShelf X a1 w) lk_X12_135 (Nat.le_of_ble_eq_true rfl) (Nat.le_of_ble_eq_true rfl) rfl rfl (Nat.le_of_ble_eq_true rfl) dX12_keep_1 (fun r1 => ?_)
  refine e_if_eq (pc := 4) (tgt := 20) dX12_keep_4 (by decide) (fun _ => ?_) (fun _ => ?_)
  · refine e_iconst (pc := 20) (v := (-1 : Int32)) dX12_keep_20 ic_m1 ?_
    exact e_iretW rfl dX12_keep_21
  · refine e_iload_n (pc := 7) dX12_keep_7 2 rfl rfl ?_
    refine e_iconst (pc := 8) (v := (-1 : Int32)) dX12_keep_8 ic_m1 ?_
    refine e_icmp_eq (pc := 9) (tgt := 22) dX12_keep_9 (by decide) (fun _ => ?_) (fun _ => ?_)
    · refine e_lv [0, 1, 2] rfl ?_
      exact cb_X12_keep_b22 X a1 a2 w
    · refine e_aload_n (pc := 12) dX12_keep_12 0 rfl rfl ?_
      refine e_iload_n (pc := 13) dX12_keep_13 2 rfl rfl ?_
      refine e_callVRI (pc := 14) (As := [.int a2]) (rest := []) kk54 Kc12 (cf_X12_isBody X a2 w) lk_X12_426 (Nat.le_of_ble_eq_true rfl) (Nat.le_of_ble_eq_true rfl) rfl rfl (Nat.le_of_ble_eq_true rfl) dX12_keep_14 (fun r3 => ?_)
      refine e_if_ne (pc := 17) (tgt := 22) dX12_keep_17 (by decide) (fun _ => ?_) (fun _ => ?_)
      · refine e_iconst (pc := 20) (v := (-1 : Int32)) dX12_keep_20 ic_m1 ?_
        exact e_iretW rfl dX12_keep_21
      · refine e_lv [0, 1, 2] rfl ?_
        exact cb_X12_keep_b22 X a1 a2 w
theorem cf_X12_keep (X : Xt) (a1 : Int32) (a2 : Int32) (w : Wd) : CF gWI X m_X12_keep 3 [.ref (xa X 54), .int a1, .int a2] w (f_X12_keep a1 a2 w) := CF_of (by decide) (Nat.le_of_ble_eq_true rfl) (ce_X12_keep X a1 a2 w)
set_option maxRecDepth 100000 in
set_option maxHeartbeats 4000000 in
theorem cb_X12_row_b54_y (X : Xt) (k54 : Int32 → Int32 → Wd → Option (Int32 × Wd)) (hk54 : ∀ (x1 : Int32) (x4 : Int32)  (w : Wd), E gWI X m_X12_row 3 54 [(0, .ref (xa X 54)), (1, .int x1), (4, .int x4)] [] w (k54 x1 x4 w)) (x1 : Int32) (x4 : Int32) (w : Wd) : E gWI X m_X12_row 3 54 [(0, .ref (xa X 54)), (1, .int x1), (4, .int x4)] [] w (f_X12_row_b54_y k54 x1 x4 w) := by
  unfold f_X12_row_b54_y
  refine e_iload (pc := 54) dX12_row_54 2 rfl ?_
  refine e_bipush (pc := 56) (v := (60 : Int32)) dX12_row_56 bp_60 ?_
  refine e_iload_n (pc := 58) dX12_row_58 1 rfl rfl ?_
  refine e_imul (pc := 59) dX12_row_59 ?_
  refine e_bipush (pc := 60) (v := (60 : Int32)) dX12_row_60 bp_60 ?_
  refine e_iadd (pc := 62) dX12_row_62 ?_
  refine e_icmp_ge (pc := 63) (tgt := 80) dX12_row_63 (by decide) (fun _ => ?_) (fun _ => ?_)
  · refine e_iconst (pc := 80) (v := (1 : Int32)) dX12_row_80 ic_1 ?_
    exact e_iretW rfl dX12_row_81
  · refine e_aload_n (pc := 66) dX12_row_66 0 rfl rfl ?_
    refine g_R (pc := 67) (cl' := 84) kk54 fl_X12_115 rfl dX12_row_67 ?_
    refine e_iload (pc := 70) dX12_row_70 2 rfl ?_
    refine e_lconst (pc := 72) (v := (0 : Int64)) dX12_row_72 lc_0 ?_
    refine e_last (pc := 73) kk84 dX12_row_73 (fun w6 => ?_)
    refine e_iinc (pc := 74) (lv' := [(4, .int (x4 + (1 : Int32))), (0, .ref (xa X 54)), (1, .int x1)]) dX12_row_74 2 rfl (ii_1 _) (Nat.le_of_ble_eq_true rfl) rfl ?_
    refine e_goto (pc := 77) (tgt := 54) dX12_row_77 (by decide) ?_
    refine e_lv [1, 2, 0] rfl ?_
    exact hk54 x1 (x4 + (1 : Int32)) w6
theorem cb_X12_row_b54 (X : Xt) : ∀ (n : Nat) (x1 : Int32) (x4 : Int32) (w : Wd), E gWI X m_X12_row 3 54 [(0, .ref (xa X 54)), (1, .int x1), (4, .int x4)] [] w (f_X12_row_b54 n x1 x4 w) := by
  intro n
  induction n with
  | zero =>
    intro x1 x4 w
    exact E_none
  | succ n ih =>
    intro x1 x4 w
    exact cb_X12_row_b54_y X _ ih x1 x4 w
set_option maxRecDepth 100000 in
set_option maxHeartbeats 4000000 in
theorem ce_X12_row (X : Xt) (a1 : Int32) (a2 : Int32) (a3 : Int32) (w : Wd) : E gWI X m_X12_row 3 0 [(0, .ref (xa X 54)), (1, .int a1), (2, .int a2), (3, .int a3)] [] w (f_X12_row a1 a2 a3 w) := by
  unfold f_X12_row
  refine e_iload_n (pc := 0) dX12_row_0 1 rfl rfl ?_
  refine e_callSRI (pc := 1) (As := [.int a1]) (rest := []) (cf_X12_isShelf X a1 w) lk_X12_135 (Nat.le_of_ble_eq_true rfl) (Nat.le_of_ble_eq_true rfl) rfl rfl (Nat.le_of_ble_eq_true rfl) dX12_row_1 (fun r1 => ?_)
  refine e_if_eq (pc := 4) (tgt := 22) dX12_row_4 (by decide) (fun _ => ?_) (fun _ => ?_)
  · refine e_iconst (pc := 22) (v := (-1 : Int32)) dX12_row_22 ic_m1 ?_
    exact e_iretW rfl dX12_row_23
  · refine e_iload_n (pc := 7) dX12_row_7 2 rfl rfl ?_
    refine e_iconst (pc := 8) (v := (0 : Int32)) dX12_row_8 ic_0 ?_
    refine e_iconst (pc := 9) (v := (4 : Int32)) dX12_row_9 ic_4 ?_
    refine e_callSRI (pc := 10) (As := [.int a2, .int (0 : Int32), .int (4 : Int32)]) (rest := []) (cf_X12_in X a2 (0 : Int32) (4 : Int32) w) lk_X12_124 (Nat.le_of_ble_eq_true rfl) (Nat.le_of_ble_eq_true rfl) rfl rfl (Nat.le_of_ble_eq_true rfl) dX12_row_10 (fun r2 => ?_)
    refine e_if_eq (pc := 13) (tgt := 22) dX12_row_13 (by decide) (fun _ => ?_) (fun _ => ?_)
    · refine e_iconst (pc := 22) (v := (-1 : Int32)) dX12_row_22 ic_m1 ?_
      exact e_iretW rfl dX12_row_23
    · refine e_iload_n (pc := 16) dX12_row_16 3 rfl rfl ?_
      refine e_bipush (pc := 17) (v := (60 : Int32)) dX12_row_17 bp_60 ?_
      refine e_icmp_le (pc := 19) (tgt := 24) dX12_row_19 (by decide) (fun _ => ?_) (fun _ => ?_)
      · refine e_iload_n (pc := 24) dX12_row_24 3 rfl rfl ?_
        refine e_if_ge (pc := 25) (tgt := 31) dX12_row_25 (by decide) (fun _ => ?_) (fun _ => ?_)
        · refine e_aload_n (pc := 31) dX12_row_31 0 rfl rfl ?_
          refine g_R (pc := 32) (cl' := 82) kk54 fl_X12_109 rfl dX12_row_32 ?_
          refine e_iload_n (pc := 35) dX12_row_35 1 rfl rfl ?_
          refine e_bipush (pc := 36) (v := (-2 : Int32)) dX12_row_36 bp_m2 ?_
          refine e_iload_n (pc := 38) dX12_row_38 2 rfl rfl ?_
          refine e_isub (pc := 39) dX12_row_39 ?_
          refine e_iast (pc := 40) kk82 dX12_row_40 (fun w3 => ?_)
          refine e_aload_n (pc := 41) dX12_row_41 0 rfl rfl ?_
          refine g_R (pc := 42) (cl' := 83) kk54 fl_X12_112 rfl dX12_row_42 ?_
          refine e_iload_n (pc := 45) dX12_row_45 1 rfl rfl ?_
          refine e_iload_n (pc := 46) dX12_row_46 3 rfl rfl ?_
          refine e_iast (pc := 47) kk83 dX12_row_47 (fun w4 => ?_)
          refine e_bipush (pc := 48) (v := (60 : Int32)) dX12_row_48 bp_60 ?_
          refine e_iload_n (pc := 50) dX12_row_50 1 rfl rfl ?_
          refine e_imul (pc := 51) dX12_row_51 ?_
          refine e_nameI (fun y5 => ?_)
          refine e_istore (pc := 52) (lv' := [(4, .int y5), (0, .ref (xa X 54)), (1, .int a1), (2, .int a2), (3, .int a3)]) dX12_row_52 (Nat.le_of_ble_eq_true rfl) rfl ?_
          refine e_lv [1, 2, 0] rfl ?_
          exact cb_X12_row_b54 X fu a1 y5 w4
        · refine e_bipush (pc := 28) (v := (-14 : Int32)) dX12_row_28 bp_m14 ?_
          exact e_iretW rfl dX12_row_30
      · refine e_iconst (pc := 22) (v := (-1 : Int32)) dX12_row_22 ic_m1 ?_
        exact e_iretW rfl dX12_row_23
theorem cf_X12_row (X : Xt) (a1 : Int32) (a2 : Int32) (a3 : Int32) (w : Wd) : CF gWI X m_X12_row 3 [.ref (xa X 54), .int a1, .int a2, .int a3] w (f_X12_row a1 a2 a3 w) := CF_of (by decide) (Nat.le_of_ble_eq_true rfl) (ce_X12_row X a1 a2 a3 w)
set_option maxRecDepth 100000 in
set_option maxHeartbeats 4000000 in
theorem ce_X12_whyNoPlace (X : Xt) (a1 : Int32) (a2 : Int32) (w : Wd) : E (gRI w) X m_X12_whyNoPlace 3 0 [(0, .ref (xa X 54)), (1, .int a1), (2, .int a2)] [] w (f_X12_whyNoPlace a1 a2 w) := by
  unfold f_X12_whyNoPlace
  refine e_iload_n (pc := 0) dX12_whyNoPlace_0 1 rfl rfl ?_
  refine e_callSRI (pc := 1) (As := [.int a1]) (rest := []) (cf_X12_isShelf X a1 w) lk_X12_135 (Nat.le_of_ble_eq_true rfl) (Nat.le_of_ble_eq_true rfl) rfl rfl (Nat.le_of_ble_eq_true rfl) dX12_whyNoPlace_1 (fun r1 => ?_)
  refine e_if_ne (pc := 4) (tgt := 9) dX12_whyNoPlace_4 (by decide) (fun _ => ?_) (fun _ => ?_)
  · refine e_iconst (pc := 7) (v := (-1 : Int32)) dX12_whyNoPlace_7 ic_m1 ?_
    exact e_iretR rfl dX12_whyNoPlace_8
  · refine e_aload_n (pc := 9) dX12_whyNoPlace_9 0 rfl rfl ?_
    refine g_R (pc := 10) (cl' := 82) kk54 fl_X12_109 rfl dX12_whyNoPlace_10 ?_
    refine e_iload_n (pc := 13) dX12_whyNoPlace_13 1 rfl rfl ?_
    refine e_iald (pc := 14) kk82 dX12_whyNoPlace_14 (fun v2 => ?_)
    refine e_iconst (pc := 15) (v := (-1 : Int32)) dX12_whyNoPlace_15 ic_m1 ?_
    refine e_icmp_ne (pc := 16) (tgt := 22) dX12_whyNoPlace_16 (by decide) (fun _ => ?_) (fun _ => ?_)
    · refine e_bipush (pc := 19) (v := (-11 : Int32)) dX12_whyNoPlace_19 bp_m11 ?_
      exact e_iretR rfl dX12_whyNoPlace_21
    · refine e_aload_n (pc := 22) dX12_whyNoPlace_22 0 rfl rfl ?_
      refine g_R (pc := 23) (cl' := 82) kk54 fl_X12_109 rfl dX12_whyNoPlace_23 ?_
      refine e_iload_n (pc := 26) dX12_whyNoPlace_26 1 rfl rfl ?_
      refine e_iald (pc := 27) kk82 dX12_whyNoPlace_27 (fun v3 => ?_)
      refine e_if_lt (pc := 28) (tgt := 34) dX12_whyNoPlace_28 (by decide) (fun _ => ?_) (fun _ => ?_)
      · refine e_iload_n (pc := 34) dX12_whyNoPlace_34 2 rfl rfl ?_
        refine e_iconst (pc := 35) (v := (0 : Int32)) dX12_whyNoPlace_35 ic_0 ?_
        refine e_aload_n (pc := 36) dX12_whyNoPlace_36 0 rfl rfl ?_
        refine g_R (pc := 37) (cl' := 83) kk54 fl_X12_112 rfl dX12_whyNoPlace_37 ?_
        refine e_iload_n (pc := 40) dX12_whyNoPlace_40 1 rfl rfl ?_
        refine e_iald (pc := 41) kk83 dX12_whyNoPlace_41 (fun v4 => ?_)
        refine e_iconst (pc := 42) (v := (1 : Int32)) dX12_whyNoPlace_42 ic_1 ?_
        refine e_isub (pc := 43) dX12_whyNoPlace_43 ?_
        refine e_callSRI (pc := 44) (As := [.int a2, .int (0 : Int32), .int (v4 - (1 : Int32))]) (rest := []) (cf_X12_in X a2 (0 : Int32) (v4 - (1 : Int32)) w) lk_X12_124 (Nat.le_of_ble_eq_true rfl) (Nat.le_of_ble_eq_true rfl) rfl rfl (Nat.le_of_ble_eq_true rfl) dX12_whyNoPlace_44 (fun r5 => ?_)
        refine e_if_eq (pc := 47) (tgt := 54) dX12_whyNoPlace_47 (by decide) (fun _ => ?_) (fun _ => ?_)
        · refine e_bipush (pc := 54) (v := (-13 : Int32)) dX12_whyNoPlace_54 bp_m13 ?_
          exact e_iretR rfl dX12_whyNoPlace_56
        · refine e_iconst (pc := 50) (v := (0 : Int32)) dX12_whyNoPlace_50 ic_0 ?_
          refine e_goto (pc := 51) (tgt := 56) dX12_whyNoPlace_51 (by decide) ?_
          exact e_iretR rfl dX12_whyNoPlace_56
      · refine e_bipush (pc := 31) (v := (-12 : Int32)) dX12_whyNoPlace_31 bp_m12 ?_
        exact e_iretR rfl dX12_whyNoPlace_33
theorem cf_X12_whyNoPlace (X : Xt) (a1 : Int32) (a2 : Int32) (w : Wd) : CF (gRI w) X m_X12_whyNoPlace 3 [.ref (xa X 54), .int a1, .int a2] w (f_X12_whyNoPlace a1 a2 w) := CF_of (by decide) (Nat.le_of_ble_eq_true rfl) (ce_X12_whyNoPlace X a1 a2 w)
set_option maxRecDepth 100000 in
set_option maxHeartbeats 4000000 in
theorem cb_X12_put_b95 (X : Xt) (s0 : Int64) (s1 : Int32) (w : Wd) : E gWI X m_X12_put 4 95 [] [.long s0, .int s1, .ref (xa X 84)] w (f_X12_put_b95 s0 s1 w) := by
  unfold f_X12_put_b95
  refine e_last (pc := 95) kk84 dX12_put_95 (fun w4 => ?_)
  refine e_iconst (pc := 96) (v := (1 : Int32)) dX12_put_96 ic_1 ?_
  exact e_iretW rfl dX12_put_97
set_option maxRecDepth 100000 in
set_option maxHeartbeats 4000000 in
theorem ce_X12_put (X : Xt) (a1 : Int32) (a2 : Int32) (a3 : Int64) (w : Wd) : E gWI X m_X12_put 4 0 [(0, .ref (xa X 54)), (1, .int a1), (2, .int a2), (3, .long a3)] [] w (f_X12_put a1 a2 a3 w) := by
  unfold f_X12_put
  refine e_aload_n (pc := 0) dX12_put_0 0 rfl rfl ?_
  refine e_iload_n (pc := 1) dX12_put_1 1 rfl rfl ?_
  refine e_iload_n (pc := 2) dX12_put_2 2 rfl rfl ?_
  refine e_callVRI (pc := 3) (As := [.int a1, .int a2]) (rest := []) kk54 Kc12 (cf_X12_whyNoPlace X a1 a2 w) lk_X12_432 (Nat.le_of_ble_eq_true rfl) (Nat.le_of_ble_eq_true rfl) rfl rfl (Nat.le_of_ble_eq_true rfl) dX12_put_3 (fun r1 => ?_)
  refine e_istore (pc := 6) (lv' := [(5, .int r1), (0, .ref (xa X 54)), (1, .int a1), (2, .int a2), (3, .long a3)]) dX12_put_6 (Nat.le_of_ble_eq_true rfl) rfl ?_
  refine e_iload (pc := 8) dX12_put_8 0 rfl ?_
  refine e_if_ge (pc := 10) (tgt := 16) dX12_put_10 (by decide) (fun _ => ?_) (fun _ => ?_)
  · refine e_bipush (pc := 16) (v := (-2 : Int32)) dX12_put_16 bp_m2 ?_
    refine e_aload_n (pc := 18) dX12_put_18 1 rfl rfl ?_
    refine g_R (pc := 19) (cl' := 82) kk54 fl_X12_109 rfl dX12_put_19 ?_
    refine e_iload_n (pc := 22) dX12_put_22 2 rfl rfl ?_
    refine e_iald (pc := 23) kk82 dX12_put_23 (fun v2 => ?_)
    refine e_isub (pc := 24) dX12_put_24 ?_
    refine e_nameI (fun y3 => ?_)
    refine e_istore (pc := 25) (lv' := [(6, .int y3), (5, .int r1), (0, .ref (xa X 54)), (1, .int a1), (2, .int a2), (3, .long a3)]) dX12_put_25 (Nat.le_of_ble_eq_true rfl) rfl ?_
    refine e_aload_n (pc := 27) dX12_put_27 2 rfl rfl ?_
    refine g_R (pc := 28) (cl' := 84) kk54 fl_X12_115 rfl dX12_put_28 ?_
    refine e_bipush (pc := 31) (v := (60 : Int32)) dX12_put_31 bp_60 ?_
    refine e_iload_n (pc := 33) dX12_put_33 3 rfl rfl ?_
    refine e_imul (pc := 34) dX12_put_34 ?_
    refine e_iload_n (pc := 35) dX12_put_35 4 rfl rfl ?_
    refine e_iadd (pc := 36) dX12_put_36 ?_
    refine e_iload (pc := 37) dX12_put_37 0 rfl ?_
    refine e_if_ne (pc := 39) (tgt := 49) dX12_put_39 (by decide) (fun _ => ?_) (fun _ => ?_)
    · refine e_lload_n (pc := 42) dX12_put_42 5 rfl rfl ?_
      refine e_l2i (pc := 43) dX12_put_43 ?_
      refine e_i2b (pc := 44) dX12_put_44 ?_
      refine e_i2l (pc := 45) dX12_put_45 ?_
      refine e_goto (pc := 46) (tgt := 95) dX12_put_46 (by decide) ?_
      refine e_lv [] rfl ?_
      exact cb_X12_put_b95 X (Int32.toInt64 (i2b (Int64.toInt32 a3))) (((60 : Int32) * a1) + a2) w
    · refine e_iload (pc := 49) dX12_put_49 0 rfl ?_
      refine e_iconst (pc := 51) (v := (1 : Int32)) dX12_put_51 ic_1 ?_
      refine e_icmp_ne (pc := 52) (tgt := 62) dX12_put_52 (by decide) (fun _ => ?_) (fun _ => ?_)
      · refine e_lload_n (pc := 55) dX12_put_55 5 rfl rfl ?_
        refine e_l2i (pc := 56) dX12_put_56 ?_
        refine e_i2s (pc := 57) dX12_put_57 ?_
        refine e_i2l (pc := 58) dX12_put_58 ?_
        refine e_goto (pc := 59) (tgt := 95) dX12_put_59 (by decide) ?_
        refine e_lv [] rfl ?_
        exact cb_X12_put_b95 X (Int32.toInt64 (i2s (Int64.toInt32 a3))) (((60 : Int32) * a1) + a2) w
      · refine e_iload (pc := 62) dX12_put_62 0 rfl ?_
        refine e_iconst (pc := 64) (v := (2 : Int32)) dX12_put_64 ic_2 ?_
        refine e_icmp_ne (pc := 65) (tgt := 74) dX12_put_65 (by decide) (fun _ => ?_) (fun _ => ?_)
        · refine e_lload_n (pc := 68) dX12_put_68 5 rfl rfl ?_
          refine e_l2i (pc := 69) dX12_put_69 ?_
          refine e_i2l (pc := 70) dX12_put_70 ?_
          refine e_goto (pc := 71) (tgt := 95) dX12_put_71 (by decide) ?_
          refine e_lv [] rfl ?_
          exact cb_X12_put_b95 X (Int32.toInt64 (Int64.toInt32 a3)) (((60 : Int32) * a1) + a2) w
        · refine e_iload (pc := 74) dX12_put_74 0 rfl ?_
          refine e_iconst (pc := 76) (v := (3 : Int32)) dX12_put_76 ic_3 ?_
          refine e_icmp_ne (pc := 77) (tgt := 84) dX12_put_77 (by decide) (fun _ => ?_) (fun _ => ?_)
          · refine e_lload_n (pc := 80) dX12_put_80 5 rfl rfl ?_
            refine e_goto (pc := 81) (tgt := 95) dX12_put_81 (by decide) ?_
            refine e_lv [] rfl ?_
            exact cb_X12_put_b95 X a3 (((60 : Int32) * a1) + a2) w
          · refine e_lload_n (pc := 84) dX12_put_84 5 rfl rfl ?_
            refine e_lconst (pc := 85) (v := (0 : Int64)) dX12_put_85 lc_0 ?_
            refine e_lcmp_eq (pc := 86) (tgt := 94) dX12_put_86 dX12_put_87 (by decide) (fun _ => ?_) (fun _ => ?_)
            · refine e_lconst (pc := 94) (v := (0 : Int64)) dX12_put_94 lc_0 ?_
              refine e_lv [] rfl ?_
              exact cb_X12_put_b95 X (0 : Int64) (((60 : Int32) * a1) + a2) w
            · refine e_lconst (pc := 90) (v := (1 : Int64)) dX12_put_90 lc_1 ?_
              refine e_goto (pc := 91) (tgt := 95) dX12_put_91 (by decide) ?_
              refine e_lv [] rfl ?_
              exact cb_X12_put_b95 X (1 : Int64) (((60 : Int32) * a1) + a2) w
  · refine e_iload (pc := 13) dX12_put_13 0 rfl ?_
    exact e_iretW rfl dX12_put_15
theorem cf_X12_put (X : Xt) (a1 : Int32) (a2 : Int32) (a3 : Int64) (w : Wd) : CF gWI X m_X12_put 4 [.ref (xa X 54), .int a1, .int a2, .long a3] w (f_X12_put a1 a2 a3 w) := CF_of (by decide) (Nat.le_of_ble_eq_true rfl) (ce_X12_put X a1 a2 a3 w)
set_option maxRecDepth 100000 in
set_option maxHeartbeats 4000000 in
theorem ce_X12_element (X : Xt) (a1 : Int32) (a2 : Int32) (w : Wd) : E (gRL w) X m_X12_element 4 0 [(0, .ref (xa X 54)), (1, .int a1), (2, .int a2)] [] w (f_X12_element a1 a2 w) := by
  unfold f_X12_element
  refine e_aload_n (pc := 0) dX12_element_0 0 rfl rfl ?_
  refine e_iload_n (pc := 1) dX12_element_1 1 rfl rfl ?_
  refine e_iload_n (pc := 2) dX12_element_2 2 rfl rfl ?_
  refine e_callVRI (pc := 3) (As := [.int a1, .int a2]) (rest := []) kk54 Kc12 (cf_X12_whyNoPlace X a1 a2 w) lk_X12_432 (Nat.le_of_ble_eq_true rfl) (Nat.le_of_ble_eq_true rfl) rfl rfl (Nat.le_of_ble_eq_true rfl) dX12_element_3 (fun r1 => ?_)
  refine e_if_ge (pc := 6) (tgt := 15) dX12_element_6 (by decide) (fun _ => ?_) (fun _ => ?_)
  · refine e_aload_n (pc := 15) dX12_element_15 0 rfl rfl ?_
    refine g_R (pc := 16) (cl' := 84) kk54 fl_X12_115 rfl dX12_element_16 ?_
    refine e_bipush (pc := 19) (v := (60 : Int32)) dX12_element_19 bp_60 ?_
    refine e_iload_n (pc := 21) dX12_element_21 1 rfl rfl ?_
    refine e_imul (pc := 22) dX12_element_22 ?_
    refine e_iload_n (pc := 23) dX12_element_23 2 rfl rfl ?_
    refine e_iadd (pc := 24) dX12_element_24 ?_
    refine e_lald (pc := 25) kk84 dX12_element_25 (fun v2 => ?_)
    exact e_lretR rfl dX12_element_26
  · refine e_ldc2 (pc := 9) (v := (-9223372036854775808 : Int64)) dX12_element_9 cl_X12_283 ?_
    refine e_goto (pc := 12) (tgt := 26) dX12_element_12 (by decide) ?_
    exact e_lretR rfl dX12_element_26
theorem cf_X12_element (X : Xt) (a1 : Int32) (a2 : Int32) (w : Wd) : CF (gRL w) X m_X12_element 4 [.ref (xa X 54), .int a1, .int a2] w (f_X12_element a1 a2 w) := CF_of (by decide) (Nat.le_of_ble_eq_true rfl) (ce_X12_element X a1 a2 w)
set_option maxRecDepth 100000 in
set_option maxHeartbeats 4000000 in
theorem cb_X12_shift_b150_y (X : Xt) (k150 : Int32 → Int32 → Int32 → Int32 → Wd → Option (Int32 × Wd)) (hk150 : ∀ (x3 : Int32) (x4 : Int32) (x5 : Int32) (x6 : Int32)  (w : Wd), E gWI X m_X12_shift 3 150 [(0, .ref (xa X 54)), (3, .int x3), (4, .int x4), (5, .int x5), (6, .int x6)] [] w (k150 x3 x4 x5 x6 w)) (x3 : Int32) (x4 : Int32) (x5 : Int32) (x6 : Int32) (w : Wd) : E gWI X m_X12_shift 3 150 [(0, .ref (xa X 54)), (3, .int x3), (4, .int x4), (5, .int x5), (6, .int x6)] [] w (f_X12_shift_b150_y k150 x3 x4 x5 x6 w) := by
  unfold f_X12_shift_b150_y
  refine e_iload (pc := 150) dX12_shift_150 4 rfl ?_
  refine e_iload (pc := 152) dX12_shift_152 3 rfl ?_
  refine e_icmp_ge (pc := 154) (tgt := 185) dX12_shift_154 (by decide) (fun _ => ?_) (fun _ => ?_)
  · refine e_iload (pc := 185) dX12_shift_185 3 rfl ?_
    exact e_iretW rfl dX12_shift_187
  · refine e_aload_n (pc := 157) dX12_shift_157 0 rfl rfl ?_
    refine g_R (pc := 158) (cl' := 84) kk54 fl_X12_115 rfl dX12_shift_158 ?_
    refine e_bipush (pc := 161) (v := (60 : Int32)) dX12_shift_161 bp_60 ?_
    refine e_iload_n (pc := 163) dX12_shift_163 1 rfl rfl ?_
    refine e_imul (pc := 164) dX12_shift_164 ?_
    refine e_iload (pc := 165) dX12_shift_165 2 rfl ?_
    refine e_iadd (pc := 167) dX12_shift_167 ?_
    refine e_iload (pc := 168) dX12_shift_168 4 rfl ?_
    refine e_iadd (pc := 170) dX12_shift_170 ?_
    refine e_aload_n (pc := 171) dX12_shift_171 0 rfl rfl ?_
    refine g_R (pc := 172) (cl' := 85) kk54 fl_X12_118 rfl dX12_shift_172 ?_
    refine e_iload (pc := 175) dX12_shift_175 4 rfl ?_
    refine e_lald (pc := 177) kk85 dX12_shift_177 (fun v10 => ?_)
    refine e_last (pc := 178) kk84 dX12_shift_178 (fun w11 => ?_)
    refine e_iinc (pc := 179) (lv' := [(6, .int (x6 + (1 : Int32))), (0, .ref (xa X 54)), (3, .int x3), (4, .int x4), (5, .int x5)]) dX12_shift_179 4 rfl (ii_1 _) (Nat.le_of_ble_eq_true rfl) rfl ?_
    refine e_goto (pc := 182) (tgt := 150) dX12_shift_182 (by decide) ?_
    refine e_lv [1, 2, 3, 4, 0] rfl ?_
    exact hk150 x3 x4 x5 (x6 + (1 : Int32)) w11
theorem cb_X12_shift_b150 (X : Xt) : ∀ (n : Nat) (x3 : Int32) (x4 : Int32) (x5 : Int32) (x6 : Int32) (w : Wd), E gWI X m_X12_shift 3 150 [(0, .ref (xa X 54)), (3, .int x3), (4, .int x4), (5, .int x5), (6, .int x6)] [] w (f_X12_shift_b150 n x3 x4 x5 x6 w) := by
  intro n
  induction n with
  | zero =>
    intro x3 x4 x5 x6 w
    exact E_none
  | succ n ih =>
    intro x3 x4 x5 x6 w
    exact cb_X12_shift_b150_y X _ ih x3 x4 x5 x6 w
set_option maxRecDepth 100000 in
set_option maxHeartbeats 4000000 in
theorem cb_X12_shift_b113_y (X : Xt) (k113 : Int32 → Int32 → Int32 → Int32 → Int32 → Int32 → Wd → Option (Int32 × Wd)) (hk113 : ∀ (x1 : Int32) (x2 : Int32) (x3 : Int32) (x4 : Int32) (x5 : Int32) (x6 : Int32)  (w : Wd), E gWI X m_X12_shift 3 113 [(0, .ref (xa X 54)), (1, .int x1), (2, .int x2), (3, .int x3), (4, .int x4), (5, .int x5), (6, .int x6)] [] w (k113 x1 x2 x3 x4 x5 x6 w)) (x1 : Int32) (x2 : Int32) (x3 : Int32) (x4 : Int32) (x5 : Int32) (x6 : Int32) (w : Wd) : E gWI X m_X12_shift 3 113 [(0, .ref (xa X 54)), (1, .int x1), (2, .int x2), (3, .int x3), (4, .int x4), (5, .int x5), (6, .int x6)] [] w (f_X12_shift_b113_y k113 x1 x2 x3 x4 x5 x6 w) := by
  unfold f_X12_shift_b113_y
  refine e_iload (pc := 113) dX12_shift_113 6 rfl ?_
  refine e_iload (pc := 115) dX12_shift_115 5 rfl ?_
  refine e_icmp_ge (pc := 117) (tgt := 147) dX12_shift_117 (by decide) (fun _ => ?_) (fun _ => ?_)
  · refine e_iconst (pc := 147) (v := (0 : Int32)) dX12_shift_147 ic_0 ?_
    refine e_istore (pc := 148) (lv' := [(6, .int (0 : Int32)), (0, .ref (xa X 54)), (1, .int x1), (2, .int x2), (3, .int x3), (4, .int x4), (5, .int x5)]) dX12_shift_148 (Nat.le_of_ble_eq_true rfl) rfl ?_
    refine e_lv [1, 4, 5, 6, 0] rfl ?_
    exact cb_X12_shift_b150 X fu x3 x4 x5 (0 : Int32) w
  · refine e_aload_n (pc := 120) dX12_shift_120 0 rfl rfl ?_
    refine g_R (pc := 121) (cl' := 85) kk54 fl_X12_118 rfl dX12_shift_121 ?_
    refine e_iload (pc := 124) dX12_shift_124 6 rfl ?_
    refine e_aload_n (pc := 126) dX12_shift_126 0 rfl rfl ?_
    refine g_R (pc := 127) (cl' := 84) kk54 fl_X12_115 rfl dX12_shift_127 ?_
    refine e_bipush (pc := 130) (v := (60 : Int32)) dX12_shift_130 bp_60 ?_
    refine e_iload_n (pc := 132) dX12_shift_132 1 rfl rfl ?_
    refine e_imul (pc := 133) dX12_shift_133 ?_
    refine e_iload_n (pc := 134) dX12_shift_134 2 rfl rfl ?_
    refine e_iadd (pc := 135) dX12_shift_135 ?_
    refine e_iload (pc := 136) dX12_shift_136 6 rfl ?_
    refine e_iadd (pc := 138) dX12_shift_138 ?_
    refine e_lald (pc := 139) kk84 dX12_shift_139 (fun v12 => ?_)
    refine e_last (pc := 140) kk85 dX12_shift_140 (fun w13 => ?_)
    refine e_iinc (pc := 141) (lv' := [(6, .int (x6 + (1 : Int32))), (0, .ref (xa X 54)), (1, .int x1), (2, .int x2), (3, .int x3), (4, .int x4), (5, .int x5)]) dX12_shift_141 6 rfl (ii_1 _) (Nat.le_of_ble_eq_true rfl) rfl ?_
    refine e_goto (pc := 144) (tgt := 113) dX12_shift_144 (by decide) ?_
    refine e_lv [1, 2, 3, 4, 5, 6, 0] rfl ?_
    exact hk113 x1 x2 x3 x4 x5 (x6 + (1 : Int32)) w13
theorem cb_X12_shift_b113 (X : Xt) : ∀ (n : Nat) (x1 : Int32) (x2 : Int32) (x3 : Int32) (x4 : Int32) (x5 : Int32) (x6 : Int32) (w : Wd), E gWI X m_X12_shift 3 113 [(0, .ref (xa X 54)), (1, .int x1), (2, .int x2), (3, .int x3), (4, .int x4), (5, .int x5), (6, .int x6)] [] w (f_X12_shift_b113 n x1 x2 x3 x4 x5 x6 w) := by
  intro n
  induction n with
  | zero =>
    intro x1 x2 x3 x4 x5 x6 w
    exact E_none
  | succ n ih =>
    intro x1 x2 x3 x4 x5 x6 w
    exact cb_X12_shift_b113_y X _ ih x1 x2 x3 x4 x5 x6 w
set_option maxRecDepth 100000 in
set_option maxHeartbeats 4000000 in
theorem ce_X12_shift (X : Xt) (a1 : Int32) (a2 : Int32) (a3 : Int32) (a4 : Int32) (a5 : Int32) (w : Wd) : E gWI X m_X12_shift 3 0 [(0, .ref (xa X 54)), (1, .int a1), (2, .int a2), (3, .int a3), (4, .int a4), (5, .int a5)] [] w (f_X12_shift a1 a2 a3 a4 a5 w) := by
  unfold f_X12_shift
  refine e_iload_n (pc := 0) dX12_shift_0 1 rfl rfl ?_
  refine e_callSRI (pc := 1) (As := [.int a1]) (rest := []) (cf_X12_isShelf X a1 w) lk_X12_135 (Nat.le_of_ble_eq_true rfl) (Nat.le_of_ble_eq_true rfl) rfl rfl (Nat.le_of_ble_eq_true rfl) dX12_shift_1 (fun r1 => ?_)
  refine e_if_eq (pc := 4) (tgt := 14) dX12_shift_4 (by decide) (fun _ => ?_) (fun _ => ?_)
  · refine e_iconst (pc := 14) (v := (-1 : Int32)) dX12_shift_14 ic_m1 ?_
    exact e_iretW rfl dX12_shift_15
  · refine e_iload_n (pc := 7) dX12_shift_7 3 rfl rfl ?_
    refine e_callSRI (pc := 8) (As := [.int a3]) (rest := []) (cf_X12_isShelf X a3 w) lk_X12_135 (Nat.le_of_ble_eq_true rfl) (Nat.le_of_ble_eq_true rfl) rfl rfl (Nat.le_of_ble_eq_true rfl) dX12_shift_8 (fun r2 => ?_)
    refine e_if_ne (pc := 11) (tgt := 16) dX12_shift_11 (by decide) (fun _ => ?_) (fun _ => ?_)
    · refine e_iconst (pc := 14) (v := (-1 : Int32)) dX12_shift_14 ic_m1 ?_
      exact e_iretW rfl dX12_shift_15
    · refine e_aload_n (pc := 16) dX12_shift_16 0 rfl rfl ?_
      refine g_R (pc := 17) (cl' := 82) kk54 fl_X12_109 rfl dX12_shift_17 ?_
      refine e_iload_n (pc := 20) dX12_shift_20 1 rfl rfl ?_
      refine e_iald (pc := 21) kk82 dX12_shift_21 (fun v3 => ?_)
      refine e_iconst (pc := 22) (v := (-1 : Int32)) dX12_shift_22 ic_m1 ?_
      refine e_icmp_eq (pc := 23) (tgt := 36) dX12_shift_23 (by decide) (fun _ => ?_) (fun _ => ?_)
      · refine e_bipush (pc := 36) (v := (-11 : Int32)) dX12_shift_36 bp_m11 ?_
        exact e_iretW rfl dX12_shift_38
      · refine e_aload_n (pc := 26) dX12_shift_26 0 rfl rfl ?_
        refine g_R (pc := 27) (cl' := 82) kk54 fl_X12_109 rfl dX12_shift_27 ?_
        refine e_iload_n (pc := 30) dX12_shift_30 3 rfl rfl ?_
        refine e_iald (pc := 31) kk82 dX12_shift_31 (fun v4 => ?_)
        refine e_iconst (pc := 32) (v := (-1 : Int32)) dX12_shift_32 ic_m1 ?_
        refine e_icmp_ne (pc := 33) (tgt := 39) dX12_shift_33 (by decide) (fun _ => ?_) (fun _ => ?_)
        · refine e_bipush (pc := 36) (v := (-11 : Int32)) dX12_shift_36 bp_m11 ?_
          exact e_iretW rfl dX12_shift_38
        · refine e_aload_n (pc := 39) dX12_shift_39 0 rfl rfl ?_
          refine g_R (pc := 40) (cl' := 82) kk54 fl_X12_109 rfl dX12_shift_40 ?_
          refine e_iload_n (pc := 43) dX12_shift_43 1 rfl rfl ?_
          refine e_iald (pc := 44) kk82 dX12_shift_44 (fun v5 => ?_)
          refine e_if_ge (pc := 45) (tgt := 63) dX12_shift_45 (by decide) (fun _ => ?_) (fun _ => ?_)
          · refine e_bipush (pc := 63) (v := (-12 : Int32)) dX12_shift_63 bp_m12 ?_
            exact e_iretW rfl dX12_shift_65
          · refine e_aload_n (pc := 48) dX12_shift_48 0 rfl rfl ?_
            refine g_R (pc := 49) (cl' := 82) kk54 fl_X12_109 rfl dX12_shift_49 ?_
            refine e_iload_n (pc := 52) dX12_shift_52 1 rfl rfl ?_
            refine e_iald (pc := 53) kk82 dX12_shift_53 (fun v6 => ?_)
            refine e_aload_n (pc := 54) dX12_shift_54 0 rfl rfl ?_
            refine g_R (pc := 55) (cl' := 82) kk54 fl_X12_109 rfl dX12_shift_55 ?_
            refine e_iload_n (pc := 58) dX12_shift_58 3 rfl rfl ?_
            refine e_iald (pc := 59) kk82 dX12_shift_59 (fun v7 => ?_)
            refine e_icmp_eq (pc := 60) (tgt := 66) dX12_shift_60 (by decide) (fun _ => ?_) (fun _ => ?_)
            · refine e_iload (pc := 66) dX12_shift_66 5 rfl ?_
              refine e_if_lt (pc := 68) (tgt := 107) dX12_shift_68 (by decide) (fun _ => ?_) (fun _ => ?_)
              · refine e_bipush (pc := 107) (v := (-13 : Int32)) dX12_shift_107 bp_m13 ?_
                exact e_iretW rfl dX12_shift_109
              · refine e_iload_n (pc := 71) dX12_shift_71 2 rfl rfl ?_
                refine e_if_lt (pc := 72) (tgt := 107) dX12_shift_72 (by decide) (fun _ => ?_) (fun _ => ?_)
                · refine e_bipush (pc := 107) (v := (-13 : Int32)) dX12_shift_107 bp_m13 ?_
                  exact e_iretW rfl dX12_shift_109
                · refine e_iload (pc := 75) dX12_shift_75 4 rfl ?_
                  refine e_if_lt (pc := 77) (tgt := 107) dX12_shift_77 (by decide) (fun _ => ?_) (fun _ => ?_)
                  · refine e_bipush (pc := 107) (v := (-13 : Int32)) dX12_shift_107 bp_m13 ?_
                    exact e_iretW rfl dX12_shift_109
                  · refine e_iload_n (pc := 80) dX12_shift_80 2 rfl rfl ?_
                    refine e_aload_n (pc := 81) dX12_shift_81 0 rfl rfl ?_
                    refine g_R (pc := 82) (cl' := 83) kk54 fl_X12_112 rfl dX12_shift_82 ?_
                    refine e_iload_n (pc := 85) dX12_shift_85 1 rfl rfl ?_
                    refine e_iald (pc := 86) kk83 dX12_shift_86 (fun v8 => ?_)
                    refine e_iload (pc := 87) dX12_shift_87 5 rfl ?_
                    refine e_isub (pc := 89) dX12_shift_89 ?_
                    refine e_icmp_gt (pc := 90) (tgt := 107) dX12_shift_90 (by decide) (fun _ => ?_) (fun _ => ?_)
                    · refine e_bipush (pc := 107) (v := (-13 : Int32)) dX12_shift_107 bp_m13 ?_
                      exact e_iretW rfl dX12_shift_109
                    · refine e_iload (pc := 93) dX12_shift_93 4 rfl ?_
                      refine e_aload_n (pc := 95) dX12_shift_95 0 rfl rfl ?_
                      refine g_R (pc := 96) (cl' := 83) kk54 fl_X12_112 rfl dX12_shift_96 ?_
                      refine e_iload_n (pc := 99) dX12_shift_99 3 rfl rfl ?_
                      refine e_iald (pc := 100) kk83 dX12_shift_100 (fun v9 => ?_)
                      refine e_iload (pc := 101) dX12_shift_101 5 rfl ?_
                      refine e_isub (pc := 103) dX12_shift_103 ?_
                      refine e_icmp_le (pc := 104) (tgt := 110) dX12_shift_104 (by decide) (fun _ => ?_) (fun _ => ?_)
                      · refine e_iconst (pc := 110) (v := (0 : Int32)) dX12_shift_110 ic_0 ?_
                        refine e_istore (pc := 111) (lv' := [(6, .int (0 : Int32)), (0, .ref (xa X 54)), (1, .int a1), (2, .int a2), (3, .int a3), (4, .int a4), (5, .int a5)]) dX12_shift_111 (Nat.le_of_ble_eq_true rfl) rfl ?_
                        refine e_lv [1, 2, 3, 4, 5, 6, 0] rfl ?_
                        exact cb_X12_shift_b113 X fu a1 a2 a3 a4 a5 (0 : Int32) w
                      · refine e_bipush (pc := 107) (v := (-13 : Int32)) dX12_shift_107 bp_m13 ?_
                        exact e_iretW rfl dX12_shift_109
            · refine e_bipush (pc := 63) (v := (-12 : Int32)) dX12_shift_63 bp_m12 ?_
              exact e_iretW rfl dX12_shift_65
theorem cf_X12_shift (X : Xt) (a1 : Int32) (a2 : Int32) (a3 : Int32) (a4 : Int32) (a5 : Int32) (w : Wd) : CF gWI X m_X12_shift 3 [.ref (xa X 54), .int a1, .int a2, .int a3, .int a4, .int a5] w (f_X12_shift a1 a2 a3 a4 a5 w) := CF_of (by decide) (Nat.le_of_ble_eq_true rfl) (ce_X12_shift X a1 a2 a3 a4 a5 w)
set_option maxRecDepth 100000 in
set_option maxHeartbeats 4000000 in
theorem ce_X12_taken (X : Xt) (a1 : Int32) (a2 : Int32) (w : Wd) : E (gRI w) X m_X12_taken 3 0 [(0, .ref (xa X 54)), (1, .int a1), (2, .int a2)] [] w (f_X12_taken a1 a2 w) := by
  unfold f_X12_taken
  refine e_iload_n (pc := 0) dX12_taken_0 1 rfl rfl ?_
  refine e_callSRI (pc := 1) (As := [.int a1]) (rest := []) (cf_X12_isShelf X a1 w) lk_X12_135 (Nat.le_of_ble_eq_true rfl) (Nat.le_of_ble_eq_true rfl) rfl rfl (Nat.le_of_ble_eq_true rfl) dX12_taken_1 (fun r1 => ?_)
  refine e_if_eq (pc := 4) (tgt := 17) dX12_taken_4 (by decide) (fun _ => ?_) (fun _ => ?_)
  · refine e_iconst (pc := 17) (v := (-1 : Int32)) dX12_taken_17 ic_m1 ?_
    exact e_iretR rfl dX12_taken_18
  · refine e_iload_n (pc := 7) dX12_taken_7 2 rfl rfl ?_
    refine e_iconst (pc := 8) (v := (0 : Int32)) dX12_taken_8 ic_0 ?_
    refine e_bipush (pc := 9) (v := (7 : Int32)) dX12_taken_9 bp_7 ?_
    refine e_callSRI (pc := 11) (As := [.int a2, .int (0 : Int32), .int (7 : Int32)]) (rest := []) (cf_X12_in X a2 (0 : Int32) (7 : Int32) w) lk_X12_124 (Nat.le_of_ble_eq_true rfl) (Nat.le_of_ble_eq_true rfl) rfl rfl (Nat.le_of_ble_eq_true rfl) dX12_taken_11 (fun r2 => ?_)
    refine e_if_ne (pc := 14) (tgt := 19) dX12_taken_14 (by decide) (fun _ => ?_) (fun _ => ?_)
    · refine e_iconst (pc := 17) (v := (-1 : Int32)) dX12_taken_17 ic_m1 ?_
      exact e_iretR rfl dX12_taken_18
    · refine e_aload_n (pc := 19) dX12_taken_19 0 rfl rfl ?_
      refine g_R (pc := 20) (cl' := 82) kk54 fl_X12_109 rfl dX12_taken_20 ?_
      refine e_iload_n (pc := 23) dX12_taken_23 1 rfl rfl ?_
      refine e_iald (pc := 24) kk82 dX12_taken_24 (fun v3 => ?_)
      refine e_iconst (pc := 25) (v := (-1 : Int32)) dX12_taken_25 ic_m1 ?_
      refine e_icmp_ne (pc := 26) (tgt := 32) dX12_taken_26 (by decide) (fun _ => ?_) (fun _ => ?_)
      · refine e_bipush (pc := 29) (v := (-11 : Int32)) dX12_taken_29 bp_m11 ?_
        exact e_iretR rfl dX12_taken_31
      · refine e_aload_n (pc := 32) dX12_taken_32 0 rfl rfl ?_
        refine g_R (pc := 33) (cl' := 82) kk54 fl_X12_109 rfl dX12_taken_33 ?_
        refine e_iload_n (pc := 36) dX12_taken_36 1 rfl rfl ?_
        refine e_iald (pc := 37) kk82 dX12_taken_37 (fun v4 => ?_)
        refine e_if_lt (pc := 38) (tgt := 73) dX12_taken_38 (by decide) (fun _ => ?_) (fun _ => ?_)
        · refine e_bipush (pc := 73) (v := (-12 : Int32)) dX12_taken_73 bp_m12 ?_
          exact e_iretR rfl dX12_taken_75
        · refine e_aload_n (pc := 41) dX12_taken_41 0 rfl rfl ?_
          refine g_R (pc := 42) (cl' := 80) kk54 fl_X12_103 rfl dX12_taken_42 ?_
          refine e_aload_n (pc := 45) dX12_taken_45 0 rfl rfl ?_
          refine g_R (pc := 46) (cl' := 82) kk54 fl_X12_109 rfl dX12_taken_46 ?_
          refine e_iload_n (pc := 49) dX12_taken_49 1 rfl rfl ?_
          refine e_iald (pc := 50) kk82 dX12_taken_50 (fun v5 => ?_)
          refine e_iald (pc := 51) kk80 dX12_taken_51 (fun v6 => ?_)
          refine e_iload_n (pc := 52) dX12_taken_52 2 rfl rfl ?_
          refine e_callSRI (pc := 53) (As := [.int v6, .int a2]) (rest := []) (cf_X12_isUnder X v6 a2 w) lk_X12_396 (Nat.le_of_ble_eq_true rfl) (Nat.le_of_ble_eq_true rfl) rfl rfl (Nat.le_of_ble_eq_true rfl) dX12_taken_53 (fun r7 => ?_)
          refine e_if_eq (pc := 56) (tgt := 73) dX12_taken_56 (by decide) (fun _ => ?_) (fun _ => ?_)
          · refine e_bipush (pc := 73) (v := (-12 : Int32)) dX12_taken_73 bp_m12 ?_
            exact e_iretR rfl dX12_taken_75
          · refine e_aload_n (pc := 59) dX12_taken_59 0 rfl rfl ?_
            refine g_R (pc := 60) (cl' := 80) kk54 fl_X12_103 rfl dX12_taken_60 ?_
            refine e_aload_n (pc := 63) dX12_taken_63 0 rfl rfl ?_
            refine g_R (pc := 64) (cl' := 82) kk54 fl_X12_109 rfl dX12_taken_64 ?_
            refine e_iload_n (pc := 67) dX12_taken_67 1 rfl rfl ?_
            refine e_iald (pc := 68) kk82 dX12_taken_68 (fun v8 => ?_)
            refine e_iald (pc := 69) kk80 dX12_taken_69 (fun v9 => ?_)
            refine e_goto (pc := 70) (tgt := 75) dX12_taken_70 (by decide) ?_
            exact e_iretR rfl dX12_taken_75
theorem cf_X12_taken (X : Xt) (a1 : Int32) (a2 : Int32) (w : Wd) : CF (gRI w) X m_X12_taken 3 [.ref (xa X 54), .int a1, .int a2] w (f_X12_taken a1 a2 w) := CF_of (by decide) (Nat.le_of_ble_eq_true rfl) (ce_X12_taken X a1 a2 w)
