set_option maxRecDepth 100000 in
set_option maxHeartbeats 4000000 in
theorem ce_X11_mend (X : Xt) (a1 : Int32) (a2 : Int32) (a3 : Int32) (w : Wd) : E gWI X m_X11_mend 3 0 [(0, .ref (xa X 0)), (1, .int a1), (2, .int a2), (3, .int a3)] [] w (f_X11_mend a1 a2 a3 w) := by
  unfold f_X11_mend
  refine e_aload_n (pc := 0) dX11_mend_0 0 rfl rfl ?_
  refine g_R (pc := 1) (cl' := 1) kk0 fl_X11_10 rfl dX11_mend_1 ?_
  refine e_iload_n (pc := 4) dX11_mend_4 1 rfl rfl ?_
  refine e_iload_n (pc := 5) dX11_mend_5 2 rfl rfl ?_
  refine e_callVRI (pc := 6) (As := [.int a1, .int a2]) (rest := []) kk1 Kc6 (cf_X6_slotOf X a1 a2 w) lk_X11_116 (Nat.le_of_ble_eq_true rfl) (Nat.le_of_ble_eq_true rfl) rfl rfl (Nat.le_of_ble_eq_true rfl) dX11_mend_6 (fun r1 => ?_)
  refine e_istore (pc := 9) (lv' := [(4, .int r1), (0, .ref (xa X 0)), (1, .int a1), (2, .int a2), (3, .int a3)]) dX11_mend_9 (Nat.le_of_ble_eq_true rfl) rfl ?_
  refine e_iload (pc := 11) dX11_mend_11 0 rfl ?_
  refine e_if_lt (pc := 13) (tgt := 28) dX11_mend_13 (by decide) (fun _ => ?_) (fun _ => ?_)
  · refine e_iconst (pc := 28) (v := (-1 : Int32)) dX11_mend_28 ic_m1 ?_
    exact e_iretW rfl dX11_mend_29
  · refine e_aload_n (pc := 16) dX11_mend_16 1 rfl rfl ?_
    refine g_R (pc := 17) (cl' := 1) kk0 fl_X11_10 rfl dX11_mend_17 ?_
    refine e_iload_n (pc := 20) dX11_mend_20 3 rfl rfl ?_
    refine e_iload_n (pc := 21) dX11_mend_21 4 rfl rfl ?_
    refine e_callVRI (pc := 22) (As := [.int a2, .int a3]) (rest := []) kk1 Kc6 (cf_X6_mayBe X a2 a3 w) lk_X11_93 (Nat.le_of_ble_eq_true rfl) (Nat.le_of_ble_eq_true rfl) rfl rfl (Nat.le_of_ble_eq_true rfl) dX11_mend_22 (fun r2 => ?_)
    refine e_if_ne (pc := 25) (tgt := 30) dX11_mend_25 (by decide) (fun _ => ?_) (fun _ => ?_)
    · refine e_iconst (pc := 28) (v := (-1 : Int32)) dX11_mend_28 ic_m1 ?_
      exact e_iretW rfl dX11_mend_29
    · refine e_aload_n (pc := 30) dX11_mend_30 1 rfl rfl ?_
      refine g_R (pc := 31) (cl' := 1) kk0 fl_X11_10 rfl dX11_mend_31 ?_
      refine e_iload (pc := 34) dX11_mend_34 0 rfl ?_
      refine e_iload_n (pc := 36) dX11_mend_36 4 rfl rfl ?_
      refine e_callVWI (pc := 37) (As := [.int r1, .int a3]) (rest := []) kk1 Kc6 (cf_X6_become X r1 a3 w) lk_X11_119 (Nat.le_of_ble_eq_true rfl) (Nat.le_of_ble_eq_true rfl) rfl rfl (Nat.le_of_ble_eq_true rfl) dX11_mend_37 (fun r3 w4 => ?_)
      exact e_iretW rfl dX11_mend_40
theorem cf_X11_mend (X : Xt) (a1 : Int32) (a2 : Int32) (a3 : Int32) (w : Wd) : CF gWI X m_X11_mend 3 [.ref (xa X 0), .int a1, .int a2, .int a3] w (f_X11_mend a1 a2 a3 w) := CF_of (by decide) (Nat.le_of_ble_eq_true rfl) (ce_X11_mend X a1 a2 a3 w)
set_option maxRecDepth 100000 in
set_option maxHeartbeats 4000000 in
theorem ce_X11_of (X : Xt) (a1 : Int32) (a2 : Int32) (w : Wd) : E (gRI w) X m_X11_of 4 0 [(0, .ref (xa X 0)), (1, .int a1), (2, .int a2)] [] w (f_X11_of a1 a2 w) := by
  unfold f_X11_of
  refine e_aload_n (pc := 0) dX11_of_0 0 rfl rfl ?_
  refine g_R (pc := 1) (cl' := 1) kk0 fl_X11_10 rfl dX11_of_1 ?_
  refine e_iload_n (pc := 4) dX11_of_4 1 rfl rfl ?_
  refine e_iload_n (pc := 5) dX11_of_5 2 rfl rfl ?_
  refine e_callVRI (pc := 6) (As := [.int a1, .int a2]) (rest := []) kk1 Kc6 (cf_X6_slotOf X a1 a2 w) lk_X11_116 (Nat.le_of_ble_eq_true rfl) (Nat.le_of_ble_eq_true rfl) rfl rfl (Nat.le_of_ble_eq_true rfl) dX11_of_6 (fun r1 => ?_)
  refine e_if_ge (pc := 9) (tgt := 16) dX11_of_9 (by decide) (fun _ => ?_) (fun _ => ?_)
  · refine e_aload_n (pc := 16) dX11_of_16 0 rfl rfl ?_
    refine g_R (pc := 17) (cl' := 1) kk0 fl_X11_10 rfl dX11_of_17 ?_
    refine e_iload_n (pc := 20) dX11_of_20 1 rfl rfl ?_
    refine e_iload_n (pc := 21) dX11_of_21 2 rfl rfl ?_
    refine e_callVRI (pc := 22) (As := [.int a1, .int a2]) (rest := []) kk1 Kc6 (cf_X6_get X a1 a2 w) lk_X11_122 (Nat.le_of_ble_eq_true rfl) (Nat.le_of_ble_eq_true rfl) rfl rfl (Nat.le_of_ble_eq_true rfl) dX11_of_22 (fun r2 => ?_)
    exact e_iretR rfl dX11_of_25
  · refine e_iconst (pc := 12) (v := (-1 : Int32)) dX11_of_12 ic_m1 ?_
    refine e_goto (pc := 13) (tgt := 25) dX11_of_13 (by decide) ?_
    exact e_iretR rfl dX11_of_25
theorem cf_X11_of (X : Xt) (a1 : Int32) (a2 : Int32) (w : Wd) : CF (gRI w) X m_X11_of 4 [.ref (xa X 0), .int a1, .int a2] w (f_X11_of a1 a2 w) := CF_of (by decide) (Nat.le_of_ble_eq_true rfl) (ce_X11_of X a1 a2 w)
set_option maxRecDepth 100000 in
set_option maxHeartbeats 4000000 in
theorem ce_X11_feed (X : Xt) (a1 : Int32) (w : Wd) : E gWI X m_X11_feed 2 0 [(0, .ref (xa X 0)), (1, .int a1)] [] w (f_X11_feed a1 w) := by
  unfold f_X11_feed
  refine e_iload_n (pc := 0) dX11_feed_0 1 rfl rfl ?_
  refine e_if_lt (pc := 1) (tgt := 11) dX11_feed_1 (by decide) (fun _ => ?_) (fun _ => ?_)
  · refine e_iconst (pc := 11) (v := (-1 : Int32)) dX11_feed_11 ic_m1 ?_
    exact e_iretW rfl dX11_feed_12
  · refine e_iload_n (pc := 4) dX11_feed_4 1 rfl rfl ?_
    refine e_sipush (pc := 5) (v := (255 : Int32)) dX11_feed_5 sp_255 ?_
    refine e_icmp_le (pc := 8) (tgt := 13) dX11_feed_8 (by decide) (fun _ => ?_) (fun _ => ?_)
    · refine e_aload_n (pc := 13) dX11_feed_13 0 rfl rfl ?_
      refine g_R (pc := 14) (cl' := 6) kk0 fl_X11_19 rfl dX11_feed_14 ?_
      refine e_callVRI (pc := 17) (As := []) (rest := []) kk6 Kc4 (cf_X4_isFull X w) lk_X11_125 (Nat.le_of_ble_eq_true rfl) (Nat.le_of_ble_eq_true rfl) rfl rfl (Nat.le_of_ble_eq_true rfl) dX11_feed_17 (fun r1 => ?_)
      refine e_if_eq (pc := 20) (tgt := 28) dX11_feed_20 (by decide) (fun _ => ?_) (fun _ => ?_)
      · refine e_aload_n (pc := 28) dX11_feed_28 0 rfl rfl ?_
        refine g_R (pc := 29) (cl' := 6) kk0 fl_X11_19 rfl dX11_feed_29 ?_
        refine e_iload_n (pc := 32) dX11_feed_32 1 rfl rfl ?_
        refine e_callVWI (pc := 33) (As := [.int a1]) (rest := []) kk6 Kc4 (cf_X4_add X a1 w) lk_X11_128 (Nat.le_of_ble_eq_true rfl) (Nat.le_of_ble_eq_true rfl) rfl rfl (Nat.le_of_ble_eq_true rfl) dX11_feed_33 (fun r2 w3 => ?_)
        exact e_iretW rfl dX11_feed_36
      · refine e_bipush (pc := 23) (v := (-3 : Int32)) dX11_feed_23 bp_m3 ?_
        refine e_goto (pc := 25) (tgt := 36) dX11_feed_25 (by decide) ?_
        exact e_iretW rfl dX11_feed_36
    · refine e_iconst (pc := 11) (v := (-1 : Int32)) dX11_feed_11 ic_m1 ?_
      exact e_iretW rfl dX11_feed_12
theorem cf_X11_feed (X : Xt) (a1 : Int32) (w : Wd) : CF gWI X m_X11_feed 2 [.ref (xa X 0), .int a1] w (f_X11_feed a1 w) := CF_of (by decide) (Nat.le_of_ble_eq_true rfl) (ce_X11_feed X a1 w)
set_option maxRecDepth 100000 in
set_option maxHeartbeats 4000000 in
theorem ce_X11_law (X : Xt) (w : Wd) : E gWI X m_X11_law 87 0 [(0, .ref (xa X 0))] [] w (f_X11_law w) := by
  unfold f_X11_law
  refine e_aload_n (pc := 0) dX11_law_0 0 rfl rfl ?_
  refine g_R (pc := 1) (cl' := 6) kk0 fl_X11_19 rfl dX11_law_1 ?_
  refine e_callVWI (pc := 4) (As := []) (rest := []) kk6 Kc4 (cf_X4_takeTape X w) lk_X11_132 (Nat.le_of_ble_eq_true rfl) (Nat.le_of_ble_eq_true rfl) rfl rfl (Nat.le_of_ble_eq_true rfl) dX11_law_4 (fun r1 w2 => ?_)
  refine e_istore_n (pc := 7) (lv' := [(1, .int r1), (0, .ref (xa X 0))]) dX11_law_7 rfl (Nat.le_of_ble_eq_true rfl) rfl ?_
  refine e_iload_n (pc := 8) dX11_law_8 0 rfl rfl ?_
  refine e_if_ge (pc := 9) (tgt := 16) dX11_law_9 (by decide) (fun _ => ?_) (fun _ => ?_)
  · refine e_bipush (pc := 16) (v := (-100 : Int32)) dX11_law_16 bp_m100 ?_
    refine e_iload_n (pc := 18) dX11_law_18 0 rfl rfl ?_
    refine e_isub (pc := 19) dX11_law_19 ?_
    exact e_iretW rfl dX11_law_20
  · refine e_iconst (pc := 12) (v := (1 : Int32)) dX11_law_12 ic_1 ?_
    refine e_goto (pc := 13) (tgt := 20) dX11_law_13 (by decide) ?_
    exact e_iretW rfl dX11_law_20
theorem cf_X11_law (X : Xt) (w : Wd) : CF gWI X m_X11_law 87 [.ref (xa X 0)] w (f_X11_law w) := CF_of (by decide) (Nat.le_of_ble_eq_true rfl) (ce_X11_law X w)
set_option maxRecDepth 100000 in
set_option maxHeartbeats 4000000 in
theorem cb_X11_twelfthsIn_b73 (X : Xt) (s0 : Int32) (w : Wd) : E gWI X m_X11_twelfthsIn 4 73 [] [.int s0] w (f_X11_twelfthsIn_b73 s0 w) := by
  unfold f_X11_twelfthsIn_b73
  refine e_istore (pc := 73) (lv' := [(7, .int s0)]) dX11_twelfthsIn_73 (Nat.le_of_ble_eq_true rfl) rfl ?_
  refine e_iconst (pc := 75) (v := (0 : Int32)) dX11_twelfthsIn_75 ic_0 ?_
  refine e_bipush (pc := 76) (v := (12 : Int32)) dX11_twelfthsIn_76 bp_12 ?_
  refine e_iload (pc := 78) dX11_twelfthsIn_78 0 rfl ?_
  refine e_mmin (pc := 80) ml_X11_206 ms_min mi_Math mc_min (Nat.le_of_ble_eq_true rfl) (Nat.le_of_ble_eq_true rfl) dX11_twelfthsIn_80 ?_
  refine e_mmax (pc := 83) ml_X11_416 ms_max mi_Math mc_max (Nat.le_of_ble_eq_true rfl) (Nat.le_of_ble_eq_true rfl) dX11_twelfthsIn_83 ?_
  exact e_iretW rfl dX11_twelfthsIn_86
set_option maxRecDepth 100000 in
set_option maxHeartbeats 4000000 in
theorem ce_X11_twelfthsIn (X : Xt) (a1 : Int32) (a2 : Int32) (a3 : Int32) (w : Wd) : E gWI X m_X11_twelfthsIn 4 0 [(0, .ref (xa X 0)), (1, .int a1), (2, .int a2), (3, .int a3)] [] w (f_X11_twelfthsIn a1 a2 a3 w) := by
  unfold f_X11_twelfthsIn
  refine e_aload_n (pc := 0) dX11_twelfthsIn_0 0 rfl rfl ?_
  refine g_R (pc := 1) (cl' := 1) kk0 fl_X11_10 rfl dX11_twelfthsIn_1 ?_
  refine e_iload_n (pc := 4) dX11_twelfthsIn_4 1 rfl rfl ?_
  refine e_iconst (pc := 5) (v := (5 : Int32)) dX11_twelfthsIn_5 ic_5 ?_
  refine e_callVRI (pc := 6) (As := [.int a1, .int (5 : Int32)]) (rest := []) kk1 Kc6 (cf_X6_get X a1 (5 : Int32) w) lk_X11_122 (Nat.le_of_ble_eq_true rfl) (Nat.le_of_ble_eq_true rfl) rfl rfl (Nat.le_of_ble_eq_true rfl) dX11_twelfthsIn_6 (fun r1 => ?_)
  refine e_istore (pc := 9) (lv' := [(4, .int r1), (0, .ref (xa X 0)), (1, .int a1), (2, .int a2), (3, .int a3)]) dX11_twelfthsIn_9 (Nat.le_of_ble_eq_true rfl) rfl ?_
  refine e_aload_n (pc := 11) dX11_twelfthsIn_11 1 rfl rfl ?_
  refine g_R (pc := 12) (cl' := 1) kk0 fl_X11_10 rfl dX11_twelfthsIn_12 ?_
  refine e_iconst (pc := 15) (v := (0 : Int32)) dX11_twelfthsIn_15 ic_0 ?_
  refine e_bipush (pc := 16) (v := (7 : Int32)) dX11_twelfthsIn_16 bp_7 ?_
  refine e_callVRI (pc := 18) (As := [.int (0 : Int32), .int (7 : Int32)]) (rest := []) kk1 Kc6 (cf_X6_get X (0 : Int32) (7 : Int32) w) lk_X11_122 (Nat.le_of_ble_eq_true rfl) (Nat.le_of_ble_eq_true rfl) rfl rfl (Nat.le_of_ble_eq_true rfl) dX11_twelfthsIn_18 (fun r2 => ?_)
  refine e_istore (pc := 21) (lv' := [(5, .int r2), (4, .int r1), (0, .ref (xa X 0)), (1, .int a1), (2, .int a2), (3, .int a3)]) dX11_twelfthsIn_21 (Nat.le_of_ble_eq_true rfl) rfl ?_
  refine e_aload_n (pc := 23) dX11_twelfthsIn_23 2 rfl rfl ?_
  refine g_R (pc := 24) (cl' := 1) kk0 fl_X11_10 rfl dX11_twelfthsIn_24 ?_
  refine e_iconst (pc := 27) (v := (0 : Int32)) dX11_twelfthsIn_27 ic_0 ?_
  refine e_bipush (pc := 28) (v := (8 : Int32)) dX11_twelfthsIn_28 bp_8 ?_
  refine e_callVRI (pc := 30) (As := [.int (0 : Int32), .int (8 : Int32)]) (rest := []) kk1 Kc6 (cf_X6_get X (0 : Int32) (8 : Int32) w) lk_X11_122 (Nat.le_of_ble_eq_true rfl) (Nat.le_of_ble_eq_true rfl) rfl rfl (Nat.le_of_ble_eq_true rfl) dX11_twelfthsIn_30 (fun r3 => ?_)
  refine e_istore (pc := 33) (lv' := [(6, .int r3), (5, .int r2), (4, .int r1), (0, .ref (xa X 0)), (1, .int a1), (2, .int a2), (3, .int a3)]) dX11_twelfthsIn_33 (Nat.le_of_ble_eq_true rfl) rfl ?_
  refine e_aload_n (pc := 35) dX11_twelfthsIn_35 3 rfl rfl ?_
  refine g_R (pc := 36) (cl' := 6) kk0 fl_X11_19 rfl dX11_twelfthsIn_36 ?_
  refine e_callVRI (pc := 39) (As := []) (rest := []) kk6 Kc4 (cf_X4_isTold X w) lk_X11_409 (Nat.le_of_ble_eq_true rfl) (Nat.le_of_ble_eq_true rfl) rfl rfl (Nat.le_of_ble_eq_true rfl) dX11_twelfthsIn_39 (fun r4 => ?_)
  refine e_if_eq (pc := 42) (tgt := 64) dX11_twelfthsIn_42 (by decide) (fun _ => ?_) (fun _ => ?_)
  · refine e_iload (pc := 64) dX11_twelfthsIn_64 2 rfl ?_
    refine e_iload (pc := 66) dX11_twelfthsIn_66 1 rfl ?_
    refine e_isub (pc := 68) dX11_twelfthsIn_68 ?_
    refine e_iload_n (pc := 69) dX11_twelfthsIn_69 6 rfl rfl ?_
    refine e_isub (pc := 70) dX11_twelfthsIn_70 ?_
    refine e_iconst (pc := 71) (v := (1 : Int32)) dX11_twelfthsIn_71 ic_1 ?_
    refine e_iadd (pc := 72) dX11_twelfthsIn_72 ?_
    refine e_lv [] rfl ?_
    exact cb_X11_twelfthsIn_b73 X (((r1 - r2) - a3) + (1 : Int32)) w
  · refine e_aload_n (pc := 45) dX11_twelfthsIn_45 3 rfl rfl ?_
    refine g_R (pc := 46) (cl' := 6) kk0 fl_X11_19 rfl dX11_twelfthsIn_46 ?_
    refine e_iload (pc := 49) dX11_twelfthsIn_49 2 rfl ?_
    refine e_iload (pc := 51) dX11_twelfthsIn_51 1 rfl ?_
    refine e_iload (pc := 53) dX11_twelfthsIn_53 0 rfl ?_
    refine e_iload_n (pc := 55) dX11_twelfthsIn_55 6 rfl rfl ?_
    refine e_iload_n (pc := 56) dX11_twelfthsIn_56 5 rfl rfl ?_
    refine e_iload_n (pc := 57) dX11_twelfthsIn_57 4 rfl rfl ?_
    refine e_callVWI (pc := 58) (As := [.int r1, .int r2, .int r3, .int a3, .int a2, .int a1]) (rest := []) kk6 Kc4 (cf_X4_workOut X r1 r2 r3 a3 a2 a1 w) lk_X11_412 (Nat.le_of_ble_eq_true rfl) (Nat.le_of_ble_eq_true rfl) rfl rfl (Nat.le_of_ble_eq_true rfl) dX11_twelfthsIn_58 (fun r5 w6 => ?_)
    refine e_goto (pc := 61) (tgt := 73) dX11_twelfthsIn_61 (by decide) ?_
    refine e_lv [] rfl ?_
    exact cb_X11_twelfthsIn_b73 X r5 w6
theorem cf_X11_twelfthsIn (X : Xt) (a1 : Int32) (a2 : Int32) (a3 : Int32) (w : Wd) : CF gWI X m_X11_twelfthsIn 4 [.ref (xa X 0), .int a1, .int a2, .int a3] w (f_X11_twelfthsIn a1 a2 a3 w) := CF_of (by decide) (Nat.le_of_ble_eq_true rfl) (ce_X11_twelfthsIn X a1 a2 a3 w)
set_option maxRecDepth 100000 in
set_option maxHeartbeats 4000000 in
theorem ce_X11_twelfths (X : Xt) (a1 : Int32) (a2 : Int32) (w : Wd) : E gWI X m_X11_twelfths 5 0 [(0, .ref (xa X 0)), (1, .int a1), (2, .int a2)] [] w (f_X11_twelfths a1 a2 w) := by
  unfold f_X11_twelfths
  refine e_aload_n (pc := 0) dX11_twelfths_0 0 rfl rfl ?_
  refine e_iload_n (pc := 1) dX11_twelfths_1 1 rfl rfl ?_
  refine e_iload_n (pc := 2) dX11_twelfths_2 2 rfl rfl ?_
  refine e_aload_n (pc := 3) dX11_twelfths_3 0 rfl rfl ?_
  refine g_R (pc := 4) (cl' := 1) kk0 fl_X11_10 rfl dX11_twelfths_4 ?_
  refine e_iconst (pc := 7) (v := (0 : Int32)) dX11_twelfths_7 ic_0 ?_
  refine e_bipush (pc := 8) (v := (9 : Int32)) dX11_twelfths_8 bp_9 ?_
  refine e_callVRI (pc := 10) (As := [.int (0 : Int32), .int (9 : Int32)]) (rest := [.int a2, .int a1, .ref (xa X 0)]) kk1 Kc6 (cf_X6_get X (0 : Int32) (9 : Int32) w) lk_X11_122 (Nat.le_of_ble_eq_true rfl) (Nat.le_of_ble_eq_true rfl) rfl rfl (Nat.le_of_ble_eq_true rfl) dX11_twelfths_10 (fun r1 => ?_)
  refine e_callVWI (pc := 13) (As := [.int a1, .int a2, .int r1]) (rest := []) kk0 Kc11 (cf_X11_twelfthsIn X a1 a2 r1 w) lk_X11_406 (Nat.le_of_ble_eq_true rfl) (Nat.le_of_ble_eq_true rfl) rfl rfl (Nat.le_of_ble_eq_true rfl) dX11_twelfths_13 (fun r2 w3 => ?_)
  exact e_iretW rfl dX11_twelfths_16
theorem cf_X11_twelfths (X : Xt) (a1 : Int32) (a2 : Int32) (w : Wd) : CF gWI X m_X11_twelfths 5 [.ref (xa X 0), .int a1, .int a2] w (f_X11_twelfths a1 a2 w) := CF_of (by decide) (Nat.le_of_ble_eq_true rfl) (ce_X11_twelfths X a1 a2 w)
set_option maxRecDepth 100000 in
set_option maxHeartbeats 4000000 in
theorem ce_X11_finds (X : Xt) (a1 : Int32) (a2 : Int32) (w : Wd) : E gWI X m_X11_finds 6 0 [(0, .ref (xa X 0)), (1, .int a1), (2, .int a2)] [] w (f_X11_finds a1 a2 w) := by
  unfold f_X11_finds
  refine e_aload_n (pc := 0) dX11_finds_0 0 rfl rfl ?_
  refine g_R (pc := 1) (cl' := 1) kk0 fl_X11_10 rfl dX11_finds_1 ?_
  refine e_iload_n (pc := 4) dX11_finds_4 1 rfl rfl ?_
  refine e_callVRI (pc := 5) (As := [.int a1]) (rest := []) kk1 Kc6 (cf_X6_isLooker X a1 w) lk_X11_136 (Nat.le_of_ble_eq_true rfl) (Nat.le_of_ble_eq_true rfl) rfl rfl (Nat.le_of_ble_eq_true rfl) dX11_finds_5 (fun r1 => ?_)
  refine e_if_eq (pc := 8) (tgt := 21) dX11_finds_8 (by decide) (fun _ => ?_) (fun _ => ?_)
  · refine e_iconst (pc := 21) (v := (-1 : Int32)) dX11_finds_21 ic_m1 ?_
    exact e_iretW rfl dX11_finds_22
  · refine e_iload_n (pc := 11) dX11_finds_11 2 rfl rfl ?_
    refine e_if_lt (pc := 12) (tgt := 21) dX11_finds_12 (by decide) (fun _ => ?_) (fun _ => ?_)
    · refine e_iconst (pc := 21) (v := (-1 : Int32)) dX11_finds_21 ic_m1 ?_
      exact e_iretW rfl dX11_finds_22
    · refine e_iload_n (pc := 15) dX11_finds_15 2 rfl rfl ?_
      refine e_bipush (pc := 16) (v := (9 : Int32)) dX11_finds_16 bp_9 ?_
      refine e_icmp_le (pc := 18) (tgt := 23) dX11_finds_18 (by decide) (fun _ => ?_) (fun _ => ?_)
      · refine e_aload_n (pc := 23) dX11_finds_23 0 rfl rfl ?_
        refine e_iload_n (pc := 24) dX11_finds_24 1 rfl rfl ?_
        refine e_iload_n (pc := 25) dX11_finds_25 2 rfl rfl ?_
        refine e_callVWI (pc := 26) (As := [.int a1, .int a2]) (rest := []) kk0 Kc11 (cf_X11_twelfths X a1 a2 w) lk_X11_139 (Nat.le_of_ble_eq_true rfl) (Nat.le_of_ble_eq_true rfl) rfl rfl (Nat.le_of_ble_eq_true rfl) dX11_finds_26 (fun r2 w3 => ?_)
        exact e_iretW rfl dX11_finds_29
      · refine e_iconst (pc := 21) (v := (-1 : Int32)) dX11_finds_21 ic_m1 ?_
        exact e_iretW rfl dX11_finds_22
theorem cf_X11_finds (X : Xt) (a1 : Int32) (a2 : Int32) (w : Wd) : CF gWI X m_X11_finds 6 [.ref (xa X 0), .int a1, .int a2] w (f_X11_finds a1 a2 w) := CF_of (by decide) (Nat.le_of_ble_eq_true rfl) (ce_X11_finds X a1 a2 w)
set_option maxRecDepth 100000 in
set_option maxHeartbeats 4000000 in
theorem ce_X11_isThinkable (X : Xt) (a1 : Int32) (a2 : Int32) (w : Wd) : E (gRI w) X m_X11_isThinkable 2 0 [(0, .ref (xa X 0)), (1, .int a1), (2, .int a2)] [] w (f_X11_isThinkable a1 a2 w) := by
  unfold f_X11_isThinkable
  refine e_iload_n (pc := 0) dX11_isThinkable_0 1 rfl rfl ?_
  refine e_callSRI (pc := 1) (As := [.int a1]) (rest := []) (cf_X11_isShelf X a1 w) lk_X11_101 (Nat.le_of_ble_eq_true rfl) (Nat.le_of_ble_eq_true rfl) rfl rfl (Nat.le_of_ble_eq_true rfl) dX11_isThinkable_1 (fun r1 => ?_)
  refine e_if_eq (pc := 4) (tgt := 30) dX11_isThinkable_4 (by decide) (fun _ => ?_) (fun _ => ?_)
  · refine e_iconst (pc := 30) (v := (0 : Int32)) dX11_isThinkable_30 ic_0 ?_
    exact e_zretR0 rfl (by decide) dX11_isThinkable_31
  · refine e_iload_n (pc := 7) dX11_isThinkable_7 2 rfl rfl ?_
    refine e_callSRI (pc := 8) (As := [.int a2]) (rest := []) (cf_X11_isBag X a2 w) lk_X11_178 (Nat.le_of_ble_eq_true rfl) (Nat.le_of_ble_eq_true rfl) rfl rfl (Nat.le_of_ble_eq_true rfl) dX11_isThinkable_8 (fun r2 => ?_)
    refine e_if_eq (pc := 11) (tgt := 30) dX11_isThinkable_11 (by decide) (fun _ => ?_) (fun _ => ?_)
    · refine e_iconst (pc := 30) (v := (0 : Int32)) dX11_isThinkable_30 ic_0 ?_
      exact e_zretR0 rfl (by decide) dX11_isThinkable_31
    · refine e_aload_n (pc := 14) dX11_isThinkable_14 0 rfl rfl ?_
      refine g_R (pc := 15) (cl' := 12) kk0 fl_X11_25 rfl dX11_isThinkable_15 ?_
      refine e_iload_n (pc := 18) dX11_isThinkable_18 1 rfl rfl ?_
      refine e_aald (pc := 19) kk12 dX11_isThinkable_19 (fun c3 hc3 => ?_)
      refine e_callVRI (pc := 20) (As := []) (rest := []) hc3.1 Kc9 (cf_X9_isBytes X c3 hc3 w) lk_X11_109 (Nat.le_of_ble_eq_true rfl) (Nat.le_of_ble_eq_true rfl) rfl rfl (Nat.le_of_ble_eq_true rfl) dX11_isThinkable_20 (fun r4 => ?_)
      refine e_if_eq (pc := 23) (tgt := 30) dX11_isThinkable_23 (by decide) (fun _ => ?_) (fun _ => ?_)
      · refine e_iconst (pc := 30) (v := (0 : Int32)) dX11_isThinkable_30 ic_0 ?_
        exact e_zretR0 rfl (by decide) dX11_isThinkable_31
      · refine e_iconst (pc := 26) (v := (1 : Int32)) dX11_isThinkable_26 ic_1 ?_
        refine e_goto (pc := 27) (tgt := 31) dX11_isThinkable_27 (by decide) ?_
        exact e_zretR0 rfl (by decide) dX11_isThinkable_31
theorem cf_X11_isThinkable (X : Xt) (a1 : Int32) (a2 : Int32) (w : Wd) : CF (gRI w) X m_X11_isThinkable 2 [.ref (xa X 0), .int a1, .int a2] w (f_X11_isThinkable a1 a2 w) := CF_of (by decide) (Nat.le_of_ble_eq_true rfl) (ce_X11_isThinkable X a1 a2 w)
set_option maxRecDepth 100000 in
set_option maxHeartbeats 4000000 in
theorem ce_X11_isPart (X : Xt) (a0 : Int32) (w : Wd) : E (gRI w) X m_X11_isPart 1 0 [(0, .int a0)] [] w (f_X11_isPart a0) := by
  unfold f_X11_isPart
  refine e_iload_n (pc := 0) dX11_isPart_0 0 rfl rfl ?_
  refine e_if_eq (pc := 1) (tgt := 9) dX11_isPart_1 (by decide) (fun _ => ?_) (fun _ => ?_)
  · refine e_iconst (pc := 9) (v := (1 : Int32)) dX11_isPart_9 ic_1 ?_
    refine e_goto (pc := 10) (tgt := 14) dX11_isPart_10 (by decide) ?_
    exact e_zretR0 rfl (by decide) dX11_isPart_14
  · refine e_iload_n (pc := 4) dX11_isPart_4 0 rfl rfl ?_
    refine e_iconst (pc := 5) (v := (1 : Int32)) dX11_isPart_5 ic_1 ?_
    refine e_icmp_ne (pc := 6) (tgt := 13) dX11_isPart_6 (by decide) (fun _ => ?_) (fun _ => ?_)
    · refine e_iconst (pc := 9) (v := (1 : Int32)) dX11_isPart_9 ic_1 ?_
      refine e_goto (pc := 10) (tgt := 14) dX11_isPart_10 (by decide) ?_
      exact e_zretR0 rfl (by decide) dX11_isPart_14
    · refine e_iconst (pc := 13) (v := (0 : Int32)) dX11_isPart_13 ic_0 ?_
      exact e_zretR0 rfl (by decide) dX11_isPart_14
theorem cf_X11_isPart (X : Xt) (a0 : Int32) (w : Wd) : CF (gRI w) X m_X11_isPart 1 [.int a0] w (f_X11_isPart a0) := CF_of (by decide) (Nat.le_of_ble_eq_true rfl) (ce_X11_isPart X a0 w)
set_option maxRecDepth 100000 in
set_option maxHeartbeats 4000000 in
theorem cb_X11_think_b35_y (X : Xt) (k35 : Int32 → Wd → Option (Int32 × Wd)) (hk35 : ∀ (x3 : Int32)  (w : Wd), E gWI X m_X11_think 6 35 [(0, .ref (xa X 0)), (3, .int x3)] [] w (k35 x3 w)) (x3 : Int32) (w : Wd) : E gWI X m_X11_think 6 35 [(0, .ref (xa X 0)), (3, .int x3)] [] w (f_X11_think_b35_y k35 x3 w) := by
  unfold f_X11_think_b35_y
  refine e_iload_n (pc := 35) dX11_think_35 1 rfl rfl ?_
  refine e_aload_n (pc := 36) dX11_think_36 0 rfl rfl ?_
  refine g_R (pc := 37) (cl' := 13) kk0 fl_X11_32 rfl dX11_think_37 ?_
  refine g_I (pc := 40) kk13 fl_X11_269 dX11_think_40 ?_
  refine e_icmp_ge (pc := 43) (tgt := 81) dX11_think_43 (by decide) (fun _ => ?_) (fun _ => ?_)
  · refine e_aload_n (pc := 81) dX11_think_81 0 rfl rfl ?_
    refine g_R (pc := 82) (cl' := 13) kk0 fl_X11_32 rfl dX11_think_82 ?_
    refine g_I (pc := 85) kk13 fl_X11_269 dX11_think_85 ?_
    exact e_iretW rfl dX11_think_88
  · refine e_aload_n (pc := 46) dX11_think_46 0 rfl rfl ?_
    refine g_R (pc := 47) (cl' := 16) kk0 fl_X11_39 rfl dX11_think_47 ?_
    refine e_iload_n (pc := 50) dX11_think_50 1 rfl rfl ?_
    refine e_aload_n (pc := 51) dX11_think_51 0 rfl rfl ?_
    refine e_aload_n (pc := 52) dX11_think_52 0 rfl rfl ?_
    refine g_R (pc := 53) (cl' := 13) kk0 fl_X11_32 rfl dX11_think_53 ?_
    refine e_iload_n (pc := 56) dX11_think_56 1 rfl rfl ?_
    refine e_callVRI (pc := 57) (As := [.int x3]) (rest := [.ref (xa X 0), .int x3, .ref (xa X 16)]) kk13 Kc5 (cf_X5_by X x3 w) lk_X11_272 (Nat.le_of_ble_eq_true rfl) (Nat.le_of_ble_eq_true rfl) rfl rfl (Nat.le_of_ble_eq_true rfl) dX11_think_57 (fun r4 => ?_)
    refine e_iload_n (pc := 60) dX11_think_60 1 rfl rfl ?_
    refine e_callVWI (pc := 61) (As := [.int r4, .int x3]) (rest := [.int x3, .ref (xa X 16)]) kk0 Kc11 (cf_X11_twelfths X r4 x3 w) lk_X11_139 (Nat.le_of_ble_eq_true rfl) (Nat.le_of_ble_eq_true rfl) rfl rfl (Nat.le_of_ble_eq_true rfl) dX11_think_61 (fun r5 w6 => ?_)
    refine e_aload_n (pc := 64) dX11_think_64 0 rfl rfl ?_
    refine g_R (pc := 65) (cl' := 13) kk0 fl_X11_32 rfl dX11_think_65 ?_
    refine e_iload_n (pc := 68) dX11_think_68 1 rfl rfl ?_
    refine e_callVRI (pc := 69) (As := [.int x3]) (rest := [.int r5, .int x3, .ref (xa X 16)]) kk13 Kc5 (cf_X5_found X x3 w6) lk_X11_434 (Nat.le_of_ble_eq_true rfl) (Nat.le_of_ble_eq_true rfl) rfl rfl (Nat.le_of_ble_eq_true rfl) dX11_think_69 (fun r7 => ?_)
    refine e_callVWV (pc := 72) (As := [.int x3, .int r5, .int r7]) (rest := []) kk16 Kc1 (cf_X1_step X 16 x3 r5 r7 hk_isCh_16 w6) lk_X11_436 (Nat.le_of_ble_eq_true rfl) (Nat.le_of_ble_eq_true rfl) rfl rfl (Nat.le_of_ble_eq_true rfl) dX11_think_72 (fun w8 => ?_)
    refine e_iinc (pc := 75) (lv' := [(3, .int (x3 + (1 : Int32))), (0, .ref (xa X 0))]) dX11_think_75 1 rfl (ii_1 _) (Nat.le_of_ble_eq_true rfl) rfl ?_
    refine e_goto (pc := 78) (tgt := 35) dX11_think_78 (by decide) ?_
    refine e_lv [1, 0] rfl ?_
    exact hk35 (x3 + (1 : Int32)) w8
theorem cb_X11_think_b35 (X : Xt) : ∀ (n : Nat) (x3 : Int32) (w : Wd), E gWI X m_X11_think 6 35 [(0, .ref (xa X 0)), (3, .int x3)] [] w (f_X11_think_b35 n x3 w) := by
  intro n
  induction n with
  | zero =>
    intro x3 w
    exact E_none
  | succ n ih =>
    intro x3 w
    exact cb_X11_think_b35_y X _ ih x3 w
set_option maxRecDepth 100000 in
set_option maxHeartbeats 4000000 in
theorem ce_X11_think (X : Xt) (a1 : Int32) (a2 : Int32) (w : Wd) : E gWI X m_X11_think 6 0 [(0, .ref (xa X 0)), (1, .int a1), (2, .int a2)] [] w (f_X11_think a1 a2 w) := by
  unfold f_X11_think
  refine e_aload_n (pc := 0) dX11_think_0 0 rfl rfl ?_
  refine g_R (pc := 1) (cl' := 13) kk0 fl_X11_32 rfl dX11_think_1 ?_
  refine e_aload_n (pc := 4) dX11_think_4 0 rfl rfl ?_
  refine g_R (pc := 5) (cl' := 12) kk0 fl_X11_25 rfl dX11_think_5 ?_
  refine e_iload_n (pc := 8) dX11_think_8 1 rfl rfl ?_
  refine e_aald (pc := 9) kk12 dX11_think_9 (fun c1 hc1 => ?_)
  refine e_aload_n (pc := 10) dX11_think_10 0 rfl rfl ?_
  refine g_R (pc := 11) (cl' := 1) kk0 fl_X11_10 rfl dX11_think_11 ?_
  refine g_I (pc := 14) kk1 fl_X11_215 dX11_think_14 ?_
  refine e_iconst (pc := 17) (v := (0 : Int32)) dX11_think_17 ic_0 ?_
  refine e_callVWV (pc := 18) (As := [.ref (xa X c1), .int (gi w 1 1), .int (0 : Int32)]) (rest := []) kk13 Kc5 (cf_X5_read X c1 (gi w 1 1) (0 : Int32) hc1 w) lk_X11_259 (Nat.le_of_ble_eq_true rfl) (Nat.le_of_ble_eq_true rfl) rfl rfl (Nat.le_of_ble_eq_true rfl) dX11_think_18 (fun w2 => ?_)
  refine e_aload_n (pc := 21) dX11_think_21 0 rfl rfl ?_
  refine g_R (pc := 22) (cl' := 16) kk0 fl_X11_39 rfl dX11_think_22 ?_
  refine e_aload_n (pc := 25) dX11_think_25 0 rfl rfl ?_
  refine g_R (pc := 26) (cl' := 1) kk0 fl_X11_10 rfl dX11_think_26 ?_
  refine e_iload_n (pc := 29) dX11_think_29 2 rfl rfl ?_
  refine e_callVWV (pc := 30) (As := [.ref (xa X 1), .int a2]) (rest := []) kk16 Kc1 (cf_X1_begin X 16 a2 hk_isCh_16 w2) lk_X11_242 (Nat.le_of_ble_eq_true rfl) (Nat.le_of_ble_eq_true rfl) rfl rfl (Nat.le_of_ble_eq_true rfl) dX11_think_30 (fun w3 => ?_)
  refine e_iconst (pc := 33) (v := (0 : Int32)) dX11_think_33 ic_0 ?_
  refine e_istore_n (pc := 34) (lv' := [(3, .int (0 : Int32)), (0, .ref (xa X 0)), (1, .int a1), (2, .int a2)]) dX11_think_34 rfl (Nat.le_of_ble_eq_true rfl) rfl ?_
  refine e_lv [1, 0] rfl ?_
  exact cb_X11_think_b35 X fu (0 : Int32) w3
theorem cf_X11_think (X : Xt) (a1 : Int32) (a2 : Int32) (w : Wd) : CF gWI X m_X11_think 6 [.ref (xa X 0), .int a1, .int a2] w (f_X11_think a1 a2 w) := CF_of (by decide) (Nat.le_of_ble_eq_true rfl) (ce_X11_think X a1 a2 w)
set_option maxRecDepth 100000 in
set_option maxHeartbeats 4000000 in
theorem cb_X11_inLowest_b47 (X : Xt) (w : Wd) (x0 : Int64) (x2 : Int64) (x4 : Int32) (x5 : Int64) : E (gRL w) X m_X11_inLowest 1 47 [(0, .long x0), (2, .long x2), (4, .int x4), (5, .long x5)] [] w (f_X11_inLowest_b47 x0 x2 x4 x5) := by
  unfold f_X11_inLowest_b47
  refine e_lload (pc := 47) dX11_inLowest_47 3 rfl ?_
  refine e_lconst (pc := 49) (v := (0 : Int64)) dX11_inLowest_49 lc_0 ?_
  refine e_lcmp_ne (pc := 50) (tgt := 58) dX11_inLowest_50 dX11_inLowest_51 (by decide) (fun _ => ?_) (fun _ => ?_)
  · refine e_iload (pc := 54) dX11_inLowest_54 2 rfl ?_
    refine e_i2l (pc := 56) dX11_inLowest_56 ?_
    exact e_lretR rfl dX11_inLowest_57
  · refine e_iload (pc := 58) dX11_inLowest_58 2 rfl ?_
    refine e_if_ne (pc := 60) (tgt := 70) dX11_inLowest_60 (by decide) (fun _ => ?_) (fun _ => ?_)
    · refine e_lload_n (pc := 63) dX11_inLowest_63 0 rfl rfl ?_
      refine e_lload (pc := 64) dX11_inLowest_64 3 rfl ?_
      refine e_ldivG (pc := 66) dX11_inLowest_66 (fun v3 => ?_)
      refine e_goto (pc := 67) (tgt := 74) dX11_inLowest_67 (by decide) ?_
      exact e_lretR rfl dX11_inLowest_74
    · refine e_lload_n (pc := 70) dX11_inLowest_70 1 rfl rfl ?_
      refine e_lload (pc := 71) dX11_inLowest_71 3 rfl ?_
      refine e_ldivG (pc := 73) dX11_inLowest_73 (fun v2 => ?_)
      exact e_lretR rfl dX11_inLowest_74
set_option maxRecDepth 100000 in
set_option maxHeartbeats 4000000 in
theorem cb_X11_inLowest_b12_y (X : Xt) (w : Wd) (k12 : Int64 → Int64 → Int32 → Int64 → Int64 → Int32 → Option Int64) (hk12 : ∀ (x0 : Int64) (x2 : Int64) (x4 : Int32) (x5 : Int64) (x7 : Int64) (x9 : Int32), E (gRL w) X m_X11_inLowest 1 12 [(0, .long x0), (2, .long x2), (4, .int x4), (5, .long x5), (7, .long x7), (9, .int x9)] [] w (k12 x0 x2 x4 x5 x7 x9)) (x0 : Int64) (x2 : Int64) (x4 : Int32) (x5 : Int64) (x7 : Int64) (x9 : Int32) : E (gRL w) X m_X11_inLowest 1 12 [(0, .long x0), (2, .long x2), (4, .int x4), (5, .long x5), (7, .long x7), (9, .int x9)] [] w (f_X11_inLowest_b12_y k12 x0 x2 x4 x5 x7 x9) := by
  unfold f_X11_inLowest_b12_y
  refine e_iload (pc := 12) dX11_inLowest_12 5 rfl ?_
  refine e_bipush (pc := 14) (v := (100 : Int32)) dX11_inLowest_14 bp_100 ?_
  refine e_icmp_ge (pc := 16) (tgt := 47) dX11_inLowest_16 (by decide) (fun _ => ?_) (fun _ => ?_)
  · refine e_lv [0, 1, 2, 3] rfl ?_
    exact cb_X11_inLowest_b47 X w x0 x2 x4 x5
  · refine e_lload (pc := 19) dX11_inLowest_19 4 rfl ?_
    refine e_lconst (pc := 21) (v := (0 : Int64)) dX11_inLowest_21 lc_0 ?_
    refine e_lcmp_eq (pc := 22) (tgt := 47) dX11_inLowest_22 dX11_inLowest_23 (by decide) (fun _ => ?_) (fun _ => ?_)
    · refine e_lv [0, 1, 2, 3] rfl ?_
      exact cb_X11_inLowest_b47 X w x0 x2 x4 x5
    · refine e_lload (pc := 26) dX11_inLowest_26 3 rfl ?_
      refine e_lload (pc := 28) dX11_inLowest_28 4 rfl ?_
      refine e_lremG (pc := 30) dX11_inLowest_30 (fun v4 => ?_)
      refine e_lstore (pc := 31) (lv' := [(10, .long v4), (0, .long x0), (2, .long x2), (4, .int x4), (5, .long x5), (7, .long x7), (9, .int x9)]) dX11_inLowest_31 (Nat.le_of_ble_eq_true rfl) rfl ?_
      refine e_lload (pc := 33) dX11_inLowest_33 5 rfl ?_
      refine e_lstore (pc := 35) (lv' := [(5, .long x7), (10, .long v4), (0, .long x0), (2, .long x2), (4, .int x4), (7, .long x7), (9, .int x9)]) dX11_inLowest_35 (Nat.le_of_ble_eq_true rfl) rfl ?_
      refine e_lload (pc := 37) dX11_inLowest_37 1 rfl ?_
      refine e_lstore (pc := 39) (lv' := [(7, .long v4), (5, .long x7), (10, .long v4), (0, .long x0), (2, .long x2), (4, .int x4), (9, .int x9)]) dX11_inLowest_39 (Nat.le_of_ble_eq_true rfl) rfl ?_
      refine e_iinc (pc := 41) (lv' := [(9, .int (x9 + (1 : Int32))), (7, .long v4), (5, .long x7), (10, .long v4), (0, .long x0), (2, .long x2), (4, .int x4)]) dX11_inLowest_41 6 rfl (ii_1 _) (Nat.le_of_ble_eq_true rfl) rfl ?_
      refine e_goto (pc := 44) (tgt := 12) dX11_inLowest_44 (by decide) ?_
      refine e_lv [4, 5, 6, 2, 1, 0] rfl ?_
      exact hk12 x0 x2 x4 x7 v4 (x9 + (1 : Int32))
theorem cb_X11_inLowest_b12 (X : Xt) (w : Wd) : ∀ (n : Nat) (x0 : Int64) (x2 : Int64) (x4 : Int32) (x5 : Int64) (x7 : Int64) (x9 : Int32), E (gRL w) X m_X11_inLowest 1 12 [(0, .long x0), (2, .long x2), (4, .int x4), (5, .long x5), (7, .long x7), (9, .int x9)] [] w (f_X11_inLowest_b12 n x0 x2 x4 x5 x7 x9) := by
  intro n
  induction n with
  | zero =>
    intro x0 x2 x4 x5 x7 x9
    exact E_none
  | succ n ih =>
    intro x0 x2 x4 x5 x7 x9
    exact cb_X11_inLowest_b12_y X w _ ih x0 x2 x4 x5 x7 x9
set_option maxRecDepth 100000 in
set_option maxHeartbeats 4000000 in
theorem ce_X11_inLowest (X : Xt) (a0 : Int64) (a2 : Int64) (a4 : Int32) (w : Wd) : E (gRL w) X m_X11_inLowest 1 0 [(0, .long a0), (2, .long a2), (4, .int a4)] [] w (f_X11_inLowest a0 a2 a4) := by
  unfold f_X11_inLowest
  refine e_lload_n (pc := 0) dX11_inLowest_0 0 rfl rfl ?_
  refine e_labs (pc := 1) ml_X11_392 ms_abs mi_Math mc_abs (Nat.le_of_ble_eq_true rfl) (Nat.le_of_ble_eq_true rfl) dX11_inLowest_1 ?_
  refine e_nameL (fun y1 => ?_)
  refine e_lstore (pc := 4) (lv' := [(5, .long y1), (0, .long a0), (2, .long a2), (4, .int a4)]) dX11_inLowest_4 (Nat.le_of_ble_eq_true rfl) rfl ?_
  refine e_lload_n (pc := 6) dX11_inLowest_6 2 rfl rfl ?_
  refine e_lstore (pc := 7) (lv' := [(7, .long a2), (5, .long y1), (0, .long a0), (2, .long a2), (4, .int a4)]) dX11_inLowest_7 (Nat.le_of_ble_eq_true rfl) rfl ?_
  refine e_iconst (pc := 9) (v := (0 : Int32)) dX11_inLowest_9 ic_0 ?_
  refine e_istore (pc := 10) (lv' := [(9, .int (0 : Int32)), (7, .long a2), (5, .long y1), (0, .long a0), (2, .long a2), (4, .int a4)]) dX11_inLowest_10 (Nat.le_of_ble_eq_true rfl) rfl ?_
  refine e_lv [3, 4, 5, 2, 1, 0] rfl ?_
  exact cb_X11_inLowest_b12 X w fu a0 a2 a4 y1 a2 (0 : Int32)
theorem cf_X11_inLowest (X : Xt) (a0 : Int64) (a2 : Int64) (a4 : Int32) (w : Wd) : CF (gRL w) X m_X11_inLowest 1 [.long a0, .long a2, .int a4] w (f_X11_inLowest a0 a2 a4) := CF_of (by decide) (Nat.le_of_ble_eq_true rfl) (ce_X11_inLowest X a0 a2 a4 w)
set_option maxRecDepth 100000 in
set_option maxHeartbeats 4000000 in
theorem ce_X11_left (X : Xt) (a1 : Int32) (a2 : Int32) (a3 : Int32) (a4 : Int32) (w : Wd) : E gWL X m_X11_left 7 0 [(0, .ref (xa X 0)), (1, .int a1), (2, .int a2), (3, .int a3), (4, .int a4)] [] w (f_X11_left a1 a2 a3 a4 w) := by
  unfold f_X11_left
  refine e_aload_n (pc := 0) dX11_left_0 0 rfl rfl ?_
  refine e_iload_n (pc := 1) dX11_left_1 1 rfl rfl ?_
  refine e_iload_n (pc := 2) dX11_left_2 2 rfl rfl ?_
  refine e_callVRI (pc := 3) (As := [.int a1, .int a2]) (rest := []) kk0 Kc11 (cf_X11_isThinkable X a1 a2 w) lk_X11_142 (Nat.le_of_ble_eq_true rfl) (Nat.le_of_ble_eq_true rfl) rfl rfl (Nat.le_of_ble_eq_true rfl) dX11_left_3 (fun r1 => ?_)
  refine e_if_eq (pc := 6) (tgt := 26) dX11_left_6 (by decide) (fun _ => ?_) (fun _ => ?_)
  · refine e_ldc2 (pc := 26) (v := (-9223372036854775808 : Int64)) dX11_left_26 cl_X11_148 ?_
    exact e_lretW rfl dX11_left_29
  · refine e_iload_n (pc := 9) dX11_left_9 3 rfl rfl ?_
    refine e_if_lt (pc := 10) (tgt := 26) dX11_left_10 (by decide) (fun _ => ?_) (fun _ => ?_)
    · refine e_ldc2 (pc := 26) (v := (-9223372036854775808 : Int64)) dX11_left_26 cl_X11_148 ?_
      exact e_lretW rfl dX11_left_29
    · refine e_iload_n (pc := 13) dX11_left_13 3 rfl rfl ?_
      refine e_iconst (pc := 14) (v := (3 : Int32)) dX11_left_14 ic_3 ?_
      refine e_icmp_gt (pc := 15) (tgt := 26) dX11_left_15 (by decide) (fun _ => ?_) (fun _ => ?_)
      · refine e_ldc2 (pc := 26) (v := (-9223372036854775808 : Int64)) dX11_left_26 cl_X11_148 ?_
        exact e_lretW rfl dX11_left_29
      · refine e_iload (pc := 18) dX11_left_18 4 rfl ?_
        refine e_callSRI (pc := 20) (As := [.int a4]) (rest := []) (cf_X11_isPart X a4 w) lk_X11_145 (Nat.le_of_ble_eq_true rfl) (Nat.le_of_ble_eq_true rfl) rfl rfl (Nat.le_of_ble_eq_true rfl) dX11_left_20 (fun r2 => ?_)
        refine e_if_ne (pc := 23) (tgt := 30) dX11_left_23 (by decide) (fun _ => ?_) (fun _ => ?_)
        · refine e_ldc2 (pc := 26) (v := (-9223372036854775808 : Int64)) dX11_left_26 cl_X11_148 ?_
          exact e_lretW rfl dX11_left_29
        · refine e_aload_n (pc := 30) dX11_left_30 0 rfl rfl ?_
          refine e_iload_n (pc := 31) dX11_left_31 1 rfl rfl ?_
          refine e_iload_n (pc := 32) dX11_left_32 2 rfl rfl ?_
          refine e_callVWI (pc := 33) (As := [.int a1, .int a2]) (rest := []) kk0 Kc11 (cf_X11_think X a1 a2 w) lk_X11_150 (Nat.le_of_ble_eq_true rfl) (Nat.le_of_ble_eq_true rfl) rfl rfl (Nat.le_of_ble_eq_true rfl) dX11_left_33 (fun r3 w4 => ?_)
          refine e_istore (pc := 36) (lv' := [(5, .int r3), (0, .ref (xa X 0)), (1, .int a1), (2, .int a2), (3, .int a3), (4, .int a4)]) dX11_left_36 (Nat.le_of_ble_eq_true rfl) rfl ?_
          refine e_aload_n (pc := 38) dX11_left_38 1 rfl rfl ?_
          refine g_R (pc := 39) (cl' := 16) kk0 fl_X11_39 rfl dX11_left_39 ?_
          refine e_iload (pc := 42) dX11_left_42 0 rfl ?_
          refine e_callVRL (pc := 44) (As := [.int r3]) (rest := []) kk16 Kc1 (cf_X1_all X 16 r3 hk_isCh_16 w4) lk_X11_153 (Nat.le_of_ble_eq_true rfl) (Nat.le_of_ble_eq_true rfl) rfl rfl (Nat.le_of_ble_eq_true rfl) dX11_left_44 (fun r5 => ?_)
          refine e_lstore (pc := 47) (lv' := [(6, .long r5), (5, .int r3), (0, .ref (xa X 0)), (1, .int a1), (2, .int a2), (3, .int a3), (4, .int a4)]) dX11_left_47 (Nat.le_of_ble_eq_true rfl) rfl ?_
          refine e_lload (pc := 49) dX11_left_49 0 rfl ?_
          refine e_lconst (pc := 51) (v := (0 : Int64)) dX11_left_51 lc_0 ?_
          refine e_lcmp_ne (pc := 52) (tgt := 62) dX11_left_52 dX11_left_53 (by decide) (fun _ => ?_) (fun _ => ?_)
          · refine e_ldc2 (pc := 56) (v := (-2 : Int64)) dX11_left_56 cl_X11_157 ?_
            refine e_goto (pc := 59) (tgt := 79) dX11_left_59 (by decide) ?_
            exact e_lretW rfl dX11_left_79
          · refine e_aload_n (pc := 62) dX11_left_62 2 rfl rfl ?_
            refine g_R (pc := 63) (cl' := 16) kk0 fl_X11_39 rfl dX11_left_63 ?_
            refine e_iload (pc := 66) dX11_left_66 1 rfl ?_
            refine e_iload_n (pc := 68) dX11_left_68 5 rfl rfl ?_
            refine e_callVRL (pc := 69) (As := [.int r3, .int a3]) (rest := []) kk16 Kc1 (cf_X1_at X 16 r3 a3 hk_isCh_16 w4) lk_X11_159 (Nat.le_of_ble_eq_true rfl) (Nat.le_of_ble_eq_true rfl) rfl rfl (Nat.le_of_ble_eq_true rfl) dX11_left_69 (fun r6 => ?_)
            refine e_lload (pc := 72) dX11_left_72 0 rfl ?_
            refine e_iload (pc := 74) dX11_left_74 6 rfl ?_
            refine e_callSRL (pc := 76) (As := [.long r6, .long r5, .int a4]) (rest := []) (cf_X11_inLowest X r6 r5 a4 w4) lk_X11_163 (Nat.le_of_ble_eq_true rfl) (Nat.le_of_ble_eq_true rfl) rfl rfl (Nat.le_of_ble_eq_true rfl) dX11_left_76 (fun r7 => ?_)
            exact e_lretW rfl dX11_left_79
theorem cf_X11_left (X : Xt) (a1 : Int32) (a2 : Int32) (a3 : Int32) (a4 : Int32) (w : Wd) : CF gWL X m_X11_left 7 [.ref (xa X 0), .int a1, .int a2, .int a3, .int a4] w (f_X11_left a1 a2 a3 a4 w) := CF_of (by decide) (Nat.le_of_ble_eq_true rfl) (ce_X11_left X a1 a2 a3 a4 w)
set_option maxRecDepth 100000 in
set_option maxHeartbeats 4000000 in
theorem cb_X11_mean_b108 (X : Xt) (x4 : Int32) (x6 : Int64) (s0 : Int64) (w : Wd) : E gWL X m_X11_mean 7 108 [(4, .int x4), (6, .long x6)] [.long s0] w (f_X11_mean_b108 x4 x6 s0 w) := by
  unfold f_X11_mean_b108
  refine e_lload (pc := 108) dX11_mean_108 1 rfl ?_
  refine e_iload (pc := 110) dX11_mean_110 0 rfl ?_
  refine e_callSRL (pc := 112) (As := [.long s0, .long x6, .int x4]) (rest := []) (cf_X11_inLowest X s0 x6 x4 w) lk_X11_163 (Nat.le_of_ble_eq_true rfl) (Nat.le_of_ble_eq_true rfl) rfl rfl (Nat.le_of_ble_eq_true rfl) dX11_mean_112 (fun r7 => ?_)
  exact e_lretW rfl dX11_mean_115
set_option maxRecDepth 100000 in
set_option maxHeartbeats 4000000 in
theorem ce_X11_mean (X : Xt) (a1 : Int32) (a2 : Int32) (a3 : Int32) (a4 : Int32) (w : Wd) : E gWL X m_X11_mean 7 0 [(0, .ref (xa X 0)), (1, .int a1), (2, .int a2), (3, .int a3), (4, .int a4)] [] w (f_X11_mean a1 a2 a3 a4 w) := by
  unfold f_X11_mean
  refine e_aload_n (pc := 0) dX11_mean_0 0 rfl rfl ?_
  refine e_iload_n (pc := 1) dX11_mean_1 1 rfl rfl ?_
  refine e_iload_n (pc := 2) dX11_mean_2 2 rfl rfl ?_
  refine e_callVRI (pc := 3) (As := [.int a1, .int a2]) (rest := []) kk0 Kc11 (cf_X11_isThinkable X a1 a2 w) lk_X11_142 (Nat.le_of_ble_eq_true rfl) (Nat.le_of_ble_eq_true rfl) rfl rfl (Nat.le_of_ble_eq_true rfl) dX11_mean_3 (fun r1 => ?_)
  refine e_if_eq (pc := 6) (tgt := 26) dX11_mean_6 (by decide) (fun _ => ?_) (fun _ => ?_)
  · refine e_ldc2 (pc := 26) (v := (-9223372036854775808 : Int64)) dX11_mean_26 cl_X11_148 ?_
    exact e_lretW rfl dX11_mean_29
  · refine e_iload_n (pc := 9) dX11_mean_9 3 rfl rfl ?_
    refine e_if_lt (pc := 10) (tgt := 26) dX11_mean_10 (by decide) (fun _ => ?_) (fun _ => ?_)
    · refine e_ldc2 (pc := 26) (v := (-9223372036854775808 : Int64)) dX11_mean_26 cl_X11_148 ?_
      exact e_lretW rfl dX11_mean_29
    · refine e_iload_n (pc := 13) dX11_mean_13 3 rfl rfl ?_
      refine e_iconst (pc := 14) (v := (2 : Int32)) dX11_mean_14 ic_2 ?_
      refine e_icmp_gt (pc := 15) (tgt := 26) dX11_mean_15 (by decide) (fun _ => ?_) (fun _ => ?_)
      · refine e_ldc2 (pc := 26) (v := (-9223372036854775808 : Int64)) dX11_mean_26 cl_X11_148 ?_
        exact e_lretW rfl dX11_mean_29
      · refine e_iload (pc := 18) dX11_mean_18 4 rfl ?_
        refine e_callSRI (pc := 20) (As := [.int a4]) (rest := []) (cf_X11_isPart X a4 w) lk_X11_145 (Nat.le_of_ble_eq_true rfl) (Nat.le_of_ble_eq_true rfl) rfl rfl (Nat.le_of_ble_eq_true rfl) dX11_mean_20 (fun r2 => ?_)
        refine e_if_ne (pc := 23) (tgt := 30) dX11_mean_23 (by decide) (fun _ => ?_) (fun _ => ?_)
        · refine e_ldc2 (pc := 26) (v := (-9223372036854775808 : Int64)) dX11_mean_26 cl_X11_148 ?_
          exact e_lretW rfl dX11_mean_29
        · refine e_aload_n (pc := 30) dX11_mean_30 0 rfl rfl ?_
          refine e_iload_n (pc := 31) dX11_mean_31 1 rfl rfl ?_
          refine e_iload_n (pc := 32) dX11_mean_32 2 rfl rfl ?_
          refine e_callVWI (pc := 33) (As := [.int a1, .int a2]) (rest := []) kk0 Kc11 (cf_X11_think X a1 a2 w) lk_X11_150 (Nat.le_of_ble_eq_true rfl) (Nat.le_of_ble_eq_true rfl) rfl rfl (Nat.le_of_ble_eq_true rfl) dX11_mean_33 (fun r3 w4 => ?_)
          refine e_istore (pc := 36) (lv' := [(5, .int r3), (0, .ref (xa X 0)), (1, .int a1), (2, .int a2), (3, .int a3), (4, .int a4)]) dX11_mean_36 (Nat.le_of_ble_eq_true rfl) rfl ?_
          refine e_aload_n (pc := 38) dX11_mean_38 1 rfl rfl ?_
          refine g_R (pc := 39) (cl' := 16) kk0 fl_X11_39 rfl dX11_mean_39 ?_
          refine e_iload (pc := 42) dX11_mean_42 0 rfl ?_
          refine e_callVRL (pc := 44) (As := [.int r3]) (rest := []) kk16 Kc1 (cf_X1_all X 16 r3 hk_isCh_16 w4) lk_X11_153 (Nat.le_of_ble_eq_true rfl) (Nat.le_of_ble_eq_true rfl) rfl rfl (Nat.le_of_ble_eq_true rfl) dX11_mean_44 (fun r5 => ?_)
          refine e_lstore (pc := 47) (lv' := [(6, .long r5), (5, .int r3), (0, .ref (xa X 0)), (1, .int a1), (2, .int a2), (3, .int a3), (4, .int a4)]) dX11_mean_47 (Nat.le_of_ble_eq_true rfl) rfl ?_
          refine e_iload_n (pc := 49) dX11_mean_49 5 rfl rfl ?_
          refine e_iconst (pc := 50) (v := (2 : Int32)) dX11_mean_50 ic_2 ?_
          refine e_icmp_ne (pc := 51) (tgt := 71) dX11_mean_51 (by decide) (fun _ => ?_) (fun _ => ?_)
          · refine e_lload (pc := 54) dX11_mean_54 0 rfl ?_
            refine e_aload_n (pc := 56) dX11_mean_56 2 rfl rfl ?_
            refine g_R (pc := 57) (cl' := 16) kk0 fl_X11_39 rfl dX11_mean_57 ?_
            refine e_iload (pc := 60) dX11_mean_60 1 rfl ?_
            refine e_callVRL (pc := 62) (As := [.int r3]) (rest := [.long r5]) kk16 Kc1 (cf_X1_allAhead X 16 r3 hk_isCh_16 w4) lk_X11_167 (Nat.le_of_ble_eq_true rfl) (Nat.le_of_ble_eq_true rfl) rfl rfl (Nat.le_of_ble_eq_true rfl) dX11_mean_62 (fun r9 => ?_)
            refine e_iload (pc := 65) dX11_mean_65 6 rfl ?_
            refine e_callSRL (pc := 67) (As := [.long r5, .long r9, .int a4]) (rest := []) (cf_X11_inLowest X r5 r9 a4 w4) lk_X11_163 (Nat.le_of_ble_eq_true rfl) (Nat.le_of_ble_eq_true rfl) rfl rfl (Nat.le_of_ble_eq_true rfl) dX11_mean_67 (fun r10 => ?_)
            exact e_lretW rfl dX11_mean_70
          · refine e_lload (pc := 71) dX11_mean_71 0 rfl ?_
            refine e_lconst (pc := 73) (v := (0 : Int64)) dX11_mean_73 lc_0 ?_
            refine e_lcmp_ne (pc := 74) (tgt := 82) dX11_mean_74 dX11_mean_75 (by decide) (fun _ => ?_) (fun _ => ?_)
            · refine e_ldc2 (pc := 78) (v := (-2 : Int64)) dX11_mean_78 cl_X11_157 ?_
              exact e_lretW rfl dX11_mean_81
            · refine e_iload_n (pc := 82) dX11_mean_82 5 rfl rfl ?_
              refine e_if_ne (pc := 83) (tgt := 98) dX11_mean_83 (by decide) (fun _ => ?_) (fun _ => ?_)
              · refine e_aload_n (pc := 86) dX11_mean_86 2 rfl rfl ?_
                refine g_R (pc := 87) (cl' := 16) kk0 fl_X11_39 rfl dX11_mean_87 ?_
                refine e_iload (pc := 90) dX11_mean_90 1 rfl ?_
                refine e_callVRL (pc := 92) (As := [.int r3]) (rest := []) kk16 Kc1 (cf_X1_stones X 16 r3 hk_isCh_16 w4) lk_X11_170 (Nat.le_of_ble_eq_true rfl) (Nat.le_of_ble_eq_true rfl) rfl rfl (Nat.le_of_ble_eq_true rfl) dX11_mean_92 (fun r8 => ?_)
                refine e_goto (pc := 95) (tgt := 108) dX11_mean_95 (by decide) ?_
                refine e_lv [6, 0] rfl ?_
                exact cb_X11_mean_b108 X a4 r5 r8 w4
              · refine e_aload_n (pc := 98) dX11_mean_98 2 rfl rfl ?_
                refine g_R (pc := 99) (cl' := 16) kk0 fl_X11_39 rfl dX11_mean_99 ?_
                refine e_iload (pc := 102) dX11_mean_102 1 rfl ?_
                refine e_iconst (pc := 104) (v := (0 : Int32)) dX11_mean_104 ic_0 ?_
                refine e_callVRL (pc := 105) (As := [.int r3, .int (0 : Int32)]) (rest := []) kk16 Kc1 (cf_X1_at X 16 r3 (0 : Int32) hk_isCh_16 w4) lk_X11_159 (Nat.le_of_ble_eq_true rfl) (Nat.le_of_ble_eq_true rfl) rfl rfl (Nat.le_of_ble_eq_true rfl) dX11_mean_105 (fun r6 => ?_)
                refine e_lv [6, 0] rfl ?_
                exact cb_X11_mean_b108 X a4 r5 r6 w4
theorem cf_X11_mean (X : Xt) (a1 : Int32) (a2 : Int32) (a3 : Int32) (a4 : Int32) (w : Wd) : CF gWL X m_X11_mean 7 [.ref (xa X 0), .int a1, .int a2, .int a3, .int a4] w (f_X11_mean a1 a2 a3 a4 w) := CF_of (by decide) (Nat.le_of_ble_eq_true rfl) (ce_X11_mean X a1 a2 a3 a4 w)
set_option maxRecDepth 100000 in
set_option maxHeartbeats 4000000 in
theorem cb_X11_gain_b46 (X : Xt) (x2 : Int32) (x3 : Int32) (s0 : Int32) (w : Wd) : E gWL X m_X11_gain 6 46 [(0, .ref (xa X 0)), (2, .int x2), (3, .int x3)] [.int s0] w (f_X11_gain_b46 x2 x3 s0 w) := by
  unfold f_X11_gain_b46
  refine e_istore (pc := 46) (lv' := [(4, .int s0), (0, .ref (xa X 0)), (2, .int x2), (3, .int x3)]) dX11_gain_46 (Nat.le_of_ble_eq_true rfl) rfl ?_
  refine e_aload_n (pc := 48) dX11_gain_48 1 rfl rfl ?_
  refine g_R (pc := 49) (cl' := 1) kk0 fl_X11_10 rfl dX11_gain_49 ?_
  refine e_iconst (pc := 52) (v := (0 : Int32)) dX11_gain_52 ic_0 ?_
  refine e_bipush (pc := 53) (v := (10 : Int32)) dX11_gain_53 bp_10 ?_
  refine e_callVRI (pc := 55) (As := [.int (0 : Int32), .int (10 : Int32)]) (rest := []) kk1 Kc6 (cf_X6_get X (0 : Int32) (10 : Int32) w) lk_X11_122 (Nat.le_of_ble_eq_true rfl) (Nat.le_of_ble_eq_true rfl) rfl rfl (Nat.le_of_ble_eq_true rfl) dX11_gain_55 (fun r4 => ?_)
  refine e_iload_n (pc := 58) dX11_gain_58 3 rfl rfl ?_
  refine e_imul (pc := 59) dX11_gain_59 ?_
  refine e_i2l (pc := 60) dX11_gain_60 ?_
  refine e_aload_n (pc := 61) dX11_gain_61 1 rfl rfl ?_
  refine g_R (pc := 62) (cl' := 16) kk0 fl_X11_39 rfl dX11_gain_62 ?_
  refine e_iload_n (pc := 65) dX11_gain_65 2 rfl rfl ?_
  refine e_callVRL (pc := 66) (As := [.int x2]) (rest := [.long (Int32.toInt64 (r4 * x3))]) kk16 Kc1 (cf_X1_stones X 16 x2 hk_isCh_16 w) lk_X11_170 (Nat.le_of_ble_eq_true rfl) (Nat.le_of_ble_eq_true rfl) rfl rfl (Nat.le_of_ble_eq_true rfl) dX11_gain_66 (fun r5 => ?_)
  refine e_lmul (pc := 69) dX11_gain_69 ?_
  refine e_bipush (pc := 70) (v := (12 : Int32)) dX11_gain_70 bp_12 ?_
  refine e_iload (pc := 72) dX11_gain_72 0 rfl ?_
  refine e_imul (pc := 74) dX11_gain_74 ?_
  refine e_i2l (pc := 75) dX11_gain_75 ?_
  refine e_aload_n (pc := 76) dX11_gain_76 1 rfl rfl ?_
  refine g_R (pc := 77) (cl' := 16) kk0 fl_X11_39 rfl dX11_gain_77 ?_
  refine e_iload_n (pc := 80) dX11_gain_80 2 rfl rfl ?_
  refine e_callVRL (pc := 81) (As := [.int x2]) (rest := [.long (Int32.toInt64 ((12 : Int32) * s0)), .long ((Int32.toInt64 (r4 * x3)) * r5)]) kk16 Kc1 (cf_X1_all X 16 x2 hk_isCh_16 w) lk_X11_153 (Nat.le_of_ble_eq_true rfl) (Nat.le_of_ble_eq_true rfl) rfl rfl (Nat.le_of_ble_eq_true rfl) dX11_gain_81 (fun r6 => ?_)
  refine e_lmul (pc := 84) dX11_gain_84 ?_
  refine e_lsub (pc := 85) dX11_gain_85 ?_
  exact e_lretW rfl dX11_gain_86
set_option maxRecDepth 100000 in
set_option maxHeartbeats 4000000 in
theorem cb_X11_gain_b25 (X : Xt) (x1 : Int32) (x2 : Int32) (s0 : Int32) (w : Wd) : E gWL X m_X11_gain 6 25 [(0, .ref (xa X 0)), (1, .int x1), (2, .int x2)] [.int s0] w (f_X11_gain_b25 x1 x2 s0 w) := by
  unfold f_X11_gain_b25
  refine e_istore_n (pc := 25) (lv' := [(3, .int s0), (0, .ref (xa X 0)), (1, .int x1), (2, .int x2)]) dX11_gain_25 rfl (Nat.le_of_ble_eq_true rfl) rfl ?_
  refine e_iload_n (pc := 26) dX11_gain_26 2 rfl rfl ?_
  refine e_bipush (pc := 27) (v := (6 : Int32)) dX11_gain_27 bp_6 ?_
  refine e_icmp_ne (pc := 29) (tgt := 36) dX11_gain_29 (by decide) (fun _ => ?_) (fun _ => ?_)
  · refine e_iconst (pc := 32) (v := (1 : Int32)) dX11_gain_32 ic_1 ?_
    refine e_goto (pc := 33) (tgt := 46) dX11_gain_33 (by decide) ?_
    refine e_lv [1, 3, 0] rfl ?_
    exact cb_X11_gain_b46 X x2 s0 (1 : Int32) w
  · refine e_aload_n (pc := 36) dX11_gain_36 1 rfl rfl ?_
    refine g_R (pc := 37) (cl' := 1) kk0 fl_X11_10 rfl dX11_gain_37 ?_
    refine e_iload_n (pc := 40) dX11_gain_40 2 rfl rfl ?_
    refine e_bipush (pc := 41) (v := (6 : Int32)) dX11_gain_41 bp_6 ?_
    refine e_callVRI (pc := 43) (As := [.int x1, .int (6 : Int32)]) (rest := []) kk1 Kc6 (cf_X6_get X x1 (6 : Int32) w) lk_X11_122 (Nat.le_of_ble_eq_true rfl) (Nat.le_of_ble_eq_true rfl) rfl rfl (Nat.le_of_ble_eq_true rfl) dX11_gain_43 (fun r3 => ?_)
    refine e_lv [1, 3, 0] rfl ?_
    exact cb_X11_gain_b46 X x2 s0 r3 w
set_option maxRecDepth 100000 in
set_option maxHeartbeats 4000000 in
theorem ce_X11_gain (X : Xt) (a1 : Int32) (a2 : Int32) (w : Wd) : E gWL X m_X11_gain 6 0 [(0, .ref (xa X 0)), (1, .int a1), (2, .int a2)] [] w (f_X11_gain a1 a2 w) := by
  unfold f_X11_gain
  refine e_iload_n (pc := 0) dX11_gain_0 1 rfl rfl ?_
  refine e_bipush (pc := 1) (v := (6 : Int32)) dX11_gain_1 bp_6 ?_
  refine e_icmp_ne (pc := 3) (tgt := 19) dX11_gain_3 (by decide) (fun _ => ?_) (fun _ => ?_)
  · refine e_aload_n (pc := 6) dX11_gain_6 0 rfl rfl ?_
    refine g_R (pc := 7) (cl' := 1) kk0 fl_X11_10 rfl dX11_gain_7 ?_
    refine e_iconst (pc := 10) (v := (0 : Int32)) dX11_gain_10 ic_0 ?_
    refine e_bipush (pc := 11) (v := (11 : Int32)) dX11_gain_11 bp_11 ?_
    refine e_callVRI (pc := 13) (As := [.int (0 : Int32), .int (11 : Int32)]) (rest := []) kk1 Kc6 (cf_X6_get X (0 : Int32) (11 : Int32) w) lk_X11_122 (Nat.le_of_ble_eq_true rfl) (Nat.le_of_ble_eq_true rfl) rfl rfl (Nat.le_of_ble_eq_true rfl) dX11_gain_13 (fun r7 => ?_)
    refine e_goto (pc := 16) (tgt := 25) dX11_gain_16 (by decide) ?_
    refine e_lv [0, 1, 2] rfl ?_
    exact cb_X11_gain_b25 X a1 a2 r7 w
  · refine e_aload_n (pc := 19) dX11_gain_19 0 rfl rfl ?_
    refine e_iload_n (pc := 20) dX11_gain_20 1 rfl rfl ?_
    refine e_iload_n (pc := 21) dX11_gain_21 2 rfl rfl ?_
    refine e_callVWI (pc := 22) (As := [.int a1, .int a2]) (rest := []) kk0 Kc11 (cf_X11_twelfths X a1 a2 w) lk_X11_139 (Nat.le_of_ble_eq_true rfl) (Nat.le_of_ble_eq_true rfl) rfl rfl (Nat.le_of_ble_eq_true rfl) dX11_gain_22 (fun r1 w2 => ?_)
    refine e_lv [0, 1, 2] rfl ?_
    exact cb_X11_gain_b25 X a1 a2 r1 w2
theorem cf_X11_gain (X : Xt) (a1 : Int32) (a2 : Int32) (w : Wd) : CF gWL X m_X11_gain 6 [.ref (xa X 0), .int a1, .int a2] w (f_X11_gain a1 a2 w) := CF_of (by decide) (Nat.le_of_ble_eq_true rfl) (ce_X11_gain X a1 a2 w)
set_option maxRecDepth 100000 in
set_option maxHeartbeats 4000000 in
theorem cb_X11_worth_b56 (X : Xt) (x1 : Int32) (x2 : Int32) (x3 : Int32) (x4 : Int32) (w : Wd) : E gWL X m_X11_worth 7 56 [(0, .ref (xa X 0)), (1, .int x1), (2, .int x2), (3, .int x3), (4, .int x4)] [] w (f_X11_worth_b56 x1 x2 x3 x4 w) := by
  unfold f_X11_worth_b56
  refine e_aload_n (pc := 56) dX11_worth_56 0 rfl rfl ?_
  refine e_iload_n (pc := 57) dX11_worth_57 1 rfl rfl ?_
  refine e_iload_n (pc := 58) dX11_worth_58 2 rfl rfl ?_
  refine e_bipush (pc := 59) (v := (10 : Int32)) dX11_worth_59 bp_10 ?_
  refine e_idiv (pc := 61) dX11_worth_61 (by decide) ?_
  refine e_callVWI (pc := 62) (As := [.int x1, .int (x2 / (10 : Int32))]) (rest := []) kk0 Kc11 (cf_X11_think X x1 (x2 / (10 : Int32)) w) lk_X11_150 (Nat.le_of_ble_eq_true rfl) (Nat.le_of_ble_eq_true rfl) rfl rfl (Nat.le_of_ble_eq_true rfl) dX11_worth_62 (fun r4 w5 => ?_)
  refine e_istore (pc := 65) (lv' := [(5, .int r4), (0, .ref (xa X 0)), (1, .int x1), (2, .int x2), (3, .int x3), (4, .int x4)]) dX11_worth_65 (Nat.le_of_ble_eq_true rfl) rfl ?_
  refine e_aload_n (pc := 67) dX11_worth_67 1 rfl rfl ?_
  refine g_R (pc := 68) (cl' := 16) kk0 fl_X11_39 rfl dX11_worth_68 ?_
  refine e_iload (pc := 71) dX11_worth_71 0 rfl ?_
  refine e_callVRL (pc := 73) (As := [.int r4]) (rest := []) kk16 Kc1 (cf_X1_all X 16 r4 hk_isCh_16 w5) lk_X11_153 (Nat.le_of_ble_eq_true rfl) (Nat.le_of_ble_eq_true rfl) rfl rfl (Nat.le_of_ble_eq_true rfl) dX11_worth_73 (fun r6 => ?_)
  refine e_lstore (pc := 76) (lv' := [(6, .long r6), (5, .int r4), (0, .ref (xa X 0)), (1, .int x1), (2, .int x2), (3, .int x3), (4, .int x4)]) dX11_worth_76 (Nat.le_of_ble_eq_true rfl) rfl ?_
  refine e_lload (pc := 78) dX11_worth_78 0 rfl ?_
  refine e_lconst (pc := 80) (v := (0 : Int64)) dX11_worth_80 lc_0 ?_
  refine e_lcmp_ne (pc := 81) (tgt := 91) dX11_worth_81 dX11_worth_82 (by decide) (fun _ => ?_) (fun _ => ?_)
  · refine e_ldc2 (pc := 85) (v := (-2 : Int64)) dX11_worth_85 cl_X11_157 ?_
    refine e_goto (pc := 88) (tgt := 109) dX11_worth_88 (by decide) ?_
    exact e_lretW rfl dX11_worth_109
  · refine e_aload_n (pc := 91) dX11_worth_91 2 rfl rfl ?_
    refine e_iload (pc := 92) dX11_worth_92 6 rfl ?_
    refine e_iload (pc := 94) dX11_worth_94 1 rfl ?_
    refine e_callVWL (pc := 96) (As := [.int x4, .int r4]) (rest := []) kk0 Kc11 (cf_X11_gain X x4 r4 w5) lk_X11_173 (Nat.le_of_ble_eq_true rfl) (Nat.le_of_ble_eq_true rfl) rfl rfl (Nat.le_of_ble_eq_true rfl) dX11_worth_96 (fun r7 w8 => ?_)
    refine e_ldc2 (pc := 99) (v := (12 : Int64)) dX11_worth_99 cl_X11_176 ?_
    refine e_lload (pc := 102) dX11_worth_102 0 rfl ?_
    refine e_lmul (pc := 104) dX11_worth_104 ?_
    refine e_iload_n (pc := 105) dX11_worth_105 5 rfl rfl ?_
    refine e_callSRL (pc := 106) (As := [.long r7, .long ((12 : Int64) * r6), .int x3]) (rest := []) (cf_X11_inLowest X r7 ((12 : Int64) * r6) x3 w8) lk_X11_163 (Nat.le_of_ble_eq_true rfl) (Nat.le_of_ble_eq_true rfl) rfl rfl (Nat.le_of_ble_eq_true rfl) dX11_worth_106 (fun r9 => ?_)
    exact e_lretW rfl dX11_worth_109
set_option maxRecDepth 100000 in
set_option maxHeartbeats 4000000 in
theorem ce_X11_worth (X : Xt) (a1 : Int32) (a2 : Int32) (a3 : Int32) (w : Wd) : E gWL X m_X11_worth 7 0 [(0, .ref (xa X 0)), (1, .int a1), (2, .int a2), (3, .int a3)] [] w (f_X11_worth a1 a2 a3 w) := by
  unfold f_X11_worth
  refine e_iload_n (pc := 0) dX11_worth_0 2 rfl rfl ?_
  refine e_if_lt (pc := 1) (tgt := 23) dX11_worth_1 (by decide) (fun _ => ?_) (fun _ => ?_)
  · refine e_ldc2 (pc := 23) (v := (-9223372036854775808 : Int64)) dX11_worth_23 cl_X11_148 ?_
    exact e_lretW rfl dX11_worth_26
  · refine e_aload_n (pc := 4) dX11_worth_4 0 rfl rfl ?_
    refine e_iload_n (pc := 5) dX11_worth_5 1 rfl rfl ?_
    refine e_iload_n (pc := 6) dX11_worth_6 2 rfl rfl ?_
    refine e_bipush (pc := 7) (v := (10 : Int32)) dX11_worth_7 bp_10 ?_
    refine e_idiv (pc := 9) dX11_worth_9 (by decide) ?_
    refine e_callVRI (pc := 10) (As := [.int a1, .int (a2 / (10 : Int32))]) (rest := []) kk0 Kc11 (cf_X11_isThinkable X a1 (a2 / (10 : Int32)) w) lk_X11_142 (Nat.le_of_ble_eq_true rfl) (Nat.le_of_ble_eq_true rfl) rfl rfl (Nat.le_of_ble_eq_true rfl) dX11_worth_10 (fun r1 => ?_)
    refine e_if_eq (pc := 13) (tgt := 23) dX11_worth_13 (by decide) (fun _ => ?_) (fun _ => ?_)
    · refine e_ldc2 (pc := 23) (v := (-9223372036854775808 : Int64)) dX11_worth_23 cl_X11_148 ?_
      exact e_lretW rfl dX11_worth_26
    · refine e_iload_n (pc := 16) dX11_worth_16 3 rfl rfl ?_
      refine e_callSRI (pc := 17) (As := [.int a3]) (rest := []) (cf_X11_isPart X a3 w) lk_X11_145 (Nat.le_of_ble_eq_true rfl) (Nat.le_of_ble_eq_true rfl) rfl rfl (Nat.le_of_ble_eq_true rfl) dX11_worth_17 (fun r2 => ?_)
      refine e_if_ne (pc := 20) (tgt := 27) dX11_worth_20 (by decide) (fun _ => ?_) (fun _ => ?_)
      · refine e_ldc2 (pc := 23) (v := (-9223372036854775808 : Int64)) dX11_worth_23 cl_X11_148 ?_
        exact e_lretW rfl dX11_worth_26
      · refine e_iload_n (pc := 27) dX11_worth_27 2 rfl rfl ?_
        refine e_bipush (pc := 28) (v := (10 : Int32)) dX11_worth_28 bp_10 ?_
        refine e_irem (pc := 30) dX11_worth_30 (by decide) ?_
        refine e_nameI (fun y3 => ?_)
        refine e_istore (pc := 31) (lv' := [(4, .int y3), (0, .ref (xa X 0)), (1, .int a1), (2, .int a2), (3, .int a3)]) dX11_worth_31 (Nat.le_of_ble_eq_true rfl) rfl ?_
        refine e_iload (pc := 33) dX11_worth_33 0 rfl ?_
        refine e_bipush (pc := 35) (v := (6 : Int32)) dX11_worth_35 bp_6 ?_
        refine e_icmp_eq (pc := 37) (tgt := 56) dX11_worth_37 (by decide) (fun _ => ?_) (fun _ => ?_)
        · refine e_lv [1, 2, 3, 4, 0] rfl ?_
          exact cb_X11_worth_b56 X a1 a2 a3 y3 w
        · refine e_aload_n (pc := 40) dX11_worth_40 1 rfl rfl ?_
          refine g_R (pc := 41) (cl' := 1) kk0 fl_X11_10 rfl dX11_worth_41 ?_
          refine e_iload (pc := 44) dX11_worth_44 0 rfl ?_
          refine e_callVRI (pc := 46) (As := [.int y3]) (rest := []) kk1 Kc6 (cf_X6_isLooker X y3 w) lk_X11_136 (Nat.le_of_ble_eq_true rfl) (Nat.le_of_ble_eq_true rfl) rfl rfl (Nat.le_of_ble_eq_true rfl) dX11_worth_46 (fun r10 => ?_)
          refine e_if_ne (pc := 49) (tgt := 56) dX11_worth_49 (by decide) (fun _ => ?_) (fun _ => ?_)
          · refine e_ldc2 (pc := 52) (v := (-9223372036854775808 : Int64)) dX11_worth_52 cl_X11_148 ?_
            exact e_lretW rfl dX11_worth_55
          · refine e_lv [1, 2, 3, 4, 0] rfl ?_
            exact cb_X11_worth_b56 X a1 a2 a3 y3 w
theorem cf_X11_worth (X : Xt) (a1 : Int32) (a2 : Int32) (a3 : Int32) (w : Wd) : CF gWL X m_X11_worth 7 [.ref (xa X 0), .int a1, .int a2, .int a3] w (f_X11_worth a1 a2 a3 w) := CF_of (by decide) (Nat.le_of_ble_eq_true rfl) (ce_X11_worth X a1 a2 a3 w)
set_option maxRecDepth 100000 in
set_option maxHeartbeats 4000000 in
theorem cb_X11_next_b105 (X : Xt) (k50 : Int32 → Int32 → Int64 → Int32 → Wd → Option (Int32 × Wd)) (hk50 : ∀ (x4 : Int32) (x5 : Int32) (x6 : Int64) (x8 : Int32)  (w : Wd), E gWI X m_X11_next 7 50 [(0, .ref (xa X 0)), (4, .int x4), (5, .int x5), (6, .long x6), (8, .int x8)] [] w (k50 x4 x5 x6 x8 w)) (x4 : Int32) (x5 : Int32) (x6 : Int64) (x8 : Int32) (w : Wd) : E gWI X m_X11_next 7 105 [(0, .ref (xa X 0)), (4, .int x4), (5, .int x5), (6, .long x6), (8, .int x8)] [] w (f_X11_next_b105 k50 x4 x5 x6 x8 w) := by
  unfold f_X11_next_b105
  refine e_iinc (pc := 105) (lv' := [(8, .int (x8 + (1 : Int32))), (0, .ref (xa X 0)), (4, .int x4), (5, .int x5), (6, .long x6)]) dX11_next_105 4 rfl (ii_1 _) (Nat.le_of_ble_eq_true rfl) rfl ?_
  refine e_goto (pc := 108) (tgt := 50) dX11_next_108 (by decide) ?_
  refine e_lv [1, 2, 3, 4, 0] rfl ?_
  exact hk50 x4 x5 x6 (x8 + (1 : Int32)) w
set_option maxRecDepth 100000 in
set_option maxHeartbeats 4000000 in
theorem cb_X11_next_b79 (X : Xt) (k50 : Int32 → Int32 → Int64 → Int32 → Wd → Option (Int32 × Wd)) (hk50 : ∀ (x4 : Int32) (x5 : Int32) (x6 : Int64) (x8 : Int32)  (w : Wd), E gWI X m_X11_next 7 50 [(0, .ref (xa X 0)), (4, .int x4), (5, .int x5), (6, .long x6), (8, .int x8)] [] w (k50 x4 x5 x6 x8 w)) (x4 : Int32) (x5 : Int32) (x6 : Int64) (x8 : Int32) (w : Wd) : E gWI X m_X11_next 7 79 [(0, .ref (xa X 0)), (4, .int x4), (5, .int x5), (6, .long x6), (8, .int x8)] [] w (f_X11_next_b79 k50 x4 x5 x6 x8 w) := by
  unfold f_X11_next_b79
  refine e_aload_n (pc := 79) dX11_next_79 0 rfl rfl ?_
  refine e_iload (pc := 80) dX11_next_80 4 rfl ?_
  refine e_iload (pc := 82) dX11_next_82 1 rfl ?_
  refine e_callVWL (pc := 84) (As := [.int x8, .int x4]) (rest := []) kk0 Kc11 (cf_X11_gain X x8 x4 w) lk_X11_173 (Nat.le_of_ble_eq_true rfl) (Nat.le_of_ble_eq_true rfl) rfl rfl (Nat.le_of_ble_eq_true rfl) dX11_next_84 (fun r7 w8 => ?_)
  refine e_lstore (pc := 87) (lv' := [(9, .long r7), (0, .ref (xa X 0)), (4, .int x4), (5, .int x5), (6, .long x6), (8, .int x8)]) dX11_next_87 (Nat.le_of_ble_eq_true rfl) rfl ?_
  refine e_lload (pc := 89) dX11_next_89 0 rfl ?_
  refine e_lload (pc := 91) dX11_next_91 4 rfl ?_
  refine e_lcmp_le (pc := 93) (tgt := 105) dX11_next_93 dX11_next_94 (by decide) (fun _ => ?_) (fun _ => ?_)
  · refine e_lv [1, 2, 3, 4, 5] rfl ?_
    exact cb_X11_next_b105 X k50 hk50 x4 x5 x6 x8 w8
  · refine e_lload (pc := 97) dX11_next_97 0 rfl ?_
    refine e_lstore (pc := 99) (lv' := [(6, .long r7), (9, .long r7), (0, .ref (xa X 0)), (4, .int x4), (5, .int x5), (8, .int x8)]) dX11_next_99 (Nat.le_of_ble_eq_true rfl) rfl ?_
    refine e_iload (pc := 101) dX11_next_101 5 rfl ?_
    refine e_istore (pc := 103) (lv' := [(5, .int x8), (6, .long r7), (9, .long r7), (0, .ref (xa X 0)), (4, .int x4), (8, .int x8)]) dX11_next_103 (Nat.le_of_ble_eq_true rfl) rfl ?_
    refine e_lv [3, 4, 0, 1, 5] rfl ?_
    exact cb_X11_next_b105 X k50 hk50 x4 x8 r7 x8 w8
set_option maxRecDepth 100000 in
set_option maxHeartbeats 4000000 in
theorem cb_X11_next_b50_y (X : Xt) (k50 : Int32 → Int32 → Int64 → Int32 → Wd → Option (Int32 × Wd)) (hk50 : ∀ (x4 : Int32) (x5 : Int32) (x6 : Int64) (x8 : Int32)  (w : Wd), E gWI X m_X11_next 7 50 [(0, .ref (xa X 0)), (4, .int x4), (5, .int x5), (6, .long x6), (8, .int x8)] [] w (k50 x4 x5 x6 x8 w)) (x4 : Int32) (x5 : Int32) (x6 : Int64) (x8 : Int32) (w : Wd) : E gWI X m_X11_next 7 50 [(0, .ref (xa X 0)), (4, .int x4), (5, .int x5), (6, .long x6), (8, .int x8)] [] w (f_X11_next_b50_y k50 x4 x5 x6 x8 w) := by
  unfold f_X11_next_b50_y
  refine e_iload (pc := 50) dX11_next_50 4 rfl ?_
  refine e_bipush (pc := 52) (v := (6 : Int32)) dX11_next_52 bp_6 ?_
  refine e_icmp_gt (pc := 54) (tgt := 111) dX11_next_54 (by decide) (fun _ => ?_) (fun _ => ?_)
  · refine e_iload (pc := 111) dX11_next_111 2 rfl ?_
    exact e_iretW rfl dX11_next_113
  · refine e_iload (pc := 57) dX11_next_57 4 rfl ?_
    refine e_bipush (pc := 59) (v := (6 : Int32)) dX11_next_59 bp_6 ?_
    refine e_icmp_eq (pc := 61) (tgt := 79) dX11_next_61 (by decide) (fun _ => ?_) (fun _ => ?_)
    · refine e_lv [0, 1, 2, 3, 4] rfl ?_
      exact cb_X11_next_b79 X k50 hk50 x4 x5 x6 x8 w
    · refine e_aload_n (pc := 64) dX11_next_64 0 rfl rfl ?_
      refine g_R (pc := 65) (cl' := 1) kk0 fl_X11_10 rfl dX11_next_65 ?_
      refine e_iload (pc := 68) dX11_next_68 4 rfl ?_
      refine e_callVRI (pc := 70) (As := [.int x8]) (rest := []) kk1 Kc6 (cf_X6_isLooker X x8 w) lk_X11_136 (Nat.le_of_ble_eq_true rfl) (Nat.le_of_ble_eq_true rfl) rfl rfl (Nat.le_of_ble_eq_true rfl) dX11_next_70 (fun r9 => ?_)
      refine e_if_ne (pc := 73) (tgt := 79) dX11_next_73 (by decide) (fun _ => ?_) (fun _ => ?_)
      · refine e_goto (pc := 76) (tgt := 105) dX11_next_76 (by decide) ?_
        refine e_lv [0, 1, 2, 3, 4] rfl ?_
        exact cb_X11_next_b105 X k50 hk50 x4 x5 x6 x8 w
      · refine e_lv [0, 1, 2, 3, 4] rfl ?_
        exact cb_X11_next_b79 X k50 hk50 x4 x5 x6 x8 w
theorem cb_X11_next_b50 (X : Xt) : ∀ (n : Nat) (x4 : Int32) (x5 : Int32) (x6 : Int64) (x8 : Int32) (w : Wd), E gWI X m_X11_next 7 50 [(0, .ref (xa X 0)), (4, .int x4), (5, .int x5), (6, .long x6), (8, .int x8)] [] w (f_X11_next_b50 n x4 x5 x6 x8 w) := by
  intro n
  induction n with
  | zero =>
    intro x4 x5 x6 x8 w
    exact E_none
  | succ n ih =>
    intro x4 x5 x6 x8 w
    exact cb_X11_next_b50_y X _ ih x4 x5 x6 x8 w
set_option maxRecDepth 100000 in
set_option maxHeartbeats 4000000 in
theorem ce_X11_next (X : Xt) (a1 : Int32) (a2 : Int32) (w : Wd) : E gWI X m_X11_next 7 0 [(0, .ref (xa X 0)), (1, .int a1), (2, .int a2)] [] w (f_X11_next a1 a2 w) := by
  unfold f_X11_next
  refine e_iload_n (pc := 0) dX11_next_0 1 rfl rfl ?_
  refine e_callSRI (pc := 1) (As := [.int a1]) (rest := []) (cf_X11_isShelf X a1 w) lk_X11_101 (Nat.le_of_ble_eq_true rfl) (Nat.le_of_ble_eq_true rfl) rfl rfl (Nat.le_of_ble_eq_true rfl) dX11_next_1 (fun r1 => ?_)
  refine e_if_eq (pc := 4) (tgt := 14) dX11_next_4 (by decide) (fun _ => ?_) (fun _ => ?_)
  · refine e_iconst (pc := 14) (v := (-1 : Int32)) dX11_next_14 ic_m1 ?_
    exact e_iretW rfl dX11_next_15
  · refine e_iload_n (pc := 7) dX11_next_7 2 rfl rfl ?_
    refine e_callSRI (pc := 8) (As := [.int a2]) (rest := []) (cf_X11_isBag X a2 w) lk_X11_178 (Nat.le_of_ble_eq_true rfl) (Nat.le_of_ble_eq_true rfl) rfl rfl (Nat.le_of_ble_eq_true rfl) dX11_next_8 (fun r2 => ?_)
    refine e_if_ne (pc := 11) (tgt := 16) dX11_next_11 (by decide) (fun _ => ?_) (fun _ => ?_)
    · refine e_iconst (pc := 14) (v := (-1 : Int32)) dX11_next_14 ic_m1 ?_
      exact e_iretW rfl dX11_next_15
    · refine e_aload_n (pc := 16) dX11_next_16 0 rfl rfl ?_
      refine g_R (pc := 17) (cl' := 12) kk0 fl_X11_25 rfl dX11_next_17 ?_
      refine e_iload_n (pc := 20) dX11_next_20 1 rfl rfl ?_
      refine e_aald (pc := 21) kk12 dX11_next_21 (fun c3 hc3 => ?_)
      refine e_callVRI (pc := 22) (As := []) (rest := []) hc3.1 Kc9 (cf_X9_refusalAsBytes X c3 hc3 w) lk_X11_181 (Nat.le_of_ble_eq_true rfl) (Nat.le_of_ble_eq_true rfl) rfl rfl (Nat.le_of_ble_eq_true rfl) dX11_next_22 (fun r4 => ?_)
      refine e_istore_n (pc := 25) (lv' := [(3, .int r4), (0, .ref (xa X 0)), (1, .int a1), (2, .int a2)]) dX11_next_25 rfl (Nat.le_of_ble_eq_true rfl) rfl ?_
      refine e_iload_n (pc := 26) dX11_next_26 0 rfl rfl ?_
      refine e_if_ge (pc := 27) (tgt := 32) dX11_next_27 (by decide) (fun _ => ?_) (fun _ => ?_)
      · refine e_aload_n (pc := 32) dX11_next_32 1 rfl rfl ?_
        refine e_iload_n (pc := 33) dX11_next_33 2 rfl rfl ?_
        refine e_iload_n (pc := 34) dX11_next_34 3 rfl rfl ?_
        refine e_callVWI (pc := 35) (As := [.int a1, .int a2]) (rest := []) kk0 Kc11 (cf_X11_think X a1 a2 w) lk_X11_150 (Nat.le_of_ble_eq_true rfl) (Nat.le_of_ble_eq_true rfl) rfl rfl (Nat.le_of_ble_eq_true rfl) dX11_next_35 (fun r5 w6 => ?_)
        refine e_istore (pc := 38) (lv' := [(4, .int r5), (3, .int r4), (0, .ref (xa X 0)), (1, .int a1), (2, .int a2)]) dX11_next_38 (Nat.le_of_ble_eq_true rfl) rfl ?_
        refine e_bipush (pc := 40) (v := (-2 : Int32)) dX11_next_40 bp_m2 ?_
        refine e_istore (pc := 42) (lv' := [(5, .int (-2 : Int32)), (4, .int r5), (3, .int r4), (0, .ref (xa X 0)), (1, .int a1), (2, .int a2)]) dX11_next_42 (Nat.le_of_ble_eq_true rfl) rfl ?_
        refine e_lconst (pc := 44) (v := (0 : Int64)) dX11_next_44 lc_0 ?_
        refine e_lstore (pc := 45) (lv' := [(6, .long (0 : Int64)), (5, .int (-2 : Int32)), (4, .int r5), (3, .int r4), (0, .ref (xa X 0)), (1, .int a1), (2, .int a2)]) dX11_next_45 (Nat.le_of_ble_eq_true rfl) rfl ?_
        refine e_iconst (pc := 47) (v := (0 : Int32)) dX11_next_47 ic_0 ?_
        refine e_istore (pc := 48) (lv' := [(8, .int (0 : Int32)), (6, .long (0 : Int64)), (5, .int (-2 : Int32)), (4, .int r5), (3, .int r4), (0, .ref (xa X 0)), (1, .int a1), (2, .int a2)]) dX11_next_48 (Nat.le_of_ble_eq_true rfl) rfl ?_
        refine e_lv [5, 3, 2, 1, 0] rfl ?_
        exact cb_X11_next_b50 X fu r5 (-2 : Int32) (0 : Int64) (0 : Int32) w6
      · refine e_iload_n (pc := 30) dX11_next_30 0 rfl rfl ?_
        exact e_iretW rfl dX11_next_31
theorem cf_X11_next (X : Xt) (a1 : Int32) (a2 : Int32) (w : Wd) : CF gWI X m_X11_next 7 [.ref (xa X 0), .int a1, .int a2] w (f_X11_next a1 a2 w) := CF_of (by decide) (Nat.le_of_ble_eq_true rfl) (ce_X11_next X a1 a2 w)
set_option maxRecDepth 100000 in
set_option maxHeartbeats 4000000 in
theorem cb_X11_fillShares_b44 (X : Xt) (k2 : Nat → Int32 → Wd → Option Wd) (hk2 : ∀ (c1 : Nat) (x2 : Int32) (hc1 : isA24 c1) (w : Wd), E gWV X m_X11_fillShares 6 2 [(0, .ref (xa X 0)), (1, .ref (xa X c1)), (2, .int x2)] [] w (k2 c1 x2 w)) (k15 : Nat → Int32 → Int32 → Wd → Option Wd) (hk15 : ∀ (c1 : Nat) (x2 : Int32) (x3 : Int32) (hc1 : isA24 c1) (w : Wd), E gWV X m_X11_fillShares 6 15 [(0, .ref (xa X 0)), (1, .ref (xa X c1)), (2, .int x2), (3, .int x3)] [] w (k15 c1 x2 x3 w)) (c1 : Nat) (x2 : Int32) (x3 : Int32) (hc1 : isA24 c1) (w : Wd) : E gWV X m_X11_fillShares 6 44 [(0, .ref (xa X 0)), (1, .ref (xa X c1)), (2, .int x2), (3, .int x3)] [] w (f_X11_fillShares_b44 k2 k15 c1 x2 x3 w) := by
  unfold f_X11_fillShares_b44
  refine e_iinc (pc := 44) (lv' := [(3, .int (x3 + (1 : Int32))), (0, .ref (xa X 0)), (1, .ref (xa X c1)), (2, .int x2)]) dX11_fillShares_44 3 rfl (ii_1 _) (Nat.le_of_ble_eq_true rfl) rfl ?_
  refine e_goto (pc := 47) (tgt := 15) dX11_fillShares_47 (by decide) ?_
  refine e_lv [1, 2, 3, 0] rfl ?_
  exact hk15 c1 x2 (x3 + (1 : Int32)) hc1 w
set_option maxRecDepth 100000 in
set_option maxHeartbeats 4000000 in
theorem cb_X11_fillShares_b15_y (X : Xt) (k2 : Nat → Int32 → Wd → Option Wd) (hk2 : ∀ (c1 : Nat) (x2 : Int32) (hc1 : isA24 c1) (w : Wd), E gWV X m_X11_fillShares 6 2 [(0, .ref (xa X 0)), (1, .ref (xa X c1)), (2, .int x2)] [] w (k2 c1 x2 w)) (k15 : Nat → Int32 → Int32 → Wd → Option Wd) (hk15 : ∀ (c1 : Nat) (x2 : Int32) (x3 : Int32) (hc1 : isA24 c1) (w : Wd), E gWV X m_X11_fillShares 6 15 [(0, .ref (xa X 0)), (1, .ref (xa X c1)), (2, .int x2), (3, .int x3)] [] w (k15 c1 x2 x3 w)) (c1 : Nat) (x2 : Int32) (x3 : Int32) (hc1 : isA24 c1) (w : Wd) : E gWV X m_X11_fillShares 6 15 [(0, .ref (xa X 0)), (1, .ref (xa X c1)), (2, .int x2), (3, .int x3)] [] w (f_X11_fillShares_b15_y k2 k15 c1 x2 x3 w) := by
  unfold f_X11_fillShares_b15_y
  refine e_iload_n (pc := 15) dX11_fillShares_15 3 rfl rfl ?_
  refine e_iconst (pc := 16) (v := (4 : Int32)) dX11_fillShares_16 ic_4 ?_
  refine e_icmp_ge (pc := 17) (tgt := 50) dX11_fillShares_17 (by decide) (fun _ => ?_) (fun _ => ?_)
  · refine e_iinc (pc := 50) (lv' := [(2, .int (x2 + (1 : Int32))), (0, .ref (xa X 0)), (1, .ref (xa X c1)), (3, .int x3)]) dX11_fillShares_50 2 rfl (ii_1 _) (Nat.le_of_ble_eq_true rfl) rfl ?_
    refine e_goto (pc := 53) (tgt := 2) dX11_fillShares_53 (by decide) ?_
    refine e_lv [1, 2, 0] rfl ?_
    exact hk2 c1 (x2 + (1 : Int32)) hc1 w
  · refine e_iload_n (pc := 20) dX11_fillShares_20 2 rfl rfl ?_
    refine e_iconst (pc := 21) (v := (4 : Int32)) dX11_fillShares_21 ic_4 ?_
    refine e_imul (pc := 22) dX11_fillShares_22 ?_
    refine e_iload_n (pc := 23) dX11_fillShares_23 3 rfl rfl ?_
    refine e_iadd (pc := 24) dX11_fillShares_24 ?_
    refine e_nameI (fun y1 => ?_)
    refine e_istore (pc := 25) (lv' := [(4, .int y1), (0, .ref (xa X 0)), (1, .ref (xa X c1)), (2, .int x2), (3, .int x3)]) dX11_fillShares_25 (Nat.le_of_ble_eq_true rfl) rfl ?_
    refine e_iload (pc := 27) dX11_fillShares_27 0 rfl ?_
    refine e_aload_n (pc := 29) dX11_fillShares_29 2 rfl rfl ?_
    refine e_alenI (pc := 30) (v := (24 : Int32)) hc1 al_24 dX11_fillShares_30 ?_
    refine e_icmp_ge (pc := 31) (tgt := 44) dX11_fillShares_31 (by decide) (fun _ => ?_) (fun _ => ?_)
    · refine e_lv [1, 2, 3, 4] rfl ?_
      exact cb_X11_fillShares_b44 X k2 hk2 k15 hk15 c1 x2 x3 hc1 w
    · refine e_aload_n (pc := 34) dX11_fillShares_34 2 rfl rfl ?_
      refine e_iload (pc := 35) dX11_fillShares_35 0 rfl ?_
      refine e_aload_n (pc := 37) dX11_fillShares_37 1 rfl rfl ?_
      refine e_iload_n (pc := 38) dX11_fillShares_38 3 rfl rfl ?_
      refine e_iload_n (pc := 39) dX11_fillShares_39 4 rfl rfl ?_
      refine e_callVWI (pc := 40) (As := [.int x2, .int x3]) (rest := [.int y1, .ref (xa X c1)]) kk0 Kc11 (cf_X11_twelfths X x2 x3 w) lk_X11_139 (Nat.le_of_ble_eq_true rfl) (Nat.le_of_ble_eq_true rfl) rfl rfl (Nat.le_of_ble_eq_true rfl) dX11_fillShares_40 (fun r2 w3 => ?_)
      refine e_iast (pc := 43) hc1 dX11_fillShares_43 (fun w4 => ?_)
      refine e_lv [1, 2, 3, 4] rfl ?_
      exact cb_X11_fillShares_b44 X k2 hk2 k15 hk15 c1 x2 x3 hc1 w4
theorem cb_X11_fillShares_b15 (X : Xt) (k2 : Nat → Int32 → Wd → Option Wd) (hk2 : ∀ (c1 : Nat) (x2 : Int32) (hc1 : isA24 c1) (w : Wd), E gWV X m_X11_fillShares 6 2 [(0, .ref (xa X 0)), (1, .ref (xa X c1)), (2, .int x2)] [] w (k2 c1 x2 w)) : ∀ (n : Nat) (c1 : Nat) (x2 : Int32) (x3 : Int32) (hc1 : isA24 c1) (w : Wd), E gWV X m_X11_fillShares 6 15 [(0, .ref (xa X 0)), (1, .ref (xa X c1)), (2, .int x2), (3, .int x3)] [] w (f_X11_fillShares_b15 k2 n c1 x2 x3 w) := by
  intro n
  induction n with
  | zero =>
    intro c1 x2 x3 hc1 w
    exact E_none
  | succ n ih =>
    intro c1 x2 x3 hc1 w
    exact cb_X11_fillShares_b15_y X k2 hk2 _ ih c1 x2 x3 hc1 w
set_option maxRecDepth 100000 in
set_option maxHeartbeats 4000000 in
theorem cb_X11_fillShares_b2_y (X : Xt) (k2 : Nat → Int32 → Wd → Option Wd) (hk2 : ∀ (c1 : Nat) (x2 : Int32) (hc1 : isA24 c1) (w : Wd), E gWV X m_X11_fillShares 6 2 [(0, .ref (xa X 0)), (1, .ref (xa X c1)), (2, .int x2)] [] w (k2 c1 x2 w)) (c1 : Nat) (x2 : Int32) (hc1 : isA24 c1) (w : Wd) : E gWV X m_X11_fillShares 6 2 [(0, .ref (xa X 0)), (1, .ref (xa X c1)), (2, .int x2)] [] w (f_X11_fillShares_b2_y k2 c1 x2 w) := by
  unfold f_X11_fillShares_b2_y
  refine e_iload_n (pc := 2) dX11_fillShares_2 2 rfl rfl ?_
  refine e_aload_n (pc := 3) dX11_fillShares_3 0 rfl rfl ?_
  refine g_R (pc := 4) (cl' := 1) kk0 fl_X11_10 rfl dX11_fillShares_4 ?_
  refine g_I (pc := 7) kk1 fl_X11_215 dX11_fillShares_7 ?_
  refine e_icmp_ge (pc := 10) (tgt := 56) dX11_fillShares_10 (by decide) (fun _ => ?_) (fun _ => ?_)
  · exact e_vret rfl dX11_fillShares_56
  · refine e_iconst (pc := 13) (v := (0 : Int32)) dX11_fillShares_13 ic_0 ?_
    refine e_istore_n (pc := 14) (lv' := [(3, .int (0 : Int32)), (0, .ref (xa X 0)), (1, .ref (xa X c1)), (2, .int x2)]) dX11_fillShares_14 rfl (Nat.le_of_ble_eq_true rfl) rfl ?_
    refine e_lv [1, 2, 3, 0] rfl ?_
    exact cb_X11_fillShares_b15 X k2 hk2 fu c1 x2 (0 : Int32) hc1 w
theorem cb_X11_fillShares_b2 (X : Xt) : ∀ (n : Nat) (c1 : Nat) (x2 : Int32) (hc1 : isA24 c1) (w : Wd), E gWV X m_X11_fillShares 6 2 [(0, .ref (xa X 0)), (1, .ref (xa X c1)), (2, .int x2)] [] w (f_X11_fillShares_b2 n c1 x2 w) := by
  intro n
  induction n with
  | zero =>
    intro c1 x2 hc1 w
    exact E_none
  | succ n ih =>
    intro c1 x2 hc1 w
    exact cb_X11_fillShares_b2_y X _ ih c1 x2 hc1 w
set_option maxRecDepth 100000 in
set_option maxHeartbeats 4000000 in
theorem ce_X11_fillShares (X : Xt) (c1 : Nat) (hc1 : isA24 c1) (w : Wd) : E gWV X m_X11_fillShares 6 0 [(0, .ref (xa X 0)), (1, .ref (xa X c1))] [] w (f_X11_fillShares c1 w) := by
  unfold f_X11_fillShares
  refine e_iconst (pc := 0) (v := (0 : Int32)) dX11_fillShares_0 ic_0 ?_
  refine e_istore_n (pc := 1) (lv' := [(2, .int (0 : Int32)), (0, .ref (xa X 0)), (1, .ref (xa X c1))]) dX11_fillShares_1 rfl (Nat.le_of_ble_eq_true rfl) rfl ?_
  refine e_lv [1, 2, 0] rfl ?_
  exact cb_X11_fillShares_b2 X fu c1 (0 : Int32) hc1 w
theorem cf_X11_fillShares (X : Xt) (c1 : Nat) (hc1 : isA24 c1) (w : Wd) : CF gWV X m_X11_fillShares 6 [.ref (xa X 0), .ref (xa X c1)] w (f_X11_fillShares c1 w) := CF_of (by decide) (Nat.le_of_ble_eq_true rfl) (ce_X11_fillShares X c1 hc1 w)
set_option maxRecDepth 100000 in
set_option maxHeartbeats 4000000 in
theorem cb_X11_tellPlanner_b44_y (X : Xt) (k44 : Int32 → Wd → Option Wd) (hk44 : ∀ (x1 : Int32)  (w : Wd), E gWV X m_X11_tellPlanner 7 44 [(0, .ref (xa X 0)), (1, .int x1)] [] w (k44 x1 w)) (x1 : Int32) (w : Wd) : E gWV X m_X11_tellPlanner 7 44 [(0, .ref (xa X 0)), (1, .int x1)] [] w (f_X11_tellPlanner_b44_y k44 x1 w) := by
  unfold f_X11_tellPlanner_b44_y
  refine e_iload_n (pc := 44) dX11_tellPlanner_44 1 rfl rfl ?_
  refine e_bipush (pc := 45) (v := (6 : Int32)) dX11_tellPlanner_45 bp_6 ?_
  refine e_icmp_ge (pc := 47) (tgt := 75) dX11_tellPlanner_47 (by decide) (fun _ => ?_) (fun _ => ?_)
  · exact e_vret rfl dX11_tellPlanner_75
  · refine e_aload_n (pc := 50) dX11_tellPlanner_50 0 rfl rfl ?_
    refine g_R (pc := 51) (cl' := 18) kk0 fl_X11_46 rfl dX11_tellPlanner_51 ?_
    refine g_R (pc := 54) (cl' := 22) kk18 fl_X11_424 rfl dX11_tellPlanner_54 ?_
    refine e_iload_n (pc := 57) dX11_tellPlanner_57 1 rfl rfl ?_
    refine e_aload_n (pc := 58) dX11_tellPlanner_58 0 rfl rfl ?_
    refine g_R (pc := 59) (cl' := 1) kk0 fl_X11_10 rfl dX11_tellPlanner_59 ?_
    refine e_iload_n (pc := 62) dX11_tellPlanner_62 1 rfl rfl ?_
    refine e_bipush (pc := 63) (v := (6 : Int32)) dX11_tellPlanner_63 bp_6 ?_
    refine e_callVRI (pc := 65) (As := [.int x1, .int (6 : Int32)]) (rest := [.int x1, .ref (xa X 22)]) kk1 Kc6 (cf_X6_get X x1 (6 : Int32) w) lk_X11_122 (Nat.le_of_ble_eq_true rfl) (Nat.le_of_ble_eq_true rfl) rfl rfl (Nat.le_of_ble_eq_true rfl) dX11_tellPlanner_65 (fun r5 => ?_)
    refine e_iast (pc := 68) kk22 dX11_tellPlanner_68 (fun w6 => ?_)
    refine e_iinc (pc := 69) (lv' := [(1, .int (x1 + (1 : Int32))), (0, .ref (xa X 0))]) dX11_tellPlanner_69 1 rfl (ii_1 _) (Nat.le_of_ble_eq_true rfl) rfl ?_
    refine e_goto (pc := 72) (tgt := 44) dX11_tellPlanner_72 (by decide) ?_
    refine e_lv [1, 0] rfl ?_
    exact hk44 (x1 + (1 : Int32)) w6
theorem cb_X11_tellPlanner_b44 (X : Xt) : ∀ (n : Nat) (x1 : Int32) (w : Wd), E gWV X m_X11_tellPlanner 7 44 [(0, .ref (xa X 0)), (1, .int x1)] [] w (f_X11_tellPlanner_b44 n x1 w) := by
  intro n
  induction n with
  | zero =>
    intro x1 w
    exact E_none
  | succ n ih =>
    intro x1 w
    exact cb_X11_tellPlanner_b44_y X _ ih x1 w
set_option maxRecDepth 100000 in
set_option maxHeartbeats 4000000 in
theorem ce_X11_tellPlanner (X : Xt) (w : Wd) : E gWV X m_X11_tellPlanner 7 0 [(0, .ref (xa X 0))] [] w (f_X11_tellPlanner w) := by
  unfold f_X11_tellPlanner
  refine e_aload_n (pc := 0) dX11_tellPlanner_0 0 rfl rfl ?_
  refine e_aload_n (pc := 1) dX11_tellPlanner_1 0 rfl rfl ?_
  refine g_R (pc := 2) (cl' := 18) kk0 fl_X11_46 rfl dX11_tellPlanner_2 ?_
  refine g_R (pc := 5) (cl' := 21) kk18 fl_X11_419 rfl dX11_tellPlanner_5 ?_
  refine e_callVWV (pc := 8) (As := [.ref (xa X 21)]) (rest := []) kk0 Kc11 (cf_X11_fillShares X 21 hk_isA24_21 w) lk_X11_237 (Nat.le_of_ble_eq_true rfl) (Nat.le_of_ble_eq_true rfl) rfl rfl (Nat.le_of_ble_eq_true rfl) dX11_tellPlanner_8 (fun w1 => ?_)
  refine e_aload_n (pc := 11) dX11_tellPlanner_11 0 rfl rfl ?_
  refine g_R (pc := 12) (cl' := 18) kk0 fl_X11_46 rfl dX11_tellPlanner_12 ?_
  refine e_aload_n (pc := 15) dX11_tellPlanner_15 0 rfl rfl ?_
  refine g_R (pc := 16) (cl' := 1) kk0 fl_X11_10 rfl dX11_tellPlanner_16 ?_
  refine g_I (pc := 19) kk1 fl_X11_215 dX11_tellPlanner_19 ?_
  refine p_I (pc := 22) kk18 fp_X11_420 dX11_tellPlanner_22 (fun w2 => ?_)
  refine e_aload_n (pc := 25) dX11_tellPlanner_25 0 rfl rfl ?_
  refine g_R (pc := 26) (cl' := 18) kk0 fl_X11_46 rfl dX11_tellPlanner_26 ?_
  refine e_aload_n (pc := 29) dX11_tellPlanner_29 0 rfl rfl ?_
  refine g_R (pc := 30) (cl' := 1) kk0 fl_X11_10 rfl dX11_tellPlanner_30 ?_
  refine e_iconst (pc := 33) (v := (0 : Int32)) dX11_tellPlanner_33 ic_0 ?_
  refine e_bipush (pc := 34) (v := (10 : Int32)) dX11_tellPlanner_34 bp_10 ?_
  refine e_callVRI (pc := 36) (As := [.int (0 : Int32), .int (10 : Int32)]) (rest := [.ref (xa X 18)]) kk1 Kc6 (cf_X6_get X (0 : Int32) (10 : Int32) w2) lk_X11_122 (Nat.le_of_ble_eq_true rfl) (Nat.le_of_ble_eq_true rfl) rfl rfl (Nat.le_of_ble_eq_true rfl) dX11_tellPlanner_36 (fun r3 => ?_)
  refine p_I (pc := 39) kk18 fp_X11_421 dX11_tellPlanner_39 (fun w4 => ?_)
  refine e_iconst (pc := 42) (v := (0 : Int32)) dX11_tellPlanner_42 ic_0 ?_
  refine e_istore_n (pc := 43) (lv' := [(1, .int (0 : Int32)), (0, .ref (xa X 0))]) dX11_tellPlanner_43 rfl (Nat.le_of_ble_eq_true rfl) rfl ?_
  refine e_lv [1, 0] rfl ?_
  exact cb_X11_tellPlanner_b44 X fu (0 : Int32) w4
theorem cf_X11_tellPlanner (X : Xt) (w : Wd) : CF gWV X m_X11_tellPlanner 7 [.ref (xa X 0)] w (f_X11_tellPlanner w) := CF_of (by decide) (Nat.le_of_ble_eq_true rfl) (ce_X11_tellPlanner X w)
set_option maxRecDepth 100000 in
set_option maxHeartbeats 4000000 in
theorem ce_X11_leastFor (X : Xt) (a1 : Int32) (a2 : Int32) (w : Wd) : E gWL X m_X11_leastFor 85 0 [(0, .ref (xa X 0)), (1, .int a1), (2, .int a2)] [] w (f_X11_leastFor a1 a2 w) := by
  unfold f_X11_leastFor
  refine e_aload_n (pc := 0) dX11_leastFor_0 0 rfl rfl ?_
  refine g_R (pc := 1) (cl' := 18) kk0 fl_X11_46 rfl dX11_leastFor_1 ?_
  refine g_R (pc := 4) (cl' := 19) kk18 fl_X11_194 rfl dX11_leastFor_4 ?_
  refine e_aload_n (pc := 7) dX11_leastFor_7 0 rfl rfl ?_
  refine g_R (pc := 8) (cl' := 1) kk0 fl_X11_10 rfl dX11_leastFor_8 ?_
  refine e_iload_n (pc := 11) dX11_leastFor_11 1 rfl rfl ?_
  refine e_callVWV (pc := 12) (As := [.ref (xa X 1), .int a1]) (rest := []) kk19 Kc1 (cf_X1_begin X 19 a1 hk_isCh_19 w) lk_X11_242 (Nat.le_of_ble_eq_true rfl) (Nat.le_of_ble_eq_true rfl) rfl rfl (Nat.le_of_ble_eq_true rfl) dX11_leastFor_12 (fun w1 => ?_)
  refine e_aload_n (pc := 15) dX11_leastFor_15 0 rfl rfl ?_
  refine g_R (pc := 16) (cl' := 18) kk0 fl_X11_46 rfl dX11_leastFor_16 ?_
  refine e_iload_n (pc := 19) dX11_leastFor_19 2 rfl rfl ?_
  refine e_callVWL (pc := 20) (As := [.int a2]) (rest := []) kk18 Kc8 (cf_X8_leastOf X a2 w1) lk_X11_426 (Nat.le_of_ble_eq_true rfl) (Nat.le_of_ble_eq_true rfl) rfl rfl (Nat.le_of_ble_eq_true rfl) dX11_leastFor_20 (fun r2 w3 => ?_)
  exact e_lretW rfl dX11_leastFor_23
theorem cf_X11_leastFor (X : Xt) (a1 : Int32) (a2 : Int32) (w : Wd) : CF gWL X m_X11_leastFor 85 [.ref (xa X 0), .int a1, .int a2] w (f_X11_leastFor a1 a2 w) := CF_of (by decide) (Nat.le_of_ble_eq_true rfl) (ce_X11_leastFor X a1 a2 w)
set_option maxRecDepth 100000 in
set_option maxHeartbeats 4000000 in
theorem ce_X11_plan (X : Xt) (a1 : Int32) (a2 : Int32) (a3 : Int32) (w : Wd) : E gWL X m_X11_plan 86 0 [(0, .ref (xa X 0)), (1, .int a1), (2, .int a2), (3, .int a3)] [] w (f_X11_plan a1 a2 a3 w) := by
  unfold f_X11_plan
  refine e_iload_n (pc := 0) dX11_plan_0 1 rfl rfl ?_
  refine e_callSRI (pc := 1) (As := [.int a1]) (rest := []) (cf_X11_isBag X a1 w) lk_X11_178 (Nat.le_of_ble_eq_true rfl) (Nat.le_of_ble_eq_true rfl) rfl rfl (Nat.le_of_ble_eq_true rfl) dX11_plan_1 (fun r1 => ?_)
  refine e_if_eq (pc := 4) (tgt := 25) dX11_plan_4 (by decide) (fun _ => ?_) (fun _ => ?_)
  · refine e_ldc2 (pc := 25) (v := (-9223372036854775808 : Int64)) dX11_plan_25 cl_X11_148 ?_
    exact e_lretW rfl dX11_plan_28
  · refine e_iload_n (pc := 7) dX11_plan_7 2 rfl rfl ?_
    refine e_if_lt (pc := 8) (tgt := 25) dX11_plan_8 (by decide) (fun _ => ?_) (fun _ => ?_)
    · refine e_ldc2 (pc := 25) (v := (-9223372036854775808 : Int64)) dX11_plan_25 cl_X11_148 ?_
      exact e_lretW rfl dX11_plan_28
    · refine e_iload_n (pc := 11) dX11_plan_11 2 rfl rfl ?_
      refine e_iconst (pc := 12) (v := (3 : Int32)) dX11_plan_12 ic_3 ?_
      refine e_icmp_gt (pc := 13) (tgt := 25) dX11_plan_13 (by decide) (fun _ => ?_) (fun _ => ?_)
      · refine e_ldc2 (pc := 25) (v := (-9223372036854775808 : Int64)) dX11_plan_25 cl_X11_148 ?_
        exact e_lretW rfl dX11_plan_28
      · refine e_iload_n (pc := 16) dX11_plan_16 3 rfl rfl ?_
        refine e_if_lt (pc := 17) (tgt := 25) dX11_plan_17 (by decide) (fun _ => ?_) (fun _ => ?_)
        · refine e_ldc2 (pc := 25) (v := (-9223372036854775808 : Int64)) dX11_plan_25 cl_X11_148 ?_
          exact e_lretW rfl dX11_plan_28
        · refine e_iload_n (pc := 20) dX11_plan_20 3 rfl rfl ?_
          refine e_iconst (pc := 21) (v := (2 : Int32)) dX11_plan_21 ic_2 ?_
          refine e_icmp_le (pc := 22) (tgt := 29) dX11_plan_22 (by decide) (fun _ => ?_) (fun _ => ?_)
          · refine e_aload_n (pc := 29) dX11_plan_29 0 rfl rfl ?_
            refine e_callVWV (pc := 30) (As := []) (rest := []) kk0 Kc11 (cf_X11_tellPlanner X w) lk_X11_184 (Nat.le_of_ble_eq_true rfl) (Nat.le_of_ble_eq_true rfl) rfl rfl (Nat.le_of_ble_eq_true rfl) dX11_plan_30 (fun w2 => ?_)
            refine e_aload_n (pc := 33) dX11_plan_33 0 rfl rfl ?_
            refine e_iload_n (pc := 34) dX11_plan_34 1 rfl rfl ?_
            refine e_iload_n (pc := 35) dX11_plan_35 2 rfl rfl ?_
            refine e_callVWL (pc := 36) (As := [.int a1, .int a2]) (rest := []) kk0 Kc11 (cf_X11_leastFor X a1 a2 w2) lk_X11_187 (Nat.le_of_ble_eq_true rfl) (Nat.le_of_ble_eq_true rfl) rfl rfl (Nat.le_of_ble_eq_true rfl) dX11_plan_36 (fun r3 w4 => ?_)
            refine e_lstore (pc := 39) (lv' := [(4, .long r3), (0, .ref (xa X 0)), (1, .int a1), (2, .int a2), (3, .int a3)]) dX11_plan_39 (Nat.le_of_ble_eq_true rfl) rfl ?_
            refine e_iload_n (pc := 41) dX11_plan_41 4 rfl rfl ?_
            refine e_iconst (pc := 42) (v := (2 : Int32)) dX11_plan_42 ic_2 ?_
            refine e_icmp_ne (pc := 43) (tgt := 57) dX11_plan_43 (by decide) (fun _ => ?_) (fun _ => ?_)
            · refine e_aload_n (pc := 46) dX11_plan_46 1 rfl rfl ?_
              refine g_R (pc := 47) (cl' := 18) kk0 fl_X11_46 rfl dX11_plan_47 ?_
              refine g_I (pc := 50) kk18 fl_X11_190 dX11_plan_50 ?_
              refine e_i2l (pc := 53) dX11_plan_53 ?_
              refine e_goto (pc := 54) (tgt := 74) dX11_plan_54 (by decide) ?_
              exact e_lretW rfl dX11_plan_74
            · refine e_lload (pc := 57) dX11_plan_57 0 rfl ?_
              refine e_aload_n (pc := 59) dX11_plan_59 1 rfl rfl ?_
              refine g_R (pc := 60) (cl' := 18) kk0 fl_X11_46 rfl dX11_plan_60 ?_
              refine g_R (pc := 63) (cl' := 19) kk18 fl_X11_194 rfl dX11_plan_63 ?_
              refine e_iload_n (pc := 66) dX11_plan_66 3 rfl rfl ?_
              refine e_callVRL (pc := 67) (As := [.int a2]) (rest := [.long r3]) kk19 Kc1 (cf_X1_allAhead X 19 a2 hk_isCh_19 w4) lk_X11_167 (Nat.le_of_ble_eq_true rfl) (Nat.le_of_ble_eq_true rfl) rfl rfl (Nat.le_of_ble_eq_true rfl) dX11_plan_67 (fun r5 => ?_)
              refine e_iload_n (pc := 70) dX11_plan_70 4 rfl rfl ?_
              refine e_callSRL (pc := 71) (As := [.long r3, .long r5, .int a3]) (rest := []) (cf_X11_inLowest X r3 r5 a3 w4) lk_X11_163 (Nat.le_of_ble_eq_true rfl) (Nat.le_of_ble_eq_true rfl) rfl rfl (Nat.le_of_ble_eq_true rfl) dX11_plan_71 (fun r6 => ?_)
              exact e_lretW rfl dX11_plan_74
          · refine e_ldc2 (pc := 25) (v := (-9223372036854775808 : Int64)) dX11_plan_25 cl_X11_148 ?_
            exact e_lretW rfl dX11_plan_28
theorem cf_X11_plan (X : Xt) (a1 : Int32) (a2 : Int32) (a3 : Int32) (w : Wd) : CF gWL X m_X11_plan 86 [.ref (xa X 0), .int a1, .int a2, .int a3] w (f_X11_plan a1 a2 a3 w) := CF_of (by decide) (Nat.le_of_ble_eq_true rfl) (ce_X11_plan X a1 a2 a3 w)
set_option maxRecDepth 100000 in
set_option maxHeartbeats 4000000 in
theorem cb_X11_buy_b111 (X : Xt) (k27 : Int32 → Int32 → Int64 → Int64 → Int32 → Wd → Option (Int64 × Wd)) (hk27 : ∀ (x1 : Int32) (x2 : Int32) (x3 : Int64) (x5 : Int64) (x7 : Int32)  (w : Wd), E gWL X m_X11_buy 86 27 [(0, .ref (xa X 0)), (1, .int x1), (2, .int x2), (3, .long x3), (5, .long x5), (7, .int x7)] [] w (k27 x1 x2 x3 x5 x7 w)) (x1 : Int32) (x2 : Int32) (x3 : Int64) (x5 : Int64) (x7 : Int32) (w : Wd) : E gWL X m_X11_buy 86 111 [(0, .ref (xa X 0)), (1, .int x1), (2, .int x2), (3, .long x3), (5, .long x5), (7, .int x7)] [] w (f_X11_buy_b111 k27 x1 x2 x3 x5 x7 w) := by
  unfold f_X11_buy_b111
  refine e_iinc (pc := 111) (lv' := [(7, .int (x7 + (1 : Int32))), (0, .ref (xa X 0)), (1, .int x1), (2, .int x2), (3, .long x3), (5, .long x5)]) dX11_buy_111 5 rfl (ii_1 _) (Nat.le_of_ble_eq_true rfl) rfl ?_
  refine e_goto (pc := 114) (tgt := 27) dX11_buy_114 (by decide) ?_
  refine e_lv [1, 2, 3, 4, 5, 0] rfl ?_
  exact hk27 x1 x2 x3 x5 (x7 + (1 : Int32)) w
set_option maxRecDepth 100000 in
set_option maxHeartbeats 4000000 in
theorem cb_X11_buy_b101 (X : Xt) (k27 : Int32 → Int32 → Int64 → Int64 → Int32 → Wd → Option (Int64 × Wd)) (hk27 : ∀ (x1 : Int32) (x2 : Int32) (x3 : Int64) (x5 : Int64) (x7 : Int32)  (w : Wd), E gWL X m_X11_buy 86 27 [(0, .ref (xa X 0)), (1, .int x1), (2, .int x2), (3, .long x3), (5, .long x5), (7, .int x7)] [] w (k27 x1 x2 x3 x5 x7 w)) (x1 : Int32) (x7 : Int32) (x10 : Int64) (x12 : Int64) (w : Wd) : E gWL X m_X11_buy 86 101 [(0, .ref (xa X 0)), (1, .int x1), (7, .int x7), (10, .long x10), (12, .long x12)] [] w (f_X11_buy_b101 k27 x1 x7 x10 x12 w) := by
  unfold f_X11_buy_b101
  refine e_iload (pc := 101) dX11_buy_101 2 rfl ?_
  refine e_istore_n (pc := 103) (lv' := [(2, .int x7), (0, .ref (xa X 0)), (1, .int x1), (7, .int x7), (10, .long x10), (12, .long x12)]) dX11_buy_103 rfl (Nat.le_of_ble_eq_true rfl) rfl ?_
  refine e_lload (pc := 104) dX11_buy_104 5 rfl ?_
  refine e_lstore_n (pc := 106) (lv' := [(3, .long x12), (2, .int x7), (0, .ref (xa X 0)), (1, .int x1), (7, .int x7), (10, .long x10), (12, .long x12)]) dX11_buy_106 rfl (Nat.le_of_ble_eq_true rfl) rfl ?_
  refine e_lload (pc := 107) dX11_buy_107 5 rfl ?_
  refine e_lstore (pc := 109) (lv' := [(5, .long x10), (3, .long x12), (2, .int x7), (0, .ref (xa X 0)), (1, .int x1), (7, .int x7), (10, .long x10), (12, .long x12)]) dX11_buy_109 (Nat.le_of_ble_eq_true rfl) rfl ?_
  refine e_lv [3, 4, 2, 1, 0, 5] rfl ?_
  exact cb_X11_buy_b111 X k27 hk27 x1 x7 x12 x10 x7 w
set_option maxRecDepth 100000 in
set_option maxHeartbeats 4000000 in
theorem cb_X11_buy_b27_y (X : Xt) (k27 : Int32 → Int32 → Int64 → Int64 → Int32 → Wd → Option (Int64 × Wd)) (hk27 : ∀ (x1 : Int32) (x2 : Int32) (x3 : Int64) (x5 : Int64) (x7 : Int32)  (w : Wd), E gWL X m_X11_buy 86 27 [(0, .ref (xa X 0)), (1, .int x1), (2, .int x2), (3, .long x3), (5, .long x5), (7, .int x7)] [] w (k27 x1 x2 x3 x5 x7 w)) (x1 : Int32) (x2 : Int32) (x3 : Int64) (x5 : Int64) (x7 : Int32) (w : Wd) : E gWL X m_X11_buy 86 27 [(0, .ref (xa X 0)), (1, .int x1), (2, .int x2), (3, .long x3), (5, .long x5), (7, .int x7)] [] w (f_X11_buy_b27_y k27 x1 x2 x3 x5 x7 w) := by
  unfold f_X11_buy_b27_y
  refine e_iload (pc := 27) dX11_buy_27 5 rfl ?_
  refine e_iconst (pc := 29) (v := (4 : Int32)) dX11_buy_29 ic_4 ?_
  refine e_icmp_ge (pc := 30) (tgt := 117) dX11_buy_30 (by decide) (fun _ => ?_) (fun _ => ?_)
  · refine e_iload_n (pc := 117) dX11_buy_117 1 rfl rfl ?_
    refine e_iconst (pc := 118) (v := (2 : Int32)) dX11_buy_118 ic_2 ?_
    refine e_icmp_ne (pc := 119) (tgt := 127) dX11_buy_119 (by decide) (fun _ => ?_) (fun _ => ?_)
    · refine e_iload_n (pc := 122) dX11_buy_122 2 rfl rfl ?_
      refine e_i2l (pc := 123) dX11_buy_123 ?_
      refine e_goto (pc := 124) (tgt := 142) dX11_buy_124 (by decide) ?_
      exact e_lretW rfl dX11_buy_142
    · refine e_lload_n (pc := 127) dX11_buy_127 3 rfl rfl ?_
      refine e_lload (pc := 128) dX11_buy_128 4 rfl ?_
      refine e_ldc2 (pc := 130) (v := (1728 : Int64)) dX11_buy_130 cl_X11_195 ?_
      refine e_lmul (pc := 133) dX11_buy_133 ?_
      refine e_ldc2 (pc := 134) (v := (1728 : Int64)) dX11_buy_134 cl_X11_195 ?_
      refine e_lmul (pc := 137) dX11_buy_137 ?_
      refine e_iload_n (pc := 138) dX11_buy_138 1 rfl rfl ?_
      refine e_callSRL (pc := 139) (As := [.long x3, .long ((x5 * (1728 : Int64)) * (1728 : Int64)), .int x1]) (rest := []) (cf_X11_inLowest X x3 ((x5 * (1728 : Int64)) * (1728 : Int64)) x1 w) lk_X11_163 (Nat.le_of_ble_eq_true rfl) (Nat.le_of_ble_eq_true rfl) rfl rfl (Nat.le_of_ble_eq_true rfl) dX11_buy_139 (fun r2 => ?_)
      exact e_lretW rfl dX11_buy_142
  · refine e_aload_n (pc := 33) dX11_buy_33 0 rfl rfl ?_
    refine e_iload (pc := 34) dX11_buy_34 5 rfl ?_
    refine e_iconst (pc := 36) (v := (2 : Int32)) dX11_buy_36 ic_2 ?_
    refine e_callVWL (pc := 37) (As := [.int x7, .int (2 : Int32)]) (rest := []) kk0 Kc11 (cf_X11_leastFor X x7 (2 : Int32) w) lk_X11_187 (Nat.le_of_ble_eq_true rfl) (Nat.le_of_ble_eq_true rfl) rfl rfl (Nat.le_of_ble_eq_true rfl) dX11_buy_37 (fun r3 w4 => ?_)
    refine e_lstore (pc := 40) (lv' := [(8, .long r3), (0, .ref (xa X 0)), (1, .int x1), (2, .int x2), (3, .long x3), (5, .long x5), (7, .int x7)]) dX11_buy_40 (Nat.le_of_ble_eq_true rfl) rfl ?_
    refine e_aload_n (pc := 42) dX11_buy_42 1 rfl rfl ?_
    refine g_R (pc := 43) (cl' := 18) kk0 fl_X11_46 rfl dX11_buy_43 ?_
    refine g_R (pc := 46) (cl' := 19) kk18 fl_X11_194 rfl dX11_buy_46 ?_
    refine e_iconst (pc := 49) (v := (0 : Int32)) dX11_buy_49 ic_0 ?_
    refine e_callVRL (pc := 50) (As := [.int (0 : Int32)]) (rest := []) kk19 Kc1 (cf_X1_all X 19 (0 : Int32) hk_isCh_19 w4) lk_X11_153 (Nat.le_of_ble_eq_true rfl) (Nat.le_of_ble_eq_true rfl) rfl rfl (Nat.le_of_ble_eq_true rfl) dX11_buy_50 (fun r5 => ?_)
    refine e_lstore (pc := 53) (lv' := [(10, .long r5), (8, .long r3), (0, .ref (xa X 0)), (1, .int x1), (2, .int x2), (3, .long x3), (5, .long x5), (7, .int x7)]) dX11_buy_53 (Nat.le_of_ble_eq_true rfl) rfl ?_
    refine e_lload (pc := 55) dX11_buy_55 1 rfl ?_
    refine e_aload_n (pc := 57) dX11_buy_57 2 rfl rfl ?_
    refine g_R (pc := 58) (cl' := 1) kk0 fl_X11_10 rfl dX11_buy_58 ?_
    refine e_iload (pc := 61) dX11_buy_61 7 rfl ?_
    refine e_iconst (pc := 63) (v := (4 : Int32)) dX11_buy_63 ic_4 ?_
    refine e_callVRI (pc := 64) (As := [.int x7, .int (4 : Int32)]) (rest := [.long r3]) kk1 Kc6 (cf_X6_get X x7 (4 : Int32) w4) lk_X11_122 (Nat.le_of_ble_eq_true rfl) (Nat.le_of_ble_eq_true rfl) rfl rfl (Nat.le_of_ble_eq_true rfl) dX11_buy_64 (fun r6 => ?_)
    refine e_i2l (pc := 67) dX11_buy_67 ?_
    refine e_aload_n (pc := 68) dX11_buy_68 2 rfl rfl ?_
    refine g_R (pc := 69) (cl' := 18) kk0 fl_X11_46 rfl dX11_buy_69 ?_
    refine g_R (pc := 72) (cl' := 19) kk18 fl_X11_194 rfl dX11_buy_72 ?_
    refine e_iconst (pc := 75) (v := (2 : Int32)) dX11_buy_75 ic_2 ?_
    refine e_callVRL (pc := 76) (As := [.int (2 : Int32)]) (rest := [.long (Int32.toInt64 r6), .long r3]) kk19 Kc1 (cf_X1_allAhead X 19 (2 : Int32) hk_isCh_19 w4) lk_X11_167 (Nat.le_of_ble_eq_true rfl) (Nat.le_of_ble_eq_true rfl) rfl rfl (Nat.le_of_ble_eq_true rfl) dX11_buy_76 (fun r7 => ?_)
    refine e_lmul (pc := 79) dX11_buy_79 ?_
    refine e_ladd (pc := 80) dX11_buy_80 ?_
    refine e_nameL (fun y8 => ?_)
    refine e_lstore (pc := 81) (lv' := [(12, .long y8), (10, .long r5), (8, .long r3), (0, .ref (xa X 0)), (1, .int x1), (2, .int x2), (3, .long x3), (5, .long x5), (7, .int x7)]) dX11_buy_81 (Nat.le_of_ble_eq_true rfl) rfl ?_
    refine e_iload (pc := 83) dX11_buy_83 8 rfl ?_
    refine e_if_eq (pc := 85) (tgt := 101) dX11_buy_85 (by decide) (fun _ => ?_) (fun _ => ?_)
    · refine e_lv [3, 4, 8, 1, 0] rfl ?_
      exact cb_X11_buy_b101 X k27 hk27 x1 x7 r5 y8 w4
    · refine e_lload (pc := 88) dX11_buy_88 0 rfl ?_
      refine e_lload (pc := 90) dX11_buy_90 7 rfl ?_
      refine e_lmul (pc := 92) dX11_buy_92 ?_
      refine e_lload_n (pc := 93) dX11_buy_93 6 rfl rfl ?_
      refine e_lload (pc := 94) dX11_buy_94 1 rfl ?_
      refine e_lmul (pc := 96) dX11_buy_96 ?_
      refine e_lcmp_ge (pc := 97) (tgt := 111) dX11_buy_97 dX11_buy_98 (by decide) (fun _ => ?_) (fun _ => ?_)
      · refine e_lv [3, 4, 5, 6, 7, 8] rfl ?_
        exact cb_X11_buy_b111 X k27 hk27 x1 x2 x3 x5 x7 w4
      · refine e_lv [3, 4, 8, 1, 0] rfl ?_
        exact cb_X11_buy_b101 X k27 hk27 x1 x7 r5 y8 w4
theorem cb_X11_buy_b27 (X : Xt) : ∀ (n : Nat) (x1 : Int32) (x2 : Int32) (x3 : Int64) (x5 : Int64) (x7 : Int32) (w : Wd), E gWL X m_X11_buy 86 27 [(0, .ref (xa X 0)), (1, .int x1), (2, .int x2), (3, .long x3), (5, .long x5), (7, .int x7)] [] w (f_X11_buy_b27 n x1 x2 x3 x5 x7 w) := by
  intro n
  induction n with
  | zero =>
    intro x1 x2 x3 x5 x7 w
    exact E_none
  | succ n ih =>
    intro x1 x2 x3 x5 x7 w
    exact cb_X11_buy_b27_y X _ ih x1 x2 x3 x5 x7 w
set_option maxRecDepth 100000 in
set_option maxHeartbeats 4000000 in
theorem ce_X11_buy (X : Xt) (a1 : Int32) (w : Wd) : E gWL X m_X11_buy 86 0 [(0, .ref (xa X 0)), (1, .int a1)] [] w (f_X11_buy a1 w) := by
  unfold f_X11_buy
  refine e_iload_n (pc := 0) dX11_buy_0 1 rfl rfl ?_
  refine e_if_lt (pc := 1) (tgt := 9) dX11_buy_1 (by decide) (fun _ => ?_) (fun _ => ?_)
  · refine e_ldc2 (pc := 9) (v := (-9223372036854775808 : Int64)) dX11_buy_9 cl_X11_148 ?_
    exact e_lretW rfl dX11_buy_12
  · refine e_iload_n (pc := 4) dX11_buy_4 1 rfl rfl ?_
    refine e_iconst (pc := 5) (v := (2 : Int32)) dX11_buy_5 ic_2 ?_
    refine e_icmp_le (pc := 6) (tgt := 13) dX11_buy_6 (by decide) (fun _ => ?_) (fun _ => ?_)
    · refine e_aload_n (pc := 13) dX11_buy_13 0 rfl rfl ?_
      refine e_callVWV (pc := 14) (As := []) (rest := []) kk0 Kc11 (cf_X11_tellPlanner X w) lk_X11_184 (Nat.le_of_ble_eq_true rfl) (Nat.le_of_ble_eq_true rfl) rfl rfl (Nat.le_of_ble_eq_true rfl) dX11_buy_14 (fun w1 => ?_)
      refine e_iconst (pc := 17) (v := (0 : Int32)) dX11_buy_17 ic_0 ?_
      refine e_istore_n (pc := 18) (lv' := [(2, .int (0 : Int32)), (0, .ref (xa X 0)), (1, .int a1)]) dX11_buy_18 rfl (Nat.le_of_ble_eq_true rfl) rfl ?_
      refine e_lconst (pc := 19) (v := (0 : Int64)) dX11_buy_19 lc_0 ?_
      refine e_lstore_n (pc := 20) (lv' := [(3, .long (0 : Int64)), (2, .int (0 : Int32)), (0, .ref (xa X 0)), (1, .int a1)]) dX11_buy_20 rfl (Nat.le_of_ble_eq_true rfl) rfl ?_
      refine e_lconst (pc := 21) (v := (1 : Int64)) dX11_buy_21 lc_1 ?_
      refine e_lstore (pc := 22) (lv' := [(5, .long (1 : Int64)), (3, .long (0 : Int64)), (2, .int (0 : Int32)), (0, .ref (xa X 0)), (1, .int a1)]) dX11_buy_22 (Nat.le_of_ble_eq_true rfl) rfl ?_
      refine e_iconst (pc := 24) (v := (0 : Int32)) dX11_buy_24 ic_0 ?_
      refine e_istore (pc := 25) (lv' := [(7, .int (0 : Int32)), (5, .long (1 : Int64)), (3, .long (0 : Int64)), (2, .int (0 : Int32)), (0, .ref (xa X 0)), (1, .int a1)]) dX11_buy_25 (Nat.le_of_ble_eq_true rfl) rfl ?_
      refine e_lv [4, 5, 3, 2, 1, 0] rfl ?_
      exact cb_X11_buy_b27 X fu a1 (0 : Int32) (0 : Int64) (1 : Int64) (0 : Int32) w1
    · refine e_ldc2 (pc := 9) (v := (-9223372036854775808 : Int64)) dX11_buy_9 cl_X11_148 ?_
      exact e_lretW rfl dX11_buy_12
theorem cf_X11_buy (X : Xt) (a1 : Int32) (w : Wd) : CF gWL X m_X11_buy 86 [.ref (xa X 0), .int a1] w (f_X11_buy a1 w) := CF_of (by decide) (Nat.le_of_ble_eq_true rfl) (ce_X11_buy X a1 w)
set_option maxRecDepth 100000 in
set_option maxHeartbeats 4000000 in
theorem ce_X11_areLists (X : Xt) (a0 : Int32) (w : Wd) : E (gRI w) X m_X11_areLists 1 0 [(0, .int a0)] [] w (f_X11_areLists a0) := by
  unfold f_X11_areLists
  refine e_iload_n (pc := 0) dX11_areLists_0 0 rfl rfl ?_
  refine e_if_ge (pc := 1) (tgt := 6) dX11_areLists_1 (by decide) (fun _ => ?_) (fun _ => ?_)
  · refine e_iload_n (pc := 6) dX11_areLists_6 0 rfl rfl ?_
    refine e_sipush (pc := 7) (v := (10000 : Int32)) dX11_areLists_7 sp_10000 ?_
    refine e_idiv (pc := 10) dX11_areLists_10 (by decide) ?_
    refine e_nameI (fun y1 => ?_)
    refine e_istore_n (pc := 11) (lv' := [(1, .int y1), (0, .int a0)]) dX11_areLists_11 rfl (Nat.le_of_ble_eq_true rfl) rfl ?_
    refine e_iload_n (pc := 12) dX11_areLists_12 1 rfl rfl ?_
    refine e_bipush (pc := 13) (v := (100 : Int32)) dX11_areLists_13 bp_100 ?_
    refine e_idiv (pc := 15) dX11_areLists_15 (by decide) ?_
    refine e_bipush (pc := 16) (v := (100 : Int32)) dX11_areLists_16 bp_100 ?_
    refine e_irem (pc := 18) dX11_areLists_18 (by decide) ?_
    refine e_nameI (fun y2 => ?_)
    refine e_istore_n (pc := 19) (lv' := [(2, .int y2), (1, .int y1), (0, .int a0)]) dX11_areLists_19 rfl (Nat.le_of_ble_eq_true rfl) rfl ?_
    refine e_iload_n (pc := 20) dX11_areLists_20 2 rfl rfl ?_
    refine e_bipush (pc := 21) (v := (100 : Int32)) dX11_areLists_21 bp_100 ?_
    refine e_irem (pc := 23) dX11_areLists_23 (by decide) ?_
    refine e_nameI (fun y3 => ?_)
    refine e_istore_n (pc := 24) (lv' := [(3, .int y3), (2, .int y2), (1, .int y1), (0, .int a0)]) dX11_areLists_24 rfl (Nat.le_of_ble_eq_true rfl) rfl ?_
    refine e_iload_n (pc := 25) dX11_areLists_25 2 rfl rfl ?_
    refine e_bipush (pc := 26) (v := (20 : Int32)) dX11_areLists_26 bp_20 ?_
    refine e_icmp_gt (pc := 28) (tgt := 50) dX11_areLists_28 (by decide) (fun _ => ?_) (fun _ => ?_)
    · refine e_iconst (pc := 50) (v := (0 : Int32)) dX11_areLists_50 ic_0 ?_
      exact e_zretR0 rfl (by decide) dX11_areLists_51
    · refine e_iload_n (pc := 31) dX11_areLists_31 1 rfl rfl ?_
      refine e_bipush (pc := 32) (v := (20 : Int32)) dX11_areLists_32 bp_20 ?_
      refine e_icmp_gt (pc := 34) (tgt := 50) dX11_areLists_34 (by decide) (fun _ => ?_) (fun _ => ?_)
      · refine e_iconst (pc := 50) (v := (0 : Int32)) dX11_areLists_50 ic_0 ?_
        exact e_zretR0 rfl (by decide) dX11_areLists_51
      · refine e_iload_n (pc := 37) dX11_areLists_37 0 rfl rfl ?_
        refine e_iload_n (pc := 38) dX11_areLists_38 2 rfl rfl ?_
        refine e_iload_n (pc := 39) dX11_areLists_39 1 rfl rfl ?_
        refine e_mmin (pc := 40) ml_X11_206 ms_min mi_Math mc_min (Nat.le_of_ble_eq_true rfl) (Nat.le_of_ble_eq_true rfl) dX11_areLists_40 ?_
        refine e_icmp_gt (pc := 43) (tgt := 50) dX11_areLists_43 (by decide) (fun _ => ?_) (fun _ => ?_)
        · refine e_iconst (pc := 50) (v := (0 : Int32)) dX11_areLists_50 ic_0 ?_
          exact e_zretR0 rfl (by decide) dX11_areLists_51
        · refine e_iconst (pc := 46) (v := (1 : Int32)) dX11_areLists_46 ic_1 ?_
          refine e_goto (pc := 47) (tgt := 51) dX11_areLists_47 (by decide) ?_
          exact e_zretR0 rfl (by decide) dX11_areLists_51
  · refine e_iconst (pc := 4) (v := (0 : Int32)) dX11_areLists_4 ic_0 ?_
    exact e_zretR0 rfl (by decide) dX11_areLists_5
theorem cf_X11_areLists (X : Xt) (a0 : Int32) (w : Wd) : CF (gRI w) X m_X11_areLists 1 [.int a0] w (f_X11_areLists a0) := CF_of (by decide) (Nat.le_of_ble_eq_true rfl) (ce_X11_areLists X a0 w)
set_option maxRecDepth 100000 in
set_option maxHeartbeats 4000000 in
theorem ce_X11_lists (X : Xt) (a1 : Int32) (a2 : Int32) (a3 : Int32) (w : Wd) : E (gRL w) X m_X11_lists 2 0 [(0, .ref (xa X 0)), (1, .int a1), (2, .int a2), (3, .int a3)] [] w (f_X11_lists a1 a2 a3) := by
  unfold f_X11_lists
  refine e_iload_n (pc := 0) dX11_lists_0 1 rfl rfl ?_
  refine e_callSRI (pc := 1) (As := [.int a1]) (rest := []) (cf_X11_areLists X a1 w) lk_X11_197 (Nat.le_of_ble_eq_true rfl) (Nat.le_of_ble_eq_true rfl) rfl rfl (Nat.le_of_ble_eq_true rfl) dX11_lists_1 (fun r1 => ?_)
  refine e_if_eq (pc := 4) (tgt := 23) dX11_lists_4 (by decide) (fun _ => ?_) (fun _ => ?_)
  · refine e_ldc2 (pc := 23) (v := (-9223372036854775808 : Int64)) dX11_lists_23 cl_X11_148 ?_
    exact e_lretR rfl dX11_lists_26
  · refine e_iload_n (pc := 7) dX11_lists_7 2 rfl rfl ?_
    refine e_if_lt (pc := 8) (tgt := 23) dX11_lists_8 (by decide) (fun _ => ?_) (fun _ => ?_)
    · refine e_ldc2 (pc := 23) (v := (-9223372036854775808 : Int64)) dX11_lists_23 cl_X11_148 ?_
      exact e_lretR rfl dX11_lists_26
    · refine e_iload_n (pc := 11) dX11_lists_11 2 rfl rfl ?_
      refine e_iconst (pc := 12) (v := (1 : Int32)) dX11_lists_12 ic_1 ?_
      refine e_icmp_gt (pc := 13) (tgt := 23) dX11_lists_13 (by decide) (fun _ => ?_) (fun _ => ?_)
      · refine e_ldc2 (pc := 23) (v := (-9223372036854775808 : Int64)) dX11_lists_23 cl_X11_148 ?_
        exact e_lretR rfl dX11_lists_26
      · refine e_iload_n (pc := 16) dX11_lists_16 3 rfl rfl ?_
        refine e_callSRI (pc := 17) (As := [.int a3]) (rest := []) (cf_X11_isPart X a3 w) lk_X11_145 (Nat.le_of_ble_eq_true rfl) (Nat.le_of_ble_eq_true rfl) rfl rfl (Nat.le_of_ble_eq_true rfl) dX11_lists_17 (fun r2 => ?_)
        refine e_if_ne (pc := 20) (tgt := 27) dX11_lists_20 (by decide) (fun _ => ?_) (fun _ => ?_)
        · refine e_ldc2 (pc := 23) (v := (-9223372036854775808 : Int64)) dX11_lists_23 cl_X11_148 ?_
          exact e_lretR rfl dX11_lists_26
        · refine e_iload_n (pc := 27) dX11_lists_27 1 rfl rfl ?_
          refine e_sipush (pc := 28) (v := (10000 : Int32)) dX11_lists_28 sp_10000 ?_
          refine e_idiv (pc := 31) dX11_lists_31 (by decide) ?_
          refine e_nameI (fun y3 => ?_)
          refine e_istore (pc := 32) (lv' := [(4, .int y3), (0, .ref (xa X 0)), (1, .int a1), (2, .int a2), (3, .int a3)]) dX11_lists_32 (Nat.le_of_ble_eq_true rfl) rfl ?_
          refine e_iload_n (pc := 34) dX11_lists_34 2 rfl rfl ?_
          refine e_bipush (pc := 35) (v := (100 : Int32)) dX11_lists_35 bp_100 ?_
          refine e_idiv (pc := 37) dX11_lists_37 (by decide) ?_
          refine e_bipush (pc := 38) (v := (100 : Int32)) dX11_lists_38 bp_100 ?_
          refine e_irem (pc := 40) dX11_lists_40 (by decide) ?_
          refine e_nameI (fun y4 => ?_)
          refine e_istore (pc := 41) (lv' := [(5, .int y4), (4, .int y3), (0, .ref (xa X 0)), (1, .int a1), (2, .int a2), (3, .int a3)]) dX11_lists_41 (Nat.le_of_ble_eq_true rfl) rfl ?_
          refine e_iload_n (pc := 43) dX11_lists_43 3 rfl rfl ?_
          refine e_bipush (pc := 44) (v := (100 : Int32)) dX11_lists_44 bp_100 ?_
          refine e_irem (pc := 46) dX11_lists_46 (by decide) ?_
          refine e_nameI (fun y5 => ?_)
          refine e_istore (pc := 47) (lv' := [(6, .int y5), (5, .int y4), (4, .int y3), (0, .ref (xa X 0)), (1, .int a1), (2, .int a2), (3, .int a3)]) dX11_lists_47 (Nat.le_of_ble_eq_true rfl) rfl ?_
          refine e_iload (pc := 49) dX11_lists_49 0 rfl ?_
          refine e_if_ne (pc := 51) (tgt := 58) dX11_lists_51 (by decide) (fun _ => ?_) (fun _ => ?_)
          · refine e_ldc2 (pc := 54) (v := (-2 : Int64)) dX11_lists_54 cl_X11_157 ?_
            exact e_lretR rfl dX11_lists_57
          · refine e_iload_n (pc := 58) dX11_lists_58 5 rfl rfl ?_
            refine e_if_ne (pc := 59) (tgt := 78) dX11_lists_59 (by decide) (fun _ => ?_) (fun _ => ?_)
            · refine e_iload (pc := 62) dX11_lists_62 2 rfl ?_
              refine e_iload (pc := 64) dX11_lists_64 1 rfl ?_
              refine e_imul (pc := 66) dX11_lists_66 ?_
              refine e_i2l (pc := 67) dX11_lists_67 ?_
              refine e_iload (pc := 68) dX11_lists_68 0 rfl ?_
              refine e_i2l (pc := 70) dX11_lists_70 ?_
              refine e_iload_n (pc := 71) dX11_lists_71 6 rfl rfl ?_
              refine e_callSRL (pc := 72) (As := [.long (Int32.toInt64 (y3 * y4)), .long (Int32.toInt64 y5), .int a3]) (rest := []) (cf_X11_inLowest X (Int32.toInt64 (y3 * y4)) (Int32.toInt64 y5) a3 w) lk_X11_163 (Nat.le_of_ble_eq_true rfl) (Nat.le_of_ble_eq_true rfl) rfl rfl (Nat.le_of_ble_eq_true rfl) dX11_lists_72 (fun r7 => ?_)
              refine e_goto (pc := 75) (tgt := 97) dX11_lists_75 (by decide) ?_
              exact e_lretR rfl dX11_lists_97
            · refine e_iload (pc := 78) dX11_lists_78 2 rfl ?_
              refine e_iload (pc := 80) dX11_lists_80 0 rfl ?_
              refine e_isub (pc := 82) dX11_lists_82 ?_
              refine e_iload (pc := 83) dX11_lists_83 1 rfl ?_
              refine e_iload (pc := 85) dX11_lists_85 0 rfl ?_
              refine e_isub (pc := 87) dX11_lists_87 ?_
              refine e_imul (pc := 88) dX11_lists_88 ?_
              refine e_i2l (pc := 89) dX11_lists_89 ?_
              refine e_iload (pc := 90) dX11_lists_90 0 rfl ?_
              refine e_i2l (pc := 92) dX11_lists_92 ?_
              refine e_iload_n (pc := 93) dX11_lists_93 6 rfl rfl ?_
              refine e_callSRL (pc := 94) (As := [.long (Int32.toInt64 ((y3 - y5) * (y4 - y5))), .long (Int32.toInt64 y5), .int a3]) (rest := []) (cf_X11_inLowest X (Int32.toInt64 ((y3 - y5) * (y4 - y5))) (Int32.toInt64 y5) a3 w) lk_X11_163 (Nat.le_of_ble_eq_true rfl) (Nat.le_of_ble_eq_true rfl) rfl rfl (Nat.le_of_ble_eq_true rfl) dX11_lists_94 (fun r6 => ?_)
              exact e_lretR rfl dX11_lists_97
theorem cf_X11_lists (X : Xt) (a1 : Int32) (a2 : Int32) (a3 : Int32) (w : Wd) : CF (gRL w) X m_X11_lists 2 [.ref (xa X 0), .int a1, .int a2, .int a3] w (f_X11_lists a1 a2 a3) := CF_of (by decide) (Nat.le_of_ble_eq_true rfl) (ce_X11_lists X a1 a2 a3 w)
set_option maxRecDepth 100000 in
set_option maxHeartbeats 4000000 in
theorem cb_X11_likeliest_b37_y (X : Xt) (w : Wd) (k37 : Int32 → Int32 → Int32 → Int32 → Option Int32) (hk37 : ∀ (x2 : Int32) (x3 : Int32) (x4 : Int32) (x5 : Int32), E (gRI w) X m_X11_likeliest 2 37 [(2, .int x2), (3, .int x3), (4, .int x4), (5, .int x5)] [] w (k37 x2 x3 x4 x5)) (x2 : Int32) (x3 : Int32) (x4 : Int32) (x5 : Int32) : E (gRI w) X m_X11_likeliest 2 37 [(2, .int x2), (3, .int x3), (4, .int x4), (5, .int x5)] [] w (f_X11_likeliest_b37_y k37 x2 x3 x4 x5) := by
  unfold f_X11_likeliest_b37_y
  refine e_iload (pc := 37) dX11_likeliest_37 3 rfl ?_
  refine e_bipush (pc := 39) (v := (60 : Int32)) dX11_likeliest_39 bp_60 ?_
  refine e_icmp_ge (pc := 41) (tgt := 63) dX11_likeliest_41 (by decide) (fun _ => ?_) (fun _ => ?_)
  · refine e_iload (pc := 63) dX11_likeliest_63 3 rfl ?_
    exact e_iretR rfl dX11_likeliest_65
  · refine e_iload (pc := 44) dX11_likeliest_44 3 rfl ?_
    refine e_iconst (pc := 46) (v := (1 : Int32)) dX11_likeliest_46 ic_1 ?_
    refine e_iadd (pc := 47) dX11_likeliest_47 ?_
    refine e_iload (pc := 48) dX11_likeliest_48 2 rfl ?_
    refine e_imul (pc := 50) dX11_likeliest_50 ?_
    refine e_iload_n (pc := 51) dX11_likeliest_51 0 rfl rfl ?_
    refine e_iload_n (pc := 52) dX11_likeliest_52 1 rfl rfl ?_
    refine e_imul (pc := 53) dX11_likeliest_53 ?_
    refine e_icmp_ge (pc := 54) (tgt := 63) dX11_likeliest_54 (by decide) (fun _ => ?_) (fun _ => ?_)
    · refine e_iload (pc := 63) dX11_likeliest_63 3 rfl ?_
      exact e_iretR rfl dX11_likeliest_65
    · refine e_iinc (pc := 57) (lv' := [(5, .int (x5 + (1 : Int32))), (2, .int x2), (3, .int x3), (4, .int x4)]) dX11_likeliest_57 3 rfl (ii_1 _) (Nat.le_of_ble_eq_true rfl) rfl ?_
      refine e_goto (pc := 60) (tgt := 37) dX11_likeliest_60 (by decide) ?_
      refine e_lv [1, 2, 3, 0] rfl ?_
      exact hk37 x2 x3 x4 (x5 + (1 : Int32))
theorem cb_X11_likeliest_b37 (X : Xt) (w : Wd) : ∀ (n : Nat) (x2 : Int32) (x3 : Int32) (x4 : Int32) (x5 : Int32), E (gRI w) X m_X11_likeliest 2 37 [(2, .int x2), (3, .int x3), (4, .int x4), (5, .int x5)] [] w (f_X11_likeliest_b37 n x2 x3 x4 x5) := by
  intro n
  induction n with
  | zero =>
    intro x2 x3 x4 x5
    exact E_none
  | succ n ih =>
    intro x2 x3 x4 x5
    exact cb_X11_likeliest_b37_y X w _ ih x2 x3 x4 x5
set_option maxRecDepth 100000 in
set_option maxHeartbeats 4000000 in
theorem ce_X11_likeliest (X : Xt) (a1 : Int32) (w : Wd) : E (gRI w) X m_X11_likeliest 2 0 [(0, .ref (xa X 0)), (1, .int a1)] [] w (f_X11_likeliest a1) := by
  unfold f_X11_likeliest
  refine e_iload_n (pc := 0) dX11_likeliest_0 1 rfl rfl ?_
  refine e_callSRI (pc := 1) (As := [.int a1]) (rest := []) (cf_X11_areLists X a1 w) lk_X11_197 (Nat.le_of_ble_eq_true rfl) (Nat.le_of_ble_eq_true rfl) rfl rfl (Nat.le_of_ble_eq_true rfl) dX11_likeliest_1 (fun r1 => ?_)
  refine e_if_ne (pc := 4) (tgt := 9) dX11_likeliest_4 (by decide) (fun _ => ?_) (fun _ => ?_)
  · refine e_iconst (pc := 7) (v := (-1 : Int32)) dX11_likeliest_7 ic_m1 ?_
    exact e_iretR rfl dX11_likeliest_8
  · refine e_iload_n (pc := 9) dX11_likeliest_9 1 rfl rfl ?_
    refine e_sipush (pc := 10) (v := (10000 : Int32)) dX11_likeliest_10 sp_10000 ?_
    refine e_idiv (pc := 13) dX11_likeliest_13 (by decide) ?_
    refine e_nameI (fun y2 => ?_)
    refine e_istore_n (pc := 14) (lv' := [(2, .int y2), (0, .ref (xa X 0)), (1, .int a1)]) dX11_likeliest_14 rfl (Nat.le_of_ble_eq_true rfl) rfl ?_
    refine e_iload_n (pc := 15) dX11_likeliest_15 2 rfl rfl ?_
    refine e_bipush (pc := 16) (v := (100 : Int32)) dX11_likeliest_16 bp_100 ?_
    refine e_idiv (pc := 18) dX11_likeliest_18 (by decide) ?_
    refine e_bipush (pc := 19) (v := (100 : Int32)) dX11_likeliest_19 bp_100 ?_
    refine e_irem (pc := 21) dX11_likeliest_21 (by decide) ?_
    refine e_nameI (fun y3 => ?_)
    refine e_istore_n (pc := 22) (lv' := [(3, .int y3), (2, .int y2), (0, .ref (xa X 0)), (1, .int a1)]) dX11_likeliest_22 rfl (Nat.le_of_ble_eq_true rfl) rfl ?_
    refine e_iload_n (pc := 23) dX11_likeliest_23 3 rfl rfl ?_
    refine e_bipush (pc := 24) (v := (100 : Int32)) dX11_likeliest_24 bp_100 ?_
    refine e_irem (pc := 26) dX11_likeliest_26 (by decide) ?_
    refine e_nameI (fun y4 => ?_)
    refine e_istore (pc := 27) (lv' := [(4, .int y4), (3, .int y3), (2, .int y2), (0, .ref (xa X 0)), (1, .int a1)]) dX11_likeliest_27 (Nat.le_of_ble_eq_true rfl) rfl ?_
    refine e_iload_n (pc := 29) dX11_likeliest_29 2 rfl rfl ?_
    refine e_iload_n (pc := 30) dX11_likeliest_30 1 rfl rfl ?_
    refine e_iadd (pc := 31) dX11_likeliest_31 ?_
    refine e_iload (pc := 32) dX11_likeliest_32 0 rfl ?_
    refine e_isub (pc := 34) dX11_likeliest_34 ?_
    refine e_nameI (fun y5 => ?_)
    refine e_istore (pc := 35) (lv' := [(5, .int y5), (4, .int y4), (3, .int y3), (2, .int y2), (0, .ref (xa X 0)), (1, .int a1)]) dX11_likeliest_35 (Nat.le_of_ble_eq_true rfl) rfl ?_
    refine e_lv [3, 2, 1, 0] rfl ?_
    exact cb_X11_likeliest_b37 X w fu y2 y3 y4 y5
theorem cf_X11_likeliest (X : Xt) (a1 : Int32) (w : Wd) : CF (gRI w) X m_X11_likeliest 2 [.ref (xa X 0), .int a1] w (f_X11_likeliest a1) := CF_of (by decide) (Nat.le_of_ble_eq_true rfl) (ce_X11_likeliest X a1 w)
set_option maxRecDepth 100000 in
set_option maxHeartbeats 4000000 in
theorem ce_X11_isPutIn (X : Xt) (a0 : Int32) (w : Wd) : E (gRI w) X m_X11_isPutIn 1 0 [(0, .int a0)] [] w (f_X11_isPutIn a0) := by
  unfold f_X11_isPutIn
  refine e_iload_n (pc := 0) dX11_isPutIn_0 0 rfl rfl ?_
  refine e_bipush (pc := 1) (v := (100 : Int32)) dX11_isPutIn_1 bp_100 ?_
  refine e_icmp_lt (pc := 3) (tgt := 30) dX11_isPutIn_3 (by decide) (fun _ => ?_) (fun _ => ?_)
  · refine e_iconst (pc := 30) (v := (0 : Int32)) dX11_isPutIn_30 ic_0 ?_
    exact e_zretR0 rfl (by decide) dX11_isPutIn_31
  · refine e_iload_n (pc := 6) dX11_isPutIn_6 0 rfl rfl ?_
    refine e_bipush (pc := 7) (v := (100 : Int32)) dX11_isPutIn_7 bp_100 ?_
    refine e_idiv (pc := 9) dX11_isPutIn_9 (by decide) ?_
    refine e_bipush (pc := 10) (v := (20 : Int32)) dX11_isPutIn_10 bp_20 ?_
    refine e_icmp_gt (pc := 12) (tgt := 30) dX11_isPutIn_12 (by decide) (fun _ => ?_) (fun _ => ?_)
    · refine e_iconst (pc := 30) (v := (0 : Int32)) dX11_isPutIn_30 ic_0 ?_
      exact e_zretR0 rfl (by decide) dX11_isPutIn_31
    · refine e_iload_n (pc := 15) dX11_isPutIn_15 0 rfl rfl ?_
      refine e_bipush (pc := 16) (v := (100 : Int32)) dX11_isPutIn_16 bp_100 ?_
      refine e_irem (pc := 18) dX11_isPutIn_18 (by decide) ?_
      refine e_iload_n (pc := 19) dX11_isPutIn_19 0 rfl rfl ?_
      refine e_bipush (pc := 20) (v := (100 : Int32)) dX11_isPutIn_20 bp_100 ?_
      refine e_idiv (pc := 22) dX11_isPutIn_22 (by decide) ?_
      refine e_icmp_gt (pc := 23) (tgt := 30) dX11_isPutIn_23 (by decide) (fun _ => ?_) (fun _ => ?_)
      · refine e_iconst (pc := 30) (v := (0 : Int32)) dX11_isPutIn_30 ic_0 ?_
        exact e_zretR0 rfl (by decide) dX11_isPutIn_31
      · refine e_iconst (pc := 26) (v := (1 : Int32)) dX11_isPutIn_26 ic_1 ?_
        refine e_goto (pc := 27) (tgt := 31) dX11_isPutIn_27 (by decide) ?_
        exact e_zretR0 rfl (by decide) dX11_isPutIn_31
theorem cf_X11_isPutIn (X : Xt) (a0 : Int32) (w : Wd) : CF (gRI w) X m_X11_isPutIn 1 [.int a0] w (f_X11_isPutIn a0) := CF_of (by decide) (Nat.le_of_ble_eq_true rfl) (ce_X11_isPutIn X a0 w)
set_option maxRecDepth 100000 in
set_option maxHeartbeats 4000000 in
theorem cb_X11_limbOf_b34 (X : Xt) (w : Wd) (k14 : Int32 → Int32 → Int32 → Int32 → Int64 → Int64 → Int64 → Int32 → Option Int64) (hk14 : ∀ (x0 : Int32) (x1 : Int32) (x2 : Int32) (x3 : Int32) (x4 : Int64) (x6 : Int64) (x8 : Int64) (x10 : Int32), E (gRL w) X m_X11_limbOf 1 14 [(0, .int x0), (1, .int x1), (2, .int x2), (3, .int x3), (4, .long x4), (6, .long x6), (8, .long x8), (10, .int x10)] [] w (k14 x0 x1 x2 x3 x4 x6 x8 x10)) (x0 : Int32) (x1 : Int32) (x2 : Int32) (x3 : Int32) (x4 : Int64) (x6 : Int64) (x8 : Int64) (x10 : Int32) (s0 : Int32) : E (gRL w) X m_X11_limbOf 1 34 [(0, .int x0), (1, .int x1), (2, .int x2), (3, .int x3), (4, .long x4), (6, .long x6), (8, .long x8), (10, .int x10)] [.int s0] w (f_X11_limbOf_b34 k14 x0 x1 x2 x3 x4 x6 x8 x10 s0) := by
  unfold f_X11_limbOf_b34
  refine e_istore (pc := 34) (lv' := [(11, .int s0), (0, .int x0), (1, .int x1), (2, .int x2), (3, .int x3), (4, .long x4), (6, .long x6), (8, .long x8), (10, .int x10)]) dX11_limbOf_34 (Nat.le_of_ble_eq_true rfl) rfl ?_
  refine e_lload (pc := 36) dX11_limbOf_36 7 rfl ?_
  refine e_iload (pc := 38) dX11_limbOf_38 0 rfl ?_
  refine e_i2l (pc := 40) dX11_limbOf_40 ?_
  refine e_lmul (pc := 41) dX11_limbOf_41 ?_
  refine e_nameL (fun y1 => ?_)
  refine e_lstore (pc := 42) (lv' := [(8, .long y1), (11, .int s0), (0, .int x0), (1, .int x1), (2, .int x2), (3, .int x3), (4, .long x4), (6, .long x6), (10, .int x10)]) dX11_limbOf_42 (Nat.le_of_ble_eq_true rfl) rfl ?_
  refine e_lload (pc := 44) dX11_limbOf_44 7 rfl ?_
  refine e_iload (pc := 46) dX11_limbOf_46 1 rfl ?_
  refine e_i2l (pc := 48) dX11_limbOf_48 ?_
  refine e_lmul (pc := 49) dX11_limbOf_49 ?_
  refine e_lload (pc := 50) dX11_limbOf_50 0 rfl ?_
  refine e_lload (pc := 52) dX11_limbOf_52 6 rfl ?_
  refine e_ldivG (pc := 54) dX11_limbOf_54 (fun v2 => ?_)
  refine e_ladd (pc := 55) dX11_limbOf_55 ?_
  refine e_nameL (fun y3 => ?_)
  refine e_lstore (pc := 56) (lv' := [(6, .long y3), (8, .long y1), (11, .int s0), (0, .int x0), (1, .int x1), (2, .int x2), (3, .int x3), (4, .long x4), (10, .int x10)]) dX11_limbOf_56 (Nat.le_of_ble_eq_true rfl) rfl ?_
  refine e_lload (pc := 58) dX11_limbOf_58 1 rfl ?_
  refine e_lload (pc := 60) dX11_limbOf_60 7 rfl ?_
  refine e_lremG (pc := 62) dX11_limbOf_62 (fun v4 => ?_)
  refine e_lstore (pc := 63) (lv' := [(8, .long v4), (6, .long y3), (11, .int s0), (0, .int x0), (1, .int x1), (2, .int x2), (3, .int x3), (4, .long x4), (10, .int x10)]) dX11_limbOf_63 (Nat.le_of_ble_eq_true rfl) rfl ?_
  refine e_iinc (pc := 65) (lv' := [(10, .int (x10 + (1 : Int32))), (8, .long v4), (6, .long y3), (11, .int s0), (0, .int x0), (1, .int x1), (2, .int x2), (3, .int x3), (4, .long x4)]) dX11_limbOf_65 8 rfl (ii_1 _) (Nat.le_of_ble_eq_true rfl) rfl ?_
  refine e_goto (pc := 68) (tgt := 14) dX11_limbOf_68 (by decide) ?_
  refine e_lv [4, 5, 6, 7, 8, 2, 1, 0] rfl ?_
  exact hk14 x0 x1 x2 x3 x4 y3 v4 (x10 + (1 : Int32))
set_option maxRecDepth 100000 in
set_option maxHeartbeats 4000000 in
theorem cb_X11_limbOf_b14_y (X : Xt) (w : Wd) (k14 : Int32 → Int32 → Int32 → Int32 → Int64 → Int64 → Int64 → Int32 → Option Int64) (hk14 : ∀ (x0 : Int32) (x1 : Int32) (x2 : Int32) (x3 : Int32) (x4 : Int64) (x6 : Int64) (x8 : Int64) (x10 : Int32), E (gRL w) X m_X11_limbOf 1 14 [(0, .int x0), (1, .int x1), (2, .int x2), (3, .int x3), (4, .long x4), (6, .long x6), (8, .long x8), (10, .int x10)] [] w (k14 x0 x1 x2 x3 x4 x6 x8 x10)) (x0 : Int32) (x1 : Int32) (x2 : Int32) (x3 : Int32) (x4 : Int64) (x6 : Int64) (x8 : Int64) (x10 : Int32) : E (gRL w) X m_X11_limbOf 1 14 [(0, .int x0), (1, .int x1), (2, .int x2), (3, .int x3), (4, .long x4), (6, .long x6), (8, .long x8), (10, .int x10)] [] w (f_X11_limbOf_b14_y k14 x0 x1 x2 x3 x4 x6 x8 x10) := by
  unfold f_X11_limbOf_b14_y
  refine e_iload (pc := 14) dX11_limbOf_14 7 rfl ?_
  refine e_iload_n (pc := 16) dX11_limbOf_16 1 rfl rfl ?_
  refine e_icmp_ge (pc := 17) (tgt := 71) dX11_limbOf_17 (by decide) (fun _ => ?_) (fun _ => ?_)
  · refine e_iload_n (pc := 71) dX11_limbOf_71 3 rfl rfl ?_
    refine e_if_eq (pc := 72) (tgt := 80) dX11_limbOf_72 (by decide) (fun _ => ?_) (fun _ => ?_)
    · refine e_lload (pc := 80) dX11_limbOf_80 6 rfl ?_
      exact e_lretR rfl dX11_limbOf_82
    · refine e_lload (pc := 75) dX11_limbOf_75 5 rfl ?_
      refine e_goto (pc := 77) (tgt := 82) dX11_limbOf_77 (by decide) ?_
      exact e_lretR rfl dX11_limbOf_82
  · refine e_iload (pc := 20) dX11_limbOf_20 7 rfl ?_
    refine e_iload_n (pc := 22) dX11_limbOf_22 2 rfl rfl ?_
    refine e_icmp_ge (pc := 23) (tgt := 30) dX11_limbOf_23 (by decide) (fun _ => ?_) (fun _ => ?_)
    · refine e_bipush (pc := 30) (v := (12 : Int32)) dX11_limbOf_30 bp_12 ?_
      refine e_iload_n (pc := 32) dX11_limbOf_32 0 rfl rfl ?_
      refine e_isub (pc := 33) dX11_limbOf_33 ?_
      refine e_lv [0, 1, 2, 3, 4, 5, 6, 7] rfl ?_
      exact cb_X11_limbOf_b34 X w k14 hk14 x0 x1 x2 x3 x4 x6 x8 x10 ((12 : Int32) - x0)
    · refine e_iload_n (pc := 26) dX11_limbOf_26 0 rfl rfl ?_
      refine e_goto (pc := 27) (tgt := 34) dX11_limbOf_27 (by decide) ?_
      refine e_lv [0, 1, 2, 3, 4, 5, 6, 7] rfl ?_
      exact cb_X11_limbOf_b34 X w k14 hk14 x0 x1 x2 x3 x4 x6 x8 x10 x0
theorem cb_X11_limbOf_b14 (X : Xt) (w : Wd) : ∀ (n : Nat) (x0 : Int32) (x1 : Int32) (x2 : Int32) (x3 : Int32) (x4 : Int64) (x6 : Int64) (x8 : Int64) (x10 : Int32), E (gRL w) X m_X11_limbOf 1 14 [(0, .int x0), (1, .int x1), (2, .int x2), (3, .int x3), (4, .long x4), (6, .long x6), (8, .long x8), (10, .int x10)] [] w (f_X11_limbOf_b14 n x0 x1 x2 x3 x4 x6 x8 x10) := by
  intro n
  induction n with
  | zero =>
    intro x0 x1 x2 x3 x4 x6 x8 x10
    exact E_none
  | succ n ih =>
    intro x0 x1 x2 x3 x4 x6 x8 x10
    exact cb_X11_limbOf_b14_y X w _ ih x0 x1 x2 x3 x4 x6 x8 x10
set_option maxRecDepth 100000 in
set_option maxHeartbeats 4000000 in
theorem ce_X11_limbOf (X : Xt) (a0 : Int32) (a1 : Int32) (a2 : Int32) (a3 : Int32) (w : Wd) : E (gRL w) X m_X11_limbOf 1 0 [(0, .int a0), (1, .int a1), (2, .int a2), (3, .int a3)] [] w (f_X11_limbOf a0 a1 a2 a3) := by
  unfold f_X11_limbOf
  refine e_ldc2 (pc := 0) (v := (1099511627776 : Int64)) dX11_limbOf_0 cl_X11_404 ?_
  refine e_lstore (pc := 3) (lv' := [(4, .long (1099511627776 : Int64)), (0, .int a0), (1, .int a1), (2, .int a2), (3, .int a3)]) dX11_limbOf_3 (Nat.le_of_ble_eq_true rfl) rfl ?_
  refine e_lconst (pc := 5) (v := (0 : Int64)) dX11_limbOf_5 lc_0 ?_
  refine e_lstore (pc := 6) (lv' := [(6, .long (0 : Int64)), (4, .long (1099511627776 : Int64)), (0, .int a0), (1, .int a1), (2, .int a2), (3, .int a3)]) dX11_limbOf_6 (Nat.le_of_ble_eq_true rfl) rfl ?_
  refine e_lconst (pc := 8) (v := (1 : Int64)) dX11_limbOf_8 lc_1 ?_
  refine e_lstore (pc := 9) (lv' := [(8, .long (1 : Int64)), (6, .long (0 : Int64)), (4, .long (1099511627776 : Int64)), (0, .int a0), (1, .int a1), (2, .int a2), (3, .int a3)]) dX11_limbOf_9 (Nat.le_of_ble_eq_true rfl) rfl ?_
  refine e_iconst (pc := 11) (v := (0 : Int32)) dX11_limbOf_11 ic_0 ?_
  refine e_istore (pc := 12) (lv' := [(10, .int (0 : Int32)), (8, .long (1 : Int64)), (6, .long (0 : Int64)), (4, .long (1099511627776 : Int64)), (0, .int a0), (1, .int a1), (2, .int a2), (3, .int a3)]) dX11_limbOf_12 (Nat.le_of_ble_eq_true rfl) rfl ?_
  refine e_lv [4, 5, 6, 7, 3, 2, 1, 0] rfl ?_
  exact cb_X11_limbOf_b14 X w fu a0 a1 a2 a3 (1099511627776 : Int64) (0 : Int64) (1 : Int64) (0 : Int32)
theorem cf_X11_limbOf (X : Xt) (a0 : Int32) (a1 : Int32) (a2 : Int32) (a3 : Int32) (w : Wd) : CF (gRL w) X m_X11_limbOf 1 [.int a0, .int a1, .int a2, .int a3] w (f_X11_limbOf a0 a1 a2 a3) := CF_of (by decide) (Nat.le_of_ble_eq_true rfl) (ce_X11_limbOf X a0 a1 a2 a3 w)
set_option maxRecDepth 100000 in
set_option maxHeartbeats 4000000 in
theorem ce_X11_isLikelier (X : Xt) (a0 : Int32) (a1 : Int32) (a2 : Int32) (a3 : Int32) (w : Wd) : E (gRI w) X m_X11_isLikelier 2 0 [(0, .int a0), (1, .int a1), (2, .int a2), (3, .int a3)] [] w (f_X11_isLikelier a0 a1 a2 a3) := by
  unfold f_X11_isLikelier
  refine e_iload_n (pc := 0) dX11_isLikelier_0 0 rfl rfl ?_
  refine e_iload_n (pc := 1) dX11_isLikelier_1 2 rfl rfl ?_
  refine e_iload_n (pc := 2) dX11_isLikelier_2 3 rfl rfl ?_
  refine e_iconst (pc := 3) (v := (1 : Int32)) dX11_isLikelier_3 ic_1 ?_
  refine e_callSRL (pc := 4) (As := [.int a0, .int a2, .int a3, .int (1 : Int32)]) (rest := []) (cf_X11_limbOf X a0 a2 a3 (1 : Int32) w) lk_X11_400 (Nat.le_of_ble_eq_true rfl) (Nat.le_of_ble_eq_true rfl) rfl rfl (Nat.le_of_ble_eq_true rfl) dX11_isLikelier_4 (fun r1 => ?_)
  refine e_lstore (pc := 7) (lv' := [(4, .long r1), (0, .int a0), (1, .int a1), (2, .int a2), (3, .int a3)]) dX11_isLikelier_7 (Nat.le_of_ble_eq_true rfl) rfl ?_
  refine e_iload_n (pc := 9) dX11_isLikelier_9 2 rfl rfl ?_
  refine e_iload_n (pc := 10) dX11_isLikelier_10 3 rfl rfl ?_
  refine e_iload_n (pc := 11) dX11_isLikelier_11 4 rfl rfl ?_
  refine e_iconst (pc := 12) (v := (1 : Int32)) dX11_isLikelier_12 ic_1 ?_
  refine e_callSRL (pc := 13) (As := [.int a1, .int a2, .int a3, .int (1 : Int32)]) (rest := []) (cf_X11_limbOf X a1 a2 a3 (1 : Int32) w) lk_X11_400 (Nat.le_of_ble_eq_true rfl) (Nat.le_of_ble_eq_true rfl) rfl rfl (Nat.le_of_ble_eq_true rfl) dX11_isLikelier_13 (fun r2 => ?_)
  refine e_lstore (pc := 16) (lv' := [(6, .long r2), (4, .long r1), (0, .int a0), (1, .int a1), (2, .int a2), (3, .int a3)]) dX11_isLikelier_16 (Nat.le_of_ble_eq_true rfl) rfl ?_
  refine e_lload (pc := 18) dX11_isLikelier_18 1 rfl ?_
  refine e_lload (pc := 20) dX11_isLikelier_20 0 rfl ?_
  refine e_lcmp_gt (pc := 22) (tgt := 52) dX11_isLikelier_22 dX11_isLikelier_23 (by decide) (fun _ => ?_) (fun _ => ?_)
  · refine e_iconst (pc := 52) (v := (1 : Int32)) dX11_isLikelier_52 ic_1 ?_
    refine e_goto (pc := 53) (tgt := 57) dX11_isLikelier_53 (by decide) ?_
    exact e_zretR0 rfl (by decide) dX11_isLikelier_57
  · refine e_lload (pc := 26) dX11_isLikelier_26 1 rfl ?_
    refine e_lload (pc := 28) dX11_isLikelier_28 0 rfl ?_
    refine e_lcmp_ne (pc := 30) (tgt := 56) dX11_isLikelier_30 dX11_isLikelier_31 (by decide) (fun _ => ?_) (fun _ => ?_)
    · refine e_iload_n (pc := 34) dX11_isLikelier_34 2 rfl rfl ?_
      refine e_iload_n (pc := 35) dX11_isLikelier_35 4 rfl rfl ?_
      refine e_iload_n (pc := 36) dX11_isLikelier_36 5 rfl rfl ?_
      refine e_iconst (pc := 37) (v := (0 : Int32)) dX11_isLikelier_37 ic_0 ?_
      refine e_callSRL (pc := 38) (As := [.int a0, .int a2, .int a3, .int (0 : Int32)]) (rest := []) (cf_X11_limbOf X a0 a2 a3 (0 : Int32) w) lk_X11_400 (Nat.le_of_ble_eq_true rfl) (Nat.le_of_ble_eq_true rfl) rfl rfl (Nat.le_of_ble_eq_true rfl) dX11_isLikelier_38 (fun r3 => ?_)
      refine e_iload_n (pc := 41) dX11_isLikelier_41 3 rfl rfl ?_
      refine e_iload_n (pc := 42) dX11_isLikelier_42 4 rfl rfl ?_
      refine e_iload_n (pc := 43) dX11_isLikelier_43 5 rfl rfl ?_
      refine e_iconst (pc := 44) (v := (0 : Int32)) dX11_isLikelier_44 ic_0 ?_
      refine e_callSRL (pc := 45) (As := [.int a1, .int a2, .int a3, .int (0 : Int32)]) (rest := [.long r3]) (cf_X11_limbOf X a1 a2 a3 (0 : Int32) w) lk_X11_400 (Nat.le_of_ble_eq_true rfl) (Nat.le_of_ble_eq_true rfl) rfl rfl (Nat.le_of_ble_eq_true rfl) dX11_isLikelier_45 (fun r4 => ?_)
      refine e_lcmp_le (pc := 48) (tgt := 56) dX11_isLikelier_48 dX11_isLikelier_49 (by decide) (fun _ => ?_) (fun _ => ?_)
      · refine e_iconst (pc := 56) (v := (0 : Int32)) dX11_isLikelier_56 ic_0 ?_
        exact e_zretR0 rfl (by decide) dX11_isLikelier_57
      · refine e_iconst (pc := 52) (v := (1 : Int32)) dX11_isLikelier_52 ic_1 ?_
        refine e_goto (pc := 53) (tgt := 57) dX11_isLikelier_53 (by decide) ?_
        exact e_zretR0 rfl (by decide) dX11_isLikelier_57
    · refine e_iconst (pc := 56) (v := (0 : Int32)) dX11_isLikelier_56 ic_0 ?_
      exact e_zretR0 rfl (by decide) dX11_isLikelier_57
theorem cf_X11_isLikelier (X : Xt) (a0 : Int32) (a1 : Int32) (a2 : Int32) (a3 : Int32) (w : Wd) : CF (gRI w) X m_X11_isLikelier 2 [.int a0, .int a1, .int a2, .int a3] w (f_X11_isLikelier a0 a1 a2 a3) := CF_of (by decide) (Nat.le_of_ble_eq_true rfl) (ce_X11_isLikelier X a0 a1 a2 a3 w)
set_option maxRecDepth 100000 in
set_option maxHeartbeats 4000000 in
theorem cb_X11_likeliestTwelfths_b22 (X : Xt) (w : Wd) (k4 : Int32 → Int32 → Int32 → Int32 → Option Int32) (hk4 : ∀ (x0 : Int32) (x1 : Int32) (x2 : Int32) (x3 : Int32), E (gRI w) X m_X11_likeliestTwelfths 3 4 [(0, .int x0), (1, .int x1), (2, .int x2), (3, .int x3)] [] w (k4 x0 x1 x2 x3)) (x0 : Int32) (x1 : Int32) (x2 : Int32) (x3 : Int32) : E (gRI w) X m_X11_likeliestTwelfths 3 22 [(0, .int x0), (1, .int x1), (2, .int x2), (3, .int x3)] [] w (f_X11_likeliestTwelfths_b22 k4 x0 x1 x2 x3) := by
  unfold f_X11_likeliestTwelfths_b22
  refine e_iinc (pc := 22) (lv' := [(3, .int (x3 + (1 : Int32))), (0, .int x0), (1, .int x1), (2, .int x2)]) dX11_likeliestTwelfths_22 3 rfl (ii_1 _) (Nat.le_of_ble_eq_true rfl) rfl ?_
  refine e_goto (pc := 25) (tgt := 4) dX11_likeliestTwelfths_25 (by decide) ?_
  refine e_lv [1, 2, 3, 0] rfl ?_
  exact hk4 x0 x1 x2 (x3 + (1 : Int32))
set_option maxRecDepth 100000 in
set_option maxHeartbeats 4000000 in
theorem cb_X11_likeliestTwelfths_b4_y (X : Xt) (w : Wd) (k4 : Int32 → Int32 → Int32 → Int32 → Option Int32) (hk4 : ∀ (x0 : Int32) (x1 : Int32) (x2 : Int32) (x3 : Int32), E (gRI w) X m_X11_likeliestTwelfths 3 4 [(0, .int x0), (1, .int x1), (2, .int x2), (3, .int x3)] [] w (k4 x0 x1 x2 x3)) (x0 : Int32) (x1 : Int32) (x2 : Int32) (x3 : Int32) : E (gRI w) X m_X11_likeliestTwelfths 3 4 [(0, .int x0), (1, .int x1), (2, .int x2), (3, .int x3)] [] w (f_X11_likeliestTwelfths_b4_y k4 x0 x1 x2 x3) := by
  unfold f_X11_likeliestTwelfths_b4_y
  refine e_iload_n (pc := 4) dX11_likeliestTwelfths_4 3 rfl rfl ?_
  refine e_bipush (pc := 5) (v := (12 : Int32)) dX11_likeliestTwelfths_5 bp_12 ?_
  refine e_icmp_gt (pc := 7) (tgt := 28) dX11_likeliestTwelfths_7 (by decide) (fun _ => ?_) (fun _ => ?_)
  · refine e_iload_n (pc := 28) dX11_likeliestTwelfths_28 2 rfl rfl ?_
    exact e_iretR rfl dX11_likeliestTwelfths_29
  · refine e_iload_n (pc := 10) dX11_likeliestTwelfths_10 3 rfl rfl ?_
    refine e_iload_n (pc := 11) dX11_likeliestTwelfths_11 2 rfl rfl ?_
    refine e_iload_n (pc := 12) dX11_likeliestTwelfths_12 0 rfl rfl ?_
    refine e_iload_n (pc := 13) dX11_likeliestTwelfths_13 1 rfl rfl ?_
    refine e_callSRI (pc := 14) (As := [.int x3, .int x2, .int x0, .int x1]) (rest := []) (cf_X11_isLikelier X x3 x2 x0 x1 w) lk_X11_396 (Nat.le_of_ble_eq_true rfl) (Nat.le_of_ble_eq_true rfl) rfl rfl (Nat.le_of_ble_eq_true rfl) dX11_likeliestTwelfths_14 (fun r1 => ?_)
    refine e_if_eq (pc := 17) (tgt := 22) dX11_likeliestTwelfths_17 (by decide) (fun _ => ?_) (fun _ => ?_)
    · refine e_lv [0, 1, 2, 3] rfl ?_
      exact cb_X11_likeliestTwelfths_b22 X w k4 hk4 x0 x1 x2 x3
    · refine e_iload_n (pc := 20) dX11_likeliestTwelfths_20 3 rfl rfl ?_
      refine e_istore_n (pc := 21) (lv' := [(2, .int x3), (0, .int x0), (1, .int x1), (3, .int x3)]) dX11_likeliestTwelfths_21 rfl (Nat.le_of_ble_eq_true rfl) rfl ?_
      refine e_lv [1, 2, 0, 3] rfl ?_
      exact cb_X11_likeliestTwelfths_b22 X w k4 hk4 x0 x1 x3 x3
theorem cb_X11_likeliestTwelfths_b4 (X : Xt) (w : Wd) : ∀ (n : Nat) (x0 : Int32) (x1 : Int32) (x2 : Int32) (x3 : Int32), E (gRI w) X m_X11_likeliestTwelfths 3 4 [(0, .int x0), (1, .int x1), (2, .int x2), (3, .int x3)] [] w (f_X11_likeliestTwelfths_b4 n x0 x1 x2 x3) := by
  intro n
  induction n with
  | zero =>
    intro x0 x1 x2 x3
    exact E_none
  | succ n ih =>
    intro x0 x1 x2 x3
    exact cb_X11_likeliestTwelfths_b4_y X w _ ih x0 x1 x2 x3
set_option maxRecDepth 100000 in
set_option maxHeartbeats 4000000 in
theorem ce_X11_likeliestTwelfths (X : Xt) (a0 : Int32) (a1 : Int32) (w : Wd) : E (gRI w) X m_X11_likeliestTwelfths 3 0 [(0, .int a0), (1, .int a1)] [] w (f_X11_likeliestTwelfths a0 a1) := by
  unfold f_X11_likeliestTwelfths
  refine e_iconst (pc := 0) (v := (0 : Int32)) dX11_likeliestTwelfths_0 ic_0 ?_
  refine e_istore_n (pc := 1) (lv' := [(2, .int (0 : Int32)), (0, .int a0), (1, .int a1)]) dX11_likeliestTwelfths_1 rfl (Nat.le_of_ble_eq_true rfl) rfl ?_
  refine e_iconst (pc := 2) (v := (1 : Int32)) dX11_likeliestTwelfths_2 ic_1 ?_
  refine e_istore_n (pc := 3) (lv' := [(3, .int (1 : Int32)), (2, .int (0 : Int32)), (0, .int a0), (1, .int a1)]) dX11_likeliestTwelfths_3 rfl (Nat.le_of_ble_eq_true rfl) rfl ?_
  refine e_lv [2, 3, 1, 0] rfl ?_
  exact cb_X11_likeliestTwelfths_b4 X w fu a0 a1 (0 : Int32) (1 : Int32)
theorem cf_X11_likeliestTwelfths (X : Xt) (a0 : Int32) (a1 : Int32) (w : Wd) : CF (gRI w) X m_X11_likeliestTwelfths 3 [.int a0, .int a1] w (f_X11_likeliestTwelfths a0 a1) := CF_of (by decide) (Nat.le_of_ble_eq_true rfl) (ce_X11_likeliestTwelfths X a0 a1 w)
set_option maxRecDepth 100000 in
set_option maxHeartbeats 4000000 in
theorem ce_X11_seesFor (X : Xt) (a1 : Int32) (w : Wd) : E (gRI w) X m_X11_seesFor 4 0 [(0, .ref (xa X 0)), (1, .int a1)] [] w (f_X11_seesFor a1) := by
  unfold f_X11_seesFor
  refine e_iload_n (pc := 0) dX11_seesFor_0 1 rfl rfl ?_
  refine e_callSRI (pc := 1) (As := [.int a1]) (rest := []) (cf_X11_isPutIn X a1 w) lk_X11_200 (Nat.le_of_ble_eq_true rfl) (Nat.le_of_ble_eq_true rfl) rfl rfl (Nat.le_of_ble_eq_true rfl) dX11_seesFor_1 (fun r1 => ?_)
  refine e_if_eq (pc := 4) (tgt := 21) dX11_seesFor_4 (by decide) (fun _ => ?_) (fun _ => ?_)
  · refine e_iconst (pc := 21) (v := (-1 : Int32)) dX11_seesFor_21 ic_m1 ?_
    exact e_iretR rfl dX11_seesFor_22
  · refine e_iload_n (pc := 7) dX11_seesFor_7 1 rfl rfl ?_
    refine e_bipush (pc := 8) (v := (100 : Int32)) dX11_seesFor_8 bp_100 ?_
    refine e_idiv (pc := 10) dX11_seesFor_10 (by decide) ?_
    refine e_iload_n (pc := 11) dX11_seesFor_11 1 rfl rfl ?_
    refine e_bipush (pc := 12) (v := (100 : Int32)) dX11_seesFor_12 bp_100 ?_
    refine e_irem (pc := 14) dX11_seesFor_14 (by decide) ?_
    refine e_callSRI (pc := 15) (As := [.int (a1 / (100 : Int32)), .int (ire a1 (100 : Int32))]) (rest := []) (cf_X11_likeliestTwelfths X (a1 / (100 : Int32)) (ire a1 (100 : Int32)) w) lk_X11_203 (Nat.le_of_ble_eq_true rfl) (Nat.le_of_ble_eq_true rfl) rfl rfl (Nat.le_of_ble_eq_true rfl) dX11_seesFor_15 (fun r2 => ?_)
    refine e_goto (pc := 18) (tgt := 22) dX11_seesFor_18 (by decide) ?_
    exact e_iretR rfl dX11_seesFor_22
theorem cf_X11_seesFor (X : Xt) (a1 : Int32) (w : Wd) : CF (gRI w) X m_X11_seesFor 4 [.ref (xa X 0), .int a1] w (f_X11_seesFor a1) := CF_of (by decide) (Nat.le_of_ble_eq_true rfl) (ce_X11_seesFor X a1 w)
set_option maxRecDepth 100000 in
set_option maxHeartbeats 4000000 in
theorem ce_X11_besides (X : Xt) (a1 : Int32) (a2 : Int32) (a3 : Int32) (w : Wd) : E (gRL w) X m_X11_besides 4 0 [(0, .ref (xa X 0)), (1, .int a1), (2, .int a2), (3, .int a3)] [] w (f_X11_besides a1 a2 a3) := by
  unfold f_X11_besides
  refine e_iload_n (pc := 0) dX11_besides_0 1 rfl rfl ?_
  refine e_callSRI (pc := 1) (As := [.int a1]) (rest := []) (cf_X11_isPutIn X a1 w) lk_X11_200 (Nat.le_of_ble_eq_true rfl) (Nat.le_of_ble_eq_true rfl) rfl rfl (Nat.le_of_ble_eq_true rfl) dX11_besides_1 (fun r1 => ?_)
  refine e_if_eq (pc := 4) (tgt := 24) dX11_besides_4 (by decide) (fun _ => ?_) (fun _ => ?_)
  · refine e_ldc2 (pc := 24) (v := (-9223372036854775808 : Int64)) dX11_besides_24 cl_X11_148 ?_
    exact e_lretR rfl dX11_besides_27
  · refine e_iload_n (pc := 7) dX11_besides_7 2 rfl rfl ?_
    refine e_if_lt (pc := 8) (tgt := 24) dX11_besides_8 (by decide) (fun _ => ?_) (fun _ => ?_)
    · refine e_ldc2 (pc := 24) (v := (-9223372036854775808 : Int64)) dX11_besides_24 cl_X11_148 ?_
      exact e_lretR rfl dX11_besides_27
    · refine e_iload_n (pc := 11) dX11_besides_11 2 rfl rfl ?_
      refine e_bipush (pc := 12) (v := (99 : Int32)) dX11_besides_12 bp_99 ?_
      refine e_icmp_gt (pc := 14) (tgt := 24) dX11_besides_14 (by decide) (fun _ => ?_) (fun _ => ?_)
      · refine e_ldc2 (pc := 24) (v := (-9223372036854775808 : Int64)) dX11_besides_24 cl_X11_148 ?_
        exact e_lretR rfl dX11_besides_27
      · refine e_iload_n (pc := 17) dX11_besides_17 3 rfl rfl ?_
        refine e_callSRI (pc := 18) (As := [.int a3]) (rest := []) (cf_X11_isPart X a3 w) lk_X11_145 (Nat.le_of_ble_eq_true rfl) (Nat.le_of_ble_eq_true rfl) rfl rfl (Nat.le_of_ble_eq_true rfl) dX11_besides_18 (fun r2 => ?_)
        refine e_if_ne (pc := 21) (tgt := 28) dX11_besides_21 (by decide) (fun _ => ?_) (fun _ => ?_)
        · refine e_ldc2 (pc := 24) (v := (-9223372036854775808 : Int64)) dX11_besides_24 cl_X11_148 ?_
          exact e_lretR rfl dX11_besides_27
        · refine e_iload_n (pc := 28) dX11_besides_28 1 rfl rfl ?_
          refine e_bipush (pc := 29) (v := (100 : Int32)) dX11_besides_29 bp_100 ?_
          refine e_idiv (pc := 31) dX11_besides_31 (by decide) ?_
          refine e_iload_n (pc := 32) dX11_besides_32 1 rfl rfl ?_
          refine e_bipush (pc := 33) (v := (100 : Int32)) dX11_besides_33 bp_100 ?_
          refine e_irem (pc := 35) dX11_besides_35 (by decide) ?_
          refine e_callSRI (pc := 36) (As := [.int (a1 / (100 : Int32)), .int (ire a1 (100 : Int32))]) (rest := []) (cf_X11_likeliestTwelfths X (a1 / (100 : Int32)) (ire a1 (100 : Int32)) w) lk_X11_203 (Nat.le_of_ble_eq_true rfl) (Nat.le_of_ble_eq_true rfl) rfl rfl (Nat.le_of_ble_eq_true rfl) dX11_besides_36 (fun r3 => ?_)
          refine e_istore (pc := 39) (lv' := [(4, .int r3), (0, .ref (xa X 0)), (1, .int a1), (2, .int a2), (3, .int a3)]) dX11_besides_39 (Nat.le_of_ble_eq_true rfl) rfl ?_
          refine e_iload (pc := 41) dX11_besides_41 0 rfl ?_
          refine e_if_ne (pc := 43) (tgt := 52) dX11_besides_43 (by decide) (fun _ => ?_) (fun _ => ?_)
          · refine e_ldc2 (pc := 46) (v := (-2 : Int64)) dX11_besides_46 cl_X11_157 ?_
            refine e_goto (pc := 49) (tgt := 64) dX11_besides_49 (by decide) ?_
            exact e_lretR rfl dX11_besides_64
          · refine e_iload_n (pc := 52) dX11_besides_52 3 rfl rfl ?_
            refine e_bipush (pc := 53) (v := (12 : Int32)) dX11_besides_53 bp_12 ?_
            refine e_imul (pc := 55) dX11_besides_55 ?_
            refine e_i2l (pc := 56) dX11_besides_56 ?_
            refine e_iload (pc := 57) dX11_besides_57 0 rfl ?_
            refine e_i2l (pc := 59) dX11_besides_59 ?_
            refine e_iload_n (pc := 60) dX11_besides_60 4 rfl rfl ?_
            refine e_callSRL (pc := 61) (As := [.long (Int32.toInt64 (a2 * (12 : Int32))), .long (Int32.toInt64 r3), .int a3]) (rest := []) (cf_X11_inLowest X (Int32.toInt64 (a2 * (12 : Int32))) (Int32.toInt64 r3) a3 w) lk_X11_163 (Nat.le_of_ble_eq_true rfl) (Nat.le_of_ble_eq_true rfl) rfl rfl (Nat.le_of_ble_eq_true rfl) dX11_besides_61 (fun r4 => ?_)
            exact e_lretR rfl dX11_besides_64
theorem cf_X11_besides (X : Xt) (a1 : Int32) (a2 : Int32) (a3 : Int32) (w : Wd) : CF (gRL w) X m_X11_besides 4 [.ref (xa X 0), .int a1, .int a2, .int a3] w (f_X11_besides a1 a2 a3) := CF_of (by decide) (Nat.le_of_ble_eq_true rfl) (ce_X11_besides X a1 a2 a3 w)
set_option maxRecDepth 100000 in
set_option maxHeartbeats 4000000 in
theorem cb_X11_falling_b5_y (X : Xt) (w : Wd) (k5 : Int32 → Int32 → Int64 → Int32 → Option Int64) (hk5 : ∀ (x0 : Int32) (x2 : Int32) (x3 : Int64) (x5 : Int32), E (gRL w) X m_X11_falling 1 5 [(0, .int x0), (2, .int x2), (3, .long x3), (5, .int x5)] [] w (k5 x0 x2 x3 x5)) (x0 : Int32) (x2 : Int32) (x3 : Int64) (x5 : Int32) : E (gRL w) X m_X11_falling 1 5 [(0, .int x0), (2, .int x2), (3, .long x3), (5, .int x5)] [] w (f_X11_falling_b5_y k5 x0 x2 x3 x5) := by
  unfold f_X11_falling_b5_y
  refine e_iload (pc := 5) dX11_falling_5 3 rfl ?_
  refine e_iload_n (pc := 7) dX11_falling_7 1 rfl rfl ?_
  refine e_icmp_ge (pc := 8) (tgt := 25) dX11_falling_8 (by decide) (fun _ => ?_) (fun _ => ?_)
  · refine e_lload_n (pc := 25) dX11_falling_25 2 rfl rfl ?_
    exact e_lretR rfl dX11_falling_26
  · refine e_lload_n (pc := 11) dX11_falling_11 2 rfl rfl ?_
    refine e_iload_n (pc := 12) dX11_falling_12 0 rfl rfl ?_
    refine e_iload (pc := 13) dX11_falling_13 3 rfl ?_
    refine e_isub (pc := 15) dX11_falling_15 ?_
    refine e_i2l (pc := 16) dX11_falling_16 ?_
    refine e_lmul (pc := 17) dX11_falling_17 ?_
    refine e_nameL (fun y1 => ?_)
    refine e_lstore_n (pc := 18) (lv' := [(3, .long y1), (0, .int x0), (2, .int x2), (5, .int x5)]) dX11_falling_18 rfl (Nat.le_of_ble_eq_true rfl) rfl ?_
    refine e_iinc (pc := 19) (lv' := [(5, .int (x5 + (1 : Int32))), (3, .long y1), (0, .int x0), (2, .int x2)]) dX11_falling_19 3 rfl (ii_1 _) (Nat.le_of_ble_eq_true rfl) rfl ?_
    refine e_goto (pc := 22) (tgt := 5) dX11_falling_22 (by decide) ?_
    refine e_lv [2, 3, 1, 0] rfl ?_
    exact hk5 x0 x2 y1 (x5 + (1 : Int32))
theorem cb_X11_falling_b5 (X : Xt) (w : Wd) : ∀ (n : Nat) (x0 : Int32) (x2 : Int32) (x3 : Int64) (x5 : Int32), E (gRL w) X m_X11_falling 1 5 [(0, .int x0), (2, .int x2), (3, .long x3), (5, .int x5)] [] w (f_X11_falling_b5 n x0 x2 x3 x5) := by
  intro n
  induction n with
  | zero =>
    intro x0 x2 x3 x5
    exact E_none
  | succ n ih =>
    intro x0 x2 x3 x5
    exact cb_X11_falling_b5_y X w _ ih x0 x2 x3 x5
set_option maxRecDepth 100000 in
set_option maxHeartbeats 4000000 in
theorem ce_X11_falling (X : Xt) (a0 : Int32) (a1 : Int32) (a2 : Int32) (w : Wd) : E (gRL w) X m_X11_falling 1 0 [(0, .int a0), (1, .int a1), (2, .int a2)] [] w (f_X11_falling a0 a1 a2) := by
  unfold f_X11_falling
  refine e_lconst (pc := 0) (v := (1 : Int64)) dX11_falling_0 lc_1 ?_
  refine e_lstore_n (pc := 1) (lv' := [(3, .long (1 : Int64)), (0, .int a0), (1, .int a1), (2, .int a2)]) dX11_falling_1 rfl (Nat.le_of_ble_eq_true rfl) rfl ?_
  refine e_iload_n (pc := 2) dX11_falling_2 2 rfl rfl ?_
  refine e_istore (pc := 3) (lv' := [(5, .int a1), (3, .long (1 : Int64)), (0, .int a0), (1, .int a1), (2, .int a2)]) dX11_falling_3 (Nat.le_of_ble_eq_true rfl) rfl ?_
  refine e_lv [2, 4, 1, 0] rfl ?_
  exact cb_X11_falling_b5 X w fu a0 a2 (1 : Int64) a1
theorem cf_X11_falling (X : Xt) (a0 : Int32) (a1 : Int32) (a2 : Int32) (w : Wd) : CF (gRL w) X m_X11_falling 1 [.int a0, .int a1, .int a2] w (f_X11_falling a0 a1 a2) := CF_of (by decide) (Nat.le_of_ble_eq_true rfl) (ce_X11_falling X a0 a1 a2 w)
set_option maxRecDepth 100000 in
set_option maxHeartbeats 4000000 in
theorem cb_X11_handful_b190 (X : Xt) (w : Wd) (x3 : Int32) (x4 : Int32) (x8 : Int64) (x10 : Int64) (x12 : Int64) (x14 : Int64) : E (gRL w) X m_X11_handful 4 190 [(3, .int x3), (4, .int x4), (8, .long x8), (10, .long x10), (12, .long x12), (14, .long x14)] [] w (f_X11_handful_b190 w x3 x4 x8 x10 x12 x14) := by
  unfold f_X11_handful_b190
  refine e_iload_n (pc := 190) dX11_handful_190 0 rfl rfl ?_
  refine e_if_ne (pc := 191) (tgt := 207) dX11_handful_191 (by decide) (fun _ => ?_) (fun _ => ?_)
  · refine e_lload (pc := 194) dX11_handful_194 3 rfl ?_
    refine e_lload (pc := 196) dX11_handful_196 2 rfl ?_
    refine e_lload (pc := 198) dX11_handful_198 4 rfl ?_
    refine e_lmul (pc := 200) dX11_handful_200 ?_
    refine e_iload (pc := 201) dX11_handful_201 1 rfl ?_
    refine e_callSRL (pc := 203) (As := [.long x10, .long (x8 * x12), .int x4]) (rest := []) (cf_X11_inLowest X x10 (x8 * x12) x4 w) lk_X11_163 (Nat.le_of_ble_eq_true rfl) (Nat.le_of_ble_eq_true rfl) rfl rfl (Nat.le_of_ble_eq_true rfl) dX11_handful_203 (fun r10 => ?_)
    exact e_lretR rfl dX11_handful_206
  · refine e_lload (pc := 207) dX11_handful_207 3 rfl ?_
    refine e_lconst (pc := 209) (v := (0 : Int64)) dX11_handful_209 lc_0 ?_
    refine e_lcmp_ne (pc := 210) (tgt := 220) dX11_handful_210 dX11_handful_211 (by decide) (fun _ => ?_) (fun _ => ?_)
    · refine e_ldc2 (pc := 214) (v := (-2 : Int64)) dX11_handful_214 cl_X11_157 ?_
      refine e_goto (pc := 217) (tgt := 229) dX11_handful_217 (by decide) ?_
      exact e_lretR rfl dX11_handful_229
    · refine e_lload (pc := 220) dX11_handful_220 5 rfl ?_
      refine e_lload (pc := 222) dX11_handful_222 3 rfl ?_
      refine e_iload (pc := 224) dX11_handful_224 1 rfl ?_
      refine e_callSRL (pc := 226) (As := [.long x14, .long x10, .int x4]) (rest := []) (cf_X11_inLowest X x14 x10 x4 w) lk_X11_163 (Nat.le_of_ble_eq_true rfl) (Nat.le_of_ble_eq_true rfl) rfl rfl (Nat.le_of_ble_eq_true rfl) dX11_handful_226 (fun r9 => ?_)
      exact e_lretR rfl dX11_handful_229
set_option maxRecDepth 100000 in
set_option maxHeartbeats 4000000 in
theorem cb_X11_handful_b85_y (X : Xt) (w : Wd) (k85 : Int32 → Int32 → Int32 → Int32 → Int32 → Int32 → Int64 → Int64 → Int32 → Option Int64) (hk85 : ∀ (x1 : Int32) (x3 : Int32) (x4 : Int32) (x5 : Int32) (x6 : Int32) (x7 : Int32) (x8 : Int64) (x10 : Int64) (x12 : Int32), E (gRL w) X m_X11_handful 4 85 [(0, .ref (xa X 0)), (1, .int x1), (3, .int x3), (4, .int x4), (5, .int x5), (6, .int x6), (7, .int x7), (8, .long x8), (10, .long x10), (12, .int x12)] [] w (k85 x1 x3 x4 x5 x6 x7 x8 x10 x12)) (x1 : Int32) (x3 : Int32) (x4 : Int32) (x5 : Int32) (x6 : Int32) (x7 : Int32) (x8 : Int64) (x10 : Int64) (x12 : Int32) : E (gRL w) X m_X11_handful 4 85 [(0, .ref (xa X 0)), (1, .int x1), (3, .int x3), (4, .int x4), (5, .int x5), (6, .int x6), (7, .int x7), (8, .long x8), (10, .long x10), (12, .int x12)] [] w (f_X11_handful_b85_y w k85 x1 x3 x4 x5 x6 x7 x8 x10 x12) := by
  unfold f_X11_handful_b85_y
  refine e_iload (pc := 85) dX11_handful_85 9 rfl ?_
  refine e_iload (pc := 87) dX11_handful_87 6 rfl ?_
  refine e_icmp_gt (pc := 89) (tgt := 147) dX11_handful_89 (by decide) (fun _ => ?_) (fun _ => ?_)
  · refine e_iload (pc := 147) dX11_handful_147 4 rfl ?_
    refine e_iconst (pc := 149) (v := (0 : Int32)) dX11_handful_149 ic_0 ?_
    refine e_iload (pc := 150) dX11_handful_150 6 rfl ?_
    refine e_callSRL (pc := 152) (As := [.int x5, .int (0 : Int32), .int x7]) (rest := []) (cf_X11_falling X x5 (0 : Int32) x7 w) lk_X11_211 (Nat.le_of_ble_eq_true rfl) (Nat.le_of_ble_eq_true rfl) rfl rfl (Nat.le_of_ble_eq_true rfl) dX11_handful_152 (fun r6 => ?_)
    refine e_lstore (pc := 155) (lv' := [(12, .long r6), (0, .ref (xa X 0)), (1, .int x1), (3, .int x3), (4, .int x4), (5, .int x5), (6, .int x6), (7, .int x7), (8, .long x8), (10, .long x10)]) dX11_handful_155 (Nat.le_of_ble_eq_true rfl) rfl ?_
    refine e_aload_n (pc := 157) dX11_handful_157 1 rfl rfl ?_
    refine g_R (pc := 158) (cl' := 1) kk0 fl_X11_10 rfl dX11_handful_158 ?_
    refine e_iload_n (pc := 161) dX11_handful_161 2 rfl rfl ?_
    refine e_iconst (pc := 162) (v := (0 : Int32)) dX11_handful_162 ic_0 ?_
    refine e_callVRI (pc := 163) (As := [.int x1, .int (0 : Int32)]) (rest := []) kk1 Kc6 (cf_X6_get X x1 (0 : Int32) w) lk_X11_122 (Nat.le_of_ble_eq_true rfl) (Nat.le_of_ble_eq_true rfl) rfl rfl (Nat.le_of_ble_eq_true rfl) dX11_handful_163 (fun r7 => ?_)
    refine e_i2l (pc := 166) dX11_handful_166 ?_
    refine e_lload (pc := 167) dX11_handful_167 0 rfl ?_
    refine e_lmul (pc := 169) dX11_handful_169 ?_
    refine e_nameL (fun y8 => ?_)
    refine e_lstore (pc := 170) (lv' := [(14, .long y8), (12, .long r6), (0, .ref (xa X 0)), (1, .int x1), (3, .int x3), (4, .int x4), (5, .int x5), (6, .int x6), (7, .int x7), (8, .long x8), (10, .long x10)]) dX11_handful_170 (Nat.le_of_ble_eq_true rfl) rfl ?_
    refine e_lload (pc := 172) dX11_handful_172 9 rfl ?_
    refine e_lconst (pc := 174) (v := (0 : Int64)) dX11_handful_174 lc_0 ?_
    refine e_lcmp_ne (pc := 175) (tgt := 190) dX11_handful_175 dX11_handful_176 (by decide) (fun _ => ?_) (fun _ => ?_)
    · refine e_lconst (pc := 179) (v := (1 : Int64)) dX11_handful_179 lc_1 ?_
      refine e_lstore (pc := 180) (lv' := [(8, .long (1 : Int64)), (14, .long y8), (12, .long r6), (0, .ref (xa X 0)), (1, .int x1), (3, .int x3), (4, .int x4), (5, .int x5), (6, .int x6), (7, .int x7), (10, .long x10)]) dX11_handful_180 (Nat.le_of_ble_eq_true rfl) rfl ?_
      refine e_lload (pc := 182) dX11_handful_182 2 rfl ?_
      refine e_lstore (pc := 184) (lv' := [(10, .long r6), (8, .long (1 : Int64)), (14, .long y8), (12, .long r6), (0, .ref (xa X 0)), (1, .int x1), (3, .int x3), (4, .int x4), (5, .int x5), (6, .int x6), (7, .int x7)]) dX11_handful_184 (Nat.le_of_ble_eq_true rfl) rfl ?_
      refine e_lload (pc := 186) dX11_handful_186 3 rfl ?_
      refine e_lstore (pc := 188) (lv' := [(14, .long r6), (10, .long r6), (8, .long (1 : Int64)), (12, .long r6), (0, .ref (xa X 0)), (1, .int x1), (3, .int x3), (4, .int x4), (5, .int x5), (6, .int x6), (7, .int x7)]) dX11_handful_188 (Nat.le_of_ble_eq_true rfl) rfl ?_
      refine e_lv [6, 7, 2, 1, 3, 0] rfl ?_
      exact cb_X11_handful_b190 X w x3 x4 (1 : Int64) r6 r6 r6
    · refine e_lv [4, 5, 9, 10, 1, 0] rfl ?_
      exact cb_X11_handful_b190 X w x3 x4 x8 x10 r6 y8
  · refine e_aload_n (pc := 92) dX11_handful_92 0 rfl rfl ?_
    refine g_R (pc := 93) (cl' := 1) kk0 fl_X11_10 rfl dX11_handful_93 ?_
    refine e_iload_n (pc := 96) dX11_handful_96 1 rfl rfl ?_
    refine e_iload (pc := 97) dX11_handful_97 9 rfl ?_
    refine e_callVRI (pc := 99) (As := [.int x1, .int x12]) (rest := []) kk1 Kc6 (cf_X6_get X x1 x12 w) lk_X11_122 (Nat.le_of_ble_eq_true rfl) (Nat.le_of_ble_eq_true rfl) rfl rfl (Nat.le_of_ble_eq_true rfl) dX11_handful_99 (fun r11 => ?_)
    refine e_i2l (pc := 102) dX11_handful_102 ?_
    refine e_nameL (fun y12 => ?_)
    refine e_lstore (pc := 103) (lv' := [(13, .long y12), (0, .ref (xa X 0)), (1, .int x1), (3, .int x3), (4, .int x4), (5, .int x5), (6, .int x6), (7, .int x7), (8, .long x8), (10, .long x10), (12, .int x12)]) dX11_handful_103 (Nat.le_of_ble_eq_true rfl) rfl ?_
    refine e_lload (pc := 105) dX11_handful_105 8 rfl ?_
    refine e_lload (pc := 107) dX11_handful_107 0 rfl ?_
    refine e_ladd (pc := 109) dX11_handful_109 ?_
    refine e_nameL (fun y13 => ?_)
    refine e_lstore (pc := 110) (lv' := [(8, .long y13), (13, .long y12), (0, .ref (xa X 0)), (1, .int x1), (3, .int x3), (4, .int x4), (5, .int x5), (6, .int x6), (7, .int x7), (10, .long x10), (12, .int x12)]) dX11_handful_110 (Nat.le_of_ble_eq_true rfl) rfl ?_
    refine e_lload (pc := 112) dX11_handful_112 9 rfl ?_
    refine e_lload (pc := 114) dX11_handful_114 1 rfl ?_
    refine e_iload (pc := 116) dX11_handful_116 6 rfl ?_
    refine e_iload (pc := 118) dX11_handful_118 7 rfl ?_
    refine e_isub (pc := 120) dX11_handful_120 ?_
    refine e_iconst (pc := 121) (v := (0 : Int32)) dX11_handful_121 ic_0 ?_
    refine e_iload (pc := 122) dX11_handful_122 10 rfl ?_
    refine e_callSRL (pc := 124) (As := [.int (x5 - x6), .int (0 : Int32), .int x12]) (rest := [.long y12, .long x10]) (cf_X11_falling X (x5 - x6) (0 : Int32) x12 w) lk_X11_211 (Nat.le_of_ble_eq_true rfl) (Nat.le_of_ble_eq_true rfl) rfl rfl (Nat.le_of_ble_eq_true rfl) dX11_handful_124 (fun r14 => ?_)
    refine e_lmul (pc := 127) dX11_handful_127 ?_
    refine e_iload (pc := 128) dX11_handful_128 6 rfl ?_
    refine e_iload (pc := 130) dX11_handful_130 10 rfl ?_
    refine e_iload (pc := 132) dX11_handful_132 8 rfl ?_
    refine e_callSRL (pc := 134) (As := [.int x5, .int x12, .int x7]) (rest := [.long (y12 * r14), .long x10]) (cf_X11_falling X x5 x12 x7 w) lk_X11_211 (Nat.le_of_ble_eq_true rfl) (Nat.le_of_ble_eq_true rfl) rfl rfl (Nat.le_of_ble_eq_true rfl) dX11_handful_134 (fun r15 => ?_)
    refine e_lmul (pc := 137) dX11_handful_137 ?_
    refine e_ladd (pc := 138) dX11_handful_138 ?_
    refine e_nameL (fun y16 => ?_)
    refine e_lstore (pc := 139) (lv' := [(10, .long y16), (8, .long y13), (13, .long y12), (0, .ref (xa X 0)), (1, .int x1), (3, .int x3), (4, .int x4), (5, .int x5), (6, .int x6), (7, .int x7), (12, .int x12)]) dX11_handful_139 (Nat.le_of_ble_eq_true rfl) rfl ?_
    refine e_iinc (pc := 141) (lv' := [(12, .int (x12 + (1 : Int32))), (10, .long y16), (8, .long y13), (13, .long y12), (0, .ref (xa X 0)), (1, .int x1), (3, .int x3), (4, .int x4), (5, .int x5), (6, .int x6), (7, .int x7)]) dX11_handful_141 10 rfl (ii_1 _) (Nat.le_of_ble_eq_true rfl) rfl ?_
    refine e_goto (pc := 144) (tgt := 85) dX11_handful_144 (by decide) ?_
    refine e_lv [4, 5, 6, 7, 8, 9, 10, 2, 1, 0] rfl ?_
    exact hk85 x1 x3 x4 x5 x6 x7 y13 y16 (x12 + (1 : Int32))
theorem cb_X11_handful_b85 (X : Xt) (w : Wd) : ∀ (n : Nat) (x1 : Int32) (x3 : Int32) (x4 : Int32) (x5 : Int32) (x6 : Int32) (x7 : Int32) (x8 : Int64) (x10 : Int64) (x12 : Int32), E (gRL w) X m_X11_handful 4 85 [(0, .ref (xa X 0)), (1, .int x1), (3, .int x3), (4, .int x4), (5, .int x5), (6, .int x6), (7, .int x7), (8, .long x8), (10, .long x10), (12, .int x12)] [] w (f_X11_handful_b85 w n x1 x3 x4 x5 x6 x7 x8 x10 x12) := by
  intro n
  induction n with
  | zero =>
    intro x1 x3 x4 x5 x6 x7 x8 x10 x12
    exact E_none
  | succ n ih =>
    intro x1 x3 x4 x5 x6 x7 x8 x10 x12
    exact cb_X11_handful_b85_y X w _ ih x1 x3 x4 x5 x6 x7 x8 x10 x12
set_option maxRecDepth 100000 in
set_option maxHeartbeats 4000000 in
theorem ce_X11_handful (X : Xt) (a1 : Int32) (a2 : Int32) (a3 : Int32) (a4 : Int32) (w : Wd) : E (gRL w) X m_X11_handful 4 0 [(0, .ref (xa X 0)), (1, .int a1), (2, .int a2), (3, .int a3), (4, .int a4)] [] w (f_X11_handful a1 a2 a3 a4 w) := by
  unfold f_X11_handful
  refine e_iload_n (pc := 0) dX11_handful_0 1 rfl rfl ?_
  refine e_callSRI (pc := 1) (As := [.int a1]) (rest := []) (cf_X11_isBag X a1 w) lk_X11_178 (Nat.le_of_ble_eq_true rfl) (Nat.le_of_ble_eq_true rfl) rfl rfl (Nat.le_of_ble_eq_true rfl) dX11_handful_1 (fun r1 => ?_)
  refine e_if_eq (pc := 4) (tgt := 28) dX11_handful_4 (by decide) (fun _ => ?_) (fun _ => ?_)
  · refine e_ldc2 (pc := 28) (v := (-9223372036854775808 : Int64)) dX11_handful_28 cl_X11_148 ?_
    exact e_lretR rfl dX11_handful_31
  · refine e_iload_n (pc := 7) dX11_handful_7 2 rfl rfl ?_
    refine e_if_lt (pc := 8) (tgt := 28) dX11_handful_8 (by decide) (fun _ => ?_) (fun _ => ?_)
    · refine e_ldc2 (pc := 28) (v := (-9223372036854775808 : Int64)) dX11_handful_28 cl_X11_148 ?_
      exact e_lretR rfl dX11_handful_31
    · refine e_iload_n (pc := 11) dX11_handful_11 3 rfl rfl ?_
      refine e_if_lt (pc := 12) (tgt := 28) dX11_handful_12 (by decide) (fun _ => ?_) (fun _ => ?_)
      · refine e_ldc2 (pc := 28) (v := (-9223372036854775808 : Int64)) dX11_handful_28 cl_X11_148 ?_
        exact e_lretR rfl dX11_handful_31
      · refine e_iload_n (pc := 15) dX11_handful_15 3 rfl rfl ?_
        refine e_iconst (pc := 16) (v := (1 : Int32)) dX11_handful_16 ic_1 ?_
        refine e_icmp_gt (pc := 17) (tgt := 28) dX11_handful_17 (by decide) (fun _ => ?_) (fun _ => ?_)
        · refine e_ldc2 (pc := 28) (v := (-9223372036854775808 : Int64)) dX11_handful_28 cl_X11_148 ?_
          exact e_lretR rfl dX11_handful_31
        · refine e_iload (pc := 20) dX11_handful_20 4 rfl ?_
          refine e_callSRI (pc := 22) (As := [.int a4]) (rest := []) (cf_X11_isPart X a4 w) lk_X11_145 (Nat.le_of_ble_eq_true rfl) (Nat.le_of_ble_eq_true rfl) rfl rfl (Nat.le_of_ble_eq_true rfl) dX11_handful_22 (fun r2 => ?_)
          refine e_if_ne (pc := 25) (tgt := 32) dX11_handful_25 (by decide) (fun _ => ?_) (fun _ => ?_)
          · refine e_ldc2 (pc := 28) (v := (-9223372036854775808 : Int64)) dX11_handful_28 cl_X11_148 ?_
            exact e_lretR rfl dX11_handful_31
          · refine e_iload_n (pc := 32) dX11_handful_32 2 rfl rfl ?_
            refine e_bipush (pc := 33) (v := (100 : Int32)) dX11_handful_33 bp_100 ?_
            refine e_idiv (pc := 35) dX11_handful_35 (by decide) ?_
            refine e_nameI (fun y3 => ?_)
            refine e_istore (pc := 36) (lv' := [(5, .int y3), (0, .ref (xa X 0)), (1, .int a1), (2, .int a2), (3, .int a3), (4, .int a4)]) dX11_handful_36 (Nat.le_of_ble_eq_true rfl) rfl ?_
            refine e_iload_n (pc := 38) dX11_handful_38 3 rfl rfl ?_
            refine e_bipush (pc := 39) (v := (100 : Int32)) dX11_handful_39 bp_100 ?_
            refine e_irem (pc := 41) dX11_handful_41 (by decide) ?_
            refine e_nameI (fun y4 => ?_)
            refine e_istore (pc := 42) (lv' := [(6, .int y4), (5, .int y3), (0, .ref (xa X 0)), (1, .int a1), (2, .int a2), (3, .int a3), (4, .int a4)]) dX11_handful_42 (Nat.le_of_ble_eq_true rfl) rfl ?_
            refine e_iload (pc := 44) dX11_handful_44 1 rfl ?_
            refine e_iconst (pc := 46) (v := (1 : Int32)) dX11_handful_46 ic_1 ?_
            refine e_icmp_lt (pc := 47) (tgt := 64) dX11_handful_47 (by decide) (fun _ => ?_) (fun _ => ?_)
            · refine e_ldc2 (pc := 64) (v := (-9223372036854775808 : Int64)) dX11_handful_64 cl_X11_148 ?_
              exact e_lretR rfl dX11_handful_67
            · refine e_iload (pc := 50) dX11_handful_50 1 rfl ?_
              refine e_bipush (pc := 52) (v := (60 : Int32)) dX11_handful_52 bp_60 ?_
              refine e_icmp_gt (pc := 54) (tgt := 64) dX11_handful_54 (by decide) (fun _ => ?_) (fun _ => ?_)
              · refine e_ldc2 (pc := 64) (v := (-9223372036854775808 : Int64)) dX11_handful_64 cl_X11_148 ?_
                exact e_lretR rfl dX11_handful_67
              · refine e_iload (pc := 57) dX11_handful_57 0 rfl ?_
                refine e_iload (pc := 59) dX11_handful_59 1 rfl ?_
                refine e_icmp_le (pc := 61) (tgt := 68) dX11_handful_61 (by decide) (fun _ => ?_) (fun _ => ?_)
                · refine e_iload (pc := 68) dX11_handful_68 1 rfl ?_
                  refine e_iconst (pc := 70) (v := (3 : Int32)) dX11_handful_70 ic_3 ?_
                  refine e_mmin (pc := 71) ml_X11_206 ms_min mi_Math mc_min (Nat.le_of_ble_eq_true rfl) (Nat.le_of_ble_eq_true rfl) dX11_handful_71 ?_
                  refine e_nameI (fun y5 => ?_)
                  refine e_istore (pc := 74) (lv' := [(7, .int y5), (6, .int y4), (5, .int y3), (0, .ref (xa X 0)), (1, .int a1), (2, .int a2), (3, .int a3), (4, .int a4)]) dX11_handful_74 (Nat.le_of_ble_eq_true rfl) rfl ?_
                  refine e_lconst (pc := 76) (v := (0 : Int64)) dX11_handful_76 lc_0 ?_
                  refine e_lstore (pc := 77) (lv' := [(8, .long (0 : Int64)), (7, .int y5), (6, .int y4), (5, .int y3), (0, .ref (xa X 0)), (1, .int a1), (2, .int a2), (3, .int a3), (4, .int a4)]) dX11_handful_77 (Nat.le_of_ble_eq_true rfl) rfl ?_
                  refine e_lconst (pc := 79) (v := (0 : Int64)) dX11_handful_79 lc_0 ?_
                  refine e_lstore (pc := 80) (lv' := [(10, .long (0 : Int64)), (8, .long (0 : Int64)), (7, .int y5), (6, .int y4), (5, .int y3), (0, .ref (xa X 0)), (1, .int a1), (2, .int a2), (3, .int a3), (4, .int a4)]) dX11_handful_80 (Nat.le_of_ble_eq_true rfl) rfl ?_
                  refine e_iconst (pc := 82) (v := (0 : Int32)) dX11_handful_82 ic_0 ?_
                  refine e_istore (pc := 83) (lv' := [(12, .int (0 : Int32)), (10, .long (0 : Int64)), (8, .long (0 : Int64)), (7, .int y5), (6, .int y4), (5, .int y3), (0, .ref (xa X 0)), (1, .int a1), (2, .int a2), (3, .int a3), (4, .int a4)]) dX11_handful_83 (Nat.le_of_ble_eq_true rfl) rfl ?_
                  refine e_lv [6, 7, 9, 10, 5, 4, 3, 2, 1, 0] rfl ?_
                  exact cb_X11_handful_b85 X w fu a1 a3 a4 y3 y4 y5 (0 : Int64) (0 : Int64) (0 : Int32)
                · refine e_ldc2 (pc := 64) (v := (-9223372036854775808 : Int64)) dX11_handful_64 cl_X11_148 ?_
                  exact e_lretR rfl dX11_handful_67
theorem cf_X11_handful (X : Xt) (a1 : Int32) (a2 : Int32) (a3 : Int32) (a4 : Int32) (w : Wd) : CF (gRL w) X m_X11_handful 4 [.ref (xa X 0), .int a1, .int a2, .int a3, .int a4] w (f_X11_handful a1 a2 a3 a4 w) := CF_of (by decide) (Nat.le_of_ble_eq_true rfl) (ce_X11_handful X a1 a2 a3 a4 w)
set_option maxRecDepth 100000 in
set_option maxHeartbeats 4000000 in
theorem cb_X11_fillParting_b44 (X : Xt) (k17 : Int32 → Int32 → Int32 → Int32 → Int32 → Wd → Option Wd) (hk17 : ∀ (x1 : Int32) (x2 : Int32) (x3 : Int32) (x4 : Int32) (x5 : Int32)  (w : Wd), E gWV X m_X11_fillParting 5 17 [(0, .ref (xa X 0)), (1, .int x1), (2, .int x2), (3, .int x3), (4, .int x4), (5, .int x5)] [] w (k17 x1 x2 x3 x4 x5 w)) (x1 : Int32) (x2 : Int32) (x3 : Int32) (x4 : Int32) (x5 : Int32) (w : Wd) : E gWV X m_X11_fillParting 5 44 [(0, .ref (xa X 0)), (1, .int x1), (2, .int x2), (3, .int x3), (4, .int x4), (5, .int x5)] [] w (f_X11_fillParting_b44 k17 x1 x2 x3 x4 x5 w) := by
  unfold f_X11_fillParting_b44
  refine e_aload_n (pc := 44) dX11_fillParting_44 0 rfl rfl ?_
  refine g_R (pc := 45) (cl' := 31) kk0 fl_X11_60 rfl dX11_fillParting_45 ?_
  refine e_iload_n (pc := 48) dX11_fillParting_48 1 rfl rfl ?_
  refine e_iload (pc := 49) dX11_fillParting_49 5 rfl ?_
  refine e_iload (pc := 51) dX11_fillParting_51 5 rfl ?_
  refine e_iload (pc := 53) dX11_fillParting_53 4 rfl ?_
  refine e_imul (pc := 55) dX11_fillParting_55 ?_
  refine e_callVWV (pc := 56) (As := [.int x1, .int x5, .int (x5 * x4)]) (rest := []) kk31 Kc7 (cf_X7_tell X x1 x5 (x5 * x4) w) lk_X11_429 (Nat.le_of_ble_eq_true rfl) (Nat.le_of_ble_eq_true rfl) rfl rfl (Nat.le_of_ble_eq_true rfl) dX11_fillParting_56 (fun w4 => ?_)
  refine e_iinc (pc := 59) (lv' := [(5, .int (x5 + (1 : Int32))), (0, .ref (xa X 0)), (1, .int x1), (2, .int x2), (3, .int x3), (4, .int x4)]) dX11_fillParting_59 5 rfl (ii_1 _) (Nat.le_of_ble_eq_true rfl) rfl ?_
  refine e_goto (pc := 62) (tgt := 17) dX11_fillParting_62 (by decide) ?_
  refine e_lv [1, 2, 3, 4, 5, 0] rfl ?_
  exact hk17 x1 x2 x3 x4 (x5 + (1 : Int32)) w4
set_option maxRecDepth 100000 in
set_option maxHeartbeats 4000000 in
theorem cb_X11_fillParting_b17_y (X : Xt) (k17 : Int32 → Int32 → Int32 → Int32 → Int32 → Wd → Option Wd) (hk17 : ∀ (x1 : Int32) (x2 : Int32) (x3 : Int32) (x4 : Int32) (x5 : Int32)  (w : Wd), E gWV X m_X11_fillParting 5 17 [(0, .ref (xa X 0)), (1, .int x1), (2, .int x2), (3, .int x3), (4, .int x4), (5, .int x5)] [] w (k17 x1 x2 x3 x4 x5 w)) (x1 : Int32) (x2 : Int32) (x3 : Int32) (x4 : Int32) (x5 : Int32) (w : Wd) : E gWV X m_X11_fillParting 5 17 [(0, .ref (xa X 0)), (1, .int x1), (2, .int x2), (3, .int x3), (4, .int x4), (5, .int x5)] [] w (f_X11_fillParting_b17_y k17 x1 x2 x3 x4 x5 w) := by
  unfold f_X11_fillParting_b17_y
  refine e_iload (pc := 17) dX11_fillParting_17 5 rfl ?_
  refine e_iload_n (pc := 19) dX11_fillParting_19 2 rfl rfl ?_
  refine e_icmp_gt (pc := 20) (tgt := 65) dX11_fillParting_20 (by decide) (fun _ => ?_) (fun _ => ?_)
  · refine e_aload_n (pc := 65) dX11_fillParting_65 0 rfl rfl ?_
    refine g_R (pc := 66) (cl' := 31) kk0 fl_X11_60 rfl dX11_fillParting_66 ?_
    refine e_iload_n (pc := 69) dX11_fillParting_69 1 rfl rfl ?_
    refine e_iload_n (pc := 70) dX11_fillParting_70 2 rfl rfl ?_
    refine e_aload_n (pc := 71) dX11_fillParting_71 0 rfl rfl ?_
    refine g_R (pc := 72) (cl' := 1) kk0 fl_X11_10 rfl dX11_fillParting_72 ?_
    refine e_iload_n (pc := 75) dX11_fillParting_75 1 rfl rfl ?_
    refine e_bipush (pc := 76) (v := (6 : Int32)) dX11_fillParting_76 bp_6 ?_
    refine e_callVRI (pc := 78) (As := [.int x1, .int (6 : Int32)]) (rest := [.int x2, .int x1, .ref (xa X 31)]) kk1 Kc6 (cf_X6_get X x1 (6 : Int32) w) lk_X11_122 (Nat.le_of_ble_eq_true rfl) (Nat.le_of_ble_eq_true rfl) rfl rfl (Nat.le_of_ble_eq_true rfl) dX11_fillParting_78 (fun r2 => ?_)
    refine e_callVWV (pc := 81) (As := [.int x1, .int x2, .int r2]) (rest := []) kk31 Kc7 (cf_X7_add X x1 x2 r2 w) lk_X11_432 (Nat.le_of_ble_eq_true rfl) (Nat.le_of_ble_eq_true rfl) rfl rfl (Nat.le_of_ble_eq_true rfl) dX11_fillParting_81 (fun w3 => ?_)
    exact e_vret rfl dX11_fillParting_84
  · refine e_iload (pc := 23) dX11_fillParting_23 5 rfl ?_
    refine e_iconst (pc := 25) (v := (5 : Int32)) dX11_fillParting_25 ic_5 ?_
    refine e_irem (pc := 26) dX11_fillParting_26 (by decide) ?_
    refine e_if_ne (pc := 27) (tgt := 44) dX11_fillParting_27 (by decide) (fun _ => ?_) (fun _ => ?_)
    · refine e_aload_n (pc := 30) dX11_fillParting_30 0 rfl rfl ?_
      refine e_iload_n (pc := 31) dX11_fillParting_31 1 rfl rfl ?_
      refine e_iconst (pc := 32) (v := (0 : Int32)) dX11_fillParting_32 ic_0 ?_
      refine e_iload_n (pc := 33) dX11_fillParting_33 3 rfl rfl ?_
      refine e_iload (pc := 34) dX11_fillParting_34 5 rfl ?_
      refine e_iconst (pc := 36) (v := (5 : Int32)) dX11_fillParting_36 ic_5 ?_
      refine e_idiv (pc := 37) dX11_fillParting_37 (by decide) ?_
      refine e_iadd (pc := 38) dX11_fillParting_38 ?_
      refine e_callVWI (pc := 39) (As := [.int x1, .int (0 : Int32), .int (x3 + (x5 / (5 : Int32)))]) (rest := []) kk0 Kc11 (cf_X11_twelfthsIn X x1 (0 : Int32) (x3 + (x5 / (5 : Int32))) w) lk_X11_406 (Nat.le_of_ble_eq_true rfl) (Nat.le_of_ble_eq_true rfl) rfl rfl (Nat.le_of_ble_eq_true rfl) dX11_fillParting_39 (fun r5 w6 => ?_)
      refine e_istore (pc := 42) (lv' := [(4, .int r5), (0, .ref (xa X 0)), (1, .int x1), (2, .int x2), (3, .int x3), (5, .int x5)]) dX11_fillParting_42 (Nat.le_of_ble_eq_true rfl) rfl ?_
      refine e_lv [1, 2, 3, 4, 0, 5] rfl ?_
      exact cb_X11_fillParting_b44 X k17 hk17 x1 x2 x3 r5 x5 w6
    · refine e_lv [0, 1, 2, 3, 4, 5] rfl ?_
      exact cb_X11_fillParting_b44 X k17 hk17 x1 x2 x3 x4 x5 w
theorem cb_X11_fillParting_b17 (X : Xt) : ∀ (n : Nat) (x1 : Int32) (x2 : Int32) (x3 : Int32) (x4 : Int32) (x5 : Int32) (w : Wd), E gWV X m_X11_fillParting 5 17 [(0, .ref (xa X 0)), (1, .int x1), (2, .int x2), (3, .int x3), (4, .int x4), (5, .int x5)] [] w (f_X11_fillParting_b17 n x1 x2 x3 x4 x5 w) := by
  intro n
  induction n with
  | zero =>
    intro x1 x2 x3 x4 x5 w
    exact E_none
  | succ n ih =>
    intro x1 x2 x3 x4 x5 w
    exact cb_X11_fillParting_b17_y X _ ih x1 x2 x3 x4 x5 w
set_option maxRecDepth 100000 in
set_option maxHeartbeats 4000000 in
theorem ce_X11_fillParting (X : Xt) (a1 : Int32) (a2 : Int32) (w : Wd) : E gWV X m_X11_fillParting 5 0 [(0, .ref (xa X 0)), (1, .int a1), (2, .int a2)] [] w (f_X11_fillParting a1 a2 w) := by
  unfold f_X11_fillParting
  refine e_aload_n (pc := 0) dX11_fillParting_0 0 rfl rfl ?_
  refine g_R (pc := 1) (cl' := 1) kk0 fl_X11_10 rfl dX11_fillParting_1 ?_
  refine e_iconst (pc := 4) (v := (0 : Int32)) dX11_fillParting_4 ic_0 ?_
  refine e_bipush (pc := 5) (v := (9 : Int32)) dX11_fillParting_5 bp_9 ?_
  refine e_callVRI (pc := 7) (As := [.int (0 : Int32), .int (9 : Int32)]) (rest := []) kk1 Kc6 (cf_X6_get X (0 : Int32) (9 : Int32) w) lk_X11_122 (Nat.le_of_ble_eq_true rfl) (Nat.le_of_ble_eq_true rfl) rfl rfl (Nat.le_of_ble_eq_true rfl) dX11_fillParting_7 (fun r1 => ?_)
  refine e_istore_n (pc := 10) (lv' := [(3, .int r1), (0, .ref (xa X 0)), (1, .int a1), (2, .int a2)]) dX11_fillParting_10 rfl (Nat.le_of_ble_eq_true rfl) rfl ?_
  refine e_iconst (pc := 11) (v := (0 : Int32)) dX11_fillParting_11 ic_0 ?_
  refine e_istore (pc := 12) (lv' := [(4, .int (0 : Int32)), (3, .int r1), (0, .ref (xa X 0)), (1, .int a1), (2, .int a2)]) dX11_fillParting_12 (Nat.le_of_ble_eq_true rfl) rfl ?_
  refine e_iconst (pc := 14) (v := (0 : Int32)) dX11_fillParting_14 ic_0 ?_
  refine e_istore (pc := 15) (lv' := [(5, .int (0 : Int32)), (4, .int (0 : Int32)), (3, .int r1), (0, .ref (xa X 0)), (1, .int a1), (2, .int a2)]) dX11_fillParting_15 (Nat.le_of_ble_eq_true rfl) rfl ?_
  refine e_lv [3, 4, 5, 2, 1, 0] rfl ?_
  exact cb_X11_fillParting_b17 X fu a1 a2 r1 (0 : Int32) (0 : Int32) w
theorem cf_X11_fillParting (X : Xt) (a1 : Int32) (a2 : Int32) (w : Wd) : CF gWV X m_X11_fillParting 5 [.ref (xa X 0), .int a1, .int a2] w (f_X11_fillParting a1 a2 w) := CF_of (by decide) (Nat.le_of_ble_eq_true rfl) (ce_X11_fillParting X a1 a2 w)
set_option maxRecDepth 100000 in
set_option maxHeartbeats 4000000 in
theorem cb_X11_heaps_b65_y (X : Xt) (k65 : Int32 → Int32 → Int32 → Int32 → Wd → Option (Int32 × Wd)) (hk65 : ∀ (x1 : Int32) (x2 : Int32) (x3 : Int32) (x4 : Int32)  (w : Wd), E gWI X m_X11_heaps 6 65 [(0, .ref (xa X 0)), (1, .int x1), (2, .int x2), (3, .int x3), (4, .int x4)] [] w (k65 x1 x2 x3 x4 w)) (x1 : Int32) (x2 : Int32) (x3 : Int32) (x4 : Int32) (w : Wd) : E gWI X m_X11_heaps 6 65 [(0, .ref (xa X 0)), (1, .int x1), (2, .int x2), (3, .int x3), (4, .int x4)] [] w (f_X11_heaps_b65_y k65 x1 x2 x3 x4 w) := by
  unfold f_X11_heaps_b65_y
  refine e_iload (pc := 65) dX11_heaps_65 4 rfl ?_
  refine e_aload_n (pc := 67) dX11_heaps_67 0 rfl rfl ?_
  refine g_R (pc := 68) (cl' := 1) kk0 fl_X11_10 rfl dX11_heaps_68 ?_
  refine g_I (pc := 71) kk1 fl_X11_215 dX11_heaps_71 ?_
  refine e_icmp_ge (pc := 74) (tgt := 90) dX11_heaps_74 (by decide) (fun _ => ?_) (fun _ => ?_)
  · refine e_aload_n (pc := 90) dX11_heaps_90 0 rfl rfl ?_
    refine g_R (pc := 91) (cl' := 31) kk0 fl_X11_60 rfl dX11_heaps_91 ?_
    refine e_iload_n (pc := 94) dX11_heaps_94 1 rfl rfl ?_
    refine e_iload_n (pc := 95) dX11_heaps_95 2 rfl rfl ?_
    refine e_callVWV (pc := 96) (As := [.int x1, .int x2]) (rest := []) kk31 Kc7 (cf_X7_search X x1 x2 w) lk_X11_222 (Nat.le_of_ble_eq_true rfl) (Nat.le_of_ble_eq_true rfl) rfl rfl (Nat.le_of_ble_eq_true rfl) dX11_heaps_96 (fun w1 => ?_)
    refine e_iload_n (pc := 99) dX11_heaps_99 3 rfl rfl ?_
    refine e_if_ne (pc := 100) (tgt := 113) dX11_heaps_100 (by decide) (fun _ => ?_) (fun _ => ?_)
    · refine e_aload_n (pc := 103) dX11_heaps_103 0 rfl rfl ?_
      refine g_R (pc := 104) (cl' := 31) kk0 fl_X11_60 rfl dX11_heaps_104 ?_
      refine g_I (pc := 107) kk31 fl_X11_225 dX11_heaps_107 ?_
      refine e_goto (pc := 110) (tgt := 138) dX11_heaps_110 (by decide) ?_
      exact e_iretW rfl dX11_heaps_138
    · refine e_iload_n (pc := 113) dX11_heaps_113 3 rfl rfl ?_
      refine e_iconst (pc := 114) (v := (1 : Int32)) dX11_heaps_114 ic_1 ?_
      refine e_icmp_ne (pc := 115) (tgt := 128) dX11_heaps_115 (by decide) (fun _ => ?_) (fun _ => ?_)
      · refine e_aload_n (pc := 118) dX11_heaps_118 0 rfl rfl ?_
        refine g_R (pc := 119) (cl' := 31) kk0 fl_X11_60 rfl dX11_heaps_119 ?_
        refine g_I (pc := 122) kk31 fl_X11_227 dX11_heaps_122 ?_
        refine e_goto (pc := 125) (tgt := 138) dX11_heaps_125 (by decide) ?_
        exact e_iretW rfl dX11_heaps_138
      · refine e_aload_n (pc := 128) dX11_heaps_128 0 rfl rfl ?_
        refine g_R (pc := 129) (cl' := 31) kk0 fl_X11_60 rfl dX11_heaps_129 ?_
        refine e_iload_n (pc := 132) dX11_heaps_132 3 rfl rfl ?_
        refine e_iconst (pc := 133) (v := (2 : Int32)) dX11_heaps_133 ic_2 ?_
        refine e_isub (pc := 134) dX11_heaps_134 ?_
        refine e_callVRI (pc := 135) (As := [.int (x3 - (2 : Int32))]) (rest := []) kk31 Kc7 (cf_X7_heapsOf X (x3 - (2 : Int32)) w1) lk_X11_230 (Nat.le_of_ble_eq_true rfl) (Nat.le_of_ble_eq_true rfl) rfl rfl (Nat.le_of_ble_eq_true rfl) dX11_heaps_135 (fun r2 => ?_)
        exact e_iretW rfl dX11_heaps_138
  · refine e_aload_n (pc := 77) dX11_heaps_77 0 rfl rfl ?_
    refine e_iload (pc := 78) dX11_heaps_78 4 rfl ?_
    refine e_iload_n (pc := 80) dX11_heaps_80 1 rfl rfl ?_
    refine e_callVWV (pc := 81) (As := [.int x4, .int x1]) (rest := []) kk0 Kc11 (cf_X11_fillParting X x4 x1 w) lk_X11_218 (Nat.le_of_ble_eq_true rfl) (Nat.le_of_ble_eq_true rfl) rfl rfl (Nat.le_of_ble_eq_true rfl) dX11_heaps_81 (fun w3 => ?_)
    refine e_iinc (pc := 84) (lv' := [(4, .int (x4 + (1 : Int32))), (0, .ref (xa X 0)), (1, .int x1), (2, .int x2), (3, .int x3)]) dX11_heaps_84 4 rfl (ii_1 _) (Nat.le_of_ble_eq_true rfl) rfl ?_
    refine e_goto (pc := 87) (tgt := 65) dX11_heaps_87 (by decide) ?_
    refine e_lv [1, 2, 3, 4, 0] rfl ?_
    exact hk65 x1 x2 x3 (x4 + (1 : Int32)) w3
theorem cb_X11_heaps_b65 (X : Xt) : ∀ (n : Nat) (x1 : Int32) (x2 : Int32) (x3 : Int32) (x4 : Int32) (w : Wd), E gWI X m_X11_heaps 6 65 [(0, .ref (xa X 0)), (1, .int x1), (2, .int x2), (3, .int x3), (4, .int x4)] [] w (f_X11_heaps_b65 n x1 x2 x3 x4 w) := by
  intro n
  induction n with
  | zero =>
    intro x1 x2 x3 x4 w
    exact E_none
  | succ n ih =>
    intro x1 x2 x3 x4 w
    exact cb_X11_heaps_b65_y X _ ih x1 x2 x3 x4 w
set_option maxRecDepth 100000 in
set_option maxHeartbeats 4000000 in
theorem cb_X11_heaps_b48 (X : Xt) (x1 : Int32) (x2 : Int32) (x3 : Int32) (w : Wd) : E gWI X m_X11_heaps 6 48 [(0, .ref (xa X 0)), (1, .int x1), (2, .int x2), (3, .int x3)] [] w (f_X11_heaps_b48 x1 x2 x3 w) := by
  unfold f_X11_heaps_b48
  refine e_aload_n (pc := 48) dX11_heaps_48 0 rfl rfl ?_
  refine g_R (pc := 49) (cl' := 1) kk0 fl_X11_10 rfl dX11_heaps_49 ?_
  refine g_I (pc := 52) kk1 fl_X11_215 dX11_heaps_52 ?_
  refine e_iconst (pc := 55) (v := (3 : Int32)) dX11_heaps_55 ic_3 ?_
  refine e_icmp_le (pc := 56) (tgt := 62) dX11_heaps_56 (by decide) (fun _ => ?_) (fun _ => ?_)
  · refine e_iconst (pc := 62) (v := (0 : Int32)) dX11_heaps_62 ic_0 ?_
    refine e_istore (pc := 63) (lv' := [(4, .int (0 : Int32)), (0, .ref (xa X 0)), (1, .int x1), (2, .int x2), (3, .int x3)]) dX11_heaps_63 (Nat.le_of_ble_eq_true rfl) rfl ?_
    refine e_lv [1, 2, 3, 4, 0] rfl ?_
    exact cb_X11_heaps_b65 X fu x1 x2 x3 (0 : Int32) w
  · refine e_bipush (pc := 59) (v := (-5 : Int32)) dX11_heaps_59 bp_m5 ?_
    exact e_iretW rfl dX11_heaps_61
set_option maxRecDepth 100000 in
set_option maxHeartbeats 4000000 in
theorem ce_X11_heaps (X : Xt) (a1 : Int32) (a2 : Int32) (a3 : Int32) (w : Wd) : E gWI X m_X11_heaps 6 0 [(0, .ref (xa X 0)), (1, .int a1), (2, .int a2), (3, .int a3)] [] w (f_X11_heaps a1 a2 a3 w) := by
  unfold f_X11_heaps
  refine e_iload_n (pc := 0) dX11_heaps_0 1 rfl rfl ?_
  refine e_iconst (pc := 1) (v := (1 : Int32)) dX11_heaps_1 ic_1 ?_
  refine e_icmp_lt (pc := 2) (tgt := 22) dX11_heaps_2 (by decide) (fun _ => ?_) (fun _ => ?_)
  · refine e_iconst (pc := 22) (v := (-1 : Int32)) dX11_heaps_22 ic_m1 ?_
    exact e_iretW rfl dX11_heaps_23
  · refine e_iload_n (pc := 5) dX11_heaps_5 1 rfl rfl ?_
    refine e_bipush (pc := 6) (v := (40 : Int32)) dX11_heaps_6 bp_40 ?_
    refine e_icmp_gt (pc := 8) (tgt := 22) dX11_heaps_8 (by decide) (fun _ => ?_) (fun _ => ?_)
    · refine e_iconst (pc := 22) (v := (-1 : Int32)) dX11_heaps_22 ic_m1 ?_
      exact e_iretW rfl dX11_heaps_23
    · refine e_iload_n (pc := 11) dX11_heaps_11 2 rfl rfl ?_
      refine e_if_lt (pc := 12) (tgt := 22) dX11_heaps_12 (by decide) (fun _ => ?_) (fun _ => ?_)
      · refine e_iconst (pc := 22) (v := (-1 : Int32)) dX11_heaps_22 ic_m1 ?_
        exact e_iretW rfl dX11_heaps_23
      · refine e_iload_n (pc := 15) dX11_heaps_15 2 rfl rfl ?_
        refine e_sipush (pc := 16) (v := (999 : Int32)) dX11_heaps_16 sp_999 ?_
        refine e_icmp_le (pc := 19) (tgt := 24) dX11_heaps_19 (by decide) (fun _ => ?_) (fun _ => ?_)
        · refine e_iload_n (pc := 24) dX11_heaps_24 3 rfl rfl ?_
          refine e_if_lt (pc := 25) (tgt := 46) dX11_heaps_25 (by decide) (fun _ => ?_) (fun _ => ?_)
          · refine e_iconst (pc := 46) (v := (-1 : Int32)) dX11_heaps_46 ic_m1 ?_
            exact e_iretW rfl dX11_heaps_47
          · refine e_iload_n (pc := 28) dX11_heaps_28 3 rfl rfl ?_
            refine e_iconst (pc := 29) (v := (1 : Int32)) dX11_heaps_29 ic_1 ?_
            refine e_icmp_le (pc := 30) (tgt := 48) dX11_heaps_30 (by decide) (fun _ => ?_) (fun _ => ?_)
            · refine e_lv [0, 1, 2, 3] rfl ?_
              exact cb_X11_heaps_b48 X a1 a2 a3 w
            · refine e_aload_n (pc := 33) dX11_heaps_33 0 rfl rfl ?_
              refine g_R (pc := 34) (cl' := 1) kk0 fl_X11_10 rfl dX11_heaps_34 ?_
              refine e_iload_n (pc := 37) dX11_heaps_37 3 rfl rfl ?_
              refine e_iconst (pc := 38) (v := (2 : Int32)) dX11_heaps_38 ic_2 ?_
              refine e_isub (pc := 39) dX11_heaps_39 ?_
              refine e_callVRI (pc := 40) (As := [.int (a3 - (2 : Int32))]) (rest := []) kk1 Kc6 (cf_X6_isLooker X (a3 - (2 : Int32)) w) lk_X11_136 (Nat.le_of_ble_eq_true rfl) (Nat.le_of_ble_eq_true rfl) rfl rfl (Nat.le_of_ble_eq_true rfl) dX11_heaps_40 (fun r4 => ?_)
              refine e_if_ne (pc := 43) (tgt := 48) dX11_heaps_43 (by decide) (fun _ => ?_) (fun _ => ?_)
              · refine e_iconst (pc := 46) (v := (-1 : Int32)) dX11_heaps_46 ic_m1 ?_
                exact e_iretW rfl dX11_heaps_47
              · refine e_lv [0, 1, 2, 3] rfl ?_
                exact cb_X11_heaps_b48 X a1 a2 a3 w
        · refine e_iconst (pc := 22) (v := (-1 : Int32)) dX11_heaps_22 ic_m1 ?_
          exact e_iretW rfl dX11_heaps_23
theorem cf_X11_heaps (X : Xt) (a1 : Int32) (a2 : Int32) (a3 : Int32) (w : Wd) : CF gWI X m_X11_heaps 6 [.ref (xa X 0), .int a1, .int a2, .int a3] w (f_X11_heaps a1 a2 a3 w) := CF_of (by decide) (Nat.le_of_ble_eq_true rfl) (ce_X11_heaps X a1 a2 a3 w)
