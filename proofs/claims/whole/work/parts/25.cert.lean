set_option maxRecDepth 100000 in
set_option maxHeartbeats 4000000 in
theorem cb_X11_who_b42 (X : Xt) (x1 : Int32) (x2 : Int32) (x3 : Int32) (x4 : Int32) (w : Wd) : E gWI X m_X11_who 86 42 [(0, .ref (xa X 0)), (1, .int x1), (2, .int x2), (3, .int x3), (4, .int x4)] [] w (f_X11_who_b42 x1 x2 x3 x4 w) := by
  unfold f_X11_who_b42
  refine e_aload_n (pc := 42) dX11_who_42 0 rfl rfl ?_
  refine g_R (pc := 43) (cl' := 12) kk0 fl_X11_25 rfl dX11_who_43 ?_
  refine e_iload_n (pc := 46) dX11_who_46 1 rfl rfl ?_
  refine e_aald (pc := 47) kk12 dX11_who_47 (fun c3 hc3 => ?_)
  refine e_callVRI (pc := 48) (As := []) (rest := []) hc3.1 Kc9 (cf_X9_refusalAsBytes X c3 hc3 w) lk_X11_181 (Nat.le_of_ble_eq_true rfl) (Nat.le_of_ble_eq_true rfl) rfl rfl (Nat.le_of_ble_eq_true rfl) dX11_who_48 (fun r4 => ?_)
  refine e_istore (pc := 51) (lv' := [(5, .int r4), (0, .ref (xa X 0)), (1, .int x1), (2, .int x2), (3, .int x3), (4, .int x4)]) dX11_who_51 (Nat.le_of_ble_eq_true rfl) rfl ?_
  refine e_iload (pc := 53) dX11_who_53 0 rfl ?_
  refine e_if_ge (pc := 55) (tgt := 61) dX11_who_55 (by decide) (fun _ => ?_) (fun _ => ?_)
  · refine e_aload_n (pc := 61) dX11_who_61 1 rfl rfl ?_
    refine e_aload_n (pc := 62) dX11_who_62 1 rfl rfl ?_
    refine g_R (pc := 63) (cl' := 23) kk0 fl_X11_53 rfl dX11_who_63 ?_
    refine g_R (pc := 66) (cl' := 26) kk23 fl_X11_233 rfl dX11_who_66 ?_
    refine e_callVWV (pc := 69) (As := [.ref (xa X 26)]) (rest := []) kk0 Kc11 (cf_X11_fillShares X 26 hk_isA24_26 w) lk_X11_237 (Nat.le_of_ble_eq_true rfl) (Nat.le_of_ble_eq_true rfl) rfl rfl (Nat.le_of_ble_eq_true rfl) dX11_who_69 (fun w5 => ?_)
    refine e_aload_n (pc := 72) dX11_who_72 1 rfl rfl ?_
    refine g_R (pc := 73) (cl' := 23) kk0 fl_X11_53 rfl dX11_who_73 ?_
    refine g_R (pc := 76) (cl' := 24) kk23 fl_X11_241 rfl dX11_who_76 ?_
    refine e_aload_n (pc := 79) dX11_who_79 1 rfl rfl ?_
    refine g_R (pc := 80) (cl' := 1) kk0 fl_X11_10 rfl dX11_who_80 ?_
    refine e_iload_n (pc := 83) dX11_who_83 3 rfl rfl ?_
    refine e_callVWV (pc := 84) (As := [.ref (xa X 1), .int x2]) (rest := []) kk24 Kc1 (cf_X1_begin X 24 x2 hk_isCh_24 w5) lk_X11_242 (Nat.le_of_ble_eq_true rfl) (Nat.le_of_ble_eq_true rfl) rfl rfl (Nat.le_of_ble_eq_true rfl) dX11_who_84 (fun w6 => ?_)
    refine e_aload_n (pc := 87) dX11_who_87 1 rfl rfl ?_
    refine g_R (pc := 88) (cl' := 23) kk0 fl_X11_53 rfl dX11_who_88 ?_
    refine e_aload_n (pc := 91) dX11_who_91 1 rfl rfl ?_
    refine g_R (pc := 92) (cl' := 12) kk0 fl_X11_25 rfl dX11_who_92 ?_
    refine e_iload_n (pc := 95) dX11_who_95 2 rfl rfl ?_
    refine e_aald (pc := 96) kk12 dX11_who_96 (fun c7 hc7 => ?_)
    refine e_aload_n (pc := 97) dX11_who_97 1 rfl rfl ?_
    refine g_R (pc := 98) (cl' := 1) kk0 fl_X11_10 rfl dX11_who_98 ?_
    refine g_I (pc := 101) kk1 fl_X11_215 dX11_who_101 ?_
    refine e_callVWV (pc := 104) (As := [.ref (xa X c7), .int (gi w6 1 1)]) (rest := []) kk23 Kc10 (cf_X10_hear X c7 (gi w6 1 1) hc7 w6) lk_X11_246 (Nat.le_of_ble_eq_true rfl) (Nat.le_of_ble_eq_true rfl) rfl rfl (Nat.le_of_ble_eq_true rfl) dX11_who_104 (fun w8 => ?_)
    refine e_iload_n (pc := 107) dX11_who_107 4 rfl rfl ?_
    refine e_if_ne (pc := 108) (tgt := 119) dX11_who_108 (by decide) (fun _ => ?_) (fun _ => ?_)
    · refine e_aload_n (pc := 111) dX11_who_111 1 rfl rfl ?_
      refine g_R (pc := 112) (cl' := 23) kk0 fl_X11_53 rfl dX11_who_112 ?_
      refine g_I (pc := 115) kk23 fl_X11_250 dX11_who_115 ?_
      exact e_iretW rfl dX11_who_118
    · refine e_iload_n (pc := 119) dX11_who_119 4 rfl rfl ?_
      refine e_iconst (pc := 120) (v := (1 : Int32)) dX11_who_120 ic_1 ?_
      refine e_icmp_ne (pc := 121) (tgt := 136) dX11_who_121 (by decide) (fun _ => ?_) (fun _ => ?_)
      · refine e_aload_n (pc := 124) dX11_who_124 1 rfl rfl ?_
        refine g_R (pc := 125) (cl' := 23) kk0 fl_X11_53 rfl dX11_who_125 ?_
        refine e_iload (pc := 128) dX11_who_128 5 rfl ?_
        refine e_callVRI (pc := 130) (As := [.int x4]) (rest := []) kk23 Kc10 (cf_X10_sureBy X x4 w8) lk_X11_253 (Nat.le_of_ble_eq_true rfl) (Nat.le_of_ble_eq_true rfl) rfl rfl (Nat.le_of_ble_eq_true rfl) dX11_who_130 (fun r10 => ?_)
        refine e_goto (pc := 133) (tgt := 145) dX11_who_133 (by decide) ?_
        exact e_iretW rfl dX11_who_145
      · refine e_aload_n (pc := 136) dX11_who_136 1 rfl rfl ?_
        refine g_R (pc := 137) (cl' := 23) kk0 fl_X11_53 rfl dX11_who_137 ?_
        refine e_iload (pc := 140) dX11_who_140 5 rfl ?_
        refine e_callVRI (pc := 142) (As := [.int x4]) (rest := []) kk23 Kc10 (cf_X10_most X x4 w8) lk_X11_256 (Nat.le_of_ble_eq_true rfl) (Nat.le_of_ble_eq_true rfl) rfl rfl (Nat.le_of_ble_eq_true rfl) dX11_who_142 (fun r9 => ?_)
        exact e_iretW rfl dX11_who_145
  · refine e_iload (pc := 58) dX11_who_58 0 rfl ?_
    exact e_iretW rfl dX11_who_60
set_option maxRecDepth 100000 in
set_option maxHeartbeats 4000000 in
theorem ce_X11_who (X : Xt) (a1 : Int32) (a2 : Int32) (a3 : Int32) (a4 : Int32) (w : Wd) : E gWI X m_X11_who 86 0 [(0, .ref (xa X 0)), (1, .int a1), (2, .int a2), (3, .int a3), (4, .int a4)] [] w (f_X11_who a1 a2 a3 a4 w) := by
  unfold f_X11_who
  refine e_iload_n (pc := 0) dX11_who_0 1 rfl rfl ?_
  refine e_callSRI (pc := 1) (As := [.int a1]) (rest := []) (cf_X11_isShelf X a1 w) lk_X11_101 (Nat.le_of_ble_eq_true rfl) (Nat.le_of_ble_eq_true rfl) rfl rfl (Nat.le_of_ble_eq_true rfl) dX11_who_1 (fun r1 => ?_)
  refine e_if_eq (pc := 4) (tgt := 23) dX11_who_4 (by decide) (fun _ => ?_) (fun _ => ?_)
  · refine e_iconst (pc := 23) (v := (-1 : Int32)) dX11_who_23 ic_m1 ?_
    exact e_iretW rfl dX11_who_24
  · refine e_iload_n (pc := 7) dX11_who_7 2 rfl rfl ?_
    refine e_callSRI (pc := 8) (As := [.int a2]) (rest := []) (cf_X11_isBag X a2 w) lk_X11_178 (Nat.le_of_ble_eq_true rfl) (Nat.le_of_ble_eq_true rfl) rfl rfl (Nat.le_of_ble_eq_true rfl) dX11_who_8 (fun r2 => ?_)
    refine e_if_eq (pc := 11) (tgt := 23) dX11_who_11 (by decide) (fun _ => ?_) (fun _ => ?_)
    · refine e_iconst (pc := 23) (v := (-1 : Int32)) dX11_who_23 ic_m1 ?_
      exact e_iretW rfl dX11_who_24
    · refine e_iload_n (pc := 14) dX11_who_14 3 rfl rfl ?_
      refine e_if_lt (pc := 15) (tgt := 23) dX11_who_15 (by decide) (fun _ => ?_) (fun _ => ?_)
      · refine e_iconst (pc := 23) (v := (-1 : Int32)) dX11_who_23 ic_m1 ?_
        exact e_iretW rfl dX11_who_24
      · refine e_iload_n (pc := 18) dX11_who_18 3 rfl rfl ?_
        refine e_iconst (pc := 19) (v := (2 : Int32)) dX11_who_19 ic_2 ?_
        refine e_icmp_le (pc := 20) (tgt := 25) dX11_who_20 (by decide) (fun _ => ?_) (fun _ => ?_)
        · refine e_iload_n (pc := 25) dX11_who_25 3 rfl rfl ?_
          refine e_if_le (pc := 26) (tgt := 42) dX11_who_26 (by decide) (fun _ => ?_) (fun _ => ?_)
          · refine e_lv [0, 1, 2, 3, 4] rfl ?_
            exact cb_X11_who_b42 X a1 a2 a3 a4 w
          · refine e_iload (pc := 29) dX11_who_29 4 rfl ?_
            refine e_if_lt (pc := 31) (tgt := 40) dX11_who_31 (by decide) (fun _ => ?_) (fun _ => ?_)
            · refine e_iconst (pc := 40) (v := (-1 : Int32)) dX11_who_40 ic_m1 ?_
              exact e_iretW rfl dX11_who_41
            · refine e_iload (pc := 34) dX11_who_34 4 rfl ?_
              refine e_iconst (pc := 36) (v := (4 : Int32)) dX11_who_36 ic_4 ?_
              refine e_icmp_lt (pc := 37) (tgt := 42) dX11_who_37 (by decide) (fun _ => ?_) (fun _ => ?_)
              · refine e_lv [0, 1, 2, 3, 4] rfl ?_
                exact cb_X11_who_b42 X a1 a2 a3 a4 w
              · refine e_iconst (pc := 40) (v := (-1 : Int32)) dX11_who_40 ic_m1 ?_
                exact e_iretW rfl dX11_who_41
        · refine e_iconst (pc := 23) (v := (-1 : Int32)) dX11_who_23 ic_m1 ?_
          exact e_iretW rfl dX11_who_24
theorem cf_X11_who (X : Xt) (a1 : Int32) (a2 : Int32) (a3 : Int32) (a4 : Int32) (w : Wd) : CF gWI X m_X11_who 86 [.ref (xa X 0), .int a1, .int a2, .int a3, .int a4] w (f_X11_who a1 a2 a3 a4 w) := CF_of (by decide) (Nat.le_of_ble_eq_true rfl) (ce_X11_who X a1 a2 a3 a4 w)
set_option maxRecDepth 100000 in
set_option maxHeartbeats 4000000 in
theorem cb_X11_stillInOneMore_b15_y (X : Xt) (k15 : Int32 → Int32 → Wd → Option (Int32 × Wd)) (hk15 : ∀ (x2 : Int32) (x3 : Int32)  (w : Wd), E gWI X m_X11_stillInOneMore 6 15 [(0, .ref (xa X 0)), (2, .int x2), (3, .int x3)] [] w (k15 x2 x3 w)) (x2 : Int32) (x3 : Int32) (w : Wd) : E gWI X m_X11_stillInOneMore 6 15 [(0, .ref (xa X 0)), (2, .int x2), (3, .int x3)] [] w (f_X11_stillInOneMore_b15_y k15 x2 x3 w) := by
  unfold f_X11_stillInOneMore_b15_y
  refine e_iload_n (pc := 15) dX11_stillInOneMore_15 2 rfl rfl ?_
  refine e_aload_n (pc := 16) dX11_stillInOneMore_16 0 rfl rfl ?_
  refine g_R (pc := 17) (cl' := 13) kk0 fl_X11_32 rfl dX11_stillInOneMore_17 ?_
  refine g_I (pc := 20) kk13 fl_X11_269 dX11_stillInOneMore_20 ?_
  refine e_icmp_ge (pc := 23) (tgt := 56) dX11_stillInOneMore_23 (by decide) (fun _ => ?_) (fun _ => ?_)
  · refine e_iload_n (pc := 56) dX11_stillInOneMore_56 1 rfl rfl ?_
    exact e_iretW rfl dX11_stillInOneMore_57
  · refine e_iload_n (pc := 26) dX11_stillInOneMore_26 1 rfl rfl ?_
    refine e_aload_n (pc := 27) dX11_stillInOneMore_27 0 rfl rfl ?_
    refine g_R (pc := 28) (cl' := 36) kk0 fl_X11_67 rfl dX11_stillInOneMore_28 ?_
    refine e_iload_n (pc := 31) dX11_stillInOneMore_31 1 rfl rfl ?_
    refine e_aload_n (pc := 32) dX11_stillInOneMore_32 0 rfl rfl ?_
    refine e_aload_n (pc := 33) dX11_stillInOneMore_33 0 rfl rfl ?_
    refine g_R (pc := 34) (cl' := 13) kk0 fl_X11_32 rfl dX11_stillInOneMore_34 ?_
    refine e_iload_n (pc := 37) dX11_stillInOneMore_37 2 rfl rfl ?_
    refine e_callVRI (pc := 38) (As := [.int x3]) (rest := [.ref (xa X 0), .int x2, .ref (xa X 36), .int x2]) kk13 Kc5 (cf_X5_by X x3 w) lk_X11_272 (Nat.le_of_ble_eq_true rfl) (Nat.le_of_ble_eq_true rfl) rfl rfl (Nat.le_of_ble_eq_true rfl) dX11_stillInOneMore_38 (fun r3 => ?_)
    refine e_iload_n (pc := 41) dX11_stillInOneMore_41 2 rfl rfl ?_
    refine e_callVWI (pc := 42) (As := [.int r3, .int x3]) (rest := [.int x2, .ref (xa X 36), .int x2]) kk0 Kc11 (cf_X11_twelfths X r3 x3 w) lk_X11_139 (Nat.le_of_ble_eq_true rfl) (Nat.le_of_ble_eq_true rfl) rfl rfl (Nat.le_of_ble_eq_true rfl) dX11_stillInOneMore_42 (fun r4 w5 => ?_)
    refine e_callVWI (pc := 45) (As := [.int x2, .int r4]) (rest := [.int x2]) kk36 Kc3 (cf_X3_found X x2 r4 w5) lk_X11_289 (Nat.le_of_ble_eq_true rfl) (Nat.le_of_ble_eq_true rfl) rfl rfl (Nat.le_of_ble_eq_true rfl) dX11_stillInOneMore_45 (fun r6 w7 => ?_)
    refine e_isub (pc := 48) dX11_stillInOneMore_48 ?_
    refine e_nameI (fun y8 => ?_)
    refine e_istore_n (pc := 49) (lv' := [(2, .int y8), (0, .ref (xa X 0)), (3, .int x3)]) dX11_stillInOneMore_49 rfl (Nat.le_of_ble_eq_true rfl) rfl ?_
    refine e_iinc (pc := 50) (lv' := [(3, .int (x3 + (1 : Int32))), (2, .int y8), (0, .ref (xa X 0))]) dX11_stillInOneMore_50 2 rfl (ii_1 _) (Nat.le_of_ble_eq_true rfl) rfl ?_
    refine e_goto (pc := 53) (tgt := 15) dX11_stillInOneMore_53 (by decide) ?_
    refine e_lv [2, 1, 0] rfl ?_
    exact hk15 y8 (x3 + (1 : Int32)) w7
theorem cb_X11_stillInOneMore_b15 (X : Xt) : ∀ (n : Nat) (x2 : Int32) (x3 : Int32) (w : Wd), E gWI X m_X11_stillInOneMore 6 15 [(0, .ref (xa X 0)), (2, .int x2), (3, .int x3)] [] w (f_X11_stillInOneMore_b15 n x2 x3 w) := by
  intro n
  induction n with
  | zero =>
    intro x2 x3 w
    exact E_none
  | succ n ih =>
    intro x2 x3 w
    exact cb_X11_stillInOneMore_b15_y X _ ih x2 x3 w
set_option maxRecDepth 100000 in
set_option maxHeartbeats 4000000 in
theorem ce_X11_stillInOneMore (X : Xt) (a1 : Int32) (w : Wd) : E gWI X m_X11_stillInOneMore 6 0 [(0, .ref (xa X 0)), (1, .int a1)] [] w (f_X11_stillInOneMore a1 w) := by
  unfold f_X11_stillInOneMore
  refine e_aload_n (pc := 0) dX11_stillInOneMore_0 0 rfl rfl ?_
  refine g_R (pc := 1) (cl' := 36) kk0 fl_X11_67 rfl dX11_stillInOneMore_1 ?_
  refine e_aload_n (pc := 4) dX11_stillInOneMore_4 0 rfl rfl ?_
  refine g_R (pc := 5) (cl' := 1) kk0 fl_X11_10 rfl dX11_stillInOneMore_5 ?_
  refine e_iload_n (pc := 8) dX11_stillInOneMore_8 1 rfl rfl ?_
  refine e_callVWI (pc := 9) (As := [.ref (xa X 1), .int a1]) (rest := []) kk36 Kc3 (cf_X3_stones X a1 w) lk_X11_278 (Nat.le_of_ble_eq_true rfl) (Nat.le_of_ble_eq_true rfl) rfl rfl (Nat.le_of_ble_eq_true rfl) dX11_stillInOneMore_9 (fun r1 w2 => ?_)
  refine e_istore_n (pc := 12) (lv' := [(2, .int r1), (0, .ref (xa X 0)), (1, .int a1)]) dX11_stillInOneMore_12 rfl (Nat.le_of_ble_eq_true rfl) rfl ?_
  refine e_iconst (pc := 13) (v := (0 : Int32)) dX11_stillInOneMore_13 ic_0 ?_
  refine e_istore_n (pc := 14) (lv' := [(3, .int (0 : Int32)), (2, .int r1), (0, .ref (xa X 0)), (1, .int a1)]) dX11_stillInOneMore_14 rfl (Nat.le_of_ble_eq_true rfl) rfl ?_
  refine e_lv [2, 1, 0] rfl ?_
  exact cb_X11_stillInOneMore_b15 X fu r1 (0 : Int32) w2
theorem cf_X11_stillInOneMore (X : Xt) (a1 : Int32) (w : Wd) : CF gWI X m_X11_stillInOneMore 6 [.ref (xa X 0), .int a1] w (f_X11_stillInOneMore a1 w) := CF_of (by decide) (Nat.le_of_ble_eq_true rfl) (ce_X11_stillInOneMore X a1 w)
set_option maxRecDepth 100000 in
set_option maxHeartbeats 4000000 in
theorem cb_X11_drawn_b149_y (X : Xt) (k149 : Int32 → Int32 → Int32 → Int32 → Wd → Option (Int32 × Wd)) (hk149 : ∀ (x5 : Int32) (x7 : Int32) (x8 : Int32) (x9 : Int32)  (w : Wd), E gWI X m_X11_drawn 7 149 [(0, .ref (xa X 0)), (5, .int x5), (7, .int x7), (8, .int x8), (9, .int x9)] [] w (k149 x5 x7 x8 x9 w)) (x5 : Int32) (x7 : Int32) (x8 : Int32) (x9 : Int32) (w : Wd) : E gWI X m_X11_drawn 7 149 [(0, .ref (xa X 0)), (5, .int x5), (7, .int x7), (8, .int x8), (9, .int x9)] [] w (f_X11_drawn_b149_y k149 x5 x7 x8 x9 w) := by
  unfold f_X11_drawn_b149_y
  refine e_iload (pc := 149) dX11_drawn_149 4 rfl ?_
  refine e_aload_n (pc := 151) dX11_drawn_151 0 rfl rfl ?_
  refine g_R (pc := 152) (cl' := 13) kk0 fl_X11_32 rfl dX11_drawn_152 ?_
  refine g_I (pc := 155) kk13 fl_X11_269 dX11_drawn_155 ?_
  refine e_icmp_ge (pc := 158) (tgt := 190) dX11_drawn_158 (by decide) (fun _ => ?_) (fun _ => ?_)
  · refine e_iload (pc := 190) dX11_drawn_190 1 rfl ?_
    refine e_iload (pc := 192) dX11_drawn_192 3 rfl ?_
    refine e_imul (pc := 194) dX11_drawn_194 ?_
    refine e_iload (pc := 195) dX11_drawn_195 2 rfl ?_
    refine e_aload_n (pc := 197) dX11_drawn_197 0 rfl rfl ?_
    refine g_R (pc := 198) (cl' := 1) kk0 fl_X11_10 rfl dX11_drawn_198 ?_
    refine e_iconst (pc := 201) (v := (0 : Int32)) dX11_drawn_201 ic_0 ?_
    refine e_bipush (pc := 202) (v := (10 : Int32)) dX11_drawn_202 bp_10 ?_
    refine e_callVRI (pc := 204) (As := [.int (0 : Int32), .int (10 : Int32)]) (rest := [.int x7, .int (x5 * x8)]) kk1 Kc6 (cf_X6_get X (0 : Int32) (10 : Int32) w) lk_X11_122 (Nat.le_of_ble_eq_true rfl) (Nat.le_of_ble_eq_true rfl) rfl rfl (Nat.le_of_ble_eq_true rfl) dX11_drawn_204 (fun r9 => ?_)
    refine e_imul (pc := 207) dX11_drawn_207 ?_
    refine e_iadd (pc := 208) dX11_drawn_208 ?_
    exact e_iretW rfl dX11_drawn_209
  · refine e_iload (pc := 161) dX11_drawn_161 3 rfl ?_
    refine e_aload_n (pc := 163) dX11_drawn_163 0 rfl rfl ?_
    refine g_R (pc := 164) (cl' := 1) kk0 fl_X11_10 rfl dX11_drawn_164 ?_
    refine e_aload_n (pc := 167) dX11_drawn_167 0 rfl rfl ?_
    refine g_R (pc := 168) (cl' := 13) kk0 fl_X11_32 rfl dX11_drawn_168 ?_
    refine e_iload (pc := 171) dX11_drawn_171 4 rfl ?_
    refine e_callVRI (pc := 173) (As := [.int x9]) (rest := [.ref (xa X 1), .int x8]) kk13 Kc5 (cf_X5_by X x9 w) lk_X11_272 (Nat.le_of_ble_eq_true rfl) (Nat.le_of_ble_eq_true rfl) rfl rfl (Nat.le_of_ble_eq_true rfl) dX11_drawn_173 (fun r10 => ?_)
    refine e_bipush (pc := 176) (v := (6 : Int32)) dX11_drawn_176 bp_6 ?_
    refine e_callVRI (pc := 178) (As := [.int r10, .int (6 : Int32)]) (rest := [.int x8]) kk1 Kc6 (cf_X6_get X r10 (6 : Int32) w) lk_X11_122 (Nat.le_of_ble_eq_true rfl) (Nat.le_of_ble_eq_true rfl) rfl rfl (Nat.le_of_ble_eq_true rfl) dX11_drawn_178 (fun r11 => ?_)
    refine e_iadd (pc := 181) dX11_drawn_181 ?_
    refine e_nameI (fun y12 => ?_)
    refine e_istore (pc := 182) (lv' := [(8, .int y12), (0, .ref (xa X 0)), (5, .int x5), (7, .int x7), (9, .int x9)]) dX11_drawn_182 (Nat.le_of_ble_eq_true rfl) rfl ?_
    refine e_iinc (pc := 184) (lv' := [(9, .int (x9 + (1 : Int32))), (8, .int y12), (0, .ref (xa X 0)), (5, .int x5), (7, .int x7)]) dX11_drawn_184 4 rfl (ii_1 _) (Nat.le_of_ble_eq_true rfl) rfl ?_
    refine e_goto (pc := 187) (tgt := 149) dX11_drawn_187 (by decide) ?_
    refine e_lv [2, 3, 4, 1, 0] rfl ?_
    exact hk149 x5 x7 y12 (x9 + (1 : Int32)) w
theorem cb_X11_drawn_b149 (X : Xt) : ∀ (n : Nat) (x5 : Int32) (x7 : Int32) (x8 : Int32) (x9 : Int32) (w : Wd), E gWI X m_X11_drawn 7 149 [(0, .ref (xa X 0)), (5, .int x5), (7, .int x7), (8, .int x8), (9, .int x9)] [] w (f_X11_drawn_b149 n x5 x7 x8 x9 w) := by
  intro n
  induction n with
  | zero =>
    intro x5 x7 x8 x9 w
    exact E_none
  | succ n ih =>
    intro x5 x7 x8 x9 w
    exact cb_X11_drawn_b149_y X _ ih x5 x7 x8 x9 w
set_option maxRecDepth 100000 in
set_option maxHeartbeats 4000000 in
theorem cb_X11_drawn_b109_y (X : Xt) (k109 : Int32 → Int32 → Int32 → Int32 → Int32 → Wd → Option (Int32 × Wd)) (hk109 : ∀ (x3 : Int32) (x4 : Int32) (x5 : Int32) (x7 : Int32) (x8 : Int32)  (w : Wd), E gWI X m_X11_drawn 7 109 [(0, .ref (xa X 0)), (3, .int x3), (4, .int x4), (5, .int x5), (7, .int x7), (8, .int x8)] [] w (k109 x3 x4 x5 x7 x8 w)) (x3 : Int32) (x4 : Int32) (x5 : Int32) (x7 : Int32) (x8 : Int32) (w : Wd) : E gWI X m_X11_drawn 7 109 [(0, .ref (xa X 0)), (3, .int x3), (4, .int x4), (5, .int x5), (7, .int x7), (8, .int x8)] [] w (f_X11_drawn_b109_y k109 x3 x4 x5 x7 x8 w) := by
  unfold f_X11_drawn_b109_y
  refine e_iload (pc := 109) dX11_drawn_109 5 rfl ?_
  refine e_iload (pc := 111) dX11_drawn_111 3 rfl ?_
  refine e_icmp_ge (pc := 113) (tgt := 135) dX11_drawn_113 (by decide) (fun _ => ?_) (fun _ => ?_)
  · refine e_iload (pc := 135) dX11_drawn_135 2 rfl ?_
    refine e_if_ne (pc := 137) (tgt := 143) dX11_drawn_137 (by decide) (fun _ => ?_) (fun _ => ?_)
    · refine e_iload (pc := 140) dX11_drawn_140 4 rfl ?_
      exact e_iretW rfl dX11_drawn_142
    · refine e_iconst (pc := 143) (v := (0 : Int32)) dX11_drawn_143 ic_0 ?_
      refine e_istore (pc := 144) (lv' := [(8, .int (0 : Int32)), (0, .ref (xa X 0)), (3, .int x3), (4, .int x4), (5, .int x5), (7, .int x7)]) dX11_drawn_144 (Nat.le_of_ble_eq_true rfl) rfl ?_
      refine e_iconst (pc := 146) (v := (0 : Int32)) dX11_drawn_146 ic_0 ?_
      refine e_istore (pc := 147) (lv' := [(9, .int (0 : Int32)), (8, .int (0 : Int32)), (0, .ref (xa X 0)), (3, .int x3), (4, .int x4), (5, .int x5), (7, .int x7)]) dX11_drawn_147 (Nat.le_of_ble_eq_true rfl) rfl ?_
      refine e_lv [2, 5, 6, 1, 0] rfl ?_
      exact cb_X11_drawn_b149 X fu x5 x7 (0 : Int32) (0 : Int32) w
  · refine e_iload (pc := 116) dX11_drawn_116 4 rfl ?_
    refine e_aload_n (pc := 118) dX11_drawn_118 0 rfl rfl ?_
    refine e_iload_n (pc := 119) dX11_drawn_119 1 rfl rfl ?_
    refine e_bipush (pc := 120) (v := (100 : Int32)) dX11_drawn_120 bp_100 ?_
    refine e_idiv (pc := 122) dX11_drawn_122 (by decide) ?_
    refine e_callVWI (pc := 123) (As := [.int (x3 / (100 : Int32))]) (rest := [.int x7]) kk0 Kc11 (cf_X11_stillInOneMore X (x3 / (100 : Int32)) w) lk_X11_266 (Nat.le_of_ble_eq_true rfl) (Nat.le_of_ble_eq_true rfl) rfl rfl (Nat.le_of_ble_eq_true rfl) dX11_drawn_123 (fun r13 w14 => ?_)
    refine e_iadd (pc := 126) dX11_drawn_126 ?_
    refine e_nameI (fun y15 => ?_)
    refine e_istore (pc := 127) (lv' := [(7, .int y15), (0, .ref (xa X 0)), (3, .int x3), (4, .int x4), (5, .int x5), (8, .int x8)]) dX11_drawn_127 (Nat.le_of_ble_eq_true rfl) rfl ?_
    refine e_iinc (pc := 129) (lv' := [(8, .int (x8 + (1 : Int32))), (7, .int y15), (0, .ref (xa X 0)), (3, .int x3), (4, .int x4), (5, .int x5)]) dX11_drawn_129 5 rfl (ii_1 _) (Nat.le_of_ble_eq_true rfl) rfl ?_
    refine e_goto (pc := 132) (tgt := 109) dX11_drawn_132 (by decide) ?_
    refine e_lv [2, 3, 4, 5, 1, 0] rfl ?_
    exact hk109 x3 x4 x5 y15 (x8 + (1 : Int32)) w14
theorem cb_X11_drawn_b109 (X : Xt) : ∀ (n : Nat) (x3 : Int32) (x4 : Int32) (x5 : Int32) (x7 : Int32) (x8 : Int32) (w : Wd), E gWI X m_X11_drawn 7 109 [(0, .ref (xa X 0)), (3, .int x3), (4, .int x4), (5, .int x5), (7, .int x7), (8, .int x8)] [] w (f_X11_drawn_b109 n x3 x4 x5 x7 x8 w) := by
  intro n
  induction n with
  | zero =>
    intro x3 x4 x5 x7 x8 w
    exact E_none
  | succ n ih =>
    intro x3 x4 x5 x7 x8 w
    exact cb_X11_drawn_b109_y X _ ih x3 x4 x5 x7 x8 w
set_option maxRecDepth 100000 in
set_option maxHeartbeats 4000000 in
theorem ce_X11_drawn (X : Xt) (a1 : Int32) (a2 : Int32) (a3 : Int32) (a4 : Int32) (w : Wd) : E gWI X m_X11_drawn 7 0 [(0, .ref (xa X 0)), (1, .int a1), (2, .int a2), (3, .int a3), (4, .int a4)] [] w (f_X11_drawn a1 a2 a3 a4 w) := by
  unfold f_X11_drawn
  refine e_iload_n (pc := 0) dX11_drawn_0 1 rfl rfl ?_
  refine e_callSRI (pc := 1) (As := [.int a1]) (rest := []) (cf_X11_isShelf X a1 w) lk_X11_101 (Nat.le_of_ble_eq_true rfl) (Nat.le_of_ble_eq_true rfl) rfl rfl (Nat.le_of_ble_eq_true rfl) dX11_drawn_1 (fun r1 => ?_)
  refine e_if_eq (pc := 4) (tgt := 21) dX11_drawn_4 (by decide) (fun _ => ?_) (fun _ => ?_)
  · refine e_iconst (pc := 21) (v := (-1 : Int32)) dX11_drawn_21 ic_m1 ?_
    exact e_iretW rfl dX11_drawn_22
  · refine e_iload_n (pc := 7) dX11_drawn_7 3 rfl rfl ?_
    refine e_if_lt (pc := 8) (tgt := 21) dX11_drawn_8 (by decide) (fun _ => ?_) (fun _ => ?_)
    · refine e_iconst (pc := 21) (v := (-1 : Int32)) dX11_drawn_21 ic_m1 ?_
      exact e_iretW rfl dX11_drawn_22
    · refine e_iload_n (pc := 11) dX11_drawn_11 3 rfl rfl ?_
      refine e_bipush (pc := 12) (v := (100 : Int32)) dX11_drawn_12 bp_100 ?_
      refine e_idiv (pc := 14) dX11_drawn_14 (by decide) ?_
      refine e_callSRI (pc := 15) (As := [.int (a3 / (100 : Int32))]) (rest := []) (cf_X11_isBag X (a3 / (100 : Int32)) w) lk_X11_178 (Nat.le_of_ble_eq_true rfl) (Nat.le_of_ble_eq_true rfl) rfl rfl (Nat.le_of_ble_eq_true rfl) dX11_drawn_15 (fun r2 => ?_)
      refine e_if_ne (pc := 18) (tgt := 23) dX11_drawn_18 (by decide) (fun _ => ?_) (fun _ => ?_)
      · refine e_iconst (pc := 21) (v := (-1 : Int32)) dX11_drawn_21 ic_m1 ?_
        exact e_iretW rfl dX11_drawn_22
      · refine e_iload_n (pc := 23) dX11_drawn_23 3 rfl rfl ?_
        refine e_bipush (pc := 24) (v := (100 : Int32)) dX11_drawn_24 bp_100 ?_
        refine e_irem (pc := 26) dX11_drawn_26 (by decide) ?_
        refine e_nameI (fun y3 => ?_)
        refine e_istore (pc := 27) (lv' := [(5, .int y3), (0, .ref (xa X 0)), (1, .int a1), (2, .int a2), (3, .int a3), (4, .int a4)]) dX11_drawn_27 (Nat.le_of_ble_eq_true rfl) rfl ?_
        refine e_iload (pc := 29) dX11_drawn_29 0 rfl ?_
        refine e_iconst (pc := 31) (v := (1 : Int32)) dX11_drawn_31 ic_1 ?_
        refine e_icmp_lt (pc := 32) (tgt := 53) dX11_drawn_32 (by decide) (fun _ => ?_) (fun _ => ?_)
        · refine e_iconst (pc := 53) (v := (-1 : Int32)) dX11_drawn_53 ic_m1 ?_
          exact e_iretW rfl dX11_drawn_54
        · refine e_iload (pc := 35) dX11_drawn_35 0 rfl ?_
          refine e_bipush (pc := 37) (v := (30 : Int32)) dX11_drawn_37 bp_30 ?_
          refine e_icmp_gt (pc := 39) (tgt := 53) dX11_drawn_39 (by decide) (fun _ => ?_) (fun _ => ?_)
          · refine e_iconst (pc := 53) (v := (-1 : Int32)) dX11_drawn_53 ic_m1 ?_
            exact e_iretW rfl dX11_drawn_54
          · refine e_iload (pc := 42) dX11_drawn_42 5 rfl ?_
            refine e_if_lt (pc := 44) (tgt := 53) dX11_drawn_44 (by decide) (fun _ => ?_) (fun _ => ?_)
            · refine e_iconst (pc := 53) (v := (-1 : Int32)) dX11_drawn_53 ic_m1 ?_
              exact e_iretW rfl dX11_drawn_54
            · refine e_iload (pc := 47) dX11_drawn_47 5 rfl ?_
              refine e_iconst (pc := 49) (v := (1 : Int32)) dX11_drawn_49 ic_1 ?_
              refine e_icmp_le (pc := 50) (tgt := 55) dX11_drawn_50 (by decide) (fun _ => ?_) (fun _ => ?_)
              · refine e_aload_n (pc := 55) dX11_drawn_55 1 rfl rfl ?_
                refine g_R (pc := 56) (cl' := 12) kk0 fl_X11_25 rfl dX11_drawn_56 ?_
                refine e_iload_n (pc := 59) dX11_drawn_59 2 rfl rfl ?_
                refine e_aald (pc := 60) kk12 dX11_drawn_60 (fun c4 hc4 => ?_)
                refine e_callVRI (pc := 61) (As := []) (rest := []) hc4.1 Kc9 (cf_X9_refusalAsBytes X c4 hc4 w) lk_X11_181 (Nat.le_of_ble_eq_true rfl) (Nat.le_of_ble_eq_true rfl) rfl rfl (Nat.le_of_ble_eq_true rfl) dX11_drawn_61 (fun r5 => ?_)
                refine e_istore (pc := 64) (lv' := [(6, .int r5), (5, .int y3), (0, .ref (xa X 0)), (1, .int a1), (2, .int a2), (3, .int a3), (4, .int a4)]) dX11_drawn_64 (Nat.le_of_ble_eq_true rfl) rfl ?_
                refine e_iload (pc := 66) dX11_drawn_66 0 rfl ?_
                refine e_if_ge (pc := 68) (tgt := 74) dX11_drawn_68 (by decide) (fun _ => ?_) (fun _ => ?_)
                · refine e_aload_n (pc := 74) dX11_drawn_74 2 rfl rfl ?_
                  refine g_R (pc := 75) (cl' := 13) kk0 fl_X11_32 rfl dX11_drawn_75 ?_
                  refine e_aload_n (pc := 78) dX11_drawn_78 2 rfl rfl ?_
                  refine g_R (pc := 79) (cl' := 12) kk0 fl_X11_25 rfl dX11_drawn_79 ?_
                  refine e_iload_n (pc := 82) dX11_drawn_82 3 rfl rfl ?_
                  refine e_aald (pc := 83) kk12 dX11_drawn_83 (fun c6 hc6 => ?_)
                  refine e_aload_n (pc := 84) dX11_drawn_84 2 rfl rfl ?_
                  refine g_R (pc := 85) (cl' := 1) kk0 fl_X11_10 rfl dX11_drawn_85 ?_
                  refine g_I (pc := 88) kk1 fl_X11_215 dX11_drawn_88 ?_
                  refine e_iconst (pc := 91) (v := (1 : Int32)) dX11_drawn_91 ic_1 ?_
                  refine e_callVWV (pc := 92) (As := [.ref (xa X c6), .int (gi w 1 1), .int (1 : Int32)]) (rest := []) kk13 Kc5 (cf_X5_read X c6 (gi w 1 1) (1 : Int32) hc6 w) lk_X11_259 (Nat.le_of_ble_eq_true rfl) (Nat.le_of_ble_eq_true rfl) rfl rfl (Nat.le_of_ble_eq_true rfl) dX11_drawn_92 (fun w7 => ?_)
                  refine e_aload_n (pc := 95) dX11_drawn_95 2 rfl rfl ?_
                  refine g_R (pc := 96) (cl' := 36) kk0 fl_X11_67 rfl dX11_drawn_96 ?_
                  refine e_iload_n (pc := 99) dX11_drawn_99 4 rfl rfl ?_
                  refine p_I (pc := 100) kk36 fp_X11_263 dX11_drawn_100 (fun w8 => ?_)
                  refine e_iconst (pc := 103) (v := (0 : Int32)) dX11_drawn_103 ic_0 ?_
                  refine e_istore (pc := 104) (lv' := [(7, .int (0 : Int32)), (6, .int r5), (5, .int y3), (0, .ref (xa X 0)), (1, .int a1), (2, .int a2), (3, .int a3), (4, .int a4)]) dX11_drawn_104 (Nat.le_of_ble_eq_true rfl) rfl ?_
                  refine e_iconst (pc := 106) (v := (0 : Int32)) dX11_drawn_106 ic_0 ?_
                  refine e_istore (pc := 107) (lv' := [(8, .int (0 : Int32)), (7, .int (0 : Int32)), (6, .int r5), (5, .int y3), (0, .ref (xa X 0)), (1, .int a1), (2, .int a2), (3, .int a3), (4, .int a4)]) dX11_drawn_107 (Nat.le_of_ble_eq_true rfl) rfl ?_
                  refine e_lv [4, 7, 8, 3, 1, 0] rfl ?_
                  exact cb_X11_drawn_b109 X fu a3 a4 y3 (0 : Int32) (0 : Int32) w8
                · refine e_iload (pc := 71) dX11_drawn_71 0 rfl ?_
                  exact e_iretW rfl dX11_drawn_73
              · refine e_iconst (pc := 53) (v := (-1 : Int32)) dX11_drawn_53 ic_m1 ?_
                exact e_iretW rfl dX11_drawn_54
theorem cf_X11_drawn (X : Xt) (a1 : Int32) (a2 : Int32) (a3 : Int32) (a4 : Int32) (w : Wd) : CF gWI X m_X11_drawn 7 [.ref (xa X 0), .int a1, .int a2, .int a3, .int a4] w (f_X11_drawn a1 a2 a3 a4 w) := CF_of (by decide) (Nat.le_of_ble_eq_true rfl) (ce_X11_drawn X a1 a2 a3 a4 w)
set_option maxRecDepth 100000 in
set_option maxHeartbeats 4000000 in
theorem ce_X11_open (X : Xt) (a1 : Int32) (a2 : Int32) (w : Wd) : E gWI X m_X11_open 5 0 [(0, .ref (xa X 0)), (1, .int a1), (2, .int a2)] [] w (f_X11_open a1 a2 w) := by
  unfold f_X11_open
  refine e_iload_n (pc := 0) dX11_open_0 1 rfl rfl ?_
  refine e_callSRI (pc := 1) (As := [.int a1]) (rest := []) (cf_X11_isBag X a1 w) lk_X11_178 (Nat.le_of_ble_eq_true rfl) (Nat.le_of_ble_eq_true rfl) rfl rfl (Nat.le_of_ble_eq_true rfl) dX11_open_1 (fun r1 => ?_)
  refine e_if_ne (pc := 4) (tgt := 9) dX11_open_4 (by decide) (fun _ => ?_) (fun _ => ?_)
  · refine e_iconst (pc := 7) (v := (-1 : Int32)) dX11_open_7 ic_m1 ?_
    exact e_iretW rfl dX11_open_8
  · refine e_aload_n (pc := 9) dX11_open_9 0 rfl rfl ?_
    refine g_R (pc := 10) (cl' := 37) kk0 fl_X11_74 rfl dX11_open_10 ?_
    refine g_I (pc := 13) kk37 fl_X11_275 dX11_open_13 ?_
    refine e_if_eq (pc := 16) (tgt := 22) dX11_open_16 (by decide) (fun _ => ?_) (fun _ => ?_)
    · refine e_aload_n (pc := 22) dX11_open_22 0 rfl rfl ?_
      refine g_R (pc := 23) (cl' := 36) kk0 fl_X11_67 rfl dX11_open_23 ?_
      refine e_iload_n (pc := 26) dX11_open_26 2 rfl rfl ?_
      refine p_I (pc := 27) kk36 fp_X11_263 dX11_open_27 (fun w2 => ?_)
      refine e_aload_n (pc := 30) dX11_open_30 0 rfl rfl ?_
      refine g_R (pc := 31) (cl' := 37) kk0 fl_X11_74 rfl dX11_open_31 ?_
      refine e_aload_n (pc := 34) dX11_open_34 0 rfl rfl ?_
      refine g_R (pc := 35) (cl' := 36) kk0 fl_X11_67 rfl dX11_open_35 ?_
      refine e_aload_n (pc := 38) dX11_open_38 0 rfl rfl ?_
      refine g_R (pc := 39) (cl' := 1) kk0 fl_X11_10 rfl dX11_open_39 ?_
      refine e_iload_n (pc := 42) dX11_open_42 1 rfl rfl ?_
      refine e_callVWI (pc := 43) (As := [.ref (xa X 1), .int a1]) (rest := [.ref (xa X 37)]) kk36 Kc3 (cf_X3_stones X a1 w2) lk_X11_278 (Nat.le_of_ble_eq_true rfl) (Nat.le_of_ble_eq_true rfl) rfl rfl (Nat.le_of_ble_eq_true rfl) dX11_open_43 (fun r3 w4 => ?_)
      refine e_aload_n (pc := 46) dX11_open_46 0 rfl rfl ?_
      refine g_R (pc := 47) (cl' := 36) kk0 fl_X11_67 rfl dX11_open_47 ?_
      refine g_I (pc := 50) kk36 fl_X11_263 dX11_open_50 ?_
      refine e_callVWV (pc := 53) (As := [.int r3, .int (gi w4 36 0)]) (rest := []) kk37 Kc2 (cf_X2_begin X 37 r3 (gi w4 36 0) hk_isDe_37 w4) lk_X11_281 (Nat.le_of_ble_eq_true rfl) (Nat.le_of_ble_eq_true rfl) rfl rfl (Nat.le_of_ble_eq_true rfl) dX11_open_53 (fun w5 => ?_)
      refine e_iload_n (pc := 56) dX11_open_56 1 rfl rfl ?_
      exact e_iretW rfl dX11_open_57
    · refine e_bipush (pc := 19) (v := (-5 : Int32)) dX11_open_19 bp_m5 ?_
      exact e_iretW rfl dX11_open_21
theorem cf_X11_open (X : Xt) (a1 : Int32) (a2 : Int32) (w : Wd) : CF gWI X m_X11_open 5 [.ref (xa X 0), .int a1, .int a2] w (f_X11_open a1 a2 w) := CF_of (by decide) (Nat.le_of_ble_eq_true rfl) (ce_X11_open X a1 a2 w)
set_option maxRecDepth 100000 in
set_option maxHeartbeats 4000000 in
theorem ce_X11_look (X : Xt) (a1 : Int32) (w : Wd) : E gWI X m_X11_look 6 0 [(0, .ref (xa X 0)), (1, .int a1)] [] w (f_X11_look a1 w) := by
  unfold f_X11_look
  refine e_aload_n (pc := 0) dX11_look_0 0 rfl rfl ?_
  refine g_R (pc := 1) (cl' := 1) kk0 fl_X11_10 rfl dX11_look_1 ?_
  refine e_iload_n (pc := 4) dX11_look_4 1 rfl rfl ?_
  refine e_callVRI (pc := 5) (As := [.int a1]) (rest := []) kk1 Kc6 (cf_X6_isLooker X a1 w) lk_X11_136 (Nat.le_of_ble_eq_true rfl) (Nat.le_of_ble_eq_true rfl) rfl rfl (Nat.le_of_ble_eq_true rfl) dX11_look_5 (fun r1 => ?_)
  refine e_if_ne (pc := 8) (tgt := 13) dX11_look_8 (by decide) (fun _ => ?_) (fun _ => ?_)
  · refine e_iconst (pc := 11) (v := (-1 : Int32)) dX11_look_11 ic_m1 ?_
    exact e_iretW rfl dX11_look_12
  · refine e_aload_n (pc := 13) dX11_look_13 0 rfl rfl ?_
    refine g_R (pc := 14) (cl' := 37) kk0 fl_X11_74 rfl dX11_look_14 ?_
    refine g_I (pc := 17) kk37 fl_X11_275 dX11_look_17 ?_
    refine e_if_ne (pc := 20) (tgt := 26) dX11_look_20 (by decide) (fun _ => ?_) (fun _ => ?_)
    · refine e_bipush (pc := 23) (v := (-5 : Int32)) dX11_look_23 bp_m5 ?_
      exact e_iretW rfl dX11_look_25
    · refine e_aload_n (pc := 26) dX11_look_26 0 rfl rfl ?_
      refine g_R (pc := 27) (cl' := 36) kk0 fl_X11_67 rfl dX11_look_27 ?_
      refine e_aload_n (pc := 30) dX11_look_30 0 rfl rfl ?_
      refine g_R (pc := 31) (cl' := 37) kk0 fl_X11_74 rfl dX11_look_31 ?_
      refine g_I (pc := 34) kk37 fl_X11_283 dX11_look_34 ?_
      refine p_I (pc := 37) kk36 fp_X11_263 dX11_look_37 (fun w2 => ?_)
      refine e_aload_n (pc := 40) dX11_look_40 0 rfl rfl ?_
      refine g_R (pc := 41) (cl' := 36) kk0 fl_X11_67 rfl dX11_look_41 ?_
      refine e_aload_n (pc := 44) dX11_look_44 0 rfl rfl ?_
      refine g_R (pc := 45) (cl' := 37) kk0 fl_X11_74 rfl dX11_look_45 ?_
      refine g_I (pc := 48) kk37 fl_X11_284 dX11_look_48 ?_
      refine e_aload_n (pc := 51) dX11_look_51 0 rfl rfl ?_
      refine e_iload_n (pc := 52) dX11_look_52 1 rfl rfl ?_
      refine e_aload_n (pc := 53) dX11_look_53 0 rfl rfl ?_
      refine g_R (pc := 54) (cl' := 37) kk0 fl_X11_74 rfl dX11_look_54 ?_
      refine g_I (pc := 57) kk37 fl_X11_286 dX11_look_57 ?_
      refine e_callVWI (pc := 60) (As := [.int a1, .int (gi w2 37 3)]) (rest := [.int (gi w2 37 1), .ref (xa X 36)]) kk0 Kc11 (cf_X11_twelfths X a1 (gi w2 37 3) w2) lk_X11_139 (Nat.le_of_ble_eq_true rfl) (Nat.le_of_ble_eq_true rfl) rfl rfl (Nat.le_of_ble_eq_true rfl) dX11_look_60 (fun r3 w4 => ?_)
      refine e_callVWI (pc := 63) (As := [.int (gi w2 37 1), .int r3]) (rest := []) kk36 Kc3 (cf_X3_found X (gi w2 37 1) r3 w4) lk_X11_289 (Nat.le_of_ble_eq_true rfl) (Nat.le_of_ble_eq_true rfl) rfl rfl (Nat.le_of_ble_eq_true rfl) dX11_look_63 (fun r5 w6 => ?_)
      refine e_istore_n (pc := 66) (lv' := [(2, .int r5), (0, .ref (xa X 0)), (1, .int a1)]) dX11_look_66 rfl (Nat.le_of_ble_eq_true rfl) rfl ?_
      refine e_aload_n (pc := 67) dX11_look_67 1 rfl rfl ?_
      refine g_R (pc := 68) (cl' := 37) kk0 fl_X11_74 rfl dX11_look_68 ?_
      refine e_iload_n (pc := 71) dX11_look_71 0 rfl rfl ?_
      refine e_aload_n (pc := 72) dX11_look_72 1 rfl rfl ?_
      refine g_R (pc := 73) (cl' := 1) kk0 fl_X11_10 rfl dX11_look_73 ?_
      refine e_iload_n (pc := 76) dX11_look_76 2 rfl rfl ?_
      refine e_bipush (pc := 77) (v := (6 : Int32)) dX11_look_77 bp_6 ?_
      refine e_callVRI (pc := 79) (As := [.int a1, .int (6 : Int32)]) (rest := [.int r5, .ref (xa X 37)]) kk1 Kc6 (cf_X6_get X a1 (6 : Int32) w6) lk_X11_122 (Nat.le_of_ble_eq_true rfl) (Nat.le_of_ble_eq_true rfl) rfl rfl (Nat.le_of_ble_eq_true rfl) dX11_look_79 (fun r7 => ?_)
      refine e_aload_n (pc := 82) dX11_look_82 1 rfl rfl ?_
      refine g_R (pc := 83) (cl' := 36) kk0 fl_X11_67 rfl dX11_look_83 ?_
      refine g_I (pc := 86) kk36 fl_X11_263 dX11_look_86 ?_
      refine e_callVWV (pc := 89) (As := [.int r5, .int r7, .int (gi w6 36 0)]) (rest := []) kk37 Kc2 (cf_X2_addLook X 37 r5 r7 (gi w6 36 0) hk_isDe_37 w6) lk_X11_292 (Nat.le_of_ble_eq_true rfl) (Nat.le_of_ble_eq_true rfl) rfl rfl (Nat.le_of_ble_eq_true rfl) dX11_look_89 (fun w8 => ?_)
      refine e_iload_n (pc := 92) dX11_look_92 0 rfl rfl ?_
      exact e_iretW rfl dX11_look_93
theorem cf_X11_look (X : Xt) (a1 : Int32) (w : Wd) : CF gWI X m_X11_look 6 [.ref (xa X 0), .int a1] w (f_X11_look a1 w) := CF_of (by decide) (Nat.le_of_ble_eq_true rfl) (ce_X11_look X a1 w)
set_option maxRecDepth 100000 in
set_option maxHeartbeats 4000000 in
theorem ce_X11_eat (X : Xt) (w : Wd) : E gWI X m_X11_eat 4 0 [(0, .ref (xa X 0))] [] w (f_X11_eat w) := by
  unfold f_X11_eat
  refine e_aload_n (pc := 0) dX11_eat_0 0 rfl rfl ?_
  refine g_R (pc := 1) (cl' := 37) kk0 fl_X11_74 rfl dX11_eat_1 ?_
  refine g_I (pc := 4) kk37 fl_X11_275 dX11_eat_4 ?_
  refine e_if_eq (pc := 7) (tgt := 30) dX11_eat_7 (by decide) (fun _ => ?_) (fun _ => ?_)
  · refine e_bipush (pc := 30) (v := (-5 : Int32)) dX11_eat_30 bp_m5 ?_
    exact e_iretW rfl dX11_eat_32
  · refine e_aload_n (pc := 10) dX11_eat_10 0 rfl rfl ?_
    refine g_R (pc := 11) (cl' := 37) kk0 fl_X11_74 rfl dX11_eat_11 ?_
    refine e_aload_n (pc := 14) dX11_eat_14 0 rfl rfl ?_
    refine g_R (pc := 15) (cl' := 1) kk0 fl_X11_10 rfl dX11_eat_15 ?_
    refine e_iconst (pc := 18) (v := (0 : Int32)) dX11_eat_18 ic_0 ?_
    refine e_bipush (pc := 19) (v := (10 : Int32)) dX11_eat_19 bp_10 ?_
    refine e_callVRI (pc := 21) (As := [.int (0 : Int32), .int (10 : Int32)]) (rest := [.ref (xa X 37)]) kk1 Kc6 (cf_X6_get X (0 : Int32) (10 : Int32) w) lk_X11_122 (Nat.le_of_ble_eq_true rfl) (Nat.le_of_ble_eq_true rfl) rfl rfl (Nat.le_of_ble_eq_true rfl) dX11_eat_21 (fun r1 => ?_)
    refine e_callVWI (pc := 24) (As := [.int r1]) (rest := []) kk37 Kc2 (cf_X2_end X 37 r1 hk_isDe_37 w) lk_X11_296 (Nat.le_of_ble_eq_true rfl) (Nat.le_of_ble_eq_true rfl) rfl rfl (Nat.le_of_ble_eq_true rfl) dX11_eat_24 (fun r2 w3 => ?_)
    refine e_goto (pc := 27) (tgt := 32) dX11_eat_27 (by decide) ?_
    exact e_iretW rfl dX11_eat_32
theorem cf_X11_eat (X : Xt) (w : Wd) : CF gWI X m_X11_eat 4 [.ref (xa X 0)] w (f_X11_eat w) := CF_of (by decide) (Nat.le_of_ble_eq_true rfl) (ce_X11_eat X w)
set_option maxRecDepth 100000 in
set_option maxHeartbeats 4000000 in
theorem ce_X11_led (X : Xt) (a1 : Int32) (w : Wd) : E (gRI w) X m_X11_led 1 0 [(0, .ref (xa X 0)), (1, .int a1)] [] w (f_X11_led a1 w) := by
  unfold f_X11_led
  refine e_iload_n (pc := 0) dX11_led_0 1 rfl rfl ?_
  refine e_ite (fun h1_0 => ?_) (fun h1_0 => ?_)
  · refine e_tabIn (pc := 1) (off := 39) (tgt := 40) dX11_led_1 (by rw [h1_0]; decide) (by rw [h1_0]; decide) (by rw [h1_0]; decide) (by decide) ?_
    refine e_aload_n (pc := 40) dX11_led_40 0 rfl rfl ?_
    refine g_R (pc := 41) (cl' := 37) kk0 fl_X11_74 rfl dX11_led_41 ?_
    refine g_I (pc := 44) kk37 fl_X11_299 dX11_led_44 ?_
    exact e_iretR rfl dX11_led_47
  · refine e_ite (fun h1_1 => ?_) (fun h1_1 => ?_)
    · refine e_tabIn (pc := 1) (off := 47) (tgt := 48) dX11_led_1 (by rw [h1_1]; decide) (by rw [h1_1]; decide) (by rw [h1_1]; decide) (by decide) ?_
      refine e_aload_n (pc := 48) dX11_led_48 0 rfl rfl ?_
      refine g_R (pc := 49) (cl' := 37) kk0 fl_X11_74 rfl dX11_led_49 ?_
      refine g_I (pc := 52) kk37 fl_X11_302 dX11_led_52 ?_
      exact e_iretR rfl dX11_led_55
    · refine e_ite (fun h1_2 => ?_) (fun h1_2 => ?_)
      · refine e_tabIn (pc := 1) (off := 55) (tgt := 56) dX11_led_1 (by rw [h1_2]; decide) (by rw [h1_2]; decide) (by rw [h1_2]; decide) (by decide) ?_
        refine e_aload_n (pc := 56) dX11_led_56 0 rfl rfl ?_
        refine g_R (pc := 57) (cl' := 37) kk0 fl_X11_74 rfl dX11_led_57 ?_
        refine g_I (pc := 60) kk37 fl_X11_304 dX11_led_60 ?_
        exact e_iretR rfl dX11_led_63
      · refine e_ite (fun h1_3 => ?_) (fun h1_3 => ?_)
        · refine e_tabIn (pc := 1) (off := 63) (tgt := 64) dX11_led_1 (by rw [h1_3]; decide) (by rw [h1_3]; decide) (by rw [h1_3]; decide) (by decide) ?_
          refine e_aload_n (pc := 64) dX11_led_64 0 rfl rfl ?_
          refine g_R (pc := 65) (cl' := 37) kk0 fl_X11_74 rfl dX11_led_65 ?_
          refine g_I (pc := 68) kk37 fl_X11_306 dX11_led_68 ?_
          exact e_iretR rfl dX11_led_71
        · refine e_ite (fun h1_4 => ?_) (fun h1_4 => ?_)
          · refine e_tabIn (pc := 1) (off := 71) (tgt := 72) dX11_led_1 (by rw [h1_4]; decide) (by rw [h1_4]; decide) (by rw [h1_4]; decide) (by decide) ?_
            refine e_aload_n (pc := 72) dX11_led_72 0 rfl rfl ?_
            refine g_R (pc := 73) (cl' := 37) kk0 fl_X11_74 rfl dX11_led_73 ?_
            refine g_I (pc := 76) kk37 fl_X11_309 dX11_led_76 ?_
            exact e_iretR rfl dX11_led_79
          · refine e_ite (fun h1_5 => ?_) (fun h1_5 => ?_)
            · refine e_tabIn (pc := 1) (off := 79) (tgt := 80) dX11_led_1 (by rw [h1_5]; decide) (by rw [h1_5]; decide) (by rw [h1_5]; decide) (by decide) ?_
              refine e_aload_n (pc := 80) dX11_led_80 0 rfl rfl ?_
              refine g_R (pc := 81) (cl' := 37) kk0 fl_X11_74 rfl dX11_led_81 ?_
              refine g_I (pc := 84) kk37 fl_X11_275 dX11_led_84 ?_
              refine e_if_eq (pc := 87) (tgt := 100) dX11_led_87 (by decide) (fun _ => ?_) (fun _ => ?_)
              · refine e_bipush (pc := 100) (v := (-5 : Int32)) dX11_led_100 bp_m5 ?_
                exact e_iretR rfl dX11_led_102
              · refine e_aload_n (pc := 90) dX11_led_90 0 rfl rfl ?_
                refine g_R (pc := 91) (cl' := 37) kk0 fl_X11_74 rfl dX11_led_91 ?_
                refine g_I (pc := 94) kk37 fl_X11_286 dX11_led_94 ?_
                refine e_goto (pc := 97) (tgt := 102) dX11_led_97 (by decide) ?_
                exact e_iretR rfl dX11_led_102
            · by_cases q0 : (a1).toInt < 0 ∨ 5 < (a1).toInt
              · refine e_tabOut (pc := 1) (tgt := 103) dX11_led_1 q0 (by decide) ?_
                refine e_iconst (pc := 103) (v := (-1 : Int32)) dX11_led_103 ic_m1 ?_
                exact e_iretR rfl dX11_led_104
              · have z0 := lv_neT h1_0 (show (0 : Int32).toInt = 0 by decide)
                have z1 := lv_neT h1_1 (show (1 : Int32).toInt = 1 by decide)
                have z2 := lv_neT h1_2 (show (2 : Int32).toInt = 2 by decide)
                have z3 := lv_neT h1_3 (show (3 : Int32).toInt = 3 by decide)
                have z4 := lv_neT h1_4 (show (4 : Int32).toInt = 4 by decide)
                have z5 := lv_neT h1_5 (show (5 : Int32).toInt = 5 by decide)
                exfalso
                omega
theorem cf_X11_led (X : Xt) (a1 : Int32) (w : Wd) : CF (gRI w) X m_X11_led 1 [.ref (xa X 0), .int a1] w (f_X11_led a1 w) := CF_of (by decide) (Nat.le_of_ble_eq_true rfl) (ce_X11_led X a1 w)
set_option maxRecDepth 100000 in
set_option maxHeartbeats 4000000 in
theorem ce_X11_image (X : Xt) (w : Wd) : E gWI X m_X11_image 2 0 [(0, .ref (xa X 0))] [] w (f_X11_image w) := by
  unfold f_X11_image
  refine e_aload_n (pc := 0) dX11_image_0 0 rfl rfl ?_
  refine g_R (pc := 1) (cl' := 38) kk0 fl_X11_78 rfl dX11_image_1 ?_
  refine e_aload_n (pc := 4) dX11_image_4 0 rfl rfl ?_
  refine g_R (pc := 5) (cl' := 37) kk0 fl_X11_74 rfl dX11_image_5 ?_
  refine e_callVWV (pc := 8) (As := [.ref (xa X 37)]) (rest := []) kk38 Kc2 (cf_X2_become X 38 37 hk_isDe_38 hk_isDe_37 w) lk_X11_312 (Nat.le_of_ble_eq_true rfl) (Nat.le_of_ble_eq_true rfl) rfl rfl (Nat.le_of_ble_eq_true rfl) dX11_image_8 (fun w1 => ?_)
  refine e_aload_n (pc := 11) dX11_image_11 0 rfl rfl ?_
  refine e_iconst (pc := 12) (v := (1 : Int32)) dX11_image_12 ic_1 ?_
  refine p_Z (pc := 13) kk0 fp_X11_81 dX11_image_13 (fun w2 => ?_)
  refine e_aload_n (pc := 16) dX11_image_16 0 rfl rfl ?_
  refine g_R (pc := 17) (cl' := 37) kk0 fl_X11_74 rfl dX11_image_17 ?_
  refine g_I (pc := 20) kk37 fl_X11_299 dX11_image_20 ?_
  exact e_iretW rfl dX11_image_23
theorem cf_X11_image (X : Xt) (w : Wd) : CF gWI X m_X11_image 2 [.ref (xa X 0)] w (f_X11_image w) := CF_of (by decide) (Nat.le_of_ble_eq_true rfl) (ce_X11_image X w)
set_option maxRecDepth 100000 in
set_option maxHeartbeats 4000000 in
theorem ce_X11_back (X : Xt) (w : Wd) : E gWI X m_X11_back 2 0 [(0, .ref (xa X 0))] [] w (f_X11_back w) := by
  unfold f_X11_back
  refine e_aload_n (pc := 0) dX11_back_0 0 rfl rfl ?_
  refine g_I (pc := 1) kk0 fl_X11_81 dX11_back_1 ?_
  refine e_if_ne (pc := 4) (tgt := 10) dX11_back_4 (by decide) (fun _ => ?_) (fun _ => ?_)
  · refine e_bipush (pc := 7) (v := (-5 : Int32)) dX11_back_7 bp_m5 ?_
    exact e_iretW rfl dX11_back_9
  · refine e_aload_n (pc := 10) dX11_back_10 0 rfl rfl ?_
    refine g_R (pc := 11) (cl' := 37) kk0 fl_X11_74 rfl dX11_back_11 ?_
    refine e_aload_n (pc := 14) dX11_back_14 0 rfl rfl ?_
    refine g_R (pc := 15) (cl' := 38) kk0 fl_X11_78 rfl dX11_back_15 ?_
    refine e_callVWV (pc := 18) (As := [.ref (xa X 38)]) (rest := []) kk37 Kc2 (cf_X2_become X 37 38 hk_isDe_37 hk_isDe_38 w) lk_X11_312 (Nat.le_of_ble_eq_true rfl) (Nat.le_of_ble_eq_true rfl) rfl rfl (Nat.le_of_ble_eq_true rfl) dX11_back_18 (fun w1 => ?_)
    refine e_aload_n (pc := 21) dX11_back_21 0 rfl rfl ?_
    refine g_R (pc := 22) (cl' := 37) kk0 fl_X11_74 rfl dX11_back_22 ?_
    refine g_I (pc := 25) kk37 fl_X11_299 dX11_back_25 ?_
    exact e_iretW rfl dX11_back_28
theorem cf_X11_back (X : Xt) (w : Wd) : CF gWI X m_X11_back 2 [.ref (xa X 0)] w (f_X11_back w) := CF_of (by decide) (Nat.le_of_ble_eq_true rfl) (ce_X11_back X w)
set_option maxRecDepth 100000 in
set_option maxHeartbeats 4000000 in
theorem ce_X11_undo (X : Xt) (w : Wd) : E gWI X m_X11_undo 2 0 [(0, .ref (xa X 0))] [] w (f_X11_undo w) := by
  unfold f_X11_undo
  refine e_aload_n (pc := 0) dX11_undo_0 0 rfl rfl ?_
  refine g_R (pc := 1) (cl' := 1) kk0 fl_X11_10 rfl dX11_undo_1 ?_
  refine g_I (pc := 4) kk1 fl_X11_315 dX11_undo_4 ?_
  refine e_if_ne (pc := 7) (tgt := 15) dX11_undo_7 (by decide) (fun _ => ?_) (fun _ => ?_)
  · refine e_bipush (pc := 10) (v := (-5 : Int32)) dX11_undo_10 bp_m5 ?_
    refine e_goto (pc := 12) (tgt := 22) dX11_undo_12 (by decide) ?_
    exact e_iretW rfl dX11_undo_22
  · refine e_aload_n (pc := 15) dX11_undo_15 0 rfl rfl ?_
    refine g_R (pc := 16) (cl' := 1) kk0 fl_X11_10 rfl dX11_undo_16 ?_
    refine e_callVWI (pc := 19) (As := []) (rest := []) kk1 Kc6 (cf_X6_stepBack X w) lk_X11_318 (Nat.le_of_ble_eq_true rfl) (Nat.le_of_ble_eq_true rfl) rfl rfl (Nat.le_of_ble_eq_true rfl) dX11_undo_19 (fun r1 w2 => ?_)
    exact e_iretW rfl dX11_undo_22
theorem cf_X11_undo (X : Xt) (w : Wd) : CF gWI X m_X11_undo 2 [.ref (xa X 0)] w (f_X11_undo w) := CF_of (by decide) (Nat.le_of_ble_eq_true rfl) (ce_X11_undo X w)
set_option maxRecDepth 100000 in
set_option maxHeartbeats 4000000 in
theorem ce_X11_redo (X : Xt) (w : Wd) : E gWI X m_X11_redo 2 0 [(0, .ref (xa X 0))] [] w (f_X11_redo w) := by
  unfold f_X11_redo
  refine e_aload_n (pc := 0) dX11_redo_0 0 rfl rfl ?_
  refine g_R (pc := 1) (cl' := 1) kk0 fl_X11_10 rfl dX11_redo_1 ?_
  refine g_I (pc := 4) kk1 fl_X11_315 dX11_redo_4 ?_
  refine e_aload_n (pc := 7) dX11_redo_7 0 rfl rfl ?_
  refine g_R (pc := 8) (cl' := 1) kk0 fl_X11_10 rfl dX11_redo_8 ?_
  refine g_I (pc := 11) kk1 fl_X11_321 dX11_redo_11 ?_
  refine e_icmp_ne (pc := 14) (tgt := 22) dX11_redo_14 (by decide) (fun _ => ?_) (fun _ => ?_)
  · refine e_bipush (pc := 17) (v := (-5 : Int32)) dX11_redo_17 bp_m5 ?_
    refine e_goto (pc := 19) (tgt := 29) dX11_redo_19 (by decide) ?_
    exact e_iretW rfl dX11_redo_29
  · refine e_aload_n (pc := 22) dX11_redo_22 0 rfl rfl ?_
    refine g_R (pc := 23) (cl' := 1) kk0 fl_X11_10 rfl dX11_redo_23 ?_
    refine e_callVWI (pc := 26) (As := []) (rest := []) kk1 Kc6 (cf_X6_stepOn X w) lk_X11_324 (Nat.le_of_ble_eq_true rfl) (Nat.le_of_ble_eq_true rfl) rfl rfl (Nat.le_of_ble_eq_true rfl) dX11_redo_26 (fun r1 w2 => ?_)
    exact e_iretW rfl dX11_redo_29
theorem cf_X11_redo (X : Xt) (w : Wd) : CF gWI X m_X11_redo 2 [.ref (xa X 0)] w (f_X11_redo w) := CF_of (by decide) (Nat.le_of_ble_eq_true rfl) (ce_X11_redo X w)
set_option maxRecDepth 100000 in
set_option maxHeartbeats 4000000 in
theorem ce_X11_body (X : Xt) (a1 : Int32) (w : Wd) : E gWI X m_X11_body 2 0 [(0, .ref (xa X 0)), (1, .int a1)] [] w (f_X11_body a1 w) := by
  unfold f_X11_body
  refine e_iload_n (pc := 0) dX11_body_0 1 rfl rfl ?_
  refine e_callSRI (pc := 1) (As := [.int a1]) (rest := []) (cf_X0_isKind X a1 w) lk_X11_327 (Nat.le_of_ble_eq_true rfl) (Nat.le_of_ble_eq_true rfl) rfl rfl (Nat.le_of_ble_eq_true rfl) dX11_body_1 (fun r1 => ?_)
  refine e_if_eq (pc := 4) (tgt := 18) dX11_body_4 (by decide) (fun _ => ?_) (fun _ => ?_)
  · refine e_iconst (pc := 18) (v := (-1 : Int32)) dX11_body_18 ic_m1 ?_
    exact e_iretW rfl dX11_body_19
  · refine e_aload_n (pc := 7) dX11_body_7 0 rfl rfl ?_
    refine g_R (pc := 8) (cl' := 39) kk0 fl_X11_88 rfl dX11_body_8 ?_
    refine e_iload_n (pc := 11) dX11_body_11 1 rfl rfl ?_
    refine e_callVWI (pc := 12) (As := [.int a1]) (rest := []) kk39 Kc0 (cf_X0_add X a1 w) lk_X11_330 (Nat.le_of_ble_eq_true rfl) (Nat.le_of_ble_eq_true rfl) rfl rfl (Nat.le_of_ble_eq_true rfl) dX11_body_12 (fun r2 w3 => ?_)
    refine e_goto (pc := 15) (tgt := 19) dX11_body_15 (by decide) ?_
    exact e_iretW rfl dX11_body_19
theorem cf_X11_body (X : Xt) (a1 : Int32) (w : Wd) : CF gWI X m_X11_body 2 [.ref (xa X 0), .int a1] w (f_X11_body a1 w) := CF_of (by decide) (Nat.le_of_ble_eq_true rfl) (ce_X11_body X a1 w)
set_option maxRecDepth 100000 in
set_option maxHeartbeats 4000000 in
theorem ce_X11_act (X : Xt) (a1 : Int32) (a2 : Int32) (a3 : Int32) (w : Wd) : E gWI X m_X11_act 85 0 [(0, .ref (xa X 0)), (1, .int a1), (2, .int a2), (3, .int a3)] [] w (f_X11_act a1 a2 a3 w) := by
  unfold f_X11_act
  refine e_aload_n (pc := 0) dX11_act_0 0 rfl rfl ?_
  refine g_R (pc := 1) (cl' := 39) kk0 fl_X11_88 rfl dX11_act_1 ?_
  refine e_callVWV (pc := 4) (As := []) (rest := []) kk39 Kc0 (cf_X0_forget X w) lk_X11_331 (Nat.le_of_ble_eq_true rfl) (Nat.le_of_ble_eq_true rfl) rfl rfl (Nat.le_of_ble_eq_true rfl) dX11_act_4 (fun w1 => ?_)
  refine e_aload_n (pc := 7) dX11_act_7 0 rfl rfl ?_
  refine g_R (pc := 8) (cl' := 39) kk0 fl_X11_88 rfl dX11_act_8 ?_
  refine e_iload_n (pc := 11) dX11_act_11 1 rfl rfl ?_
  refine e_callVRI (pc := 12) (As := [.int a1]) (rest := []) kk39 Kc0 (cf_X0_has X a1 w1) lk_X11_334 (Nat.le_of_ble_eq_true rfl) (Nat.le_of_ble_eq_true rfl) rfl rfl (Nat.le_of_ble_eq_true rfl) dX11_act_12 (fun r2 => ?_)
  refine e_if_eq (pc := 15) (tgt := 27) dX11_act_15 (by decide) (fun _ => ?_) (fun _ => ?_)
  · refine e_iconst (pc := 27) (v := (0 : Int32)) dX11_act_27 ic_0 ?_
    exact e_iretW rfl dX11_act_28
  · refine e_iload_n (pc := 18) dX11_act_18 2 rfl rfl ?_
    refine e_if_lt (pc := 19) (tgt := 27) dX11_act_19 (by decide) (fun _ => ?_) (fun _ => ?_)
    · refine e_iconst (pc := 27) (v := (0 : Int32)) dX11_act_27 ic_0 ?_
      exact e_iretW rfl dX11_act_28
    · refine e_iload_n (pc := 22) dX11_act_22 2 rfl rfl ?_
      refine e_iconst (pc := 23) (v := (4 : Int32)) dX11_act_23 ic_4 ?_
      refine e_icmp_lt (pc := 24) (tgt := 29) dX11_act_24 (by decide) (fun _ => ?_) (fun _ => ?_)
      · refine e_aload_n (pc := 29) dX11_act_29 0 rfl rfl ?_
        refine g_R (pc := 30) (cl' := 39) kk0 fl_X11_88 rfl dX11_act_30 ?_
        refine e_iload_n (pc := 33) dX11_act_33 1 rfl rfl ?_
        refine e_iload_n (pc := 34) dX11_act_34 2 rfl rfl ?_
        refine e_iload_n (pc := 35) dX11_act_35 3 rfl rfl ?_
        refine e_callVWI (pc := 36) (As := [.int a1, .int a2, .int a3]) (rest := []) kk39 Kc0 (cf_X0_perform X a1 a2 a3 w1) lk_X11_337 (Nat.le_of_ble_eq_true rfl) (Nat.le_of_ble_eq_true rfl) rfl rfl (Nat.le_of_ble_eq_true rfl) dX11_act_36 (fun r3 w4 => ?_)
        exact e_iretW rfl dX11_act_39
      · refine e_iconst (pc := 27) (v := (0 : Int32)) dX11_act_27 ic_0 ?_
        exact e_iretW rfl dX11_act_28
theorem cf_X11_act (X : Xt) (a1 : Int32) (a2 : Int32) (a3 : Int32) (w : Wd) : CF gWI X m_X11_act 85 [.ref (xa X 0), .int a1, .int a2, .int a3] w (f_X11_act a1 a2 a3 w) := CF_of (by decide) (Nat.le_of_ble_eq_true rfl) (ce_X11_act X a1 a2 a3 w)
set_option maxRecDepth 100000 in
set_option maxHeartbeats 4000000 in
theorem ce_X11_trace (X : Xt) (a1 : Int32) (w : Wd) : E (gRI w) X m_X11_trace 2 0 [(0, .ref (xa X 0)), (1, .int a1)] [] w (f_X11_trace a1 w) := by
  unfold f_X11_trace
  refine e_iload_n (pc := 0) dX11_trace_0 1 rfl rfl ?_
  refine e_if_lt (pc := 1) (tgt := 20) dX11_trace_1 (by decide) (fun _ => ?_) (fun _ => ?_)
  · refine e_iconst (pc := 20) (v := (-1 : Int32)) dX11_trace_20 ic_m1 ?_
    refine e_goto (pc := 21) (tgt := 32) dX11_trace_21 (by decide) ?_
    exact e_iretR rfl dX11_trace_32
  · refine e_iload_n (pc := 4) dX11_trace_4 1 rfl rfl ?_
    refine e_aload_n (pc := 5) dX11_trace_5 0 rfl rfl ?_
    refine g_R (pc := 6) (cl' := 39) kk0 fl_X11_88 rfl dX11_trace_6 ?_
    refine g_I (pc := 9) kk39 fl_X11_341 dX11_trace_9 ?_
    refine e_bipush (pc := 12) (v := (24 : Int32)) dX11_trace_12 bp_24 ?_
    refine e_mmin (pc := 14) ml_X11_206 ms_min mi_Math mc_min (Nat.le_of_ble_eq_true rfl) (Nat.le_of_ble_eq_true rfl) dX11_trace_14 ?_
    refine e_icmp_lt (pc := 17) (tgt := 24) dX11_trace_17 (by decide) (fun _ => ?_) (fun _ => ?_)
    · refine e_aload_n (pc := 24) dX11_trace_24 0 rfl rfl ?_
      refine g_R (pc := 25) (cl' := 39) kk0 fl_X11_88 rfl dX11_trace_25 ?_
      refine e_iload_n (pc := 28) dX11_trace_28 1 rfl rfl ?_
      refine e_callVRI (pc := 29) (As := [.int a1]) (rest := []) kk39 Kc0 (cf_X0_traced X a1 w) lk_X11_344 (Nat.le_of_ble_eq_true rfl) (Nat.le_of_ble_eq_true rfl) rfl rfl (Nat.le_of_ble_eq_true rfl) dX11_trace_29 (fun r1 => ?_)
      exact e_iretR rfl dX11_trace_32
    · refine e_iconst (pc := 20) (v := (-1 : Int32)) dX11_trace_20 ic_m1 ?_
      refine e_goto (pc := 21) (tgt := 32) dX11_trace_21 (by decide) ?_
      exact e_iretR rfl dX11_trace_32
theorem cf_X11_trace (X : Xt) (a1 : Int32) (w : Wd) : CF (gRI w) X m_X11_trace 2 [.ref (xa X 0), .int a1] w (f_X11_trace a1 w) := CF_of (by decide) (Nat.le_of_ble_eq_true rfl) (ce_X11_trace X a1 w)
set_option maxRecDepth 100000 in
set_option maxHeartbeats 4000000 in
theorem cb_X11_keep_b25 (X : Xt) (x1 : Int32) (x2 : Int32) (w : Wd) : E gWI X m_X11_keep 2 25 [(0, .ref (xa X 0)), (1, .int x1), (2, .int x2)] [] w (f_X11_keep_b25 x1 x2 w) := by
  unfold f_X11_keep_b25
  refine e_iload_n (pc := 25) dX11_keep_25 2 rfl rfl ?_
  refine e_iconst (pc := 26) (v := (-1 : Int32)) dX11_keep_26 ic_m1 ?_
  refine e_icmp_ne (pc := 27) (tgt := 42) dX11_keep_27 (by decide) (fun _ => ?_) (fun _ => ?_)
  · refine e_aload_n (pc := 30) dX11_keep_30 0 rfl rfl ?_
    refine g_R (pc := 31) (cl' := 12) kk0 fl_X11_25 rfl dX11_keep_31 ?_
    refine e_iload_n (pc := 34) dX11_keep_34 1 rfl rfl ?_
    refine e_aald (pc := 35) kk12 dX11_keep_35 (fun c4 hc4 => ?_)
    refine e_callVWV (pc := 36) (As := []) (rest := []) hc4.1 Kc9 (cf_X9_holdNothing X c4 hc4 w) lk_X11_347 (Nat.le_of_ble_eq_true rfl) (Nat.le_of_ble_eq_true rfl) rfl rfl (Nat.le_of_ble_eq_true rfl) dX11_keep_36 (fun w5 => ?_)
    refine e_goto (pc := 39) (tgt := 52) dX11_keep_39 (by decide) ?_
    refine e_iconst (pc := 52) (v := (1 : Int32)) dX11_keep_52 ic_1 ?_
    exact e_iretW rfl dX11_keep_53
  · refine e_aload_n (pc := 42) dX11_keep_42 0 rfl rfl ?_
    refine g_R (pc := 43) (cl' := 12) kk0 fl_X11_25 rfl dX11_keep_43 ?_
    refine e_iload_n (pc := 46) dX11_keep_46 1 rfl rfl ?_
    refine e_aald (pc := 47) kk12 dX11_keep_47 (fun c2 hc2 => ?_)
    refine e_iload_n (pc := 48) dX11_keep_48 2 rfl rfl ?_
    refine e_callVWV (pc := 49) (As := [.int x2]) (rest := []) hc2.1 Kc9 (cf_X9_holdBody X c2 x2 hc2 w) lk_X11_350 (Nat.le_of_ble_eq_true rfl) (Nat.le_of_ble_eq_true rfl) rfl rfl (Nat.le_of_ble_eq_true rfl) dX11_keep_49 (fun w3 => ?_)
    refine e_iconst (pc := 52) (v := (1 : Int32)) dX11_keep_52 ic_1 ?_
    exact e_iretW rfl dX11_keep_53
set_option maxRecDepth 100000 in
set_option maxHeartbeats 4000000 in
theorem ce_X11_keep (X : Xt) (a1 : Int32) (a2 : Int32) (w : Wd) : E gWI X m_X11_keep 2 0 [(0, .ref (xa X 0)), (1, .int a1), (2, .int a2)] [] w (f_X11_keep a1 a2 w) := by
  unfold f_X11_keep
  refine e_iload_n (pc := 0) dX11_keep_0 1 rfl rfl ?_
  refine e_callSRI (pc := 1) (As := [.int a1]) (rest := []) (cf_X11_isShelf X a1 w) lk_X11_101 (Nat.le_of_ble_eq_true rfl) (Nat.le_of_ble_eq_true rfl) rfl rfl (Nat.le_of_ble_eq_true rfl) dX11_keep_1 (fun r1 => ?_)
  refine e_if_eq (pc := 4) (tgt := 23) dX11_keep_4 (by decide) (fun _ => ?_) (fun _ => ?_)
  · refine e_iconst (pc := 23) (v := (-1 : Int32)) dX11_keep_23 ic_m1 ?_
    exact e_iretW rfl dX11_keep_24
  · refine e_iload_n (pc := 7) dX11_keep_7 2 rfl rfl ?_
    refine e_iconst (pc := 8) (v := (-1 : Int32)) dX11_keep_8 ic_m1 ?_
    refine e_icmp_eq (pc := 9) (tgt := 25) dX11_keep_9 (by decide) (fun _ => ?_) (fun _ => ?_)
    · refine e_lv [0, 1, 2] rfl ?_
      exact cb_X11_keep_b25 X a1 a2 w
    · refine e_aload_n (pc := 12) dX11_keep_12 0 rfl rfl ?_
      refine g_R (pc := 13) (cl' := 39) kk0 fl_X11_88 rfl dX11_keep_13 ?_
      refine e_iload_n (pc := 16) dX11_keep_16 2 rfl rfl ?_
      refine e_callVRI (pc := 17) (As := [.int a2]) (rest := []) kk39 Kc0 (cf_X0_has X a2 w) lk_X11_334 (Nat.le_of_ble_eq_true rfl) (Nat.le_of_ble_eq_true rfl) rfl rfl (Nat.le_of_ble_eq_true rfl) dX11_keep_17 (fun r6 => ?_)
      refine e_if_ne (pc := 20) (tgt := 25) dX11_keep_20 (by decide) (fun _ => ?_) (fun _ => ?_)
      · refine e_iconst (pc := 23) (v := (-1 : Int32)) dX11_keep_23 ic_m1 ?_
        exact e_iretW rfl dX11_keep_24
      · refine e_lv [0, 1, 2] rfl ?_
        exact cb_X11_keep_b25 X a1 a2 w
theorem cf_X11_keep (X : Xt) (a1 : Int32) (a2 : Int32) (w : Wd) : CF gWI X m_X11_keep 2 [.ref (xa X 0), .int a1, .int a2] w (f_X11_keep a1 a2 w) := CF_of (by decide) (Nat.le_of_ble_eq_true rfl) (ce_X11_keep X a1 a2 w)
set_option maxRecDepth 100000 in
set_option maxHeartbeats 4000000 in
theorem ce_X11_row (X : Xt) (a1 : Int32) (a2 : Int32) (a3 : Int32) (w : Wd) : E gWI X m_X11_row 2 0 [(0, .ref (xa X 0)), (1, .int a1), (2, .int a2), (3, .int a3)] [] w (f_X11_row a1 a2 a3 w) := by
  unfold f_X11_row
  refine e_iload_n (pc := 0) dX11_row_0 1 rfl rfl ?_
  refine e_callSRI (pc := 1) (As := [.int a1]) (rest := []) (cf_X11_isShelf X a1 w) lk_X11_101 (Nat.le_of_ble_eq_true rfl) (Nat.le_of_ble_eq_true rfl) rfl rfl (Nat.le_of_ble_eq_true rfl) dX11_row_1 (fun r1 => ?_)
  refine e_if_eq (pc := 4) (tgt := 22) dX11_row_4 (by decide) (fun _ => ?_) (fun _ => ?_)
  · refine e_iconst (pc := 22) (v := (-1 : Int32)) dX11_row_22 ic_m1 ?_
    exact e_iretW rfl dX11_row_23
  · refine e_iload_n (pc := 7) dX11_row_7 2 rfl rfl ?_
    refine e_if_lt (pc := 8) (tgt := 22) dX11_row_8 (by decide) (fun _ => ?_) (fun _ => ?_)
    · refine e_iconst (pc := 22) (v := (-1 : Int32)) dX11_row_22 ic_m1 ?_
      exact e_iretW rfl dX11_row_23
    · refine e_iload_n (pc := 11) dX11_row_11 2 rfl rfl ?_
      refine e_iconst (pc := 12) (v := (4 : Int32)) dX11_row_12 ic_4 ?_
      refine e_icmp_gt (pc := 13) (tgt := 22) dX11_row_13 (by decide) (fun _ => ?_) (fun _ => ?_)
      · refine e_iconst (pc := 22) (v := (-1 : Int32)) dX11_row_22 ic_m1 ?_
        exact e_iretW rfl dX11_row_23
      · refine e_iload_n (pc := 16) dX11_row_16 3 rfl rfl ?_
        refine e_bipush (pc := 17) (v := (60 : Int32)) dX11_row_17 bp_60 ?_
        refine e_icmp_le (pc := 19) (tgt := 24) dX11_row_19 (by decide) (fun _ => ?_) (fun _ => ?_)
        · refine e_iload_n (pc := 24) dX11_row_24 3 rfl rfl ?_
          refine e_if_ge (pc := 25) (tgt := 31) dX11_row_25 (by decide) (fun _ => ?_) (fun _ => ?_)
          · refine e_aload_n (pc := 31) dX11_row_31 0 rfl rfl ?_
            refine g_R (pc := 32) (cl' := 12) kk0 fl_X11_25 rfl dX11_row_32 ?_
            refine e_iload_n (pc := 35) dX11_row_35 1 rfl rfl ?_
            refine e_aald (pc := 36) kk12 dX11_row_36 (fun c2 hc2 => ?_)
            refine e_iload_n (pc := 37) dX11_row_37 2 rfl rfl ?_
            refine e_iload_n (pc := 38) dX11_row_38 3 rfl rfl ?_
            refine e_callVWV (pc := 39) (As := [.int a2, .int a3]) (rest := []) hc2.1 Kc9 (cf_X9_holdRow X c2 a2 a3 hc2 w) lk_X11_354 (Nat.le_of_ble_eq_true rfl) (Nat.le_of_ble_eq_true rfl) rfl rfl (Nat.le_of_ble_eq_true rfl) dX11_row_39 (fun w3 => ?_)
            refine e_iconst (pc := 42) (v := (1 : Int32)) dX11_row_42 ic_1 ?_
            exact e_iretW rfl dX11_row_43
          · refine e_bipush (pc := 28) (v := (-14 : Int32)) dX11_row_28 bp_m14 ?_
            exact e_iretW rfl dX11_row_30
        · refine e_iconst (pc := 22) (v := (-1 : Int32)) dX11_row_22 ic_m1 ?_
          exact e_iretW rfl dX11_row_23
theorem cf_X11_row (X : Xt) (a1 : Int32) (a2 : Int32) (a3 : Int32) (w : Wd) : CF gWI X m_X11_row 2 [.ref (xa X 0), .int a1, .int a2, .int a3] w (f_X11_row a1 a2 a3 w) := CF_of (by decide) (Nat.le_of_ble_eq_true rfl) (ce_X11_row X a1 a2 a3 w)
set_option maxRecDepth 100000 in
set_option maxHeartbeats 4000000 in
theorem ce_X11_put (X : Xt) (a1 : Int32) (a2 : Int32) (a3 : Int64) (w : Wd) : E gWI X m_X11_put 3 0 [(0, .ref (xa X 0)), (1, .int a1), (2, .int a2), (3, .long a3)] [] w (f_X11_put a1 a2 a3 w) := by
  unfold f_X11_put
  refine e_iload_n (pc := 0) dX11_put_0 1 rfl rfl ?_
  refine e_callSRI (pc := 1) (As := [.int a1]) (rest := []) (cf_X11_isShelf X a1 w) lk_X11_101 (Nat.le_of_ble_eq_true rfl) (Nat.le_of_ble_eq_true rfl) rfl rfl (Nat.le_of_ble_eq_true rfl) dX11_put_1 (fun r1 => ?_)
  refine e_if_ne (pc := 4) (tgt := 9) dX11_put_4 (by decide) (fun _ => ?_) (fun _ => ?_)
  · refine e_iconst (pc := 7) (v := (-1 : Int32)) dX11_put_7 ic_m1 ?_
    exact e_iretW rfl dX11_put_8
  · refine e_aload_n (pc := 9) dX11_put_9 0 rfl rfl ?_
    refine g_R (pc := 10) (cl' := 12) kk0 fl_X11_25 rfl dX11_put_10 ?_
    refine e_iload_n (pc := 13) dX11_put_13 1 rfl rfl ?_
    refine e_aald (pc := 14) kk12 dX11_put_14 (fun c2 hc2 => ?_)
    refine e_astore (pc := 15) (lv' := [(5, .ref (xa X c2)), (0, .ref (xa X 0)), (1, .int a1), (2, .int a2), (3, .long a3)]) dX11_put_15 (Nat.le_of_ble_eq_true rfl) rfl ?_
    refine e_aload (pc := 17) dX11_put_17 0 rfl ?_
    refine e_callVRI (pc := 19) (As := []) (rest := []) hc2.1 Kc9 (cf_X9_isEmpty X c2 hc2 w) lk_X11_105 (Nat.le_of_ble_eq_true rfl) (Nat.le_of_ble_eq_true rfl) rfl rfl (Nat.le_of_ble_eq_true rfl) dX11_put_19 (fun r3 => ?_)
    refine e_if_eq (pc := 22) (tgt := 28) dX11_put_22 (by decide) (fun _ => ?_) (fun _ => ?_)
    · refine e_aload (pc := 28) dX11_put_28 0 rfl ?_
      refine e_callVRI (pc := 30) (As := []) (rest := []) hc2.1 Kc9 (cf_X9_isRow X c2 hc2 w) lk_X11_357 (Nat.le_of_ble_eq_true rfl) (Nat.le_of_ble_eq_true rfl) rfl rfl (Nat.le_of_ble_eq_true rfl) dX11_put_30 (fun r4 => ?_)
      refine e_if_ne (pc := 33) (tgt := 39) dX11_put_33 (by decide) (fun _ => ?_) (fun _ => ?_)
      · refine e_bipush (pc := 36) (v := (-12 : Int32)) dX11_put_36 bp_m12 ?_
        exact e_iretW rfl dX11_put_38
      · refine e_aload (pc := 39) dX11_put_39 0 rfl ?_
        refine e_iload_n (pc := 41) dX11_put_41 3 rfl rfl ?_
        refine e_callVRI (pc := 42) (As := [.int a2]) (rest := []) hc2.1 Kc9 (cf_X9_hasPlace X c2 a2 hc2 w) lk_X11_360 (Nat.le_of_ble_eq_true rfl) (Nat.le_of_ble_eq_true rfl) rfl rfl (Nat.le_of_ble_eq_true rfl) dX11_put_42 (fun r5 => ?_)
        refine e_if_ne (pc := 45) (tgt := 51) dX11_put_45 (by decide) (fun _ => ?_) (fun _ => ?_)
        · refine e_bipush (pc := 48) (v := (-13 : Int32)) dX11_put_48 bp_m13 ?_
          exact e_iretW rfl dX11_put_50
        · refine e_aload (pc := 51) dX11_put_51 0 rfl ?_
          refine e_iload_n (pc := 53) dX11_put_53 3 rfl rfl ?_
          refine e_lload_n (pc := 54) dX11_put_54 4 rfl rfl ?_
          refine e_callVWV (pc := 55) (As := [.int a2, .long a3]) (rest := []) hc2.1 Kc9 (cf_X9_write X c2 a2 a3 hc2 w) lk_X11_363 (Nat.le_of_ble_eq_true rfl) (Nat.le_of_ble_eq_true rfl) rfl rfl (Nat.le_of_ble_eq_true rfl) dX11_put_55 (fun w6 => ?_)
          refine e_iconst (pc := 58) (v := (1 : Int32)) dX11_put_58 ic_1 ?_
          exact e_iretW rfl dX11_put_59
    · refine e_bipush (pc := 25) (v := (-11 : Int32)) dX11_put_25 bp_m11 ?_
      exact e_iretW rfl dX11_put_27
theorem cf_X11_put (X : Xt) (a1 : Int32) (a2 : Int32) (a3 : Int64) (w : Wd) : CF gWI X m_X11_put 3 [.ref (xa X 0), .int a1, .int a2, .long a3] w (f_X11_put a1 a2 a3 w) := CF_of (by decide) (Nat.le_of_ble_eq_true rfl) (ce_X11_put X a1 a2 a3 w)
set_option maxRecDepth 100000 in
set_option maxHeartbeats 4000000 in
theorem ce_X11_element (X : Xt) (a1 : Int32) (a2 : Int32) (w : Wd) : E (gRL w) X m_X11_element 3 0 [(0, .ref (xa X 0)), (1, .int a1), (2, .int a2)] [] w (f_X11_element a1 a2 w) := by
  unfold f_X11_element
  refine e_iload_n (pc := 0) dX11_element_0 1 rfl rfl ?_
  refine e_callSRI (pc := 1) (As := [.int a1]) (rest := []) (cf_X11_isShelf X a1 w) lk_X11_101 (Nat.le_of_ble_eq_true rfl) (Nat.le_of_ble_eq_true rfl) rfl rfl (Nat.le_of_ble_eq_true rfl) dX11_element_1 (fun r1 => ?_)
  refine e_if_eq (pc := 4) (tgt := 32) dX11_element_4 (by decide) (fun _ => ?_) (fun _ => ?_)
  · refine e_ldc2 (pc := 32) (v := (-9223372036854775808 : Int64)) dX11_element_32 cl_X11_148 ?_
    exact e_lretR rfl dX11_element_35
  · refine e_aload_n (pc := 7) dX11_element_7 0 rfl rfl ?_
    refine g_R (pc := 8) (cl' := 12) kk0 fl_X11_25 rfl dX11_element_8 ?_
    refine e_iload_n (pc := 11) dX11_element_11 1 rfl rfl ?_
    refine e_aald (pc := 12) kk12 dX11_element_12 (fun c2 hc2 => ?_)
    refine e_callVRI (pc := 13) (As := []) (rest := []) hc2.1 Kc9 (cf_X9_isRow X c2 hc2 w) lk_X11_357 (Nat.le_of_ble_eq_true rfl) (Nat.le_of_ble_eq_true rfl) rfl rfl (Nat.le_of_ble_eq_true rfl) dX11_element_13 (fun r3 => ?_)
    refine e_if_eq (pc := 16) (tgt := 32) dX11_element_16 (by decide) (fun _ => ?_) (fun _ => ?_)
    · refine e_ldc2 (pc := 32) (v := (-9223372036854775808 : Int64)) dX11_element_32 cl_X11_148 ?_
      exact e_lretR rfl dX11_element_35
    · refine e_aload_n (pc := 19) dX11_element_19 0 rfl rfl ?_
      refine g_R (pc := 20) (cl' := 12) kk0 fl_X11_25 rfl dX11_element_20 ?_
      refine e_iload_n (pc := 23) dX11_element_23 1 rfl rfl ?_
      refine e_aald (pc := 24) kk12 dX11_element_24 (fun c4 hc4 => ?_)
      refine e_iload_n (pc := 25) dX11_element_25 2 rfl rfl ?_
      refine e_callVRI (pc := 26) (As := [.int a2]) (rest := []) hc4.1 Kc9 (cf_X9_hasPlace X c4 a2 hc4 w) lk_X11_360 (Nat.le_of_ble_eq_true rfl) (Nat.le_of_ble_eq_true rfl) rfl rfl (Nat.le_of_ble_eq_true rfl) dX11_element_26 (fun r5 => ?_)
      refine e_if_ne (pc := 29) (tgt := 36) dX11_element_29 (by decide) (fun _ => ?_) (fun _ => ?_)
      · refine e_ldc2 (pc := 32) (v := (-9223372036854775808 : Int64)) dX11_element_32 cl_X11_148 ?_
        exact e_lretR rfl dX11_element_35
      · refine e_aload_n (pc := 36) dX11_element_36 0 rfl rfl ?_
        refine g_R (pc := 37) (cl' := 12) kk0 fl_X11_25 rfl dX11_element_37 ?_
        refine e_iload_n (pc := 40) dX11_element_40 1 rfl rfl ?_
        refine e_aald (pc := 41) kk12 dX11_element_41 (fun c6 hc6 => ?_)
        refine e_iload_n (pc := 42) dX11_element_42 2 rfl rfl ?_
        refine e_callVRL (pc := 43) (As := [.int a2]) (rest := []) hc6.1 Kc9 (cf_X9_read X c6 a2 hc6 w) lk_X11_367 (Nat.le_of_ble_eq_true rfl) (Nat.le_of_ble_eq_true rfl) rfl rfl (Nat.le_of_ble_eq_true rfl) dX11_element_43 (fun r7 => ?_)
        exact e_lretR rfl dX11_element_46
theorem cf_X11_element (X : Xt) (a1 : Int32) (a2 : Int32) (w : Wd) : CF (gRL w) X m_X11_element 3 [.ref (xa X 0), .int a1, .int a2] w (f_X11_element a1 a2 w) := CF_of (by decide) (Nat.le_of_ble_eq_true rfl) (ce_X11_element X a1 a2 w)
set_option maxRecDepth 100000 in
set_option maxHeartbeats 4000000 in
theorem ce_X11_shift (X : Xt) (a1 : Int32) (a2 : Int32) (a3 : Int32) (a4 : Int32) (a5 : Int32) (w : Wd) : E gWI X m_X11_shift 3 0 [(0, .ref (xa X 0)), (1, .int a1), (2, .int a2), (3, .int a3), (4, .int a4), (5, .int a5)] [] w (f_X11_shift a1 a2 a3 a4 a5 w) := by
  unfold f_X11_shift
  refine e_iload_n (pc := 0) dX11_shift_0 1 rfl rfl ?_
  refine e_callSRI (pc := 1) (As := [.int a1]) (rest := []) (cf_X11_isShelf X a1 w) lk_X11_101 (Nat.le_of_ble_eq_true rfl) (Nat.le_of_ble_eq_true rfl) rfl rfl (Nat.le_of_ble_eq_true rfl) dX11_shift_1 (fun r1 => ?_)
  refine e_if_eq (pc := 4) (tgt := 14) dX11_shift_4 (by decide) (fun _ => ?_) (fun _ => ?_)
  · refine e_iconst (pc := 14) (v := (-1 : Int32)) dX11_shift_14 ic_m1 ?_
    exact e_iretW rfl dX11_shift_15
  · refine e_iload_n (pc := 7) dX11_shift_7 3 rfl rfl ?_
    refine e_callSRI (pc := 8) (As := [.int a3]) (rest := []) (cf_X11_isShelf X a3 w) lk_X11_101 (Nat.le_of_ble_eq_true rfl) (Nat.le_of_ble_eq_true rfl) rfl rfl (Nat.le_of_ble_eq_true rfl) dX11_shift_8 (fun r2 => ?_)
    refine e_if_ne (pc := 11) (tgt := 16) dX11_shift_11 (by decide) (fun _ => ?_) (fun _ => ?_)
    · refine e_iconst (pc := 14) (v := (-1 : Int32)) dX11_shift_14 ic_m1 ?_
      exact e_iretW rfl dX11_shift_15
    · refine e_aload_n (pc := 16) dX11_shift_16 0 rfl rfl ?_
      refine g_R (pc := 17) (cl' := 12) kk0 fl_X11_25 rfl dX11_shift_17 ?_
      refine e_iload_n (pc := 20) dX11_shift_20 1 rfl rfl ?_
      refine e_aald (pc := 21) kk12 dX11_shift_21 (fun c3 hc3 => ?_)
      refine e_astore (pc := 22) (lv' := [(6, .ref (xa X c3)), (0, .ref (xa X 0)), (1, .int a1), (2, .int a2), (3, .int a3), (4, .int a4), (5, .int a5)]) dX11_shift_22 (Nat.le_of_ble_eq_true rfl) rfl ?_
      refine e_aload_n (pc := 24) dX11_shift_24 1 rfl rfl ?_
      refine g_R (pc := 25) (cl' := 12) kk0 fl_X11_25 rfl dX11_shift_25 ?_
      refine e_iload_n (pc := 28) dX11_shift_28 4 rfl rfl ?_
      refine e_aald (pc := 29) kk12 dX11_shift_29 (fun c4 hc4 => ?_)
      refine e_astore (pc := 30) (lv' := [(7, .ref (xa X c4)), (6, .ref (xa X c3)), (0, .ref (xa X 0)), (1, .int a1), (2, .int a2), (3, .int a3), (4, .int a4), (5, .int a5)]) dX11_shift_30 (Nat.le_of_ble_eq_true rfl) rfl ?_
      refine e_aload (pc := 32) dX11_shift_32 1 rfl ?_
      refine e_callVRI (pc := 34) (As := []) (rest := []) hc3.1 Kc9 (cf_X9_isEmpty X c3 hc3 w) lk_X11_105 (Nat.le_of_ble_eq_true rfl) (Nat.le_of_ble_eq_true rfl) rfl rfl (Nat.le_of_ble_eq_true rfl) dX11_shift_34 (fun r5 => ?_)
      refine e_if_ne (pc := 37) (tgt := 48) dX11_shift_37 (by decide) (fun _ => ?_) (fun _ => ?_)
      · refine e_aload (pc := 40) dX11_shift_40 0 rfl ?_
        refine e_callVRI (pc := 42) (As := []) (rest := []) hc4.1 Kc9 (cf_X9_isEmpty X c4 hc4 w) lk_X11_105 (Nat.le_of_ble_eq_true rfl) (Nat.le_of_ble_eq_true rfl) rfl rfl (Nat.le_of_ble_eq_true rfl) dX11_shift_42 (fun r6 => ?_)
        refine e_if_eq (pc := 45) (tgt := 51) dX11_shift_45 (by decide) (fun _ => ?_) (fun _ => ?_)
        · refine e_aload (pc := 51) dX11_shift_51 1 rfl ?_
          refine e_callVRI (pc := 53) (As := []) (rest := []) hc3.1 Kc9 (cf_X9_isRow X c3 hc3 w) lk_X11_357 (Nat.le_of_ble_eq_true rfl) (Nat.le_of_ble_eq_true rfl) rfl rfl (Nat.le_of_ble_eq_true rfl) dX11_shift_53 (fun r7 => ?_)
          refine e_if_eq (pc := 56) (tgt := 80) dX11_shift_56 (by decide) (fun _ => ?_) (fun _ => ?_)
          · refine e_bipush (pc := 80) (v := (-12 : Int32)) dX11_shift_80 bp_m12 ?_
            exact e_iretW rfl dX11_shift_82
          · refine e_aload (pc := 59) dX11_shift_59 0 rfl ?_
            refine e_callVRI (pc := 61) (As := []) (rest := []) hc4.1 Kc9 (cf_X9_isRow X c4 hc4 w) lk_X11_357 (Nat.le_of_ble_eq_true rfl) (Nat.le_of_ble_eq_true rfl) rfl rfl (Nat.le_of_ble_eq_true rfl) dX11_shift_61 (fun r8 => ?_)
            refine e_if_eq (pc := 64) (tgt := 80) dX11_shift_64 (by decide) (fun _ => ?_) (fun _ => ?_)
            · refine e_bipush (pc := 80) (v := (-12 : Int32)) dX11_shift_80 bp_m12 ?_
              exact e_iretW rfl dX11_shift_82
            · refine e_aload (pc := 67) dX11_shift_67 1 rfl ?_
              refine g_I (pc := 69) hc3.1 fl_X11_369 dX11_shift_69 ?_
              refine e_aload (pc := 72) dX11_shift_72 0 rfl ?_
              refine g_I (pc := 74) hc4.1 fl_X11_369 dX11_shift_74 ?_
              refine e_icmp_eq (pc := 77) (tgt := 83) dX11_shift_77 (by decide) (fun _ => ?_) (fun _ => ?_)
              · refine e_aload (pc := 83) dX11_shift_83 1 rfl ?_
                refine e_iload_n (pc := 85) dX11_shift_85 4 rfl rfl ?_
                refine e_iload (pc := 86) dX11_shift_86 7 rfl ?_
                refine e_callVRI (pc := 88) (As := [.int a2, .int a5]) (rest := []) hc3.1 Kc9 (cf_X9_hasPlaces X c3 a2 a5 hc3 w) lk_X11_372 (Nat.le_of_ble_eq_true rfl) (Nat.le_of_ble_eq_true rfl) rfl rfl (Nat.le_of_ble_eq_true rfl) dX11_shift_88 (fun r9 => ?_)
                refine e_if_eq (pc := 91) (tgt := 106) dX11_shift_91 (by decide) (fun _ => ?_) (fun _ => ?_)
                · refine e_bipush (pc := 106) (v := (-13 : Int32)) dX11_shift_106 bp_m13 ?_
                  exact e_iretW rfl dX11_shift_108
                · refine e_aload (pc := 94) dX11_shift_94 0 rfl ?_
                  refine e_iload (pc := 96) dX11_shift_96 6 rfl ?_
                  refine e_iload (pc := 98) dX11_shift_98 7 rfl ?_
                  refine e_callVRI (pc := 100) (As := [.int a4, .int a5]) (rest := []) hc4.1 Kc9 (cf_X9_hasPlaces X c4 a4 a5 hc4 w) lk_X11_372 (Nat.le_of_ble_eq_true rfl) (Nat.le_of_ble_eq_true rfl) rfl rfl (Nat.le_of_ble_eq_true rfl) dX11_shift_100 (fun r10 => ?_)
                  refine e_if_ne (pc := 103) (tgt := 109) dX11_shift_103 (by decide) (fun _ => ?_) (fun _ => ?_)
                  · refine e_bipush (pc := 106) (v := (-13 : Int32)) dX11_shift_106 bp_m13 ?_
                    exact e_iretW rfl dX11_shift_108
                  · refine e_aload (pc := 109) dX11_shift_109 1 rfl ?_
                    refine e_iload_n (pc := 111) dX11_shift_111 4 rfl rfl ?_
                    refine e_aload (pc := 112) dX11_shift_112 0 rfl ?_
                    refine e_iload (pc := 114) dX11_shift_114 6 rfl ?_
                    refine e_iload (pc := 116) dX11_shift_116 7 rfl ?_
                    refine e_callVWV (pc := 118) (As := [.int a2, .ref (xa X c4), .int a4, .int a5]) (rest := []) hc3.1 Kc9 (cf_X9_copyTo X c3 a2 c4 a4 a5 hc3 hc4 w) lk_X11_375 (Nat.le_of_ble_eq_true rfl) (Nat.le_of_ble_eq_true rfl) rfl rfl (Nat.le_of_ble_eq_true rfl) dX11_shift_118 (fun w11 => ?_)
                    refine e_iload (pc := 121) dX11_shift_121 7 rfl ?_
                    exact e_iretW rfl dX11_shift_123
              · refine e_bipush (pc := 80) (v := (-12 : Int32)) dX11_shift_80 bp_m12 ?_
                exact e_iretW rfl dX11_shift_82
        · refine e_bipush (pc := 48) (v := (-11 : Int32)) dX11_shift_48 bp_m11 ?_
          exact e_iretW rfl dX11_shift_50
      · refine e_bipush (pc := 48) (v := (-11 : Int32)) dX11_shift_48 bp_m11 ?_
        exact e_iretW rfl dX11_shift_50
theorem cf_X11_shift (X : Xt) (a1 : Int32) (a2 : Int32) (a3 : Int32) (a4 : Int32) (a5 : Int32) (w : Wd) : CF gWI X m_X11_shift 3 [.ref (xa X 0), .int a1, .int a2, .int a3, .int a4, .int a5] w (f_X11_shift a1 a2 a3 a4 a5 w) := CF_of (by decide) (Nat.le_of_ble_eq_true rfl) (ce_X11_shift X a1 a2 a3 a4 a5 w)
set_option maxRecDepth 100000 in
set_option maxHeartbeats 4000000 in
theorem ce_X11_taken (X : Xt) (a1 : Int32) (a2 : Int32) (w : Wd) : E (gRI w) X m_X11_taken 3 0 [(0, .ref (xa X 0)), (1, .int a1), (2, .int a2)] [] w (f_X11_taken a1 a2 w) := by
  unfold f_X11_taken
  refine e_iload_n (pc := 0) dX11_taken_0 1 rfl rfl ?_
  refine e_callSRI (pc := 1) (As := [.int a1]) (rest := []) (cf_X11_isShelf X a1 w) lk_X11_101 (Nat.le_of_ble_eq_true rfl) (Nat.le_of_ble_eq_true rfl) rfl rfl (Nat.le_of_ble_eq_true rfl) dX11_taken_1 (fun r1 => ?_)
  refine e_if_eq (pc := 4) (tgt := 14) dX11_taken_4 (by decide) (fun _ => ?_) (fun _ => ?_)
  · refine e_iconst (pc := 14) (v := (-1 : Int32)) dX11_taken_14 ic_m1 ?_
    exact e_iretR rfl dX11_taken_15
  · refine e_iload_n (pc := 7) dX11_taken_7 2 rfl rfl ?_
    refine e_callSRI (pc := 8) (As := [.int a2]) (rest := []) (cf_X0_isKind X a2 w) lk_X11_327 (Nat.le_of_ble_eq_true rfl) (Nat.le_of_ble_eq_true rfl) rfl rfl (Nat.le_of_ble_eq_true rfl) dX11_taken_8 (fun r2 => ?_)
    refine e_if_ne (pc := 11) (tgt := 16) dX11_taken_11 (by decide) (fun _ => ?_) (fun _ => ?_)
    · refine e_iconst (pc := 14) (v := (-1 : Int32)) dX11_taken_14 ic_m1 ?_
      exact e_iretR rfl dX11_taken_15
    · refine e_aload_n (pc := 16) dX11_taken_16 0 rfl rfl ?_
      refine g_R (pc := 17) (cl' := 12) kk0 fl_X11_25 rfl dX11_taken_17 ?_
      refine e_iload_n (pc := 20) dX11_taken_20 1 rfl rfl ?_
      refine e_aald (pc := 21) kk12 dX11_taken_21 (fun c3 hc3 => ?_)
      refine e_astore_n (pc := 22) (lv' := [(3, .ref (xa X c3)), (0, .ref (xa X 0)), (1, .int a1), (2, .int a2)]) dX11_taken_22 rfl (Nat.le_of_ble_eq_true rfl) rfl ?_
      refine e_aload_n (pc := 23) dX11_taken_23 0 rfl rfl ?_
      refine e_callVRI (pc := 24) (As := []) (rest := []) hc3.1 Kc9 (cf_X9_isEmpty X c3 hc3 w) lk_X11_105 (Nat.le_of_ble_eq_true rfl) (Nat.le_of_ble_eq_true rfl) rfl rfl (Nat.le_of_ble_eq_true rfl) dX11_taken_24 (fun r4 => ?_)
      refine e_if_eq (pc := 27) (tgt := 33) dX11_taken_27 (by decide) (fun _ => ?_) (fun _ => ?_)
      · refine e_aload_n (pc := 33) dX11_taken_33 0 rfl rfl ?_
        refine e_callVRI (pc := 34) (As := []) (rest := []) hc3.1 Kc9 (cf_X9_isRow X c3 hc3 w) lk_X11_357 (Nat.le_of_ble_eq_true rfl) (Nat.le_of_ble_eq_true rfl) rfl rfl (Nat.le_of_ble_eq_true rfl) dX11_taken_34 (fun r5 => ?_)
        refine e_if_eq (pc := 37) (tgt := 43) dX11_taken_37 (by decide) (fun _ => ?_) (fun _ => ?_)
        · refine e_aload_n (pc := 43) dX11_taken_43 1 rfl rfl ?_
          refine g_R (pc := 44) (cl' := 39) kk0 fl_X11_88 rfl dX11_taken_44 ?_
          refine e_aload_n (pc := 47) dX11_taken_47 0 rfl rfl ?_
          refine g_I (pc := 48) hc3.1 fl_X11_379 dX11_taken_48 ?_
          refine e_callVRI (pc := 51) (As := [.int (gi w c3 1)]) (rest := []) kk39 Kc0 (cf_X0_kindOf X (gi w c3 1) w) lk_X11_382 (Nat.le_of_ble_eq_true rfl) (Nat.le_of_ble_eq_true rfl) rfl rfl (Nat.le_of_ble_eq_true rfl) dX11_taken_51 (fun r6 => ?_)
          refine e_istore (pc := 54) (lv' := [(4, .int r6), (3, .ref (xa X c3)), (0, .ref (xa X 0)), (1, .int a1), (2, .int a2)]) dX11_taken_54 (Nat.le_of_ble_eq_true rfl) rfl ?_
          refine e_iload (pc := 56) dX11_taken_56 0 rfl ?_
          refine e_iload_n (pc := 58) dX11_taken_58 4 rfl rfl ?_
          refine e_callSRI (pc := 59) (As := [.int r6, .int a2]) (rest := []) (cf_X0_isUnder X r6 a2 w) lk_X11_385 (Nat.le_of_ble_eq_true rfl) (Nat.le_of_ble_eq_true rfl) rfl rfl (Nat.le_of_ble_eq_true rfl) dX11_taken_59 (fun r7 => ?_)
          refine e_if_eq (pc := 62) (tgt := 70) dX11_taken_62 (by decide) (fun _ => ?_) (fun _ => ?_)
          · refine e_bipush (pc := 70) (v := (-12 : Int32)) dX11_taken_70 bp_m12 ?_
            exact e_iretR rfl dX11_taken_72
          · refine e_iload (pc := 65) dX11_taken_65 0 rfl ?_
            refine e_goto (pc := 67) (tgt := 72) dX11_taken_67 (by decide) ?_
            exact e_iretR rfl dX11_taken_72
        · refine e_bipush (pc := 40) (v := (-12 : Int32)) dX11_taken_40 bp_m12 ?_
          exact e_iretR rfl dX11_taken_42
      · refine e_bipush (pc := 30) (v := (-11 : Int32)) dX11_taken_30 bp_m11 ?_
        exact e_iretR rfl dX11_taken_32
theorem cf_X11_taken (X : Xt) (a1 : Int32) (a2 : Int32) (w : Wd) : CF (gRI w) X m_X11_taken 3 [.ref (xa X 0), .int a1, .int a2] w (f_X11_taken a1 a2 w) := CF_of (by decide) (Nat.le_of_ble_eq_true rfl) (ce_X11_taken X a1 a2 w)
set_option maxRecDepth 100000 in
set_option maxHeartbeats 4000000 in
theorem ce_X11_count (X : Xt) (a1 : Int32) (w : Wd) : E (gRI w) X m_X11_count 1 0 [(0, .ref (xa X 0)), (1, .int a1)] [] w (f_X11_count a1 w) := by
  unfold f_X11_count
  refine e_iload_n (pc := 0) dX11_count_0 1 rfl rfl ?_
  refine e_ite (fun h1_0 => ?_) (fun h1_0 => ?_)
  · refine e_tabIn (pc := 1) (off := 35) (tgt := 36) dX11_count_1 (by rw [h1_0]; decide) (by rw [h1_0]; decide) (by rw [h1_0]; decide) (by decide) ?_
    refine e_aload_n (pc := 36) dX11_count_36 0 rfl rfl ?_
    refine g_R (pc := 37) (cl' := 1) kk0 fl_X11_10 rfl dX11_count_37 ?_
    refine g_I (pc := 40) kk1 fl_X11_215 dX11_count_40 ?_
    exact e_iretR rfl dX11_count_43
  · refine e_ite (fun h1_1 => ?_) (fun h1_1 => ?_)
    · refine e_tabIn (pc := 1) (off := 43) (tgt := 44) dX11_count_1 (by rw [h1_1]; decide) (by rw [h1_1]; decide) (by rw [h1_1]; decide) (by decide) ?_
      refine e_aload_n (pc := 44) dX11_count_44 0 rfl rfl ?_
      refine g_R (pc := 45) (cl' := 6) kk0 fl_X11_19 rfl dX11_count_45 ?_
      refine g_I (pc := 48) kk6 fl_X11_388 dX11_count_48 ?_
      exact e_iretR rfl dX11_count_51
    · refine e_ite (fun h1_2 => ?_) (fun h1_2 => ?_)
      · refine e_tabIn (pc := 1) (off := 51) (tgt := 52) dX11_count_1 (by rw [h1_2]; decide) (by rw [h1_2]; decide) (by rw [h1_2]; decide) (by decide) ?_
        refine e_aload_n (pc := 52) dX11_count_52 0 rfl rfl ?_
        refine g_R (pc := 53) (cl' := 1) kk0 fl_X11_10 rfl dX11_count_53 ?_
        refine g_I (pc := 56) kk1 fl_X11_315 dX11_count_56 ?_
        exact e_iretR rfl dX11_count_59
      · refine e_ite (fun h1_3 => ?_) (fun h1_3 => ?_)
        · refine e_tabIn (pc := 1) (off := 59) (tgt := 60) dX11_count_1 (by rw [h1_3]; decide) (by rw [h1_3]; decide) (by rw [h1_3]; decide) (by decide) ?_
          refine e_aload_n (pc := 60) dX11_count_60 0 rfl rfl ?_
          refine g_R (pc := 61) (cl' := 39) kk0 fl_X11_88 rfl dX11_count_61 ?_
          refine g_I (pc := 64) kk39 fl_X11_391 dX11_count_64 ?_
          exact e_iretR rfl dX11_count_67
        · refine e_ite (fun h1_4 => ?_) (fun h1_4 => ?_)
          · refine e_tabIn (pc := 1) (off := 67) (tgt := 68) dX11_count_1 (by rw [h1_4]; decide) (by rw [h1_4]; decide) (by rw [h1_4]; decide) (by decide) ?_
            refine e_aload_n (pc := 68) dX11_count_68 0 rfl rfl ?_
            refine g_R (pc := 69) (cl' := 39) kk0 fl_X11_88 rfl dX11_count_69 ?_
            refine g_I (pc := 72) kk39 fl_X11_341 dX11_count_72 ?_
            exact e_iretR rfl dX11_count_75
          · by_cases q0 : (a1).toInt < 0 ∨ 4 < (a1).toInt
            · refine e_tabOut (pc := 1) (tgt := 76) dX11_count_1 q0 (by decide) ?_
              refine e_iconst (pc := 76) (v := (-1 : Int32)) dX11_count_76 ic_m1 ?_
              exact e_iretR rfl dX11_count_77
            · have z0 := lv_neT h1_0 (show (0 : Int32).toInt = 0 by decide)
              have z1 := lv_neT h1_1 (show (1 : Int32).toInt = 1 by decide)
              have z2 := lv_neT h1_2 (show (2 : Int32).toInt = 2 by decide)
              have z3 := lv_neT h1_3 (show (3 : Int32).toInt = 3 by decide)
              have z4 := lv_neT h1_4 (show (4 : Int32).toInt = 4 by decide)
              exfalso
              omega
theorem cf_X11_count (X : Xt) (a1 : Int32) (w : Wd) : CF (gRI w) X m_X11_count 1 [.ref (xa X 0), .int a1] w (f_X11_count a1 w) := CF_of (by decide) (Nat.le_of_ble_eq_true rfl) (ce_X11_count X a1 w)
set_option maxRecDepth 100000 in
set_option maxHeartbeats 4000000 in
theorem ce_X12_in (X : Xt) (a0 : Int32) (a1 : Int32) (a2 : Int32) (w : Wd) : E (gRI w) X m_X12_in 1 0 [(0, .int a0), (1, .int a1), (2, .int a2)] [] w (f_X12_in a0 a1 a2) := by
  unfold f_X12_in
  refine e_iload_n (pc := 0) dX12_in_0 0 rfl rfl ?_
  refine e_iload_n (pc := 1) dX12_in_1 1 rfl rfl ?_
  refine e_icmp_lt (pc := 2) (tgt := 14) dX12_in_2 (by decide) (fun _ => ?_) (fun _ => ?_)
  · refine e_iconst (pc := 14) (v := (0 : Int32)) dX12_in_14 ic_0 ?_
    exact e_zretR0 rfl (by decide) dX12_in_15
  · refine e_iload_n (pc := 5) dX12_in_5 0 rfl rfl ?_
    refine e_iload_n (pc := 6) dX12_in_6 2 rfl rfl ?_
    refine e_icmp_gt (pc := 7) (tgt := 14) dX12_in_7 (by decide) (fun _ => ?_) (fun _ => ?_)
    · refine e_iconst (pc := 14) (v := (0 : Int32)) dX12_in_14 ic_0 ?_
      exact e_zretR0 rfl (by decide) dX12_in_15
    · refine e_iconst (pc := 10) (v := (1 : Int32)) dX12_in_10 ic_1 ?_
      refine e_goto (pc := 11) (tgt := 15) dX12_in_11 (by decide) ?_
      exact e_zretR0 rfl (by decide) dX12_in_15
theorem cf_X12_in (X : Xt) (a0 : Int32) (a1 : Int32) (a2 : Int32) (w : Wd) : CF (gRI w) X m_X12_in 1 [.int a0, .int a1, .int a2] w (f_X12_in a0 a1 a2) := CF_of (by decide) (Nat.le_of_ble_eq_true rfl) (ce_X12_in X a0 a1 a2 w)
set_option maxRecDepth 100000 in
set_option maxHeartbeats 4000000 in
theorem ce_X12_isBag (X : Xt) (a0 : Int32) (w : Wd) : E (gRI w) X m_X12_isBag 2 0 [(0, .int a0)] [] w (f_X12_isBag a0) := by
  unfold f_X12_isBag
  refine e_iload_n (pc := 0) dX12_isBag_0 0 rfl rfl ?_
  refine e_iconst (pc := 1) (v := (0 : Int32)) dX12_isBag_1 ic_0 ?_
  refine e_iconst (pc := 2) (v := (3 : Int32)) dX12_isBag_2 ic_3 ?_
  refine e_callSRI (pc := 3) (As := [.int a0, .int (0 : Int32), .int (3 : Int32)]) (rest := []) (cf_X12_in X a0 (0 : Int32) (3 : Int32) w) lk_X12_124 (Nat.le_of_ble_eq_true rfl) (Nat.le_of_ble_eq_true rfl) rfl rfl (Nat.le_of_ble_eq_true rfl) dX12_isBag_3 (fun r1 => ?_)
  exact e_zretR rfl dX12_isBag_6
theorem cf_X12_isBag (X : Xt) (a0 : Int32) (w : Wd) : CF (gRI w) X m_X12_isBag 2 [.int a0] w (f_X12_isBag a0) := CF_of (by decide) (Nat.le_of_ble_eq_true rfl) (ce_X12_isBag X a0 w)
set_option maxRecDepth 100000 in
set_option maxHeartbeats 4000000 in
theorem ce_X12_isLooker (X : Xt) (a1 : Int32) (w : Wd) : E (gRI w) X m_X12_isLooker 2 0 [(0, .ref (xa X 54)), (1, .int a1)] [] w (f_X12_isLooker a1 w) := by
  unfold f_X12_isLooker
  refine e_iload_n (pc := 0) dX12_isLooker_0 1 rfl rfl ?_
  refine e_iconst (pc := 1) (v := (0 : Int32)) dX12_isLooker_1 ic_0 ?_
  refine e_aload_n (pc := 2) dX12_isLooker_2 0 rfl rfl ?_
  refine g_I (pc := 3) kk54 fl_X12_128 dX12_isLooker_3 ?_
  refine e_iconst (pc := 6) (v := (1 : Int32)) dX12_isLooker_6 ic_1 ?_
  refine e_isub (pc := 7) dX12_isLooker_7 ?_
  refine e_callSRI (pc := 8) (As := [.int a1, .int (0 : Int32), .int ((gi w 54 3) - (1 : Int32))]) (rest := []) (cf_X12_in X a1 (0 : Int32) ((gi w 54 3) - (1 : Int32)) w) lk_X12_124 (Nat.le_of_ble_eq_true rfl) (Nat.le_of_ble_eq_true rfl) rfl rfl (Nat.le_of_ble_eq_true rfl) dX12_isLooker_8 (fun r1 => ?_)
  exact e_zretR rfl dX12_isLooker_11
theorem cf_X12_isLooker (X : Xt) (a1 : Int32) (w : Wd) : CF (gRI w) X m_X12_isLooker 2 [.ref (xa X 54), .int a1] w (f_X12_isLooker a1 w) := CF_of (by decide) (Nat.le_of_ble_eq_true rfl) (ce_X12_isLooker X a1 w)
set_option maxRecDepth 100000 in
set_option maxHeartbeats 4000000 in
theorem ce_X12_addLooker (X : Xt) (a1 : Int32) (a2 : Int32) (w : Wd) : E gWI X m_X12_addLooker 1 0 [(0, .ref (xa X 54)), (1, .int a1), (2, .int a2)] [] w (f_X12_addLooker a1 a2 w) := by
  unfold f_X12_addLooker
  refine e_aload_n (pc := 0) dX12_addLooker_0 0 rfl rfl ?_
  refine g_R (pc := 1) (cl' := 57) kk54 fl_X12_18 rfl dX12_addLooker_1 ?_
  refine e_aload_n (pc := 4) dX12_addLooker_4 0 rfl rfl ?_
  refine g_I (pc := 5) kk54 fl_X12_128 dX12_addLooker_5 ?_
  refine e_iload_n (pc := 8) dX12_addLooker_8 1 rfl rfl ?_
  refine e_iast (pc := 9) kk57 dX12_addLooker_9 (fun w1 => ?_)
  refine e_aload_n (pc := 10) dX12_addLooker_10 0 rfl rfl ?_
  refine g_R (pc := 11) (cl' := 58) kk54 fl_X12_21 rfl dX12_addLooker_11 ?_
  refine e_aload_n (pc := 14) dX12_addLooker_14 0 rfl rfl ?_
  refine g_I (pc := 15) kk54 fl_X12_128 dX12_addLooker_15 ?_
  refine e_iload_n (pc := 18) dX12_addLooker_18 2 rfl rfl ?_
  refine e_iast (pc := 19) kk58 dX12_addLooker_19 (fun w2 => ?_)
  refine e_aload_n (pc := 20) dX12_addLooker_20 0 rfl rfl ?_
  refine e_dup (pc := 21) dX12_addLooker_21 rfl ?_
  refine g_I (pc := 22) kk54 fl_X12_128 dX12_addLooker_22 ?_
  refine e_iconst (pc := 25) (v := (1 : Int32)) dX12_addLooker_25 ic_1 ?_
  refine e_iadd (pc := 26) dX12_addLooker_26 ?_
  refine p_I (pc := 27) kk54 fp_X12_128 dX12_addLooker_27 (fun w3 => ?_)
  refine e_aload_n (pc := 30) dX12_addLooker_30 0 rfl rfl ?_
  refine g_I (pc := 31) kk54 fl_X12_128 dX12_addLooker_31 ?_
  refine e_iconst (pc := 34) (v := (1 : Int32)) dX12_addLooker_34 ic_1 ?_
  refine e_isub (pc := 35) dX12_addLooker_35 ?_
  exact e_iretW rfl dX12_addLooker_36
theorem cf_X12_addLooker (X : Xt) (a1 : Int32) (a2 : Int32) (w : Wd) : CF gWI X m_X12_addLooker 1 [.ref (xa X 54), .int a1, .int a2] w (f_X12_addLooker a1 a2 w) := CF_of (by decide) (Nat.le_of_ble_eq_true rfl) (ce_X12_addLooker X a1 a2 w)
set_option maxRecDepth 100000 in
set_option maxHeartbeats 4000000 in
theorem ce_X12_looker (X : Xt) (a1 : Int32) (w : Wd) : E gWI X m_X12_looker 2 0 [(0, .ref (xa X 54)), (1, .int a1)] [] w (f_X12_looker a1 w) := by
  unfold f_X12_looker
  refine e_iload_n (pc := 0) dX12_looker_0 1 rfl rfl ?_
  refine e_if_lt (pc := 1) (tgt := 13) dX12_looker_1 (by decide) (fun _ => ?_) (fun _ => ?_)
  · refine e_iconst (pc := 13) (v := (-1 : Int32)) dX12_looker_13 ic_m1 ?_
    exact e_iretW rfl dX12_looker_14
  · refine e_iload_n (pc := 4) dX12_looker_4 1 rfl rfl ?_
    refine e_bipush (pc := 5) (v := (100 : Int32)) dX12_looker_5 bp_100 ?_
    refine e_idiv (pc := 7) dX12_looker_7 (by decide) ?_
    refine e_bipush (pc := 8) (v := (12 : Int32)) dX12_looker_8 bp_12 ?_
    refine e_icmp_le (pc := 10) (tgt := 15) dX12_looker_10 (by decide) (fun _ => ?_) (fun _ => ?_)
    · refine e_aload_n (pc := 15) dX12_looker_15 0 rfl rfl ?_
      refine g_I (pc := 16) kk54 fl_X12_128 dX12_looker_16 ?_
      refine e_bipush (pc := 19) (v := (6 : Int32)) dX12_looker_19 bp_6 ?_
      refine e_icmp_ne (pc := 21) (tgt := 29) dX12_looker_21 (by decide) (fun _ => ?_) (fun _ => ?_)
      · refine e_bipush (pc := 24) (v := (-3 : Int32)) dX12_looker_24 bp_m3 ?_
        refine e_goto (pc := 26) (tgt := 41) dX12_looker_26 (by decide) ?_
        exact e_iretW rfl dX12_looker_41
      · refine e_aload_n (pc := 29) dX12_looker_29 0 rfl rfl ?_
        refine e_iload_n (pc := 30) dX12_looker_30 1 rfl rfl ?_
        refine e_bipush (pc := 31) (v := (100 : Int32)) dX12_looker_31 bp_100 ?_
        refine e_idiv (pc := 33) dX12_looker_33 (by decide) ?_
        refine e_iload_n (pc := 34) dX12_looker_34 1 rfl rfl ?_
        refine e_bipush (pc := 35) (v := (100 : Int32)) dX12_looker_35 bp_100 ?_
        refine e_irem (pc := 37) dX12_looker_37 (by decide) ?_
        refine e_callVWI (pc := 38) (As := [.int (a1 / (100 : Int32)), .int (ire a1 (100 : Int32))]) (rest := []) kk54 Kc12 (cf_X12_addLooker X (a1 / (100 : Int32)) (ire a1 (100 : Int32)) w) lk_X12_131 (Nat.le_of_ble_eq_true rfl) (Nat.le_of_ble_eq_true rfl) rfl rfl (Nat.le_of_ble_eq_true rfl) dX12_looker_38 (fun r1 w2 => ?_)
        exact e_iretW rfl dX12_looker_41
    · refine e_iconst (pc := 13) (v := (-1 : Int32)) dX12_looker_13 ic_m1 ?_
      exact e_iretW rfl dX12_looker_14
theorem cf_X12_looker (X : Xt) (a1 : Int32) (w : Wd) : CF gWI X m_X12_looker 2 [.ref (xa X 54), .int a1] w (f_X12_looker a1 w) := CF_of (by decide) (Nat.le_of_ble_eq_true rfl) (ce_X12_looker X a1 w)
set_option maxRecDepth 100000 in
set_option maxHeartbeats 4000000 in
theorem ce_X12_isShelf (X : Xt) (a0 : Int32) (w : Wd) : E (gRI w) X m_X12_isShelf 2 0 [(0, .int a0)] [] w (f_X12_isShelf a0) := by
  unfold f_X12_isShelf
  refine e_iload_n (pc := 0) dX12_isShelf_0 0 rfl rfl ?_
  refine e_iconst (pc := 1) (v := (0 : Int32)) dX12_isShelf_1 ic_0 ?_
  refine e_iconst (pc := 2) (v := (5 : Int32)) dX12_isShelf_2 ic_5 ?_
  refine e_callSRI (pc := 3) (As := [.int a0, .int (0 : Int32), .int (5 : Int32)]) (rest := []) (cf_X12_in X a0 (0 : Int32) (5 : Int32) w) lk_X12_124 (Nat.le_of_ble_eq_true rfl) (Nat.le_of_ble_eq_true rfl) rfl rfl (Nat.le_of_ble_eq_true rfl) dX12_isShelf_3 (fun r1 => ?_)
  exact e_zretR rfl dX12_isShelf_6
theorem cf_X12_isShelf (X : Xt) (a0 : Int32) (w : Wd) : CF (gRI w) X m_X12_isShelf 2 [.int a0] w (f_X12_isShelf a0) := CF_of (by decide) (Nat.le_of_ble_eq_true rfl) (ce_X12_isShelf X a0 w)
set_option maxRecDepth 100000 in
set_option maxHeartbeats 4000000 in
theorem cb_X12_lookers_b58_y (X : Xt) (k58 : Int32 → Int32 → Int32 → Int32 → Wd → Option (Int32 × Wd)) (hk58 : ∀ (x1 : Int32) (x2 : Int32) (x3 : Int32) (x4 : Int32)  (w : Wd), E gWI X m_X12_lookers 3 58 [(0, .ref (xa X 54)), (1, .int x1), (2, .int x2), (3, .int x3), (4, .int x4)] [] w (k58 x1 x2 x3 x4 w)) (x1 : Int32) (x2 : Int32) (x3 : Int32) (x4 : Int32) (w : Wd) : E gWI X m_X12_lookers 3 58 [(0, .ref (xa X 54)), (1, .int x1), (2, .int x2), (3, .int x3), (4, .int x4)] [] w (f_X12_lookers_b58_y k58 x1 x2 x3 x4 w) := by
  unfold f_X12_lookers_b58_y
  refine e_iload (pc := 58) dX12_lookers_58 4 rfl ?_
  refine e_iload_n (pc := 60) dX12_lookers_60 3 rfl rfl ?_
  refine e_icmp_ge (pc := 61) (tgt := 186) dX12_lookers_61 (by decide) (fun _ => ?_) (fun _ => ?_)
  · refine e_iload_n (pc := 186) dX12_lookers_186 3 rfl rfl ?_
    exact e_iretW rfl dX12_lookers_187
  · refine e_iload_n (pc := 64) dX12_lookers_64 2 rfl rfl ?_
    refine e_i2l (pc := 65) dX12_lookers_65 ?_
    refine e_iconst (pc := 66) (v := (2 : Int32)) dX12_lookers_66 ic_2 ?_
    refine e_iload (pc := 67) dX12_lookers_67 4 rfl ?_
    refine e_imul (pc := 69) dX12_lookers_69 ?_
    refine e_i2l (pc := 70) dX12_lookers_70 ?_
    refine e_ladd (pc := 71) dX12_lookers_71 ?_
    refine e_nameL (fun y5 => ?_)
    refine e_lstore (pc := 72) (lv' := [(5, .long y5), (0, .ref (xa X 54)), (1, .int x1), (2, .int x2), (3, .int x3), (4, .int x4)]) dX12_lookers_72 (Nat.le_of_ble_eq_true rfl) rfl ?_
    refine e_lload (pc := 74) dX12_lookers_74 0 rfl ?_
    refine e_lconst (pc := 76) (v := (0 : Int64)) dX12_lookers_76 lc_0 ?_
    refine e_lcmp_lt (pc := 77) (tgt := 105) dX12_lookers_77 dX12_lookers_78 (by decide) (fun _ => ?_) (fun _ => ?_)
    · refine e_iload (pc := 105) dX12_lookers_105 5 rfl ?_
      exact e_iretW rfl dX12_lookers_107
    · refine e_lload (pc := 81) dX12_lookers_81 0 rfl ?_
      refine e_lconst (pc := 83) (v := (1 : Int64)) dX12_lookers_83 lc_1 ?_
      refine e_ladd (pc := 84) dX12_lookers_84 ?_
      refine e_aload_n (pc := 85) dX12_lookers_85 1 rfl rfl ?_
      refine g_R (pc := 86) (cl' := 83) kk54 fl_X12_112 rfl dX12_lookers_86 ?_
      refine e_iload_n (pc := 89) dX12_lookers_89 2 rfl rfl ?_
      refine e_iald (pc := 90) kk83 dX12_lookers_90 (fun v6 => ?_)
      refine e_i2l (pc := 91) dX12_lookers_91 ?_
      refine e_lcmp_ge (pc := 92) (tgt := 105) dX12_lookers_92 dX12_lookers_93 (by decide) (fun _ => ?_) (fun _ => ?_)
      · refine e_iload (pc := 105) dX12_lookers_105 5 rfl ?_
        exact e_iretW rfl dX12_lookers_107
      · refine e_aload_n (pc := 96) dX12_lookers_96 1 rfl rfl ?_
        refine g_I (pc := 97) kk54 fl_X12_128 dX12_lookers_97 ?_
        refine e_bipush (pc := 100) (v := (6 : Int32)) dX12_lookers_100 bp_6 ?_
        refine e_icmp_ne (pc := 102) (tgt := 108) dX12_lookers_102 (by decide) (fun _ => ?_) (fun _ => ?_)
        · refine e_iload (pc := 105) dX12_lookers_105 5 rfl ?_
          exact e_iretW rfl dX12_lookers_107
        · refine e_bipush (pc := 108) (v := (60 : Int32)) dX12_lookers_108 bp_60 ?_
          refine e_iload_n (pc := 110) dX12_lookers_110 2 rfl rfl ?_
          refine e_imul (pc := 111) dX12_lookers_111 ?_
          refine e_lload (pc := 112) dX12_lookers_112 0 rfl ?_
          refine e_l2i (pc := 114) dX12_lookers_114 ?_
          refine e_iadd (pc := 115) dX12_lookers_115 ?_
          refine e_nameI (fun y7 => ?_)
          refine e_istore (pc := 116) (lv' := [(7, .int y7), (5, .long y5), (0, .ref (xa X 54)), (1, .int x1), (2, .int x2), (3, .int x3), (4, .int x4)]) dX12_lookers_116 (Nat.le_of_ble_eq_true rfl) rfl ?_
          refine e_aload_n (pc := 118) dX12_lookers_118 2 rfl rfl ?_
          refine g_R (pc := 119) (cl' := 84) kk54 fl_X12_115 rfl dX12_lookers_119 ?_
          refine e_iload (pc := 122) dX12_lookers_122 0 rfl ?_
          refine e_lald (pc := 124) kk84 dX12_lookers_124 (fun v8 => ?_)
          refine e_l2i (pc := 125) dX12_lookers_125 ?_
          refine e_iconst (pc := 126) (v := (0 : Int32)) dX12_lookers_126 ic_0 ?_
          refine e_bipush (pc := 127) (v := (12 : Int32)) dX12_lookers_127 bp_12 ?_
          refine e_callSRI (pc := 129) (As := [.int (Int64.toInt32 v8), .int (0 : Int32), .int (12 : Int32)]) (rest := []) (cf_X12_in X (Int64.toInt32 v8) (0 : Int32) (12 : Int32) w) lk_X12_124 (Nat.le_of_ble_eq_true rfl) (Nat.le_of_ble_eq_true rfl) rfl rfl (Nat.le_of_ble_eq_true rfl) dX12_lookers_129 (fun r9 => ?_)
          refine e_if_eq (pc := 132) (tgt := 154) dX12_lookers_132 (by decide) (fun _ => ?_) (fun _ => ?_)
          · refine e_iload (pc := 154) dX12_lookers_154 6 rfl ?_
            exact e_iretW rfl dX12_lookers_156
          · refine e_aload_n (pc := 135) dX12_lookers_135 2 rfl rfl ?_
            refine g_R (pc := 136) (cl' := 84) kk54 fl_X12_115 rfl dX12_lookers_136 ?_
            refine e_iload (pc := 139) dX12_lookers_139 0 rfl ?_
            refine e_iconst (pc := 141) (v := (1 : Int32)) dX12_lookers_141 ic_1 ?_
            refine e_iadd (pc := 142) dX12_lookers_142 ?_
            refine e_lald (pc := 143) kk84 dX12_lookers_143 (fun v10 => ?_)
            refine e_l2i (pc := 144) dX12_lookers_144 ?_
            refine e_iconst (pc := 145) (v := (0 : Int32)) dX12_lookers_145 ic_0 ?_
            refine e_bipush (pc := 146) (v := (99 : Int32)) dX12_lookers_146 bp_99 ?_
            refine e_callSRI (pc := 148) (As := [.int (Int64.toInt32 v10), .int (0 : Int32), .int (99 : Int32)]) (rest := []) (cf_X12_in X (Int64.toInt32 v10) (0 : Int32) (99 : Int32) w) lk_X12_124 (Nat.le_of_ble_eq_true rfl) (Nat.le_of_ble_eq_true rfl) rfl rfl (Nat.le_of_ble_eq_true rfl) dX12_lookers_148 (fun r11 => ?_)
            refine e_if_ne (pc := 151) (tgt := 157) dX12_lookers_151 (by decide) (fun _ => ?_) (fun _ => ?_)
            · refine e_iload (pc := 154) dX12_lookers_154 6 rfl ?_
              exact e_iretW rfl dX12_lookers_156
            · refine e_aload_n (pc := 157) dX12_lookers_157 2 rfl rfl ?_
              refine e_aload_n (pc := 158) dX12_lookers_158 2 rfl rfl ?_
              refine g_R (pc := 159) (cl' := 84) kk54 fl_X12_115 rfl dX12_lookers_159 ?_
              refine e_iload (pc := 162) dX12_lookers_162 0 rfl ?_
              refine e_lald (pc := 164) kk84 dX12_lookers_164 (fun v12 => ?_)
              refine e_l2i (pc := 165) dX12_lookers_165 ?_
              refine e_aload_n (pc := 166) dX12_lookers_166 2 rfl rfl ?_
              refine g_R (pc := 167) (cl' := 84) kk54 fl_X12_115 rfl dX12_lookers_167 ?_
              refine e_iload (pc := 170) dX12_lookers_170 0 rfl ?_
              refine e_iconst (pc := 172) (v := (1 : Int32)) dX12_lookers_172 ic_1 ?_
              refine e_iadd (pc := 173) dX12_lookers_173 ?_
              refine e_lald (pc := 174) kk84 dX12_lookers_174 (fun v13 => ?_)
              refine e_l2i (pc := 175) dX12_lookers_175 ?_
              refine e_callVWI (pc := 176) (As := [.int (Int64.toInt32 v12), .int (Int64.toInt32 v13)]) (rest := []) kk54 Kc12 (cf_X12_addLooker X (Int64.toInt32 v12) (Int64.toInt32 v13) w) lk_X12_131 (Nat.le_of_ble_eq_true rfl) (Nat.le_of_ble_eq_true rfl) rfl rfl (Nat.le_of_ble_eq_true rfl) dX12_lookers_176 (fun r14 w15 => ?_)
              refine e_pop (pc := 179) dX12_lookers_179 rfl ?_
              refine e_iinc (pc := 180) (lv' := [(4, .int (x4 + (1 : Int32))), (7, .int y7), (5, .long y5), (0, .ref (xa X 54)), (1, .int x1), (2, .int x2), (3, .int x3)]) dX12_lookers_180 6 rfl (ii_1 _) (Nat.le_of_ble_eq_true rfl) rfl ?_
              refine e_goto (pc := 183) (tgt := 58) dX12_lookers_183 (by decide) ?_
              refine e_lv [3, 4, 5, 6, 0] rfl ?_
              exact hk58 x1 x2 x3 (x4 + (1 : Int32)) w15
theorem cb_X12_lookers_b58 (X : Xt) : ∀ (n : Nat) (x1 : Int32) (x2 : Int32) (x3 : Int32) (x4 : Int32) (w : Wd), E gWI X m_X12_lookers 3 58 [(0, .ref (xa X 54)), (1, .int x1), (2, .int x2), (3, .int x3), (4, .int x4)] [] w (f_X12_lookers_b58 n x1 x2 x3 x4 w) := by
  intro n
  induction n with
  | zero =>
    intro x1 x2 x3 x4 w
    exact E_none
  | succ n ih =>
    intro x1 x2 x3 x4 w
    exact cb_X12_lookers_b58_y X _ ih x1 x2 x3 x4 w
set_option maxRecDepth 100000 in
set_option maxHeartbeats 4000000 in
theorem cb_X12_lookers_b43 (X : Xt) (x1 : Int32) (x2 : Int32) (x3 : Int32) (w : Wd) : E gWI X m_X12_lookers 3 43 [(0, .ref (xa X 54)), (1, .int x1), (2, .int x2), (3, .int x3)] [] w (f_X12_lookers_b43 x1 x2 x3 w) := by
  unfold f_X12_lookers_b43
  refine e_aload_n (pc := 43) dX12_lookers_43 0 rfl rfl ?_
  refine g_R (pc := 44) (cl' := 82) kk54 fl_X12_109 rfl dX12_lookers_44 ?_
  refine e_iload_n (pc := 47) dX12_lookers_47 1 rfl rfl ?_
  refine e_iald (pc := 48) kk82 dX12_lookers_48 (fun v4 => ?_)
  refine e_iconst (pc := 49) (v := (-1 : Int32)) dX12_lookers_49 ic_m1 ?_
  refine e_icmp_ne (pc := 50) (tgt := 55) dX12_lookers_50 (by decide) (fun _ => ?_) (fun _ => ?_)
  · refine e_iconst (pc := 53) (v := (0 : Int32)) dX12_lookers_53 ic_0 ?_
    exact e_iretW rfl dX12_lookers_54
  · refine e_iconst (pc := 55) (v := (0 : Int32)) dX12_lookers_55 ic_0 ?_
    refine e_istore (pc := 56) (lv' := [(4, .int (0 : Int32)), (0, .ref (xa X 54)), (1, .int x1), (2, .int x2), (3, .int x3)]) dX12_lookers_56 (Nat.le_of_ble_eq_true rfl) rfl ?_
    refine e_lv [1, 2, 3, 4, 0] rfl ?_
    exact cb_X12_lookers_b58 X fu x1 x2 x3 (0 : Int32) w
set_option maxRecDepth 100000 in
set_option maxHeartbeats 4000000 in
theorem ce_X12_lookers (X : Xt) (a1 : Int32) (a2 : Int32) (a3 : Int32) (w : Wd) : E gWI X m_X12_lookers 3 0 [(0, .ref (xa X 54)), (1, .int a1), (2, .int a2), (3, .int a3)] [] w (f_X12_lookers a1 a2 a3 w) := by
  unfold f_X12_lookers
  refine e_iload_n (pc := 0) dX12_lookers_0 1 rfl rfl ?_
  refine e_callSRI (pc := 1) (As := [.int a1]) (rest := []) (cf_X12_isShelf X a1 w) lk_X12_135 (Nat.le_of_ble_eq_true rfl) (Nat.le_of_ble_eq_true rfl) rfl rfl (Nat.le_of_ble_eq_true rfl) dX12_lookers_1 (fun r1 => ?_)
  refine e_if_eq (pc := 4) (tgt := 17) dX12_lookers_4 (by decide) (fun _ => ?_) (fun _ => ?_)
  · refine e_iconst (pc := 17) (v := (-1 : Int32)) dX12_lookers_17 ic_m1 ?_
    exact e_iretW rfl dX12_lookers_18
  · refine e_iload_n (pc := 7) dX12_lookers_7 3 rfl rfl ?_
    refine e_iconst (pc := 8) (v := (1 : Int32)) dX12_lookers_8 ic_1 ?_
    refine e_bipush (pc := 9) (v := (6 : Int32)) dX12_lookers_9 bp_6 ?_
    refine e_callSRI (pc := 11) (As := [.int a3, .int (1 : Int32), .int (6 : Int32)]) (rest := []) (cf_X12_in X a3 (1 : Int32) (6 : Int32) w) lk_X12_124 (Nat.le_of_ble_eq_true rfl) (Nat.le_of_ble_eq_true rfl) rfl rfl (Nat.le_of_ble_eq_true rfl) dX12_lookers_11 (fun r2 => ?_)
    refine e_if_ne (pc := 14) (tgt := 19) dX12_lookers_14 (by decide) (fun _ => ?_) (fun _ => ?_)
    · refine e_iconst (pc := 17) (v := (-1 : Int32)) dX12_lookers_17 ic_m1 ?_
      exact e_iretW rfl dX12_lookers_18
    · refine e_aload_n (pc := 19) dX12_lookers_19 0 rfl rfl ?_
      refine g_R (pc := 20) (cl' := 82) kk54 fl_X12_109 rfl dX12_lookers_20 ?_
      refine e_iload_n (pc := 23) dX12_lookers_23 1 rfl rfl ?_
      refine e_iald (pc := 24) kk82 dX12_lookers_24 (fun v3 => ?_)
      refine e_iconst (pc := 25) (v := (-1 : Int32)) dX12_lookers_25 ic_m1 ?_
      refine e_icmp_eq (pc := 26) (tgt := 43) dX12_lookers_26 (by decide) (fun _ => ?_) (fun _ => ?_)
      · refine e_lv [0, 1, 2, 3] rfl ?_
        exact cb_X12_lookers_b43 X a1 a2 a3 w
      · refine e_aload_n (pc := 29) dX12_lookers_29 0 rfl rfl ?_
        refine g_R (pc := 30) (cl' := 82) kk54 fl_X12_109 rfl dX12_lookers_30 ?_
        refine e_iload_n (pc := 33) dX12_lookers_33 1 rfl rfl ?_
        refine e_iald (pc := 34) kk82 dX12_lookers_34 (fun v16 => ?_)
        refine e_bipush (pc := 35) (v := (-2 : Int32)) dX12_lookers_35 bp_m2 ?_
        refine e_icmp_eq (pc := 37) (tgt := 43) dX12_lookers_37 (by decide) (fun _ => ?_) (fun _ => ?_)
        · refine e_lv [0, 1, 2, 3] rfl ?_
          exact cb_X12_lookers_b43 X a1 a2 a3 w
        · refine e_bipush (pc := 40) (v := (-12 : Int32)) dX12_lookers_40 bp_m12 ?_
          exact e_iretW rfl dX12_lookers_42
theorem cf_X12_lookers (X : Xt) (a1 : Int32) (a2 : Int32) (a3 : Int32) (w : Wd) : CF gWI X m_X12_lookers 3 [.ref (xa X 54), .int a1, .int a2, .int a3] w (f_X12_lookers a1 a2 a3 w) := CF_of (by decide) (Nat.le_of_ble_eq_true rfl) (ce_X12_lookers X a1 a2 a3 w)
set_option maxRecDepth 100000 in
set_option maxHeartbeats 4000000 in
theorem ce_X12_valueAt (X : Xt) (a1 : Int32) (a2 : Int32) (w : Wd) : E (gRI w) X m_X12_valueAt 1 0 [(0, .ref (xa X 54)), (1, .int a1), (2, .int a2)] [] w (f_X12_valueAt a1 a2 w) := by
  unfold f_X12_valueAt
  refine e_iload_n (pc := 0) dX12_valueAt_0 1 rfl rfl ?_
  refine e_iconst (pc := 1) (v := (4 : Int32)) dX12_valueAt_1 ic_4 ?_
  refine e_icmp_ge (pc := 2) (tgt := 16) dX12_valueAt_2 (by decide) (fun _ => ?_) (fun _ => ?_)
  · refine e_iload_n (pc := 16) dX12_valueAt_16 1 rfl rfl ?_
    refine e_ite (fun h17_4 => ?_) (fun h17_4 => ?_)
    · refine e_tabIn (pc := 17) (off := 43) (tgt := 60) dX12_valueAt_17 (by rw [h17_4]; decide) (by rw [h17_4]; decide) (by rw [h17_4]; decide) (by decide) ?_
      refine e_aload_n (pc := 60) dX12_valueAt_60 0 rfl rfl ?_
      refine g_R (pc := 61) (cl' := 56) kk54 fl_X12_15 rfl dX12_valueAt_61 ?_
      refine e_iload_n (pc := 64) dX12_valueAt_64 2 rfl rfl ?_
      refine e_iald (pc := 65) kk56 dX12_valueAt_65 (fun v1 => ?_)
      exact e_iretR rfl dX12_valueAt_66
    · refine e_ite (fun h17_5 => ?_) (fun h17_5 => ?_)
      · refine e_tabIn (pc := 17) (off := 50) (tgt := 67) dX12_valueAt_17 (by rw [h17_5]; decide) (by rw [h17_5]; decide) (by rw [h17_5]; decide) (by decide) ?_
        refine e_aload_n (pc := 67) dX12_valueAt_67 0 rfl rfl ?_
        refine g_R (pc := 68) (cl' := 57) kk54 fl_X12_18 rfl dX12_valueAt_68 ?_
        refine e_iload_n (pc := 71) dX12_valueAt_71 2 rfl rfl ?_
        refine e_iald (pc := 72) kk57 dX12_valueAt_72 (fun v2 => ?_)
        exact e_iretR rfl dX12_valueAt_73
      · refine e_ite (fun h17_6 => ?_) (fun h17_6 => ?_)
        · refine e_tabIn (pc := 17) (off := 57) (tgt := 74) dX12_valueAt_17 (by rw [h17_6]; decide) (by rw [h17_6]; decide) (by rw [h17_6]; decide) (by decide) ?_
          refine e_aload_n (pc := 74) dX12_valueAt_74 0 rfl rfl ?_
          refine g_R (pc := 75) (cl' := 58) kk54 fl_X12_21 rfl dX12_valueAt_75 ?_
          refine e_iload_n (pc := 78) dX12_valueAt_78 2 rfl rfl ?_
          refine e_iald (pc := 79) kk58 dX12_valueAt_79 (fun v3 => ?_)
          exact e_iretR rfl dX12_valueAt_80
        · refine e_ite (fun h17_7 => ?_) (fun h17_7 => ?_)
          · refine e_tabIn (pc := 17) (off := 64) (tgt := 81) dX12_valueAt_17 (by rw [h17_7]; decide) (by rw [h17_7]; decide) (by rw [h17_7]; decide) (by decide) ?_
            refine e_aload_n (pc := 81) dX12_valueAt_81 0 rfl rfl ?_
            refine g_I (pc := 82) kk54 fl_X12_139 dX12_valueAt_82 ?_
            exact e_iretR rfl dX12_valueAt_85
          · refine e_ite (fun h17_8 => ?_) (fun h17_8 => ?_)
            · refine e_tabIn (pc := 17) (off := 69) (tgt := 86) dX12_valueAt_17 (by rw [h17_8]; decide) (by rw [h17_8]; decide) (by rw [h17_8]; decide) (by decide) ?_
              refine e_aload_n (pc := 86) dX12_valueAt_86 0 rfl rfl ?_
              refine g_I (pc := 87) kk54 fl_X12_24 dX12_valueAt_87 ?_
              exact e_iretR rfl dX12_valueAt_90
            · refine e_ite (fun h17_9 => ?_) (fun h17_9 => ?_)
              · refine e_tabIn (pc := 17) (off := 74) (tgt := 91) dX12_valueAt_17 (by rw [h17_9]; decide) (by rw [h17_9]; decide) (by rw [h17_9]; decide) (by decide) ?_
                refine e_aload_n (pc := 91) dX12_valueAt_91 0 rfl rfl ?_
                refine g_I (pc := 92) kk54 fl_X12_28 dX12_valueAt_92 ?_
                exact e_iretR rfl dX12_valueAt_95
              · refine e_ite (fun h17_10 => ?_) (fun h17_10 => ?_)
                · refine e_tabIn (pc := 17) (off := 79) (tgt := 96) dX12_valueAt_17 (by rw [h17_10]; decide) (by rw [h17_10]; decide) (by rw [h17_10]; decide) (by decide) ?_
                  refine e_aload_n (pc := 96) dX12_valueAt_96 0 rfl rfl ?_
                  refine g_I (pc := 97) kk54 fl_X12_31 dX12_valueAt_97 ?_
                  exact e_iretR rfl dX12_valueAt_100
                · by_cases q0 : (a1).toInt < 4 ∨ 10 < (a1).toInt
                  · refine e_tabOut (pc := 17) (tgt := 101) dX12_valueAt_17 q0 (by decide) ?_
                    refine e_aload_n (pc := 101) dX12_valueAt_101 0 rfl rfl ?_
                    refine g_I (pc := 102) kk54 fl_X12_34 dX12_valueAt_102 ?_
                    exact e_iretR rfl dX12_valueAt_105
                  · have z4 := lv_neT h17_4 (show (4 : Int32).toInt = 4 by decide)
                    have z5 := lv_neT h17_5 (show (5 : Int32).toInt = 5 by decide)
                    have z6 := lv_neT h17_6 (show (6 : Int32).toInt = 6 by decide)
                    have z7 := lv_neT h17_7 (show (7 : Int32).toInt = 7 by decide)
                    have z8 := lv_neT h17_8 (show (8 : Int32).toInt = 8 by decide)
                    have z9 := lv_neT h17_9 (show (9 : Int32).toInt = 9 by decide)
                    have z10 := lv_neT h17_10 (show (10 : Int32).toInt = 10 by decide)
                    exfalso
                    omega
  · refine e_aload_n (pc := 5) dX12_valueAt_5 0 rfl rfl ?_
    refine g_R (pc := 6) (cl' := 55) kk54 fl_X12_9 rfl dX12_valueAt_6 ?_
    refine e_iconst (pc := 9) (v := (4 : Int32)) dX12_valueAt_9 ic_4 ?_
    refine e_iload_n (pc := 10) dX12_valueAt_10 2 rfl rfl ?_
    refine e_imul (pc := 11) dX12_valueAt_11 ?_
    refine e_iload_n (pc := 12) dX12_valueAt_12 1 rfl rfl ?_
    refine e_iadd (pc := 13) dX12_valueAt_13 ?_
    refine e_iald (pc := 14) kk55 dX12_valueAt_14 (fun v4 => ?_)
    exact e_iretR rfl dX12_valueAt_15
theorem cf_X12_valueAt (X : Xt) (a1 : Int32) (a2 : Int32) (w : Wd) : CF (gRI w) X m_X12_valueAt 1 [.ref (xa X 54), .int a1, .int a2] w (f_X12_valueAt a1 a2 w) := CF_of (by decide) (Nat.le_of_ble_eq_true rfl) (ce_X12_valueAt X a1 a2 w)
set_option maxRecDepth 100000 in
set_option maxHeartbeats 4000000 in
theorem ce_X12_lays (X : Xt) (a1 : Int32) (a2 : Int32) (a3 : Int32) (w : Wd) : E gWV X m_X12_lays 1 0 [(0, .ref (xa X 54)), (1, .int a1), (2, .int a2), (3, .int a3)] [] w (f_X12_lays a1 a2 a3 w) := by
  unfold f_X12_lays
  refine e_iload_n (pc := 0) dX12_lays_0 1 rfl rfl ?_
  refine e_ite (fun h1_4 => ?_) (fun h1_4 => ?_)
  · refine e_tabIn (pc := 1) (off := 47) (tgt := 48) dX12_lays_1 (by rw [h1_4]; decide) (by rw [h1_4]; decide) (by rw [h1_4]; decide) (by decide) ?_
    refine e_aload_n (pc := 48) dX12_lays_48 0 rfl rfl ?_
    refine g_R (pc := 49) (cl' := 56) kk54 fl_X12_15 rfl dX12_lays_49 ?_
    refine e_iload_n (pc := 52) dX12_lays_52 2 rfl rfl ?_
    refine e_iload_n (pc := 53) dX12_lays_53 3 rfl rfl ?_
    refine e_iast (pc := 54) kk56 dX12_lays_54 (fun w1 => ?_)
    refine e_goto (pc := 55) (tgt := 129) dX12_lays_55 (by decide) ?_
    exact e_vret rfl dX12_lays_129
  · refine e_ite (fun h1_5 => ?_) (fun h1_5 => ?_)
    · refine e_tabIn (pc := 1) (off := 57) (tgt := 58) dX12_lays_1 (by rw [h1_5]; decide) (by rw [h1_5]; decide) (by rw [h1_5]; decide) (by decide) ?_
      refine e_aload_n (pc := 58) dX12_lays_58 0 rfl rfl ?_
      refine g_R (pc := 59) (cl' := 57) kk54 fl_X12_18 rfl dX12_lays_59 ?_
      refine e_iload_n (pc := 62) dX12_lays_62 2 rfl rfl ?_
      refine e_iload_n (pc := 63) dX12_lays_63 3 rfl rfl ?_
      refine e_iast (pc := 64) kk57 dX12_lays_64 (fun w2 => ?_)
      refine e_goto (pc := 65) (tgt := 129) dX12_lays_65 (by decide) ?_
      exact e_vret rfl dX12_lays_129
    · refine e_ite (fun h1_6 => ?_) (fun h1_6 => ?_)
      · refine e_tabIn (pc := 1) (off := 67) (tgt := 68) dX12_lays_1 (by rw [h1_6]; decide) (by rw [h1_6]; decide) (by rw [h1_6]; decide) (by decide) ?_
        refine e_aload_n (pc := 68) dX12_lays_68 0 rfl rfl ?_
        refine g_R (pc := 69) (cl' := 58) kk54 fl_X12_21 rfl dX12_lays_69 ?_
        refine e_iload_n (pc := 72) dX12_lays_72 2 rfl rfl ?_
        refine e_iload_n (pc := 73) dX12_lays_73 3 rfl rfl ?_
        refine e_iast (pc := 74) kk58 dX12_lays_74 (fun w3 => ?_)
        refine e_goto (pc := 75) (tgt := 129) dX12_lays_75 (by decide) ?_
        exact e_vret rfl dX12_lays_129
      · refine e_ite (fun h1_7 => ?_) (fun h1_7 => ?_)
        · refine e_tabIn (pc := 1) (off := 77) (tgt := 78) dX12_lays_1 (by rw [h1_7]; decide) (by rw [h1_7]; decide) (by rw [h1_7]; decide) (by decide) ?_
          refine e_aload_n (pc := 78) dX12_lays_78 0 rfl rfl ?_
          refine e_iload_n (pc := 79) dX12_lays_79 3 rfl rfl ?_
          refine p_I (pc := 80) kk54 fp_X12_139 dX12_lays_80 (fun w4 => ?_)
          refine e_goto (pc := 83) (tgt := 129) dX12_lays_83 (by decide) ?_
          exact e_vret rfl dX12_lays_129
        · refine e_ite (fun h1_8 => ?_) (fun h1_8 => ?_)
          · refine e_tabIn (pc := 1) (off := 85) (tgt := 86) dX12_lays_1 (by rw [h1_8]; decide) (by rw [h1_8]; decide) (by rw [h1_8]; decide) (by decide) ?_
            refine e_aload_n (pc := 86) dX12_lays_86 0 rfl rfl ?_
            refine e_iload_n (pc := 87) dX12_lays_87 3 rfl rfl ?_
            refine p_I (pc := 88) kk54 fp_X12_24 dX12_lays_88 (fun w5 => ?_)
            refine e_goto (pc := 91) (tgt := 129) dX12_lays_91 (by decide) ?_
            exact e_vret rfl dX12_lays_129
          · refine e_ite (fun h1_9 => ?_) (fun h1_9 => ?_)
            · refine e_tabIn (pc := 1) (off := 93) (tgt := 94) dX12_lays_1 (by rw [h1_9]; decide) (by rw [h1_9]; decide) (by rw [h1_9]; decide) (by decide) ?_
              refine e_aload_n (pc := 94) dX12_lays_94 0 rfl rfl ?_
              refine e_iload_n (pc := 95) dX12_lays_95 3 rfl rfl ?_
              refine p_I (pc := 96) kk54 fp_X12_28 dX12_lays_96 (fun w6 => ?_)
              refine e_goto (pc := 99) (tgt := 129) dX12_lays_99 (by decide) ?_
              exact e_vret rfl dX12_lays_129
            · refine e_ite (fun h1_10 => ?_) (fun h1_10 => ?_)
              · refine e_tabIn (pc := 1) (off := 101) (tgt := 102) dX12_lays_1 (by rw [h1_10]; decide) (by rw [h1_10]; decide) (by rw [h1_10]; decide) (by decide) ?_
                refine e_aload_n (pc := 102) dX12_lays_102 0 rfl rfl ?_
                refine e_iload_n (pc := 103) dX12_lays_103 3 rfl rfl ?_
                refine p_I (pc := 104) kk54 fp_X12_31 dX12_lays_104 (fun w7 => ?_)
                refine e_goto (pc := 107) (tgt := 129) dX12_lays_107 (by decide) ?_
                exact e_vret rfl dX12_lays_129
              · refine e_ite (fun h1_11 => ?_) (fun h1_11 => ?_)
                · refine e_tabIn (pc := 1) (off := 109) (tgt := 110) dX12_lays_1 (by rw [h1_11]; decide) (by rw [h1_11]; decide) (by rw [h1_11]; decide) (by decide) ?_
                  refine e_aload_n (pc := 110) dX12_lays_110 0 rfl rfl ?_
                  refine e_iload_n (pc := 111) dX12_lays_111 3 rfl rfl ?_
                  refine p_I (pc := 112) kk54 fp_X12_34 dX12_lays_112 (fun w8 => ?_)
                  refine e_goto (pc := 115) (tgt := 129) dX12_lays_115 (by decide) ?_
                  exact e_vret rfl dX12_lays_129
                · by_cases q0 : (a1).toInt < 4 ∨ 11 < (a1).toInt
                  · refine e_tabOut (pc := 1) (tgt := 118) dX12_lays_1 q0 (by decide) ?_
                    refine e_aload_n (pc := 118) dX12_lays_118 0 rfl rfl ?_
                    refine g_R (pc := 119) (cl' := 55) kk54 fl_X12_9 rfl dX12_lays_119 ?_
                    refine e_iconst (pc := 122) (v := (4 : Int32)) dX12_lays_122 ic_4 ?_
                    refine e_iload_n (pc := 123) dX12_lays_123 2 rfl rfl ?_
                    refine e_imul (pc := 124) dX12_lays_124 ?_
                    refine e_iload_n (pc := 125) dX12_lays_125 1 rfl rfl ?_
                    refine e_iadd (pc := 126) dX12_lays_126 ?_
                    refine e_iload_n (pc := 127) dX12_lays_127 3 rfl rfl ?_
                    refine e_iast (pc := 128) kk55 dX12_lays_128 (fun w9 => ?_)
                    exact e_vret rfl dX12_lays_129
                  · have z4 := lv_neT h1_4 (show (4 : Int32).toInt = 4 by decide)
                    have z5 := lv_neT h1_5 (show (5 : Int32).toInt = 5 by decide)
                    have z6 := lv_neT h1_6 (show (6 : Int32).toInt = 6 by decide)
                    have z7 := lv_neT h1_7 (show (7 : Int32).toInt = 7 by decide)
                    have z8 := lv_neT h1_8 (show (8 : Int32).toInt = 8 by decide)
                    have z9 := lv_neT h1_9 (show (9 : Int32).toInt = 9 by decide)
                    have z10 := lv_neT h1_10 (show (10 : Int32).toInt = 10 by decide)
                    have z11 := lv_neT h1_11 (show (11 : Int32).toInt = 11 by decide)
                    exfalso
                    omega
theorem cf_X12_lays (X : Xt) (a1 : Int32) (a2 : Int32) (a3 : Int32) (w : Wd) : CF gWV X m_X12_lays 1 [.ref (xa X 54), .int a1, .int a2, .int a3] w (f_X12_lays a1 a2 a3 w) := CF_of (by decide) (Nat.le_of_ble_eq_true rfl) (ce_X12_lays X a1 a2 a3 w)
set_option maxRecDepth 100000 in
set_option maxHeartbeats 4000000 in
theorem cb_X12_changes_b121 (X : Xt) (x1 : Int32) (x2 : Int32) (x3 : Int32) (x4 : Int32) (w : Wd) : E gWI X m_X12_changes 2 121 [(0, .ref (xa X 54)), (1, .int x1), (2, .int x2), (3, .int x3), (4, .int x4)] [] w (f_X12_changes_b121 x1 x2 x3 x4 w) := by
  unfold f_X12_changes_b121
  refine e_aload_n (pc := 121) dX12_changes_121 0 rfl rfl ?_
  refine g_R (pc := 122) (cl' := 59) kk54 fl_X12_37 rfl dX12_changes_122 ?_
  refine e_aload_n (pc := 125) dX12_changes_125 0 rfl rfl ?_
  refine g_I (pc := 126) kk54 fl_X12_148 dX12_changes_126 ?_
  refine e_iload_n (pc := 129) dX12_changes_129 1 rfl rfl ?_
  refine e_iast (pc := 130) kk59 dX12_changes_130 (fun w3 => ?_)
  refine e_aload_n (pc := 131) dX12_changes_131 0 rfl rfl ?_
  refine g_R (pc := 132) (cl' := 60) kk54 fl_X12_40 rfl dX12_changes_132 ?_
  refine e_aload_n (pc := 135) dX12_changes_135 0 rfl rfl ?_
  refine g_I (pc := 136) kk54 fl_X12_148 dX12_changes_136 ?_
  refine e_iload_n (pc := 139) dX12_changes_139 2 rfl rfl ?_
  refine e_iast (pc := 140) kk60 dX12_changes_140 (fun w4 => ?_)
  refine e_aload_n (pc := 141) dX12_changes_141 0 rfl rfl ?_
  refine g_R (pc := 142) (cl' := 61) kk54 fl_X12_43 rfl dX12_changes_142 ?_
  refine e_aload_n (pc := 145) dX12_changes_145 0 rfl rfl ?_
  refine g_I (pc := 146) kk54 fl_X12_148 dX12_changes_146 ?_
  refine e_iload (pc := 149) dX12_changes_149 4 rfl ?_
  refine e_iast (pc := 151) kk61 dX12_changes_151 (fun w5 => ?_)
  refine e_aload_n (pc := 152) dX12_changes_152 0 rfl rfl ?_
  refine g_R (pc := 153) (cl' := 62) kk54 fl_X12_46 rfl dX12_changes_153 ?_
  refine e_aload_n (pc := 156) dX12_changes_156 0 rfl rfl ?_
  refine g_I (pc := 157) kk54 fl_X12_148 dX12_changes_157 ?_
  refine e_iload_n (pc := 160) dX12_changes_160 3 rfl rfl ?_
  refine e_iast (pc := 161) kk62 dX12_changes_161 (fun w6 => ?_)
  refine e_aload_n (pc := 162) dX12_changes_162 0 rfl rfl ?_
  refine e_dup (pc := 163) dX12_changes_163 rfl ?_
  refine g_I (pc := 164) kk54 fl_X12_148 dX12_changes_164 ?_
  refine e_iconst (pc := 167) (v := (1 : Int32)) dX12_changes_167 ic_1 ?_
  refine e_iadd (pc := 168) dX12_changes_168 ?_
  refine p_I (pc := 169) kk54 fp_X12_148 dX12_changes_169 (fun w7 => ?_)
  refine e_aload_n (pc := 172) dX12_changes_172 0 rfl rfl ?_
  refine e_iload_n (pc := 173) dX12_changes_173 1 rfl rfl ?_
  refine e_iload_n (pc := 174) dX12_changes_174 2 rfl rfl ?_
  refine e_iload_n (pc := 175) dX12_changes_175 3 rfl rfl ?_
  refine e_callVWV (pc := 176) (As := [.int x1, .int x2, .int x3]) (rest := []) kk54 Kc12 (cf_X12_lays X x1 x2 x3 w7) lk_X12_151 (Nat.le_of_ble_eq_true rfl) (Nat.le_of_ble_eq_true rfl) rfl rfl (Nat.le_of_ble_eq_true rfl) dX12_changes_176 (fun w8 => ?_)
  refine e_iload (pc := 179) dX12_changes_179 4 rfl ?_
  exact e_iretW rfl dX12_changes_181
set_option maxRecDepth 100000 in
set_option maxHeartbeats 4000000 in
theorem cb_X12_changes_b34_y (X : Xt) (k34 : Int32 → Int32 → Int32 → Int32 → Int32 → Wd → Option (Int32 × Wd)) (hk34 : ∀ (x1 : Int32) (x2 : Int32) (x3 : Int32) (x4 : Int32) (x5 : Int32)  (w : Wd), E gWI X m_X12_changes 2 34 [(0, .ref (xa X 54)), (1, .int x1), (2, .int x2), (3, .int x3), (4, .int x4), (5, .int x5)] [] w (k34 x1 x2 x3 x4 x5 w)) (x1 : Int32) (x2 : Int32) (x3 : Int32) (x4 : Int32) (x5 : Int32) (w : Wd) : E gWI X m_X12_changes 2 34 [(0, .ref (xa X 54)), (1, .int x1), (2, .int x2), (3, .int x3), (4, .int x4), (5, .int x5)] [] w (f_X12_changes_b34_y k34 x1 x2 x3 x4 x5 w) := by
  unfold f_X12_changes_b34_y
  refine e_iload (pc := 34) dX12_changes_34 5 rfl ?_
  refine e_bipush (pc := 36) (v := (40 : Int32)) dX12_changes_36 bp_40 ?_
  refine e_icmp_ge (pc := 38) (tgt := 111) dX12_changes_38 (by decide) (fun _ => ?_) (fun _ => ?_)
  · refine e_aload_n (pc := 111) dX12_changes_111 0 rfl rfl ?_
    refine e_dup (pc := 112) dX12_changes_112 rfl ?_
    refine g_I (pc := 113) kk54 fl_X12_148 dX12_changes_113 ?_
    refine e_iconst (pc := 116) (v := (1 : Int32)) dX12_changes_116 ic_1 ?_
    refine e_isub (pc := 117) dX12_changes_117 ?_
    refine p_I (pc := 118) kk54 fp_X12_148 dX12_changes_118 (fun w9 => ?_)
    refine e_lv [0, 1, 2, 3, 4] rfl ?_
    exact cb_X12_changes_b121 X x1 x2 x3 x4 w9
  · refine e_aload_n (pc := 41) dX12_changes_41 0 rfl rfl ?_
    refine g_R (pc := 42) (cl' := 59) kk54 fl_X12_37 rfl dX12_changes_42 ?_
    refine e_iload (pc := 45) dX12_changes_45 5 rfl ?_
    refine e_iconst (pc := 47) (v := (1 : Int32)) dX12_changes_47 ic_1 ?_
    refine e_isub (pc := 48) dX12_changes_48 ?_
    refine e_aload_n (pc := 49) dX12_changes_49 0 rfl rfl ?_
    refine g_R (pc := 50) (cl' := 59) kk54 fl_X12_37 rfl dX12_changes_50 ?_
    refine e_iload (pc := 53) dX12_changes_53 5 rfl ?_
    refine e_iald (pc := 55) kk59 dX12_changes_55 (fun v10 => ?_)
    refine e_iast (pc := 56) kk59 dX12_changes_56 (fun w11 => ?_)
    refine e_aload_n (pc := 57) dX12_changes_57 0 rfl rfl ?_
    refine g_R (pc := 58) (cl' := 60) kk54 fl_X12_40 rfl dX12_changes_58 ?_
    refine e_iload (pc := 61) dX12_changes_61 5 rfl ?_
    refine e_iconst (pc := 63) (v := (1 : Int32)) dX12_changes_63 ic_1 ?_
    refine e_isub (pc := 64) dX12_changes_64 ?_
    refine e_aload_n (pc := 65) dX12_changes_65 0 rfl rfl ?_
    refine g_R (pc := 66) (cl' := 60) kk54 fl_X12_40 rfl dX12_changes_66 ?_
    refine e_iload (pc := 69) dX12_changes_69 5 rfl ?_
    refine e_iald (pc := 71) kk60 dX12_changes_71 (fun v12 => ?_)
    refine e_iast (pc := 72) kk60 dX12_changes_72 (fun w13 => ?_)
    refine e_aload_n (pc := 73) dX12_changes_73 0 rfl rfl ?_
    refine g_R (pc := 74) (cl' := 61) kk54 fl_X12_43 rfl dX12_changes_74 ?_
    refine e_iload (pc := 77) dX12_changes_77 5 rfl ?_
    refine e_iconst (pc := 79) (v := (1 : Int32)) dX12_changes_79 ic_1 ?_
    refine e_isub (pc := 80) dX12_changes_80 ?_
    refine e_aload_n (pc := 81) dX12_changes_81 0 rfl rfl ?_
    refine g_R (pc := 82) (cl' := 61) kk54 fl_X12_43 rfl dX12_changes_82 ?_
    refine e_iload (pc := 85) dX12_changes_85 5 rfl ?_
    refine e_iald (pc := 87) kk61 dX12_changes_87 (fun v14 => ?_)
    refine e_iast (pc := 88) kk61 dX12_changes_88 (fun w15 => ?_)
    refine e_aload_n (pc := 89) dX12_changes_89 0 rfl rfl ?_
    refine g_R (pc := 90) (cl' := 62) kk54 fl_X12_46 rfl dX12_changes_90 ?_
    refine e_iload (pc := 93) dX12_changes_93 5 rfl ?_
    refine e_iconst (pc := 95) (v := (1 : Int32)) dX12_changes_95 ic_1 ?_
    refine e_isub (pc := 96) dX12_changes_96 ?_
    refine e_aload_n (pc := 97) dX12_changes_97 0 rfl rfl ?_
    refine g_R (pc := 98) (cl' := 62) kk54 fl_X12_46 rfl dX12_changes_98 ?_
    refine e_iload (pc := 101) dX12_changes_101 5 rfl ?_
    refine e_iald (pc := 103) kk62 dX12_changes_103 (fun v16 => ?_)
    refine e_iast (pc := 104) kk62 dX12_changes_104 (fun w17 => ?_)
    refine e_iinc (pc := 105) (lv' := [(5, .int (x5 + (1 : Int32))), (0, .ref (xa X 54)), (1, .int x1), (2, .int x2), (3, .int x3), (4, .int x4)]) dX12_changes_105 5 rfl (ii_1 _) (Nat.le_of_ble_eq_true rfl) rfl ?_
    refine e_goto (pc := 108) (tgt := 34) dX12_changes_108 (by decide) ?_
    refine e_lv [1, 2, 3, 4, 5, 0] rfl ?_
    exact hk34 x1 x2 x3 x4 (x5 + (1 : Int32)) w17
theorem cb_X12_changes_b34 (X : Xt) : ∀ (n : Nat) (x1 : Int32) (x2 : Int32) (x3 : Int32) (x4 : Int32) (x5 : Int32) (w : Wd), E gWI X m_X12_changes 2 34 [(0, .ref (xa X 54)), (1, .int x1), (2, .int x2), (3, .int x3), (4, .int x4), (5, .int x5)] [] w (f_X12_changes_b34 n x1 x2 x3 x4 x5 w) := by
  intro n
  induction n with
  | zero =>
    intro x1 x2 x3 x4 x5 w
    exact E_none
  | succ n ih =>
    intro x1 x2 x3 x4 x5 w
    exact cb_X12_changes_b34_y X _ ih x1 x2 x3 x4 x5 w
set_option maxRecDepth 100000 in
set_option maxHeartbeats 4000000 in
theorem ce_X12_changes (X : Xt) (a1 : Int32) (a2 : Int32) (a3 : Int32) (w : Wd) : E gWI X m_X12_changes 2 0 [(0, .ref (xa X 54)), (1, .int a1), (2, .int a2), (3, .int a3)] [] w (f_X12_changes a1 a2 a3 w) := by
  unfold f_X12_changes
  refine e_aload_n (pc := 0) dX12_changes_0 0 rfl rfl ?_
  refine e_iload_n (pc := 1) dX12_changes_1 1 rfl rfl ?_
  refine e_iload_n (pc := 2) dX12_changes_2 2 rfl rfl ?_
  refine e_callVRI (pc := 3) (As := [.int a1, .int a2]) (rest := []) kk54 Kc12 (cf_X12_valueAt X a1 a2 w) lk_X12_142 (Nat.le_of_ble_eq_true rfl) (Nat.le_of_ble_eq_true rfl) rfl rfl (Nat.le_of_ble_eq_true rfl) dX12_changes_3 (fun r1 => ?_)
  refine e_istore (pc := 6) (lv' := [(4, .int r1), (0, .ref (xa X 54)), (1, .int a1), (2, .int a2), (3, .int a3)]) dX12_changes_6 (Nat.le_of_ble_eq_true rfl) rfl ?_
  refine e_iload (pc := 8) dX12_changes_8 0 rfl ?_
  refine e_iload_n (pc := 10) dX12_changes_10 4 rfl rfl ?_
  refine e_icmp_ne (pc := 11) (tgt := 17) dX12_changes_11 (by decide) (fun _ => ?_) (fun _ => ?_)
  · refine e_iload (pc := 14) dX12_changes_14 0 rfl ?_
    exact e_iretW rfl dX12_changes_16
  · refine e_aload_n (pc := 17) dX12_changes_17 1 rfl rfl ?_
    refine e_iconst (pc := 18) (v := (0 : Int32)) dX12_changes_18 ic_0 ?_
    refine p_I (pc := 19) kk54 fp_X12_145 dX12_changes_19 (fun w2 => ?_)
    refine e_aload_n (pc := 22) dX12_changes_22 1 rfl rfl ?_
    refine g_I (pc := 23) kk54 fl_X12_148 dX12_changes_23 ?_
    refine e_bipush (pc := 26) (v := (40 : Int32)) dX12_changes_26 bp_40 ?_
    refine e_icmp_ne (pc := 28) (tgt := 121) dX12_changes_28 (by decide) (fun _ => ?_) (fun _ => ?_)
    · refine e_iconst (pc := 31) (v := (1 : Int32)) dX12_changes_31 ic_1 ?_
      refine e_istore (pc := 32) (lv' := [(5, .int (1 : Int32)), (4, .int r1), (0, .ref (xa X 54)), (1, .int a1), (2, .int a2), (3, .int a3)]) dX12_changes_32 (Nat.le_of_ble_eq_true rfl) rfl ?_
      refine e_lv [2, 3, 4, 5, 1, 0] rfl ?_
      exact cb_X12_changes_b34 X fu a1 a2 a3 r1 (1 : Int32) w2
    · refine e_lv [1, 2, 3, 4, 0] rfl ?_
      exact cb_X12_changes_b121 X a1 a2 a3 r1 w2
theorem cf_X12_changes (X : Xt) (a1 : Int32) (a2 : Int32) (a3 : Int32) (w : Wd) : CF gWI X m_X12_changes 2 [.ref (xa X 54), .int a1, .int a2, .int a3] w (f_X12_changes a1 a2 a3 w) := CF_of (by decide) (Nat.le_of_ble_eq_true rfl) (ce_X12_changes X a1 a2 a3 w)
set_option maxRecDepth 100000 in
set_option maxHeartbeats 4000000 in
theorem ce_X12_undo (X : Xt) (w : Wd) : E gWI X m_X12_undo 2 0 [(0, .ref (xa X 54))] [] w (f_X12_undo w) := by
  unfold f_X12_undo
  refine e_aload_n (pc := 0) dX12_undo_0 0 rfl rfl ?_
  refine g_I (pc := 1) kk54 fl_X12_148 dX12_undo_1 ?_
  refine e_if_ne (pc := 4) (tgt := 10) dX12_undo_4 (by decide) (fun _ => ?_) (fun _ => ?_)
  · refine e_bipush (pc := 7) (v := (-5 : Int32)) dX12_undo_7 bp_m5 ?_
    exact e_iretW rfl dX12_undo_9
  · refine e_aload_n (pc := 10) dX12_undo_10 0 rfl rfl ?_
    refine e_dup (pc := 11) dX12_undo_11 rfl ?_
    refine g_I (pc := 12) kk54 fl_X12_148 dX12_undo_12 ?_
    refine e_iconst (pc := 15) (v := (1 : Int32)) dX12_undo_15 ic_1 ?_
    refine e_isub (pc := 16) dX12_undo_16 ?_
    refine p_I (pc := 17) kk54 fp_X12_148 dX12_undo_17 (fun w1 => ?_)
    refine e_aload_n (pc := 20) dX12_undo_20 0 rfl rfl ?_
    refine e_dup (pc := 21) dX12_undo_21 rfl ?_
    refine g_I (pc := 22) kk54 fl_X12_145 dX12_undo_22 ?_
    refine e_iconst (pc := 25) (v := (1 : Int32)) dX12_undo_25 ic_1 ?_
    refine e_iadd (pc := 26) dX12_undo_26 ?_
    refine p_I (pc := 27) kk54 fp_X12_145 dX12_undo_27 (fun w2 => ?_)
    refine e_aload_n (pc := 30) dX12_undo_30 0 rfl rfl ?_
    refine e_aload_n (pc := 31) dX12_undo_31 0 rfl rfl ?_
    refine g_R (pc := 32) (cl' := 59) kk54 fl_X12_37 rfl dX12_undo_32 ?_
    refine e_aload_n (pc := 35) dX12_undo_35 0 rfl rfl ?_
    refine g_I (pc := 36) kk54 fl_X12_148 dX12_undo_36 ?_
    refine e_iald (pc := 39) kk59 dX12_undo_39 (fun v3 => ?_)
    refine e_aload_n (pc := 40) dX12_undo_40 0 rfl rfl ?_
    refine g_R (pc := 41) (cl' := 60) kk54 fl_X12_40 rfl dX12_undo_41 ?_
    refine e_aload_n (pc := 44) dX12_undo_44 0 rfl rfl ?_
    refine g_I (pc := 45) kk54 fl_X12_148 dX12_undo_45 ?_
    refine e_iald (pc := 48) kk60 dX12_undo_48 (fun v4 => ?_)
    refine e_aload_n (pc := 49) dX12_undo_49 0 rfl rfl ?_
    refine g_R (pc := 50) (cl' := 61) kk54 fl_X12_43 rfl dX12_undo_50 ?_
    refine e_aload_n (pc := 53) dX12_undo_53 0 rfl rfl ?_
    refine g_I (pc := 54) kk54 fl_X12_148 dX12_undo_54 ?_
    refine e_iald (pc := 57) kk61 dX12_undo_57 (fun v5 => ?_)
    refine e_callVWV (pc := 58) (As := [.int v3, .int v4, .int v5]) (rest := []) kk54 Kc12 (cf_X12_lays X v3 v4 v5 w2) lk_X12_151 (Nat.le_of_ble_eq_true rfl) (Nat.le_of_ble_eq_true rfl) rfl rfl (Nat.le_of_ble_eq_true rfl) dX12_undo_58 (fun w6 => ?_)
    refine e_aload_n (pc := 61) dX12_undo_61 0 rfl rfl ?_
    refine g_I (pc := 62) kk54 fl_X12_148 dX12_undo_62 ?_
    exact e_iretW rfl dX12_undo_65
theorem cf_X12_undo (X : Xt) (w : Wd) : CF gWI X m_X12_undo 2 [.ref (xa X 54)] w (f_X12_undo w) := CF_of (by decide) (Nat.le_of_ble_eq_true rfl) (ce_X12_undo X w)
set_option maxRecDepth 100000 in
set_option maxHeartbeats 4000000 in
theorem ce_X12_redo (X : Xt) (w : Wd) : E gWI X m_X12_redo 2 0 [(0, .ref (xa X 54))] [] w (f_X12_redo w) := by
  unfold f_X12_redo
  refine e_aload_n (pc := 0) dX12_redo_0 0 rfl rfl ?_
  refine g_I (pc := 1) kk54 fl_X12_145 dX12_redo_1 ?_
  refine e_if_ne (pc := 4) (tgt := 10) dX12_redo_4 (by decide) (fun _ => ?_) (fun _ => ?_)
  · refine e_bipush (pc := 7) (v := (-5 : Int32)) dX12_redo_7 bp_m5 ?_
    exact e_iretW rfl dX12_redo_9
  · refine e_aload_n (pc := 10) dX12_redo_10 0 rfl rfl ?_
    refine e_aload_n (pc := 11) dX12_redo_11 0 rfl rfl ?_
    refine g_R (pc := 12) (cl' := 59) kk54 fl_X12_37 rfl dX12_redo_12 ?_
    refine e_aload_n (pc := 15) dX12_redo_15 0 rfl rfl ?_
    refine g_I (pc := 16) kk54 fl_X12_148 dX12_redo_16 ?_
    refine e_iald (pc := 19) kk59 dX12_redo_19 (fun v1 => ?_)
    refine e_aload_n (pc := 20) dX12_redo_20 0 rfl rfl ?_
    refine g_R (pc := 21) (cl' := 60) kk54 fl_X12_40 rfl dX12_redo_21 ?_
    refine e_aload_n (pc := 24) dX12_redo_24 0 rfl rfl ?_
    refine g_I (pc := 25) kk54 fl_X12_148 dX12_redo_25 ?_
    refine e_iald (pc := 28) kk60 dX12_redo_28 (fun v2 => ?_)
    refine e_aload_n (pc := 29) dX12_redo_29 0 rfl rfl ?_
    refine g_R (pc := 30) (cl' := 62) kk54 fl_X12_46 rfl dX12_redo_30 ?_
    refine e_aload_n (pc := 33) dX12_redo_33 0 rfl rfl ?_
    refine g_I (pc := 34) kk54 fl_X12_148 dX12_redo_34 ?_
    refine e_iald (pc := 37) kk62 dX12_redo_37 (fun v3 => ?_)
    refine e_callVWV (pc := 38) (As := [.int v1, .int v2, .int v3]) (rest := []) kk54 Kc12 (cf_X12_lays X v1 v2 v3 w) lk_X12_151 (Nat.le_of_ble_eq_true rfl) (Nat.le_of_ble_eq_true rfl) rfl rfl (Nat.le_of_ble_eq_true rfl) dX12_redo_38 (fun w4 => ?_)
    refine e_aload_n (pc := 41) dX12_redo_41 0 rfl rfl ?_
    refine e_dup (pc := 42) dX12_redo_42 rfl ?_
    refine g_I (pc := 43) kk54 fl_X12_148 dX12_redo_43 ?_
    refine e_iconst (pc := 46) (v := (1 : Int32)) dX12_redo_46 ic_1 ?_
    refine e_iadd (pc := 47) dX12_redo_47 ?_
    refine p_I (pc := 48) kk54 fp_X12_148 dX12_redo_48 (fun w5 => ?_)
    refine e_aload_n (pc := 51) dX12_redo_51 0 rfl rfl ?_
    refine e_dup (pc := 52) dX12_redo_52 rfl ?_
    refine g_I (pc := 53) kk54 fl_X12_145 dX12_redo_53 ?_
    refine e_iconst (pc := 56) (v := (1 : Int32)) dX12_redo_56 ic_1 ?_
    refine e_isub (pc := 57) dX12_redo_57 ?_
    refine p_I (pc := 58) kk54 fp_X12_145 dX12_redo_58 (fun w6 => ?_)
    refine e_aload_n (pc := 61) dX12_redo_61 0 rfl rfl ?_
    refine g_I (pc := 62) kk54 fl_X12_145 dX12_redo_62 ?_
    exact e_iretW rfl dX12_redo_65
theorem cf_X12_redo (X : Xt) (w : Wd) : CF gWI X m_X12_redo 2 [.ref (xa X 54)] w (f_X12_redo w) := CF_of (by decide) (Nat.le_of_ble_eq_true rfl) (ce_X12_redo X w)
set_option maxRecDepth 100000 in
set_option maxHeartbeats 4000000 in
theorem ce_X12_isOne (X : Xt) (a1 : Int32) (a2 : Int32) (w : Wd) : E (gRI w) X m_X12_isOne 3 0 [(0, .ref (xa X 54)), (1, .int a1), (2, .int a2)] [] w (f_X12_isOne a1 a2 w) := by
  unfold f_X12_isOne
  refine e_iload_n (pc := 0) dX12_isOne_0 2 rfl rfl ?_
  refine e_iconst (pc := 1) (v := (0 : Int32)) dX12_isOne_1 ic_0 ?_
  refine e_iconst (pc := 2) (v := (4 : Int32)) dX12_isOne_2 ic_4 ?_
  refine e_callSRI (pc := 3) (As := [.int a2, .int (0 : Int32), .int (4 : Int32)]) (rest := []) (cf_X12_in X a2 (0 : Int32) (4 : Int32) w) lk_X12_124 (Nat.le_of_ble_eq_true rfl) (Nat.le_of_ble_eq_true rfl) rfl rfl (Nat.le_of_ble_eq_true rfl) dX12_isOne_3 (fun r1 => ?_)
  refine e_if_eq (pc := 6) (tgt := 14) dX12_isOne_6 (by decide) (fun _ => ?_) (fun _ => ?_)
  · refine e_iload_n (pc := 14) dX12_isOne_14 2 rfl rfl ?_
    refine e_iconst (pc := 15) (v := (5 : Int32)) dX12_isOne_15 ic_5 ?_
    refine e_bipush (pc := 16) (v := (6 : Int32)) dX12_isOne_16 bp_6 ?_
    refine e_callSRI (pc := 18) (As := [.int a2, .int (5 : Int32), .int (6 : Int32)]) (rest := []) (cf_X12_in X a2 (5 : Int32) (6 : Int32) w) lk_X12_124 (Nat.le_of_ble_eq_true rfl) (Nat.le_of_ble_eq_true rfl) rfl rfl (Nat.le_of_ble_eq_true rfl) dX12_isOne_18 (fun r2 => ?_)
    refine e_if_eq (pc := 21) (tgt := 32) dX12_isOne_21 (by decide) (fun _ => ?_) (fun _ => ?_)
    · refine e_iload_n (pc := 32) dX12_isOne_32 2 rfl rfl ?_
      refine e_bipush (pc := 33) (v := (7 : Int32)) dX12_isOne_33 bp_7 ?_
      refine e_bipush (pc := 35) (v := (11 : Int32)) dX12_isOne_35 bp_11 ?_
      refine e_callSRI (pc := 37) (As := [.int a2, .int (7 : Int32), .int (11 : Int32)]) (rest := []) (cf_X12_in X a2 (7 : Int32) (11 : Int32) w) lk_X12_124 (Nat.le_of_ble_eq_true rfl) (Nat.le_of_ble_eq_true rfl) rfl rfl (Nat.le_of_ble_eq_true rfl) dX12_isOne_37 (fun r3 => ?_)
      refine e_if_eq (pc := 40) (tgt := 51) dX12_isOne_40 (by decide) (fun _ => ?_) (fun _ => ?_)
      · refine e_iconst (pc := 51) (v := (0 : Int32)) dX12_isOne_51 ic_0 ?_
        exact e_zretR0 rfl (by decide) dX12_isOne_52
      · refine e_iload_n (pc := 43) dX12_isOne_43 1 rfl rfl ?_
        refine e_if_ne (pc := 44) (tgt := 51) dX12_isOne_44 (by decide) (fun _ => ?_) (fun _ => ?_)
        · refine e_iconst (pc := 47) (v := (1 : Int32)) dX12_isOne_47 ic_1 ?_
          refine e_goto (pc := 48) (tgt := 52) dX12_isOne_48 (by decide) ?_
          exact e_zretR0 rfl (by decide) dX12_isOne_52
        · refine e_iconst (pc := 51) (v := (0 : Int32)) dX12_isOne_51 ic_0 ?_
          exact e_zretR0 rfl (by decide) dX12_isOne_52
    · refine e_aload_n (pc := 24) dX12_isOne_24 0 rfl rfl ?_
      refine e_iload_n (pc := 25) dX12_isOne_25 1 rfl rfl ?_
      refine e_callVRI (pc := 26) (As := [.int a1]) (rest := []) kk54 Kc12 (cf_X12_isLooker X a1 w) lk_X12_158 (Nat.le_of_ble_eq_true rfl) (Nat.le_of_ble_eq_true rfl) rfl rfl (Nat.le_of_ble_eq_true rfl) dX12_isOne_26 (fun r4 => ?_)
      refine e_goto (pc := 29) (tgt := 52) dX12_isOne_29 (by decide) ?_
      exact e_zretR rfl dX12_isOne_52
  · refine e_iload_n (pc := 9) dX12_isOne_9 1 rfl rfl ?_
    refine e_callSRI (pc := 10) (As := [.int a1]) (rest := []) (cf_X12_isBag X a1 w) lk_X12_155 (Nat.le_of_ble_eq_true rfl) (Nat.le_of_ble_eq_true rfl) rfl rfl (Nat.le_of_ble_eq_true rfl) dX12_isOne_10 (fun r5 => ?_)
    exact e_zretR rfl dX12_isOne_13
theorem cf_X12_isOne (X : Xt) (a1 : Int32) (a2 : Int32) (w : Wd) : CF (gRI w) X m_X12_isOne 3 [.ref (xa X 54), .int a1, .int a2] w (f_X12_isOne a1 a2 w) := CF_of (by decide) (Nat.le_of_ble_eq_true rfl) (ce_X12_isOne X a1 a2 w)
set_option maxRecDepth 100000 in
set_option maxHeartbeats 4000000 in
theorem cb_X12_mayBe_b97 (X : Xt) (w : Wd) (x1 : Int32) : E (gRI w) X m_X12_mayBe 2 97 [(1, .int x1)] [] w (f_X12_mayBe_b97 x1) := by
  unfold f_X12_mayBe_b97
  refine e_iload_n (pc := 97) dX12_mayBe_97 0 rfl rfl ?_
  refine e_iconst (pc := 98) (v := (0 : Int32)) dX12_mayBe_98 ic_0 ?_
  refine e_bipush (pc := 99) (v := (9 : Int32)) dX12_mayBe_99 bp_9 ?_
  refine e_callSRI (pc := 101) (As := [.int x1, .int (0 : Int32), .int (9 : Int32)]) (rest := []) (cf_X12_in X x1 (0 : Int32) (9 : Int32) w) lk_X12_124 (Nat.le_of_ble_eq_true rfl) (Nat.le_of_ble_eq_true rfl) rfl rfl (Nat.le_of_ble_eq_true rfl) dX12_mayBe_101 (fun r7 => ?_)
  exact e_zretR rfl dX12_mayBe_104
set_option maxRecDepth 100000 in
set_option maxHeartbeats 4000000 in
theorem ce_X12_mayBe (X : Xt) (a0 : Int32) (a1 : Int32) (w : Wd) : E (gRI w) X m_X12_mayBe 2 0 [(0, .int a0), (1, .int a1)] [] w (f_X12_mayBe a0 a1) := by
  unfold f_X12_mayBe
  refine e_iload_n (pc := 0) dX12_mayBe_0 0 rfl rfl ?_
  refine e_ite (fun h1_4 => ?_) (fun h1_4 => ?_)
  · refine e_tabIn (pc := 1) (off := 47) (tgt := 48) dX12_mayBe_1 (by rw [h1_4]; decide) (by rw [h1_4]; decide) (by rw [h1_4]; decide) (by decide) ?_
    refine e_iload_n (pc := 48) dX12_mayBe_48 1 rfl rfl ?_
    refine e_iconst (pc := 49) (v := (0 : Int32)) dX12_mayBe_49 ic_0 ?_
    refine e_bipush (pc := 50) (v := (99 : Int32)) dX12_mayBe_50 bp_99 ?_
    refine e_callSRI (pc := 52) (As := [.int a1, .int (0 : Int32), .int (99 : Int32)]) (rest := []) (cf_X12_in X a1 (0 : Int32) (99 : Int32) w) lk_X12_124 (Nat.le_of_ble_eq_true rfl) (Nat.le_of_ble_eq_true rfl) rfl rfl (Nat.le_of_ble_eq_true rfl) dX12_mayBe_52 (fun r1 => ?_)
    exact e_zretR rfl dX12_mayBe_55
  · refine e_ite (fun h1_5 => ?_) (fun h1_5 => ?_)
    · refine e_tabIn (pc := 1) (off := 55) (tgt := 56) dX12_mayBe_1 (by rw [h1_5]; decide) (by rw [h1_5]; decide) (by rw [h1_5]; decide) (by decide) ?_
      refine e_iload_n (pc := 56) dX12_mayBe_56 1 rfl rfl ?_
      refine e_iconst (pc := 57) (v := (0 : Int32)) dX12_mayBe_57 ic_0 ?_
      refine e_bipush (pc := 58) (v := (12 : Int32)) dX12_mayBe_58 bp_12 ?_
      refine e_callSRI (pc := 60) (As := [.int a1, .int (0 : Int32), .int (12 : Int32)]) (rest := []) (cf_X12_in X a1 (0 : Int32) (12 : Int32) w) lk_X12_124 (Nat.le_of_ble_eq_true rfl) (Nat.le_of_ble_eq_true rfl) rfl rfl (Nat.le_of_ble_eq_true rfl) dX12_mayBe_60 (fun r2 => ?_)
      exact e_zretR rfl dX12_mayBe_63
    · refine e_ite (fun h1_6 => ?_) (fun h1_6 => ?_)
      · refine e_tabIn (pc := 1) (off := 63) (tgt := 64) dX12_mayBe_1 (by rw [h1_6]; decide) (by rw [h1_6]; decide) (by rw [h1_6]; decide) (by decide) ?_
        refine e_iload_n (pc := 64) dX12_mayBe_64 1 rfl rfl ?_
        refine e_iconst (pc := 65) (v := (0 : Int32)) dX12_mayBe_65 ic_0 ?_
        refine e_bipush (pc := 66) (v := (99 : Int32)) dX12_mayBe_66 bp_99 ?_
        refine e_callSRI (pc := 68) (As := [.int a1, .int (0 : Int32), .int (99 : Int32)]) (rest := []) (cf_X12_in X a1 (0 : Int32) (99 : Int32) w) lk_X12_124 (Nat.le_of_ble_eq_true rfl) (Nat.le_of_ble_eq_true rfl) rfl rfl (Nat.le_of_ble_eq_true rfl) dX12_mayBe_68 (fun r3 => ?_)
        exact e_zretR rfl dX12_mayBe_71
      · refine e_ite (fun h1_9 => ?_) (fun h1_9 => ?_)
        · refine e_tabIn (pc := 1) (off := 71) (tgt := 72) dX12_mayBe_1 (by rw [h1_9]; decide) (by rw [h1_9]; decide) (by rw [h1_9]; decide) (by decide) ?_
          refine e_iload_n (pc := 72) dX12_mayBe_72 1 rfl rfl ?_
          refine e_iconst (pc := 73) (v := (1 : Int32)) dX12_mayBe_73 ic_1 ?_
          refine e_bipush (pc := 74) (v := (9 : Int32)) dX12_mayBe_74 bp_9 ?_
          refine e_callSRI (pc := 76) (As := [.int a1, .int (1 : Int32), .int (9 : Int32)]) (rest := []) (cf_X12_in X a1 (1 : Int32) (9 : Int32) w) lk_X12_124 (Nat.le_of_ble_eq_true rfl) (Nat.le_of_ble_eq_true rfl) rfl rfl (Nat.le_of_ble_eq_true rfl) dX12_mayBe_76 (fun r4 => ?_)
          exact e_zretR rfl dX12_mayBe_79
        · refine e_ite (fun h1_10 => ?_) (fun h1_10 => ?_)
          · refine e_tabIn (pc := 1) (off := 79) (tgt := 80) dX12_mayBe_1 (by rw [h1_10]; decide) (by rw [h1_10]; decide) (by rw [h1_10]; decide) (by decide) ?_
            refine e_iload_n (pc := 80) dX12_mayBe_80 1 rfl rfl ?_
            refine e_iconst (pc := 81) (v := (0 : Int32)) dX12_mayBe_81 ic_0 ?_
            refine e_sipush (pc := 82) (v := (999 : Int32)) dX12_mayBe_82 sp_999 ?_
            refine e_callSRI (pc := 85) (As := [.int a1, .int (0 : Int32), .int (999 : Int32)]) (rest := []) (cf_X12_in X a1 (0 : Int32) (999 : Int32) w) lk_X12_124 (Nat.le_of_ble_eq_true rfl) (Nat.le_of_ble_eq_true rfl) rfl rfl (Nat.le_of_ble_eq_true rfl) dX12_mayBe_85 (fun r5 => ?_)
            exact e_zretR rfl dX12_mayBe_88
          · refine e_ite (fun h1_11 => ?_) (fun h1_11 => ?_)
            · refine e_tabIn (pc := 1) (off := 88) (tgt := 89) dX12_mayBe_1 (by rw [h1_11]; decide) (by rw [h1_11]; decide) (by rw [h1_11]; decide) (by decide) ?_
              refine e_iload_n (pc := 89) dX12_mayBe_89 1 rfl rfl ?_
              refine e_iconst (pc := 90) (v := (0 : Int32)) dX12_mayBe_90 ic_0 ?_
              refine e_bipush (pc := 91) (v := (12 : Int32)) dX12_mayBe_91 bp_12 ?_
              refine e_callSRI (pc := 93) (As := [.int a1, .int (0 : Int32), .int (12 : Int32)]) (rest := []) (cf_X12_in X a1 (0 : Int32) (12 : Int32) w) lk_X12_124 (Nat.le_of_ble_eq_true rfl) (Nat.le_of_ble_eq_true rfl) rfl rfl (Nat.le_of_ble_eq_true rfl) dX12_mayBe_93 (fun r6 => ?_)
              exact e_zretR rfl dX12_mayBe_96
            · by_cases q0 : (a0).toInt < 4 ∨ 11 < (a0).toInt
              · refine e_tabOut (pc := 1) (tgt := 97) dX12_mayBe_1 q0 (by decide) ?_
                refine e_lv [1] rfl ?_
                exact cb_X12_mayBe_b97 X w a1
              · by_cases q7 : a0 = (7 : Int32)
                · refine e_tabIn (pc := 1) (off := 96) (tgt := 97) dX12_mayBe_1 (by rw [q7]; decide) (by rw [q7]; decide) (by rw [q7]; decide) (by decide) ?_
                  refine e_lv [1] rfl ?_
                  exact cb_X12_mayBe_b97 X w a1
                · by_cases q8 : a0 = (8 : Int32)
                  · refine e_tabIn (pc := 1) (off := 96) (tgt := 97) dX12_mayBe_1 (by rw [q8]; decide) (by rw [q8]; decide) (by rw [q8]; decide) (by decide) ?_
                    refine e_lv [1] rfl ?_
                    exact cb_X12_mayBe_b97 X w a1
                  · have z4 := lv_neT h1_4 (show (4 : Int32).toInt = 4 by decide)
                    have z5 := lv_neT h1_5 (show (5 : Int32).toInt = 5 by decide)
                    have z6 := lv_neT h1_6 (show (6 : Int32).toInt = 6 by decide)
                    have z9 := lv_neT h1_9 (show (9 : Int32).toInt = 9 by decide)
                    have z10 := lv_neT h1_10 (show (10 : Int32).toInt = 10 by decide)
                    have z11 := lv_neT h1_11 (show (11 : Int32).toInt = 11 by decide)
                    have z7 := lv_neT q7 (show (7 : Int32).toInt = 7 by decide)
                    have z8 := lv_neT q8 (show (8 : Int32).toInt = 8 by decide)
                    exfalso
                    omega
theorem cf_X12_mayBe (X : Xt) (a0 : Int32) (a1 : Int32) (w : Wd) : CF (gRI w) X m_X12_mayBe 2 [.int a0, .int a1] w (f_X12_mayBe a0 a1) := CF_of (by decide) (Nat.le_of_ble_eq_true rfl) (ce_X12_mayBe X a0 a1 w)
set_option maxRecDepth 100000 in
set_option maxHeartbeats 4000000 in
theorem ce_X12_mend (X : Xt) (a1 : Int32) (a2 : Int32) (a3 : Int32) (w : Wd) : E gWI X m_X12_mend 4 0 [(0, .ref (xa X 54)), (1, .int a1), (2, .int a2), (3, .int a3)] [] w (f_X12_mend a1 a2 a3 w) := by
  unfold f_X12_mend
  refine e_aload_n (pc := 0) dX12_mend_0 0 rfl rfl ?_
  refine e_iload_n (pc := 1) dX12_mend_1 1 rfl rfl ?_
  refine e_iload_n (pc := 2) dX12_mend_2 2 rfl rfl ?_
  refine e_callVRI (pc := 3) (As := [.int a1, .int a2]) (rest := []) kk54 Kc12 (cf_X12_isOne X a1 a2 w) lk_X12_161 (Nat.le_of_ble_eq_true rfl) (Nat.le_of_ble_eq_true rfl) rfl rfl (Nat.le_of_ble_eq_true rfl) dX12_mend_3 (fun r1 => ?_)
  refine e_if_eq (pc := 6) (tgt := 27) dX12_mend_6 (by decide) (fun _ => ?_) (fun _ => ?_)
  · refine e_iconst (pc := 27) (v := (-1 : Int32)) dX12_mend_27 ic_m1 ?_
    exact e_iretW rfl dX12_mend_28
  · refine e_iload_n (pc := 9) dX12_mend_9 2 rfl rfl ?_
    refine e_iload_n (pc := 10) dX12_mend_10 3 rfl rfl ?_
    refine e_callSRI (pc := 11) (As := [.int a2, .int a3]) (rest := []) (cf_X12_mayBe X a2 a3 w) lk_X12_165 (Nat.le_of_ble_eq_true rfl) (Nat.le_of_ble_eq_true rfl) rfl rfl (Nat.le_of_ble_eq_true rfl) dX12_mend_11 (fun r2 => ?_)
    refine e_if_eq (pc := 14) (tgt := 27) dX12_mend_14 (by decide) (fun _ => ?_) (fun _ => ?_)
    · refine e_iconst (pc := 27) (v := (-1 : Int32)) dX12_mend_27 ic_m1 ?_
      exact e_iretW rfl dX12_mend_28
    · refine e_aload_n (pc := 17) dX12_mend_17 0 rfl rfl ?_
      refine e_iload_n (pc := 18) dX12_mend_18 2 rfl rfl ?_
      refine e_iload_n (pc := 19) dX12_mend_19 1 rfl rfl ?_
      refine e_iload_n (pc := 20) dX12_mend_20 3 rfl rfl ?_
      refine e_callVWI (pc := 21) (As := [.int a2, .int a1, .int a3]) (rest := []) kk54 Kc12 (cf_X12_changes X a2 a1 a3 w) lk_X12_168 (Nat.le_of_ble_eq_true rfl) (Nat.le_of_ble_eq_true rfl) rfl rfl (Nat.le_of_ble_eq_true rfl) dX12_mend_21 (fun r3 w4 => ?_)
      refine e_goto (pc := 24) (tgt := 28) dX12_mend_24 (by decide) ?_
      exact e_iretW rfl dX12_mend_28
theorem cf_X12_mend (X : Xt) (a1 : Int32) (a2 : Int32) (a3 : Int32) (w : Wd) : CF gWI X m_X12_mend 4 [.ref (xa X 54), .int a1, .int a2, .int a3] w (f_X12_mend a1 a2 a3 w) := CF_of (by decide) (Nat.le_of_ble_eq_true rfl) (ce_X12_mend X a1 a2 a3 w)
set_option maxRecDepth 100000 in
set_option maxHeartbeats 4000000 in
theorem ce_X12_of (X : Xt) (a1 : Int32) (a2 : Int32) (w : Wd) : E (gRI w) X m_X12_of 4 0 [(0, .ref (xa X 54)), (1, .int a1), (2, .int a2)] [] w (f_X12_of a1 a2 w) := by
  unfold f_X12_of
  refine e_aload_n (pc := 0) dX12_of_0 0 rfl rfl ?_
  refine e_iload_n (pc := 1) dX12_of_1 1 rfl rfl ?_
  refine e_iload_n (pc := 2) dX12_of_2 2 rfl rfl ?_
  refine e_callVRI (pc := 3) (As := [.int a1, .int a2]) (rest := []) kk54 Kc12 (cf_X12_isOne X a1 a2 w) lk_X12_161 (Nat.le_of_ble_eq_true rfl) (Nat.le_of_ble_eq_true rfl) rfl rfl (Nat.le_of_ble_eq_true rfl) dX12_of_3 (fun r1 => ?_)
  refine e_if_eq (pc := 6) (tgt := 18) dX12_of_6 (by decide) (fun _ => ?_) (fun _ => ?_)
  · refine e_iconst (pc := 18) (v := (-1 : Int32)) dX12_of_18 ic_m1 ?_
    exact e_iretR rfl dX12_of_19
  · refine e_aload_n (pc := 9) dX12_of_9 0 rfl rfl ?_
    refine e_iload_n (pc := 10) dX12_of_10 2 rfl rfl ?_
    refine e_iload_n (pc := 11) dX12_of_11 1 rfl rfl ?_
    refine e_callVRI (pc := 12) (As := [.int a2, .int a1]) (rest := []) kk54 Kc12 (cf_X12_valueAt X a2 a1 w) lk_X12_142 (Nat.le_of_ble_eq_true rfl) (Nat.le_of_ble_eq_true rfl) rfl rfl (Nat.le_of_ble_eq_true rfl) dX12_of_12 (fun r2 => ?_)
    refine e_goto (pc := 15) (tgt := 19) dX12_of_15 (by decide) ?_
    exact e_iretR rfl dX12_of_19
theorem cf_X12_of (X : Xt) (a1 : Int32) (a2 : Int32) (w : Wd) : CF (gRI w) X m_X12_of 4 [.ref (xa X 54), .int a1, .int a2] w (f_X12_of a1 a2 w) := CF_of (by decide) (Nat.le_of_ble_eq_true rfl) (ce_X12_of X a1 a2 w)
set_option maxRecDepth 100000 in
set_option maxHeartbeats 4000000 in
theorem ce_X12_feed (X : Xt) (a1 : Int32) (w : Wd) : E gWI X m_X12_feed 2 0 [(0, .ref (xa X 54)), (1, .int a1)] [] w (f_X12_feed a1 w) := by
  unfold f_X12_feed
  refine e_iload_n (pc := 0) dX12_feed_0 1 rfl rfl ?_
  refine e_iconst (pc := 1) (v := (0 : Int32)) dX12_feed_1 ic_0 ?_
  refine e_sipush (pc := 2) (v := (255 : Int32)) dX12_feed_2 sp_255 ?_
  refine e_callSRI (pc := 5) (As := [.int a1, .int (0 : Int32), .int (255 : Int32)]) (rest := []) (cf_X12_in X a1 (0 : Int32) (255 : Int32) w) lk_X12_124 (Nat.le_of_ble_eq_true rfl) (Nat.le_of_ble_eq_true rfl) rfl rfl (Nat.le_of_ble_eq_true rfl) dX12_feed_5 (fun r1 => ?_)
  refine e_if_ne (pc := 8) (tgt := 13) dX12_feed_8 (by decide) (fun _ => ?_) (fun _ => ?_)
  · refine e_iconst (pc := 11) (v := (-1 : Int32)) dX12_feed_11 ic_m1 ?_
    exact e_iretW rfl dX12_feed_12
  · refine e_aload_n (pc := 13) dX12_feed_13 0 rfl rfl ?_
    refine g_I (pc := 14) kk54 fl_X12_172 dX12_feed_14 ?_
    refine e_bipush (pc := 17) (v := (120 : Int32)) dX12_feed_17 bp_120 ?_
    refine e_icmp_ne (pc := 19) (tgt := 25) dX12_feed_19 (by decide) (fun _ => ?_) (fun _ => ?_)
    · refine e_bipush (pc := 22) (v := (-3 : Int32)) dX12_feed_22 bp_m3 ?_
      exact e_iretW rfl dX12_feed_24
    · refine e_aload_n (pc := 25) dX12_feed_25 0 rfl rfl ?_
      refine g_R (pc := 26) (cl' := 63) kk54 fl_X12_49 rfl dX12_feed_26 ?_
      refine e_aload_n (pc := 29) dX12_feed_29 0 rfl rfl ?_
      refine g_I (pc := 30) kk54 fl_X12_172 dX12_feed_30 ?_
      refine e_iload_n (pc := 33) dX12_feed_33 1 rfl rfl ?_
      refine e_i2b (pc := 34) dX12_feed_34 ?_
      refine e_bast (pc := 35) kk63 dX12_feed_35 (fun w2 => ?_)
      refine e_aload_n (pc := 36) dX12_feed_36 0 rfl rfl ?_
      refine e_dup (pc := 37) dX12_feed_37 rfl ?_
      refine g_I (pc := 38) kk54 fl_X12_172 dX12_feed_38 ?_
      refine e_iconst (pc := 41) (v := (1 : Int32)) dX12_feed_41 ic_1 ?_
      refine e_iadd (pc := 42) dX12_feed_42 ?_
      refine p_I (pc := 43) kk54 fp_X12_172 dX12_feed_43 (fun w3 => ?_)
      refine e_aload_n (pc := 46) dX12_feed_46 0 rfl rfl ?_
      refine g_I (pc := 47) kk54 fl_X12_172 dX12_feed_47 ?_
      exact e_iretW rfl dX12_feed_50
theorem cf_X12_feed (X : Xt) (a1 : Int32) (w : Wd) : CF gWI X m_X12_feed 2 [.ref (xa X 54), .int a1] w (f_X12_feed a1 w) := CF_of (by decide) (Nat.le_of_ble_eq_true rfl) (ce_X12_feed X a1 w)
set_option maxRecDepth 100000 in
set_option maxHeartbeats 4000000 in
theorem ce_X12_looksOn (X : Xt) (w : Wd) : E (gRI w) X m_X12_looksOn 1 0 [(0, .ref (xa X 54))] [] w (f_X12_looksOn w) := by
  unfold f_X12_looksOn
  refine e_aload_n (pc := 0) dX12_looksOn_0 0 rfl rfl ?_
  refine g_I (pc := 1) kk54 fl_X12_175 dX12_looksOn_1 ?_
  refine e_aload_n (pc := 4) dX12_looksOn_4 0 rfl rfl ?_
  refine g_I (pc := 5) kk54 fl_X12_172 dX12_looksOn_5 ?_
  refine e_icmp_ge (pc := 8) (tgt := 23) dX12_looksOn_8 (by decide) (fun _ => ?_) (fun _ => ?_)
  · refine e_iconst (pc := 23) (v := (-1 : Int32)) dX12_looksOn_23 ic_m1 ?_
    exact e_iretR rfl dX12_looksOn_24
  · refine e_aload_n (pc := 11) dX12_looksOn_11 0 rfl rfl ?_
    refine g_R (pc := 12) (cl' := 63) kk54 fl_X12_49 rfl dX12_looksOn_12 ?_
    refine e_aload_n (pc := 15) dX12_looksOn_15 0 rfl rfl ?_
    refine g_I (pc := 16) kk54 fl_X12_175 dX12_looksOn_16 ?_
    refine e_bald (pc := 19) kk63 dX12_looksOn_19 (fun v1 => ?_)
    refine e_goto (pc := 20) (tgt := 24) dX12_looksOn_20 (by decide) ?_
    exact e_iretR rfl dX12_looksOn_24
theorem cf_X12_looksOn (X : Xt) (w : Wd) : CF (gRI w) X m_X12_looksOn 1 [.ref (xa X 54)] w (f_X12_looksOn w) := CF_of (by decide) (Nat.le_of_ble_eq_true rfl) (ce_X12_looksOn X w)
set_option maxRecDepth 100000 in
set_option maxHeartbeats 4000000 in
theorem ce_X12_faulty (X : Xt) (w : Wd) : E gWV X m_X12_faulty 1 0 [(0, .ref (xa X 54))] [] w (f_X12_faulty w) := by
  unfold f_X12_faulty
  refine e_aload_n (pc := 0) dX12_faulty_0 0 rfl rfl ?_
  refine g_I (pc := 1) kk54 fl_X12_178 dX12_faulty_1 ?_
  refine e_if_ge (pc := 4) (tgt := 15) dX12_faulty_4 (by decide) (fun _ => ?_) (fun _ => ?_)
  · exact e_vret rfl dX12_faulty_15
  · refine e_aload_n (pc := 7) dX12_faulty_7 0 rfl rfl ?_
    refine e_aload_n (pc := 8) dX12_faulty_8 0 rfl rfl ?_
    refine g_I (pc := 9) kk54 fl_X12_175 dX12_faulty_9 ?_
    refine p_I (pc := 12) kk54 fp_X12_178 dX12_faulty_12 (fun w1 => ?_)
    exact e_vret rfl dX12_faulty_15
theorem cf_X12_faulty (X : Xt) (w : Wd) : CF gWV X m_X12_faulty 1 [.ref (xa X 54)] w (f_X12_faulty w) := CF_of (by decide) (Nat.le_of_ble_eq_true rfl) (ce_X12_faulty X w)
set_option maxRecDepth 100000 in
set_option maxHeartbeats 4000000 in
theorem ce_X12_addStep (X : Xt) (a1 : Int32) (a2 : Int32) (w : Wd) : E gWV X m_X12_addStep 1 0 [(0, .ref (xa X 54)), (1, .int a1), (2, .int a2)] [] w (f_X12_addStep a1 a2 w) := by
  unfold f_X12_addStep
  refine e_aload_n (pc := 0) dX12_addStep_0 0 rfl rfl ?_
  refine g_R (pc := 1) (cl' := 64) kk54 fl_X12_53 rfl dX12_addStep_1 ?_
  refine e_sipush (pc := 4) (v := (130 : Int32)) dX12_addStep_4 sp_130 ?_
  refine e_aload_n (pc := 7) dX12_addStep_7 0 rfl rfl ?_
  refine g_I (pc := 8) kk54 fl_X12_181 dX12_addStep_8 ?_
  refine e_iadd (pc := 11) dX12_addStep_11 ?_
  refine e_iload_n (pc := 12) dX12_addStep_12 1 rfl rfl ?_
  refine e_i2b (pc := 13) dX12_addStep_13 ?_
  refine e_bast (pc := 14) kk64 dX12_addStep_14 (fun w1 => ?_)
  refine e_aload_n (pc := 15) dX12_addStep_15 0 rfl rfl ?_
  refine g_R (pc := 16) (cl' := 65) kk54 fl_X12_56 rfl dX12_addStep_16 ?_
  refine e_sipush (pc := 19) (v := (130 : Int32)) dX12_addStep_19 sp_130 ?_
  refine e_aload_n (pc := 22) dX12_addStep_22 0 rfl rfl ?_
  refine g_I (pc := 23) kk54 fl_X12_181 dX12_addStep_23 ?_
  refine e_iadd (pc := 26) dX12_addStep_26 ?_
  refine e_iload_n (pc := 27) dX12_addStep_27 2 rfl rfl ?_
  refine e_iast (pc := 28) kk65 dX12_addStep_28 (fun w2 => ?_)
  refine e_aload_n (pc := 29) dX12_addStep_29 0 rfl rfl ?_
  refine e_dup (pc := 30) dX12_addStep_30 rfl ?_
  refine g_I (pc := 31) kk54 fl_X12_181 dX12_addStep_31 ?_
  refine e_iconst (pc := 34) (v := (1 : Int32)) dX12_addStep_34 ic_1 ?_
  refine e_iadd (pc := 35) dX12_addStep_35 ?_
  refine p_I (pc := 36) kk54 fp_X12_181 dX12_addStep_36 (fun w3 => ?_)
  exact e_vret rfl dX12_addStep_39
theorem cf_X12_addStep (X : Xt) (a1 : Int32) (a2 : Int32) (w : Wd) : CF gWV X m_X12_addStep 1 [.ref (xa X 54), .int a1, .int a2] w (f_X12_addStep a1 a2 w) := CF_of (by decide) (Nat.le_of_ble_eq_true rfl) (ce_X12_addStep X a1 a2 w)
set_option maxRecDepth 100000 in
set_option maxHeartbeats 4000000 in
theorem ce_X12_nameOf (X : Xt) (a0 : Int32) (w : Wd) : E (gRI w) X m_X12_nameOf 1 0 [(0, .int a0)] [] w (f_X12_nameOf a0) := by
  unfold f_X12_nameOf
  refine e_iload_n (pc := 0) dX12_nameOf_0 0 rfl rfl ?_
  refine e_ite (fun h1_104 => ?_) (fun h1_104 => ?_)
  · refine e_tabIn (pc := 1) (off := 73) (tgt := 74) dX12_nameOf_1 (by rw [h1_104]; decide) (by rw [h1_104]; decide) (by rw [h1_104]; decide) (by decide) ?_
    refine e_iconst (pc := 74) (v := (3 : Int32)) dX12_nameOf_74 ic_3 ?_
    exact e_iretR rfl dX12_nameOf_75
  · refine e_ite (fun h1_107 => ?_) (fun h1_107 => ?_)
    · refine e_tabIn (pc := 1) (off := 77) (tgt := 78) dX12_nameOf_1 (by rw [h1_107]; decide) (by rw [h1_107]; decide) (by rw [h1_107]; decide) (by decide) ?_
      refine e_iconst (pc := 78) (v := (5 : Int32)) dX12_nameOf_78 ic_5 ?_
      exact e_iretR rfl dX12_nameOf_79
    · refine e_ite (fun h1_108 => ?_) (fun h1_108 => ?_)
      · refine e_tabIn (pc := 1) (off := 71) (tgt := 72) dX12_nameOf_1 (by rw [h1_108]; decide) (by rw [h1_108]; decide) (by rw [h1_108]; decide) (by decide) ?_
        refine e_iconst (pc := 72) (v := (2 : Int32)) dX12_nameOf_72 ic_2 ?_
        exact e_iretR rfl dX12_nameOf_73
      · refine e_ite (fun h1_110 => ?_) (fun h1_110 => ?_)
        · refine e_tabIn (pc := 1) (off := 75) (tgt := 76) dX12_nameOf_1 (by rw [h1_110]; decide) (by rw [h1_110]; decide) (by rw [h1_110]; decide) (by decide) ?_
          refine e_iconst (pc := 76) (v := (4 : Int32)) dX12_nameOf_76 ic_4 ?_
          exact e_iretR rfl dX12_nameOf_77
        · refine e_ite (fun h1_115 => ?_) (fun h1_115 => ?_)
          · refine e_tabIn (pc := 1) (off := 67) (tgt := 68) dX12_nameOf_1 (by rw [h1_115]; decide) (by rw [h1_115]; decide) (by rw [h1_115]; decide) (by decide) ?_
            refine e_iconst (pc := 68) (v := (0 : Int32)) dX12_nameOf_68 ic_0 ?_
            exact e_iretR rfl dX12_nameOf_69
          · refine e_ite (fun h1_116 => ?_) (fun h1_116 => ?_)
            · refine e_tabIn (pc := 1) (off := 69) (tgt := 70) dX12_nameOf_1 (by rw [h1_116]; decide) (by rw [h1_116]; decide) (by rw [h1_116]; decide) (by decide) ?_
              refine e_iconst (pc := 70) (v := (1 : Int32)) dX12_nameOf_70 ic_1 ?_
              exact e_iretR rfl dX12_nameOf_71
            · by_cases q0 : (a0).toInt < 104 ∨ 116 < (a0).toInt
              · refine e_tabOut (pc := 1) (tgt := 80) dX12_nameOf_1 q0 (by decide) ?_
                refine e_iconst (pc := 80) (v := (-1 : Int32)) dX12_nameOf_80 ic_m1 ?_
                exact e_iretR rfl dX12_nameOf_81
              · by_cases q105 : a0 = (105 : Int32)
                · refine e_tabIn (pc := 1) (off := 79) (tgt := 80) dX12_nameOf_1 (by rw [q105]; decide) (by rw [q105]; decide) (by rw [q105]; decide) (by decide) ?_
                  refine e_iconst (pc := 80) (v := (-1 : Int32)) dX12_nameOf_80 ic_m1 ?_
                  exact e_iretR rfl dX12_nameOf_81
                · by_cases q106 : a0 = (106 : Int32)
                  · refine e_tabIn (pc := 1) (off := 79) (tgt := 80) dX12_nameOf_1 (by rw [q106]; decide) (by rw [q106]; decide) (by rw [q106]; decide) (by decide) ?_
                    refine e_iconst (pc := 80) (v := (-1 : Int32)) dX12_nameOf_80 ic_m1 ?_
                    exact e_iretR rfl dX12_nameOf_81
                  · by_cases q109 : a0 = (109 : Int32)
                    · refine e_tabIn (pc := 1) (off := 79) (tgt := 80) dX12_nameOf_1 (by rw [q109]; decide) (by rw [q109]; decide) (by rw [q109]; decide) (by decide) ?_
                      refine e_iconst (pc := 80) (v := (-1 : Int32)) dX12_nameOf_80 ic_m1 ?_
                      exact e_iretR rfl dX12_nameOf_81
                    · by_cases q111 : a0 = (111 : Int32)
                      · refine e_tabIn (pc := 1) (off := 79) (tgt := 80) dX12_nameOf_1 (by rw [q111]; decide) (by rw [q111]; decide) (by rw [q111]; decide) (by decide) ?_
                        refine e_iconst (pc := 80) (v := (-1 : Int32)) dX12_nameOf_80 ic_m1 ?_
                        exact e_iretR rfl dX12_nameOf_81
                      · by_cases q112 : a0 = (112 : Int32)
                        · refine e_tabIn (pc := 1) (off := 79) (tgt := 80) dX12_nameOf_1 (by rw [q112]; decide) (by rw [q112]; decide) (by rw [q112]; decide) (by decide) ?_
                          refine e_iconst (pc := 80) (v := (-1 : Int32)) dX12_nameOf_80 ic_m1 ?_
                          exact e_iretR rfl dX12_nameOf_81
                        · by_cases q113 : a0 = (113 : Int32)
                          · refine e_tabIn (pc := 1) (off := 79) (tgt := 80) dX12_nameOf_1 (by rw [q113]; decide) (by rw [q113]; decide) (by rw [q113]; decide) (by decide) ?_
                            refine e_iconst (pc := 80) (v := (-1 : Int32)) dX12_nameOf_80 ic_m1 ?_
                            exact e_iretR rfl dX12_nameOf_81
                          · by_cases q114 : a0 = (114 : Int32)
                            · refine e_tabIn (pc := 1) (off := 79) (tgt := 80) dX12_nameOf_1 (by rw [q114]; decide) (by rw [q114]; decide) (by rw [q114]; decide) (by decide) ?_
                              refine e_iconst (pc := 80) (v := (-1 : Int32)) dX12_nameOf_80 ic_m1 ?_
                              exact e_iretR rfl dX12_nameOf_81
                            · have z104 := lv_neT h1_104 (show (104 : Int32).toInt = 104 by decide)
                              have z107 := lv_neT h1_107 (show (107 : Int32).toInt = 107 by decide)
                              have z108 := lv_neT h1_108 (show (108 : Int32).toInt = 108 by decide)
                              have z110 := lv_neT h1_110 (show (110 : Int32).toInt = 110 by decide)
                              have z115 := lv_neT h1_115 (show (115 : Int32).toInt = 115 by decide)
                              have z116 := lv_neT h1_116 (show (116 : Int32).toInt = 116 by decide)
                              have z105 := lv_neT q105 (show (105 : Int32).toInt = 105 by decide)
                              have z106 := lv_neT q106 (show (106 : Int32).toInt = 106 by decide)
                              have z109 := lv_neT q109 (show (109 : Int32).toInt = 109 by decide)
                              have z111 := lv_neT q111 (show (111 : Int32).toInt = 111 by decide)
                              have z112 := lv_neT q112 (show (112 : Int32).toInt = 112 by decide)
                              have z113 := lv_neT q113 (show (113 : Int32).toInt = 113 by decide)
                              have z114 := lv_neT q114 (show (114 : Int32).toInt = 114 by decide)
                              exfalso
                              omega
theorem cf_X12_nameOf (X : Xt) (a0 : Int32) (w : Wd) : CF (gRI w) X m_X12_nameOf 1 [.int a0] w (f_X12_nameOf a0) := CF_of (by decide) (Nat.le_of_ble_eq_true rfl) (ce_X12_nameOf X a0 w)
set_option maxRecDepth 100000 in
set_option maxHeartbeats 4000000 in
theorem ce_X12_opens (X : Xt) (w : Wd) : E gWI X m_X12_opens 2 0 [(0, .ref (xa X 54))] [] w (f_X12_opens w) := by
  unfold f_X12_opens
  refine e_aload_n (pc := 0) dX12_opens_0 0 rfl rfl ?_
  refine g_I (pc := 1) kk54 fl_X12_184 dX12_opens_1 ?_
  refine e_bipush (pc := 4) (v := (6 : Int32)) dX12_opens_4 bp_6 ?_
  refine e_icmp_ne (pc := 6) (tgt := 15) dX12_opens_6 (by decide) (fun _ => ?_) (fun _ => ?_)
  · refine e_aload_n (pc := 9) dX12_opens_9 0 rfl rfl ?_
    refine e_callVWV (pc := 10) (As := []) (rest := []) kk54 Kc12 (cf_X12_faulty X w) lk_X12_187 (Nat.le_of_ble_eq_true rfl) (Nat.le_of_ble_eq_true rfl) rfl rfl (Nat.le_of_ble_eq_true rfl) dX12_opens_10 (fun w3 => ?_)
    refine e_iconst (pc := 13) (v := (0 : Int32)) dX12_opens_13 ic_0 ?_
    exact e_zretW0 rfl (by decide) dX12_opens_14
  · refine e_aload_n (pc := 15) dX12_opens_15 0 rfl rfl ?_
    refine e_dup (pc := 16) dX12_opens_16 rfl ?_
    refine g_I (pc := 17) kk54 fl_X12_184 dX12_opens_17 ?_
    refine e_iconst (pc := 20) (v := (1 : Int32)) dX12_opens_20 ic_1 ?_
    refine e_iadd (pc := 21) dX12_opens_21 ?_
    refine p_I (pc := 22) kk54 fp_X12_184 dX12_opens_22 (fun w1 => ?_)
    refine e_aload_n (pc := 25) dX12_opens_25 0 rfl rfl ?_
    refine e_dup (pc := 26) dX12_opens_26 rfl ?_
    refine g_I (pc := 27) kk54 fl_X12_175 dX12_opens_27 ?_
    refine e_iconst (pc := 30) (v := (1 : Int32)) dX12_opens_30 ic_1 ?_
    refine e_iadd (pc := 31) dX12_opens_31 ?_
    refine p_I (pc := 32) kk54 fp_X12_175 dX12_opens_32 (fun w2 => ?_)
    refine e_iconst (pc := 35) (v := (1 : Int32)) dX12_opens_35 ic_1 ?_
    exact e_zretW0 rfl (by decide) dX12_opens_36
theorem cf_X12_opens (X : Xt) (w : Wd) : CF gWI X m_X12_opens 2 [.ref (xa X 54)] w (f_X12_opens w) := CF_of (by decide) (Nat.le_of_ble_eq_true rfl) (ce_X12_opens X w)
set_option maxRecDepth 100000 in
set_option maxHeartbeats 4000000 in
theorem cb_X12_figure_b74 (X : Xt) (x1 : Int32) (w : Wd) : E gWV X m_X12_figure 2 74 [(0, .ref (xa X 54)), (1, .int x1)] [] w (f_X12_figure_b74 x1 w) := by
  unfold f_X12_figure_b74
  refine e_aload_n (pc := 74) dX12_figure_74 0 rfl rfl ?_
  refine e_iconst (pc := 75) (v := (1 : Int32)) dX12_figure_75 ic_1 ?_
  refine e_iload_n (pc := 76) dX12_figure_76 1 rfl rfl ?_
  refine e_callVWV (pc := 77) (As := [.int (1 : Int32), .int x1]) (rest := []) kk54 Kc12 (cf_X12_addStep X (1 : Int32) x1 w) lk_X12_194 (Nat.le_of_ble_eq_true rfl) (Nat.le_of_ble_eq_true rfl) rfl rfl (Nat.le_of_ble_eq_true rfl) dX12_figure_77 (fun w2 => ?_)
  exact e_vret rfl dX12_figure_80
set_option maxRecDepth 100000 in
set_option maxHeartbeats 4000000 in
theorem cb_X12_figure_b70 (X : Xt) (x1 : Int32) (w : Wd) : E gWV X m_X12_figure 2 70 [(0, .ref (xa X 54)), (1, .int x1)] [] w (f_X12_figure_b70 x1 w) := by
  unfold f_X12_figure_b70
  refine e_aload_n (pc := 70) dX12_figure_70 0 rfl rfl ?_
  refine e_callVWV (pc := 71) (As := []) (rest := []) kk54 Kc12 (cf_X12_faulty X w) lk_X12_187 (Nat.le_of_ble_eq_true rfl) (Nat.le_of_ble_eq_true rfl) rfl rfl (Nat.le_of_ble_eq_true rfl) dX12_figure_71 (fun w1 => ?_)
  refine e_lv [0, 1] rfl ?_
  exact cb_X12_figure_b74 X x1 w1
set_option maxRecDepth 100000 in
set_option maxHeartbeats 4000000 in
theorem cb_X12_figure_b52 (X : Xt) (x1 : Int32) (x2 : Int32) (w : Wd) : E gWV X m_X12_figure 2 52 [(0, .ref (xa X 54)), (1, .int x1), (2, .int x2)] [] w (f_X12_figure_b52 x1 x2 w) := by
  unfold f_X12_figure_b52
  refine e_iload_n (pc := 52) dX12_figure_52 2 rfl rfl ?_
  refine e_if_eq (pc := 53) (tgt := 70) dX12_figure_53 (by decide) (fun _ => ?_) (fun _ => ?_)
  · refine e_lv [0, 1] rfl ?_
    exact cb_X12_figure_b70 X x1 w
  · refine e_aload_n (pc := 56) dX12_figure_56 0 rfl rfl ?_
    refine e_callVRI (pc := 57) (As := []) (rest := []) kk54 Kc12 (cf_X12_looksOn X w) lk_X12_190 (Nat.le_of_ble_eq_true rfl) (Nat.le_of_ble_eq_true rfl) rfl rfl (Nat.le_of_ble_eq_true rfl) dX12_figure_57 (fun r3 => ?_)
    refine e_bipush (pc := 60) (v := (48 : Int32)) dX12_figure_60 bp_48 ?_
    refine e_bipush (pc := 62) (v := (57 : Int32)) dX12_figure_62 bp_57 ?_
    refine e_callSRI (pc := 64) (As := [.int r3, .int (48 : Int32), .int (57 : Int32)]) (rest := []) (cf_X12_in X r3 (48 : Int32) (57 : Int32) w) lk_X12_124 (Nat.le_of_ble_eq_true rfl) (Nat.le_of_ble_eq_true rfl) rfl rfl (Nat.le_of_ble_eq_true rfl) dX12_figure_64 (fun r4 => ?_)
    refine e_if_eq (pc := 67) (tgt := 74) dX12_figure_67 (by decide) (fun _ => ?_) (fun _ => ?_)
    · refine e_lv [0, 1] rfl ?_
      exact cb_X12_figure_b74 X x1 w
    · refine e_lv [0, 1] rfl ?_
      exact cb_X12_figure_b70 X x1 w
set_option maxRecDepth 100000 in
set_option maxHeartbeats 4000000 in
theorem cb_X12_figure_b4_y (X : Xt) (k4 : Int32 → Int32 → Wd → Option Wd) (hk4 : ∀ (x1 : Int32) (x2 : Int32)  (w : Wd), E gWV X m_X12_figure 2 4 [(0, .ref (xa X 54)), (1, .int x1), (2, .int x2)] [] w (k4 x1 x2 w)) (x1 : Int32) (x2 : Int32) (w : Wd) : E gWV X m_X12_figure 2 4 [(0, .ref (xa X 54)), (1, .int x1), (2, .int x2)] [] w (f_X12_figure_b4_y k4 x1 x2 w) := by
  unfold f_X12_figure_b4_y
  refine e_iload_n (pc := 4) dX12_figure_4 2 rfl rfl ?_
  refine e_iconst (pc := 5) (v := (4 : Int32)) dX12_figure_5 ic_4 ?_
  refine e_icmp_ge (pc := 6) (tgt := 52) dX12_figure_6 (by decide) (fun _ => ?_) (fun _ => ?_)
  · refine e_lv [0, 1, 2] rfl ?_
    exact cb_X12_figure_b52 X x1 x2 w
  · refine e_aload_n (pc := 9) dX12_figure_9 0 rfl rfl ?_
    refine e_callVRI (pc := 10) (As := []) (rest := []) kk54 Kc12 (cf_X12_looksOn X w) lk_X12_190 (Nat.le_of_ble_eq_true rfl) (Nat.le_of_ble_eq_true rfl) rfl rfl (Nat.le_of_ble_eq_true rfl) dX12_figure_10 (fun r5 => ?_)
    refine e_bipush (pc := 13) (v := (48 : Int32)) dX12_figure_13 bp_48 ?_
    refine e_bipush (pc := 15) (v := (57 : Int32)) dX12_figure_15 bp_57 ?_
    refine e_callSRI (pc := 17) (As := [.int r5, .int (48 : Int32), .int (57 : Int32)]) (rest := []) (cf_X12_in X r5 (48 : Int32) (57 : Int32) w) lk_X12_124 (Nat.le_of_ble_eq_true rfl) (Nat.le_of_ble_eq_true rfl) rfl rfl (Nat.le_of_ble_eq_true rfl) dX12_figure_17 (fun r6 => ?_)
    refine e_if_eq (pc := 20) (tgt := 52) dX12_figure_20 (by decide) (fun _ => ?_) (fun _ => ?_)
    · refine e_lv [0, 1, 2] rfl ?_
      exact cb_X12_figure_b52 X x1 x2 w
    · refine e_bipush (pc := 23) (v := (10 : Int32)) dX12_figure_23 bp_10 ?_
      refine e_iload_n (pc := 25) dX12_figure_25 1 rfl rfl ?_
      refine e_imul (pc := 26) dX12_figure_26 ?_
      refine e_aload_n (pc := 27) dX12_figure_27 0 rfl rfl ?_
      refine e_callVRI (pc := 28) (As := []) (rest := [.int ((10 : Int32) * x1)]) kk54 Kc12 (cf_X12_looksOn X w) lk_X12_190 (Nat.le_of_ble_eq_true rfl) (Nat.le_of_ble_eq_true rfl) rfl rfl (Nat.le_of_ble_eq_true rfl) dX12_figure_28 (fun r7 => ?_)
      refine e_iadd (pc := 31) dX12_figure_31 ?_
      refine e_bipush (pc := 32) (v := (48 : Int32)) dX12_figure_32 bp_48 ?_
      refine e_isub (pc := 34) dX12_figure_34 ?_
      refine e_nameI (fun y8 => ?_)
      refine e_istore_n (pc := 35) (lv' := [(1, .int y8), (0, .ref (xa X 54)), (2, .int x2)]) dX12_figure_35 rfl (Nat.le_of_ble_eq_true rfl) rfl ?_
      refine e_iinc (pc := 36) (lv' := [(2, .int (x2 + (1 : Int32))), (1, .int y8), (0, .ref (xa X 54))]) dX12_figure_36 2 rfl (ii_1 _) (Nat.le_of_ble_eq_true rfl) rfl ?_
      refine e_aload_n (pc := 39) dX12_figure_39 2 rfl rfl ?_
      refine e_dup (pc := 40) dX12_figure_40 rfl ?_
      refine g_I (pc := 41) kk54 fl_X12_175 dX12_figure_41 ?_
      refine e_iconst (pc := 44) (v := (1 : Int32)) dX12_figure_44 ic_1 ?_
      refine e_iadd (pc := 45) dX12_figure_45 ?_
      refine p_I (pc := 46) kk54 fp_X12_175 dX12_figure_46 (fun w9 => ?_)
      refine e_goto (pc := 49) (tgt := 4) dX12_figure_49 (by decide) ?_
      refine e_lv [2, 1, 0] rfl ?_
      exact hk4 y8 (x2 + (1 : Int32)) w9
theorem cb_X12_figure_b4 (X : Xt) : ∀ (n : Nat) (x1 : Int32) (x2 : Int32) (w : Wd), E gWV X m_X12_figure 2 4 [(0, .ref (xa X 54)), (1, .int x1), (2, .int x2)] [] w (f_X12_figure_b4 n x1 x2 w) := by
  intro n
  induction n with
  | zero =>
    intro x1 x2 w
    exact E_none
  | succ n ih =>
    intro x1 x2 w
    exact cb_X12_figure_b4_y X _ ih x1 x2 w
set_option maxRecDepth 100000 in
set_option maxHeartbeats 4000000 in
theorem ce_X12_figure (X : Xt) (w : Wd) : E gWV X m_X12_figure 2 0 [(0, .ref (xa X 54))] [] w (f_X12_figure w) := by
  unfold f_X12_figure
  refine e_iconst (pc := 0) (v := (0 : Int32)) dX12_figure_0 ic_0 ?_
  refine e_istore_n (pc := 1) (lv' := [(1, .int (0 : Int32)), (0, .ref (xa X 54))]) dX12_figure_1 rfl (Nat.le_of_ble_eq_true rfl) rfl ?_
  refine e_iconst (pc := 2) (v := (0 : Int32)) dX12_figure_2 ic_0 ?_
  refine e_istore_n (pc := 3) (lv' := [(2, .int (0 : Int32)), (1, .int (0 : Int32)), (0, .ref (xa X 54))]) dX12_figure_3 rfl (Nat.le_of_ble_eq_true rfl) rfl ?_
  refine e_lv [2, 1, 0] rfl ?_
  exact cb_X12_figure_b4 X fu (0 : Int32) (0 : Int32) w
theorem cf_X12_figure (X : Xt) (w : Wd) : CF gWV X m_X12_figure 2 [.ref (xa X 54)] w (f_X12_figure w) := CF_of (by decide) (Nat.le_of_ble_eq_true rfl) (ce_X12_figure X w)
set_option maxRecDepth 100000 in
set_option maxHeartbeats 4000000 in
theorem cb_X12_operand_b80 (X : Xt) {dd : Nat} (hb : 3 ≤ dd) (r_X12_operand : Wd → Option Wd) (hr_X12_operand : ∀  (w : Wd), CF gWV X m_X12_operand dd [.ref (xa X 54)] w (r_X12_operand w)) (r_X12_product : Wd → Option Wd) (hr_X12_product : ∀  (w : Wd), CF gWV X m_X12_product dd [.ref (xa X 54)] w (r_X12_product w)) (r_X12_sum : Wd → Option Wd) (hr_X12_sum : ∀  (w : Wd), CF gWV X m_X12_sum dd [.ref (xa X 54)] w (r_X12_sum w)) (r_X12_compared : Wd → Option Wd) (hr_X12_compared : ∀  (w : Wd), CF gWV X m_X12_compared dd [.ref (xa X 54)] w (r_X12_compared w)) (r_X12_both : Wd → Option Wd) (hr_X12_both : ∀  (w : Wd), CF gWV X m_X12_both dd [.ref (xa X 54)] w (r_X12_both w)) (r_X12_either : Wd → Option Wd) (hr_X12_either : ∀  (w : Wd), CF gWV X m_X12_either dd [.ref (xa X 54)] w (r_X12_either w)) (s0 : Int32) (w : Wd) : E gWV X m_X12_operand (dd + 1) 80 [] [.int s0, .ref (xa X 54)] w (f_X12_operand_b80 r_X12_operand r_X12_product r_X12_sum r_X12_compared r_X12_both r_X12_either s0 w) := by
  unfold f_X12_operand_b80
  refine e_iconst (pc := 80) (v := (0 : Int32)) dX12_operand_80 ic_0 ?_
  refine e_callVWV (pc := 81) (As := [.int s0, .int (0 : Int32)]) (rest := []) kk54 Kc12 (cf_X12_addStep X s0 (0 : Int32) w) lk_X12_194 (by omega) (Nat.le_of_ble_eq_true rfl) rfl rfl (Nat.le_of_ble_eq_true rfl) dX12_operand_81 (fun w7 => ?_)
  refine e_goto (pc := 84) (tgt := 154) dX12_operand_84 (by decide) ?_
  exact e_vret rfl dX12_operand_154
set_option maxRecDepth 100000 in
set_option maxHeartbeats 4000000 in
theorem cb_X12_operand_b46 (X : Xt) {dd : Nat} (hb : 3 ≤ dd) (r_X12_operand : Wd → Option Wd) (hr_X12_operand : ∀  (w : Wd), CF gWV X m_X12_operand dd [.ref (xa X 54)] w (r_X12_operand w)) (r_X12_product : Wd → Option Wd) (hr_X12_product : ∀  (w : Wd), CF gWV X m_X12_product dd [.ref (xa X 54)] w (r_X12_product w)) (r_X12_sum : Wd → Option Wd) (hr_X12_sum : ∀  (w : Wd), CF gWV X m_X12_sum dd [.ref (xa X 54)] w (r_X12_sum w)) (r_X12_compared : Wd → Option Wd) (hr_X12_compared : ∀  (w : Wd), CF gWV X m_X12_compared dd [.ref (xa X 54)] w (r_X12_compared w)) (r_X12_both : Wd → Option Wd) (hr_X12_both : ∀  (w : Wd), CF gWV X m_X12_both dd [.ref (xa X 54)] w (r_X12_both w)) (r_X12_either : Wd → Option Wd) (hr_X12_either : ∀  (w : Wd), CF gWV X m_X12_either dd [.ref (xa X 54)] w (r_X12_either w)) (x1 : Int32) (w : Wd) : E gWV X m_X12_operand (dd + 1) 46 [(0, .ref (xa X 54)), (1, .int x1)] [] w (f_X12_operand_b46 r_X12_operand r_X12_product r_X12_sum r_X12_compared r_X12_both r_X12_either x1 w) := by
  unfold f_X12_operand_b46
  refine e_aload_n (pc := 46) dX12_operand_46 0 rfl rfl ?_
  refine e_callVWI (pc := 47) (As := []) (rest := []) kk54 Kc12 (cf_X12_opens X w) lk_X12_202 (by omega) (Nat.le_of_ble_eq_true rfl) rfl rfl (Nat.le_of_ble_eq_true rfl) dX12_operand_47 (fun r3 w4 => ?_)
  refine e_if_ne (pc := 50) (tgt := 54) dX12_operand_50 (by decide) (fun _ => ?_) (fun _ => ?_)
  · exact e_vret rfl dX12_operand_53
  · refine e_aload_n (pc := 54) dX12_operand_54 0 rfl rfl ?_
    refine e_callVWV (pc := 55) (As := []) (rest := []) kk54 Kc12 (hr_X12_operand w4) lk_X12_206 (Nat.le_refl _) (Nat.le_of_ble_eq_true rfl) rfl rfl (Nat.le_of_ble_eq_true rfl) dX12_operand_55 (fun w5 => ?_)
    refine e_aload_n (pc := 58) dX12_operand_58 0 rfl rfl ?_
    refine e_dup (pc := 59) dX12_operand_59 rfl ?_
    refine g_I (pc := 60) kk54 fl_X12_184 dX12_operand_60 ?_
    refine e_iconst (pc := 63) (v := (1 : Int32)) dX12_operand_63 ic_1 ?_
    refine e_isub (pc := 64) dX12_operand_64 ?_
    refine p_I (pc := 65) kk54 fp_X12_184 dX12_operand_65 (fun w6 => ?_)
    refine e_aload_n (pc := 68) dX12_operand_68 0 rfl rfl ?_
    refine e_iload_n (pc := 69) dX12_operand_69 1 rfl rfl ?_
    refine e_bipush (pc := 70) (v := (33 : Int32)) dX12_operand_70 bp_33 ?_
    refine e_icmp_ne (pc := 72) (tgt := 79) dX12_operand_72 (by decide) (fun _ => ?_) (fun _ => ?_)
    · refine e_iconst (pc := 75) (v := (3 : Int32)) dX12_operand_75 ic_3 ?_
      refine e_goto (pc := 76) (tgt := 80) dX12_operand_76 (by decide) ?_
      refine e_lv [] rfl ?_
      exact cb_X12_operand_b80 X hb r_X12_operand hr_X12_operand r_X12_product hr_X12_product r_X12_sum hr_X12_sum r_X12_compared hr_X12_compared r_X12_both hr_X12_both r_X12_either hr_X12_either (3 : Int32) w6
    · refine e_iconst (pc := 79) (v := (4 : Int32)) dX12_operand_79 ic_4 ?_
      refine e_lv [] rfl ?_
      exact cb_X12_operand_b80 X hb r_X12_operand hr_X12_operand r_X12_product hr_X12_product r_X12_sum hr_X12_sum r_X12_compared hr_X12_compared r_X12_both hr_X12_both r_X12_either hr_X12_either (4 : Int32) w6
set_option maxRecDepth 100000 in
set_option maxHeartbeats 4000000 in
theorem ce_X12_operand (X : Xt) {dd : Nat} (hb : 3 ≤ dd) (r_X12_operand : Wd → Option Wd) (hr_X12_operand : ∀  (w : Wd), CF gWV X m_X12_operand dd [.ref (xa X 54)] w (r_X12_operand w)) (r_X12_product : Wd → Option Wd) (hr_X12_product : ∀  (w : Wd), CF gWV X m_X12_product dd [.ref (xa X 54)] w (r_X12_product w)) (r_X12_sum : Wd → Option Wd) (hr_X12_sum : ∀  (w : Wd), CF gWV X m_X12_sum dd [.ref (xa X 54)] w (r_X12_sum w)) (r_X12_compared : Wd → Option Wd) (hr_X12_compared : ∀  (w : Wd), CF gWV X m_X12_compared dd [.ref (xa X 54)] w (r_X12_compared w)) (r_X12_both : Wd → Option Wd) (hr_X12_both : ∀  (w : Wd), CF gWV X m_X12_both dd [.ref (xa X 54)] w (r_X12_both w)) (r_X12_either : Wd → Option Wd) (hr_X12_either : ∀  (w : Wd), CF gWV X m_X12_either dd [.ref (xa X 54)] w (r_X12_either w)) (w : Wd) : E gWV X m_X12_operand (dd + 1) 0 [(0, .ref (xa X 54))] [] w (f_X12_operand_y r_X12_operand r_X12_product r_X12_sum r_X12_compared r_X12_both r_X12_either w) := by
  unfold f_X12_operand_y
  refine e_aload_n (pc := 0) dX12_operand_0 0 rfl rfl ?_
  refine e_callVRI (pc := 1) (As := []) (rest := []) kk54 Kc12 (cf_X12_looksOn X w) lk_X12_190 (by omega) (Nat.le_of_ble_eq_true rfl) rfl rfl (Nat.le_of_ble_eq_true rfl) dX12_operand_1 (fun r1 => ?_)
  refine e_istore_n (pc := 4) (lv' := [(1, .int r1), (0, .ref (xa X 54))]) dX12_operand_4 rfl (Nat.le_of_ble_eq_true rfl) rfl ?_
  refine e_iload_n (pc := 5) dX12_operand_5 0 rfl rfl ?_
  refine e_callSRI (pc := 6) (As := [.int r1]) (rest := []) (cf_X12_nameOf X r1 w) lk_X12_198 (by omega) (Nat.le_of_ble_eq_true rfl) rfl rfl (Nat.le_of_ble_eq_true rfl) dX12_operand_6 (fun r2 => ?_)
  refine e_if_lt (pc := 9) (tgt := 34) dX12_operand_9 (by decide) (fun _ => ?_) (fun _ => ?_)
  · refine e_iload_n (pc := 34) dX12_operand_34 0 rfl rfl ?_
    refine e_bipush (pc := 35) (v := (33 : Int32)) dX12_operand_35 bp_33 ?_
    refine e_icmp_eq (pc := 37) (tgt := 46) dX12_operand_37 (by decide) (fun _ => ?_) (fun _ => ?_)
    · refine e_lv [1, 0] rfl ?_
      exact cb_X12_operand_b46 X hb r_X12_operand hr_X12_operand r_X12_product hr_X12_product r_X12_sum hr_X12_sum r_X12_compared hr_X12_compared r_X12_both hr_X12_both r_X12_either hr_X12_either r1 w
    · refine e_iload_n (pc := 40) dX12_operand_40 0 rfl rfl ?_
      refine e_bipush (pc := 41) (v := (45 : Int32)) dX12_operand_41 bp_45 ?_
      refine e_icmp_ne (pc := 43) (tgt := 87) dX12_operand_43 (by decide) (fun _ => ?_) (fun _ => ?_)
      · refine e_lv [1, 0] rfl ?_
        exact cb_X12_operand_b46 X hb r_X12_operand hr_X12_operand r_X12_product hr_X12_product r_X12_sum hr_X12_sum r_X12_compared hr_X12_compared r_X12_both hr_X12_both r_X12_either hr_X12_either r1 w
      · refine e_iload_n (pc := 87) dX12_operand_87 0 rfl rfl ?_
        refine e_bipush (pc := 88) (v := (40 : Int32)) dX12_operand_88 bp_40 ?_
        refine e_icmp_ne (pc := 90) (tgt := 150) dX12_operand_90 (by decide) (fun _ => ?_) (fun _ => ?_)
        · refine e_aload_n (pc := 93) dX12_operand_93 1 rfl rfl ?_
          refine e_callVWI (pc := 94) (As := []) (rest := []) kk54 Kc12 (cf_X12_opens X w) lk_X12_202 (by omega) (Nat.le_of_ble_eq_true rfl) rfl rfl (Nat.le_of_ble_eq_true rfl) dX12_operand_94 (fun r9 w10 => ?_)
          refine e_if_ne (pc := 97) (tgt := 101) dX12_operand_97 (by decide) (fun _ => ?_) (fun _ => ?_)
          · exact e_vret rfl dX12_operand_100
          · refine e_aload_n (pc := 101) dX12_operand_101 1 rfl rfl ?_
            refine e_callVWV (pc := 102) (As := []) (rest := []) kk54 Kc12 (hr_X12_either w10) lk_X12_209 (Nat.le_refl _) (Nat.le_of_ble_eq_true rfl) rfl rfl (Nat.le_of_ble_eq_true rfl) dX12_operand_102 (fun w11 => ?_)
            refine e_aload_n (pc := 105) dX12_operand_105 1 rfl rfl ?_
            refine g_I (pc := 106) kk54 fl_X12_178 dX12_operand_106 ?_
            refine e_if_lt (pc := 109) (tgt := 113) dX12_operand_109 (by decide) (fun _ => ?_) (fun _ => ?_)
            · refine e_aload_n (pc := 113) dX12_operand_113 1 rfl rfl ?_
              refine e_callVRI (pc := 114) (As := []) (rest := []) kk54 Kc12 (cf_X12_looksOn X w11) lk_X12_190 (by omega) (Nat.le_of_ble_eq_true rfl) rfl rfl (Nat.le_of_ble_eq_true rfl) dX12_operand_114 (fun r12 => ?_)
              refine e_bipush (pc := 117) (v := (41 : Int32)) dX12_operand_117 bp_41 ?_
              refine e_icmp_eq (pc := 119) (tgt := 127) dX12_operand_119 (by decide) (fun _ => ?_) (fun _ => ?_)
              · refine e_aload_n (pc := 127) dX12_operand_127 1 rfl rfl ?_
                refine e_dup (pc := 128) dX12_operand_128 rfl ?_
                refine g_I (pc := 129) kk54 fl_X12_175 dX12_operand_129 ?_
                refine e_iconst (pc := 132) (v := (1 : Int32)) dX12_operand_132 ic_1 ?_
                refine e_iadd (pc := 133) dX12_operand_133 ?_
                refine p_I (pc := 134) kk54 fp_X12_175 dX12_operand_134 (fun w13 => ?_)
                refine e_aload_n (pc := 137) dX12_operand_137 1 rfl rfl ?_
                refine e_dup (pc := 138) dX12_operand_138 rfl ?_
                refine g_I (pc := 139) kk54 fl_X12_184 dX12_operand_139 ?_
                refine e_iconst (pc := 142) (v := (1 : Int32)) dX12_operand_142 ic_1 ?_
                refine e_isub (pc := 143) dX12_operand_143 ?_
                refine p_I (pc := 144) kk54 fp_X12_184 dX12_operand_144 (fun w14 => ?_)
                refine e_goto (pc := 147) (tgt := 154) dX12_operand_147 (by decide) ?_
                exact e_vret rfl dX12_operand_154
              · refine e_aload_n (pc := 122) dX12_operand_122 1 rfl rfl ?_
                refine e_callVWV (pc := 123) (As := []) (rest := []) kk54 Kc12 (cf_X12_faulty X w11) lk_X12_187 (by omega) (Nat.le_of_ble_eq_true rfl) rfl rfl (Nat.le_of_ble_eq_true rfl) dX12_operand_123 (fun w15 => ?_)
                exact e_vret rfl dX12_operand_126
            · exact e_vret rfl dX12_operand_112
        · refine e_aload_n (pc := 150) dX12_operand_150 1 rfl rfl ?_
          refine e_callVWV (pc := 151) (As := []) (rest := []) kk54 Kc12 (cf_X12_figure X w) lk_X12_212 (by omega) (Nat.le_of_ble_eq_true rfl) rfl rfl (Nat.le_of_ble_eq_true rfl) dX12_operand_151 (fun w8 => ?_)
          exact e_vret rfl dX12_operand_154
  · refine e_aload_n (pc := 12) dX12_operand_12 1 rfl rfl ?_
    refine e_iconst (pc := 13) (v := (2 : Int32)) dX12_operand_13 ic_2 ?_
    refine e_iload_n (pc := 14) dX12_operand_14 0 rfl rfl ?_
    refine e_callSRI (pc := 15) (As := [.int r1]) (rest := [.int (2 : Int32), .ref (xa X 54)]) (cf_X12_nameOf X r1 w) lk_X12_198 (by omega) (Nat.le_of_ble_eq_true rfl) rfl rfl (Nat.le_of_ble_eq_true rfl) dX12_operand_15 (fun r16 => ?_)
    refine e_callVWV (pc := 18) (As := [.int (2 : Int32), .int r16]) (rest := []) kk54 Kc12 (cf_X12_addStep X (2 : Int32) r16 w) lk_X12_194 (by omega) (Nat.le_of_ble_eq_true rfl) rfl rfl (Nat.le_of_ble_eq_true rfl) dX12_operand_18 (fun w17 => ?_)
    refine e_aload_n (pc := 21) dX12_operand_21 1 rfl rfl ?_
    refine e_dup (pc := 22) dX12_operand_22 rfl ?_
    refine g_I (pc := 23) kk54 fl_X12_175 dX12_operand_23 ?_
    refine e_iconst (pc := 26) (v := (1 : Int32)) dX12_operand_26 ic_1 ?_
    refine e_iadd (pc := 27) dX12_operand_27 ?_
    refine p_I (pc := 28) kk54 fp_X12_175 dX12_operand_28 (fun w18 => ?_)
    refine e_goto (pc := 31) (tgt := 154) dX12_operand_31 (by decide) ?_
    exact e_vret rfl dX12_operand_154
set_option maxRecDepth 100000 in
set_option maxHeartbeats 4000000 in
theorem cb_X12_product_b38 (X : Xt) {dd : Nat} (hb : 3 ≤ dd) (r_X12_operand : Wd → Option Wd) (hr_X12_operand : ∀  (w : Wd), CF gWV X m_X12_operand dd [.ref (xa X 54)] w (r_X12_operand w)) (r_X12_product : Wd → Option Wd) (hr_X12_product : ∀  (w : Wd), CF gWV X m_X12_product dd [.ref (xa X 54)] w (r_X12_product w)) (r_X12_sum : Wd → Option Wd) (hr_X12_sum : ∀  (w : Wd), CF gWV X m_X12_sum dd [.ref (xa X 54)] w (r_X12_sum w)) (r_X12_compared : Wd → Option Wd) (hr_X12_compared : ∀  (w : Wd), CF gWV X m_X12_compared dd [.ref (xa X 54)] w (r_X12_compared w)) (r_X12_both : Wd → Option Wd) (hr_X12_both : ∀  (w : Wd), CF gWV X m_X12_both dd [.ref (xa X 54)] w (r_X12_both w)) (r_X12_either : Wd → Option Wd) (hr_X12_either : ∀  (w : Wd), CF gWV X m_X12_either dd [.ref (xa X 54)] w (r_X12_either w)) (k4 : Wd → Option Wd) (hk4 : ∀ (w : Wd), E gWV X m_X12_product (dd + 1) 4 [(0, .ref (xa X 54))] [] w (k4 w)) (w : Wd) : E gWV X m_X12_product (dd + 1) 38 [(0, .ref (xa X 54))] [] w (f_X12_product_b38 r_X12_operand r_X12_product r_X12_sum r_X12_compared r_X12_both r_X12_either k4 w) := by
  unfold f_X12_product_b38
  refine e_aload_n (pc := 38) dX12_product_38 0 rfl rfl ?_
  refine e_callVRI (pc := 39) (As := []) (rest := []) kk54 Kc12 (cf_X12_looksOn X w) lk_X12_190 (by omega) (Nat.le_of_ble_eq_true rfl) rfl rfl (Nat.le_of_ble_eq_true rfl) dX12_product_39 (fun r3 => ?_)
  refine e_istore_n (pc := 42) (lv' := [(1, .int r3), (0, .ref (xa X 54))]) dX12_product_42 rfl (Nat.le_of_ble_eq_true rfl) rfl ?_
  refine e_aload_n (pc := 43) dX12_product_43 1 rfl rfl ?_
  refine e_dup (pc := 44) dX12_product_44 rfl ?_
  refine g_I (pc := 45) kk54 fl_X12_175 dX12_product_45 ?_
  refine e_iconst (pc := 48) (v := (1 : Int32)) dX12_product_48 ic_1 ?_
  refine e_iadd (pc := 49) dX12_product_49 ?_
  refine p_I (pc := 50) kk54 fp_X12_175 dX12_product_50 (fun w4 => ?_)
  refine e_aload_n (pc := 53) dX12_product_53 1 rfl rfl ?_
  refine e_callVWV (pc := 54) (As := []) (rest := []) kk54 Kc12 (hr_X12_operand w4) lk_X12_206 (Nat.le_refl _) (Nat.le_of_ble_eq_true rfl) rfl rfl (Nat.le_of_ble_eq_true rfl) dX12_product_54 (fun w5 => ?_)
  refine e_aload_n (pc := 57) dX12_product_57 1 rfl rfl ?_
  refine e_iload_n (pc := 58) dX12_product_58 0 rfl rfl ?_
  refine e_iconst (pc := 59) (v := (0 : Int32)) dX12_product_59 ic_0 ?_
  refine e_callVWV (pc := 60) (As := [.int r3, .int (0 : Int32)]) (rest := []) kk54 Kc12 (cf_X12_addStep X r3 (0 : Int32) w5) lk_X12_194 (by omega) (Nat.le_of_ble_eq_true rfl) rfl rfl (Nat.le_of_ble_eq_true rfl) dX12_product_60 (fun w6 => ?_)
  refine e_goto (pc := 63) (tgt := 4) dX12_product_63 (by decide) ?_
  refine e_lv [1] rfl ?_
  exact hk4 w6
set_option maxRecDepth 100000 in
set_option maxHeartbeats 4000000 in
theorem cb_X12_product_b4_y (X : Xt) {dd : Nat} (hb : 3 ≤ dd) (r_X12_operand : Wd → Option Wd) (hr_X12_operand : ∀  (w : Wd), CF gWV X m_X12_operand dd [.ref (xa X 54)] w (r_X12_operand w)) (r_X12_product : Wd → Option Wd) (hr_X12_product : ∀  (w : Wd), CF gWV X m_X12_product dd [.ref (xa X 54)] w (r_X12_product w)) (r_X12_sum : Wd → Option Wd) (hr_X12_sum : ∀  (w : Wd), CF gWV X m_X12_sum dd [.ref (xa X 54)] w (r_X12_sum w)) (r_X12_compared : Wd → Option Wd) (hr_X12_compared : ∀  (w : Wd), CF gWV X m_X12_compared dd [.ref (xa X 54)] w (r_X12_compared w)) (r_X12_both : Wd → Option Wd) (hr_X12_both : ∀  (w : Wd), CF gWV X m_X12_both dd [.ref (xa X 54)] w (r_X12_both w)) (r_X12_either : Wd → Option Wd) (hr_X12_either : ∀  (w : Wd), CF gWV X m_X12_either dd [.ref (xa X 54)] w (r_X12_either w)) (k4 : Wd → Option Wd) (hk4 : ∀ (w : Wd), E gWV X m_X12_product (dd + 1) 4 [(0, .ref (xa X 54))] [] w (k4 w)) (w : Wd) : E gWV X m_X12_product (dd + 1) 4 [(0, .ref (xa X 54))] [] w (f_X12_product_b4_y r_X12_operand r_X12_product r_X12_sum r_X12_compared r_X12_both r_X12_either k4 w) := by
  unfold f_X12_product_b4_y
  refine e_aload_n (pc := 4) dX12_product_4 0 rfl rfl ?_
  refine g_I (pc := 5) kk54 fl_X12_178 dX12_product_5 ?_
  refine e_if_ge (pc := 8) (tgt := 66) dX12_product_8 (by decide) (fun _ => ?_) (fun _ => ?_)
  · exact e_vret rfl dX12_product_66
  · refine e_aload_n (pc := 11) dX12_product_11 0 rfl rfl ?_
    refine e_callVRI (pc := 12) (As := []) (rest := []) kk54 Kc12 (cf_X12_looksOn X w) lk_X12_190 (by omega) (Nat.le_of_ble_eq_true rfl) rfl rfl (Nat.le_of_ble_eq_true rfl) dX12_product_12 (fun r2 => ?_)
    refine e_bipush (pc := 15) (v := (42 : Int32)) dX12_product_15 bp_42 ?_
    refine e_icmp_eq (pc := 17) (tgt := 38) dX12_product_17 (by decide) (fun _ => ?_) (fun _ => ?_)
    · refine e_lv [0] rfl ?_
      exact cb_X12_product_b38 X hb r_X12_operand hr_X12_operand r_X12_product hr_X12_product r_X12_sum hr_X12_sum r_X12_compared hr_X12_compared r_X12_both hr_X12_both r_X12_either hr_X12_either k4 hk4 w
    · refine e_aload_n (pc := 20) dX12_product_20 0 rfl rfl ?_
      refine e_callVRI (pc := 21) (As := []) (rest := []) kk54 Kc12 (cf_X12_looksOn X w) lk_X12_190 (by omega) (Nat.le_of_ble_eq_true rfl) rfl rfl (Nat.le_of_ble_eq_true rfl) dX12_product_21 (fun r7 => ?_)
      refine e_bipush (pc := 24) (v := (47 : Int32)) dX12_product_24 bp_47 ?_
      refine e_icmp_eq (pc := 26) (tgt := 38) dX12_product_26 (by decide) (fun _ => ?_) (fun _ => ?_)
      · refine e_lv [0] rfl ?_
        exact cb_X12_product_b38 X hb r_X12_operand hr_X12_operand r_X12_product hr_X12_product r_X12_sum hr_X12_sum r_X12_compared hr_X12_compared r_X12_both hr_X12_both r_X12_either hr_X12_either k4 hk4 w
      · refine e_aload_n (pc := 29) dX12_product_29 0 rfl rfl ?_
        refine e_callVRI (pc := 30) (As := []) (rest := []) kk54 Kc12 (cf_X12_looksOn X w) lk_X12_190 (by omega) (Nat.le_of_ble_eq_true rfl) rfl rfl (Nat.le_of_ble_eq_true rfl) dX12_product_30 (fun r8 => ?_)
        refine e_bipush (pc := 33) (v := (37 : Int32)) dX12_product_33 bp_37 ?_
        refine e_icmp_ne (pc := 35) (tgt := 66) dX12_product_35 (by decide) (fun _ => ?_) (fun _ => ?_)
        · refine e_lv [0] rfl ?_
          exact cb_X12_product_b38 X hb r_X12_operand hr_X12_operand r_X12_product hr_X12_product r_X12_sum hr_X12_sum r_X12_compared hr_X12_compared r_X12_both hr_X12_both r_X12_either hr_X12_either k4 hk4 w
        · exact e_vret rfl dX12_product_66
theorem cb_X12_product_b4 (X : Xt) {dd : Nat} (hb : 3 ≤ dd) (r_X12_operand : Wd → Option Wd) (hr_X12_operand : ∀  (w : Wd), CF gWV X m_X12_operand dd [.ref (xa X 54)] w (r_X12_operand w)) (r_X12_product : Wd → Option Wd) (hr_X12_product : ∀  (w : Wd), CF gWV X m_X12_product dd [.ref (xa X 54)] w (r_X12_product w)) (r_X12_sum : Wd → Option Wd) (hr_X12_sum : ∀  (w : Wd), CF gWV X m_X12_sum dd [.ref (xa X 54)] w (r_X12_sum w)) (r_X12_compared : Wd → Option Wd) (hr_X12_compared : ∀  (w : Wd), CF gWV X m_X12_compared dd [.ref (xa X 54)] w (r_X12_compared w)) (r_X12_both : Wd → Option Wd) (hr_X12_both : ∀  (w : Wd), CF gWV X m_X12_both dd [.ref (xa X 54)] w (r_X12_both w)) (r_X12_either : Wd → Option Wd) (hr_X12_either : ∀  (w : Wd), CF gWV X m_X12_either dd [.ref (xa X 54)] w (r_X12_either w)) : ∀ (n : Nat) (w : Wd), E gWV X m_X12_product (dd + 1) 4 [(0, .ref (xa X 54))] [] w (f_X12_product_b4 r_X12_operand r_X12_product r_X12_sum r_X12_compared r_X12_both r_X12_either n w) := by
  intro n
  induction n with
  | zero =>
    intro w
    exact E_none
  | succ n ih =>
    intro w
    exact cb_X12_product_b4_y X hb r_X12_operand hr_X12_operand r_X12_product hr_X12_product r_X12_sum hr_X12_sum r_X12_compared hr_X12_compared r_X12_both hr_X12_both r_X12_either hr_X12_either _ ih w
set_option maxRecDepth 100000 in
set_option maxHeartbeats 4000000 in
theorem ce_X12_product (X : Xt) {dd : Nat} (hb : 3 ≤ dd) (r_X12_operand : Wd → Option Wd) (hr_X12_operand : ∀  (w : Wd), CF gWV X m_X12_operand dd [.ref (xa X 54)] w (r_X12_operand w)) (r_X12_product : Wd → Option Wd) (hr_X12_product : ∀  (w : Wd), CF gWV X m_X12_product dd [.ref (xa X 54)] w (r_X12_product w)) (r_X12_sum : Wd → Option Wd) (hr_X12_sum : ∀  (w : Wd), CF gWV X m_X12_sum dd [.ref (xa X 54)] w (r_X12_sum w)) (r_X12_compared : Wd → Option Wd) (hr_X12_compared : ∀  (w : Wd), CF gWV X m_X12_compared dd [.ref (xa X 54)] w (r_X12_compared w)) (r_X12_both : Wd → Option Wd) (hr_X12_both : ∀  (w : Wd), CF gWV X m_X12_both dd [.ref (xa X 54)] w (r_X12_both w)) (r_X12_either : Wd → Option Wd) (hr_X12_either : ∀  (w : Wd), CF gWV X m_X12_either dd [.ref (xa X 54)] w (r_X12_either w)) (w : Wd) : E gWV X m_X12_product (dd + 1) 0 [(0, .ref (xa X 54))] [] w (f_X12_product_y r_X12_operand r_X12_product r_X12_sum r_X12_compared r_X12_both r_X12_either w) := by
  unfold f_X12_product_y
  refine e_aload_n (pc := 0) dX12_product_0 0 rfl rfl ?_
  refine e_callVWV (pc := 1) (As := []) (rest := []) kk54 Kc12 (hr_X12_operand w) lk_X12_206 (Nat.le_refl _) (Nat.le_of_ble_eq_true rfl) rfl rfl (Nat.le_of_ble_eq_true rfl) dX12_product_1 (fun w1 => ?_)
  refine e_lv [0] rfl ?_
  exact cb_X12_product_b4 X hb r_X12_operand hr_X12_operand r_X12_product hr_X12_product r_X12_sum hr_X12_sum r_X12_compared hr_X12_compared r_X12_both hr_X12_both r_X12_either hr_X12_either fu w1
set_option maxRecDepth 100000 in
set_option maxHeartbeats 4000000 in
theorem cb_X12_sum_b29 (X : Xt) {dd : Nat} (hb : 3 ≤ dd) (r_X12_operand : Wd → Option Wd) (hr_X12_operand : ∀  (w : Wd), CF gWV X m_X12_operand dd [.ref (xa X 54)] w (r_X12_operand w)) (r_X12_product : Wd → Option Wd) (hr_X12_product : ∀  (w : Wd), CF gWV X m_X12_product dd [.ref (xa X 54)] w (r_X12_product w)) (r_X12_sum : Wd → Option Wd) (hr_X12_sum : ∀  (w : Wd), CF gWV X m_X12_sum dd [.ref (xa X 54)] w (r_X12_sum w)) (r_X12_compared : Wd → Option Wd) (hr_X12_compared : ∀  (w : Wd), CF gWV X m_X12_compared dd [.ref (xa X 54)] w (r_X12_compared w)) (r_X12_both : Wd → Option Wd) (hr_X12_both : ∀  (w : Wd), CF gWV X m_X12_both dd [.ref (xa X 54)] w (r_X12_both w)) (r_X12_either : Wd → Option Wd) (hr_X12_either : ∀  (w : Wd), CF gWV X m_X12_either dd [.ref (xa X 54)] w (r_X12_either w)) (k4 : Wd → Option Wd) (hk4 : ∀ (w : Wd), E gWV X m_X12_sum (dd + 1) 4 [(0, .ref (xa X 54))] [] w (k4 w)) (w : Wd) : E gWV X m_X12_sum (dd + 1) 29 [(0, .ref (xa X 54))] [] w (f_X12_sum_b29 r_X12_operand r_X12_product r_X12_sum r_X12_compared r_X12_both r_X12_either k4 w) := by
  unfold f_X12_sum_b29
  refine e_aload_n (pc := 29) dX12_sum_29 0 rfl rfl ?_
  refine e_callVRI (pc := 30) (As := []) (rest := []) kk54 Kc12 (cf_X12_looksOn X w) lk_X12_190 (by omega) (Nat.le_of_ble_eq_true rfl) rfl rfl (Nat.le_of_ble_eq_true rfl) dX12_sum_30 (fun r3 => ?_)
  refine e_istore_n (pc := 33) (lv' := [(1, .int r3), (0, .ref (xa X 54))]) dX12_sum_33 rfl (Nat.le_of_ble_eq_true rfl) rfl ?_
  refine e_aload_n (pc := 34) dX12_sum_34 1 rfl rfl ?_
  refine e_dup (pc := 35) dX12_sum_35 rfl ?_
  refine g_I (pc := 36) kk54 fl_X12_175 dX12_sum_36 ?_
  refine e_iconst (pc := 39) (v := (1 : Int32)) dX12_sum_39 ic_1 ?_
  refine e_iadd (pc := 40) dX12_sum_40 ?_
  refine p_I (pc := 41) kk54 fp_X12_175 dX12_sum_41 (fun w4 => ?_)
  refine e_aload_n (pc := 44) dX12_sum_44 1 rfl rfl ?_
  refine e_callVWV (pc := 45) (As := []) (rest := []) kk54 Kc12 (hr_X12_product w4) lk_X12_215 (Nat.le_refl _) (Nat.le_of_ble_eq_true rfl) rfl rfl (Nat.le_of_ble_eq_true rfl) dX12_sum_45 (fun w5 => ?_)
  refine e_aload_n (pc := 48) dX12_sum_48 1 rfl rfl ?_
  refine e_iload_n (pc := 49) dX12_sum_49 0 rfl rfl ?_
  refine e_iconst (pc := 50) (v := (0 : Int32)) dX12_sum_50 ic_0 ?_
  refine e_callVWV (pc := 51) (As := [.int r3, .int (0 : Int32)]) (rest := []) kk54 Kc12 (cf_X12_addStep X r3 (0 : Int32) w5) lk_X12_194 (by omega) (Nat.le_of_ble_eq_true rfl) rfl rfl (Nat.le_of_ble_eq_true rfl) dX12_sum_51 (fun w6 => ?_)
  refine e_goto (pc := 54) (tgt := 4) dX12_sum_54 (by decide) ?_
  refine e_lv [1] rfl ?_
  exact hk4 w6
set_option maxRecDepth 100000 in
set_option maxHeartbeats 4000000 in
theorem cb_X12_sum_b4_y (X : Xt) {dd : Nat} (hb : 3 ≤ dd) (r_X12_operand : Wd → Option Wd) (hr_X12_operand : ∀  (w : Wd), CF gWV X m_X12_operand dd [.ref (xa X 54)] w (r_X12_operand w)) (r_X12_product : Wd → Option Wd) (hr_X12_product : ∀  (w : Wd), CF gWV X m_X12_product dd [.ref (xa X 54)] w (r_X12_product w)) (r_X12_sum : Wd → Option Wd) (hr_X12_sum : ∀  (w : Wd), CF gWV X m_X12_sum dd [.ref (xa X 54)] w (r_X12_sum w)) (r_X12_compared : Wd → Option Wd) (hr_X12_compared : ∀  (w : Wd), CF gWV X m_X12_compared dd [.ref (xa X 54)] w (r_X12_compared w)) (r_X12_both : Wd → Option Wd) (hr_X12_both : ∀  (w : Wd), CF gWV X m_X12_both dd [.ref (xa X 54)] w (r_X12_both w)) (r_X12_either : Wd → Option Wd) (hr_X12_either : ∀  (w : Wd), CF gWV X m_X12_either dd [.ref (xa X 54)] w (r_X12_either w)) (k4 : Wd → Option Wd) (hk4 : ∀ (w : Wd), E gWV X m_X12_sum (dd + 1) 4 [(0, .ref (xa X 54))] [] w (k4 w)) (w : Wd) : E gWV X m_X12_sum (dd + 1) 4 [(0, .ref (xa X 54))] [] w (f_X12_sum_b4_y r_X12_operand r_X12_product r_X12_sum r_X12_compared r_X12_both r_X12_either k4 w) := by
  unfold f_X12_sum_b4_y
  refine e_aload_n (pc := 4) dX12_sum_4 0 rfl rfl ?_
  refine g_I (pc := 5) kk54 fl_X12_178 dX12_sum_5 ?_
  refine e_if_ge (pc := 8) (tgt := 57) dX12_sum_8 (by decide) (fun _ => ?_) (fun _ => ?_)
  · exact e_vret rfl dX12_sum_57
  · refine e_aload_n (pc := 11) dX12_sum_11 0 rfl rfl ?_
    refine e_callVRI (pc := 12) (As := []) (rest := []) kk54 Kc12 (cf_X12_looksOn X w) lk_X12_190 (by omega) (Nat.le_of_ble_eq_true rfl) rfl rfl (Nat.le_of_ble_eq_true rfl) dX12_sum_12 (fun r2 => ?_)
    refine e_bipush (pc := 15) (v := (43 : Int32)) dX12_sum_15 bp_43 ?_
    refine e_icmp_eq (pc := 17) (tgt := 29) dX12_sum_17 (by decide) (fun _ => ?_) (fun _ => ?_)
    · refine e_lv [0] rfl ?_
      exact cb_X12_sum_b29 X hb r_X12_operand hr_X12_operand r_X12_product hr_X12_product r_X12_sum hr_X12_sum r_X12_compared hr_X12_compared r_X12_both hr_X12_both r_X12_either hr_X12_either k4 hk4 w
    · refine e_aload_n (pc := 20) dX12_sum_20 0 rfl rfl ?_
      refine e_callVRI (pc := 21) (As := []) (rest := []) kk54 Kc12 (cf_X12_looksOn X w) lk_X12_190 (by omega) (Nat.le_of_ble_eq_true rfl) rfl rfl (Nat.le_of_ble_eq_true rfl) dX12_sum_21 (fun r7 => ?_)
      refine e_bipush (pc := 24) (v := (45 : Int32)) dX12_sum_24 bp_45 ?_
      refine e_icmp_ne (pc := 26) (tgt := 57) dX12_sum_26 (by decide) (fun _ => ?_) (fun _ => ?_)
      · refine e_lv [0] rfl ?_
        exact cb_X12_sum_b29 X hb r_X12_operand hr_X12_operand r_X12_product hr_X12_product r_X12_sum hr_X12_sum r_X12_compared hr_X12_compared r_X12_both hr_X12_both r_X12_either hr_X12_either k4 hk4 w
      · exact e_vret rfl dX12_sum_57
theorem cb_X12_sum_b4 (X : Xt) {dd : Nat} (hb : 3 ≤ dd) (r_X12_operand : Wd → Option Wd) (hr_X12_operand : ∀  (w : Wd), CF gWV X m_X12_operand dd [.ref (xa X 54)] w (r_X12_operand w)) (r_X12_product : Wd → Option Wd) (hr_X12_product : ∀  (w : Wd), CF gWV X m_X12_product dd [.ref (xa X 54)] w (r_X12_product w)) (r_X12_sum : Wd → Option Wd) (hr_X12_sum : ∀  (w : Wd), CF gWV X m_X12_sum dd [.ref (xa X 54)] w (r_X12_sum w)) (r_X12_compared : Wd → Option Wd) (hr_X12_compared : ∀  (w : Wd), CF gWV X m_X12_compared dd [.ref (xa X 54)] w (r_X12_compared w)) (r_X12_both : Wd → Option Wd) (hr_X12_both : ∀  (w : Wd), CF gWV X m_X12_both dd [.ref (xa X 54)] w (r_X12_both w)) (r_X12_either : Wd → Option Wd) (hr_X12_either : ∀  (w : Wd), CF gWV X m_X12_either dd [.ref (xa X 54)] w (r_X12_either w)) : ∀ (n : Nat) (w : Wd), E gWV X m_X12_sum (dd + 1) 4 [(0, .ref (xa X 54))] [] w (f_X12_sum_b4 r_X12_operand r_X12_product r_X12_sum r_X12_compared r_X12_both r_X12_either n w) := by
  intro n
  induction n with
  | zero =>
    intro w
    exact E_none
  | succ n ih =>
    intro w
    exact cb_X12_sum_b4_y X hb r_X12_operand hr_X12_operand r_X12_product hr_X12_product r_X12_sum hr_X12_sum r_X12_compared hr_X12_compared r_X12_both hr_X12_both r_X12_either hr_X12_either _ ih w
set_option maxRecDepth 100000 in
set_option maxHeartbeats 4000000 in
theorem ce_X12_sum (X : Xt) {dd : Nat} (hb : 3 ≤ dd) (r_X12_operand : Wd → Option Wd) (hr_X12_operand : ∀  (w : Wd), CF gWV X m_X12_operand dd [.ref (xa X 54)] w (r_X12_operand w)) (r_X12_product : Wd → Option Wd) (hr_X12_product : ∀  (w : Wd), CF gWV X m_X12_product dd [.ref (xa X 54)] w (r_X12_product w)) (r_X12_sum : Wd → Option Wd) (hr_X12_sum : ∀  (w : Wd), CF gWV X m_X12_sum dd [.ref (xa X 54)] w (r_X12_sum w)) (r_X12_compared : Wd → Option Wd) (hr_X12_compared : ∀  (w : Wd), CF gWV X m_X12_compared dd [.ref (xa X 54)] w (r_X12_compared w)) (r_X12_both : Wd → Option Wd) (hr_X12_both : ∀  (w : Wd), CF gWV X m_X12_both dd [.ref (xa X 54)] w (r_X12_both w)) (r_X12_either : Wd → Option Wd) (hr_X12_either : ∀  (w : Wd), CF gWV X m_X12_either dd [.ref (xa X 54)] w (r_X12_either w)) (w : Wd) : E gWV X m_X12_sum (dd + 1) 0 [(0, .ref (xa X 54))] [] w (f_X12_sum_y r_X12_operand r_X12_product r_X12_sum r_X12_compared r_X12_both r_X12_either w) := by
  unfold f_X12_sum_y
  refine e_aload_n (pc := 0) dX12_sum_0 0 rfl rfl ?_
  refine e_callVWV (pc := 1) (As := []) (rest := []) kk54 Kc12 (hr_X12_product w) lk_X12_215 (Nat.le_refl _) (Nat.le_of_ble_eq_true rfl) rfl rfl (Nat.le_of_ble_eq_true rfl) dX12_sum_1 (fun w1 => ?_)
  refine e_lv [0] rfl ?_
  exact cb_X12_sum_b4 X hb r_X12_operand hr_X12_operand r_X12_product hr_X12_product r_X12_sum hr_X12_sum r_X12_compared hr_X12_compared r_X12_both hr_X12_both r_X12_either hr_X12_either fu w1
set_option maxRecDepth 100000 in
set_option maxHeartbeats 4000000 in
theorem cb_X12_compared_b35 (X : Xt) {dd : Nat} (hb : 3 ≤ dd) (r_X12_operand : Wd → Option Wd) (hr_X12_operand : ∀  (w : Wd), CF gWV X m_X12_operand dd [.ref (xa X 54)] w (r_X12_operand w)) (r_X12_product : Wd → Option Wd) (hr_X12_product : ∀  (w : Wd), CF gWV X m_X12_product dd [.ref (xa X 54)] w (r_X12_product w)) (r_X12_sum : Wd → Option Wd) (hr_X12_sum : ∀  (w : Wd), CF gWV X m_X12_sum dd [.ref (xa X 54)] w (r_X12_sum w)) (r_X12_compared : Wd → Option Wd) (hr_X12_compared : ∀  (w : Wd), CF gWV X m_X12_compared dd [.ref (xa X 54)] w (r_X12_compared w)) (r_X12_both : Wd → Option Wd) (hr_X12_both : ∀  (w : Wd), CF gWV X m_X12_both dd [.ref (xa X 54)] w (r_X12_both w)) (r_X12_either : Wd → Option Wd) (hr_X12_either : ∀  (w : Wd), CF gWV X m_X12_either dd [.ref (xa X 54)] w (r_X12_either w)) (x1 : Int32) (w : Wd) : E gWV X m_X12_compared (dd + 1) 35 [(0, .ref (xa X 54)), (1, .int x1)] [] w (f_X12_compared_b35 r_X12_operand r_X12_product r_X12_sum r_X12_compared r_X12_both r_X12_either x1 w) := by
  unfold f_X12_compared_b35
  refine e_aload_n (pc := 35) dX12_compared_35 0 rfl rfl ?_
  refine e_dup (pc := 36) dX12_compared_36 rfl ?_
  refine g_I (pc := 37) kk54 fl_X12_175 dX12_compared_37 ?_
  refine e_iconst (pc := 40) (v := (1 : Int32)) dX12_compared_40 ic_1 ?_
  refine e_iadd (pc := 41) dX12_compared_41 ?_
  refine p_I (pc := 42) kk54 fp_X12_175 dX12_compared_42 (fun w3 => ?_)
  refine e_aload_n (pc := 45) dX12_compared_45 0 rfl rfl ?_
  refine e_callVWV (pc := 46) (As := []) (rest := []) kk54 Kc12 (hr_X12_sum w3) lk_X12_218 (Nat.le_refl _) (Nat.le_of_ble_eq_true rfl) rfl rfl (Nat.le_of_ble_eq_true rfl) dX12_compared_46 (fun w4 => ?_)
  refine e_aload_n (pc := 49) dX12_compared_49 0 rfl rfl ?_
  refine e_iload_n (pc := 50) dX12_compared_50 1 rfl rfl ?_
  refine e_iconst (pc := 51) (v := (0 : Int32)) dX12_compared_51 ic_0 ?_
  refine e_callVWV (pc := 52) (As := [.int x1, .int (0 : Int32)]) (rest := []) kk54 Kc12 (cf_X12_addStep X x1 (0 : Int32) w4) lk_X12_194 (by omega) (Nat.le_of_ble_eq_true rfl) rfl rfl (Nat.le_of_ble_eq_true rfl) dX12_compared_52 (fun w5 => ?_)
  exact e_vret rfl dX12_compared_55
set_option maxRecDepth 100000 in
set_option maxHeartbeats 4000000 in
theorem ce_X12_compared (X : Xt) {dd : Nat} (hb : 3 ≤ dd) (r_X12_operand : Wd → Option Wd) (hr_X12_operand : ∀  (w : Wd), CF gWV X m_X12_operand dd [.ref (xa X 54)] w (r_X12_operand w)) (r_X12_product : Wd → Option Wd) (hr_X12_product : ∀  (w : Wd), CF gWV X m_X12_product dd [.ref (xa X 54)] w (r_X12_product w)) (r_X12_sum : Wd → Option Wd) (hr_X12_sum : ∀  (w : Wd), CF gWV X m_X12_sum dd [.ref (xa X 54)] w (r_X12_sum w)) (r_X12_compared : Wd → Option Wd) (hr_X12_compared : ∀  (w : Wd), CF gWV X m_X12_compared dd [.ref (xa X 54)] w (r_X12_compared w)) (r_X12_both : Wd → Option Wd) (hr_X12_both : ∀  (w : Wd), CF gWV X m_X12_both dd [.ref (xa X 54)] w (r_X12_both w)) (r_X12_either : Wd → Option Wd) (hr_X12_either : ∀  (w : Wd), CF gWV X m_X12_either dd [.ref (xa X 54)] w (r_X12_either w)) (w : Wd) : E gWV X m_X12_compared (dd + 1) 0 [(0, .ref (xa X 54))] [] w (f_X12_compared_y r_X12_operand r_X12_product r_X12_sum r_X12_compared r_X12_both r_X12_either w) := by
  unfold f_X12_compared_y
  refine e_aload_n (pc := 0) dX12_compared_0 0 rfl rfl ?_
  refine e_callVWV (pc := 1) (As := []) (rest := []) kk54 Kc12 (hr_X12_sum w) lk_X12_218 (Nat.le_refl _) (Nat.le_of_ble_eq_true rfl) rfl rfl (Nat.le_of_ble_eq_true rfl) dX12_compared_1 (fun w1 => ?_)
  refine e_aload_n (pc := 4) dX12_compared_4 0 rfl rfl ?_
  refine e_callVRI (pc := 5) (As := []) (rest := []) kk54 Kc12 (cf_X12_looksOn X w1) lk_X12_190 (by omega) (Nat.le_of_ble_eq_true rfl) rfl rfl (Nat.le_of_ble_eq_true rfl) dX12_compared_5 (fun r2 => ?_)
  refine e_istore_n (pc := 8) (lv' := [(1, .int r2), (0, .ref (xa X 54))]) dX12_compared_8 rfl (Nat.le_of_ble_eq_true rfl) rfl ?_
  refine e_aload_n (pc := 9) dX12_compared_9 1 rfl rfl ?_
  refine g_I (pc := 10) kk54 fl_X12_178 dX12_compared_10 ?_
  refine e_if_ge (pc := 13) (tgt := 34) dX12_compared_13 (by decide) (fun _ => ?_) (fun _ => ?_)
  · exact e_vret rfl dX12_compared_34
  · refine e_iload_n (pc := 16) dX12_compared_16 0 rfl rfl ?_
    refine e_bipush (pc := 17) (v := (60 : Int32)) dX12_compared_17 bp_60 ?_
    refine e_icmp_eq (pc := 19) (tgt := 35) dX12_compared_19 (by decide) (fun _ => ?_) (fun _ => ?_)
    · refine e_lv [1, 0] rfl ?_
      exact cb_X12_compared_b35 X hb r_X12_operand hr_X12_operand r_X12_product hr_X12_product r_X12_sum hr_X12_sum r_X12_compared hr_X12_compared r_X12_both hr_X12_both r_X12_either hr_X12_either r2 w1
    · refine e_iload_n (pc := 22) dX12_compared_22 0 rfl rfl ?_
      refine e_bipush (pc := 23) (v := (61 : Int32)) dX12_compared_23 bp_61 ?_
      refine e_icmp_eq (pc := 25) (tgt := 35) dX12_compared_25 (by decide) (fun _ => ?_) (fun _ => ?_)
      · refine e_lv [1, 0] rfl ?_
        exact cb_X12_compared_b35 X hb r_X12_operand hr_X12_operand r_X12_product hr_X12_product r_X12_sum hr_X12_sum r_X12_compared hr_X12_compared r_X12_both hr_X12_both r_X12_either hr_X12_either r2 w1
      · refine e_iload_n (pc := 28) dX12_compared_28 0 rfl rfl ?_
        refine e_bipush (pc := 29) (v := (62 : Int32)) dX12_compared_29 bp_62 ?_
        refine e_icmp_eq (pc := 31) (tgt := 35) dX12_compared_31 (by decide) (fun _ => ?_) (fun _ => ?_)
        · refine e_lv [1, 0] rfl ?_
          exact cb_X12_compared_b35 X hb r_X12_operand hr_X12_operand r_X12_product hr_X12_product r_X12_sum hr_X12_sum r_X12_compared hr_X12_compared r_X12_both hr_X12_both r_X12_either hr_X12_either r2 w1
        · exact e_vret rfl dX12_compared_34
set_option maxRecDepth 100000 in
set_option maxHeartbeats 4000000 in
theorem cb_X12_both_b4_y (X : Xt) {dd : Nat} (hb : 3 ≤ dd) (r_X12_operand : Wd → Option Wd) (hr_X12_operand : ∀  (w : Wd), CF gWV X m_X12_operand dd [.ref (xa X 54)] w (r_X12_operand w)) (r_X12_product : Wd → Option Wd) (hr_X12_product : ∀  (w : Wd), CF gWV X m_X12_product dd [.ref (xa X 54)] w (r_X12_product w)) (r_X12_sum : Wd → Option Wd) (hr_X12_sum : ∀  (w : Wd), CF gWV X m_X12_sum dd [.ref (xa X 54)] w (r_X12_sum w)) (r_X12_compared : Wd → Option Wd) (hr_X12_compared : ∀  (w : Wd), CF gWV X m_X12_compared dd [.ref (xa X 54)] w (r_X12_compared w)) (r_X12_both : Wd → Option Wd) (hr_X12_both : ∀  (w : Wd), CF gWV X m_X12_both dd [.ref (xa X 54)] w (r_X12_both w)) (r_X12_either : Wd → Option Wd) (hr_X12_either : ∀  (w : Wd), CF gWV X m_X12_either dd [.ref (xa X 54)] w (r_X12_either w)) (k4 : Wd → Option Wd) (hk4 : ∀ (w : Wd), E gWV X m_X12_both (dd + 1) 4 [(0, .ref (xa X 54))] [] w (k4 w)) (w : Wd) : E gWV X m_X12_both (dd + 1) 4 [(0, .ref (xa X 54))] [] w (f_X12_both_b4_y r_X12_operand r_X12_product r_X12_sum r_X12_compared r_X12_both r_X12_either k4 w) := by
  unfold f_X12_both_b4_y
  refine e_aload_n (pc := 4) dX12_both_4 0 rfl rfl ?_
  refine g_I (pc := 5) kk54 fl_X12_178 dX12_both_5 ?_
  refine e_if_ge (pc := 8) (tgt := 44) dX12_both_8 (by decide) (fun _ => ?_) (fun _ => ?_)
  · exact e_vret rfl dX12_both_44
  · refine e_aload_n (pc := 11) dX12_both_11 0 rfl rfl ?_
    refine e_callVRI (pc := 12) (As := []) (rest := []) kk54 Kc12 (cf_X12_looksOn X w) lk_X12_190 (by omega) (Nat.le_of_ble_eq_true rfl) rfl rfl (Nat.le_of_ble_eq_true rfl) dX12_both_12 (fun r2 => ?_)
    refine e_bipush (pc := 15) (v := (38 : Int32)) dX12_both_15 bp_38 ?_
    refine e_icmp_ne (pc := 17) (tgt := 44) dX12_both_17 (by decide) (fun _ => ?_) (fun _ => ?_)
    · refine e_aload_n (pc := 20) dX12_both_20 0 rfl rfl ?_
      refine e_dup (pc := 21) dX12_both_21 rfl ?_
      refine g_I (pc := 22) kk54 fl_X12_175 dX12_both_22 ?_
      refine e_iconst (pc := 25) (v := (1 : Int32)) dX12_both_25 ic_1 ?_
      refine e_iadd (pc := 26) dX12_both_26 ?_
      refine p_I (pc := 27) kk54 fp_X12_175 dX12_both_27 (fun w3 => ?_)
      refine e_aload_n (pc := 30) dX12_both_30 0 rfl rfl ?_
      refine e_callVWV (pc := 31) (As := []) (rest := []) kk54 Kc12 (hr_X12_compared w3) lk_X12_221 (Nat.le_refl _) (Nat.le_of_ble_eq_true rfl) rfl rfl (Nat.le_of_ble_eq_true rfl) dX12_both_31 (fun w4 => ?_)
      refine e_aload_n (pc := 34) dX12_both_34 0 rfl rfl ?_
      refine e_bipush (pc := 35) (v := (38 : Int32)) dX12_both_35 bp_38 ?_
      refine e_iconst (pc := 37) (v := (0 : Int32)) dX12_both_37 ic_0 ?_
      refine e_callVWV (pc := 38) (As := [.int (38 : Int32), .int (0 : Int32)]) (rest := []) kk54 Kc12 (cf_X12_addStep X (38 : Int32) (0 : Int32) w4) lk_X12_194 (by omega) (Nat.le_of_ble_eq_true rfl) rfl rfl (Nat.le_of_ble_eq_true rfl) dX12_both_38 (fun w5 => ?_)
      refine e_goto (pc := 41) (tgt := 4) dX12_both_41 (by decide) ?_
      refine e_lv [0] rfl ?_
      exact hk4 w5
    · exact e_vret rfl dX12_both_44
theorem cb_X12_both_b4 (X : Xt) {dd : Nat} (hb : 3 ≤ dd) (r_X12_operand : Wd → Option Wd) (hr_X12_operand : ∀  (w : Wd), CF gWV X m_X12_operand dd [.ref (xa X 54)] w (r_X12_operand w)) (r_X12_product : Wd → Option Wd) (hr_X12_product : ∀  (w : Wd), CF gWV X m_X12_product dd [.ref (xa X 54)] w (r_X12_product w)) (r_X12_sum : Wd → Option Wd) (hr_X12_sum : ∀  (w : Wd), CF gWV X m_X12_sum dd [.ref (xa X 54)] w (r_X12_sum w)) (r_X12_compared : Wd → Option Wd) (hr_X12_compared : ∀  (w : Wd), CF gWV X m_X12_compared dd [.ref (xa X 54)] w (r_X12_compared w)) (r_X12_both : Wd → Option Wd) (hr_X12_both : ∀  (w : Wd), CF gWV X m_X12_both dd [.ref (xa X 54)] w (r_X12_both w)) (r_X12_either : Wd → Option Wd) (hr_X12_either : ∀  (w : Wd), CF gWV X m_X12_either dd [.ref (xa X 54)] w (r_X12_either w)) : ∀ (n : Nat) (w : Wd), E gWV X m_X12_both (dd + 1) 4 [(0, .ref (xa X 54))] [] w (f_X12_both_b4 r_X12_operand r_X12_product r_X12_sum r_X12_compared r_X12_both r_X12_either n w) := by
  intro n
  induction n with
  | zero =>
    intro w
    exact E_none
  | succ n ih =>
    intro w
    exact cb_X12_both_b4_y X hb r_X12_operand hr_X12_operand r_X12_product hr_X12_product r_X12_sum hr_X12_sum r_X12_compared hr_X12_compared r_X12_both hr_X12_both r_X12_either hr_X12_either _ ih w
set_option maxRecDepth 100000 in
set_option maxHeartbeats 4000000 in
theorem ce_X12_both (X : Xt) {dd : Nat} (hb : 3 ≤ dd) (r_X12_operand : Wd → Option Wd) (hr_X12_operand : ∀  (w : Wd), CF gWV X m_X12_operand dd [.ref (xa X 54)] w (r_X12_operand w)) (r_X12_product : Wd → Option Wd) (hr_X12_product : ∀  (w : Wd), CF gWV X m_X12_product dd [.ref (xa X 54)] w (r_X12_product w)) (r_X12_sum : Wd → Option Wd) (hr_X12_sum : ∀  (w : Wd), CF gWV X m_X12_sum dd [.ref (xa X 54)] w (r_X12_sum w)) (r_X12_compared : Wd → Option Wd) (hr_X12_compared : ∀  (w : Wd), CF gWV X m_X12_compared dd [.ref (xa X 54)] w (r_X12_compared w)) (r_X12_both : Wd → Option Wd) (hr_X12_both : ∀  (w : Wd), CF gWV X m_X12_both dd [.ref (xa X 54)] w (r_X12_both w)) (r_X12_either : Wd → Option Wd) (hr_X12_either : ∀  (w : Wd), CF gWV X m_X12_either dd [.ref (xa X 54)] w (r_X12_either w)) (w : Wd) : E gWV X m_X12_both (dd + 1) 0 [(0, .ref (xa X 54))] [] w (f_X12_both_y r_X12_operand r_X12_product r_X12_sum r_X12_compared r_X12_both r_X12_either w) := by
  unfold f_X12_both_y
  refine e_aload_n (pc := 0) dX12_both_0 0 rfl rfl ?_
  refine e_callVWV (pc := 1) (As := []) (rest := []) kk54 Kc12 (hr_X12_compared w) lk_X12_221 (Nat.le_refl _) (Nat.le_of_ble_eq_true rfl) rfl rfl (Nat.le_of_ble_eq_true rfl) dX12_both_1 (fun w1 => ?_)
  refine e_lv [0] rfl ?_
  exact cb_X12_both_b4 X hb r_X12_operand hr_X12_operand r_X12_product hr_X12_product r_X12_sum hr_X12_sum r_X12_compared hr_X12_compared r_X12_both hr_X12_both r_X12_either hr_X12_either fu w1
set_option maxRecDepth 100000 in
set_option maxHeartbeats 4000000 in
theorem cb_X12_either_b4_y (X : Xt) {dd : Nat} (hb : 3 ≤ dd) (r_X12_operand : Wd → Option Wd) (hr_X12_operand : ∀  (w : Wd), CF gWV X m_X12_operand dd [.ref (xa X 54)] w (r_X12_operand w)) (r_X12_product : Wd → Option Wd) (hr_X12_product : ∀  (w : Wd), CF gWV X m_X12_product dd [.ref (xa X 54)] w (r_X12_product w)) (r_X12_sum : Wd → Option Wd) (hr_X12_sum : ∀  (w : Wd), CF gWV X m_X12_sum dd [.ref (xa X 54)] w (r_X12_sum w)) (r_X12_compared : Wd → Option Wd) (hr_X12_compared : ∀  (w : Wd), CF gWV X m_X12_compared dd [.ref (xa X 54)] w (r_X12_compared w)) (r_X12_both : Wd → Option Wd) (hr_X12_both : ∀  (w : Wd), CF gWV X m_X12_both dd [.ref (xa X 54)] w (r_X12_both w)) (r_X12_either : Wd → Option Wd) (hr_X12_either : ∀  (w : Wd), CF gWV X m_X12_either dd [.ref (xa X 54)] w (r_X12_either w)) (k4 : Wd → Option Wd) (hk4 : ∀ (w : Wd), E gWV X m_X12_either (dd + 1) 4 [(0, .ref (xa X 54))] [] w (k4 w)) (w : Wd) : E gWV X m_X12_either (dd + 1) 4 [(0, .ref (xa X 54))] [] w (f_X12_either_b4_y r_X12_operand r_X12_product r_X12_sum r_X12_compared r_X12_both r_X12_either k4 w) := by
  unfold f_X12_either_b4_y
  refine e_aload_n (pc := 4) dX12_either_4 0 rfl rfl ?_
  refine g_I (pc := 5) kk54 fl_X12_178 dX12_either_5 ?_
  refine e_if_ge (pc := 8) (tgt := 44) dX12_either_8 (by decide) (fun _ => ?_) (fun _ => ?_)
  · exact e_vret rfl dX12_either_44
  · refine e_aload_n (pc := 11) dX12_either_11 0 rfl rfl ?_
    refine e_callVRI (pc := 12) (As := []) (rest := []) kk54 Kc12 (cf_X12_looksOn X w) lk_X12_190 (by omega) (Nat.le_of_ble_eq_true rfl) rfl rfl (Nat.le_of_ble_eq_true rfl) dX12_either_12 (fun r2 => ?_)
    refine e_bipush (pc := 15) (v := (124 : Int32)) dX12_either_15 bp_124 ?_
    refine e_icmp_ne (pc := 17) (tgt := 44) dX12_either_17 (by decide) (fun _ => ?_) (fun _ => ?_)
    · refine e_aload_n (pc := 20) dX12_either_20 0 rfl rfl ?_
      refine e_dup (pc := 21) dX12_either_21 rfl ?_
      refine g_I (pc := 22) kk54 fl_X12_175 dX12_either_22 ?_
      refine e_iconst (pc := 25) (v := (1 : Int32)) dX12_either_25 ic_1 ?_
      refine e_iadd (pc := 26) dX12_either_26 ?_
      refine p_I (pc := 27) kk54 fp_X12_175 dX12_either_27 (fun w3 => ?_)
      refine e_aload_n (pc := 30) dX12_either_30 0 rfl rfl ?_
      refine e_callVWV (pc := 31) (As := []) (rest := []) kk54 Kc12 (hr_X12_both w3) lk_X12_224 (Nat.le_refl _) (Nat.le_of_ble_eq_true rfl) rfl rfl (Nat.le_of_ble_eq_true rfl) dX12_either_31 (fun w4 => ?_)
      refine e_aload_n (pc := 34) dX12_either_34 0 rfl rfl ?_
      refine e_bipush (pc := 35) (v := (124 : Int32)) dX12_either_35 bp_124 ?_
      refine e_iconst (pc := 37) (v := (0 : Int32)) dX12_either_37 ic_0 ?_
      refine e_callVWV (pc := 38) (As := [.int (124 : Int32), .int (0 : Int32)]) (rest := []) kk54 Kc12 (cf_X12_addStep X (124 : Int32) (0 : Int32) w4) lk_X12_194 (by omega) (Nat.le_of_ble_eq_true rfl) rfl rfl (Nat.le_of_ble_eq_true rfl) dX12_either_38 (fun w5 => ?_)
      refine e_goto (pc := 41) (tgt := 4) dX12_either_41 (by decide) ?_
      refine e_lv [0] rfl ?_
      exact hk4 w5
    · exact e_vret rfl dX12_either_44
theorem cb_X12_either_b4 (X : Xt) {dd : Nat} (hb : 3 ≤ dd) (r_X12_operand : Wd → Option Wd) (hr_X12_operand : ∀  (w : Wd), CF gWV X m_X12_operand dd [.ref (xa X 54)] w (r_X12_operand w)) (r_X12_product : Wd → Option Wd) (hr_X12_product : ∀  (w : Wd), CF gWV X m_X12_product dd [.ref (xa X 54)] w (r_X12_product w)) (r_X12_sum : Wd → Option Wd) (hr_X12_sum : ∀  (w : Wd), CF gWV X m_X12_sum dd [.ref (xa X 54)] w (r_X12_sum w)) (r_X12_compared : Wd → Option Wd) (hr_X12_compared : ∀  (w : Wd), CF gWV X m_X12_compared dd [.ref (xa X 54)] w (r_X12_compared w)) (r_X12_both : Wd → Option Wd) (hr_X12_both : ∀  (w : Wd), CF gWV X m_X12_both dd [.ref (xa X 54)] w (r_X12_both w)) (r_X12_either : Wd → Option Wd) (hr_X12_either : ∀  (w : Wd), CF gWV X m_X12_either dd [.ref (xa X 54)] w (r_X12_either w)) : ∀ (n : Nat) (w : Wd), E gWV X m_X12_either (dd + 1) 4 [(0, .ref (xa X 54))] [] w (f_X12_either_b4 r_X12_operand r_X12_product r_X12_sum r_X12_compared r_X12_both r_X12_either n w) := by
  intro n
  induction n with
  | zero =>
    intro w
    exact E_none
  | succ n ih =>
    intro w
    exact cb_X12_either_b4_y X hb r_X12_operand hr_X12_operand r_X12_product hr_X12_product r_X12_sum hr_X12_sum r_X12_compared hr_X12_compared r_X12_both hr_X12_both r_X12_either hr_X12_either _ ih w
set_option maxRecDepth 100000 in
set_option maxHeartbeats 4000000 in
theorem ce_X12_either (X : Xt) {dd : Nat} (hb : 3 ≤ dd) (r_X12_operand : Wd → Option Wd) (hr_X12_operand : ∀  (w : Wd), CF gWV X m_X12_operand dd [.ref (xa X 54)] w (r_X12_operand w)) (r_X12_product : Wd → Option Wd) (hr_X12_product : ∀  (w : Wd), CF gWV X m_X12_product dd [.ref (xa X 54)] w (r_X12_product w)) (r_X12_sum : Wd → Option Wd) (hr_X12_sum : ∀  (w : Wd), CF gWV X m_X12_sum dd [.ref (xa X 54)] w (r_X12_sum w)) (r_X12_compared : Wd → Option Wd) (hr_X12_compared : ∀  (w : Wd), CF gWV X m_X12_compared dd [.ref (xa X 54)] w (r_X12_compared w)) (r_X12_both : Wd → Option Wd) (hr_X12_both : ∀  (w : Wd), CF gWV X m_X12_both dd [.ref (xa X 54)] w (r_X12_both w)) (r_X12_either : Wd → Option Wd) (hr_X12_either : ∀  (w : Wd), CF gWV X m_X12_either dd [.ref (xa X 54)] w (r_X12_either w)) (w : Wd) : E gWV X m_X12_either (dd + 1) 0 [(0, .ref (xa X 54))] [] w (f_X12_either_y r_X12_operand r_X12_product r_X12_sum r_X12_compared r_X12_both r_X12_either w) := by
  unfold f_X12_either_y
  refine e_aload_n (pc := 0) dX12_either_0 0 rfl rfl ?_
  refine e_callVWV (pc := 1) (As := []) (rest := []) kk54 Kc12 (hr_X12_both w) lk_X12_224 (Nat.le_refl _) (Nat.le_of_ble_eq_true rfl) rfl rfl (Nat.le_of_ble_eq_true rfl) dX12_either_1 (fun w1 => ?_)
  refine e_lv [0] rfl ?_
  exact cb_X12_either_b4 X hb r_X12_operand hr_X12_operand r_X12_product hr_X12_product r_X12_sum hr_X12_sum r_X12_compared hr_X12_compared r_X12_both hr_X12_both r_X12_either hr_X12_either fu w1
set_option maxRecDepth 100000 in
theorem cs_X12_operand (X : Xt) : ∀ n : Nat, (∀  (w : Wd), CF gWV X m_X12_operand (3 + n) [.ref (xa X 54)] w (f_X12_operand n w)) ∧ (∀  (w : Wd), CF gWV X m_X12_product (3 + n) [.ref (xa X 54)] w (f_X12_product n w)) ∧ (∀  (w : Wd), CF gWV X m_X12_sum (3 + n) [.ref (xa X 54)] w (f_X12_sum n w)) ∧ (∀  (w : Wd), CF gWV X m_X12_compared (3 + n) [.ref (xa X 54)] w (f_X12_compared n w)) ∧ (∀  (w : Wd), CF gWV X m_X12_both (3 + n) [.ref (xa X 54)] w (f_X12_both n w)) ∧ (∀  (w : Wd), CF gWV X m_X12_either (3 + n) [.ref (xa X 54)] w (f_X12_either n w)) := by
  intro n
  induction n with
  | zero => exact ⟨fun  _ => CF_none, fun  _ => CF_none, fun  _ => CF_none, fun  _ => CF_none, fun  _ => CF_none, fun  _ => CF_none⟩
  | succ n ih =>
    obtain ⟨ih0, ih1, ih2, ih3, ih4, ih5⟩ := ih
    exact ⟨fun  w => CF_of (by decide) (Nat.le_of_ble_eq_true rfl) (ce_X12_operand X (Nat.le_add_right _ _) (f_X12_operand n) ih0 (f_X12_product n) ih1 (f_X12_sum n) ih2 (f_X12_compared n) ih3 (f_X12_both n) ih4 (f_X12_either n) ih5  w), fun  w => CF_of (by decide) (Nat.le_of_ble_eq_true rfl) (ce_X12_product X (Nat.le_add_right _ _) (f_X12_operand n) ih0 (f_X12_product n) ih1 (f_X12_sum n) ih2 (f_X12_compared n) ih3 (f_X12_both n) ih4 (f_X12_either n) ih5  w), fun  w => CF_of (by decide) (Nat.le_of_ble_eq_true rfl) (ce_X12_sum X (Nat.le_add_right _ _) (f_X12_operand n) ih0 (f_X12_product n) ih1 (f_X12_sum n) ih2 (f_X12_compared n) ih3 (f_X12_both n) ih4 (f_X12_either n) ih5  w), fun  w => CF_of (by decide) (Nat.le_of_ble_eq_true rfl) (ce_X12_compared X (Nat.le_add_right _ _) (f_X12_operand n) ih0 (f_X12_product n) ih1 (f_X12_sum n) ih2 (f_X12_compared n) ih3 (f_X12_both n) ih4 (f_X12_either n) ih5  w), fun  w => CF_of (by decide) (Nat.le_of_ble_eq_true rfl) (ce_X12_both X (Nat.le_add_right _ _) (f_X12_operand n) ih0 (f_X12_product n) ih1 (f_X12_sum n) ih2 (f_X12_compared n) ih3 (f_X12_both n) ih4 (f_X12_either n) ih5  w), fun  w => CF_of (by decide) (Nat.le_of_ble_eq_true rfl) (ce_X12_either X (Nat.le_add_right _ _) (f_X12_operand n) ih0 (f_X12_product n) ih1 (f_X12_sum n) ih2 (f_X12_compared n) ih3 (f_X12_both n) ih4 (f_X12_either n) ih5  w)⟩
theorem cf_X12_operand (X : Xt) (n : Nat) (w : Wd) : CF gWV X m_X12_operand (3 + n) [.ref (xa X 54)] w (f_X12_operand n w) := (cs_X12_operand X n).1 w
theorem cf_X12_product (X : Xt) (n : Nat) (w : Wd) : CF gWV X m_X12_product (3 + n) [.ref (xa X 54)] w (f_X12_product n w) := (cs_X12_operand X n).2.1 w
theorem cf_X12_sum (X : Xt) (n : Nat) (w : Wd) : CF gWV X m_X12_sum (3 + n) [.ref (xa X 54)] w (f_X12_sum n w) := (cs_X12_operand X n).2.2.1 w
theorem cf_X12_compared (X : Xt) (n : Nat) (w : Wd) : CF gWV X m_X12_compared (3 + n) [.ref (xa X 54)] w (f_X12_compared n w) := (cs_X12_operand X n).2.2.2.1 w
theorem cf_X12_both (X : Xt) (n : Nat) (w : Wd) : CF gWV X m_X12_both (3 + n) [.ref (xa X 54)] w (f_X12_both n w) := (cs_X12_operand X n).2.2.2.2.1 w
theorem cf_X12_either (X : Xt) (n : Nat) (w : Wd) : CF gWV X m_X12_either (3 + n) [.ref (xa X 54)] w (f_X12_either n w) := (cs_X12_operand X n).2.2.2.2.2 w
