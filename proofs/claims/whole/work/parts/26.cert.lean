set_option maxRecDepth 100000 in
set_option maxHeartbeats 4000000 in
theorem cb_X12_line_b66 (X : Xt) (x1 : Int32) (w : Wd) : E gWV X m_X12_line 84 66 [(0, .ref (xa X 54)), (1, .int x1)] [] w (f_X12_line_b66 x1 w) := by
  unfold f_X12_line_b66
  refine e_aload_n (pc := 66) dX12_line_66 0 rfl rfl ?_
  refine g_R (pc := 67) (cl' := 68) kk54 fl_X12_66 rfl dX12_line_67 ?_
  refine e_iload_n (pc := 70) dX12_line_70 1 rfl rfl ?_
  refine e_aload_n (pc := 71) dX12_line_71 0 rfl rfl ?_
  refine g_I (pc := 72) kk54 fl_X12_181 dX12_line_72 ?_
  refine e_i2s (pc := 75) dX12_line_75 ?_
  refine e_sast (pc := 76) kk68 dX12_line_76 (fun w5 => ?_)
  refine e_aload_n (pc := 77) dX12_line_77 0 rfl rfl ?_
  refine g_R (pc := 78) (cl' := 66) kk54 fl_X12_59 rfl dX12_line_78 ?_
  refine e_iconst (pc := 81) (v := (1 : Int32)) dX12_line_81 ic_1 ?_
  refine e_dup2 (pc := 82) dX12_line_82 rfl rfl ?_
  refine e_iald (pc := 83) kk66 dX12_line_83 (fun v6 => ?_)
  refine e_iconst (pc := 84) (v := (1 : Int32)) dX12_line_84 ic_1 ?_
  refine e_iadd (pc := 85) dX12_line_85 ?_
  refine e_iast (pc := 86) kk66 dX12_line_86 (fun w7 => ?_)
  exact e_vret rfl dX12_line_87
set_option maxRecDepth 100000 in
set_option maxHeartbeats 4000000 in
theorem ce_X12_line (X : Xt) (w : Wd) : E gWV X m_X12_line 84 0 [(0, .ref (xa X 54))] [] w (f_X12_line w) := by
  unfold f_X12_line
  refine e_bipush (pc := 0) (v := (61 : Int32)) dX12_line_0 bp_61 ?_
  refine e_aload_n (pc := 2) dX12_line_2 0 rfl rfl ?_
  refine g_R (pc := 3) (cl' := 66) kk54 fl_X12_59 rfl dX12_line_3 ?_
  refine e_iconst (pc := 6) (v := (1 : Int32)) dX12_line_6 ic_1 ?_
  refine e_iald (pc := 7) kk66 dX12_line_7 (fun v1 => ?_)
  refine e_iadd (pc := 8) dX12_line_8 ?_
  refine e_nameI (fun y2 => ?_)
  refine e_istore_n (pc := 9) (lv' := [(1, .int y2), (0, .ref (xa X 54))]) dX12_line_9 rfl (Nat.le_of_ble_eq_true rfl) rfl ?_
  refine e_aload_n (pc := 10) dX12_line_10 1 rfl rfl ?_
  refine g_R (pc := 11) (cl' := 67) kk54 fl_X12_62 rfl dX12_line_11 ?_
  refine e_iload_n (pc := 14) dX12_line_14 0 rfl rfl ?_
  refine e_aload_n (pc := 15) dX12_line_15 1 rfl rfl ?_
  refine g_I (pc := 16) kk54 fl_X12_181 dX12_line_16 ?_
  refine e_i2s (pc := 19) dX12_line_19 ?_
  refine e_sast (pc := 20) kk67 dX12_line_20 (fun w3 => ?_)
  refine e_aload_n (pc := 21) dX12_line_21 1 rfl rfl ?_
  refine e_callVWV (pc := 22) (As := []) (rest := []) kk54 Kc12 (cf_X12_either X rf w3) lk_X12_209 (Nat.le_of_ble_eq_true rfl) (Nat.le_of_ble_eq_true rfl) rfl rfl (Nat.le_of_ble_eq_true rfl) dX12_line_22 (fun w4 => ?_)
  refine e_aload_n (pc := 25) dX12_line_25 1 rfl rfl ?_
  refine g_I (pc := 26) kk54 fl_X12_178 dX12_line_26 ?_
  refine e_if_ge (pc := 29) (tgt := 66) dX12_line_29 (by decide) (fun _ => ?_) (fun _ => ?_)
  · refine e_lv [1, 0] rfl ?_
    exact cb_X12_line_b66 X y2 w4
  · refine e_aload_n (pc := 32) dX12_line_32 1 rfl rfl ?_
    refine e_callVRI (pc := 33) (As := []) (rest := []) kk54 Kc12 (cf_X12_looksOn X w4) lk_X12_190 (Nat.le_of_ble_eq_true rfl) (Nat.le_of_ble_eq_true rfl) rfl rfl (Nat.le_of_ble_eq_true rfl) dX12_line_33 (fun r8 => ?_)
    refine e_bipush (pc := 36) (v := (63 : Int32)) dX12_line_36 bp_63 ?_
    refine e_icmp_ne (pc := 38) (tgt := 66) dX12_line_38 (by decide) (fun _ => ?_) (fun _ => ?_)
    · refine e_aload_n (pc := 41) dX12_line_41 1 rfl rfl ?_
      refine e_dup (pc := 42) dX12_line_42 rfl ?_
      refine g_I (pc := 43) kk54 fl_X12_175 dX12_line_43 ?_
      refine e_iconst (pc := 46) (v := (1 : Int32)) dX12_line_46 ic_1 ?_
      refine e_iadd (pc := 47) dX12_line_47 ?_
      refine p_I (pc := 48) kk54 fp_X12_175 dX12_line_48 (fun w9 => ?_)
      refine e_aload_n (pc := 51) dX12_line_51 1 rfl rfl ?_
      refine g_R (pc := 52) (cl' := 67) kk54 fl_X12_62 rfl dX12_line_52 ?_
      refine e_iload_n (pc := 55) dX12_line_55 0 rfl rfl ?_
      refine e_aload_n (pc := 56) dX12_line_56 1 rfl rfl ?_
      refine g_I (pc := 57) kk54 fl_X12_181 dX12_line_57 ?_
      refine e_i2s (pc := 60) dX12_line_60 ?_
      refine e_sast (pc := 61) kk67 dX12_line_61 (fun w10 => ?_)
      refine e_aload_n (pc := 62) dX12_line_62 1 rfl rfl ?_
      refine e_callVWV (pc := 63) (As := []) (rest := []) kk54 Kc12 (cf_X12_either X rf w10) lk_X12_209 (Nat.le_of_ble_eq_true rfl) (Nat.le_of_ble_eq_true rfl) rfl rfl (Nat.le_of_ble_eq_true rfl) dX12_line_63 (fun w11 => ?_)
      refine e_lv [1, 0] rfl ?_
      exact cb_X12_line_b66 X y2 w11
    · refine e_lv [1, 0] rfl ?_
      exact cb_X12_line_b66 X y2 w4
theorem cf_X12_line (X : Xt) (w : Wd) : CF gWV X m_X12_line 84 [.ref (xa X 54)] w (f_X12_line w) := CF_of (by decide) (Nat.le_of_ble_eq_true rfl) (ce_X12_line X w)
set_option maxRecDepth 100000 in
set_option maxHeartbeats 4000000 in
theorem cb_X12_readText_b177_y (X : Xt) (k177 : Int32 → Int32 → Wd → Option (Int32 × Wd)) (hk177 : ∀ (x1 : Int32) (x2 : Int32)  (w : Wd), E gWI X m_X12_readText 85 177 [(0, .ref (xa X 54)), (1, .int x1), (2, .int x2)] [] w (k177 x1 x2 w)) (x1 : Int32) (x2 : Int32) (w : Wd) : E gWI X m_X12_readText 85 177 [(0, .ref (xa X 54)), (1, .int x1), (2, .int x2)] [] w (f_X12_readText_b177_y k177 x1 x2 w) := by
  unfold f_X12_readText_b177_y
  refine e_iload_n (pc := 177) dX12_readText_177 2 rfl rfl ?_
  refine e_aload_n (pc := 178) dX12_readText_178 0 rfl rfl ?_
  refine g_R (pc := 179) (cl' := 66) kk54 fl_X12_59 rfl dX12_readText_179 ?_
  refine e_iload_n (pc := 182) dX12_readText_182 1 rfl rfl ?_
  refine e_iald (pc := 183) kk66 dX12_readText_183 (fun v10 => ?_)
  refine e_icmp_ge (pc := 184) (tgt := 233) dX12_readText_184 (by decide) (fun _ => ?_) (fun _ => ?_)
  · refine e_iconst (pc := 233) (v := (-1 : Int32)) dX12_readText_233 ic_m1 ?_
    exact e_iretW rfl dX12_readText_234
  · refine e_aload_n (pc := 187) dX12_readText_187 0 rfl rfl ?_
    refine g_R (pc := 188) (cl' := 67) kk54 fl_X12_62 rfl dX12_readText_188 ?_
    refine e_bipush (pc := 191) (v := (61 : Int32)) dX12_readText_191 bp_61 ?_
    refine e_iload_n (pc := 193) dX12_readText_193 1 rfl rfl ?_
    refine e_imul (pc := 194) dX12_readText_194 ?_
    refine e_iload_n (pc := 195) dX12_readText_195 2 rfl rfl ?_
    refine e_iadd (pc := 196) dX12_readText_196 ?_
    refine e_aload_n (pc := 197) dX12_readText_197 0 rfl rfl ?_
    refine g_R (pc := 198) (cl' := 67) kk54 fl_X12_62 rfl dX12_readText_198 ?_
    refine e_bipush (pc := 201) (v := (61 : Int32)) dX12_readText_201 bp_61 ?_
    refine e_iload_n (pc := 203) dX12_readText_203 2 rfl rfl ?_
    refine e_iadd (pc := 204) dX12_readText_204 ?_
    refine e_sald (pc := 205) kk67 dX12_readText_205 (fun v11 => ?_)
    refine e_sast (pc := 206) kk67 dX12_readText_206 (fun w12 => ?_)
    refine e_aload_n (pc := 207) dX12_readText_207 0 rfl rfl ?_
    refine g_R (pc := 208) (cl' := 68) kk54 fl_X12_66 rfl dX12_readText_208 ?_
    refine e_bipush (pc := 211) (v := (61 : Int32)) dX12_readText_211 bp_61 ?_
    refine e_iload_n (pc := 213) dX12_readText_213 1 rfl rfl ?_
    refine e_imul (pc := 214) dX12_readText_214 ?_
    refine e_iload_n (pc := 215) dX12_readText_215 2 rfl rfl ?_
    refine e_iadd (pc := 216) dX12_readText_216 ?_
    refine e_aload_n (pc := 217) dX12_readText_217 0 rfl rfl ?_
    refine g_R (pc := 218) (cl' := 68) kk54 fl_X12_66 rfl dX12_readText_218 ?_
    refine e_bipush (pc := 221) (v := (61 : Int32)) dX12_readText_221 bp_61 ?_
    refine e_iload_n (pc := 223) dX12_readText_223 2 rfl rfl ?_
    refine e_iadd (pc := 224) dX12_readText_224 ?_
    refine e_sald (pc := 225) kk68 dX12_readText_225 (fun v13 => ?_)
    refine e_sast (pc := 226) kk68 dX12_readText_226 (fun w14 => ?_)
    refine e_iinc (pc := 227) (lv' := [(2, .int (x2 + (1 : Int32))), (0, .ref (xa X 54)), (1, .int x1)]) dX12_readText_227 2 rfl (ii_1 _) (Nat.le_of_ble_eq_true rfl) rfl ?_
    refine e_goto (pc := 230) (tgt := 177) dX12_readText_230 (by decide) ?_
    refine e_lv [1, 2, 0] rfl ?_
    exact hk177 x1 (x2 + (1 : Int32)) w14
theorem cb_X12_readText_b177 (X : Xt) : ∀ (n : Nat) (x1 : Int32) (x2 : Int32) (w : Wd), E gWI X m_X12_readText 85 177 [(0, .ref (xa X 54)), (1, .int x1), (2, .int x2)] [] w (f_X12_readText_b177 n x1 x2 w) := by
  intro n
  induction n with
  | zero =>
    intro x1 x2 w
    exact E_none
  | succ n ih =>
    intro x1 x2 w
    exact cb_X12_readText_b177_y X _ ih x1 x2 w
set_option maxRecDepth 100000 in
set_option maxHeartbeats 4000000 in
theorem cb_X12_readText_b105_y (X : Xt) (k105 : Int32 → Int32 → Wd → Option (Int32 × Wd)) (hk105 : ∀ (x1 : Int32) (x2 : Int32)  (w : Wd), E gWI X m_X12_readText 85 105 [(0, .ref (xa X 54)), (1, .int x1), (2, .int x2)] [] w (k105 x1 x2 w)) (x1 : Int32) (x2 : Int32) (w : Wd) : E gWI X m_X12_readText 85 105 [(0, .ref (xa X 54)), (1, .int x1), (2, .int x2)] [] w (f_X12_readText_b105_y k105 x1 x2 w) := by
  unfold f_X12_readText_b105_y
  refine e_iload_n (pc := 105) dX12_readText_105 2 rfl rfl ?_
  refine e_aload_n (pc := 106) dX12_readText_106 0 rfl rfl ?_
  refine g_I (pc := 107) kk54 fl_X12_181 dX12_readText_107 ?_
  refine e_icmp_ge (pc := 110) (tgt := 163) dX12_readText_110 (by decide) (fun _ => ?_) (fun _ => ?_)
  · refine e_aload_n (pc := 163) dX12_readText_163 0 rfl rfl ?_
    refine g_R (pc := 164) (cl' := 66) kk54 fl_X12_59 rfl dX12_readText_164 ?_
    refine e_iload_n (pc := 167) dX12_readText_167 1 rfl rfl ?_
    refine e_aload_n (pc := 168) dX12_readText_168 0 rfl rfl ?_
    refine g_R (pc := 169) (cl' := 66) kk54 fl_X12_59 rfl dX12_readText_169 ?_
    refine e_iconst (pc := 172) (v := (1 : Int32)) dX12_readText_172 ic_1 ?_
    refine e_iald (pc := 173) kk66 dX12_readText_173 (fun v8 => ?_)
    refine e_iast (pc := 174) kk66 dX12_readText_174 (fun w9 => ?_)
    refine e_iconst (pc := 175) (v := (0 : Int32)) dX12_readText_175 ic_0 ?_
    refine e_istore_n (pc := 176) (lv' := [(2, .int (0 : Int32)), (0, .ref (xa X 54)), (1, .int x1)]) dX12_readText_176 rfl (Nat.le_of_ble_eq_true rfl) rfl ?_
    refine e_lv [1, 2, 0] rfl ?_
    exact cb_X12_readText_b177 X fu x1 (0 : Int32) w9
  · refine e_aload_n (pc := 113) dX12_readText_113 0 rfl rfl ?_
    refine g_R (pc := 114) (cl' := 64) kk54 fl_X12_53 rfl dX12_readText_114 ?_
    refine e_sipush (pc := 117) (v := (130 : Int32)) dX12_readText_117 sp_130 ?_
    refine e_iload_n (pc := 120) dX12_readText_120 1 rfl rfl ?_
    refine e_imul (pc := 121) dX12_readText_121 ?_
    refine e_iload_n (pc := 122) dX12_readText_122 2 rfl rfl ?_
    refine e_iadd (pc := 123) dX12_readText_123 ?_
    refine e_aload_n (pc := 124) dX12_readText_124 0 rfl rfl ?_
    refine g_R (pc := 125) (cl' := 64) kk54 fl_X12_53 rfl dX12_readText_125 ?_
    refine e_sipush (pc := 128) (v := (130 : Int32)) dX12_readText_128 sp_130 ?_
    refine e_iload_n (pc := 131) dX12_readText_131 2 rfl rfl ?_
    refine e_iadd (pc := 132) dX12_readText_132 ?_
    refine e_bald (pc := 133) kk64 dX12_readText_133 (fun v15 => ?_)
    refine e_bast (pc := 134) kk64 dX12_readText_134 (fun w16 => ?_)
    refine e_aload_n (pc := 135) dX12_readText_135 0 rfl rfl ?_
    refine g_R (pc := 136) (cl' := 65) kk54 fl_X12_56 rfl dX12_readText_136 ?_
    refine e_sipush (pc := 139) (v := (130 : Int32)) dX12_readText_139 sp_130 ?_
    refine e_iload_n (pc := 142) dX12_readText_142 1 rfl rfl ?_
    refine e_imul (pc := 143) dX12_readText_143 ?_
    refine e_iload_n (pc := 144) dX12_readText_144 2 rfl rfl ?_
    refine e_iadd (pc := 145) dX12_readText_145 ?_
    refine e_aload_n (pc := 146) dX12_readText_146 0 rfl rfl ?_
    refine g_R (pc := 147) (cl' := 65) kk54 fl_X12_56 rfl dX12_readText_147 ?_
    refine e_sipush (pc := 150) (v := (130 : Int32)) dX12_readText_150 sp_130 ?_
    refine e_iload_n (pc := 153) dX12_readText_153 2 rfl rfl ?_
    refine e_iadd (pc := 154) dX12_readText_154 ?_
    refine e_iald (pc := 155) kk65 dX12_readText_155 (fun v17 => ?_)
    refine e_iast (pc := 156) kk65 dX12_readText_156 (fun w18 => ?_)
    refine e_iinc (pc := 157) (lv' := [(2, .int (x2 + (1 : Int32))), (0, .ref (xa X 54)), (1, .int x1)]) dX12_readText_157 2 rfl (ii_1 _) (Nat.le_of_ble_eq_true rfl) rfl ?_
    refine e_goto (pc := 160) (tgt := 105) dX12_readText_160 (by decide) ?_
    refine e_lv [1, 2, 0] rfl ?_
    exact hk105 x1 (x2 + (1 : Int32)) w18
theorem cb_X12_readText_b105 (X : Xt) : ∀ (n : Nat) (x1 : Int32) (x2 : Int32) (w : Wd), E gWI X m_X12_readText 85 105 [(0, .ref (xa X 54)), (1, .int x1), (2, .int x2)] [] w (f_X12_readText_b105 n x1 x2 w) := by
  intro n
  induction n with
  | zero =>
    intro x1 x2 w
    exact E_none
  | succ n ih =>
    intro x1 x2 w
    exact cb_X12_readText_b105_y X _ ih x1 x2 w
set_option maxRecDepth 100000 in
set_option maxHeartbeats 4000000 in
theorem cb_X12_readText_b86 (X : Xt) (x1 : Int32) (w : Wd) : E gWI X m_X12_readText 85 86 [(0, .ref (xa X 54)), (1, .int x1)] [] w (f_X12_readText_b86 x1 w) := by
  unfold f_X12_readText_b86
  refine e_aload_n (pc := 86) dX12_readText_86 0 rfl rfl ?_
  refine e_iconst (pc := 87) (v := (0 : Int32)) dX12_readText_87 ic_0 ?_
  refine p_I (pc := 88) kk54 fp_X12_172 dX12_readText_88 (fun w7 => ?_)
  refine e_aload_n (pc := 91) dX12_readText_91 0 rfl rfl ?_
  refine g_I (pc := 92) kk54 fl_X12_178 dX12_readText_92 ?_
  refine e_if_lt (pc := 95) (tgt := 103) dX12_readText_95 (by decide) (fun _ => ?_) (fun _ => ?_)
  · refine e_iconst (pc := 103) (v := (0 : Int32)) dX12_readText_103 ic_0 ?_
    refine e_istore_n (pc := 104) (lv' := [(2, .int (0 : Int32)), (0, .ref (xa X 54)), (1, .int x1)]) dX12_readText_104 rfl (Nat.le_of_ble_eq_true rfl) rfl ?_
    refine e_lv [1, 2, 0] rfl ?_
    exact cb_X12_readText_b105 X fu x1 (0 : Int32) w7
  · refine e_aload_n (pc := 98) dX12_readText_98 0 rfl rfl ?_
    refine g_I (pc := 99) kk54 fl_X12_178 dX12_readText_99 ?_
    exact e_iretW rfl dX12_readText_102
set_option maxRecDepth 100000 in
set_option maxHeartbeats 4000000 in
theorem cb_X12_readText_b64 (X : Xt) (x1 : Int32) (w : Wd) : E gWI X m_X12_readText 85 64 [(0, .ref (xa X 54)), (1, .int x1)] [] w (f_X12_readText_b64 x1 w) := by
  unfold f_X12_readText_b64
  refine e_aload_n (pc := 64) dX12_readText_64 0 rfl rfl ?_
  refine g_I (pc := 65) kk54 fl_X12_178 dX12_readText_65 ?_
  refine e_if_ge (pc := 68) (tgt := 86) dX12_readText_68 (by decide) (fun _ => ?_) (fun _ => ?_)
  · refine e_lv [0, 1] rfl ?_
    exact cb_X12_readText_b86 X x1 w
  · refine e_aload_n (pc := 71) dX12_readText_71 0 rfl rfl ?_
    refine g_I (pc := 72) kk54 fl_X12_175 dX12_readText_72 ?_
    refine e_aload_n (pc := 75) dX12_readText_75 0 rfl rfl ?_
    refine g_I (pc := 76) kk54 fl_X12_172 dX12_readText_76 ?_
    refine e_icmp_ge (pc := 79) (tgt := 86) dX12_readText_79 (by decide) (fun _ => ?_) (fun _ => ?_)
    · refine e_lv [0, 1] rfl ?_
      exact cb_X12_readText_b86 X x1 w
    · refine e_aload_n (pc := 82) dX12_readText_82 0 rfl rfl ?_
      refine e_callVWV (pc := 83) (As := []) (rest := []) kk54 Kc12 (cf_X12_faulty X w) lk_X12_187 (Nat.le_of_ble_eq_true rfl) (Nat.le_of_ble_eq_true rfl) rfl rfl (Nat.le_of_ble_eq_true rfl) dX12_readText_83 (fun w19 => ?_)
      refine e_lv [0, 1] rfl ?_
      exact cb_X12_readText_b86 X x1 w19
set_option maxRecDepth 100000 in
set_option maxHeartbeats 4000000 in
theorem cb_X12_readText_b31_y (X : Xt) (k31 : Int32 → Wd → Option (Int32 × Wd)) (hk31 : ∀ (x1 : Int32)  (w : Wd), E gWI X m_X12_readText 85 31 [(0, .ref (xa X 54)), (1, .int x1)] [] w (k31 x1 w)) (x1 : Int32) (w : Wd) : E gWI X m_X12_readText 85 31 [(0, .ref (xa X 54)), (1, .int x1)] [] w (f_X12_readText_b31_y k31 x1 w) := by
  unfold f_X12_readText_b31_y
  refine e_aload_n (pc := 31) dX12_readText_31 0 rfl rfl ?_
  refine g_I (pc := 32) kk54 fl_X12_178 dX12_readText_32 ?_
  refine e_if_ge (pc := 35) (tgt := 64) dX12_readText_35 (by decide) (fun _ => ?_) (fun _ => ?_)
  · refine e_lv [0, 1] rfl ?_
    exact cb_X12_readText_b64 X x1 w
  · refine e_aload_n (pc := 38) dX12_readText_38 0 rfl rfl ?_
    refine e_callVRI (pc := 39) (As := []) (rest := []) kk54 Kc12 (cf_X12_looksOn X w) lk_X12_190 (Nat.le_of_ble_eq_true rfl) (Nat.le_of_ble_eq_true rfl) rfl rfl (Nat.le_of_ble_eq_true rfl) dX12_readText_39 (fun r20 => ?_)
    refine e_bipush (pc := 42) (v := (59 : Int32)) dX12_readText_42 bp_59 ?_
    refine e_icmp_ne (pc := 44) (tgt := 64) dX12_readText_44 (by decide) (fun _ => ?_) (fun _ => ?_)
    · refine e_aload_n (pc := 47) dX12_readText_47 0 rfl rfl ?_
      refine e_dup (pc := 48) dX12_readText_48 rfl ?_
      refine g_I (pc := 49) kk54 fl_X12_175 dX12_readText_49 ?_
      refine e_iconst (pc := 52) (v := (1 : Int32)) dX12_readText_52 ic_1 ?_
      refine e_iadd (pc := 53) dX12_readText_53 ?_
      refine p_I (pc := 54) kk54 fp_X12_175 dX12_readText_54 (fun w21 => ?_)
      refine e_aload_n (pc := 57) dX12_readText_57 0 rfl rfl ?_
      refine e_callVWV (pc := 58) (As := []) (rest := []) kk54 Kc12 (cf_X12_line X w21) lk_X12_227 (Nat.le_of_ble_eq_true rfl) (Nat.le_of_ble_eq_true rfl) rfl rfl (Nat.le_of_ble_eq_true rfl) dX12_readText_58 (fun w22 => ?_)
      refine e_goto (pc := 61) (tgt := 31) dX12_readText_61 (by decide) ?_
      refine e_lv [0, 1] rfl ?_
      exact hk31 x1 w22
    · refine e_lv [0, 1] rfl ?_
      exact cb_X12_readText_b64 X x1 w
theorem cb_X12_readText_b31 (X : Xt) : ∀ (n : Nat) (x1 : Int32) (w : Wd), E gWI X m_X12_readText 85 31 [(0, .ref (xa X 54)), (1, .int x1)] [] w (f_X12_readText_b31 n x1 w) := by
  intro n
  induction n with
  | zero =>
    intro x1 w
    exact E_none
  | succ n ih =>
    intro x1 w
    exact cb_X12_readText_b31_y X _ ih x1 w
set_option maxRecDepth 100000 in
set_option maxHeartbeats 4000000 in
theorem ce_X12_readText (X : Xt) (a1 : Int32) (w : Wd) : E gWI X m_X12_readText 85 0 [(0, .ref (xa X 54)), (1, .int a1)] [] w (f_X12_readText a1 w) := by
  unfold f_X12_readText
  refine e_aload_n (pc := 0) dX12_readText_0 0 rfl rfl ?_
  refine e_iconst (pc := 1) (v := (0 : Int32)) dX12_readText_1 ic_0 ?_
  refine p_I (pc := 2) kk54 fp_X12_175 dX12_readText_2 (fun w1 => ?_)
  refine e_aload_n (pc := 5) dX12_readText_5 0 rfl rfl ?_
  refine e_iconst (pc := 6) (v := (-1 : Int32)) dX12_readText_6 ic_m1 ?_
  refine p_I (pc := 7) kk54 fp_X12_178 dX12_readText_7 (fun w2 => ?_)
  refine e_aload_n (pc := 10) dX12_readText_10 0 rfl rfl ?_
  refine e_iconst (pc := 11) (v := (0 : Int32)) dX12_readText_11 ic_0 ?_
  refine p_I (pc := 12) kk54 fp_X12_184 dX12_readText_12 (fun w3 => ?_)
  refine e_aload_n (pc := 15) dX12_readText_15 0 rfl rfl ?_
  refine e_iconst (pc := 16) (v := (0 : Int32)) dX12_readText_16 ic_0 ?_
  refine p_I (pc := 17) kk54 fp_X12_181 dX12_readText_17 (fun w4 => ?_)
  refine e_aload_n (pc := 20) dX12_readText_20 0 rfl rfl ?_
  refine g_R (pc := 21) (cl' := 66) kk54 fl_X12_59 rfl dX12_readText_21 ?_
  refine e_iconst (pc := 24) (v := (1 : Int32)) dX12_readText_24 ic_1 ?_
  refine e_iconst (pc := 25) (v := (0 : Int32)) dX12_readText_25 ic_0 ?_
  refine e_iast (pc := 26) kk66 dX12_readText_26 (fun w5 => ?_)
  refine e_aload_n (pc := 27) dX12_readText_27 0 rfl rfl ?_
  refine e_callVWV (pc := 28) (As := []) (rest := []) kk54 Kc12 (cf_X12_line X w5) lk_X12_227 (Nat.le_of_ble_eq_true rfl) (Nat.le_of_ble_eq_true rfl) rfl rfl (Nat.le_of_ble_eq_true rfl) dX12_readText_28 (fun w6 => ?_)
  refine e_lv [0, 1] rfl ?_
  exact cb_X12_readText_b31 X fu a1 w6
theorem cf_X12_readText (X : Xt) (a1 : Int32) (w : Wd) : CF gWI X m_X12_readText 85 [.ref (xa X 54), .int a1] w (f_X12_readText a1 w) := CF_of (by decide) (Nat.le_of_ble_eq_true rfl) (ce_X12_readText X a1 w)
set_option maxRecDepth 100000 in
set_option maxHeartbeats 4000000 in
theorem cb_X12_twoOf_b218 (X : Xt) (w : Wd) (x1 : Int32) (x2 : Int32) : E (gRI w) X m_X12_twoOf 1 218 [(1, .int x1), (2, .int x2)] [] w (f_X12_twoOf_b218 x1 x2) := by
  unfold f_X12_twoOf_b218
  refine e_iload_n (pc := 218) dX12_twoOf_218 0 rfl rfl ?_
  refine e_if_ne (pc := 219) (tgt := 226) dX12_twoOf_219 (by decide) (fun _ => ?_) (fun _ => ?_)
  · refine e_iload_n (pc := 222) dX12_twoOf_222 1 rfl rfl ?_
    refine e_if_eq (pc := 223) (tgt := 230) dX12_twoOf_223 (by decide) (fun _ => ?_) (fun _ => ?_)
    · refine e_iconst (pc := 230) (v := (0 : Int32)) dX12_twoOf_230 ic_0 ?_
      exact e_iretR rfl dX12_twoOf_231
    · refine e_iconst (pc := 226) (v := (1 : Int32)) dX12_twoOf_226 ic_1 ?_
      refine e_goto (pc := 227) (tgt := 231) dX12_twoOf_227 (by decide) ?_
      exact e_iretR rfl dX12_twoOf_231
  · refine e_iconst (pc := 226) (v := (1 : Int32)) dX12_twoOf_226 ic_1 ?_
    refine e_goto (pc := 227) (tgt := 231) dX12_twoOf_227 (by decide) ?_
    exact e_iretR rfl dX12_twoOf_231
set_option maxRecDepth 100000 in
set_option maxHeartbeats 4000000 in
theorem ce_X12_twoOf (X : Xt) (a0 : Int32) (a1 : Int32) (a2 : Int32) (w : Wd) : E (gRI w) X m_X12_twoOf 1 0 [(0, .int a0), (1, .int a1), (2, .int a2)] [] w (f_X12_twoOf a0 a1 a2) := by
  unfold f_X12_twoOf
  refine e_iload_n (pc := 0) dX12_twoOf_0 0 rfl rfl ?_
  refine e_ite (fun h1_37 => ?_) (fun h1_37 => ?_)
  · refine e_tabIn (pc := 1) (off := 153) (tgt := 154) dX12_twoOf_1 (by rw [h1_37]; decide) (by rw [h1_37]; decide) (by rw [h1_37]; decide) (by decide) ?_
    refine e_iload_n (pc := 154) dX12_twoOf_154 2 rfl rfl ?_
    refine e_if_eq (pc := 155) (tgt := 163) dX12_twoOf_155 (by decide) (fun _ => ?_) (fun _ => ?_)
    · refine e_iconst (pc := 163) (v := (0 : Int32)) dX12_twoOf_163 ic_0 ?_
      refine e_goto (pc := 164) (tgt := 170) dX12_twoOf_164 (by decide) ?_
      exact e_iretR rfl dX12_twoOf_170
    · refine e_iload_n (pc := 158) dX12_twoOf_158 2 rfl rfl ?_
      refine e_iconst (pc := 159) (v := (-1 : Int32)) dX12_twoOf_159 ic_m1 ?_
      refine e_icmp_ne (pc := 160) (tgt := 167) dX12_twoOf_160 (by decide) (fun _ => ?_) (fun _ => ?_)
      · refine e_iconst (pc := 163) (v := (0 : Int32)) dX12_twoOf_163 ic_0 ?_
        refine e_goto (pc := 164) (tgt := 170) dX12_twoOf_164 (by decide) ?_
        exact e_iretR rfl dX12_twoOf_170
      · refine e_iload_n (pc := 167) dX12_twoOf_167 1 rfl rfl ?_
        refine e_iload_n (pc := 168) dX12_twoOf_168 2 rfl rfl ?_
        refine e_iremG (pc := 169) dX12_twoOf_169 (fun v1 => ?_)
        exact e_iretR rfl dX12_twoOf_170
  · refine e_ite (fun h1_38 => ?_) (fun h1_38 => ?_)
    · refine e_tabIn (pc := 1) (off := 203) (tgt := 204) dX12_twoOf_1 (by rw [h1_38]; decide) (by rw [h1_38]; decide) (by rw [h1_38]; decide) (by decide) ?_
      refine e_iload_n (pc := 204) dX12_twoOf_204 1 rfl rfl ?_
      refine e_if_eq (pc := 205) (tgt := 216) dX12_twoOf_205 (by decide) (fun _ => ?_) (fun _ => ?_)
      · refine e_iconst (pc := 216) (v := (0 : Int32)) dX12_twoOf_216 ic_0 ?_
        exact e_iretR rfl dX12_twoOf_217
      · refine e_iload_n (pc := 208) dX12_twoOf_208 2 rfl rfl ?_
        refine e_if_eq (pc := 209) (tgt := 216) dX12_twoOf_209 (by decide) (fun _ => ?_) (fun _ => ?_)
        · refine e_iconst (pc := 216) (v := (0 : Int32)) dX12_twoOf_216 ic_0 ?_
          exact e_iretR rfl dX12_twoOf_217
        · refine e_iconst (pc := 212) (v := (1 : Int32)) dX12_twoOf_212 ic_1 ?_
          refine e_goto (pc := 213) (tgt := 217) dX12_twoOf_213 (by decide) ?_
          exact e_iretR rfl dX12_twoOf_217
    · refine e_ite (fun h1_42 => ?_) (fun h1_42 => ?_)
      · refine e_tabIn (pc := 1) (off := 127) (tgt := 128) dX12_twoOf_1 (by rw [h1_42]; decide) (by rw [h1_42]; decide) (by rw [h1_42]; decide) (by decide) ?_
        refine e_iload_n (pc := 128) dX12_twoOf_128 1 rfl rfl ?_
        refine e_iload_n (pc := 129) dX12_twoOf_129 2 rfl rfl ?_
        refine e_imul (pc := 130) dX12_twoOf_130 ?_
        exact e_iretR rfl dX12_twoOf_131
      · refine e_ite (fun h1_43 => ?_) (fun h1_43 => ?_)
        · refine e_tabIn (pc := 1) (off := 119) (tgt := 120) dX12_twoOf_1 (by rw [h1_43]; decide) (by rw [h1_43]; decide) (by rw [h1_43]; decide) (by decide) ?_
          refine e_iload_n (pc := 120) dX12_twoOf_120 1 rfl rfl ?_
          refine e_iload_n (pc := 121) dX12_twoOf_121 2 rfl rfl ?_
          refine e_iadd (pc := 122) dX12_twoOf_122 ?_
          exact e_iretR rfl dX12_twoOf_123
        · refine e_ite (fun h1_45 => ?_) (fun h1_45 => ?_)
          · refine e_tabIn (pc := 1) (off := 123) (tgt := 124) dX12_twoOf_1 (by rw [h1_45]; decide) (by rw [h1_45]; decide) (by rw [h1_45]; decide) (by decide) ?_
            refine e_iload_n (pc := 124) dX12_twoOf_124 1 rfl rfl ?_
            refine e_iload_n (pc := 125) dX12_twoOf_125 2 rfl rfl ?_
            refine e_isub (pc := 126) dX12_twoOf_126 ?_
            exact e_iretR rfl dX12_twoOf_127
          · refine e_ite (fun h1_47 => ?_) (fun h1_47 => ?_)
            · refine e_tabIn (pc := 1) (off := 131) (tgt := 132) dX12_twoOf_1 (by rw [h1_47]; decide) (by rw [h1_47]; decide) (by rw [h1_47]; decide) (by decide) ?_
              refine e_iload_n (pc := 132) dX12_twoOf_132 2 rfl rfl ?_
              refine e_if_ne (pc := 133) (tgt := 140) dX12_twoOf_133 (by decide) (fun _ => ?_) (fun _ => ?_)
              · refine e_iconst (pc := 136) (v := (0 : Int32)) dX12_twoOf_136 ic_0 ?_
                refine e_goto (pc := 137) (tgt := 153) dX12_twoOf_137 (by decide) ?_
                exact e_iretR rfl dX12_twoOf_153
              · refine e_iload_n (pc := 140) dX12_twoOf_140 2 rfl rfl ?_
                refine e_iconst (pc := 141) (v := (-1 : Int32)) dX12_twoOf_141 ic_m1 ?_
                refine e_icmp_ne (pc := 142) (tgt := 150) dX12_twoOf_142 (by decide) (fun _ => ?_) (fun _ => ?_)
                · refine e_iload_n (pc := 145) dX12_twoOf_145 1 rfl rfl ?_
                  refine e_ineg (pc := 146) dX12_twoOf_146 ?_
                  refine e_goto (pc := 147) (tgt := 153) dX12_twoOf_147 (by decide) ?_
                  exact e_iretR rfl dX12_twoOf_153
                · refine e_iload_n (pc := 150) dX12_twoOf_150 1 rfl rfl ?_
                  refine e_iload_n (pc := 151) dX12_twoOf_151 2 rfl rfl ?_
                  refine e_idivG (pc := 152) dX12_twoOf_152 (fun v2 => ?_)
                  exact e_iretR rfl dX12_twoOf_153
            · refine e_ite (fun h1_60 => ?_) (fun h1_60 => ?_)
              · refine e_tabIn (pc := 1) (off := 170) (tgt := 171) dX12_twoOf_1 (by rw [h1_60]; decide) (by rw [h1_60]; decide) (by rw [h1_60]; decide) (by decide) ?_
                refine e_iload_n (pc := 171) dX12_twoOf_171 1 rfl rfl ?_
                refine e_iload_n (pc := 172) dX12_twoOf_172 2 rfl rfl ?_
                refine e_icmp_ge (pc := 173) (tgt := 180) dX12_twoOf_173 (by decide) (fun _ => ?_) (fun _ => ?_)
                · refine e_iconst (pc := 180) (v := (0 : Int32)) dX12_twoOf_180 ic_0 ?_
                  exact e_iretR rfl dX12_twoOf_181
                · refine e_iconst (pc := 176) (v := (1 : Int32)) dX12_twoOf_176 ic_1 ?_
                  refine e_goto (pc := 177) (tgt := 181) dX12_twoOf_177 (by decide) ?_
                  exact e_iretR rfl dX12_twoOf_181
              · refine e_ite (fun h1_61 => ?_) (fun h1_61 => ?_)
                · refine e_tabIn (pc := 1) (off := 181) (tgt := 182) dX12_twoOf_1 (by rw [h1_61]; decide) (by rw [h1_61]; decide) (by rw [h1_61]; decide) (by decide) ?_
                  refine e_iload_n (pc := 182) dX12_twoOf_182 1 rfl rfl ?_
                  refine e_iload_n (pc := 183) dX12_twoOf_183 2 rfl rfl ?_
                  refine e_icmp_ne (pc := 184) (tgt := 191) dX12_twoOf_184 (by decide) (fun _ => ?_) (fun _ => ?_)
                  · refine e_iconst (pc := 187) (v := (1 : Int32)) dX12_twoOf_187 ic_1 ?_
                    refine e_goto (pc := 188) (tgt := 192) dX12_twoOf_188 (by decide) ?_
                    exact e_iretR rfl dX12_twoOf_192
                  · refine e_iconst (pc := 191) (v := (0 : Int32)) dX12_twoOf_191 ic_0 ?_
                    exact e_iretR rfl dX12_twoOf_192
                · refine e_ite (fun h1_62 => ?_) (fun h1_62 => ?_)
                  · refine e_tabIn (pc := 1) (off := 192) (tgt := 193) dX12_twoOf_1 (by rw [h1_62]; decide) (by rw [h1_62]; decide) (by rw [h1_62]; decide) (by decide) ?_
                    refine e_iload_n (pc := 193) dX12_twoOf_193 1 rfl rfl ?_
                    refine e_iload_n (pc := 194) dX12_twoOf_194 2 rfl rfl ?_
                    refine e_icmp_le (pc := 195) (tgt := 202) dX12_twoOf_195 (by decide) (fun _ => ?_) (fun _ => ?_)
                    · refine e_iconst (pc := 202) (v := (0 : Int32)) dX12_twoOf_202 ic_0 ?_
                      exact e_iretR rfl dX12_twoOf_203
                    · refine e_iconst (pc := 198) (v := (1 : Int32)) dX12_twoOf_198 ic_1 ?_
                      refine e_goto (pc := 199) (tgt := 203) dX12_twoOf_199 (by decide) ?_
                      exact e_iretR rfl dX12_twoOf_203
                  · by_cases q0 : (a0).toInt < 37 ∨ 62 < (a0).toInt
                    · refine e_tabOut (pc := 1) (tgt := 218) dX12_twoOf_1 q0 (by decide) ?_
                      refine e_lv [1, 2] rfl ?_
                      exact cb_X12_twoOf_b218 X w a1 a2
                    · by_cases q39 : a0 = (39 : Int32)
                      · refine e_tabIn (pc := 1) (off := 217) (tgt := 218) dX12_twoOf_1 (by rw [q39]; decide) (by rw [q39]; decide) (by rw [q39]; decide) (by decide) ?_
                        refine e_lv [1, 2] rfl ?_
                        exact cb_X12_twoOf_b218 X w a1 a2
                      · by_cases q40 : a0 = (40 : Int32)
                        · refine e_tabIn (pc := 1) (off := 217) (tgt := 218) dX12_twoOf_1 (by rw [q40]; decide) (by rw [q40]; decide) (by rw [q40]; decide) (by decide) ?_
                          refine e_lv [1, 2] rfl ?_
                          exact cb_X12_twoOf_b218 X w a1 a2
                        · by_cases q41 : a0 = (41 : Int32)
                          · refine e_tabIn (pc := 1) (off := 217) (tgt := 218) dX12_twoOf_1 (by rw [q41]; decide) (by rw [q41]; decide) (by rw [q41]; decide) (by decide) ?_
                            refine e_lv [1, 2] rfl ?_
                            exact cb_X12_twoOf_b218 X w a1 a2
                          · by_cases q44 : a0 = (44 : Int32)
                            · refine e_tabIn (pc := 1) (off := 217) (tgt := 218) dX12_twoOf_1 (by rw [q44]; decide) (by rw [q44]; decide) (by rw [q44]; decide) (by decide) ?_
                              refine e_lv [1, 2] rfl ?_
                              exact cb_X12_twoOf_b218 X w a1 a2
                            · by_cases q46 : a0 = (46 : Int32)
                              · refine e_tabIn (pc := 1) (off := 217) (tgt := 218) dX12_twoOf_1 (by rw [q46]; decide) (by rw [q46]; decide) (by rw [q46]; decide) (by decide) ?_
                                refine e_lv [1, 2] rfl ?_
                                exact cb_X12_twoOf_b218 X w a1 a2
                              · by_cases q48 : a0 = (48 : Int32)
                                · refine e_tabIn (pc := 1) (off := 217) (tgt := 218) dX12_twoOf_1 (by rw [q48]; decide) (by rw [q48]; decide) (by rw [q48]; decide) (by decide) ?_
                                  refine e_lv [1, 2] rfl ?_
                                  exact cb_X12_twoOf_b218 X w a1 a2
                                · by_cases q49 : a0 = (49 : Int32)
                                  · refine e_tabIn (pc := 1) (off := 217) (tgt := 218) dX12_twoOf_1 (by rw [q49]; decide) (by rw [q49]; decide) (by rw [q49]; decide) (by decide) ?_
                                    refine e_lv [1, 2] rfl ?_
                                    exact cb_X12_twoOf_b218 X w a1 a2
                                  · by_cases q50 : a0 = (50 : Int32)
                                    · refine e_tabIn (pc := 1) (off := 217) (tgt := 218) dX12_twoOf_1 (by rw [q50]; decide) (by rw [q50]; decide) (by rw [q50]; decide) (by decide) ?_
                                      refine e_lv [1, 2] rfl ?_
                                      exact cb_X12_twoOf_b218 X w a1 a2
                                    · by_cases q51 : a0 = (51 : Int32)
                                      · refine e_tabIn (pc := 1) (off := 217) (tgt := 218) dX12_twoOf_1 (by rw [q51]; decide) (by rw [q51]; decide) (by rw [q51]; decide) (by decide) ?_
                                        refine e_lv [1, 2] rfl ?_
                                        exact cb_X12_twoOf_b218 X w a1 a2
                                      · by_cases q52 : a0 = (52 : Int32)
                                        · refine e_tabIn (pc := 1) (off := 217) (tgt := 218) dX12_twoOf_1 (by rw [q52]; decide) (by rw [q52]; decide) (by rw [q52]; decide) (by decide) ?_
                                          refine e_lv [1, 2] rfl ?_
                                          exact cb_X12_twoOf_b218 X w a1 a2
                                        · by_cases q53 : a0 = (53 : Int32)
                                          · refine e_tabIn (pc := 1) (off := 217) (tgt := 218) dX12_twoOf_1 (by rw [q53]; decide) (by rw [q53]; decide) (by rw [q53]; decide) (by decide) ?_
                                            refine e_lv [1, 2] rfl ?_
                                            exact cb_X12_twoOf_b218 X w a1 a2
                                          · by_cases q54 : a0 = (54 : Int32)
                                            · refine e_tabIn (pc := 1) (off := 217) (tgt := 218) dX12_twoOf_1 (by rw [q54]; decide) (by rw [q54]; decide) (by rw [q54]; decide) (by decide) ?_
                                              refine e_lv [1, 2] rfl ?_
                                              exact cb_X12_twoOf_b218 X w a1 a2
                                            · by_cases q55 : a0 = (55 : Int32)
                                              · refine e_tabIn (pc := 1) (off := 217) (tgt := 218) dX12_twoOf_1 (by rw [q55]; decide) (by rw [q55]; decide) (by rw [q55]; decide) (by decide) ?_
                                                refine e_lv [1, 2] rfl ?_
                                                exact cb_X12_twoOf_b218 X w a1 a2
                                              · by_cases q56 : a0 = (56 : Int32)
                                                · refine e_tabIn (pc := 1) (off := 217) (tgt := 218) dX12_twoOf_1 (by rw [q56]; decide) (by rw [q56]; decide) (by rw [q56]; decide) (by decide) ?_
                                                  refine e_lv [1, 2] rfl ?_
                                                  exact cb_X12_twoOf_b218 X w a1 a2
                                                · by_cases q57 : a0 = (57 : Int32)
                                                  · refine e_tabIn (pc := 1) (off := 217) (tgt := 218) dX12_twoOf_1 (by rw [q57]; decide) (by rw [q57]; decide) (by rw [q57]; decide) (by decide) ?_
                                                    refine e_lv [1, 2] rfl ?_
                                                    exact cb_X12_twoOf_b218 X w a1 a2
                                                  · by_cases q58 : a0 = (58 : Int32)
                                                    · refine e_tabIn (pc := 1) (off := 217) (tgt := 218) dX12_twoOf_1 (by rw [q58]; decide) (by rw [q58]; decide) (by rw [q58]; decide) (by decide) ?_
                                                      refine e_lv [1, 2] rfl ?_
                                                      exact cb_X12_twoOf_b218 X w a1 a2
                                                    · by_cases q59 : a0 = (59 : Int32)
                                                      · refine e_tabIn (pc := 1) (off := 217) (tgt := 218) dX12_twoOf_1 (by rw [q59]; decide) (by rw [q59]; decide) (by rw [q59]; decide) (by decide) ?_
                                                        refine e_lv [1, 2] rfl ?_
                                                        exact cb_X12_twoOf_b218 X w a1 a2
                                                      · have z37 := lv_neT h1_37 (show (37 : Int32).toInt = 37 by decide)
                                                        have z38 := lv_neT h1_38 (show (38 : Int32).toInt = 38 by decide)
                                                        have z42 := lv_neT h1_42 (show (42 : Int32).toInt = 42 by decide)
                                                        have z43 := lv_neT h1_43 (show (43 : Int32).toInt = 43 by decide)
                                                        have z45 := lv_neT h1_45 (show (45 : Int32).toInt = 45 by decide)
                                                        have z47 := lv_neT h1_47 (show (47 : Int32).toInt = 47 by decide)
                                                        have z60 := lv_neT h1_60 (show (60 : Int32).toInt = 60 by decide)
                                                        have z61 := lv_neT h1_61 (show (61 : Int32).toInt = 61 by decide)
                                                        have z62 := lv_neT h1_62 (show (62 : Int32).toInt = 62 by decide)
                                                        have z39 := lv_neT q39 (show (39 : Int32).toInt = 39 by decide)
                                                        have z40 := lv_neT q40 (show (40 : Int32).toInt = 40 by decide)
                                                        have z41 := lv_neT q41 (show (41 : Int32).toInt = 41 by decide)
                                                        have z44 := lv_neT q44 (show (44 : Int32).toInt = 44 by decide)
                                                        have z46 := lv_neT q46 (show (46 : Int32).toInt = 46 by decide)
                                                        have z48 := lv_neT q48 (show (48 : Int32).toInt = 48 by decide)
                                                        have z49 := lv_neT q49 (show (49 : Int32).toInt = 49 by decide)
                                                        have z50 := lv_neT q50 (show (50 : Int32).toInt = 50 by decide)
                                                        have z51 := lv_neT q51 (show (51 : Int32).toInt = 51 by decide)
                                                        have z52 := lv_neT q52 (show (52 : Int32).toInt = 52 by decide)
                                                        have z53 := lv_neT q53 (show (53 : Int32).toInt = 53 by decide)
                                                        have z54 := lv_neT q54 (show (54 : Int32).toInt = 54 by decide)
                                                        have z55 := lv_neT q55 (show (55 : Int32).toInt = 55 by decide)
                                                        have z56 := lv_neT q56 (show (56 : Int32).toInt = 56 by decide)
                                                        have z57 := lv_neT q57 (show (57 : Int32).toInt = 57 by decide)
                                                        have z58 := lv_neT q58 (show (58 : Int32).toInt = 58 by decide)
                                                        have z59 := lv_neT q59 (show (59 : Int32).toInt = 59 by decide)
                                                        exfalso
                                                        omega
theorem cf_X12_twoOf (X : Xt) (a0 : Int32) (a1 : Int32) (a2 : Int32) (w : Wd) : CF (gRI w) X m_X12_twoOf 1 [.int a0, .int a1, .int a2] w (f_X12_twoOf a0 a1 a2) := CF_of (by decide) (Nat.le_of_ble_eq_true rfl) (ce_X12_twoOf X a0 a1 a2 w)
set_option maxRecDepth 100000 in
set_option maxHeartbeats 4000000 in
theorem cb_X12_worked_b182 (X : Xt) (k12 : Int32 → Int32 → Int32 → Int32 → Wd → Option (Int32 × Wd)) (hk12 : ∀ (x1 : Int32) (x3 : Int32) (x4 : Int32) (x5 : Int32)  (w : Wd), E gWI X m_X12_worked 2 12 [(0, .ref (xa X 54)), (1, .int x1), (3, .int x3), (4, .int x4), (5, .int x5)] [] w (k12 x1 x3 x4 x5 w)) (x1 : Int32) (x3 : Int32) (x4 : Int32) (x5 : Int32) (w : Wd) : E gWI X m_X12_worked 2 182 [(0, .ref (xa X 54)), (1, .int x1), (3, .int x3), (4, .int x4), (5, .int x5)] [] w (f_X12_worked_b182 k12 x1 x3 x4 x5 w) := by
  unfold f_X12_worked_b182
  refine e_iinc (pc := 182) (lv' := [(5, .int (x5 + (1 : Int32))), (0, .ref (xa X 54)), (1, .int x1), (3, .int x3), (4, .int x4)]) dX12_worked_182 4 rfl (ii_1 _) (Nat.le_of_ble_eq_true rfl) rfl ?_
  refine e_goto (pc := 185) (tgt := 12) dX12_worked_185 (by decide) ?_
  refine e_lv [1, 2, 3, 4, 0] rfl ?_
  exact hk12 x1 x3 x4 (x5 + (1 : Int32)) w
set_option maxRecDepth 100000 in
set_option maxHeartbeats 4000000 in
theorem cb_X12_worked_b79 (X : Xt) (k12 : Int32 → Int32 → Int32 → Int32 → Wd → Option (Int32 × Wd)) (hk12 : ∀ (x1 : Int32) (x3 : Int32) (x4 : Int32) (x5 : Int32)  (w : Wd), E gWI X m_X12_worked 2 12 [(0, .ref (xa X 54)), (1, .int x1), (3, .int x3), (4, .int x4), (5, .int x5)] [] w (k12 x1 x3 x4 x5 w)) (x1 : Int32) (x3 : Int32) (x4 : Int32) (x5 : Int32) (s0 : Int32) (s1 : Int32) (w : Wd) : E gWI X m_X12_worked 2 79 [(0, .ref (xa X 54)), (1, .int x1), (3, .int x3), (4, .int x4), (5, .int x5)] [.int s0, .int s1, .ref (xa X 70)] w (f_X12_worked_b79 k12 x1 x3 x4 x5 s0 s1 w) := by
  unfold f_X12_worked_b79
  refine e_iast (pc := 79) kk70 dX12_worked_79 (fun w6 => ?_)
  refine e_iinc (pc := 80) (lv' := [(4, .int (x4 + (1 : Int32))), (0, .ref (xa X 54)), (1, .int x1), (3, .int x3), (5, .int x5)]) dX12_worked_80 3 rfl (ii_1 _) (Nat.le_of_ble_eq_true rfl) rfl ?_
  refine e_goto (pc := 83) (tgt := 182) dX12_worked_83 (by decide) ?_
  refine e_lv [1, 2, 3, 0, 4] rfl ?_
  exact cb_X12_worked_b182 X k12 hk12 x1 x3 (x4 + (1 : Int32)) x5 w6
set_option maxRecDepth 100000 in
set_option maxHeartbeats 4000000 in
theorem cb_X12_worked_b45 (X : Xt) (k12 : Int32 → Int32 → Int32 → Int32 → Wd → Option (Int32 × Wd)) (hk12 : ∀ (x1 : Int32) (x3 : Int32) (x4 : Int32) (x5 : Int32)  (w : Wd), E gWI X m_X12_worked 2 12 [(0, .ref (xa X 54)), (1, .int x1), (3, .int x3), (4, .int x4), (5, .int x5)] [] w (k12 x1 x3 x4 x5 w)) (x1 : Int32) (x3 : Int32) (x4 : Int32) (x5 : Int32) (x6 : Int32) (w : Wd) : E gWI X m_X12_worked 2 45 [(0, .ref (xa X 54)), (1, .int x1), (3, .int x3), (4, .int x4), (5, .int x5), (6, .int x6)] [] w (f_X12_worked_b45 k12 x1 x3 x4 x5 x6 w) := by
  unfold f_X12_worked_b45
  refine e_aload_n (pc := 45) dX12_worked_45 0 rfl rfl ?_
  refine g_R (pc := 46) (cl' := 70) kk54 fl_X12_72 rfl dX12_worked_46 ?_
  refine e_iload (pc := 49) dX12_worked_49 3 rfl ?_
  refine e_iload (pc := 51) dX12_worked_51 5 rfl ?_
  refine e_iconst (pc := 53) (v := (1 : Int32)) dX12_worked_53 ic_1 ?_
  refine e_icmp_ne (pc := 54) (tgt := 67) dX12_worked_54 (by decide) (fun _ => ?_) (fun _ => ?_)
  · refine e_aload_n (pc := 57) dX12_worked_57 0 rfl rfl ?_
    refine g_R (pc := 58) (cl' := 65) kk54 fl_X12_56 rfl dX12_worked_58 ?_
    refine e_iload (pc := 61) dX12_worked_61 4 rfl ?_
    refine e_iald (pc := 63) kk65 dX12_worked_63 (fun v7 => ?_)
    refine e_goto (pc := 64) (tgt := 79) dX12_worked_64 (by decide) ?_
    refine e_lv [0, 1, 2, 3, 4] rfl ?_
    exact cb_X12_worked_b79 X k12 hk12 x1 x3 x4 x5 v7 x4 w
  · refine e_aload_n (pc := 67) dX12_worked_67 0 rfl rfl ?_
    refine g_R (pc := 68) (cl' := 69) kk54 fl_X12_69 rfl dX12_worked_68 ?_
    refine e_aload_n (pc := 71) dX12_worked_71 0 rfl rfl ?_
    refine g_R (pc := 72) (cl' := 65) kk54 fl_X12_56 rfl dX12_worked_72 ?_
    refine e_iload (pc := 75) dX12_worked_75 4 rfl ?_
    refine e_iald (pc := 77) kk65 dX12_worked_77 (fun v4 => ?_)
    refine e_iald (pc := 78) kk69 dX12_worked_78 (fun v5 => ?_)
    refine e_lv [0, 1, 2, 3, 4] rfl ?_
    exact cb_X12_worked_b79 X k12 hk12 x1 x3 x4 x5 v5 x4 w
set_option maxRecDepth 100000 in
set_option maxHeartbeats 4000000 in
theorem cb_X12_worked_b117 (X : Xt) (k12 : Int32 → Int32 → Int32 → Int32 → Wd → Option (Int32 × Wd)) (hk12 : ∀ (x1 : Int32) (x3 : Int32) (x4 : Int32) (x5 : Int32)  (w : Wd), E gWI X m_X12_worked 2 12 [(0, .ref (xa X 54)), (1, .int x1), (3, .int x3), (4, .int x4), (5, .int x5)] [] w (k12 x1 x3 x4 x5 w)) (x1 : Int32) (x3 : Int32) (x4 : Int32) (x5 : Int32) (s0 : Int32) (s1 : Int32) (w : Wd) : E gWI X m_X12_worked 2 117 [(0, .ref (xa X 54)), (1, .int x1), (3, .int x3), (4, .int x4), (5, .int x5)] [.int s0, .int s1, .ref (xa X 70)] w (f_X12_worked_b117 k12 x1 x3 x4 x5 s0 s1 w) := by
  unfold f_X12_worked_b117
  refine e_iast (pc := 117) kk70 dX12_worked_117 (fun w15 => ?_)
  refine e_goto (pc := 118) (tgt := 182) dX12_worked_118 (by decide) ?_
  refine e_lv [0, 1, 2, 3, 4] rfl ?_
  exact cb_X12_worked_b182 X k12 hk12 x1 x3 x4 x5 w15
set_option maxRecDepth 100000 in
set_option maxHeartbeats 4000000 in
theorem cb_X12_worked_b12_y (X : Xt) (k12 : Int32 → Int32 → Int32 → Int32 → Wd → Option (Int32 × Wd)) (hk12 : ∀ (x1 : Int32) (x3 : Int32) (x4 : Int32) (x5 : Int32)  (w : Wd), E gWI X m_X12_worked 2 12 [(0, .ref (xa X 54)), (1, .int x1), (3, .int x3), (4, .int x4), (5, .int x5)] [] w (k12 x1 x3 x4 x5 w)) (x1 : Int32) (x3 : Int32) (x4 : Int32) (x5 : Int32) (w : Wd) : E gWI X m_X12_worked 2 12 [(0, .ref (xa X 54)), (1, .int x1), (3, .int x3), (4, .int x4), (5, .int x5)] [] w (f_X12_worked_b12_y k12 x1 x3 x4 x5 w) := by
  unfold f_X12_worked_b12_y
  refine e_iload (pc := 12) dX12_worked_12 4 rfl ?_
  refine e_sipush (pc := 14) (v := (130 : Int32)) dX12_worked_14 sp_130 ?_
  refine e_iload_n (pc := 17) dX12_worked_17 1 rfl rfl ?_
  refine e_imul (pc := 18) dX12_worked_18 ?_
  refine e_iload_n (pc := 19) dX12_worked_19 2 rfl rfl ?_
  refine e_iadd (pc := 20) dX12_worked_20 ?_
  refine e_icmp_ge (pc := 21) (tgt := 188) dX12_worked_21 (by decide) (fun _ => ?_) (fun _ => ?_)
  · refine e_aload_n (pc := 188) dX12_worked_188 0 rfl rfl ?_
    refine g_R (pc := 189) (cl' := 70) kk54 fl_X12_72 rfl dX12_worked_189 ?_
    refine e_iconst (pc := 192) (v := (0 : Int32)) dX12_worked_192 ic_0 ?_
    refine e_iald (pc := 193) kk70 dX12_worked_193 (fun v2 => ?_)
    exact e_iretW rfl dX12_worked_194
  · refine e_aload_n (pc := 24) dX12_worked_24 0 rfl rfl ?_
    refine g_R (pc := 25) (cl' := 64) kk54 fl_X12_53 rfl dX12_worked_25 ?_
    refine e_iload (pc := 28) dX12_worked_28 4 rfl ?_
    refine e_bald (pc := 30) kk64 dX12_worked_30 (fun v3 => ?_)
    refine e_istore (pc := 31) (lv' := [(6, .int v3), (0, .ref (xa X 54)), (1, .int x1), (3, .int x3), (4, .int x4), (5, .int x5)]) dX12_worked_31 (Nat.le_of_ble_eq_true rfl) rfl ?_
    refine e_iload (pc := 33) dX12_worked_33 0 rfl ?_
    refine e_iconst (pc := 35) (v := (1 : Int32)) dX12_worked_35 ic_1 ?_
    refine e_icmp_eq (pc := 36) (tgt := 45) dX12_worked_36 (by decide) (fun _ => ?_) (fun _ => ?_)
    · refine e_lv [1, 2, 3, 4, 5, 0] rfl ?_
      exact cb_X12_worked_b45 X k12 hk12 x1 x3 x4 x5 v3 w
    · refine e_iload (pc := 39) dX12_worked_39 0 rfl ?_
      refine e_iconst (pc := 41) (v := (2 : Int32)) dX12_worked_41 ic_2 ?_
      refine e_icmp_ne (pc := 42) (tgt := 86) dX12_worked_42 (by decide) (fun _ => ?_) (fun _ => ?_)
      · refine e_lv [1, 2, 3, 4, 5, 0] rfl ?_
        exact cb_X12_worked_b45 X k12 hk12 x1 x3 x4 x5 v3 w
      · refine e_iload (pc := 86) dX12_worked_86 0 rfl ?_
        refine e_iconst (pc := 88) (v := (3 : Int32)) dX12_worked_88 ic_3 ?_
        refine e_icmp_ne (pc := 89) (tgt := 121) dX12_worked_89 (by decide) (fun _ => ?_) (fun _ => ?_)
        · refine e_aload_n (pc := 92) dX12_worked_92 1 rfl rfl ?_
          refine g_R (pc := 93) (cl' := 70) kk54 fl_X12_72 rfl dX12_worked_93 ?_
          refine e_iload (pc := 96) dX12_worked_96 4 rfl ?_
          refine e_iconst (pc := 98) (v := (1 : Int32)) dX12_worked_98 ic_1 ?_
          refine e_isub (pc := 99) dX12_worked_99 ?_
          refine e_aload_n (pc := 100) dX12_worked_100 1 rfl rfl ?_
          refine g_R (pc := 101) (cl' := 70) kk54 fl_X12_72 rfl dX12_worked_101 ?_
          refine e_iload (pc := 104) dX12_worked_104 4 rfl ?_
          refine e_iconst (pc := 106) (v := (1 : Int32)) dX12_worked_106 ic_1 ?_
          refine e_isub (pc := 107) dX12_worked_107 ?_
          refine e_iald (pc := 108) kk70 dX12_worked_108 (fun v14 => ?_)
          refine e_if_ne (pc := 109) (tgt := 116) dX12_worked_109 (by decide) (fun _ => ?_) (fun _ => ?_)
          · refine e_iconst (pc := 112) (v := (1 : Int32)) dX12_worked_112 ic_1 ?_
            refine e_goto (pc := 113) (tgt := 117) dX12_worked_113 (by decide) ?_
            refine e_lv [1, 2, 3, 4, 5] rfl ?_
            exact cb_X12_worked_b117 X k12 hk12 x1 x3 x4 x5 (1 : Int32) (x4 - (1 : Int32)) w
          · refine e_iconst (pc := 116) (v := (0 : Int32)) dX12_worked_116 ic_0 ?_
            refine e_lv [1, 2, 3, 4, 5] rfl ?_
            exact cb_X12_worked_b117 X k12 hk12 x1 x3 x4 x5 (0 : Int32) (x4 - (1 : Int32)) w
        · refine e_iload (pc := 121) dX12_worked_121 0 rfl ?_
          refine e_iconst (pc := 123) (v := (4 : Int32)) dX12_worked_123 ic_4 ?_
          refine e_icmp_ne (pc := 124) (tgt := 149) dX12_worked_124 (by decide) (fun _ => ?_) (fun _ => ?_)
          · refine e_aload_n (pc := 127) dX12_worked_127 1 rfl rfl ?_
            refine g_R (pc := 128) (cl' := 70) kk54 fl_X12_72 rfl dX12_worked_128 ?_
            refine e_iload (pc := 131) dX12_worked_131 4 rfl ?_
            refine e_iconst (pc := 133) (v := (1 : Int32)) dX12_worked_133 ic_1 ?_
            refine e_isub (pc := 134) dX12_worked_134 ?_
            refine e_aload_n (pc := 135) dX12_worked_135 1 rfl rfl ?_
            refine g_R (pc := 136) (cl' := 70) kk54 fl_X12_72 rfl dX12_worked_136 ?_
            refine e_iload (pc := 139) dX12_worked_139 4 rfl ?_
            refine e_iconst (pc := 141) (v := (1 : Int32)) dX12_worked_141 ic_1 ?_
            refine e_isub (pc := 142) dX12_worked_142 ?_
            refine e_iald (pc := 143) kk70 dX12_worked_143 (fun v12 => ?_)
            refine e_ineg (pc := 144) dX12_worked_144 ?_
            refine e_iast (pc := 145) kk70 dX12_worked_145 (fun w13 => ?_)
            refine e_goto (pc := 146) (tgt := 182) dX12_worked_146 (by decide) ?_
            refine e_lv [1, 2, 3, 4, 5] rfl ?_
            exact cb_X12_worked_b182 X k12 hk12 x1 x3 x4 x5 w13
          · refine e_iinc (pc := 149) (lv' := [(4, .int (x4 + (-1 : Int32))), (6, .int v3), (0, .ref (xa X 54)), (1, .int x1), (3, .int x3), (5, .int x5)]) dX12_worked_149 4 rfl (ii_m1 _) (Nat.le_of_ble_eq_true rfl) rfl ?_
            refine e_aload_n (pc := 152) dX12_worked_152 2 rfl rfl ?_
            refine g_R (pc := 153) (cl' := 70) kk54 fl_X12_72 rfl dX12_worked_153 ?_
            refine e_iload (pc := 156) dX12_worked_156 0 rfl ?_
            refine e_iconst (pc := 158) (v := (1 : Int32)) dX12_worked_158 ic_1 ?_
            refine e_isub (pc := 159) dX12_worked_159 ?_
            refine e_iload (pc := 160) dX12_worked_160 1 rfl ?_
            refine e_aload_n (pc := 162) dX12_worked_162 2 rfl rfl ?_
            refine g_R (pc := 163) (cl' := 70) kk54 fl_X12_72 rfl dX12_worked_163 ?_
            refine e_iload (pc := 166) dX12_worked_166 0 rfl ?_
            refine e_iconst (pc := 168) (v := (1 : Int32)) dX12_worked_168 ic_1 ?_
            refine e_isub (pc := 169) dX12_worked_169 ?_
            refine e_iald (pc := 170) kk70 dX12_worked_170 (fun v8 => ?_)
            refine e_aload_n (pc := 171) dX12_worked_171 2 rfl rfl ?_
            refine g_R (pc := 172) (cl' := 70) kk54 fl_X12_72 rfl dX12_worked_172 ?_
            refine e_iload (pc := 175) dX12_worked_175 0 rfl ?_
            refine e_iald (pc := 177) kk70 dX12_worked_177 (fun v9 => ?_)
            refine e_callSRI (pc := 178) (As := [.int v3, .int v8, .int v9]) (rest := [.int ((x4 + (-1 : Int32)) - (1 : Int32)), .ref (xa X 70)]) (cf_X12_twoOf X v3 v8 v9 w) lk_X12_230 (Nat.le_of_ble_eq_true rfl) (Nat.le_of_ble_eq_true rfl) rfl rfl (Nat.le_of_ble_eq_true rfl) dX12_worked_178 (fun r10 => ?_)
            refine e_iast (pc := 181) kk70 dX12_worked_181 (fun w11 => ?_)
            refine e_lv [2, 3, 4, 0, 5] rfl ?_
            exact cb_X12_worked_b182 X k12 hk12 x1 x3 (x4 + (-1 : Int32)) x5 w11
theorem cb_X12_worked_b12 (X : Xt) : ∀ (n : Nat) (x1 : Int32) (x3 : Int32) (x4 : Int32) (x5 : Int32) (w : Wd), E gWI X m_X12_worked 2 12 [(0, .ref (xa X 54)), (1, .int x1), (3, .int x3), (4, .int x4), (5, .int x5)] [] w (f_X12_worked_b12 n x1 x3 x4 x5 w) := by
  intro n
  induction n with
  | zero =>
    intro x1 x3 x4 x5 w
    exact E_none
  | succ n ih =>
    intro x1 x3 x4 x5 w
    exact cb_X12_worked_b12_y X _ ih x1 x3 x4 x5 w
set_option maxRecDepth 100000 in
set_option maxHeartbeats 4000000 in
theorem ce_X12_worked (X : Xt) (a1 : Int32) (a2 : Int32) (a3 : Int32) (w : Wd) : E gWI X m_X12_worked 2 0 [(0, .ref (xa X 54)), (1, .int a1), (2, .int a2), (3, .int a3)] [] w (f_X12_worked a1 a2 a3 w) := by
  unfold f_X12_worked
  refine e_iconst (pc := 0) (v := (0 : Int32)) dX12_worked_0 ic_0 ?_
  refine e_istore (pc := 1) (lv' := [(4, .int (0 : Int32)), (0, .ref (xa X 54)), (1, .int a1), (2, .int a2), (3, .int a3)]) dX12_worked_1 (Nat.le_of_ble_eq_true rfl) rfl ?_
  refine e_sipush (pc := 3) (v := (130 : Int32)) dX12_worked_3 sp_130 ?_
  refine e_iload_n (pc := 6) dX12_worked_6 2 rfl rfl ?_
  refine e_imul (pc := 7) dX12_worked_7 ?_
  refine e_iload_n (pc := 8) dX12_worked_8 3 rfl rfl ?_
  refine e_iadd (pc := 9) dX12_worked_9 ?_
  refine e_nameI (fun y1 => ?_)
  refine e_istore (pc := 10) (lv' := [(5, .int y1), (4, .int (0 : Int32)), (0, .ref (xa X 54)), (1, .int a1), (2, .int a2), (3, .int a3)]) dX12_worked_10 (Nat.le_of_ble_eq_true rfl) rfl ?_
  refine e_lv [2, 3, 5, 1, 0] rfl ?_
  exact cb_X12_worked_b12 X fu a1 a3 (0 : Int32) y1 w
theorem cf_X12_worked (X : Xt) (a1 : Int32) (a2 : Int32) (a3 : Int32) (w : Wd) : CF gWI X m_X12_worked 2 [.ref (xa X 54), .int a1, .int a2, .int a3] w (f_X12_worked a1 a2 a3 w) := CF_of (by decide) (Nat.le_of_ble_eq_true rfl) (ce_X12_worked X a1 a2 a3 w)
set_option maxRecDepth 100000 in
set_option maxHeartbeats 4000000 in
theorem cb_X12_gives_b47 (X : Xt) (x1 : Int32) (x3 : Int32) (w : Wd) : E gWI X m_X12_gives 3 47 [(0, .ref (xa X 54)), (1, .int x1), (3, .int x3)] [] w (f_X12_gives_b47 x1 x3 w) := by
  unfold f_X12_gives_b47
  refine e_aload_n (pc := 47) dX12_gives_47 0 rfl rfl ?_
  refine e_iload_n (pc := 48) dX12_gives_48 1 rfl rfl ?_
  refine e_aload_n (pc := 49) dX12_gives_49 0 rfl rfl ?_
  refine g_R (pc := 50) (cl' := 67) kk54 fl_X12_62 rfl dX12_gives_50 ?_
  refine e_iload_n (pc := 53) dX12_gives_53 2 rfl rfl ?_
  refine e_sald (pc := 54) kk67 dX12_gives_54 (fun v4 => ?_)
  refine e_aload_n (pc := 55) dX12_gives_55 0 rfl rfl ?_
  refine g_R (pc := 56) (cl' := 68) kk54 fl_X12_66 rfl dX12_gives_56 ?_
  refine e_iload_n (pc := 59) dX12_gives_59 2 rfl rfl ?_
  refine e_sald (pc := 60) kk68 dX12_gives_60 (fun v5 => ?_)
  refine e_callVWI (pc := 61) (As := [.int x1, .int v4, .int v5]) (rest := []) kk54 Kc12 (cf_X12_worked X x1 v4 v5 w) lk_X12_233 (Nat.le_of_ble_eq_true rfl) (Nat.le_of_ble_eq_true rfl) rfl rfl (Nat.le_of_ble_eq_true rfl) dX12_gives_61 (fun r6 w7 => ?_)
  exact e_iretW rfl dX12_gives_64
set_option maxRecDepth 100000 in
set_option maxHeartbeats 4000000 in
theorem cb_X12_gives_b7_y (X : Xt) (k7 : Int32 → Int32 → Int32 → Wd → Option (Int32 × Wd)) (hk7 : ∀ (x1 : Int32) (x2 : Int32) (x3 : Int32)  (w : Wd), E gWI X m_X12_gives 3 7 [(0, .ref (xa X 54)), (1, .int x1), (2, .int x2), (3, .int x3)] [] w (k7 x1 x2 x3 w)) (x1 : Int32) (x2 : Int32) (x3 : Int32) (w : Wd) : E gWI X m_X12_gives 3 7 [(0, .ref (xa X 54)), (1, .int x1), (2, .int x2), (3, .int x3)] [] w (f_X12_gives_b7_y k7 x1 x2 x3 w) := by
  unfold f_X12_gives_b7_y
  refine e_iload_n (pc := 7) dX12_gives_7 3 rfl rfl ?_
  refine e_bipush (pc := 8) (v := (61 : Int32)) dX12_gives_8 bp_61 ?_
  refine e_iload_n (pc := 10) dX12_gives_10 1 rfl rfl ?_
  refine e_imul (pc := 11) dX12_gives_11 ?_
  refine e_aload_n (pc := 12) dX12_gives_12 0 rfl rfl ?_
  refine g_R (pc := 13) (cl' := 66) kk54 fl_X12_59 rfl dX12_gives_13 ?_
  refine e_iload_n (pc := 16) dX12_gives_16 1 rfl rfl ?_
  refine e_iald (pc := 17) kk66 dX12_gives_17 (fun v2 => ?_)
  refine e_iadd (pc := 18) dX12_gives_18 ?_
  refine e_icmp_ge (pc := 19) (tgt := 78) dX12_gives_19 (by decide) (fun _ => ?_) (fun _ => ?_)
  · refine e_iconst (pc := 78) (v := (0 : Int32)) dX12_gives_78 ic_0 ?_
    exact e_iretW rfl dX12_gives_79
  · refine e_aload_n (pc := 22) dX12_gives_22 0 rfl rfl ?_
    refine g_R (pc := 23) (cl' := 67) kk54 fl_X12_62 rfl dX12_gives_23 ?_
    refine e_iload_n (pc := 26) dX12_gives_26 3 rfl rfl ?_
    refine e_sald (pc := 27) kk67 dX12_gives_27 (fun v3 => ?_)
    refine e_iload_n (pc := 28) dX12_gives_28 2 rfl rfl ?_
    refine e_icmp_eq (pc := 29) (tgt := 47) dX12_gives_29 (by decide) (fun _ => ?_) (fun _ => ?_)
    · refine e_lv [0, 1, 3] rfl ?_
      exact cb_X12_gives_b47 X x1 x3 w
    · refine e_aload_n (pc := 32) dX12_gives_32 0 rfl rfl ?_
      refine e_iload_n (pc := 33) dX12_gives_33 1 rfl rfl ?_
      refine e_iload_n (pc := 34) dX12_gives_34 2 rfl rfl ?_
      refine e_aload_n (pc := 35) dX12_gives_35 0 rfl rfl ?_
      refine g_R (pc := 36) (cl' := 67) kk54 fl_X12_62 rfl dX12_gives_36 ?_
      refine e_iload_n (pc := 39) dX12_gives_39 3 rfl rfl ?_
      refine e_sald (pc := 40) kk67 dX12_gives_40 (fun v8 => ?_)
      refine e_callVWI (pc := 41) (As := [.int x1, .int x2, .int v8]) (rest := []) kk54 Kc12 (cf_X12_worked X x1 x2 v8 w) lk_X12_233 (Nat.le_of_ble_eq_true rfl) (Nat.le_of_ble_eq_true rfl) rfl rfl (Nat.le_of_ble_eq_true rfl) dX12_gives_41 (fun r9 w10 => ?_)
      refine e_if_eq (pc := 44) (tgt := 65) dX12_gives_44 (by decide) (fun _ => ?_) (fun _ => ?_)
      · refine e_aload_n (pc := 65) dX12_gives_65 0 rfl rfl ?_
        refine g_R (pc := 66) (cl' := 68) kk54 fl_X12_66 rfl dX12_gives_66 ?_
        refine e_iload_n (pc := 69) dX12_gives_69 3 rfl rfl ?_
        refine e_sald (pc := 70) kk68 dX12_gives_70 (fun v11 => ?_)
        refine e_istore_n (pc := 71) (lv' := [(2, .int v11), (0, .ref (xa X 54)), (1, .int x1), (3, .int x3)]) dX12_gives_71 rfl (Nat.le_of_ble_eq_true rfl) rfl ?_
        refine e_iinc (pc := 72) (lv' := [(3, .int (x3 + (1 : Int32))), (2, .int v11), (0, .ref (xa X 54)), (1, .int x1)]) dX12_gives_72 3 rfl (ii_1 _) (Nat.le_of_ble_eq_true rfl) rfl ?_
        refine e_goto (pc := 75) (tgt := 7) dX12_gives_75 (by decide) ?_
        refine e_lv [2, 3, 1, 0] rfl ?_
        exact hk7 x1 v11 (x3 + (1 : Int32)) w10
      · refine e_lv [0, 1, 3] rfl ?_
        exact cb_X12_gives_b47 X x1 x3 w10
theorem cb_X12_gives_b7 (X : Xt) : ∀ (n : Nat) (x1 : Int32) (x2 : Int32) (x3 : Int32) (w : Wd), E gWI X m_X12_gives 3 7 [(0, .ref (xa X 54)), (1, .int x1), (2, .int x2), (3, .int x3)] [] w (f_X12_gives_b7 n x1 x2 x3 w) := by
  intro n
  induction n with
  | zero =>
    intro x1 x2 x3 w
    exact E_none
  | succ n ih =>
    intro x1 x2 x3 w
    exact cb_X12_gives_b7_y X _ ih x1 x2 x3 w
set_option maxRecDepth 100000 in
set_option maxHeartbeats 4000000 in
theorem ce_X12_gives (X : Xt) (a1 : Int32) (w : Wd) : E gWI X m_X12_gives 3 0 [(0, .ref (xa X 54)), (1, .int a1)] [] w (f_X12_gives a1 w) := by
  unfold f_X12_gives
  refine e_iconst (pc := 0) (v := (0 : Int32)) dX12_gives_0 ic_0 ?_
  refine e_istore_n (pc := 1) (lv' := [(2, .int (0 : Int32)), (0, .ref (xa X 54)), (1, .int a1)]) dX12_gives_1 rfl (Nat.le_of_ble_eq_true rfl) rfl ?_
  refine e_bipush (pc := 2) (v := (61 : Int32)) dX12_gives_2 bp_61 ?_
  refine e_iload_n (pc := 4) dX12_gives_4 2 rfl rfl ?_
  refine e_imul (pc := 5) dX12_gives_5 ?_
  refine e_nameI (fun y1 => ?_)
  refine e_istore_n (pc := 6) (lv' := [(3, .int y1), (2, .int (0 : Int32)), (0, .ref (xa X 54)), (1, .int a1)]) dX12_gives_6 rfl (Nat.le_of_ble_eq_true rfl) rfl ?_
  refine e_lv [2, 3, 1, 0] rfl ?_
  exact cb_X12_gives_b7 X fu a1 (0 : Int32) y1 w
theorem cf_X12_gives (X : Xt) (a1 : Int32) (w : Wd) : CF gWI X m_X12_gives 3 [.ref (xa X 54), .int a1] w (f_X12_gives a1 w) := CF_of (by decide) (Nat.le_of_ble_eq_true rfl) (ce_X12_gives X a1 w)
set_option maxRecDepth 100000 in
set_option maxHeartbeats 4000000 in
theorem ce_X12_law (X : Xt) (w : Wd) : E gWI X m_X12_law 86 0 [(0, .ref (xa X 54))] [] w (f_X12_law w) := by
  unfold f_X12_law
  refine e_aload_n (pc := 0) dX12_law_0 0 rfl rfl ?_
  refine e_iconst (pc := 1) (v := (0 : Int32)) dX12_law_1 ic_0 ?_
  refine e_callVWI (pc := 2) (As := [.int (0 : Int32)]) (rest := []) kk54 Kc12 (cf_X12_readText X (0 : Int32) w) lk_X12_236 (Nat.le_of_ble_eq_true rfl) (Nat.le_of_ble_eq_true rfl) rfl rfl (Nat.le_of_ble_eq_true rfl) dX12_law_2 (fun r1 w2 => ?_)
  refine e_istore_n (pc := 5) (lv' := [(1, .int r1), (0, .ref (xa X 54))]) dX12_law_5 rfl (Nat.le_of_ble_eq_true rfl) rfl ?_
  refine e_iload_n (pc := 6) dX12_law_6 0 rfl rfl ?_
  refine e_if_lt (pc := 7) (tgt := 15) dX12_law_7 (by decide) (fun _ => ?_) (fun _ => ?_)
  · refine e_aload_n (pc := 15) dX12_law_15 1 rfl rfl ?_
    refine e_iconst (pc := 16) (v := (1 : Int32)) dX12_law_16 ic_1 ?_
    refine p_Z (pc := 17) kk54 fp_X12_239 dX12_law_17 (fun w3 => ?_)
    refine e_iconst (pc := 20) (v := (1 : Int32)) dX12_law_20 ic_1 ?_
    exact e_iretW rfl dX12_law_21
  · refine e_bipush (pc := 10) (v := (-100 : Int32)) dX12_law_10 bp_m100 ?_
    refine e_iload_n (pc := 12) dX12_law_12 0 rfl rfl ?_
    refine e_isub (pc := 13) dX12_law_13 ?_
    exact e_iretW rfl dX12_law_14
theorem cf_X12_law (X : Xt) (w : Wd) : CF gWI X m_X12_law 86 [.ref (xa X 54)] w (f_X12_law w) := CF_of (by decide) (Nat.le_of_ble_eq_true rfl) (ce_X12_law X w)
set_option maxRecDepth 100000 in
set_option maxHeartbeats 4000000 in
theorem cb_X12_findsBy_b84 (X : Xt) (x4 : Int32) (w : Wd) : E gWI X m_X12_findsBy 4 84 [(4, .int x4)] [] w (f_X12_findsBy_b84 x4 w) := by
  unfold f_X12_findsBy_b84
  refine e_iload (pc := 84) dX12_findsBy_84 0 rfl ?_
  refine e_if_ge (pc := 86) (tgt := 93) dX12_findsBy_86 (by decide) (fun _ => ?_) (fun _ => ?_)
  · refine e_iload (pc := 93) dX12_findsBy_93 0 rfl ?_
    refine e_bipush (pc := 95) (v := (12 : Int32)) dX12_findsBy_95 bp_12 ?_
    refine e_icmp_le (pc := 97) (tgt := 105) dX12_findsBy_97 (by decide) (fun _ => ?_) (fun _ => ?_)
    · refine e_iload (pc := 105) dX12_findsBy_105 0 rfl ?_
      exact e_iretW rfl dX12_findsBy_107
    · refine e_bipush (pc := 100) (v := (12 : Int32)) dX12_findsBy_100 bp_12 ?_
      refine e_goto (pc := 102) (tgt := 107) dX12_findsBy_102 (by decide) ?_
      exact e_iretW rfl dX12_findsBy_107
  · refine e_iconst (pc := 89) (v := (0 : Int32)) dX12_findsBy_89 ic_0 ?_
    refine e_goto (pc := 90) (tgt := 107) dX12_findsBy_90 (by decide) ?_
    exact e_iretW rfl dX12_findsBy_107
set_option maxRecDepth 100000 in
set_option maxHeartbeats 4000000 in
theorem ce_X12_findsBy (X : Xt) (a1 : Int32) (a2 : Int32) (a3 : Int32) (w : Wd) : E gWI X m_X12_findsBy 4 0 [(0, .ref (xa X 54)), (1, .int a1), (2, .int a2), (3, .int a3)] [] w (f_X12_findsBy a1 a2 a3 w) := by
  unfold f_X12_findsBy
  refine e_aload_n (pc := 0) dX12_findsBy_0 0 rfl rfl ?_
  refine g_R (pc := 1) (cl' := 57) kk54 fl_X12_18 rfl dX12_findsBy_1 ?_
  refine e_iload_n (pc := 4) dX12_findsBy_4 1 rfl rfl ?_
  refine e_iald (pc := 5) kk57 dX12_findsBy_5 (fun v1 => ?_)
  refine e_aload_n (pc := 6) dX12_findsBy_6 0 rfl rfl ?_
  refine g_I (pc := 7) kk54 fl_X12_139 dX12_findsBy_7 ?_
  refine e_isub (pc := 10) dX12_findsBy_10 ?_
  refine e_iload_n (pc := 11) dX12_findsBy_11 3 rfl rfl ?_
  refine e_isub (pc := 12) dX12_findsBy_12 ?_
  refine e_iconst (pc := 13) (v := (1 : Int32)) dX12_findsBy_13 ic_1 ?_
  refine e_iadd (pc := 14) dX12_findsBy_14 ?_
  refine e_nameI (fun y2 => ?_)
  refine e_istore (pc := 15) (lv' := [(4, .int y2), (0, .ref (xa X 54)), (1, .int a1), (2, .int a2), (3, .int a3)]) dX12_findsBy_15 (Nat.le_of_ble_eq_true rfl) rfl ?_
  refine e_aload_n (pc := 17) dX12_findsBy_17 1 rfl rfl ?_
  refine g_I (pc := 18) kk54 fl_X12_239 dX12_findsBy_18 ?_
  refine e_if_eq (pc := 21) (tgt := 84) dX12_findsBy_21 (by decide) (fun _ => ?_) (fun _ => ?_)
  · refine e_lv [0] rfl ?_
    exact cb_X12_findsBy_b84 X y2 w
  · refine e_aload_n (pc := 24) dX12_findsBy_24 1 rfl rfl ?_
    refine g_R (pc := 25) (cl' := 69) kk54 fl_X12_69 rfl dX12_findsBy_25 ?_
    refine e_iconst (pc := 28) (v := (0 : Int32)) dX12_findsBy_28 ic_0 ?_
    refine e_aload_n (pc := 29) dX12_findsBy_29 1 rfl rfl ?_
    refine g_R (pc := 30) (cl' := 57) kk54 fl_X12_18 rfl dX12_findsBy_30 ?_
    refine e_iload_n (pc := 33) dX12_findsBy_33 2 rfl rfl ?_
    refine e_iald (pc := 34) kk57 dX12_findsBy_34 (fun v3 => ?_)
    refine e_iast (pc := 35) kk69 dX12_findsBy_35 (fun w4 => ?_)
    refine e_aload_n (pc := 36) dX12_findsBy_36 1 rfl rfl ?_
    refine g_R (pc := 37) (cl' := 69) kk54 fl_X12_69 rfl dX12_findsBy_37 ?_
    refine e_iconst (pc := 40) (v := (1 : Int32)) dX12_findsBy_40 ic_1 ?_
    refine e_aload_n (pc := 41) dX12_findsBy_41 1 rfl rfl ?_
    refine g_I (pc := 42) kk54 fl_X12_139 dX12_findsBy_42 ?_
    refine e_iast (pc := 45) kk69 dX12_findsBy_45 (fun w5 => ?_)
    refine e_aload_n (pc := 46) dX12_findsBy_46 1 rfl rfl ?_
    refine g_R (pc := 47) (cl' := 69) kk54 fl_X12_69 rfl dX12_findsBy_47 ?_
    refine e_iconst (pc := 50) (v := (2 : Int32)) dX12_findsBy_50 ic_2 ?_
    refine e_aload_n (pc := 51) dX12_findsBy_51 1 rfl rfl ?_
    refine g_I (pc := 52) kk54 fl_X12_24 dX12_findsBy_52 ?_
    refine e_iast (pc := 55) kk69 dX12_findsBy_55 (fun w6 => ?_)
    refine e_aload_n (pc := 56) dX12_findsBy_56 1 rfl rfl ?_
    refine g_R (pc := 57) (cl' := 69) kk54 fl_X12_69 rfl dX12_findsBy_57 ?_
    refine e_iconst (pc := 60) (v := (3 : Int32)) dX12_findsBy_60 ic_3 ?_
    refine e_iload_n (pc := 61) dX12_findsBy_61 4 rfl rfl ?_
    refine e_iast (pc := 62) kk69 dX12_findsBy_62 (fun w7 => ?_)
    refine e_aload_n (pc := 63) dX12_findsBy_63 1 rfl rfl ?_
    refine g_R (pc := 64) (cl' := 69) kk54 fl_X12_69 rfl dX12_findsBy_64 ?_
    refine e_iconst (pc := 67) (v := (4 : Int32)) dX12_findsBy_67 ic_4 ?_
    refine e_iload_n (pc := 68) dX12_findsBy_68 3 rfl rfl ?_
    refine e_iast (pc := 69) kk69 dX12_findsBy_69 (fun w8 => ?_)
    refine e_aload_n (pc := 70) dX12_findsBy_70 1 rfl rfl ?_
    refine g_R (pc := 71) (cl' := 69) kk54 fl_X12_69 rfl dX12_findsBy_71 ?_
    refine e_iconst (pc := 74) (v := (5 : Int32)) dX12_findsBy_74 ic_5 ?_
    refine e_iload_n (pc := 75) dX12_findsBy_75 2 rfl rfl ?_
    refine e_iast (pc := 76) kk69 dX12_findsBy_76 (fun w9 => ?_)
    refine e_aload_n (pc := 77) dX12_findsBy_77 1 rfl rfl ?_
    refine e_iconst (pc := 78) (v := (0 : Int32)) dX12_findsBy_78 ic_0 ?_
    refine e_callVWI (pc := 79) (As := [.int (0 : Int32)]) (rest := []) kk54 Kc12 (cf_X12_gives X (0 : Int32) w9) lk_X12_243 (Nat.le_of_ble_eq_true rfl) (Nat.le_of_ble_eq_true rfl) rfl rfl (Nat.le_of_ble_eq_true rfl) dX12_findsBy_79 (fun r10 w11 => ?_)
    refine e_istore (pc := 82) (lv' := [(4, .int r10), (0, .ref (xa X 54)), (1, .int a1), (2, .int a2), (3, .int a3)]) dX12_findsBy_82 (Nat.le_of_ble_eq_true rfl) rfl ?_
    refine e_lv [0] rfl ?_
    exact cb_X12_findsBy_b84 X r10 w11
theorem cf_X12_findsBy (X : Xt) (a1 : Int32) (a2 : Int32) (a3 : Int32) (w : Wd) : CF gWI X m_X12_findsBy 4 [.ref (xa X 54), .int a1, .int a2, .int a3] w (f_X12_findsBy a1 a2 a3 w) := CF_of (by decide) (Nat.le_of_ble_eq_true rfl) (ce_X12_findsBy X a1 a2 a3 w)
set_option maxRecDepth 100000 in
set_option maxHeartbeats 4000000 in
theorem ce_X12_finds (X : Xt) (a1 : Int32) (a2 : Int32) (w : Wd) : E gWI X m_X12_finds 5 0 [(0, .ref (xa X 54)), (1, .int a1), (2, .int a2)] [] w (f_X12_finds a1 a2 w) := by
  unfold f_X12_finds
  refine e_aload_n (pc := 0) dX12_finds_0 0 rfl rfl ?_
  refine e_iload_n (pc := 1) dX12_finds_1 1 rfl rfl ?_
  refine e_callVRI (pc := 2) (As := [.int a1]) (rest := []) kk54 Kc12 (cf_X12_isLooker X a1 w) lk_X12_158 (Nat.le_of_ble_eq_true rfl) (Nat.le_of_ble_eq_true rfl) rfl rfl (Nat.le_of_ble_eq_true rfl) dX12_finds_2 (fun r1 => ?_)
  refine e_if_eq (pc := 5) (tgt := 31) dX12_finds_5 (by decide) (fun _ => ?_) (fun _ => ?_)
  · refine e_iconst (pc := 31) (v := (-1 : Int32)) dX12_finds_31 ic_m1 ?_
    exact e_iretW rfl dX12_finds_32
  · refine e_iload_n (pc := 8) dX12_finds_8 2 rfl rfl ?_
    refine e_iconst (pc := 9) (v := (0 : Int32)) dX12_finds_9 ic_0 ?_
    refine e_bipush (pc := 10) (v := (9 : Int32)) dX12_finds_10 bp_9 ?_
    refine e_callSRI (pc := 12) (As := [.int a2, .int (0 : Int32), .int (9 : Int32)]) (rest := []) (cf_X12_in X a2 (0 : Int32) (9 : Int32) w) lk_X12_124 (Nat.le_of_ble_eq_true rfl) (Nat.le_of_ble_eq_true rfl) rfl rfl (Nat.le_of_ble_eq_true rfl) dX12_finds_12 (fun r2 => ?_)
    refine e_if_eq (pc := 15) (tgt := 31) dX12_finds_15 (by decide) (fun _ => ?_) (fun _ => ?_)
    · refine e_iconst (pc := 31) (v := (-1 : Int32)) dX12_finds_31 ic_m1 ?_
      exact e_iretW rfl dX12_finds_32
    · refine e_aload_n (pc := 18) dX12_finds_18 0 rfl rfl ?_
      refine e_iload_n (pc := 19) dX12_finds_19 1 rfl rfl ?_
      refine e_iload_n (pc := 20) dX12_finds_20 2 rfl rfl ?_
      refine e_aload_n (pc := 21) dX12_finds_21 0 rfl rfl ?_
      refine g_I (pc := 22) kk54 fl_X12_28 dX12_finds_22 ?_
      refine e_callVWI (pc := 25) (As := [.int a1, .int a2, .int (gi w 54 8)]) (rest := []) kk54 Kc12 (cf_X12_findsBy X a1 a2 (gi w 54 8) w) lk_X12_246 (Nat.le_of_ble_eq_true rfl) (Nat.le_of_ble_eq_true rfl) rfl rfl (Nat.le_of_ble_eq_true rfl) dX12_finds_25 (fun r3 w4 => ?_)
      refine e_goto (pc := 28) (tgt := 32) dX12_finds_28 (by decide) ?_
      exact e_iretW rfl dX12_finds_32
theorem cf_X12_finds (X : Xt) (a1 : Int32) (a2 : Int32) (w : Wd) : CF gWI X m_X12_finds 5 [.ref (xa X 54), .int a1, .int a2] w (f_X12_finds a1 a2 w) := CF_of (by decide) (Nat.le_of_ble_eq_true rfl) (ce_X12_finds X a1 a2 w)
set_option maxRecDepth 100000 in
set_option maxHeartbeats 4000000 in
theorem ce_X12_allWeights (X : Xt) (a1 : Int32) (w : Wd) : E (gRI w) X m_X12_allWeights 1 0 [(0, .ref (xa X 54)), (1, .int a1)] [] w (f_X12_allWeights a1 w) := by
  unfold f_X12_allWeights
  refine e_aload_n (pc := 0) dX12_allWeights_0 0 rfl rfl ?_
  refine g_R (pc := 1) (cl' := 55) kk54 fl_X12_9 rfl dX12_allWeights_1 ?_
  refine e_iconst (pc := 4) (v := (4 : Int32)) dX12_allWeights_4 ic_4 ?_
  refine e_iload_n (pc := 5) dX12_allWeights_5 1 rfl rfl ?_
  refine e_imul (pc := 6) dX12_allWeights_6 ?_
  refine e_iald (pc := 7) kk55 dX12_allWeights_7 (fun v1 => ?_)
  refine e_aload_n (pc := 8) dX12_allWeights_8 0 rfl rfl ?_
  refine g_R (pc := 9) (cl' := 55) kk54 fl_X12_9 rfl dX12_allWeights_9 ?_
  refine e_iconst (pc := 12) (v := (4 : Int32)) dX12_allWeights_12 ic_4 ?_
  refine e_iload_n (pc := 13) dX12_allWeights_13 1 rfl rfl ?_
  refine e_imul (pc := 14) dX12_allWeights_14 ?_
  refine e_iconst (pc := 15) (v := (1 : Int32)) dX12_allWeights_15 ic_1 ?_
  refine e_iadd (pc := 16) dX12_allWeights_16 ?_
  refine e_iald (pc := 17) kk55 dX12_allWeights_17 (fun v2 => ?_)
  refine e_iadd (pc := 18) dX12_allWeights_18 ?_
  refine e_aload_n (pc := 19) dX12_allWeights_19 0 rfl rfl ?_
  refine g_R (pc := 20) (cl' := 55) kk54 fl_X12_9 rfl dX12_allWeights_20 ?_
  refine e_iconst (pc := 23) (v := (4 : Int32)) dX12_allWeights_23 ic_4 ?_
  refine e_iload_n (pc := 24) dX12_allWeights_24 1 rfl rfl ?_
  refine e_imul (pc := 25) dX12_allWeights_25 ?_
  refine e_iconst (pc := 26) (v := (2 : Int32)) dX12_allWeights_26 ic_2 ?_
  refine e_iadd (pc := 27) dX12_allWeights_27 ?_
  refine e_iald (pc := 28) kk55 dX12_allWeights_28 (fun v3 => ?_)
  refine e_iadd (pc := 29) dX12_allWeights_29 ?_
  refine e_aload_n (pc := 30) dX12_allWeights_30 0 rfl rfl ?_
  refine g_R (pc := 31) (cl' := 55) kk54 fl_X12_9 rfl dX12_allWeights_31 ?_
  refine e_iconst (pc := 34) (v := (4 : Int32)) dX12_allWeights_34 ic_4 ?_
  refine e_iload_n (pc := 35) dX12_allWeights_35 1 rfl rfl ?_
  refine e_imul (pc := 36) dX12_allWeights_36 ?_
  refine e_iconst (pc := 37) (v := (3 : Int32)) dX12_allWeights_37 ic_3 ?_
  refine e_iadd (pc := 38) dX12_allWeights_38 ?_
  refine e_iald (pc := 39) kk55 dX12_allWeights_39 (fun v4 => ?_)
  refine e_iadd (pc := 40) dX12_allWeights_40 ?_
  exact e_iretR rfl dX12_allWeights_41
theorem cf_X12_allWeights (X : Xt) (a1 : Int32) (w : Wd) : CF (gRI w) X m_X12_allWeights 1 [.ref (xa X 54), .int a1] w (f_X12_allWeights a1 w) := CF_of (by decide) (Nat.le_of_ble_eq_true rfl) (ce_X12_allWeights X a1 w)
set_option maxRecDepth 100000 in
set_option maxHeartbeats 4000000 in
theorem ce_X12_weightAt (X : Xt) (a1 : Int32) (a2 : Int32) (w : Wd) : E (gRI w) X m_X12_weightAt 2 0 [(0, .ref (xa X 54)), (1, .int a1), (2, .int a2)] [] w (f_X12_weightAt a1 a2 w) := by
  unfold f_X12_weightAt
  refine e_aload_n (pc := 0) dX12_weightAt_0 0 rfl rfl ?_
  refine e_iload_n (pc := 1) dX12_weightAt_1 1 rfl rfl ?_
  refine e_callVRI (pc := 2) (As := [.int a1]) (rest := []) kk54 Kc12 (cf_X12_allWeights X a1 w) lk_X12_249 (Nat.le_of_ble_eq_true rfl) (Nat.le_of_ble_eq_true rfl) rfl rfl (Nat.le_of_ble_eq_true rfl) dX12_weightAt_2 (fun r1 => ?_)
  refine e_if_ne (pc := 5) (tgt := 20) dX12_weightAt_5 (by decide) (fun _ => ?_) (fun _ => ?_)
  · refine e_iload_n (pc := 8) dX12_weightAt_8 2 rfl rfl ?_
    refine e_if_ne (pc := 9) (tgt := 16) dX12_weightAt_9 (by decide) (fun _ => ?_) (fun _ => ?_)
    · refine e_iconst (pc := 12) (v := (1 : Int32)) dX12_weightAt_12 ic_1 ?_
      refine e_goto (pc := 13) (tgt := 30) dX12_weightAt_13 (by decide) ?_
      exact e_iretR rfl dX12_weightAt_30
    · refine e_iconst (pc := 16) (v := (0 : Int32)) dX12_weightAt_16 ic_0 ?_
      refine e_goto (pc := 17) (tgt := 30) dX12_weightAt_17 (by decide) ?_
      exact e_iretR rfl dX12_weightAt_30
  · refine e_aload_n (pc := 20) dX12_weightAt_20 0 rfl rfl ?_
    refine g_R (pc := 21) (cl' := 55) kk54 fl_X12_9 rfl dX12_weightAt_21 ?_
    refine e_iconst (pc := 24) (v := (4 : Int32)) dX12_weightAt_24 ic_4 ?_
    refine e_iload_n (pc := 25) dX12_weightAt_25 1 rfl rfl ?_
    refine e_imul (pc := 26) dX12_weightAt_26 ?_
    refine e_iload_n (pc := 27) dX12_weightAt_27 2 rfl rfl ?_
    refine e_iadd (pc := 28) dX12_weightAt_28 ?_
    refine e_iald (pc := 29) kk55 dX12_weightAt_29 (fun v2 => ?_)
    exact e_iretR rfl dX12_weightAt_30
theorem cf_X12_weightAt (X : Xt) (a1 : Int32) (a2 : Int32) (w : Wd) : CF (gRI w) X m_X12_weightAt 2 [.ref (xa X 54), .int a1, .int a2] w (f_X12_weightAt a1 a2 w) := CF_of (by decide) (Nat.le_of_ble_eq_true rfl) (ce_X12_weightAt X a1 a2 w)
set_option maxRecDepth 100000 in
set_option maxHeartbeats 4000000 in
theorem ce_X12_measureOf (X : Xt) (a1 : Int32) (w : Wd) : E (gRI w) X m_X12_measureOf 2 0 [(0, .ref (xa X 54)), (1, .int a1)] [] w (f_X12_measureOf a1 w) := by
  unfold f_X12_measureOf
  refine e_aload_n (pc := 0) dX12_measureOf_0 0 rfl rfl ?_
  refine e_iload_n (pc := 1) dX12_measureOf_1 1 rfl rfl ?_
  refine e_callVRI (pc := 2) (As := [.int a1]) (rest := []) kk54 Kc12 (cf_X12_allWeights X a1 w) lk_X12_249 (Nat.le_of_ble_eq_true rfl) (Nat.le_of_ble_eq_true rfl) rfl rfl (Nat.le_of_ble_eq_true rfl) dX12_measureOf_2 (fun r1 => ?_)
  refine e_if_ne (pc := 5) (tgt := 12) dX12_measureOf_5 (by decide) (fun _ => ?_) (fun _ => ?_)
  · refine e_iconst (pc := 8) (v := (1 : Int32)) dX12_measureOf_8 ic_1 ?_
    refine e_goto (pc := 9) (tgt := 17) dX12_measureOf_9 (by decide) ?_
    exact e_iretR rfl dX12_measureOf_17
  · refine e_aload_n (pc := 12) dX12_measureOf_12 0 rfl rfl ?_
    refine e_iload_n (pc := 13) dX12_measureOf_13 1 rfl rfl ?_
    refine e_callVRI (pc := 14) (As := [.int a1]) (rest := []) kk54 Kc12 (cf_X12_allWeights X a1 w) lk_X12_249 (Nat.le_of_ble_eq_true rfl) (Nat.le_of_ble_eq_true rfl) rfl rfl (Nat.le_of_ble_eq_true rfl) dX12_measureOf_14 (fun r2 => ?_)
    exact e_iretR rfl dX12_measureOf_17
theorem cf_X12_measureOf (X : Xt) (a1 : Int32) (w : Wd) : CF (gRI w) X m_X12_measureOf 2 [.ref (xa X 54), .int a1] w (f_X12_measureOf a1 w) := CF_of (by decide) (Nat.le_of_ble_eq_true rfl) (ce_X12_measureOf X a1 w)
set_option maxRecDepth 100000 in
set_option maxHeartbeats 4000000 in
theorem cb_X12_beginParts_b2_y (X : Xt) (k2 : Int32 → Int32 → Int32 → Wd → Option Wd) (hk2 : ∀ (x1 : Int32) (x2 : Int32) (x3 : Int32)  (w : Wd), E gWV X m_X12_beginParts 3 2 [(0, .ref (xa X 54)), (1, .int x1), (2, .int x2), (3, .int x3)] [] w (k2 x1 x2 x3 w)) (x1 : Int32) (x2 : Int32) (x3 : Int32) (w : Wd) : E gWV X m_X12_beginParts 3 2 [(0, .ref (xa X 54)), (1, .int x1), (2, .int x2), (3, .int x3)] [] w (f_X12_beginParts_b2_y k2 x1 x2 x3 w) := by
  unfold f_X12_beginParts_b2_y
  refine e_iload_n (pc := 2) dX12_beginParts_2 3 rfl rfl ?_
  refine e_iconst (pc := 3) (v := (3 : Int32)) dX12_beginParts_3 ic_3 ?_
  refine e_icmp_gt (pc := 4) (tgt := 30) dX12_beginParts_4 (by decide) (fun _ => ?_) (fun _ => ?_)
  · exact e_vret rfl dX12_beginParts_30
  · refine e_aload_n (pc := 7) dX12_beginParts_7 0 rfl rfl ?_
    refine g_R (pc := 8) (cl' := 71) kk54 fl_X12_75 rfl dX12_beginParts_8 ?_
    refine e_iconst (pc := 11) (v := (4 : Int32)) dX12_beginParts_11 ic_4 ?_
    refine e_iload_n (pc := 12) dX12_beginParts_12 2 rfl rfl ?_
    refine e_imul (pc := 13) dX12_beginParts_13 ?_
    refine e_iload_n (pc := 14) dX12_beginParts_14 3 rfl rfl ?_
    refine e_iadd (pc := 15) dX12_beginParts_15 ?_
    refine e_aload_n (pc := 16) dX12_beginParts_16 0 rfl rfl ?_
    refine e_iload_n (pc := 17) dX12_beginParts_17 1 rfl rfl ?_
    refine e_iload_n (pc := 18) dX12_beginParts_18 3 rfl rfl ?_
    refine e_callVRI (pc := 19) (As := [.int x1, .int x3]) (rest := [.int (((4 : Int32) * x2) + x3), .ref (xa X 71)]) kk54 Kc12 (cf_X12_weightAt X x1 x3 w) lk_X12_252 (Nat.le_of_ble_eq_true rfl) (Nat.le_of_ble_eq_true rfl) rfl rfl (Nat.le_of_ble_eq_true rfl) dX12_beginParts_19 (fun r1 => ?_)
    refine e_i2l (pc := 22) dX12_beginParts_22 ?_
    refine e_last (pc := 23) kk71 dX12_beginParts_23 (fun w2 => ?_)
    refine e_iinc (pc := 24) (lv' := [(3, .int (x3 + (1 : Int32))), (0, .ref (xa X 54)), (1, .int x1), (2, .int x2)]) dX12_beginParts_24 3 rfl (ii_1 _) (Nat.le_of_ble_eq_true rfl) rfl ?_
    refine e_goto (pc := 27) (tgt := 2) dX12_beginParts_27 (by decide) ?_
    refine e_lv [1, 2, 3, 0] rfl ?_
    exact hk2 x1 x2 (x3 + (1 : Int32)) w2
theorem cb_X12_beginParts_b2 (X : Xt) : ∀ (n : Nat) (x1 : Int32) (x2 : Int32) (x3 : Int32) (w : Wd), E gWV X m_X12_beginParts 3 2 [(0, .ref (xa X 54)), (1, .int x1), (2, .int x2), (3, .int x3)] [] w (f_X12_beginParts_b2 n x1 x2 x3 w) := by
  intro n
  induction n with
  | zero =>
    intro x1 x2 x3 w
    exact E_none
  | succ n ih =>
    intro x1 x2 x3 w
    exact cb_X12_beginParts_b2_y X _ ih x1 x2 x3 w
set_option maxRecDepth 100000 in
set_option maxHeartbeats 4000000 in
theorem ce_X12_beginParts (X : Xt) (a1 : Int32) (a2 : Int32) (w : Wd) : E gWV X m_X12_beginParts 3 0 [(0, .ref (xa X 54)), (1, .int a1), (2, .int a2)] [] w (f_X12_beginParts a1 a2 w) := by
  unfold f_X12_beginParts
  refine e_iconst (pc := 0) (v := (0 : Int32)) dX12_beginParts_0 ic_0 ?_
  refine e_istore_n (pc := 1) (lv' := [(3, .int (0 : Int32)), (0, .ref (xa X 54)), (1, .int a1), (2, .int a2)]) dX12_beginParts_1 rfl (Nat.le_of_ble_eq_true rfl) rfl ?_
  refine e_lv [1, 2, 3, 0] rfl ?_
  exact cb_X12_beginParts_b2 X fu a1 a2 (0 : Int32) w
theorem cf_X12_beginParts (X : Xt) (a1 : Int32) (a2 : Int32) (w : Wd) : CF gWV X m_X12_beginParts 3 [.ref (xa X 54), .int a1, .int a2] w (f_X12_beginParts a1 a2 w) := CF_of (by decide) (Nat.le_of_ble_eq_true rfl) (ce_X12_beginParts X a1 a2 w)
set_option maxRecDepth 100000 in
set_option maxHeartbeats 4000000 in
theorem cb_X12_power_b5_y (X : Xt) (w : Wd) (k5 : Int64 → Int32 → Int64 → Int32 → Option Int64) (hk5 : ∀ (x0 : Int64) (x2 : Int32) (x3 : Int64) (x5 : Int32), E (gRL w) X m_X12_power 1 5 [(0, .long x0), (2, .int x2), (3, .long x3), (5, .int x5)] [] w (k5 x0 x2 x3 x5)) (x0 : Int64) (x2 : Int32) (x3 : Int64) (x5 : Int32) : E (gRL w) X m_X12_power 1 5 [(0, .long x0), (2, .int x2), (3, .long x3), (5, .int x5)] [] w (f_X12_power_b5_y k5 x0 x2 x3 x5) := by
  unfold f_X12_power_b5_y
  refine e_iload (pc := 5) dX12_power_5 3 rfl ?_
  refine e_iload_n (pc := 7) dX12_power_7 1 rfl rfl ?_
  refine e_icmp_ge (pc := 8) (tgt := 21) dX12_power_8 (by decide) (fun _ => ?_) (fun _ => ?_)
  · refine e_lload_n (pc := 21) dX12_power_21 2 rfl rfl ?_
    exact e_lretR rfl dX12_power_22
  · refine e_lload_n (pc := 11) dX12_power_11 2 rfl rfl ?_
    refine e_lload_n (pc := 12) dX12_power_12 0 rfl rfl ?_
    refine e_lmul (pc := 13) dX12_power_13 ?_
    refine e_nameL (fun y1 => ?_)
    refine e_lstore_n (pc := 14) (lv' := [(3, .long y1), (0, .long x0), (2, .int x2), (5, .int x5)]) dX12_power_14 rfl (Nat.le_of_ble_eq_true rfl) rfl ?_
    refine e_iinc (pc := 15) (lv' := [(5, .int (x5 + (1 : Int32))), (3, .long y1), (0, .long x0), (2, .int x2)]) dX12_power_15 3 rfl (ii_1 _) (Nat.le_of_ble_eq_true rfl) rfl ?_
    refine e_goto (pc := 18) (tgt := 5) dX12_power_18 (by decide) ?_
    refine e_lv [2, 3, 1, 0] rfl ?_
    exact hk5 x0 x2 y1 (x5 + (1 : Int32))
theorem cb_X12_power_b5 (X : Xt) (w : Wd) : ∀ (n : Nat) (x0 : Int64) (x2 : Int32) (x3 : Int64) (x5 : Int32), E (gRL w) X m_X12_power 1 5 [(0, .long x0), (2, .int x2), (3, .long x3), (5, .int x5)] [] w (f_X12_power_b5 n x0 x2 x3 x5) := by
  intro n
  induction n with
  | zero =>
    intro x0 x2 x3 x5
    exact E_none
  | succ n ih =>
    intro x0 x2 x3 x5
    exact cb_X12_power_b5_y X w _ ih x0 x2 x3 x5
set_option maxRecDepth 100000 in
set_option maxHeartbeats 4000000 in
theorem ce_X12_power (X : Xt) (a0 : Int64) (a2 : Int32) (w : Wd) : E (gRL w) X m_X12_power 1 0 [(0, .long a0), (2, .int a2)] [] w (f_X12_power a0 a2) := by
  unfold f_X12_power
  refine e_lconst (pc := 0) (v := (1 : Int64)) dX12_power_0 lc_1 ?_
  refine e_lstore_n (pc := 1) (lv' := [(3, .long (1 : Int64)), (0, .long a0), (2, .int a2)]) dX12_power_1 rfl (Nat.le_of_ble_eq_true rfl) rfl ?_
  refine e_iconst (pc := 2) (v := (0 : Int32)) dX12_power_2 ic_0 ?_
  refine e_istore (pc := 3) (lv' := [(5, .int (0 : Int32)), (3, .long (1 : Int64)), (0, .long a0), (2, .int a2)]) dX12_power_3 (Nat.le_of_ble_eq_true rfl) rfl ?_
  refine e_lv [2, 3, 1, 0] rfl ?_
  exact cb_X12_power_b5 X w fu a0 a2 (1 : Int64) (0 : Int32)
theorem cf_X12_power (X : Xt) (a0 : Int64) (a2 : Int32) (w : Wd) : CF (gRL w) X m_X12_power 1 [.long a0, .int a2] w (f_X12_power a0 a2) := CF_of (by decide) (Nat.le_of_ble_eq_true rfl) (ce_X12_power X a0 a2 w)
set_option maxRecDepth 100000 in
set_option maxHeartbeats 4000000 in
theorem cb_X12_choose_b24 (X : Xt) (w : Wd) (s0 : Int32) (s1 : Int32) : E (gRI w) X m_X12_choose 1 24 [] [.int s0, .int s1] w (f_X12_choose_b24 s0 s1) := by
  unfold f_X12_choose_b24
  refine e_isub (pc := 24) dX12_choose_24 ?_
  exact e_iretR rfl dX12_choose_25
set_option maxRecDepth 100000 in
set_option maxHeartbeats 4000000 in
theorem ce_X12_choose (X : Xt) (a0 : Int32) (a1 : Int32) (w : Wd) : E (gRI w) X m_X12_choose 1 0 [(0, .int a0), (1, .int a1)] [] w (f_X12_choose a0 a1) := by
  unfold f_X12_choose
  refine e_iload_n (pc := 0) dX12_choose_0 1 rfl rfl ?_
  refine e_if_eq (pc := 1) (tgt := 9) dX12_choose_1 (by decide) (fun _ => ?_) (fun _ => ?_)
  · refine e_iconst (pc := 9) (v := (1 : Int32)) dX12_choose_9 ic_1 ?_
    refine e_goto (pc := 10) (tgt := 25) dX12_choose_10 (by decide) ?_
    exact e_iretR rfl dX12_choose_25
  · refine e_iload_n (pc := 4) dX12_choose_4 1 rfl rfl ?_
    refine e_iload_n (pc := 5) dX12_choose_5 0 rfl rfl ?_
    refine e_icmp_ne (pc := 6) (tgt := 13) dX12_choose_6 (by decide) (fun _ => ?_) (fun _ => ?_)
    · refine e_iconst (pc := 9) (v := (1 : Int32)) dX12_choose_9 ic_1 ?_
      refine e_goto (pc := 10) (tgt := 25) dX12_choose_10 (by decide) ?_
      exact e_iretR rfl dX12_choose_25
    · refine e_iconst (pc := 13) (v := (3 : Int32)) dX12_choose_13 ic_3 ?_
      refine e_iload_n (pc := 14) dX12_choose_14 0 rfl rfl ?_
      refine e_iconst (pc := 15) (v := (2 : Int32)) dX12_choose_15 ic_2 ?_
      refine e_icmp_ne (pc := 16) (tgt := 23) dX12_choose_16 (by decide) (fun _ => ?_) (fun _ => ?_)
      · refine e_iconst (pc := 19) (v := (1 : Int32)) dX12_choose_19 ic_1 ?_
        refine e_goto (pc := 20) (tgt := 24) dX12_choose_20 (by decide) ?_
        refine e_lv [] rfl ?_
        exact cb_X12_choose_b24 X w (1 : Int32) (3 : Int32)
      · refine e_iconst (pc := 23) (v := (0 : Int32)) dX12_choose_23 ic_0 ?_
        refine e_lv [] rfl ?_
        exact cb_X12_choose_b24 X w (0 : Int32) (3 : Int32)
theorem cf_X12_choose (X : Xt) (a0 : Int32) (a1 : Int32) (w : Wd) : CF (gRI w) X m_X12_choose 1 [.int a0, .int a1] w (f_X12_choose a0 a1) := CF_of (by decide) (Nat.le_of_ble_eq_true rfl) (ce_X12_choose X a0 a1 w)
set_option maxRecDepth 100000 in
set_option maxHeartbeats 4000000 in
theorem cb_X12_lookTo_b32_y (X : Xt) (k32 : Int32 → Int32 → Int32 → Int32 → Wd → Option Wd) (hk32 : ∀ (x1 : Int32) (x2 : Int32) (x3 : Int32) (x4 : Int32)  (w : Wd), E gWV X m_X12_lookTo 2 32 [(0, .ref (xa X 54)), (1, .int x1), (2, .int x2), (3, .int x3), (4, .int x4)] [] w (k32 x1 x2 x3 x4 w)) (x1 : Int32) (x2 : Int32) (x3 : Int32) (x4 : Int32) (w : Wd) : E gWV X m_X12_lookTo 2 32 [(0, .ref (xa X 54)), (1, .int x1), (2, .int x2), (3, .int x3), (4, .int x4)] [] w (f_X12_lookTo_b32_y k32 x1 x2 x3 x4 w) := by
  unfold f_X12_lookTo_b32_y
  refine e_iload (pc := 32) dX12_lookTo_32 4 rfl ?_
  refine e_iconst (pc := 34) (v := (3 : Int32)) dX12_lookTo_34 ic_3 ?_
  refine e_icmp_gt (pc := 35) (tgt := 109) dX12_lookTo_35 (by decide) (fun _ => ?_) (fun _ => ?_)
  · exact e_vret rfl dX12_lookTo_109
  · refine e_aload_n (pc := 38) dX12_lookTo_38 0 rfl rfl ?_
    refine g_R (pc := 39) (cl' := 71) kk54 fl_X12_75 rfl dX12_lookTo_39 ?_
    refine e_iconst (pc := 42) (v := (4 : Int32)) dX12_lookTo_42 ic_4 ?_
    refine e_iload_n (pc := 43) dX12_lookTo_43 1 rfl rfl ?_
    refine e_imul (pc := 44) dX12_lookTo_44 ?_
    refine e_iconst (pc := 45) (v := (4 : Int32)) dX12_lookTo_45 ic_4 ?_
    refine e_iadd (pc := 46) dX12_lookTo_46 ?_
    refine e_iload (pc := 47) dX12_lookTo_47 4 rfl ?_
    refine e_iadd (pc := 49) dX12_lookTo_49 ?_
    refine e_iload_n (pc := 50) dX12_lookTo_50 3 rfl rfl ?_
    refine e_isub (pc := 51) dX12_lookTo_51 ?_
    refine e_aload_n (pc := 52) dX12_lookTo_52 0 rfl rfl ?_
    refine g_R (pc := 53) (cl' := 71) kk54 fl_X12_75 rfl dX12_lookTo_53 ?_
    refine e_iconst (pc := 56) (v := (4 : Int32)) dX12_lookTo_56 ic_4 ?_
    refine e_iload_n (pc := 57) dX12_lookTo_57 1 rfl rfl ?_
    refine e_imul (pc := 58) dX12_lookTo_58 ?_
    refine e_iload (pc := 59) dX12_lookTo_59 4 rfl ?_
    refine e_iadd (pc := 61) dX12_lookTo_61 ?_
    refine e_lald (pc := 62) kk71 dX12_lookTo_62 (fun v1 => ?_)
    refine e_iload (pc := 63) dX12_lookTo_63 4 rfl ?_
    refine e_iload_n (pc := 65) dX12_lookTo_65 3 rfl rfl ?_
    refine e_callSRI (pc := 66) (As := [.int x4, .int x3]) (rest := [.long v1, .int (((((4 : Int32) * x1) + (4 : Int32)) + x4) - x3), .ref (xa X 71)]) (cf_X12_choose X x4 x3 w) lk_X12_255 (Nat.le_of_ble_eq_true rfl) (Nat.le_of_ble_eq_true rfl) rfl rfl (Nat.le_of_ble_eq_true rfl) dX12_lookTo_66 (fun r2 => ?_)
    refine e_i2l (pc := 69) dX12_lookTo_69 ?_
    refine e_lmul (pc := 70) dX12_lookTo_70 ?_
    refine e_iload_n (pc := 71) dX12_lookTo_71 2 rfl rfl ?_
    refine e_i2l (pc := 72) dX12_lookTo_72 ?_
    refine e_iload_n (pc := 73) dX12_lookTo_73 3 rfl rfl ?_
    refine e_callSRL (pc := 74) (As := [.long (Int32.toInt64 x2), .int x3]) (rest := [.long (v1 * (Int32.toInt64 r2)), .int (((((4 : Int32) * x1) + (4 : Int32)) + x4) - x3), .ref (xa X 71)]) (cf_X12_power X (Int32.toInt64 x2) x3 w) lk_X12_258 (Nat.le_of_ble_eq_true rfl) (Nat.le_of_ble_eq_true rfl) rfl rfl (Nat.le_of_ble_eq_true rfl) dX12_lookTo_74 (fun r3 => ?_)
    refine e_lmul (pc := 77) dX12_lookTo_77 ?_
    refine e_bipush (pc := 78) (v := (12 : Int32)) dX12_lookTo_78 bp_12 ?_
    refine e_iload_n (pc := 80) dX12_lookTo_80 2 rfl rfl ?_
    refine e_isub (pc := 81) dX12_lookTo_81 ?_
    refine e_i2l (pc := 82) dX12_lookTo_82 ?_
    refine e_iload (pc := 83) dX12_lookTo_83 4 rfl ?_
    refine e_iload_n (pc := 85) dX12_lookTo_85 3 rfl rfl ?_
    refine e_isub (pc := 86) dX12_lookTo_86 ?_
    refine e_callSRL (pc := 87) (As := [.long (Int32.toInt64 ((12 : Int32) - x2)), .int (x4 - x3)]) (rest := [.long ((v1 * (Int32.toInt64 r2)) * r3), .int (((((4 : Int32) * x1) + (4 : Int32)) + x4) - x3), .ref (xa X 71)]) (cf_X12_power X (Int32.toInt64 ((12 : Int32) - x2)) (x4 - x3) w) lk_X12_258 (Nat.le_of_ble_eq_true rfl) (Nat.le_of_ble_eq_true rfl) rfl rfl (Nat.le_of_ble_eq_true rfl) dX12_lookTo_87 (fun r4 => ?_)
    refine e_lmul (pc := 90) dX12_lookTo_90 ?_
    refine e_ldc2 (pc := 91) (v := (12 : Int64)) dX12_lookTo_91 cl_X12_262 ?_
    refine e_iconst (pc := 94) (v := (3 : Int32)) dX12_lookTo_94 ic_3 ?_
    refine e_iload (pc := 95) dX12_lookTo_95 4 rfl ?_
    refine e_isub (pc := 97) dX12_lookTo_97 ?_
    refine e_callSRL (pc := 98) (As := [.long (12 : Int64), .int ((3 : Int32) - x4)]) (rest := [.long (((v1 * (Int32.toInt64 r2)) * r3) * r4), .int (((((4 : Int32) * x1) + (4 : Int32)) + x4) - x3), .ref (xa X 71)]) (cf_X12_power X (12 : Int64) ((3 : Int32) - x4) w) lk_X12_258 (Nat.le_of_ble_eq_true rfl) (Nat.le_of_ble_eq_true rfl) rfl rfl (Nat.le_of_ble_eq_true rfl) dX12_lookTo_98 (fun r5 => ?_)
    refine e_lmul (pc := 101) dX12_lookTo_101 ?_
    refine e_last (pc := 102) kk71 dX12_lookTo_102 (fun w6 => ?_)
    refine e_iinc (pc := 103) (lv' := [(4, .int (x4 + (1 : Int32))), (0, .ref (xa X 54)), (1, .int x1), (2, .int x2), (3, .int x3)]) dX12_lookTo_103 4 rfl (ii_1 _) (Nat.le_of_ble_eq_true rfl) rfl ?_
    refine e_goto (pc := 106) (tgt := 32) dX12_lookTo_106 (by decide) ?_
    refine e_lv [1, 2, 3, 4, 0] rfl ?_
    exact hk32 x1 x2 x3 (x4 + (1 : Int32)) w6
theorem cb_X12_lookTo_b32 (X : Xt) : ∀ (n : Nat) (x1 : Int32) (x2 : Int32) (x3 : Int32) (x4 : Int32) (w : Wd), E gWV X m_X12_lookTo 2 32 [(0, .ref (xa X 54)), (1, .int x1), (2, .int x2), (3, .int x3), (4, .int x4)] [] w (f_X12_lookTo_b32 n x1 x2 x3 x4 w) := by
  intro n
  induction n with
  | zero =>
    intro x1 x2 x3 x4 w
    exact E_none
  | succ n ih =>
    intro x1 x2 x3 x4 w
    exact cb_X12_lookTo_b32_y X _ ih x1 x2 x3 x4 w
set_option maxRecDepth 100000 in
set_option maxHeartbeats 4000000 in
theorem cb_X12_lookTo_b3_y (X : Xt) (k3 : Int32 → Int32 → Int32 → Int32 → Wd → Option Wd) (hk3 : ∀ (x1 : Int32) (x2 : Int32) (x3 : Int32) (x4 : Int32)  (w : Wd), E gWV X m_X12_lookTo 2 3 [(0, .ref (xa X 54)), (1, .int x1), (2, .int x2), (3, .int x3), (4, .int x4)] [] w (k3 x1 x2 x3 x4 w)) (x1 : Int32) (x2 : Int32) (x3 : Int32) (x4 : Int32) (w : Wd) : E gWV X m_X12_lookTo 2 3 [(0, .ref (xa X 54)), (1, .int x1), (2, .int x2), (3, .int x3), (4, .int x4)] [] w (f_X12_lookTo_b3_y k3 x1 x2 x3 x4 w) := by
  unfold f_X12_lookTo_b3_y
  refine e_iload (pc := 3) dX12_lookTo_3 4 rfl ?_
  refine e_iconst (pc := 5) (v := (3 : Int32)) dX12_lookTo_5 ic_3 ?_
  refine e_icmp_gt (pc := 6) (tgt := 29) dX12_lookTo_6 (by decide) (fun _ => ?_) (fun _ => ?_)
  · refine e_iload_n (pc := 29) dX12_lookTo_29 3 rfl rfl ?_
    refine e_istore (pc := 30) (lv' := [(4, .int x3), (0, .ref (xa X 54)), (1, .int x1), (2, .int x2), (3, .int x3)]) dX12_lookTo_30 (Nat.le_of_ble_eq_true rfl) rfl ?_
    refine e_lv [1, 2, 3, 4, 0] rfl ?_
    exact cb_X12_lookTo_b32 X fu x1 x2 x3 x3 w
  · refine e_aload_n (pc := 9) dX12_lookTo_9 0 rfl rfl ?_
    refine g_R (pc := 10) (cl' := 71) kk54 fl_X12_75 rfl dX12_lookTo_10 ?_
    refine e_iconst (pc := 13) (v := (4 : Int32)) dX12_lookTo_13 ic_4 ?_
    refine e_iload_n (pc := 14) dX12_lookTo_14 1 rfl rfl ?_
    refine e_imul (pc := 15) dX12_lookTo_15 ?_
    refine e_iconst (pc := 16) (v := (4 : Int32)) dX12_lookTo_16 ic_4 ?_
    refine e_iadd (pc := 17) dX12_lookTo_17 ?_
    refine e_iload (pc := 18) dX12_lookTo_18 4 rfl ?_
    refine e_iadd (pc := 20) dX12_lookTo_20 ?_
    refine e_lconst (pc := 21) (v := (0 : Int64)) dX12_lookTo_21 lc_0 ?_
    refine e_last (pc := 22) kk71 dX12_lookTo_22 (fun w7 => ?_)
    refine e_iinc (pc := 23) (lv' := [(4, .int (x4 + (1 : Int32))), (0, .ref (xa X 54)), (1, .int x1), (2, .int x2), (3, .int x3)]) dX12_lookTo_23 4 rfl (ii_1 _) (Nat.le_of_ble_eq_true rfl) rfl ?_
    refine e_goto (pc := 26) (tgt := 3) dX12_lookTo_26 (by decide) ?_
    refine e_lv [1, 2, 3, 4, 0] rfl ?_
    exact hk3 x1 x2 x3 (x4 + (1 : Int32)) w7
theorem cb_X12_lookTo_b3 (X : Xt) : ∀ (n : Nat) (x1 : Int32) (x2 : Int32) (x3 : Int32) (x4 : Int32) (w : Wd), E gWV X m_X12_lookTo 2 3 [(0, .ref (xa X 54)), (1, .int x1), (2, .int x2), (3, .int x3), (4, .int x4)] [] w (f_X12_lookTo_b3 n x1 x2 x3 x4 w) := by
  intro n
  induction n with
  | zero =>
    intro x1 x2 x3 x4 w
    exact E_none
  | succ n ih =>
    intro x1 x2 x3 x4 w
    exact cb_X12_lookTo_b3_y X _ ih x1 x2 x3 x4 w
set_option maxRecDepth 100000 in
set_option maxHeartbeats 4000000 in
theorem ce_X12_lookTo (X : Xt) (a1 : Int32) (a2 : Int32) (a3 : Int32) (w : Wd) : E gWV X m_X12_lookTo 2 0 [(0, .ref (xa X 54)), (1, .int a1), (2, .int a2), (3, .int a3)] [] w (f_X12_lookTo a1 a2 a3 w) := by
  unfold f_X12_lookTo
  refine e_iconst (pc := 0) (v := (0 : Int32)) dX12_lookTo_0 ic_0 ?_
  refine e_istore (pc := 1) (lv' := [(4, .int (0 : Int32)), (0, .ref (xa X 54)), (1, .int a1), (2, .int a2), (3, .int a3)]) dX12_lookTo_1 (Nat.le_of_ble_eq_true rfl) rfl ?_
  refine e_lv [1, 2, 3, 4, 0] rfl ?_
  exact cb_X12_lookTo_b3 X fu a1 a2 a3 (0 : Int32) w
theorem cf_X12_lookTo (X : Xt) (a1 : Int32) (a2 : Int32) (a3 : Int32) (w : Wd) : CF gWV X m_X12_lookTo 2 [.ref (xa X 54), .int a1, .int a2, .int a3] w (f_X12_lookTo a1 a2 a3 w) := CF_of (by decide) (Nat.le_of_ble_eq_true rfl) (ce_X12_lookTo X a1 a2 a3 w)
set_option maxRecDepth 100000 in
set_option maxHeartbeats 4000000 in
theorem ce_X12_allParts (X : Xt) (a1 : Int32) (w : Wd) : E (gRL w) X m_X12_allParts 1 0 [(0, .ref (xa X 54)), (1, .int a1)] [] w (f_X12_allParts a1 w) := by
  unfold f_X12_allParts
  refine e_aload_n (pc := 0) dX12_allParts_0 0 rfl rfl ?_
  refine g_R (pc := 1) (cl' := 71) kk54 fl_X12_75 rfl dX12_allParts_1 ?_
  refine e_iconst (pc := 4) (v := (4 : Int32)) dX12_allParts_4 ic_4 ?_
  refine e_iload_n (pc := 5) dX12_allParts_5 1 rfl rfl ?_
  refine e_imul (pc := 6) dX12_allParts_6 ?_
  refine e_lald (pc := 7) kk71 dX12_allParts_7 (fun v1 => ?_)
  refine e_aload_n (pc := 8) dX12_allParts_8 0 rfl rfl ?_
  refine g_R (pc := 9) (cl' := 71) kk54 fl_X12_75 rfl dX12_allParts_9 ?_
  refine e_iconst (pc := 12) (v := (4 : Int32)) dX12_allParts_12 ic_4 ?_
  refine e_iload_n (pc := 13) dX12_allParts_13 1 rfl rfl ?_
  refine e_imul (pc := 14) dX12_allParts_14 ?_
  refine e_iconst (pc := 15) (v := (1 : Int32)) dX12_allParts_15 ic_1 ?_
  refine e_iadd (pc := 16) dX12_allParts_16 ?_
  refine e_lald (pc := 17) kk71 dX12_allParts_17 (fun v2 => ?_)
  refine e_ladd (pc := 18) dX12_allParts_18 ?_
  refine e_aload_n (pc := 19) dX12_allParts_19 0 rfl rfl ?_
  refine g_R (pc := 20) (cl' := 71) kk54 fl_X12_75 rfl dX12_allParts_20 ?_
  refine e_iconst (pc := 23) (v := (4 : Int32)) dX12_allParts_23 ic_4 ?_
  refine e_iload_n (pc := 24) dX12_allParts_24 1 rfl rfl ?_
  refine e_imul (pc := 25) dX12_allParts_25 ?_
  refine e_iconst (pc := 26) (v := (2 : Int32)) dX12_allParts_26 ic_2 ?_
  refine e_iadd (pc := 27) dX12_allParts_27 ?_
  refine e_lald (pc := 28) kk71 dX12_allParts_28 (fun v3 => ?_)
  refine e_ladd (pc := 29) dX12_allParts_29 ?_
  refine e_aload_n (pc := 30) dX12_allParts_30 0 rfl rfl ?_
  refine g_R (pc := 31) (cl' := 71) kk54 fl_X12_75 rfl dX12_allParts_31 ?_
  refine e_iconst (pc := 34) (v := (4 : Int32)) dX12_allParts_34 ic_4 ?_
  refine e_iload_n (pc := 35) dX12_allParts_35 1 rfl rfl ?_
  refine e_imul (pc := 36) dX12_allParts_36 ?_
  refine e_iconst (pc := 37) (v := (3 : Int32)) dX12_allParts_37 ic_3 ?_
  refine e_iadd (pc := 38) dX12_allParts_38 ?_
  refine e_lald (pc := 39) kk71 dX12_allParts_39 (fun v4 => ?_)
  refine e_ladd (pc := 40) dX12_allParts_40 ?_
  exact e_lretR rfl dX12_allParts_41
theorem cf_X12_allParts (X : Xt) (a1 : Int32) (w : Wd) : CF (gRL w) X m_X12_allParts 1 [.ref (xa X 54), .int a1] w (f_X12_allParts a1 w) := CF_of (by decide) (Nat.le_of_ble_eq_true rfl) (ce_X12_allParts X a1 w)
set_option maxRecDepth 100000 in
set_option maxHeartbeats 4000000 in
theorem ce_X12_stonesIn (X : Xt) (a1 : Int32) (w : Wd) : E (gRL w) X m_X12_stonesIn 1 0 [(0, .ref (xa X 54)), (1, .int a1)] [] w (f_X12_stonesIn a1 w) := by
  unfold f_X12_stonesIn
  refine e_aload_n (pc := 0) dX12_stonesIn_0 0 rfl rfl ?_
  refine g_R (pc := 1) (cl' := 71) kk54 fl_X12_75 rfl dX12_stonesIn_1 ?_
  refine e_iconst (pc := 4) (v := (4 : Int32)) dX12_stonesIn_4 ic_4 ?_
  refine e_iload_n (pc := 5) dX12_stonesIn_5 1 rfl rfl ?_
  refine e_imul (pc := 6) dX12_stonesIn_6 ?_
  refine e_iconst (pc := 7) (v := (1 : Int32)) dX12_stonesIn_7 ic_1 ?_
  refine e_iadd (pc := 8) dX12_stonesIn_8 ?_
  refine e_lald (pc := 9) kk71 dX12_stonesIn_9 (fun v1 => ?_)
  refine e_ldc2 (pc := 10) (v := (2 : Int64)) dX12_stonesIn_10 cl_X12_264 ?_
  refine e_aload_n (pc := 13) dX12_stonesIn_13 0 rfl rfl ?_
  refine g_R (pc := 14) (cl' := 71) kk54 fl_X12_75 rfl dX12_stonesIn_14 ?_
  refine e_iconst (pc := 17) (v := (4 : Int32)) dX12_stonesIn_17 ic_4 ?_
  refine e_iload_n (pc := 18) dX12_stonesIn_18 1 rfl rfl ?_
  refine e_imul (pc := 19) dX12_stonesIn_19 ?_
  refine e_iconst (pc := 20) (v := (2 : Int32)) dX12_stonesIn_20 ic_2 ?_
  refine e_iadd (pc := 21) dX12_stonesIn_21 ?_
  refine e_lald (pc := 22) kk71 dX12_stonesIn_22 (fun v2 => ?_)
  refine e_lmul (pc := 23) dX12_stonesIn_23 ?_
  refine e_ladd (pc := 24) dX12_stonesIn_24 ?_
  refine e_ldc2 (pc := 25) (v := (3 : Int64)) dX12_stonesIn_25 cl_X12_266 ?_
  refine e_aload_n (pc := 28) dX12_stonesIn_28 0 rfl rfl ?_
  refine g_R (pc := 29) (cl' := 71) kk54 fl_X12_75 rfl dX12_stonesIn_29 ?_
  refine e_iconst (pc := 32) (v := (4 : Int32)) dX12_stonesIn_32 ic_4 ?_
  refine e_iload_n (pc := 33) dX12_stonesIn_33 1 rfl rfl ?_
  refine e_imul (pc := 34) dX12_stonesIn_34 ?_
  refine e_iconst (pc := 35) (v := (3 : Int32)) dX12_stonesIn_35 ic_3 ?_
  refine e_iadd (pc := 36) dX12_stonesIn_36 ?_
  refine e_lald (pc := 37) kk71 dX12_stonesIn_37 (fun v3 => ?_)
  refine e_lmul (pc := 38) dX12_stonesIn_38 ?_
  refine e_ladd (pc := 39) dX12_stonesIn_39 ?_
  exact e_lretR rfl dX12_stonesIn_40
theorem cf_X12_stonesIn (X : Xt) (a1 : Int32) (w : Wd) : CF (gRL w) X m_X12_stonesIn 1 [.ref (xa X 54), .int a1] w (f_X12_stonesIn a1 w) := CF_of (by decide) (Nat.le_of_ble_eq_true rfl) (ce_X12_stonesIn X a1 w)
set_option maxRecDepth 100000 in
set_option maxHeartbeats 4000000 in
theorem ce_X12_rowFault (X : Xt) (a1 : Int32) (w : Wd) : E (gRI w) X m_X12_rowFault 1 0 [(0, .ref (xa X 54)), (1, .int a1)] [] w (f_X12_rowFault a1 w) := by
  unfold f_X12_rowFault
  refine e_aload_n (pc := 0) dX12_rowFault_0 0 rfl rfl ?_
  refine g_R (pc := 1) (cl' := 82) kk54 fl_X12_109 rfl dX12_rowFault_1 ?_
  refine e_iload_n (pc := 4) dX12_rowFault_4 1 rfl rfl ?_
  refine e_iald (pc := 5) kk82 dX12_rowFault_5 (fun v1 => ?_)
  refine e_iconst (pc := 6) (v := (-1 : Int32)) dX12_rowFault_6 ic_m1 ?_
  refine e_icmp_ne (pc := 7) (tgt := 15) dX12_rowFault_7 (by decide) (fun _ => ?_) (fun _ => ?_)
  · refine e_bipush (pc := 10) (v := (-11 : Int32)) dX12_rowFault_10 bp_m11 ?_
    refine e_goto (pc := 12) (tgt := 32) dX12_rowFault_12 (by decide) ?_
    exact e_iretR rfl dX12_rowFault_32
  · refine e_aload_n (pc := 15) dX12_rowFault_15 0 rfl rfl ?_
    refine g_R (pc := 16) (cl' := 82) kk54 fl_X12_109 rfl dX12_rowFault_16 ?_
    refine e_iload_n (pc := 19) dX12_rowFault_19 1 rfl rfl ?_
    refine e_iald (pc := 20) kk82 dX12_rowFault_20 (fun v2 => ?_)
    refine e_bipush (pc := 21) (v := (-2 : Int32)) dX12_rowFault_21 bp_m2 ?_
    refine e_icmp_ne (pc := 23) (tgt := 30) dX12_rowFault_23 (by decide) (fun _ => ?_) (fun _ => ?_)
    · refine e_iconst (pc := 26) (v := (0 : Int32)) dX12_rowFault_26 ic_0 ?_
      refine e_goto (pc := 27) (tgt := 32) dX12_rowFault_27 (by decide) ?_
      exact e_iretR rfl dX12_rowFault_32
    · refine e_bipush (pc := 30) (v := (-12 : Int32)) dX12_rowFault_30 bp_m12 ?_
      exact e_iretR rfl dX12_rowFault_32
theorem cf_X12_rowFault (X : Xt) (a1 : Int32) (w : Wd) : CF (gRI w) X m_X12_rowFault 1 [.ref (xa X 54), .int a1] w (f_X12_rowFault a1 w) := CF_of (by decide) (Nat.le_of_ble_eq_true rfl) (ce_X12_rowFault X a1 w)
set_option maxRecDepth 100000 in
set_option maxHeartbeats 4000000 in
theorem ce_X12_byteAt (X : Xt) (a1 : Int32) (a2 : Int32) (w : Wd) : E (gRI w) X m_X12_byteAt 1 0 [(0, .ref (xa X 54)), (1, .int a1), (2, .int a2)] [] w (f_X12_byteAt a1 a2 w) := by
  unfold f_X12_byteAt
  refine e_aload_n (pc := 0) dX12_byteAt_0 0 rfl rfl ?_
  refine g_R (pc := 1) (cl' := 84) kk54 fl_X12_115 rfl dX12_byteAt_1 ?_
  refine e_bipush (pc := 4) (v := (60 : Int32)) dX12_byteAt_4 bp_60 ?_
  refine e_iload_n (pc := 6) dX12_byteAt_6 1 rfl rfl ?_
  refine e_imul (pc := 7) dX12_byteAt_7 ?_
  refine e_iload_n (pc := 8) dX12_byteAt_8 2 rfl rfl ?_
  refine e_iadd (pc := 9) dX12_byteAt_9 ?_
  refine e_lald (pc := 10) kk84 dX12_byteAt_10 (fun v1 => ?_)
  refine e_l2i (pc := 11) dX12_byteAt_11 ?_
  exact e_iretR rfl dX12_byteAt_12
theorem cf_X12_byteAt (X : Xt) (a1 : Int32) (a2 : Int32) (w : Wd) : CF (gRI w) X m_X12_byteAt 1 [.ref (xa X 54), .int a1, .int a2] w (f_X12_byteAt a1 a2 w) := CF_of (by decide) (Nat.le_of_ble_eq_true rfl) (ce_X12_byteAt X a1 a2 w)
set_option maxRecDepth 100000 in
set_option maxHeartbeats 4000000 in
theorem cb_X12_goLooks_b8_y (X : Xt) (k8 : Int32 → Int32 → Wd → Option (Int32 × Wd)) (hk8 : ∀ (x1 : Int32) (x3 : Int32)  (w : Wd), E gWI X m_X12_goLooks 5 8 [(0, .ref (xa X 54)), (1, .int x1), (3, .int x3)] [] w (k8 x1 x3 w)) (x1 : Int32) (x3 : Int32) (w : Wd) : E gWI X m_X12_goLooks 5 8 [(0, .ref (xa X 54)), (1, .int x1), (3, .int x3)] [] w (f_X12_goLooks_b8_y k8 x1 x3 w) := by
  unfold f_X12_goLooks_b8_y
  refine e_iload_n (pc := 8) dX12_goLooks_8 2 rfl rfl ?_
  refine e_iconst (pc := 9) (v := (4 : Int32)) dX12_goLooks_9 ic_4 ?_
  refine e_icmp_ge (pc := 10) (tgt := 98) dX12_goLooks_10 (by decide) (fun _ => ?_) (fun _ => ?_)
  · refine e_iload_n (pc := 98) dX12_goLooks_98 2 rfl rfl ?_
    exact e_iretW rfl dX12_goLooks_99
  · refine e_iconst (pc := 13) (v := (2 : Int32)) dX12_goLooks_13 ic_2 ?_
    refine e_iload_n (pc := 14) dX12_goLooks_14 2 rfl rfl ?_
    refine e_imul (pc := 15) dX12_goLooks_15 ?_
    refine e_iconst (pc := 16) (v := (1 : Int32)) dX12_goLooks_16 ic_1 ?_
    refine e_iadd (pc := 17) dX12_goLooks_17 ?_
    refine e_aload_n (pc := 18) dX12_goLooks_18 0 rfl rfl ?_
    refine g_R (pc := 19) (cl' := 83) kk54 fl_X12_112 rfl dX12_goLooks_19 ?_
    refine e_iload_n (pc := 22) dX12_goLooks_22 1 rfl rfl ?_
    refine e_iald (pc := 23) kk83 dX12_goLooks_23 (fun v2 => ?_)
    refine e_icmp_ge (pc := 24) (tgt := 98) dX12_goLooks_24 (by decide) (fun _ => ?_) (fun _ => ?_)
    · refine e_iload_n (pc := 98) dX12_goLooks_98 2 rfl rfl ?_
      exact e_iretW rfl dX12_goLooks_99
    · refine e_aload_n (pc := 27) dX12_goLooks_27 0 rfl rfl ?_
      refine e_aload_n (pc := 28) dX12_goLooks_28 0 rfl rfl ?_
      refine e_iload_n (pc := 29) dX12_goLooks_29 1 rfl rfl ?_
      refine e_iconst (pc := 30) (v := (2 : Int32)) dX12_goLooks_30 ic_2 ?_
      refine e_iload_n (pc := 31) dX12_goLooks_31 2 rfl rfl ?_
      refine e_imul (pc := 32) dX12_goLooks_32 ?_
      refine e_callVRI (pc := 33) (As := [.int x1, .int ((2 : Int32) * x3)]) (rest := [.ref (xa X 54)]) kk54 Kc12 (cf_X12_byteAt X x1 ((2 : Int32) * x3) w) lk_X12_271 (Nat.le_of_ble_eq_true rfl) (Nat.le_of_ble_eq_true rfl) rfl rfl (Nat.le_of_ble_eq_true rfl) dX12_goLooks_33 (fun r3 => ?_)
      refine e_callVRI (pc := 36) (As := [.int r3]) (rest := []) kk54 Kc12 (cf_X12_isLooker X r3 w) lk_X12_158 (Nat.le_of_ble_eq_true rfl) (Nat.le_of_ble_eq_true rfl) rfl rfl (Nat.le_of_ble_eq_true rfl) dX12_goLooks_36 (fun r4 => ?_)
      refine e_if_eq (pc := 39) (tgt := 98) dX12_goLooks_39 (by decide) (fun _ => ?_) (fun _ => ?_)
      · refine e_iload_n (pc := 98) dX12_goLooks_98 2 rfl rfl ?_
        exact e_iretW rfl dX12_goLooks_99
      · refine e_aload_n (pc := 42) dX12_goLooks_42 0 rfl rfl ?_
        refine e_iload_n (pc := 43) dX12_goLooks_43 1 rfl rfl ?_
        refine e_iconst (pc := 44) (v := (2 : Int32)) dX12_goLooks_44 ic_2 ?_
        refine e_iload_n (pc := 45) dX12_goLooks_45 2 rfl rfl ?_
        refine e_imul (pc := 46) dX12_goLooks_46 ?_
        refine e_iconst (pc := 47) (v := (1 : Int32)) dX12_goLooks_47 ic_1 ?_
        refine e_iadd (pc := 48) dX12_goLooks_48 ?_
        refine e_callVRI (pc := 49) (As := [.int x1, .int (((2 : Int32) * x3) + (1 : Int32))]) (rest := []) kk54 Kc12 (cf_X12_byteAt X x1 (((2 : Int32) * x3) + (1 : Int32)) w) lk_X12_271 (Nat.le_of_ble_eq_true rfl) (Nat.le_of_ble_eq_true rfl) rfl rfl (Nat.le_of_ble_eq_true rfl) dX12_goLooks_49 (fun r5 => ?_)
        refine e_iconst (pc := 52) (v := (0 : Int32)) dX12_goLooks_52 ic_0 ?_
        refine e_iconst (pc := 53) (v := (3 : Int32)) dX12_goLooks_53 ic_3 ?_
        refine e_callSRI (pc := 54) (As := [.int r5, .int (0 : Int32), .int (3 : Int32)]) (rest := []) (cf_X12_in X r5 (0 : Int32) (3 : Int32) w) lk_X12_124 (Nat.le_of_ble_eq_true rfl) (Nat.le_of_ble_eq_true rfl) rfl rfl (Nat.le_of_ble_eq_true rfl) dX12_goLooks_54 (fun r6 => ?_)
        refine e_if_eq (pc := 57) (tgt := 98) dX12_goLooks_57 (by decide) (fun _ => ?_) (fun _ => ?_)
        · refine e_iload_n (pc := 98) dX12_goLooks_98 2 rfl rfl ?_
          exact e_iretW rfl dX12_goLooks_99
        · refine e_aload_n (pc := 60) dX12_goLooks_60 0 rfl rfl ?_
          refine e_iload_n (pc := 61) dX12_goLooks_61 2 rfl rfl ?_
          refine e_aload_n (pc := 62) dX12_goLooks_62 0 rfl rfl ?_
          refine e_aload_n (pc := 63) dX12_goLooks_63 0 rfl rfl ?_
          refine e_iload_n (pc := 64) dX12_goLooks_64 1 rfl rfl ?_
          refine e_iconst (pc := 65) (v := (2 : Int32)) dX12_goLooks_65 ic_2 ?_
          refine e_iload_n (pc := 66) dX12_goLooks_66 2 rfl rfl ?_
          refine e_imul (pc := 67) dX12_goLooks_67 ?_
          refine e_callVRI (pc := 68) (As := [.int x1, .int ((2 : Int32) * x3)]) (rest := [.ref (xa X 54), .int x3, .ref (xa X 54)]) kk54 Kc12 (cf_X12_byteAt X x1 ((2 : Int32) * x3) w) lk_X12_271 (Nat.le_of_ble_eq_true rfl) (Nat.le_of_ble_eq_true rfl) rfl rfl (Nat.le_of_ble_eq_true rfl) dX12_goLooks_68 (fun r7 => ?_)
          refine e_iload_n (pc := 71) dX12_goLooks_71 2 rfl rfl ?_
          refine e_aload_n (pc := 72) dX12_goLooks_72 0 rfl rfl ?_
          refine g_I (pc := 73) kk54 fl_X12_28 dX12_goLooks_73 ?_
          refine e_callVWI (pc := 76) (As := [.int r7, .int x3, .int (gi w 54 8)]) (rest := [.int x3, .ref (xa X 54)]) kk54 Kc12 (cf_X12_findsBy X r7 x3 (gi w 54 8) w) lk_X12_246 (Nat.le_of_ble_eq_true rfl) (Nat.le_of_ble_eq_true rfl) rfl rfl (Nat.le_of_ble_eq_true rfl) dX12_goLooks_76 (fun r8 w9 => ?_)
          refine e_aload_n (pc := 79) dX12_goLooks_79 0 rfl rfl ?_
          refine e_iload_n (pc := 80) dX12_goLooks_80 1 rfl rfl ?_
          refine e_iconst (pc := 81) (v := (2 : Int32)) dX12_goLooks_81 ic_2 ?_
          refine e_iload_n (pc := 82) dX12_goLooks_82 2 rfl rfl ?_
          refine e_imul (pc := 83) dX12_goLooks_83 ?_
          refine e_iconst (pc := 84) (v := (1 : Int32)) dX12_goLooks_84 ic_1 ?_
          refine e_iadd (pc := 85) dX12_goLooks_85 ?_
          refine e_callVRI (pc := 86) (As := [.int x1, .int (((2 : Int32) * x3) + (1 : Int32))]) (rest := [.int r8, .int x3, .ref (xa X 54)]) kk54 Kc12 (cf_X12_byteAt X x1 (((2 : Int32) * x3) + (1 : Int32)) w9) lk_X12_271 (Nat.le_of_ble_eq_true rfl) (Nat.le_of_ble_eq_true rfl) rfl rfl (Nat.le_of_ble_eq_true rfl) dX12_goLooks_86 (fun r10 => ?_)
          refine e_callVWV (pc := 89) (As := [.int x3, .int r8, .int r10]) (rest := []) kk54 Kc12 (cf_X12_lookTo X x3 r8 r10 w9) lk_X12_274 (Nat.le_of_ble_eq_true rfl) (Nat.le_of_ble_eq_true rfl) rfl rfl (Nat.le_of_ble_eq_true rfl) dX12_goLooks_89 (fun w11 => ?_)
          refine e_iinc (pc := 92) (lv' := [(3, .int (x3 + (1 : Int32))), (0, .ref (xa X 54)), (1, .int x1)]) dX12_goLooks_92 2 rfl (ii_1 _) (Nat.le_of_ble_eq_true rfl) rfl ?_
          refine e_goto (pc := 95) (tgt := 8) dX12_goLooks_95 (by decide) ?_
          refine e_lv [1, 2, 0] rfl ?_
          exact hk8 x1 (x3 + (1 : Int32)) w11
theorem cb_X12_goLooks_b8 (X : Xt) : ∀ (n : Nat) (x1 : Int32) (x3 : Int32) (w : Wd), E gWI X m_X12_goLooks 5 8 [(0, .ref (xa X 54)), (1, .int x1), (3, .int x3)] [] w (f_X12_goLooks_b8 n x1 x3 w) := by
  intro n
  induction n with
  | zero =>
    intro x1 x3 w
    exact E_none
  | succ n ih =>
    intro x1 x3 w
    exact cb_X12_goLooks_b8_y X _ ih x1 x3 w
set_option maxRecDepth 100000 in
set_option maxHeartbeats 4000000 in
theorem ce_X12_goLooks (X : Xt) (a1 : Int32) (a2 : Int32) (w : Wd) : E gWI X m_X12_goLooks 5 0 [(0, .ref (xa X 54)), (1, .int a1), (2, .int a2)] [] w (f_X12_goLooks a1 a2 w) := by
  unfold f_X12_goLooks
  refine e_aload_n (pc := 0) dX12_goLooks_0 0 rfl rfl ?_
  refine e_iload_n (pc := 1) dX12_goLooks_1 2 rfl rfl ?_
  refine e_iconst (pc := 2) (v := (0 : Int32)) dX12_goLooks_2 ic_0 ?_
  refine e_callVWV (pc := 3) (As := [.int a2, .int (0 : Int32)]) (rest := []) kk54 Kc12 (cf_X12_beginParts X a2 (0 : Int32) w) lk_X12_268 (Nat.le_of_ble_eq_true rfl) (Nat.le_of_ble_eq_true rfl) rfl rfl (Nat.le_of_ble_eq_true rfl) dX12_goLooks_3 (fun w1 => ?_)
  refine e_iconst (pc := 6) (v := (0 : Int32)) dX12_goLooks_6 ic_0 ?_
  refine e_istore_n (pc := 7) (lv' := [(3, .int (0 : Int32)), (0, .ref (xa X 54)), (1, .int a1), (2, .int a2)]) dX12_goLooks_7 rfl (Nat.le_of_ble_eq_true rfl) rfl ?_
  refine e_lv [1, 2, 0] rfl ?_
  exact cb_X12_goLooks_b8 X fu a1 (0 : Int32) w1
theorem cf_X12_goLooks (X : Xt) (a1 : Int32) (a2 : Int32) (w : Wd) : CF gWI X m_X12_goLooks 5 [.ref (xa X 54), .int a1, .int a2] w (f_X12_goLooks a1 a2 w) := CF_of (by decide) (Nat.le_of_ble_eq_true rfl) (ce_X12_goLooks X a1 a2 w)
set_option maxRecDepth 100000 in
set_option maxHeartbeats 4000000 in
theorem cb_X12_asPart_b17_y (X : Xt) (w : Wd) (k17 : Int64 → Int64 → Int32 → Int64 → Int64 → Option Int64) (hk17 : ∀ (x0 : Int64) (x2 : Int64) (x4 : Int32) (x5 : Int64) (x7 : Int64), E (gRL w) X m_X12_asPart 1 17 [(0, .long x0), (2, .long x2), (4, .int x4), (5, .long x5), (7, .long x7)] [] w (k17 x0 x2 x4 x5 x7)) (x0 : Int64) (x2 : Int64) (x4 : Int32) (x5 : Int64) (x7 : Int64) : E (gRL w) X m_X12_asPart 1 17 [(0, .long x0), (2, .long x2), (4, .int x4), (5, .long x5), (7, .long x7)] [] w (f_X12_asPart_b17_y k17 x0 x2 x4 x5 x7) := by
  unfold f_X12_asPart_b17_y
  refine e_lload (pc := 17) dX12_asPart_17 4 rfl ?_
  refine e_lconst (pc := 19) (v := (0 : Int64)) dX12_asPart_19 lc_0 ?_
  refine e_lcmp_eq (pc := 20) (tgt := 42) dX12_asPart_20 dX12_asPart_21 (by decide) (fun _ => ?_) (fun _ => ?_)
  · refine e_iload (pc := 42) dX12_asPart_42 2 rfl ?_
    refine e_if_ne (pc := 44) (tgt := 54) dX12_asPart_44 (by decide) (fun _ => ?_) (fun _ => ?_)
    · refine e_lload_n (pc := 47) dX12_asPart_47 0 rfl rfl ?_
      refine e_lload (pc := 48) dX12_asPart_48 3 rfl ?_
      refine e_ldivG (pc := 50) dX12_asPart_50 (fun v2 => ?_)
      refine e_goto (pc := 51) (tgt := 58) dX12_asPart_51 (by decide) ?_
      exact e_lretR rfl dX12_asPart_58
    · refine e_lload_n (pc := 54) dX12_asPart_54 1 rfl rfl ?_
      refine e_lload (pc := 55) dX12_asPart_55 3 rfl ?_
      refine e_ldivG (pc := 57) dX12_asPart_57 (fun v1 => ?_)
      exact e_lretR rfl dX12_asPart_58
  · refine e_lload (pc := 24) dX12_asPart_24 3 rfl ?_
    refine e_lload (pc := 26) dX12_asPart_26 4 rfl ?_
    refine e_lremG (pc := 28) dX12_asPart_28 (fun v3 => ?_)
    refine e_lstore (pc := 29) (lv' := [(9, .long v3), (0, .long x0), (2, .long x2), (4, .int x4), (5, .long x5), (7, .long x7)]) dX12_asPart_29 (Nat.le_of_ble_eq_true rfl) rfl ?_
    refine e_lload (pc := 31) dX12_asPart_31 5 rfl ?_
    refine e_lstore (pc := 33) (lv' := [(5, .long x7), (9, .long v3), (0, .long x0), (2, .long x2), (4, .int x4), (7, .long x7)]) dX12_asPart_33 (Nat.le_of_ble_eq_true rfl) rfl ?_
    refine e_lload (pc := 35) dX12_asPart_35 1 rfl ?_
    refine e_lstore (pc := 37) (lv' := [(7, .long v3), (5, .long x7), (9, .long v3), (0, .long x0), (2, .long x2), (4, .int x4)]) dX12_asPart_37 (Nat.le_of_ble_eq_true rfl) rfl ?_
    refine e_goto (pc := 39) (tgt := 17) dX12_asPart_39 (by decide) ?_
    refine e_lv [3, 4, 5, 1, 0] rfl ?_
    exact hk17 x0 x2 x4 x7 v3
theorem cb_X12_asPart_b17 (X : Xt) (w : Wd) : ∀ (n : Nat) (x0 : Int64) (x2 : Int64) (x4 : Int32) (x5 : Int64) (x7 : Int64), E (gRL w) X m_X12_asPart 1 17 [(0, .long x0), (2, .long x2), (4, .int x4), (5, .long x5), (7, .long x7)] [] w (f_X12_asPart_b17 n x0 x2 x4 x5 x7) := by
  intro n
  induction n with
  | zero =>
    intro x0 x2 x4 x5 x7
    exact E_none
  | succ n ih =>
    intro x0 x2 x4 x5 x7
    exact cb_X12_asPart_b17_y X w _ ih x0 x2 x4 x5 x7
set_option maxRecDepth 100000 in
set_option maxHeartbeats 4000000 in
theorem cb_X12_asPart_b12 (X : Xt) (w : Wd) (x0 : Int64) (x2 : Int64) (x4 : Int32) (s0 : Int64) : E (gRL w) X m_X12_asPart 1 12 [(0, .long x0), (2, .long x2), (4, .int x4)] [.long s0] w (f_X12_asPart_b12 x0 x2 x4 s0) := by
  unfold f_X12_asPart_b12
  refine e_lstore (pc := 12) (lv' := [(5, .long s0), (0, .long x0), (2, .long x2), (4, .int x4)]) dX12_asPart_12 (Nat.le_of_ble_eq_true rfl) rfl ?_
  refine e_lload_n (pc := 14) dX12_asPart_14 2 rfl rfl ?_
  refine e_lstore (pc := 15) (lv' := [(7, .long x2), (5, .long s0), (0, .long x0), (2, .long x2), (4, .int x4)]) dX12_asPart_15 (Nat.le_of_ble_eq_true rfl) rfl ?_
  refine e_lv [2, 3, 4, 1, 0] rfl ?_
  exact cb_X12_asPart_b17 X w fu x0 x2 x4 s0 x2
set_option maxRecDepth 100000 in
set_option maxHeartbeats 4000000 in
theorem ce_X12_asPart (X : Xt) (a0 : Int64) (a2 : Int64) (a4 : Int32) (w : Wd) : E (gRL w) X m_X12_asPart 1 0 [(0, .long a0), (2, .long a2), (4, .int a4)] [] w (f_X12_asPart a0 a2 a4) := by
  unfold f_X12_asPart
  refine e_lload_n (pc := 0) dX12_asPart_0 0 rfl rfl ?_
  refine e_lconst (pc := 1) (v := (0 : Int64)) dX12_asPart_1 lc_0 ?_
  refine e_lcmp_ge (pc := 2) (tgt := 11) dX12_asPart_2 dX12_asPart_3 (by decide) (fun _ => ?_) (fun _ => ?_)
  · refine e_lload_n (pc := 11) dX12_asPart_11 0 rfl rfl ?_
    refine e_lv [0, 1, 2] rfl ?_
    exact cb_X12_asPart_b12 X w a0 a2 a4 a0
  · refine e_lload_n (pc := 6) dX12_asPart_6 0 rfl rfl ?_
    refine e_lneg (pc := 7) dX12_asPart_7 ?_
    refine e_goto (pc := 8) (tgt := 12) dX12_asPart_8 (by decide) ?_
    refine e_lv [0, 1, 2] rfl ?_
    exact cb_X12_asPart_b12 X w a0 a2 a4 (-a0)
theorem cf_X12_asPart (X : Xt) (a0 : Int64) (a2 : Int64) (a4 : Int32) (w : Wd) : CF (gRL w) X m_X12_asPart 1 [.long a0, .long a2, .int a4] w (f_X12_asPart a0 a2 a4) := CF_of (by decide) (Nat.le_of_ble_eq_true rfl) (ce_X12_asPart X a0 a2 a4 w)
set_option maxRecDepth 100000 in
set_option maxHeartbeats 4000000 in
theorem ce_X12_isPart (X : Xt) (a0 : Int32) (w : Wd) : E (gRI w) X m_X12_isPart 2 0 [(0, .int a0)] [] w (f_X12_isPart a0) := by
  unfold f_X12_isPart
  refine e_iload_n (pc := 0) dX12_isPart_0 0 rfl rfl ?_
  refine e_iconst (pc := 1) (v := (0 : Int32)) dX12_isPart_1 ic_0 ?_
  refine e_iconst (pc := 2) (v := (1 : Int32)) dX12_isPart_2 ic_1 ?_
  refine e_callSRI (pc := 3) (As := [.int a0, .int (0 : Int32), .int (1 : Int32)]) (rest := []) (cf_X12_in X a0 (0 : Int32) (1 : Int32) w) lk_X12_124 (Nat.le_of_ble_eq_true rfl) (Nat.le_of_ble_eq_true rfl) rfl rfl (Nat.le_of_ble_eq_true rfl) dX12_isPart_3 (fun r1 => ?_)
  exact e_zretR rfl dX12_isPart_6
theorem cf_X12_isPart (X : Xt) (a0 : Int32) (w : Wd) : CF (gRI w) X m_X12_isPart 2 [.int a0] w (f_X12_isPart a0) := CF_of (by decide) (Nat.le_of_ble_eq_true rfl) (ce_X12_isPart X a0 w)
set_option maxRecDepth 100000 in
set_option maxHeartbeats 4000000 in
theorem ce_X12_left (X : Xt) (a1 : Int32) (a2 : Int32) (a3 : Int32) (a4 : Int32) (w : Wd) : E gWL X m_X12_left 6 0 [(0, .ref (xa X 54)), (1, .int a1), (2, .int a2), (3, .int a3), (4, .int a4)] [] w (f_X12_left a1 a2 a3 a4 w) := by
  unfold f_X12_left
  refine e_iload_n (pc := 0) dX12_left_0 1 rfl rfl ?_
  refine e_callSRI (pc := 1) (As := [.int a1]) (rest := []) (cf_X12_isShelf X a1 w) lk_X12_135 (Nat.le_of_ble_eq_true rfl) (Nat.le_of_ble_eq_true rfl) rfl rfl (Nat.le_of_ble_eq_true rfl) dX12_left_1 (fun r1 => ?_)
  refine e_if_eq (pc := 4) (tgt := 39) dX12_left_4 (by decide) (fun _ => ?_) (fun _ => ?_)
  · refine e_ldc2 (pc := 39) (v := (-9223372036854775808 : Int64)) dX12_left_39 cl_X12_283 ?_
    exact e_lretW rfl dX12_left_42
  · refine e_iload_n (pc := 7) dX12_left_7 2 rfl rfl ?_
    refine e_callSRI (pc := 8) (As := [.int a2]) (rest := []) (cf_X12_isBag X a2 w) lk_X12_155 (Nat.le_of_ble_eq_true rfl) (Nat.le_of_ble_eq_true rfl) rfl rfl (Nat.le_of_ble_eq_true rfl) dX12_left_8 (fun r2 => ?_)
    refine e_if_eq (pc := 11) (tgt := 39) dX12_left_11 (by decide) (fun _ => ?_) (fun _ => ?_)
    · refine e_ldc2 (pc := 39) (v := (-9223372036854775808 : Int64)) dX12_left_39 cl_X12_283 ?_
      exact e_lretW rfl dX12_left_42
    · refine e_iload_n (pc := 14) dX12_left_14 3 rfl rfl ?_
      refine e_iconst (pc := 15) (v := (0 : Int32)) dX12_left_15 ic_0 ?_
      refine e_iconst (pc := 16) (v := (3 : Int32)) dX12_left_16 ic_3 ?_
      refine e_callSRI (pc := 17) (As := [.int a3, .int (0 : Int32), .int (3 : Int32)]) (rest := []) (cf_X12_in X a3 (0 : Int32) (3 : Int32) w) lk_X12_124 (Nat.le_of_ble_eq_true rfl) (Nat.le_of_ble_eq_true rfl) rfl rfl (Nat.le_of_ble_eq_true rfl) dX12_left_17 (fun r3 => ?_)
      refine e_if_eq (pc := 20) (tgt := 39) dX12_left_20 (by decide) (fun _ => ?_) (fun _ => ?_)
      · refine e_ldc2 (pc := 39) (v := (-9223372036854775808 : Int64)) dX12_left_39 cl_X12_283 ?_
        exact e_lretW rfl dX12_left_42
      · refine e_iload (pc := 23) dX12_left_23 4 rfl ?_
        refine e_callSRI (pc := 25) (As := [.int a4]) (rest := []) (cf_X12_isPart X a4 w) lk_X12_277 (Nat.le_of_ble_eq_true rfl) (Nat.le_of_ble_eq_true rfl) rfl rfl (Nat.le_of_ble_eq_true rfl) dX12_left_25 (fun r4 => ?_)
        refine e_if_eq (pc := 28) (tgt := 39) dX12_left_28 (by decide) (fun _ => ?_) (fun _ => ?_)
        · refine e_ldc2 (pc := 39) (v := (-9223372036854775808 : Int64)) dX12_left_39 cl_X12_283 ?_
          exact e_lretW rfl dX12_left_42
        · refine e_aload_n (pc := 31) dX12_left_31 0 rfl rfl ?_
          refine e_iload_n (pc := 32) dX12_left_32 1 rfl rfl ?_
          refine e_callVRI (pc := 33) (As := [.int a1]) (rest := []) kk54 Kc12 (cf_X12_rowFault X a1 w) lk_X12_280 (Nat.le_of_ble_eq_true rfl) (Nat.le_of_ble_eq_true rfl) rfl rfl (Nat.le_of_ble_eq_true rfl) dX12_left_33 (fun r5 => ?_)
          refine e_if_ge (pc := 36) (tgt := 43) dX12_left_36 (by decide) (fun _ => ?_) (fun _ => ?_)
          · refine e_aload_n (pc := 43) dX12_left_43 0 rfl rfl ?_
            refine e_iload_n (pc := 44) dX12_left_44 1 rfl rfl ?_
            refine e_iload_n (pc := 45) dX12_left_45 2 rfl rfl ?_
            refine e_callVWI (pc := 46) (As := [.int a1, .int a2]) (rest := []) kk54 Kc12 (cf_X12_goLooks X a1 a2 w) lk_X12_285 (Nat.le_of_ble_eq_true rfl) (Nat.le_of_ble_eq_true rfl) rfl rfl (Nat.le_of_ble_eq_true rfl) dX12_left_46 (fun r6 w7 => ?_)
            refine e_istore (pc := 49) (lv' := [(5, .int r6), (0, .ref (xa X 54)), (1, .int a1), (2, .int a2), (3, .int a3), (4, .int a4)]) dX12_left_49 (Nat.le_of_ble_eq_true rfl) rfl ?_
            refine e_aload_n (pc := 51) dX12_left_51 1 rfl rfl ?_
            refine e_iload (pc := 52) dX12_left_52 0 rfl ?_
            refine e_callVRL (pc := 54) (As := [.int r6]) (rest := []) kk54 Kc12 (cf_X12_allParts X r6 w7) lk_X12_288 (Nat.le_of_ble_eq_true rfl) (Nat.le_of_ble_eq_true rfl) rfl rfl (Nat.le_of_ble_eq_true rfl) dX12_left_54 (fun r8 => ?_)
            refine e_lconst (pc := 57) (v := (0 : Int64)) dX12_left_57 lc_0 ?_
            refine e_lcmp_ne (pc := 58) (tgt := 68) dX12_left_58 dX12_left_59 (by decide) (fun _ => ?_) (fun _ => ?_)
            · refine e_ldc2 (pc := 62) (v := (-2 : Int64)) dX12_left_62 cl_X12_292 ?_
              refine e_goto (pc := 65) (tgt := 90) dX12_left_65 (by decide) ?_
              exact e_lretW rfl dX12_left_90
            · refine e_aload_n (pc := 68) dX12_left_68 1 rfl rfl ?_
              refine g_R (pc := 69) (cl' := 71) kk54 fl_X12_75 rfl dX12_left_69 ?_
              refine e_iconst (pc := 72) (v := (4 : Int32)) dX12_left_72 ic_4 ?_
              refine e_iload (pc := 73) dX12_left_73 0 rfl ?_
              refine e_imul (pc := 75) dX12_left_75 ?_
              refine e_iload_n (pc := 76) dX12_left_76 4 rfl rfl ?_
              refine e_iadd (pc := 77) dX12_left_77 ?_
              refine e_lald (pc := 78) kk71 dX12_left_78 (fun v9 => ?_)
              refine e_aload_n (pc := 79) dX12_left_79 1 rfl rfl ?_
              refine e_iload (pc := 80) dX12_left_80 0 rfl ?_
              refine e_callVRL (pc := 82) (As := [.int r6]) (rest := [.long v9]) kk54 Kc12 (cf_X12_allParts X r6 w7) lk_X12_288 (Nat.le_of_ble_eq_true rfl) (Nat.le_of_ble_eq_true rfl) rfl rfl (Nat.le_of_ble_eq_true rfl) dX12_left_82 (fun r10 => ?_)
              refine e_iload (pc := 85) dX12_left_85 5 rfl ?_
              refine e_callSRL (pc := 87) (As := [.long v9, .long r10, .int a4]) (rest := []) (cf_X12_asPart X v9 r10 a4 w7) lk_X12_294 (Nat.le_of_ble_eq_true rfl) (Nat.le_of_ble_eq_true rfl) rfl rfl (Nat.le_of_ble_eq_true rfl) dX12_left_87 (fun r11 => ?_)
              exact e_lretW rfl dX12_left_90
          · refine e_ldc2 (pc := 39) (v := (-9223372036854775808 : Int64)) dX12_left_39 cl_X12_283 ?_
            exact e_lretW rfl dX12_left_42
theorem cf_X12_left (X : Xt) (a1 : Int32) (a2 : Int32) (a3 : Int32) (a4 : Int32) (w : Wd) : CF gWL X m_X12_left 6 [.ref (xa X 54), .int a1, .int a2, .int a3, .int a4] w (f_X12_left a1 a2 a3 a4 w) := CF_of (by decide) (Nat.le_of_ble_eq_true rfl) (ce_X12_left X a1 a2 a3 a4 w)
set_option maxRecDepth 100000 in
set_option maxHeartbeats 4000000 in
theorem cb_X12_mean_b120 (X : Xt) (x4 : Int32) (x5 : Int32) (s0 : Int64) (w : Wd) : E gWL X m_X12_mean 6 120 [(0, .ref (xa X 54)), (4, .int x4), (5, .int x5)] [.long s0] w (f_X12_mean_b120 x4 x5 s0 w) := by
  unfold f_X12_mean_b120
  refine e_aload_n (pc := 120) dX12_mean_120 0 rfl rfl ?_
  refine e_iload (pc := 121) dX12_mean_121 2 rfl ?_
  refine e_callVRL (pc := 123) (As := [.int x5]) (rest := [.long s0]) kk54 Kc12 (cf_X12_allParts X x5 w) lk_X12_288 (Nat.le_of_ble_eq_true rfl) (Nat.le_of_ble_eq_true rfl) rfl rfl (Nat.le_of_ble_eq_true rfl) dX12_mean_123 (fun r10 => ?_)
  refine e_iload (pc := 126) dX12_mean_126 1 rfl ?_
  refine e_callSRL (pc := 128) (As := [.long s0, .long r10, .int x4]) (rest := []) (cf_X12_asPart X s0 r10 x4 w) lk_X12_294 (Nat.le_of_ble_eq_true rfl) (Nat.le_of_ble_eq_true rfl) rfl rfl (Nat.le_of_ble_eq_true rfl) dX12_mean_128 (fun r11 => ?_)
  exact e_lretW rfl dX12_mean_131
set_option maxRecDepth 100000 in
set_option maxHeartbeats 4000000 in
theorem ce_X12_mean (X : Xt) (a1 : Int32) (a2 : Int32) (a3 : Int32) (a4 : Int32) (w : Wd) : E gWL X m_X12_mean 6 0 [(0, .ref (xa X 54)), (1, .int a1), (2, .int a2), (3, .int a3), (4, .int a4)] [] w (f_X12_mean a1 a2 a3 a4 w) := by
  unfold f_X12_mean
  refine e_iload_n (pc := 0) dX12_mean_0 1 rfl rfl ?_
  refine e_callSRI (pc := 1) (As := [.int a1]) (rest := []) (cf_X12_isShelf X a1 w) lk_X12_135 (Nat.le_of_ble_eq_true rfl) (Nat.le_of_ble_eq_true rfl) rfl rfl (Nat.le_of_ble_eq_true rfl) dX12_mean_1 (fun r1 => ?_)
  refine e_if_eq (pc := 4) (tgt := 39) dX12_mean_4 (by decide) (fun _ => ?_) (fun _ => ?_)
  · refine e_ldc2 (pc := 39) (v := (-9223372036854775808 : Int64)) dX12_mean_39 cl_X12_283 ?_
    exact e_lretW rfl dX12_mean_42
  · refine e_iload_n (pc := 7) dX12_mean_7 2 rfl rfl ?_
    refine e_callSRI (pc := 8) (As := [.int a2]) (rest := []) (cf_X12_isBag X a2 w) lk_X12_155 (Nat.le_of_ble_eq_true rfl) (Nat.le_of_ble_eq_true rfl) rfl rfl (Nat.le_of_ble_eq_true rfl) dX12_mean_8 (fun r2 => ?_)
    refine e_if_eq (pc := 11) (tgt := 39) dX12_mean_11 (by decide) (fun _ => ?_) (fun _ => ?_)
    · refine e_ldc2 (pc := 39) (v := (-9223372036854775808 : Int64)) dX12_mean_39 cl_X12_283 ?_
      exact e_lretW rfl dX12_mean_42
    · refine e_iload_n (pc := 14) dX12_mean_14 3 rfl rfl ?_
      refine e_iconst (pc := 15) (v := (0 : Int32)) dX12_mean_15 ic_0 ?_
      refine e_iconst (pc := 16) (v := (2 : Int32)) dX12_mean_16 ic_2 ?_
      refine e_callSRI (pc := 17) (As := [.int a3, .int (0 : Int32), .int (2 : Int32)]) (rest := []) (cf_X12_in X a3 (0 : Int32) (2 : Int32) w) lk_X12_124 (Nat.le_of_ble_eq_true rfl) (Nat.le_of_ble_eq_true rfl) rfl rfl (Nat.le_of_ble_eq_true rfl) dX12_mean_17 (fun r3 => ?_)
      refine e_if_eq (pc := 20) (tgt := 39) dX12_mean_20 (by decide) (fun _ => ?_) (fun _ => ?_)
      · refine e_ldc2 (pc := 39) (v := (-9223372036854775808 : Int64)) dX12_mean_39 cl_X12_283 ?_
        exact e_lretW rfl dX12_mean_42
      · refine e_iload (pc := 23) dX12_mean_23 4 rfl ?_
        refine e_callSRI (pc := 25) (As := [.int a4]) (rest := []) (cf_X12_isPart X a4 w) lk_X12_277 (Nat.le_of_ble_eq_true rfl) (Nat.le_of_ble_eq_true rfl) rfl rfl (Nat.le_of_ble_eq_true rfl) dX12_mean_25 (fun r4 => ?_)
        refine e_if_eq (pc := 28) (tgt := 39) dX12_mean_28 (by decide) (fun _ => ?_) (fun _ => ?_)
        · refine e_ldc2 (pc := 39) (v := (-9223372036854775808 : Int64)) dX12_mean_39 cl_X12_283 ?_
          exact e_lretW rfl dX12_mean_42
        · refine e_aload_n (pc := 31) dX12_mean_31 0 rfl rfl ?_
          refine e_iload_n (pc := 32) dX12_mean_32 1 rfl rfl ?_
          refine e_callVRI (pc := 33) (As := [.int a1]) (rest := []) kk54 Kc12 (cf_X12_rowFault X a1 w) lk_X12_280 (Nat.le_of_ble_eq_true rfl) (Nat.le_of_ble_eq_true rfl) rfl rfl (Nat.le_of_ble_eq_true rfl) dX12_mean_33 (fun r5 => ?_)
          refine e_if_ge (pc := 36) (tgt := 43) dX12_mean_36 (by decide) (fun _ => ?_) (fun _ => ?_)
          · refine e_aload_n (pc := 43) dX12_mean_43 0 rfl rfl ?_
            refine e_iload_n (pc := 44) dX12_mean_44 1 rfl rfl ?_
            refine e_iload_n (pc := 45) dX12_mean_45 2 rfl rfl ?_
            refine e_callVWI (pc := 46) (As := [.int a1, .int a2]) (rest := []) kk54 Kc12 (cf_X12_goLooks X a1 a2 w) lk_X12_285 (Nat.le_of_ble_eq_true rfl) (Nat.le_of_ble_eq_true rfl) rfl rfl (Nat.le_of_ble_eq_true rfl) dX12_mean_46 (fun r6 w7 => ?_)
            refine e_istore (pc := 49) (lv' := [(5, .int r6), (0, .ref (xa X 54)), (1, .int a1), (2, .int a2), (3, .int a3), (4, .int a4)]) dX12_mean_49 (Nat.le_of_ble_eq_true rfl) rfl ?_
            refine e_iload_n (pc := 51) dX12_mean_51 4 rfl rfl ?_
            refine e_iconst (pc := 52) (v := (2 : Int32)) dX12_mean_52 ic_2 ?_
            refine e_icmp_ne (pc := 53) (tgt := 83) dX12_mean_53 (by decide) (fun _ => ?_) (fun _ => ?_)
            · refine e_aload_n (pc := 56) dX12_mean_56 1 rfl rfl ?_
              refine e_iload (pc := 57) dX12_mean_57 0 rfl ?_
              refine e_callVRL (pc := 59) (As := [.int r6]) (rest := []) kk54 Kc12 (cf_X12_allParts X r6 w7) lk_X12_288 (Nat.le_of_ble_eq_true rfl) (Nat.le_of_ble_eq_true rfl) rfl rfl (Nat.le_of_ble_eq_true rfl) dX12_mean_59 (fun r13 => ?_)
              refine e_aload_n (pc := 62) dX12_mean_62 1 rfl rfl ?_
              refine e_iload_n (pc := 63) dX12_mean_63 3 rfl rfl ?_
              refine e_callVRI (pc := 64) (As := [.int a2]) (rest := [.long r13]) kk54 Kc12 (cf_X12_measureOf X a2 w7) lk_X12_298 (Nat.le_of_ble_eq_true rfl) (Nat.le_of_ble_eq_true rfl) rfl rfl (Nat.le_of_ble_eq_true rfl) dX12_mean_64 (fun r14 => ?_)
              refine e_i2l (pc := 67) dX12_mean_67 ?_
              refine e_ldc2 (pc := 68) (v := (1728 : Int64)) dX12_mean_68 cl_X12_301 ?_
              refine e_iload (pc := 71) dX12_mean_71 0 rfl ?_
              refine e_callSRL (pc := 73) (As := [.long (1728 : Int64), .int r6]) (rest := [.long (Int32.toInt64 r14), .long r13]) (cf_X12_power X (1728 : Int64) r6 w7) lk_X12_258 (Nat.le_of_ble_eq_true rfl) (Nat.le_of_ble_eq_true rfl) rfl rfl (Nat.le_of_ble_eq_true rfl) dX12_mean_73 (fun r15 => ?_)
              refine e_lmul (pc := 76) dX12_mean_76 ?_
              refine e_iload (pc := 77) dX12_mean_77 5 rfl ?_
              refine e_callSRL (pc := 79) (As := [.long r13, .long ((Int32.toInt64 r14) * r15), .int a4]) (rest := []) (cf_X12_asPart X r13 ((Int32.toInt64 r14) * r15) a4 w7) lk_X12_294 (Nat.le_of_ble_eq_true rfl) (Nat.le_of_ble_eq_true rfl) rfl rfl (Nat.le_of_ble_eq_true rfl) dX12_mean_79 (fun r16 => ?_)
              exact e_lretW rfl dX12_mean_82
            · refine e_aload_n (pc := 83) dX12_mean_83 1 rfl rfl ?_
              refine e_iload (pc := 84) dX12_mean_84 0 rfl ?_
              refine e_callVRL (pc := 86) (As := [.int r6]) (rest := []) kk54 Kc12 (cf_X12_allParts X r6 w7) lk_X12_288 (Nat.le_of_ble_eq_true rfl) (Nat.le_of_ble_eq_true rfl) rfl rfl (Nat.le_of_ble_eq_true rfl) dX12_mean_86 (fun r8 => ?_)
              refine e_lconst (pc := 89) (v := (0 : Int64)) dX12_mean_89 lc_0 ?_
              refine e_lcmp_ne (pc := 90) (tgt := 98) dX12_mean_90 dX12_mean_91 (by decide) (fun _ => ?_) (fun _ => ?_)
              · refine e_ldc2 (pc := 94) (v := (-2 : Int64)) dX12_mean_94 cl_X12_292 ?_
                exact e_lretW rfl dX12_mean_97
              · refine e_iload_n (pc := 98) dX12_mean_98 4 rfl rfl ?_
                refine e_if_ne (pc := 99) (tgt := 111) dX12_mean_99 (by decide) (fun _ => ?_) (fun _ => ?_)
                · refine e_aload_n (pc := 102) dX12_mean_102 1 rfl rfl ?_
                  refine e_iload (pc := 103) dX12_mean_103 0 rfl ?_
                  refine e_callVRL (pc := 105) (As := [.int r6]) (rest := []) kk54 Kc12 (cf_X12_stonesIn X r6 w7) lk_X12_303 (Nat.le_of_ble_eq_true rfl) (Nat.le_of_ble_eq_true rfl) rfl rfl (Nat.le_of_ble_eq_true rfl) dX12_mean_105 (fun r12 => ?_)
                  refine e_goto (pc := 108) (tgt := 120) dX12_mean_108 (by decide) ?_
                  refine e_lv [1, 5, 0] rfl ?_
                  exact cb_X12_mean_b120 X a4 r6 r12 w7
                · refine e_aload_n (pc := 111) dX12_mean_111 1 rfl rfl ?_
                  refine g_R (pc := 112) (cl' := 71) kk54 fl_X12_75 rfl dX12_mean_112 ?_
                  refine e_iconst (pc := 115) (v := (4 : Int32)) dX12_mean_115 ic_4 ?_
                  refine e_iload (pc := 116) dX12_mean_116 0 rfl ?_
                  refine e_imul (pc := 118) dX12_mean_118 ?_
                  refine e_lald (pc := 119) kk71 dX12_mean_119 (fun v9 => ?_)
                  refine e_lv [1, 5, 0] rfl ?_
                  exact cb_X12_mean_b120 X a4 r6 v9 w7
          · refine e_ldc2 (pc := 39) (v := (-9223372036854775808 : Int64)) dX12_mean_39 cl_X12_283 ?_
            exact e_lretW rfl dX12_mean_42
theorem cf_X12_mean (X : Xt) (a1 : Int32) (a2 : Int32) (a3 : Int32) (a4 : Int32) (w : Wd) : CF gWL X m_X12_mean 6 [.ref (xa X 54), .int a1, .int a2, .int a3, .int a4] w (f_X12_mean a1 a2 a3 a4 w) := CF_of (by decide) (Nat.le_of_ble_eq_true rfl) (ce_X12_mean X a1 a2 a3 a4 w)
set_option maxRecDepth 100000 in
set_option maxHeartbeats 4000000 in
theorem cb_X12_asBy_b6_y (X : Xt) (w : Wd) (k6 : Int64 → Int64 → Option Int64) (hk6 : ∀ (x4 : Int64) (x6 : Int64), E (gRL w) X m_X12_asBy 1 6 [(4, .long x4), (6, .long x6)] [] w (k6 x4 x6)) (x4 : Int64) (x6 : Int64) : E (gRL w) X m_X12_asBy 1 6 [(4, .long x4), (6, .long x6)] [] w (f_X12_asBy_b6_y k6 x4 x6) := by
  unfold f_X12_asBy_b6_y
  refine e_lload (pc := 6) dX12_asBy_6 1 rfl ?_
  refine e_lconst (pc := 8) (v := (0 : Int64)) dX12_asBy_8 lc_0 ?_
  refine e_lcmp_eq (pc := 9) (tgt := 31) dX12_asBy_9 dX12_asBy_10 (by decide) (fun _ => ?_) (fun _ => ?_)
  · refine e_lload (pc := 31) dX12_asBy_31 0 rfl ?_
    exact e_lretR rfl dX12_asBy_33
  · refine e_lload (pc := 13) dX12_asBy_13 0 rfl ?_
    refine e_lload (pc := 15) dX12_asBy_15 1 rfl ?_
    refine e_lremG (pc := 17) dX12_asBy_17 (fun v1 => ?_)
    refine e_lstore (pc := 18) (lv' := [(8, .long v1), (4, .long x4), (6, .long x6)]) dX12_asBy_18 (Nat.le_of_ble_eq_true rfl) rfl ?_
    refine e_lload (pc := 20) dX12_asBy_20 2 rfl ?_
    refine e_lstore (pc := 22) (lv' := [(4, .long x6), (8, .long v1), (6, .long x6)]) dX12_asBy_22 (Nat.le_of_ble_eq_true rfl) rfl ?_
    refine e_lload (pc := 24) dX12_asBy_24 1 rfl ?_
    refine e_lstore (pc := 26) (lv' := [(6, .long v1), (4, .long x6), (8, .long v1)]) dX12_asBy_26 (Nat.le_of_ble_eq_true rfl) rfl ?_
    refine e_goto (pc := 28) (tgt := 6) dX12_asBy_28 (by decide) ?_
    refine e_lv [1, 0] rfl ?_
    exact hk6 x6 v1
theorem cb_X12_asBy_b6 (X : Xt) (w : Wd) : ∀ (n : Nat) (x4 : Int64) (x6 : Int64), E (gRL w) X m_X12_asBy 1 6 [(4, .long x4), (6, .long x6)] [] w (f_X12_asBy_b6 n x4 x6) := by
  intro n
  induction n with
  | zero =>
    intro x4 x6
    exact E_none
  | succ n ih =>
    intro x4 x6
    exact cb_X12_asBy_b6_y X w _ ih x4 x6
set_option maxRecDepth 100000 in
set_option maxHeartbeats 4000000 in
theorem ce_X12_asBy (X : Xt) (a0 : Int64) (a2 : Int64) (w : Wd) : E (gRL w) X m_X12_asBy 1 0 [(0, .long a0), (2, .long a2)] [] w (f_X12_asBy a0 a2) := by
  unfold f_X12_asBy
  refine e_lload_n (pc := 0) dX12_asBy_0 0 rfl rfl ?_
  refine e_lstore (pc := 1) (lv' := [(4, .long a0), (0, .long a0), (2, .long a2)]) dX12_asBy_1 (Nat.le_of_ble_eq_true rfl) rfl ?_
  refine e_lload_n (pc := 3) dX12_asBy_3 2 rfl rfl ?_
  refine e_lstore (pc := 4) (lv' := [(6, .long a2), (4, .long a0), (0, .long a0), (2, .long a2)]) dX12_asBy_4 (Nat.le_of_ble_eq_true rfl) rfl ?_
  refine e_lv [1, 0] rfl ?_
  exact cb_X12_asBy_b6 X w fu a0 a2
theorem cf_X12_asBy (X : Xt) (a0 : Int64) (a2 : Int64) (w : Wd) : CF (gRL w) X m_X12_asBy 1 [.long a0, .long a2] w (f_X12_asBy a0 a2) := CF_of (by decide) (Nat.le_of_ble_eq_true rfl) (ce_X12_asBy X a0 a2 w)
set_option maxRecDepth 100000 in
set_option maxHeartbeats 4000000 in
theorem cb_X12_findWorth_b40 (X : Xt) (x1 : Int32) (x3 : Int32) (s0 : Int32) (w : Wd) : E gWV X m_X12_findWorth 5 40 [(0, .ref (xa X 54)), (1, .int x1), (3, .int x3)] [.int s0] w (f_X12_findWorth_b40 x1 x3 s0 w) := by
  unfold f_X12_findWorth_b40
  refine e_istore (pc := 40) (lv' := [(4, .int s0), (0, .ref (xa X 54)), (1, .int x1), (3, .int x3)]) dX12_findWorth_40 (Nat.le_of_ble_eq_true rfl) rfl ?_
  refine e_aload_n (pc := 42) dX12_findWorth_42 1 rfl rfl ?_
  refine e_iload_n (pc := 43) dX12_findWorth_43 2 rfl rfl ?_
  refine e_callVRL (pc := 44) (As := [.int x1]) (rest := []) kk54 Kc12 (cf_X12_stonesIn X x1 w) lk_X12_303 (Nat.le_of_ble_eq_true rfl) (Nat.le_of_ble_eq_true rfl) rfl rfl (Nat.le_of_ble_eq_true rfl) dX12_findWorth_44 (fun r4 => ?_)
  refine e_lstore (pc := 47) (lv' := [(5, .long r4), (4, .int s0), (0, .ref (xa X 54)), (1, .int x1), (3, .int x3)]) dX12_findWorth_47 (Nat.le_of_ble_eq_true rfl) rfl ?_
  refine e_aload_n (pc := 49) dX12_findWorth_49 2 rfl rfl ?_
  refine e_iload_n (pc := 50) dX12_findWorth_50 3 rfl rfl ?_
  refine e_callVRL (pc := 51) (As := [.int x1]) (rest := []) kk54 Kc12 (cf_X12_allParts X x1 w) lk_X12_288 (Nat.le_of_ble_eq_true rfl) (Nat.le_of_ble_eq_true rfl) rfl rfl (Nat.le_of_ble_eq_true rfl) dX12_findWorth_51 (fun r5 => ?_)
  refine e_lstore (pc := 54) (lv' := [(7, .long r5), (5, .long r4), (4, .int s0), (0, .ref (xa X 54)), (1, .int x1), (3, .int x3)]) dX12_findWorth_54 (Nat.le_of_ble_eq_true rfl) rfl ?_
  refine e_lload (pc := 56) dX12_findWorth_56 1 rfl ?_
  refine e_lload (pc := 58) dX12_findWorth_58 0 rfl ?_
  refine e_callSRL (pc := 60) (As := [.long r4, .long r5]) (rest := []) (cf_X12_asBy X r4 r5 w) lk_X12_306 (Nat.le_of_ble_eq_true rfl) (Nat.le_of_ble_eq_true rfl) rfl rfl (Nat.le_of_ble_eq_true rfl) dX12_findWorth_60 (fun r6 => ?_)
  refine e_lstore (pc := 63) (lv' := [(9, .long r6), (7, .long r5), (5, .long r4), (4, .int s0), (0, .ref (xa X 54)), (1, .int x1), (3, .int x3)]) dX12_findWorth_63 (Nat.le_of_ble_eq_true rfl) rfl ?_
  refine e_aload_n (pc := 65) dX12_findWorth_65 4 rfl rfl ?_
  refine e_aload_n (pc := 66) dX12_findWorth_66 4 rfl rfl ?_
  refine g_I (pc := 67) kk54 fl_X12_31 dX12_findWorth_67 ?_
  refine e_i2l (pc := 70) dX12_findWorth_70 ?_
  refine e_lload (pc := 71) dX12_findWorth_71 2 rfl ?_
  refine e_lload (pc := 73) dX12_findWorth_73 0 rfl ?_
  refine e_ldivG (pc := 75) dX12_findWorth_75 (fun v7 => ?_)
  refine e_lmul (pc := 76) dX12_findWorth_76 ?_
  refine e_iload_n (pc := 77) dX12_findWorth_77 6 rfl rfl ?_
  refine e_i2l (pc := 78) dX12_findWorth_78 ?_
  refine e_lmul (pc := 79) dX12_findWorth_79 ?_
  refine e_iload (pc := 80) dX12_findWorth_80 3 rfl ?_
  refine e_i2l (pc := 82) dX12_findWorth_82 ?_
  refine e_lload (pc := 83) dX12_findWorth_83 1 rfl ?_
  refine e_lload (pc := 85) dX12_findWorth_85 0 rfl ?_
  refine e_ldivG (pc := 87) dX12_findWorth_87 (fun v8 => ?_)
  refine e_lmul (pc := 88) dX12_findWorth_88 ?_
  refine e_ldc2 (pc := 89) (v := (12 : Int64)) dX12_findWorth_89 cl_X12_262 ?_
  refine e_lmul (pc := 92) dX12_findWorth_92 ?_
  refine e_lsub (pc := 93) dX12_findWorth_93 ?_
  refine p_L (pc := 94) kk54 fp_X12_310 dX12_findWorth_94 (fun w9 => ?_)
  refine e_aload_n (pc := 97) dX12_findWorth_97 4 rfl rfl ?_
  refine e_lload (pc := 98) dX12_findWorth_98 1 rfl ?_
  refine e_lload (pc := 100) dX12_findWorth_100 0 rfl ?_
  refine e_ldivG (pc := 102) dX12_findWorth_102 (fun v10 => ?_)
  refine e_ldc2 (pc := 103) (v := (12 : Int64)) dX12_findWorth_103 cl_X12_262 ?_
  refine e_lmul (pc := 106) dX12_findWorth_106 ?_
  refine p_L (pc := 107) kk54 fp_X12_314 dX12_findWorth_107 (fun w11 => ?_)
  exact e_vret rfl dX12_findWorth_110
set_option maxRecDepth 100000 in
set_option maxHeartbeats 4000000 in
theorem cb_X12_findWorth_b23 (X : Xt) (x1 : Int32) (x2 : Int32) (s0 : Int32) (w : Wd) : E gWV X m_X12_findWorth 5 23 [(0, .ref (xa X 54)), (1, .int x1), (2, .int x2)] [.int s0] w (f_X12_findWorth_b23 x1 x2 s0 w) := by
  unfold f_X12_findWorth_b23
  refine e_istore_n (pc := 23) (lv' := [(3, .int s0), (0, .ref (xa X 54)), (1, .int x1), (2, .int x2)]) dX12_findWorth_23 rfl (Nat.le_of_ble_eq_true rfl) rfl ?_
  refine e_iload_n (pc := 24) dX12_findWorth_24 3 rfl rfl ?_
  refine e_bipush (pc := 25) (v := (6 : Int32)) dX12_findWorth_25 bp_6 ?_
  refine e_icmp_ne (pc := 27) (tgt := 34) dX12_findWorth_27 (by decide) (fun _ => ?_) (fun _ => ?_)
  · refine e_iconst (pc := 30) (v := (1 : Int32)) dX12_findWorth_30 ic_1 ?_
    refine e_goto (pc := 31) (tgt := 40) dX12_findWorth_31 (by decide) ?_
    refine e_lv [1, 2, 0] rfl ?_
    exact cb_X12_findWorth_b40 X x1 s0 (1 : Int32) w
  · refine e_aload_n (pc := 34) dX12_findWorth_34 1 rfl rfl ?_
    refine g_R (pc := 35) (cl' := 58) kk54 fl_X12_21 rfl dX12_findWorth_35 ?_
    refine e_iload_n (pc := 38) dX12_findWorth_38 3 rfl rfl ?_
    refine e_iald (pc := 39) kk58 dX12_findWorth_39 (fun v3 => ?_)
    refine e_lv [1, 2, 0] rfl ?_
    exact cb_X12_findWorth_b40 X x1 s0 v3 w
set_option maxRecDepth 100000 in
set_option maxHeartbeats 4000000 in
theorem ce_X12_findWorth (X : Xt) (a1 : Int32) (a2 : Int32) (w : Wd) : E gWV X m_X12_findWorth 5 0 [(0, .ref (xa X 54)), (1, .int a1), (2, .int a2)] [] w (f_X12_findWorth a1 a2 w) := by
  unfold f_X12_findWorth
  refine e_iload_n (pc := 0) dX12_findWorth_0 2 rfl rfl ?_
  refine e_bipush (pc := 1) (v := (6 : Int32)) dX12_findWorth_1 bp_6 ?_
  refine e_icmp_ne (pc := 3) (tgt := 13) dX12_findWorth_3 (by decide) (fun _ => ?_) (fun _ => ?_)
  · refine e_aload_n (pc := 6) dX12_findWorth_6 0 rfl rfl ?_
    refine g_I (pc := 7) kk54 fl_X12_34 dX12_findWorth_7 ?_
    refine e_goto (pc := 10) (tgt := 23) dX12_findWorth_10 (by decide) ?_
    refine e_lv [0, 1, 2] rfl ?_
    exact cb_X12_findWorth_b23 X a1 a2 (gi w 54 10) w
  · refine e_aload_n (pc := 13) dX12_findWorth_13 0 rfl rfl ?_
    refine e_iload_n (pc := 14) dX12_findWorth_14 2 rfl rfl ?_
    refine e_iload_n (pc := 15) dX12_findWorth_15 1 rfl rfl ?_
    refine e_aload_n (pc := 16) dX12_findWorth_16 0 rfl rfl ?_
    refine g_I (pc := 17) kk54 fl_X12_28 dX12_findWorth_17 ?_
    refine e_callVWI (pc := 20) (As := [.int a2, .int a1, .int (gi w 54 8)]) (rest := []) kk54 Kc12 (cf_X12_findsBy X a2 a1 (gi w 54 8) w) lk_X12_246 (Nat.le_of_ble_eq_true rfl) (Nat.le_of_ble_eq_true rfl) rfl rfl (Nat.le_of_ble_eq_true rfl) dX12_findWorth_20 (fun r1 w2 => ?_)
    refine e_lv [0, 1, 2] rfl ?_
    exact cb_X12_findWorth_b23 X a1 a2 r1 w2
theorem cf_X12_findWorth (X : Xt) (a1 : Int32) (a2 : Int32) (w : Wd) : CF gWV X m_X12_findWorth 5 [.ref (xa X 54), .int a1, .int a2] w (f_X12_findWorth a1 a2 w) := CF_of (by decide) (Nat.le_of_ble_eq_true rfl) (ce_X12_findWorth X a1 a2 w)
set_option maxRecDepth 100000 in
set_option maxHeartbeats 4000000 in
theorem cb_X12_worth_b41 (X : Xt) (x1 : Int32) (x2 : Int32) (x3 : Int32) (w : Wd) : E gWL X m_X12_worth 6 41 [(0, .ref (xa X 54)), (1, .int x1), (2, .int x2), (3, .int x3)] [] w (f_X12_worth_b41 x1 x2 x3 w) := by
  unfold f_X12_worth_b41
  refine e_iload_n (pc := 41) dX12_worth_41 3 rfl rfl ?_
  refine e_callSRI (pc := 42) (As := [.int x3]) (rest := []) (cf_X12_isPart X x3 w) lk_X12_277 (Nat.le_of_ble_eq_true rfl) (Nat.le_of_ble_eq_true rfl) rfl rfl (Nat.le_of_ble_eq_true rfl) dX12_worth_42 (fun r3 => ?_)
  refine e_if_eq (pc := 45) (tgt := 56) dX12_worth_45 (by decide) (fun _ => ?_) (fun _ => ?_)
  · refine e_ldc2 (pc := 56) (v := (-9223372036854775808 : Int64)) dX12_worth_56 cl_X12_283 ?_
    exact e_lretW rfl dX12_worth_59
  · refine e_aload_n (pc := 48) dX12_worth_48 0 rfl rfl ?_
    refine e_iload_n (pc := 49) dX12_worth_49 1 rfl rfl ?_
    refine e_callVRI (pc := 50) (As := [.int x1]) (rest := []) kk54 Kc12 (cf_X12_rowFault X x1 w) lk_X12_280 (Nat.le_of_ble_eq_true rfl) (Nat.le_of_ble_eq_true rfl) rfl rfl (Nat.le_of_ble_eq_true rfl) dX12_worth_50 (fun r4 => ?_)
    refine e_if_ge (pc := 53) (tgt := 60) dX12_worth_53 (by decide) (fun _ => ?_) (fun _ => ?_)
    · refine e_aload_n (pc := 60) dX12_worth_60 0 rfl rfl ?_
      refine e_iload_n (pc := 61) dX12_worth_61 1 rfl rfl ?_
      refine e_iload_n (pc := 62) dX12_worth_62 2 rfl rfl ?_
      refine e_bipush (pc := 63) (v := (10 : Int32)) dX12_worth_63 bp_10 ?_
      refine e_idiv (pc := 65) dX12_worth_65 (by decide) ?_
      refine e_callVWI (pc := 66) (As := [.int x1, .int (x2 / (10 : Int32))]) (rest := []) kk54 Kc12 (cf_X12_goLooks X x1 (x2 / (10 : Int32)) w) lk_X12_285 (Nat.le_of_ble_eq_true rfl) (Nat.le_of_ble_eq_true rfl) rfl rfl (Nat.le_of_ble_eq_true rfl) dX12_worth_66 (fun r5 w6 => ?_)
      refine e_istore (pc := 69) (lv' := [(4, .int r5), (0, .ref (xa X 54)), (1, .int x1), (2, .int x2), (3, .int x3)]) dX12_worth_69 (Nat.le_of_ble_eq_true rfl) rfl ?_
      refine e_aload_n (pc := 71) dX12_worth_71 1 rfl rfl ?_
      refine e_iload (pc := 72) dX12_worth_72 0 rfl ?_
      refine e_callVRL (pc := 74) (As := [.int r5]) (rest := []) kk54 Kc12 (cf_X12_allParts X r5 w6) lk_X12_288 (Nat.le_of_ble_eq_true rfl) (Nat.le_of_ble_eq_true rfl) rfl rfl (Nat.le_of_ble_eq_true rfl) dX12_worth_74 (fun r7 => ?_)
      refine e_lconst (pc := 77) (v := (0 : Int64)) dX12_worth_77 lc_0 ?_
      refine e_lcmp_ne (pc := 78) (tgt := 86) dX12_worth_78 dX12_worth_79 (by decide) (fun _ => ?_) (fun _ => ?_)
      · refine e_ldc2 (pc := 82) (v := (-2 : Int64)) dX12_worth_82 cl_X12_292 ?_
        exact e_lretW rfl dX12_worth_85
      · refine e_aload_n (pc := 86) dX12_worth_86 1 rfl rfl ?_
        refine e_iload (pc := 87) dX12_worth_87 0 rfl ?_
        refine e_iload_n (pc := 89) dX12_worth_89 3 rfl rfl ?_
        refine e_bipush (pc := 90) (v := (10 : Int32)) dX12_worth_90 bp_10 ?_
        refine e_irem (pc := 92) dX12_worth_92 (by decide) ?_
        refine e_callVWV (pc := 93) (As := [.int r5, .int (ire x2 (10 : Int32))]) (rest := []) kk54 Kc12 (cf_X12_findWorth X r5 (ire x2 (10 : Int32)) w6) lk_X12_317 (Nat.le_of_ble_eq_true rfl) (Nat.le_of_ble_eq_true rfl) rfl rfl (Nat.le_of_ble_eq_true rfl) dX12_worth_93 (fun w8 => ?_)
        refine e_aload_n (pc := 96) dX12_worth_96 1 rfl rfl ?_
        refine g_L (pc := 97) kk54 fl_X12_310 dX12_worth_97 ?_
        refine e_aload_n (pc := 100) dX12_worth_100 1 rfl rfl ?_
        refine g_L (pc := 101) kk54 fl_X12_314 dX12_worth_101 ?_
        refine e_iload_n (pc := 104) dX12_worth_104 4 rfl rfl ?_
        refine e_callSRL (pc := 105) (As := [.long (gl w8 54 32), .long (gl w8 54 33), .int x3]) (rest := []) (cf_X12_asPart X (gl w8 54 32) (gl w8 54 33) x3 w8) lk_X12_294 (Nat.le_of_ble_eq_true rfl) (Nat.le_of_ble_eq_true rfl) rfl rfl (Nat.le_of_ble_eq_true rfl) dX12_worth_105 (fun r9 => ?_)
        exact e_lretW rfl dX12_worth_108
    · refine e_ldc2 (pc := 56) (v := (-9223372036854775808 : Int64)) dX12_worth_56 cl_X12_283 ?_
      exact e_lretW rfl dX12_worth_59
set_option maxRecDepth 100000 in
set_option maxHeartbeats 4000000 in
theorem ce_X12_worth (X : Xt) (a1 : Int32) (a2 : Int32) (a3 : Int32) (w : Wd) : E gWL X m_X12_worth 6 0 [(0, .ref (xa X 54)), (1, .int a1), (2, .int a2), (3, .int a3)] [] w (f_X12_worth a1 a2 a3 w) := by
  unfold f_X12_worth
  refine e_iload_n (pc := 0) dX12_worth_0 1 rfl rfl ?_
  refine e_callSRI (pc := 1) (As := [.int a1]) (rest := []) (cf_X12_isShelf X a1 w) lk_X12_135 (Nat.le_of_ble_eq_true rfl) (Nat.le_of_ble_eq_true rfl) rfl rfl (Nat.le_of_ble_eq_true rfl) dX12_worth_1 (fun r1 => ?_)
  refine e_if_eq (pc := 4) (tgt := 56) dX12_worth_4 (by decide) (fun _ => ?_) (fun _ => ?_)
  · refine e_ldc2 (pc := 56) (v := (-9223372036854775808 : Int64)) dX12_worth_56 cl_X12_283 ?_
    exact e_lretW rfl dX12_worth_59
  · refine e_iload_n (pc := 7) dX12_worth_7 2 rfl rfl ?_
    refine e_if_lt (pc := 8) (tgt := 56) dX12_worth_8 (by decide) (fun _ => ?_) (fun _ => ?_)
    · refine e_ldc2 (pc := 56) (v := (-9223372036854775808 : Int64)) dX12_worth_56 cl_X12_283 ?_
      exact e_lretW rfl dX12_worth_59
    · refine e_iload_n (pc := 11) dX12_worth_11 2 rfl rfl ?_
      refine e_bipush (pc := 12) (v := (10 : Int32)) dX12_worth_12 bp_10 ?_
      refine e_idiv (pc := 14) dX12_worth_14 (by decide) ?_
      refine e_callSRI (pc := 15) (As := [.int (a2 / (10 : Int32))]) (rest := []) (cf_X12_isBag X (a2 / (10 : Int32)) w) lk_X12_155 (Nat.le_of_ble_eq_true rfl) (Nat.le_of_ble_eq_true rfl) rfl rfl (Nat.le_of_ble_eq_true rfl) dX12_worth_15 (fun r2 => ?_)
      refine e_if_eq (pc := 18) (tgt := 56) dX12_worth_18 (by decide) (fun _ => ?_) (fun _ => ?_)
      · refine e_ldc2 (pc := 56) (v := (-9223372036854775808 : Int64)) dX12_worth_56 cl_X12_283 ?_
        exact e_lretW rfl dX12_worth_59
      · refine e_iload_n (pc := 21) dX12_worth_21 2 rfl rfl ?_
        refine e_bipush (pc := 22) (v := (10 : Int32)) dX12_worth_22 bp_10 ?_
        refine e_irem (pc := 24) dX12_worth_24 (by decide) ?_
        refine e_bipush (pc := 25) (v := (6 : Int32)) dX12_worth_25 bp_6 ?_
        refine e_icmp_eq (pc := 27) (tgt := 41) dX12_worth_27 (by decide) (fun _ => ?_) (fun _ => ?_)
        · refine e_lv [0, 1, 2, 3] rfl ?_
          exact cb_X12_worth_b41 X a1 a2 a3 w
        · refine e_aload_n (pc := 30) dX12_worth_30 0 rfl rfl ?_
          refine e_iload_n (pc := 31) dX12_worth_31 2 rfl rfl ?_
          refine e_bipush (pc := 32) (v := (10 : Int32)) dX12_worth_32 bp_10 ?_
          refine e_irem (pc := 34) dX12_worth_34 (by decide) ?_
          refine e_callVRI (pc := 35) (As := [.int (ire a2 (10 : Int32))]) (rest := []) kk54 Kc12 (cf_X12_isLooker X (ire a2 (10 : Int32)) w) lk_X12_158 (Nat.le_of_ble_eq_true rfl) (Nat.le_of_ble_eq_true rfl) rfl rfl (Nat.le_of_ble_eq_true rfl) dX12_worth_35 (fun r10 => ?_)
          refine e_if_eq (pc := 38) (tgt := 56) dX12_worth_38 (by decide) (fun _ => ?_) (fun _ => ?_)
          · refine e_ldc2 (pc := 56) (v := (-9223372036854775808 : Int64)) dX12_worth_56 cl_X12_283 ?_
            exact e_lretW rfl dX12_worth_59
          · refine e_lv [0, 1, 2, 3] rfl ?_
            exact cb_X12_worth_b41 X a1 a2 a3 w
theorem cf_X12_worth (X : Xt) (a1 : Int32) (a2 : Int32) (a3 : Int32) (w : Wd) : CF gWL X m_X12_worth 6 [.ref (xa X 54), .int a1, .int a2, .int a3] w (f_X12_worth a1 a2 a3 w) := CF_of (by decide) (Nat.le_of_ble_eq_true rfl) (ce_X12_worth X a1 a2 a3 w)
set_option maxRecDepth 100000 in
set_option maxHeartbeats 4000000 in
theorem cb_X12_next_b116 (X : Xt) (k60 : Int32 → Int32 → Int64 → Int32 → Wd → Option (Int32 × Wd)) (hk60 : ∀ (x3 : Int32) (x4 : Int32) (x5 : Int64) (x7 : Int32)  (w : Wd), E gWI X m_X12_next 6 60 [(0, .ref (xa X 54)), (3, .int x3), (4, .int x4), (5, .long x5), (7, .int x7)] [] w (k60 x3 x4 x5 x7 w)) (x3 : Int32) (x4 : Int32) (x5 : Int64) (x7 : Int32) (w : Wd) : E gWI X m_X12_next 6 116 [(0, .ref (xa X 54)), (3, .int x3), (4, .int x4), (5, .long x5), (7, .int x7)] [] w (f_X12_next_b116 k60 x3 x4 x5 x7 w) := by
  unfold f_X12_next_b116
  refine e_iinc (pc := 116) (lv' := [(7, .int (x7 + (1 : Int32))), (0, .ref (xa X 54)), (3, .int x3), (4, .int x4), (5, .long x5)]) dX12_next_116 4 rfl (ii_1 _) (Nat.le_of_ble_eq_true rfl) rfl ?_
  refine e_goto (pc := 119) (tgt := 60) dX12_next_119 (by decide) ?_
  refine e_lv [1, 2, 3, 4, 0] rfl ?_
  exact hk60 x3 x4 x5 (x7 + (1 : Int32)) w
set_option maxRecDepth 100000 in
set_option maxHeartbeats 4000000 in
theorem cb_X12_next_b86 (X : Xt) (k60 : Int32 → Int32 → Int64 → Int32 → Wd → Option (Int32 × Wd)) (hk60 : ∀ (x3 : Int32) (x4 : Int32) (x5 : Int64) (x7 : Int32)  (w : Wd), E gWI X m_X12_next 6 60 [(0, .ref (xa X 54)), (3, .int x3), (4, .int x4), (5, .long x5), (7, .int x7)] [] w (k60 x3 x4 x5 x7 w)) (x3 : Int32) (x4 : Int32) (x5 : Int64) (x7 : Int32) (w : Wd) : E gWI X m_X12_next 6 86 [(0, .ref (xa X 54)), (3, .int x3), (4, .int x4), (5, .long x5), (7, .int x7)] [] w (f_X12_next_b86 k60 x3 x4 x5 x7 w) := by
  unfold f_X12_next_b86
  refine e_aload_n (pc := 86) dX12_next_86 0 rfl rfl ?_
  refine e_iload_n (pc := 87) dX12_next_87 1 rfl rfl ?_
  refine e_iload (pc := 88) dX12_next_88 4 rfl ?_
  refine e_callVWV (pc := 90) (As := [.int x3, .int x7]) (rest := []) kk54 Kc12 (cf_X12_findWorth X x3 x7 w) lk_X12_317 (Nat.le_of_ble_eq_true rfl) (Nat.le_of_ble_eq_true rfl) rfl rfl (Nat.le_of_ble_eq_true rfl) dX12_next_90 (fun w7 => ?_)
  refine e_aload_n (pc := 93) dX12_next_93 0 rfl rfl ?_
  refine g_L (pc := 94) kk54 fl_X12_310 dX12_next_94 ?_
  refine e_lload (pc := 97) dX12_next_97 3 rfl ?_
  refine e_lcmp_gt (pc := 99) (tgt := 106) dX12_next_99 dX12_next_100 (by decide) (fun _ => ?_) (fun _ => ?_)
  · refine e_aload_n (pc := 106) dX12_next_106 0 rfl rfl ?_
    refine g_L (pc := 107) kk54 fl_X12_310 dX12_next_107 ?_
    refine e_nameL (fun y8 => ?_)
    refine e_lstore (pc := 110) (lv' := [(5, .long y8), (0, .ref (xa X 54)), (3, .int x3), (4, .int x4), (7, .int x7)]) dX12_next_110 (Nat.le_of_ble_eq_true rfl) rfl ?_
    refine e_iload (pc := 112) dX12_next_112 4 rfl ?_
    refine e_istore (pc := 114) (lv' := [(4, .int x7), (5, .long y8), (0, .ref (xa X 54)), (3, .int x3), (7, .int x7)]) dX12_next_114 (Nat.le_of_ble_eq_true rfl) rfl ?_
    refine e_lv [2, 3, 0, 1, 4] rfl ?_
    exact cb_X12_next_b116 X k60 hk60 x3 x7 y8 x7 w7
  · refine e_goto (pc := 103) (tgt := 116) dX12_next_103 (by decide) ?_
    refine e_lv [0, 1, 2, 3, 4] rfl ?_
    exact cb_X12_next_b116 X k60 hk60 x3 x4 x5 x7 w7
set_option maxRecDepth 100000 in
set_option maxHeartbeats 4000000 in
theorem cb_X12_next_b60_y (X : Xt) (k60 : Int32 → Int32 → Int64 → Int32 → Wd → Option (Int32 × Wd)) (hk60 : ∀ (x3 : Int32) (x4 : Int32) (x5 : Int64) (x7 : Int32)  (w : Wd), E gWI X m_X12_next 6 60 [(0, .ref (xa X 54)), (3, .int x3), (4, .int x4), (5, .long x5), (7, .int x7)] [] w (k60 x3 x4 x5 x7 w)) (x3 : Int32) (x4 : Int32) (x5 : Int64) (x7 : Int32) (w : Wd) : E gWI X m_X12_next 6 60 [(0, .ref (xa X 54)), (3, .int x3), (4, .int x4), (5, .long x5), (7, .int x7)] [] w (f_X12_next_b60_y k60 x3 x4 x5 x7 w) := by
  unfold f_X12_next_b60_y
  refine e_iload (pc := 60) dX12_next_60 4 rfl ?_
  refine e_bipush (pc := 62) (v := (6 : Int32)) dX12_next_62 bp_6 ?_
  refine e_icmp_gt (pc := 64) (tgt := 122) dX12_next_64 (by decide) (fun _ => ?_) (fun _ => ?_)
  · refine e_iload (pc := 122) dX12_next_122 2 rfl ?_
    exact e_iretW rfl dX12_next_124
  · refine e_iload (pc := 67) dX12_next_67 4 rfl ?_
    refine e_bipush (pc := 69) (v := (6 : Int32)) dX12_next_69 bp_6 ?_
    refine e_icmp_eq (pc := 71) (tgt := 86) dX12_next_71 (by decide) (fun _ => ?_) (fun _ => ?_)
    · refine e_lv [0, 1, 2, 3, 4] rfl ?_
      exact cb_X12_next_b86 X k60 hk60 x3 x4 x5 x7 w
    · refine e_aload_n (pc := 74) dX12_next_74 0 rfl rfl ?_
      refine e_iload (pc := 75) dX12_next_75 4 rfl ?_
      refine e_callVRI (pc := 77) (As := [.int x7]) (rest := []) kk54 Kc12 (cf_X12_isLooker X x7 w) lk_X12_158 (Nat.le_of_ble_eq_true rfl) (Nat.le_of_ble_eq_true rfl) rfl rfl (Nat.le_of_ble_eq_true rfl) dX12_next_77 (fun r9 => ?_)
      refine e_if_ne (pc := 80) (tgt := 86) dX12_next_80 (by decide) (fun _ => ?_) (fun _ => ?_)
      · refine e_goto (pc := 83) (tgt := 116) dX12_next_83 (by decide) ?_
        refine e_lv [0, 1, 2, 3, 4] rfl ?_
        exact cb_X12_next_b116 X k60 hk60 x3 x4 x5 x7 w
      · refine e_lv [0, 1, 2, 3, 4] rfl ?_
        exact cb_X12_next_b86 X k60 hk60 x3 x4 x5 x7 w
theorem cb_X12_next_b60 (X : Xt) : ∀ (n : Nat) (x3 : Int32) (x4 : Int32) (x5 : Int64) (x7 : Int32) (w : Wd), E gWI X m_X12_next 6 60 [(0, .ref (xa X 54)), (3, .int x3), (4, .int x4), (5, .long x5), (7, .int x7)] [] w (f_X12_next_b60 n x3 x4 x5 x7 w) := by
  intro n
  induction n with
  | zero =>
    intro x3 x4 x5 x7 w
    exact E_none
  | succ n ih =>
    intro x3 x4 x5 x7 w
    exact cb_X12_next_b60_y X _ ih x3 x4 x5 x7 w
set_option maxRecDepth 100000 in
set_option maxHeartbeats 4000000 in
theorem ce_X12_next (X : Xt) (a1 : Int32) (a2 : Int32) (w : Wd) : E gWI X m_X12_next 6 0 [(0, .ref (xa X 54)), (1, .int a1), (2, .int a2)] [] w (f_X12_next a1 a2 w) := by
  unfold f_X12_next
  refine e_iload_n (pc := 0) dX12_next_0 1 rfl rfl ?_
  refine e_callSRI (pc := 1) (As := [.int a1]) (rest := []) (cf_X12_isShelf X a1 w) lk_X12_135 (Nat.le_of_ble_eq_true rfl) (Nat.le_of_ble_eq_true rfl) rfl rfl (Nat.le_of_ble_eq_true rfl) dX12_next_1 (fun r1 => ?_)
  refine e_if_eq (pc := 4) (tgt := 14) dX12_next_4 (by decide) (fun _ => ?_) (fun _ => ?_)
  · refine e_iconst (pc := 14) (v := (-1 : Int32)) dX12_next_14 ic_m1 ?_
    exact e_iretW rfl dX12_next_15
  · refine e_iload_n (pc := 7) dX12_next_7 2 rfl rfl ?_
    refine e_callSRI (pc := 8) (As := [.int a2]) (rest := []) (cf_X12_isBag X a2 w) lk_X12_155 (Nat.le_of_ble_eq_true rfl) (Nat.le_of_ble_eq_true rfl) rfl rfl (Nat.le_of_ble_eq_true rfl) dX12_next_8 (fun r2 => ?_)
    refine e_if_ne (pc := 11) (tgt := 16) dX12_next_11 (by decide) (fun _ => ?_) (fun _ => ?_)
    · refine e_iconst (pc := 14) (v := (-1 : Int32)) dX12_next_14 ic_m1 ?_
      exact e_iretW rfl dX12_next_15
    · refine e_aload_n (pc := 16) dX12_next_16 0 rfl rfl ?_
      refine e_iload_n (pc := 17) dX12_next_17 1 rfl rfl ?_
      refine e_callVRI (pc := 18) (As := [.int a1]) (rest := []) kk54 Kc12 (cf_X12_rowFault X a1 w) lk_X12_280 (Nat.le_of_ble_eq_true rfl) (Nat.le_of_ble_eq_true rfl) rfl rfl (Nat.le_of_ble_eq_true rfl) dX12_next_18 (fun r3 => ?_)
      refine e_if_ge (pc := 21) (tgt := 30) dX12_next_21 (by decide) (fun _ => ?_) (fun _ => ?_)
      · refine e_aload_n (pc := 30) dX12_next_30 0 rfl rfl ?_
        refine e_iload_n (pc := 31) dX12_next_31 1 rfl rfl ?_
        refine e_iload_n (pc := 32) dX12_next_32 2 rfl rfl ?_
        refine e_callVWI (pc := 33) (As := [.int a1, .int a2]) (rest := []) kk54 Kc12 (cf_X12_goLooks X a1 a2 w) lk_X12_285 (Nat.le_of_ble_eq_true rfl) (Nat.le_of_ble_eq_true rfl) rfl rfl (Nat.le_of_ble_eq_true rfl) dX12_next_33 (fun r4 w5 => ?_)
        refine e_istore_n (pc := 36) (lv' := [(3, .int r4), (0, .ref (xa X 54)), (1, .int a1), (2, .int a2)]) dX12_next_36 rfl (Nat.le_of_ble_eq_true rfl) rfl ?_
        refine e_aload_n (pc := 37) dX12_next_37 1 rfl rfl ?_
        refine e_iload_n (pc := 38) dX12_next_38 0 rfl rfl ?_
        refine e_callVRL (pc := 39) (As := [.int r4]) (rest := []) kk54 Kc12 (cf_X12_allParts X r4 w5) lk_X12_288 (Nat.le_of_ble_eq_true rfl) (Nat.le_of_ble_eq_true rfl) rfl rfl (Nat.le_of_ble_eq_true rfl) dX12_next_39 (fun r6 => ?_)
        refine e_lconst (pc := 42) (v := (0 : Int64)) dX12_next_42 lc_0 ?_
        refine e_lcmp_ne (pc := 43) (tgt := 50) dX12_next_43 dX12_next_44 (by decide) (fun _ => ?_) (fun _ => ?_)
        · refine e_bipush (pc := 47) (v := (-2 : Int32)) dX12_next_47 bp_m2 ?_
          exact e_iretW rfl dX12_next_49
        · refine e_bipush (pc := 50) (v := (-2 : Int32)) dX12_next_50 bp_m2 ?_
          refine e_istore (pc := 52) (lv' := [(4, .int (-2 : Int32)), (3, .int r4), (0, .ref (xa X 54)), (1, .int a1), (2, .int a2)]) dX12_next_52 (Nat.le_of_ble_eq_true rfl) rfl ?_
          refine e_lconst (pc := 54) (v := (0 : Int64)) dX12_next_54 lc_0 ?_
          refine e_lstore (pc := 55) (lv' := [(5, .long (0 : Int64)), (4, .int (-2 : Int32)), (3, .int r4), (0, .ref (xa X 54)), (1, .int a1), (2, .int a2)]) dX12_next_55 (Nat.le_of_ble_eq_true rfl) rfl ?_
          refine e_iconst (pc := 57) (v := (0 : Int32)) dX12_next_57 ic_0 ?_
          refine e_istore (pc := 58) (lv' := [(7, .int (0 : Int32)), (5, .long (0 : Int64)), (4, .int (-2 : Int32)), (3, .int r4), (0, .ref (xa X 54)), (1, .int a1), (2, .int a2)]) dX12_next_58 (Nat.le_of_ble_eq_true rfl) rfl ?_
          refine e_lv [4, 3, 2, 1, 0] rfl ?_
          exact cb_X12_next_b60 X fu r4 (-2 : Int32) (0 : Int64) (0 : Int32) w5
      · refine e_aload_n (pc := 24) dX12_next_24 0 rfl rfl ?_
        refine e_iload_n (pc := 25) dX12_next_25 1 rfl rfl ?_
        refine e_callVRI (pc := 26) (As := [.int a1]) (rest := []) kk54 Kc12 (cf_X12_rowFault X a1 w) lk_X12_280 (Nat.le_of_ble_eq_true rfl) (Nat.le_of_ble_eq_true rfl) rfl rfl (Nat.le_of_ble_eq_true rfl) dX12_next_26 (fun r10 => ?_)
        exact e_iretW rfl dX12_next_29
theorem cf_X12_next (X : Xt) (a1 : Int32) (a2 : Int32) (w : Wd) : CF gWI X m_X12_next 6 [.ref (xa X 54), .int a1, .int a2] w (f_X12_next a1 a2 w) := CF_of (by decide) (Nat.le_of_ble_eq_true rfl) (ce_X12_next X a1 a2 w)
set_option maxRecDepth 100000 in
set_option maxHeartbeats 4000000 in
theorem cb_X12_planFrom_b147 (X : Xt) {dd : Nat} (hb : 5 ≤ dd) (r_X12_planFrom : Int32 → Int32 → Wd → Option (Int64 × Wd)) (hr_X12_planFrom : ∀ (a1 : Int32) (a2 : Int32) (w : Wd), CF gWL X m_X12_planFrom dd [.ref (xa X 54), .int a1, .int a2] w (r_X12_planFrom a1 a2 w)) (x3 : Int64) (x5 : Int32) (w : Wd) : E gWL X m_X12_planFrom (dd + 1) 147 [(0, .ref (xa X 54)), (3, .long x3), (5, .int x5)] [] w (f_X12_planFrom_b147 r_X12_planFrom x3 x5 w) := by
  unfold f_X12_planFrom_b147
  refine e_aload_n (pc := 147) dX12_planFrom_147 0 rfl rfl ?_
  refine e_iload (pc := 148) dX12_planFrom_148 2 rfl ?_
  refine p_I (pc := 150) kk54 fp_X12_324 dX12_planFrom_150 (fun w4 => ?_)
  refine e_lload_n (pc := 153) dX12_planFrom_153 1 rfl rfl ?_
  exact e_lretW rfl dX12_planFrom_154
set_option maxRecDepth 100000 in
set_option maxHeartbeats 4000000 in
theorem cb_X12_planFrom_b141 (X : Xt) {dd : Nat} (hb : 5 ≤ dd) (r_X12_planFrom : Int32 → Int32 → Wd → Option (Int64 × Wd)) (hr_X12_planFrom : ∀ (a1 : Int32) (a2 : Int32) (w : Wd), CF gWL X m_X12_planFrom dd [.ref (xa X 54), .int a1, .int a2] w (r_X12_planFrom a1 a2 w)) (k27 : Int32 → Int32 → Int64 → Int32 → Int32 → Wd → Option (Int64 × Wd)) (hk27 : ∀ (x1 : Int32) (x2 : Int32) (x3 : Int64) (x5 : Int32) (x6 : Int32)  (w : Wd), E gWL X m_X12_planFrom (dd + 1) 27 [(0, .ref (xa X 54)), (1, .int x1), (2, .int x2), (3, .long x3), (5, .int x5), (6, .int x6)] [] w (k27 x1 x2 x3 x5 x6 w)) (x1 : Int32) (x2 : Int32) (x3 : Int64) (x5 : Int32) (x6 : Int32) (w : Wd) : E gWL X m_X12_planFrom (dd + 1) 141 [(0, .ref (xa X 54)), (1, .int x1), (2, .int x2), (3, .long x3), (5, .int x5), (6, .int x6)] [] w (f_X12_planFrom_b141 r_X12_planFrom k27 x1 x2 x3 x5 x6 w) := by
  unfold f_X12_planFrom_b141
  refine e_iinc (pc := 141) (lv' := [(6, .int (x6 + (1 : Int32))), (0, .ref (xa X 54)), (1, .int x1), (2, .int x2), (3, .long x3), (5, .int x5)]) dX12_planFrom_141 5 rfl (ii_1 _) (Nat.le_of_ble_eq_true rfl) rfl ?_
  refine e_goto (pc := 144) (tgt := 27) dX12_planFrom_144 (by decide) ?_
  refine e_lv [1, 2, 3, 4, 5, 0] rfl ?_
  exact hk27 x1 x2 x3 x5 (x6 + (1 : Int32)) w
set_option maxRecDepth 100000 in
set_option maxHeartbeats 4000000 in
theorem cb_X12_planFrom_b118 (X : Xt) {dd : Nat} (hb : 5 ≤ dd) (r_X12_planFrom : Int32 → Int32 → Wd → Option (Int64 × Wd)) (hr_X12_planFrom : ∀ (a1 : Int32) (a2 : Int32) (w : Wd), CF gWL X m_X12_planFrom dd [.ref (xa X 54), .int a1, .int a2] w (r_X12_planFrom a1 a2 w)) (k27 : Int32 → Int32 → Int64 → Int32 → Int32 → Wd → Option (Int64 × Wd)) (hk27 : ∀ (x1 : Int32) (x2 : Int32) (x3 : Int64) (x5 : Int32) (x6 : Int32)  (w : Wd), E gWL X m_X12_planFrom (dd + 1) 27 [(0, .ref (xa X 54)), (1, .int x1), (2, .int x2), (3, .long x3), (5, .int x5), (6, .int x6)] [] w (k27 x1 x2 x3 x5 x6 w)) (k67 : Int32 → Int32 → Int64 → Int32 → Int32 → Int64 → Int32 → Wd → Option (Int64 × Wd)) (hk67 : ∀ (x1 : Int32) (x2 : Int32) (x3 : Int64) (x5 : Int32) (x6 : Int32) (x7 : Int64) (x9 : Int32)  (w : Wd), E gWL X m_X12_planFrom (dd + 1) 67 [(0, .ref (xa X 54)), (1, .int x1), (2, .int x2), (3, .long x3), (5, .int x5), (6, .int x6), (7, .long x7), (9, .int x9)] [] w (k67 x1 x2 x3 x5 x6 x7 x9 w)) (x1 : Int32) (x2 : Int32) (x3 : Int64) (x5 : Int32) (x6 : Int32) (x7 : Int64) (x9 : Int32) (w : Wd) : E gWL X m_X12_planFrom (dd + 1) 118 [(0, .ref (xa X 54)), (1, .int x1), (2, .int x2), (3, .long x3), (5, .int x5), (6, .int x6), (7, .long x7), (9, .int x9)] [] w (f_X12_planFrom_b118 r_X12_planFrom k27 k67 x1 x2 x3 x5 x6 x7 x9 w) := by
  unfold f_X12_planFrom_b118
  refine e_iinc (pc := 118) (lv' := [(9, .int (x9 + (1 : Int32))), (0, .ref (xa X 54)), (1, .int x1), (2, .int x2), (3, .long x3), (5, .int x5), (6, .int x6), (7, .long x7)]) dX12_planFrom_118 7 rfl (ii_1 _) (Nat.le_of_ble_eq_true rfl) rfl ?_
  refine e_goto (pc := 121) (tgt := 67) dX12_planFrom_121 (by decide) ?_
  refine e_lv [1, 2, 3, 4, 5, 6, 7, 0] rfl ?_
  exact hk67 x1 x2 x3 x5 x6 x7 (x9 + (1 : Int32)) w
set_option maxRecDepth 100000 in
set_option maxHeartbeats 4000000 in
theorem cb_X12_planFrom_b67_y (X : Xt) {dd : Nat} (hb : 5 ≤ dd) (r_X12_planFrom : Int32 → Int32 → Wd → Option (Int64 × Wd)) (hr_X12_planFrom : ∀ (a1 : Int32) (a2 : Int32) (w : Wd), CF gWL X m_X12_planFrom dd [.ref (xa X 54), .int a1, .int a2] w (r_X12_planFrom a1 a2 w)) (k27 : Int32 → Int32 → Int64 → Int32 → Int32 → Wd → Option (Int64 × Wd)) (hk27 : ∀ (x1 : Int32) (x2 : Int32) (x3 : Int64) (x5 : Int32) (x6 : Int32)  (w : Wd), E gWL X m_X12_planFrom (dd + 1) 27 [(0, .ref (xa X 54)), (1, .int x1), (2, .int x2), (3, .long x3), (5, .int x5), (6, .int x6)] [] w (k27 x1 x2 x3 x5 x6 w)) (k67 : Int32 → Int32 → Int64 → Int32 → Int32 → Int64 → Int32 → Wd → Option (Int64 × Wd)) (hk67 : ∀ (x1 : Int32) (x2 : Int32) (x3 : Int64) (x5 : Int32) (x6 : Int32) (x7 : Int64) (x9 : Int32)  (w : Wd), E gWL X m_X12_planFrom (dd + 1) 67 [(0, .ref (xa X 54)), (1, .int x1), (2, .int x2), (3, .long x3), (5, .int x5), (6, .int x6), (7, .long x7), (9, .int x9)] [] w (k67 x1 x2 x3 x5 x6 x7 x9 w)) (x1 : Int32) (x2 : Int32) (x3 : Int64) (x5 : Int32) (x6 : Int32) (x7 : Int64) (x9 : Int32) (w : Wd) : E gWL X m_X12_planFrom (dd + 1) 67 [(0, .ref (xa X 54)), (1, .int x1), (2, .int x2), (3, .long x3), (5, .int x5), (6, .int x6), (7, .long x7), (9, .int x9)] [] w (f_X12_planFrom_b67_y r_X12_planFrom k27 k67 x1 x2 x3 x5 x6 x7 x9 w) := by
  unfold f_X12_planFrom_b67_y
  refine e_iload (pc := 67) dX12_planFrom_67 7 rfl ?_
  refine e_iconst (pc := 69) (v := (3 : Int32)) dX12_planFrom_69 ic_3 ?_
  refine e_icmp_gt (pc := 70) (tgt := 124) dX12_planFrom_70 (by decide) (fun _ => ?_) (fun _ => ?_)
  · refine e_lload (pc := 124) dX12_planFrom_124 6 rfl ?_
    refine e_lload_n (pc := 126) dX12_planFrom_126 3 rfl rfl ?_
    refine e_lcmp_lt (pc := 127) (tgt := 134) dX12_planFrom_127 dX12_planFrom_128 (by decide) (fun _ => ?_) (fun _ => ?_)
    · refine e_lload (pc := 134) dX12_planFrom_134 6 rfl ?_
      refine e_lstore_n (pc := 136) (lv' := [(3, .long x7), (0, .ref (xa X 54)), (1, .int x1), (2, .int x2), (5, .int x5), (6, .int x6), (7, .long x7), (9, .int x9)]) dX12_planFrom_136 rfl (Nat.le_of_ble_eq_true rfl) rfl ?_
      refine e_iload (pc := 137) dX12_planFrom_137 5 rfl ?_
      refine e_istore (pc := 139) (lv' := [(5, .int x6), (3, .long x7), (0, .ref (xa X 54)), (1, .int x1), (2, .int x2), (6, .int x6), (7, .long x7), (9, .int x9)]) dX12_planFrom_139 (Nat.le_of_ble_eq_true rfl) rfl ?_
      refine e_lv [2, 3, 4, 1, 0, 5] rfl ?_
      exact cb_X12_planFrom_b141 X hb r_X12_planFrom hr_X12_planFrom k27 hk27 x1 x2 x7 x6 x6 w
    · refine e_goto (pc := 131) (tgt := 141) dX12_planFrom_131 (by decide) ?_
      refine e_lv [0, 1, 2, 3, 4, 5] rfl ?_
      exact cb_X12_planFrom_b141 X hb r_X12_planFrom hr_X12_planFrom k27 hk27 x1 x2 x3 x5 x6 w
  · refine e_aload_n (pc := 73) dX12_planFrom_73 0 rfl rfl ?_
    refine e_iload_n (pc := 74) dX12_planFrom_74 1 rfl rfl ?_
    refine e_aload_n (pc := 75) dX12_planFrom_75 0 rfl rfl ?_
    refine e_iload (pc := 76) dX12_planFrom_76 5 rfl ?_
    refine e_iload_n (pc := 78) dX12_planFrom_78 1 rfl rfl ?_
    refine e_aload_n (pc := 79) dX12_planFrom_79 0 rfl rfl ?_
    refine g_I (pc := 80) kk54 fl_X12_28 dX12_planFrom_80 ?_
    refine e_callVWI (pc := 83) (As := [.int x6, .int x1, .int (gi w 54 8)]) (rest := [.int x1, .ref (xa X 54)]) kk54 Kc12 (cf_X12_findsBy X x6 x1 (gi w 54 8) w) lk_X12_246 (by omega) (Nat.le_of_ble_eq_true rfl) rfl rfl (Nat.le_of_ble_eq_true rfl) dX12_planFrom_83 (fun r9 w10 => ?_)
    refine e_iload (pc := 86) dX12_planFrom_86 7 rfl ?_
    refine e_callVWV (pc := 88) (As := [.int x1, .int r9, .int x9]) (rest := []) kk54 Kc12 (cf_X12_lookTo X x1 r9 x9 w10) lk_X12_274 (by omega) (Nat.le_of_ble_eq_true rfl) rfl rfl (Nat.le_of_ble_eq_true rfl) dX12_planFrom_88 (fun w11 => ?_)
    refine e_aload_n (pc := 91) dX12_planFrom_91 0 rfl rfl ?_
    refine e_iload_n (pc := 92) dX12_planFrom_92 1 rfl rfl ?_
    refine e_iconst (pc := 93) (v := (1 : Int32)) dX12_planFrom_93 ic_1 ?_
    refine e_iadd (pc := 94) dX12_planFrom_94 ?_
    refine e_callVRL (pc := 95) (As := [.int (x1 + (1 : Int32))]) (rest := []) kk54 Kc12 (cf_X12_allParts X (x1 + (1 : Int32)) w11) lk_X12_288 (by omega) (Nat.le_of_ble_eq_true rfl) rfl rfl (Nat.le_of_ble_eq_true rfl) dX12_planFrom_95 (fun r12 => ?_)
    refine e_lconst (pc := 98) (v := (0 : Int64)) dX12_planFrom_98 lc_0 ?_
    refine e_lcmp_le (pc := 99) (tgt := 118) dX12_planFrom_99 dX12_planFrom_100 (by decide) (fun _ => ?_) (fun _ => ?_)
    · refine e_lv [0, 1, 2, 3, 4, 5, 6, 7] rfl ?_
      exact cb_X12_planFrom_b118 X hb r_X12_planFrom hr_X12_planFrom k27 hk27 k67 hk67 x1 x2 x3 x5 x6 x7 x9 w11
    · refine e_lload (pc := 103) dX12_planFrom_103 6 rfl ?_
      refine e_aload_n (pc := 105) dX12_planFrom_105 0 rfl rfl ?_
      refine e_iload_n (pc := 106) dX12_planFrom_106 1 rfl rfl ?_
      refine e_iconst (pc := 107) (v := (1 : Int32)) dX12_planFrom_107 ic_1 ?_
      refine e_iadd (pc := 108) dX12_planFrom_108 ?_
      refine e_iload_n (pc := 109) dX12_planFrom_109 2 rfl rfl ?_
      refine e_iconst (pc := 110) (v := (1 : Int32)) dX12_planFrom_110 ic_1 ?_
      refine e_isub (pc := 111) dX12_planFrom_111 ?_
      refine e_callVWL (pc := 112) (As := [.int (x1 + (1 : Int32)), .int (x2 - (1 : Int32))]) (rest := [.long x7]) kk54 Kc12 (hr_X12_planFrom (x1 + (1 : Int32)) (x2 - (1 : Int32)) w11) lk_X12_320 (Nat.le_refl _) (Nat.le_of_ble_eq_true rfl) rfl rfl (Nat.le_of_ble_eq_true rfl) dX12_planFrom_112 (fun r13 w14 => ?_)
      refine e_ladd (pc := 115) dX12_planFrom_115 ?_
      refine e_nameL (fun y15 => ?_)
      refine e_lstore (pc := 116) (lv' := [(7, .long y15), (0, .ref (xa X 54)), (1, .int x1), (2, .int x2), (3, .long x3), (5, .int x5), (6, .int x6), (9, .int x9)]) dX12_planFrom_116 (Nat.le_of_ble_eq_true rfl) rfl ?_
      refine e_lv [1, 2, 3, 4, 5, 6, 0, 7] rfl ?_
      exact cb_X12_planFrom_b118 X hb r_X12_planFrom hr_X12_planFrom k27 hk27 k67 hk67 x1 x2 x3 x5 x6 y15 x9 w14
theorem cb_X12_planFrom_b67 (X : Xt) {dd : Nat} (hb : 5 ≤ dd) (r_X12_planFrom : Int32 → Int32 → Wd → Option (Int64 × Wd)) (hr_X12_planFrom : ∀ (a1 : Int32) (a2 : Int32) (w : Wd), CF gWL X m_X12_planFrom dd [.ref (xa X 54), .int a1, .int a2] w (r_X12_planFrom a1 a2 w)) (k27 : Int32 → Int32 → Int64 → Int32 → Int32 → Wd → Option (Int64 × Wd)) (hk27 : ∀ (x1 : Int32) (x2 : Int32) (x3 : Int64) (x5 : Int32) (x6 : Int32)  (w : Wd), E gWL X m_X12_planFrom (dd + 1) 27 [(0, .ref (xa X 54)), (1, .int x1), (2, .int x2), (3, .long x3), (5, .int x5), (6, .int x6)] [] w (k27 x1 x2 x3 x5 x6 w)) : ∀ (n : Nat) (x1 : Int32) (x2 : Int32) (x3 : Int64) (x5 : Int32) (x6 : Int32) (x7 : Int64) (x9 : Int32) (w : Wd), E gWL X m_X12_planFrom (dd + 1) 67 [(0, .ref (xa X 54)), (1, .int x1), (2, .int x2), (3, .long x3), (5, .int x5), (6, .int x6), (7, .long x7), (9, .int x9)] [] w (f_X12_planFrom_b67 r_X12_planFrom k27 n x1 x2 x3 x5 x6 x7 x9 w) := by
  intro n
  induction n with
  | zero =>
    intro x1 x2 x3 x5 x6 x7 x9 w
    exact E_none
  | succ n ih =>
    intro x1 x2 x3 x5 x6 x7 x9 w
    exact cb_X12_planFrom_b67_y X hb r_X12_planFrom hr_X12_planFrom k27 hk27 _ ih x1 x2 x3 x5 x6 x7 x9 w
set_option maxRecDepth 100000 in
set_option maxHeartbeats 4000000 in
theorem cb_X12_planFrom_b27_y (X : Xt) {dd : Nat} (hb : 5 ≤ dd) (r_X12_planFrom : Int32 → Int32 → Wd → Option (Int64 × Wd)) (hr_X12_planFrom : ∀ (a1 : Int32) (a2 : Int32) (w : Wd), CF gWL X m_X12_planFrom dd [.ref (xa X 54), .int a1, .int a2] w (r_X12_planFrom a1 a2 w)) (k27 : Int32 → Int32 → Int64 → Int32 → Int32 → Wd → Option (Int64 × Wd)) (hk27 : ∀ (x1 : Int32) (x2 : Int32) (x3 : Int64) (x5 : Int32) (x6 : Int32)  (w : Wd), E gWL X m_X12_planFrom (dd + 1) 27 [(0, .ref (xa X 54)), (1, .int x1), (2, .int x2), (3, .long x3), (5, .int x5), (6, .int x6)] [] w (k27 x1 x2 x3 x5 x6 w)) (x1 : Int32) (x2 : Int32) (x3 : Int64) (x5 : Int32) (x6 : Int32) (w : Wd) : E gWL X m_X12_planFrom (dd + 1) 27 [(0, .ref (xa X 54)), (1, .int x1), (2, .int x2), (3, .long x3), (5, .int x5), (6, .int x6)] [] w (f_X12_planFrom_b27_y r_X12_planFrom k27 x1 x2 x3 x5 x6 w) := by
  unfold f_X12_planFrom_b27_y
  refine e_iload (pc := 27) dX12_planFrom_27 5 rfl ?_
  refine e_aload_n (pc := 29) dX12_planFrom_29 0 rfl rfl ?_
  refine g_I (pc := 30) kk54 fl_X12_128 dX12_planFrom_30 ?_
  refine e_icmp_ge (pc := 33) (tgt := 147) dX12_planFrom_33 (by decide) (fun _ => ?_) (fun _ => ?_)
  · refine e_lv [0, 3, 4] rfl ?_
    exact cb_X12_planFrom_b147 X hb r_X12_planFrom hr_X12_planFrom x3 x5 w
  · refine e_iload_n (pc := 36) dX12_planFrom_36 2 rfl rfl ?_
    refine e_if_le (pc := 37) (tgt := 147) dX12_planFrom_37 (by decide) (fun _ => ?_) (fun _ => ?_)
    · refine e_lv [0, 3, 4] rfl ?_
      exact cb_X12_planFrom_b147 X hb r_X12_planFrom hr_X12_planFrom x3 x5 w
    · refine e_aload_n (pc := 40) dX12_planFrom_40 0 rfl rfl ?_
      refine g_R (pc := 41) (cl' := 58) kk54 fl_X12_21 rfl dX12_planFrom_41 ?_
      refine e_iload (pc := 44) dX12_planFrom_44 5 rfl ?_
      refine e_iald (pc := 46) kk58 dX12_planFrom_46 (fun v5 => ?_)
      refine e_i2l (pc := 47) dX12_planFrom_47 ?_
      refine e_aload_n (pc := 48) dX12_planFrom_48 0 rfl rfl ?_
      refine e_iload_n (pc := 49) dX12_planFrom_49 1 rfl rfl ?_
      refine e_callVRL (pc := 50) (As := [.int x1]) (rest := [.long (Int32.toInt64 v5)]) kk54 Kc12 (cf_X12_allParts X x1 w) lk_X12_288 (by omega) (Nat.le_of_ble_eq_true rfl) rfl rfl (Nat.le_of_ble_eq_true rfl) dX12_planFrom_50 (fun r6 => ?_)
      refine e_lmul (pc := 53) dX12_planFrom_53 ?_
      refine e_ldc2 (pc := 54) (v := (1728 : Int64)) dX12_planFrom_54 cl_X12_301 ?_
      refine e_iload_n (pc := 57) dX12_planFrom_57 2 rfl rfl ?_
      refine e_callSRL (pc := 58) (As := [.long (1728 : Int64), .int x2]) (rest := [.long ((Int32.toInt64 v5) * r6)]) (cf_X12_power X (1728 : Int64) x2 w) lk_X12_258 (by omega) (Nat.le_of_ble_eq_true rfl) rfl rfl (Nat.le_of_ble_eq_true rfl) dX12_planFrom_58 (fun r7 => ?_)
      refine e_lmul (pc := 61) dX12_planFrom_61 ?_
      refine e_nameL (fun y8 => ?_)
      refine e_lstore (pc := 62) (lv' := [(7, .long y8), (0, .ref (xa X 54)), (1, .int x1), (2, .int x2), (3, .long x3), (5, .int x5), (6, .int x6)]) dX12_planFrom_62 (Nat.le_of_ble_eq_true rfl) rfl ?_
      refine e_iconst (pc := 64) (v := (0 : Int32)) dX12_planFrom_64 ic_0 ?_
      refine e_istore (pc := 65) (lv' := [(9, .int (0 : Int32)), (7, .long y8), (0, .ref (xa X 54)), (1, .int x1), (2, .int x2), (3, .long x3), (5, .int x5), (6, .int x6)]) dX12_planFrom_65 (Nat.le_of_ble_eq_true rfl) rfl ?_
      refine e_lv [2, 3, 4, 5, 6, 7, 1, 0] rfl ?_
      exact cb_X12_planFrom_b67 X hb r_X12_planFrom hr_X12_planFrom k27 hk27 fu x1 x2 x3 x5 x6 y8 (0 : Int32) w
theorem cb_X12_planFrom_b27 (X : Xt) {dd : Nat} (hb : 5 ≤ dd) (r_X12_planFrom : Int32 → Int32 → Wd → Option (Int64 × Wd)) (hr_X12_planFrom : ∀ (a1 : Int32) (a2 : Int32) (w : Wd), CF gWL X m_X12_planFrom dd [.ref (xa X 54), .int a1, .int a2] w (r_X12_planFrom a1 a2 w)) : ∀ (n : Nat) (x1 : Int32) (x2 : Int32) (x3 : Int64) (x5 : Int32) (x6 : Int32) (w : Wd), E gWL X m_X12_planFrom (dd + 1) 27 [(0, .ref (xa X 54)), (1, .int x1), (2, .int x2), (3, .long x3), (5, .int x5), (6, .int x6)] [] w (f_X12_planFrom_b27 r_X12_planFrom n x1 x2 x3 x5 x6 w) := by
  intro n
  induction n with
  | zero =>
    intro x1 x2 x3 x5 x6 w
    exact E_none
  | succ n ih =>
    intro x1 x2 x3 x5 x6 w
    exact cb_X12_planFrom_b27_y X hb r_X12_planFrom hr_X12_planFrom _ ih x1 x2 x3 x5 x6 w
set_option maxRecDepth 100000 in
set_option maxHeartbeats 4000000 in
theorem ce_X12_planFrom (X : Xt) {dd : Nat} (hb : 5 ≤ dd) (r_X12_planFrom : Int32 → Int32 → Wd → Option (Int64 × Wd)) (hr_X12_planFrom : ∀ (a1 : Int32) (a2 : Int32) (w : Wd), CF gWL X m_X12_planFrom dd [.ref (xa X 54), .int a1, .int a2] w (r_X12_planFrom a1 a2 w)) (a1 : Int32) (a2 : Int32) (w : Wd) : E gWL X m_X12_planFrom (dd + 1) 0 [(0, .ref (xa X 54)), (1, .int a1), (2, .int a2)] [] w (f_X12_planFrom_y r_X12_planFrom a1 a2 w) := by
  unfold f_X12_planFrom_y
  refine e_aload_n (pc := 0) dX12_planFrom_0 0 rfl rfl ?_
  refine g_I (pc := 1) kk54 fl_X12_31 dX12_planFrom_1 ?_
  refine e_i2l (pc := 4) dX12_planFrom_4 ?_
  refine e_aload_n (pc := 5) dX12_planFrom_5 0 rfl rfl ?_
  refine e_iload_n (pc := 6) dX12_planFrom_6 1 rfl rfl ?_
  refine e_callVRL (pc := 7) (As := [.int a1]) (rest := [.long (Int32.toInt64 (gi w 54 9))]) kk54 Kc12 (cf_X12_stonesIn X a1 w) lk_X12_303 (by omega) (Nat.le_of_ble_eq_true rfl) rfl rfl (Nat.le_of_ble_eq_true rfl) dX12_planFrom_7 (fun r1 => ?_)
  refine e_lmul (pc := 10) dX12_planFrom_10 ?_
  refine e_ldc2 (pc := 11) (v := (1728 : Int64)) dX12_planFrom_11 cl_X12_301 ?_
  refine e_iload_n (pc := 14) dX12_planFrom_14 2 rfl rfl ?_
  refine e_callSRL (pc := 15) (As := [.long (1728 : Int64), .int a2]) (rest := [.long ((Int32.toInt64 (gi w 54 9)) * r1)]) (cf_X12_power X (1728 : Int64) a2 w) lk_X12_258 (by omega) (Nat.le_of_ble_eq_true rfl) rfl rfl (Nat.le_of_ble_eq_true rfl) dX12_planFrom_15 (fun r2 => ?_)
  refine e_lmul (pc := 18) dX12_planFrom_18 ?_
  refine e_nameL (fun y3 => ?_)
  refine e_lstore_n (pc := 19) (lv' := [(3, .long y3), (0, .ref (xa X 54)), (1, .int a1), (2, .int a2)]) dX12_planFrom_19 rfl (Nat.le_of_ble_eq_true rfl) rfl ?_
  refine e_bipush (pc := 20) (v := (-2 : Int32)) dX12_planFrom_20 bp_m2 ?_
  refine e_istore (pc := 22) (lv' := [(5, .int (-2 : Int32)), (3, .long y3), (0, .ref (xa X 54)), (1, .int a1), (2, .int a2)]) dX12_planFrom_22 (Nat.le_of_ble_eq_true rfl) rfl ?_
  refine e_iconst (pc := 24) (v := (0 : Int32)) dX12_planFrom_24 ic_0 ?_
  refine e_istore (pc := 25) (lv' := [(6, .int (0 : Int32)), (5, .int (-2 : Int32)), (3, .long y3), (0, .ref (xa X 54)), (1, .int a1), (2, .int a2)]) dX12_planFrom_25 (Nat.le_of_ble_eq_true rfl) rfl ?_
  refine e_lv [3, 4, 5, 2, 1, 0] rfl ?_
  exact cb_X12_planFrom_b27 X hb r_X12_planFrom hr_X12_planFrom fu a1 a2 y3 (-2 : Int32) (0 : Int32) w
set_option maxRecDepth 100000 in
theorem cs_X12_planFrom (X : Xt) : ∀ n : Nat, (∀ (a1 : Int32) (a2 : Int32) (w : Wd), CF gWL X m_X12_planFrom (5 + n) [.ref (xa X 54), .int a1, .int a2] w (f_X12_planFrom n a1 a2 w)) := by
  intro n
  induction n with
  | zero => exact fun _ _ _ => CF_none
  | succ n ih =>
    have ih0 := ih
    exact fun a1 a2 w => CF_of (by decide) (Nat.le_of_ble_eq_true rfl) (ce_X12_planFrom X (Nat.le_add_right _ _) (f_X12_planFrom n) ih0 a1 a2 w)
theorem cf_X12_planFrom (X : Xt) (n : Nat) (a1 : Int32) (a2 : Int32) (w : Wd) : CF gWL X m_X12_planFrom (5 + n) [.ref (xa X 54), .int a1, .int a2] w (f_X12_planFrom n a1 a2 w) := cs_X12_planFrom X n a1 a2 w
