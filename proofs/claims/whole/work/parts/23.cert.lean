set_option maxRecDepth 100000 in
set_option maxHeartbeats 4000000 in
theorem ce_X4_joined (X : Xt) (a0 : Int32) (a1 : Int32) (a2 : Int32) (w : Wd) : E (gRI w) X m_X4_joined 1 0 [(0, .int a0), (1, .int a1), (2, .int a2)] [] w (f_X4_joined a0 a1 a2) := by
  unfold f_X4_joined
  refine e_iload_n (pc := 0) dX4_joined_0 0 rfl rfl ?_
  refine e_ite (fun h1_37 => ?_) (fun h1_37 => ?_)
  · refine e_look (pc := 1) (off := 176) (tgt := 177) dX4_joined_1 (by decide) (by rw [h1_37]; decide) (by decide) ?_
    refine e_iload_n (pc := 177) dX4_joined_177 2 rfl rfl ?_
    refine e_if_ne (pc := 178) (tgt := 185) dX4_joined_178 (by decide) (fun _ => ?_) (fun _ => ?_)
    · refine e_iconst (pc := 181) (v := (0 : Int32)) dX4_joined_181 ic_0 ?_
      refine e_goto (pc := 182) (tgt := 188) dX4_joined_182 (by decide) ?_
      exact e_iretR rfl dX4_joined_188
    · refine e_iload_n (pc := 185) dX4_joined_185 1 rfl rfl ?_
      refine e_iload_n (pc := 186) dX4_joined_186 2 rfl rfl ?_
      refine e_iremG (pc := 187) dX4_joined_187 (fun v1 => ?_)
      exact e_iretR rfl dX4_joined_188
  · refine e_ite (fun h1_38 => ?_) (fun h1_38 => ?_)
    · refine e_look (pc := 1) (off := 105) (tgt := 106) dX4_joined_1 (by decide) (by rw [h1_38]; decide) (by decide) ?_
      refine e_iload_n (pc := 106) dX4_joined_106 1 rfl rfl ?_
      refine e_if_eq (pc := 107) (tgt := 118) dX4_joined_107 (by decide) (fun _ => ?_) (fun _ => ?_)
      · refine e_iconst (pc := 118) (v := (0 : Int32)) dX4_joined_118 ic_0 ?_
        exact e_iretR rfl dX4_joined_119
      · refine e_iload_n (pc := 110) dX4_joined_110 2 rfl rfl ?_
        refine e_if_eq (pc := 111) (tgt := 118) dX4_joined_111 (by decide) (fun _ => ?_) (fun _ => ?_)
        · refine e_iconst (pc := 118) (v := (0 : Int32)) dX4_joined_118 ic_0 ?_
          exact e_iretR rfl dX4_joined_119
        · refine e_iconst (pc := 114) (v := (1 : Int32)) dX4_joined_114 ic_1 ?_
          refine e_goto (pc := 115) (tgt := 119) dX4_joined_115 (by decide) ?_
          exact e_iretR rfl dX4_joined_119
    · refine e_ite (fun h1_42 => ?_) (fun h1_42 => ?_)
      · refine e_look (pc := 1) (off := 160) (tgt := 161) dX4_joined_1 (by decide) (by rw [h1_42]; decide) (by decide) ?_
        refine e_iload_n (pc := 161) dX4_joined_161 1 rfl rfl ?_
        refine e_iload_n (pc := 162) dX4_joined_162 2 rfl rfl ?_
        refine e_imul (pc := 163) dX4_joined_163 ?_
        exact e_iretR rfl dX4_joined_164
      · refine e_ite (fun h1_43 => ?_) (fun h1_43 => ?_)
        · refine e_look (pc := 1) (off := 152) (tgt := 153) dX4_joined_1 (by decide) (by rw [h1_43]; decide) (by decide) ?_
          refine e_iload_n (pc := 153) dX4_joined_153 1 rfl rfl ?_
          refine e_iload_n (pc := 154) dX4_joined_154 2 rfl rfl ?_
          refine e_iadd (pc := 155) dX4_joined_155 ?_
          exact e_iretR rfl dX4_joined_156
        · refine e_ite (fun h1_45 => ?_) (fun h1_45 => ?_)
          · refine e_look (pc := 1) (off := 156) (tgt := 157) dX4_joined_1 (by decide) (by rw [h1_45]; decide) (by decide) ?_
            refine e_iload_n (pc := 157) dX4_joined_157 1 rfl rfl ?_
            refine e_iload_n (pc := 158) dX4_joined_158 2 rfl rfl ?_
            refine e_isub (pc := 159) dX4_joined_159 ?_
            exact e_iretR rfl dX4_joined_160
          · refine e_ite (fun h1_47 => ?_) (fun h1_47 => ?_)
            · refine e_look (pc := 1) (off := 164) (tgt := 165) dX4_joined_1 (by decide) (by rw [h1_47]; decide) (by decide) ?_
              refine e_iload_n (pc := 165) dX4_joined_165 2 rfl rfl ?_
              refine e_if_ne (pc := 166) (tgt := 173) dX4_joined_166 (by decide) (fun _ => ?_) (fun _ => ?_)
              · refine e_iconst (pc := 169) (v := (0 : Int32)) dX4_joined_169 ic_0 ?_
                refine e_goto (pc := 170) (tgt := 176) dX4_joined_170 (by decide) ?_
                exact e_iretR rfl dX4_joined_176
              · refine e_iload_n (pc := 173) dX4_joined_173 1 rfl rfl ?_
                refine e_iload_n (pc := 174) dX4_joined_174 2 rfl rfl ?_
                refine e_idivG (pc := 175) dX4_joined_175 (fun v2 => ?_)
                exact e_iretR rfl dX4_joined_176
            · refine e_ite (fun h1_60 => ?_) (fun h1_60 => ?_)
              · refine e_look (pc := 1) (off := 119) (tgt := 120) dX4_joined_1 (by decide) (by rw [h1_60]; decide) (by decide) ?_
                refine e_iload_n (pc := 120) dX4_joined_120 1 rfl rfl ?_
                refine e_iload_n (pc := 121) dX4_joined_121 2 rfl rfl ?_
                refine e_icmp_ge (pc := 122) (tgt := 129) dX4_joined_122 (by decide) (fun _ => ?_) (fun _ => ?_)
                · refine e_iconst (pc := 129) (v := (0 : Int32)) dX4_joined_129 ic_0 ?_
                  exact e_iretR rfl dX4_joined_130
                · refine e_iconst (pc := 125) (v := (1 : Int32)) dX4_joined_125 ic_1 ?_
                  refine e_goto (pc := 126) (tgt := 130) dX4_joined_126 (by decide) ?_
                  exact e_iretR rfl dX4_joined_130
              · refine e_ite (fun h1_61 => ?_) (fun h1_61 => ?_)
                · refine e_look (pc := 1) (off := 130) (tgt := 131) dX4_joined_1 (by decide) (by rw [h1_61]; decide) (by decide) ?_
                  refine e_iload_n (pc := 131) dX4_joined_131 1 rfl rfl ?_
                  refine e_iload_n (pc := 132) dX4_joined_132 2 rfl rfl ?_
                  refine e_icmp_ne (pc := 133) (tgt := 140) dX4_joined_133 (by decide) (fun _ => ?_) (fun _ => ?_)
                  · refine e_iconst (pc := 136) (v := (1 : Int32)) dX4_joined_136 ic_1 ?_
                    refine e_goto (pc := 137) (tgt := 141) dX4_joined_137 (by decide) ?_
                    exact e_iretR rfl dX4_joined_141
                  · refine e_iconst (pc := 140) (v := (0 : Int32)) dX4_joined_140 ic_0 ?_
                    exact e_iretR rfl dX4_joined_141
                · refine e_ite (fun h1_62 => ?_) (fun h1_62 => ?_)
                  · refine e_look (pc := 1) (off := 141) (tgt := 142) dX4_joined_1 (by decide) (by rw [h1_62]; decide) (by decide) ?_
                    refine e_iload_n (pc := 142) dX4_joined_142 1 rfl rfl ?_
                    refine e_iload_n (pc := 143) dX4_joined_143 2 rfl rfl ?_
                    refine e_icmp_le (pc := 144) (tgt := 151) dX4_joined_144 (by decide) (fun _ => ?_) (fun _ => ?_)
                    · refine e_iconst (pc := 151) (v := (0 : Int32)) dX4_joined_151 ic_0 ?_
                      exact e_iretR rfl dX4_joined_152
                    · refine e_iconst (pc := 147) (v := (1 : Int32)) dX4_joined_147 ic_1 ?_
                      refine e_goto (pc := 148) (tgt := 152) dX4_joined_148 (by decide) ?_
                      exact e_iretR rfl dX4_joined_152
                  · refine e_ite (fun h1_124 => ?_) (fun h1_124 => ?_)
                    · refine e_look (pc := 1) (off := 91) (tgt := 92) dX4_joined_1 (by decide) (by rw [h1_124]; decide) (by decide) ?_
                      refine e_iload_n (pc := 92) dX4_joined_92 1 rfl rfl ?_
                      refine e_if_ne (pc := 93) (tgt := 100) dX4_joined_93 (by decide) (fun _ => ?_) (fun _ => ?_)
                      · refine e_iload_n (pc := 96) dX4_joined_96 2 rfl rfl ?_
                        refine e_if_eq (pc := 97) (tgt := 104) dX4_joined_97 (by decide) (fun _ => ?_) (fun _ => ?_)
                        · refine e_iconst (pc := 104) (v := (0 : Int32)) dX4_joined_104 ic_0 ?_
                          exact e_iretR rfl dX4_joined_105
                        · refine e_iconst (pc := 100) (v := (1 : Int32)) dX4_joined_100 ic_1 ?_
                          refine e_goto (pc := 101) (tgt := 105) dX4_joined_101 (by decide) ?_
                          exact e_iretR rfl dX4_joined_105
                      · refine e_iconst (pc := 100) (v := (1 : Int32)) dX4_joined_100 ic_1 ?_
                        refine e_goto (pc := 101) (tgt := 105) dX4_joined_101 (by decide) ?_
                        exact e_iretR rfl dX4_joined_105
                    · refine e_look (pc := 1) (off := 188) (tgt := 189) dX4_joined_1 (by decide) ((lv_osw h1_37 (by decide)).trans ((lv_osw h1_38 (by decide)).trans ((lv_osw h1_42 (by decide)).trans ((lv_osw h1_43 (by decide)).trans ((lv_osw h1_45 (by decide)).trans ((lv_osw h1_47 (by decide)).trans ((lv_osw h1_60 (by decide)).trans ((lv_osw h1_61 (by decide)).trans ((lv_osw h1_62 (by decide)).trans ((lv_osw h1_124 (by decide)).trans rfl)))))))))) (by decide) ?_
                      refine e_iconst (pc := 189) (v := (0 : Int32)) dX4_joined_189 ic_0 ?_
                      exact e_iretR rfl dX4_joined_190
theorem cf_X4_joined (X : Xt) (a0 : Int32) (a1 : Int32) (a2 : Int32) (w : Wd) : CF (gRI w) X m_X4_joined 1 [.int a0, .int a1, .int a2] w (f_X4_joined a0 a1 a2) := CF_of (by decide) (Nat.le_of_ble_eq_true rfl) (ce_X4_joined X a0 a1 a2 w)
set_option maxRecDepth 100000 in
set_option maxHeartbeats 4000000 in
theorem cb_X4_run_b83 (X : Xt) (s0 : Int32) (w : Wd) : E gWV X m_X4_run 2 83 [] [.int s0, .ref (xa X 6)] w (f_X4_run_b83 s0 w) := by
  unfold f_X4_run_b83
  refine e_callVWV (pc := 83) (As := [.int s0]) (rest := []) kk6 Kc4 (cf_X4_push X s0 w) lk_X4_92 (Nat.le_of_ble_eq_true rfl) (Nat.le_of_ble_eq_true rfl) rfl rfl (Nat.le_of_ble_eq_true rfl) dX4_run_83 (fun w9 => ?_)
  refine e_goto (pc := 86) (tgt := 107) dX4_run_86 (by decide) ?_
  exact e_vret rfl dX4_run_107
set_option maxRecDepth 100000 in
set_option maxHeartbeats 4000000 in
theorem cb_X4_run_b40 (X : Xt) (s0 : Int32) (w : Wd) : E gWV X m_X4_run 2 40 [] [.int s0, .ref (xa X 6)] w (f_X4_run_b40 s0 w) := by
  unfold f_X4_run_b40
  refine e_callVWV (pc := 40) (As := [.int s0]) (rest := []) kk6 Kc4 (cf_X4_push X s0 w) lk_X4_92 (Nat.le_of_ble_eq_true rfl) (Nat.le_of_ble_eq_true rfl) rfl rfl (Nat.le_of_ble_eq_true rfl) dX4_run_40 (fun w13 => ?_)
  refine e_goto (pc := 43) (tgt := 107) dX4_run_43 (by decide) ?_
  exact e_vret rfl dX4_run_107
set_option maxRecDepth 100000 in
set_option maxHeartbeats 4000000 in
theorem ce_X4_run (X : Xt) (a1 : Int32) (a2 : Int32) (w : Wd) : E gWV X m_X4_run 2 0 [(0, .ref (xa X 6)), (1, .int a1), (2, .int a2)] [] w (f_X4_run a1 a2 w) := by
  unfold f_X4_run
  refine e_iload_n (pc := 0) dX4_run_0 1 rfl rfl ?_
  refine e_bipush (pc := 1) (v := (35 : Int32)) dX4_run_1 bp_35 ?_
  refine e_icmp_ne (pc := 3) (tgt := 14) dX4_run_3 (by decide) (fun _ => ?_) (fun _ => ?_)
  · refine e_aload_n (pc := 6) dX4_run_6 0 rfl rfl ?_
    refine e_iload_n (pc := 7) dX4_run_7 2 rfl rfl ?_
    refine e_callVWV (pc := 8) (As := [.int a2]) (rest := []) kk6 Kc4 (cf_X4_push X a2 w) lk_X4_92 (Nat.le_of_ble_eq_true rfl) (Nat.le_of_ble_eq_true rfl) rfl rfl (Nat.le_of_ble_eq_true rfl) dX4_run_8 (fun w15 => ?_)
    refine e_goto (pc := 11) (tgt := 107) dX4_run_11 (by decide) ?_
    exact e_vret rfl dX4_run_107
  · refine e_iload_n (pc := 14) dX4_run_14 1 rfl rfl ?_
    refine e_bipush (pc := 15) (v := (36 : Int32)) dX4_run_15 bp_36 ?_
    refine e_icmp_ne (pc := 17) (tgt := 46) dX4_run_17 (by decide) (fun _ => ?_) (fun _ => ?_)
    · refine e_aload_n (pc := 20) dX4_run_20 0 rfl rfl ?_
      refine e_iload_n (pc := 21) dX4_run_21 2 rfl rfl ?_
      refine e_aload_n (pc := 22) dX4_run_22 0 rfl rfl ?_
      refine g_R (pc := 23) (cl' := 10) kk6 fl_X4_32 rfl dX4_run_23 ?_
      refine e_alenI (pc := 26) (v := (6 : Int32)) kk10 al_6 dX4_run_26 ?_
      refine e_icmp_ge (pc := 27) (tgt := 39) dX4_run_27 (by decide) (fun _ => ?_) (fun _ => ?_)
      · refine e_iconst (pc := 39) (v := (0 : Int32)) dX4_run_39 ic_0 ?_
        refine e_lv [] rfl ?_
        exact cb_X4_run_b40 X (0 : Int32) w
      · refine e_aload_n (pc := 30) dX4_run_30 0 rfl rfl ?_
        refine g_R (pc := 31) (cl' := 10) kk6 fl_X4_32 rfl dX4_run_31 ?_
        refine e_iload_n (pc := 34) dX4_run_34 2 rfl rfl ?_
        refine e_iald (pc := 35) kk10 dX4_run_35 (fun v14 => ?_)
        refine e_goto (pc := 36) (tgt := 40) dX4_run_36 (by decide) ?_
        refine e_lv [] rfl ?_
        exact cb_X4_run_b40 X v14 w
    · refine e_iload_n (pc := 46) dX4_run_46 1 rfl rfl ?_
      refine e_bipush (pc := 47) (v := (126 : Int32)) dX4_run_47 bp_126 ?_
      refine e_icmp_ne (pc := 49) (tgt := 64) dX4_run_49 (by decide) (fun _ => ?_) (fun _ => ?_)
      · refine e_aload_n (pc := 52) dX4_run_52 0 rfl rfl ?_
        refine e_aload_n (pc := 53) dX4_run_53 0 rfl rfl ?_
        refine e_callVWI (pc := 54) (As := []) (rest := [.ref (xa X 6)]) kk6 Kc4 (cf_X4_pop X w) lk_X4_86 (Nat.le_of_ble_eq_true rfl) (Nat.le_of_ble_eq_true rfl) rfl rfl (Nat.le_of_ble_eq_true rfl) dX4_run_54 (fun r10 w11 => ?_)
        refine e_ineg (pc := 57) dX4_run_57 ?_
        refine e_callVWV (pc := 58) (As := [.int (-r10)]) (rest := []) kk6 Kc4 (cf_X4_push X (-r10) w11) lk_X4_92 (Nat.le_of_ble_eq_true rfl) (Nat.le_of_ble_eq_true rfl) rfl rfl (Nat.le_of_ble_eq_true rfl) dX4_run_58 (fun w12 => ?_)
        refine e_goto (pc := 61) (tgt := 107) dX4_run_61 (by decide) ?_
        exact e_vret rfl dX4_run_107
      · refine e_iload_n (pc := 64) dX4_run_64 1 rfl rfl ?_
        refine e_bipush (pc := 65) (v := (33 : Int32)) dX4_run_65 bp_33 ?_
        refine e_icmp_ne (pc := 67) (tgt := 89) dX4_run_67 (by decide) (fun _ => ?_) (fun _ => ?_)
        · refine e_aload_n (pc := 70) dX4_run_70 0 rfl rfl ?_
          refine e_aload_n (pc := 71) dX4_run_71 0 rfl rfl ?_
          refine e_callVWI (pc := 72) (As := []) (rest := [.ref (xa X 6)]) kk6 Kc4 (cf_X4_pop X w) lk_X4_86 (Nat.le_of_ble_eq_true rfl) (Nat.le_of_ble_eq_true rfl) rfl rfl (Nat.le_of_ble_eq_true rfl) dX4_run_72 (fun r7 w8 => ?_)
          refine e_if_ne (pc := 75) (tgt := 82) dX4_run_75 (by decide) (fun _ => ?_) (fun _ => ?_)
          · refine e_iconst (pc := 78) (v := (1 : Int32)) dX4_run_78 ic_1 ?_
            refine e_goto (pc := 79) (tgt := 83) dX4_run_79 (by decide) ?_
            refine e_lv [] rfl ?_
            exact cb_X4_run_b83 X (1 : Int32) w8
          · refine e_iconst (pc := 82) (v := (0 : Int32)) dX4_run_82 ic_0 ?_
            refine e_lv [] rfl ?_
            exact cb_X4_run_b83 X (0 : Int32) w8
        · refine e_aload_n (pc := 89) dX4_run_89 0 rfl rfl ?_
          refine e_callVWI (pc := 90) (As := []) (rest := []) kk6 Kc4 (cf_X4_pop X w) lk_X4_86 (Nat.le_of_ble_eq_true rfl) (Nat.le_of_ble_eq_true rfl) rfl rfl (Nat.le_of_ble_eq_true rfl) dX4_run_90 (fun r1 w2 => ?_)
          refine e_istore_n (pc := 93) (lv' := [(3, .int r1), (0, .ref (xa X 6)), (1, .int a1), (2, .int a2)]) dX4_run_93 rfl (Nat.le_of_ble_eq_true rfl) rfl ?_
          refine e_aload_n (pc := 94) dX4_run_94 1 rfl rfl ?_
          refine e_iload_n (pc := 95) dX4_run_95 2 rfl rfl ?_
          refine e_aload_n (pc := 96) dX4_run_96 1 rfl rfl ?_
          refine e_callVWI (pc := 97) (As := []) (rest := [.int a1, .ref (xa X 6)]) kk6 Kc4 (cf_X4_pop X w2) lk_X4_86 (Nat.le_of_ble_eq_true rfl) (Nat.le_of_ble_eq_true rfl) rfl rfl (Nat.le_of_ble_eq_true rfl) dX4_run_97 (fun r3 w4 => ?_)
          refine e_iload_n (pc := 100) dX4_run_100 0 rfl rfl ?_
          refine e_callSRI (pc := 101) (As := [.int a1, .int r3, .int r1]) (rest := [.ref (xa X 6)]) (cf_X4_joined X a1 r3 r1 w4) lk_X4_96 (Nat.le_of_ble_eq_true rfl) (Nat.le_of_ble_eq_true rfl) rfl rfl (Nat.le_of_ble_eq_true rfl) dX4_run_101 (fun r5 => ?_)
          refine e_callVWV (pc := 104) (As := [.int r5]) (rest := []) kk6 Kc4 (cf_X4_push X r5 w4) lk_X4_92 (Nat.le_of_ble_eq_true rfl) (Nat.le_of_ble_eq_true rfl) rfl rfl (Nat.le_of_ble_eq_true rfl) dX4_run_104 (fun w6 => ?_)
          exact e_vret rfl dX4_run_107
theorem cf_X4_run (X : Xt) (a1 : Int32) (a2 : Int32) (w : Wd) : CF gWV X m_X4_run 2 [.ref (xa X 6), .int a1, .int a2] w (f_X4_run a1 a2 w) := CF_of (by decide) (Nat.le_of_ble_eq_true rfl) (ce_X4_run X a1 a2 w)
set_option maxRecDepth 100000 in
set_option maxHeartbeats 4000000 in
theorem cb_X4_workOut_b144 (X : Xt) (k56 : Int32 → Int32 → Wd → Option (Int32 × Wd)) (hk56 : ∀ (x7 : Int32) (x8 : Int32)  (w : Wd), E gWI X m_X4_workOut 3 56 [(0, .ref (xa X 6)), (7, .int x7), (8, .int x8)] [] w (k56 x7 x8 w)) (x7 : Int32) (x8 : Int32) (w : Wd) : E gWI X m_X4_workOut 3 144 [(0, .ref (xa X 6)), (7, .int x7), (8, .int x8)] [] w (f_X4_workOut_b144 k56 x7 x8 w) := by
  unfold f_X4_workOut_b144
  refine e_iinc (pc := 144) (lv' := [(8, .int (x8 + (1 : Int32))), (0, .ref (xa X 6)), (7, .int x7)]) dX4_workOut_144 2 rfl (ii_1 _) (Nat.le_of_ble_eq_true rfl) rfl ?_
  refine e_goto (pc := 147) (tgt := 56) dX4_workOut_147 (by decide) ?_
  refine e_lv [1, 2, 0] rfl ?_
  exact hk56 x7 (x8 + (1 : Int32)) w
set_option maxRecDepth 100000 in
set_option maxHeartbeats 4000000 in
theorem cb_X4_workOut_b56_y (X : Xt) (k56 : Int32 → Int32 → Wd → Option (Int32 × Wd)) (hk56 : ∀ (x7 : Int32) (x8 : Int32)  (w : Wd), E gWI X m_X4_workOut 3 56 [(0, .ref (xa X 6)), (7, .int x7), (8, .int x8)] [] w (k56 x7 x8 w)) (x7 : Int32) (x8 : Int32) (w : Wd) : E gWI X m_X4_workOut 3 56 [(0, .ref (xa X 6)), (7, .int x7), (8, .int x8)] [] w (f_X4_workOut_b56_y k56 x7 x8 w) := by
  unfold f_X4_workOut_b56_y
  refine e_iload (pc := 56) dX4_workOut_56 2 rfl ?_
  refine e_aload_n (pc := 58) dX4_workOut_58 0 rfl rfl ?_
  refine g_I (pc := 59) kk6 fl_X4_29 dX4_workOut_59 ?_
  refine e_icmp_ge (pc := 62) (tgt := 150) dX4_workOut_62 (by decide) (fun _ => ?_) (fun _ => ?_)
  · refine e_iconst (pc := 150) (v := (0 : Int32)) dX4_workOut_150 ic_0 ?_
    exact e_iretW rfl dX4_workOut_151
  · refine e_iload (pc := 65) dX4_workOut_65 1 rfl ?_
    refine e_aload_n (pc := 67) dX4_workOut_67 0 rfl rfl ?_
    refine g_I (pc := 68) kk6 fl_X4_29 dX4_workOut_68 ?_
    refine e_icmp_ge (pc := 71) (tgt := 150) dX4_workOut_71 (by decide) (fun _ => ?_) (fun _ => ?_)
    · refine e_iconst (pc := 150) (v := (0 : Int32)) dX4_workOut_150 ic_0 ?_
      exact e_iretW rfl dX4_workOut_151
    · refine e_aload_n (pc := 74) dX4_workOut_74 0 rfl rfl ?_
      refine g_R (pc := 75) (cl' := 9) kk6 fl_X4_26 rfl dX4_workOut_75 ?_
      refine e_iload (pc := 78) dX4_workOut_78 1 rfl ?_
      refine e_iald (pc := 80) kk9 dX4_workOut_80 (fun v8 => ?_)
      refine e_sipush (pc := 81) (v := (256 : Int32)) dX4_workOut_81 sp_256 ?_
      refine e_irem (pc := 84) dX4_workOut_84 (by decide) ?_
      refine e_nameI (fun y9 => ?_)
      refine e_istore (pc := 85) (lv' := [(9, .int y9), (0, .ref (xa X 6)), (7, .int x7), (8, .int x8)]) dX4_workOut_85 (Nat.le_of_ble_eq_true rfl) rfl ?_
      refine e_aload_n (pc := 87) dX4_workOut_87 1 rfl rfl ?_
      refine g_R (pc := 88) (cl' := 9) kk6 fl_X4_26 rfl dX4_workOut_88 ?_
      refine e_iload (pc := 91) dX4_workOut_91 2 rfl ?_
      refine e_iald (pc := 93) kk9 dX4_workOut_93 (fun v10 => ?_)
      refine e_sipush (pc := 94) (v := (256 : Int32)) dX4_workOut_94 sp_256 ?_
      refine e_idiv (pc := 97) dX4_workOut_97 (by decide) ?_
      refine e_nameI (fun y11 => ?_)
      refine e_istore (pc := 98) (lv' := [(10, .int y11), (9, .int y9), (0, .ref (xa X 6)), (7, .int x7), (8, .int x8)]) dX4_workOut_98 (Nat.le_of_ble_eq_true rfl) rfl ?_
      refine e_iinc (pc := 100) (lv' := [(7, .int (x7 + (1 : Int32))), (10, .int y11), (9, .int y9), (0, .ref (xa X 6)), (8, .int x8)]) dX4_workOut_100 3 rfl (ii_1 _) (Nat.le_of_ble_eq_true rfl) rfl ?_
      refine e_iload (pc := 103) dX4_workOut_103 2 rfl ?_
      refine e_bipush (pc := 105) (v := (59 : Int32)) dX4_workOut_105 bp_59 ?_
      refine e_icmp_ne (pc := 107) (tgt := 115) dX4_workOut_107 (by decide) (fun _ => ?_) (fun _ => ?_)
      · refine e_aload_n (pc := 110) dX4_workOut_110 3 rfl rfl ?_
        refine e_callVWI (pc := 111) (As := []) (rest := []) kk6 Kc4 (cf_X4_pop X w) lk_X4_86 (Nat.le_of_ble_eq_true rfl) (Nat.le_of_ble_eq_true rfl) rfl rfl (Nat.le_of_ble_eq_true rfl) dX4_workOut_111 (fun r15 w16 => ?_)
        exact e_iretW rfl dX4_workOut_114
      · refine e_iload (pc := 115) dX4_workOut_115 2 rfl ?_
        refine e_bipush (pc := 117) (v := (63 : Int32)) dX4_workOut_117 bp_63 ?_
        refine e_icmp_eq (pc := 119) (tgt := 133) dX4_workOut_119 (by decide) (fun _ => ?_) (fun _ => ?_)
        · refine e_aload_n (pc := 133) dX4_workOut_133 3 rfl rfl ?_
          refine e_callVWI (pc := 134) (As := []) (rest := []) kk6 Kc4 (cf_X4_pop X w) lk_X4_86 (Nat.le_of_ble_eq_true rfl) (Nat.le_of_ble_eq_true rfl) rfl rfl (Nat.le_of_ble_eq_true rfl) dX4_workOut_134 (fun r12 w13 => ?_)
          refine e_if_ne (pc := 137) (tgt := 144) dX4_workOut_137 (by decide) (fun _ => ?_) (fun _ => ?_)
          · refine e_iload (pc := 140) dX4_workOut_140 1 rfl ?_
            refine e_istore (pc := 142) (lv' := [(7, .int y11), (10, .int y11), (9, .int y9), (0, .ref (xa X 6)), (8, .int x8)]) dX4_workOut_142 (Nat.le_of_ble_eq_true rfl) rfl ?_
            refine e_lv [3, 0, 4] rfl ?_
            exact cb_X4_workOut_b144 X k56 hk56 y11 x8 w13
          · refine e_lv [3, 0, 4] rfl ?_
            exact cb_X4_workOut_b144 X k56 hk56 (x7 + (1 : Int32)) x8 w13
        · refine e_aload_n (pc := 122) dX4_workOut_122 3 rfl rfl ?_
          refine e_iload (pc := 123) dX4_workOut_123 2 rfl ?_
          refine e_iload (pc := 125) dX4_workOut_125 1 rfl ?_
          refine e_callVWV (pc := 127) (As := [.int y9, .int y11]) (rest := []) kk6 Kc4 (cf_X4_run X y9 y11 w) lk_X4_89 (Nat.le_of_ble_eq_true rfl) (Nat.le_of_ble_eq_true rfl) rfl rfl (Nat.le_of_ble_eq_true rfl) dX4_workOut_127 (fun w14 => ?_)
          refine e_goto (pc := 130) (tgt := 144) dX4_workOut_130 (by decide) ?_
          refine e_lv [3, 0, 4] rfl ?_
          exact cb_X4_workOut_b144 X k56 hk56 (x7 + (1 : Int32)) x8 w14
theorem cb_X4_workOut_b56 (X : Xt) : ∀ (n : Nat) (x7 : Int32) (x8 : Int32) (w : Wd), E gWI X m_X4_workOut 3 56 [(0, .ref (xa X 6)), (7, .int x7), (8, .int x8)] [] w (f_X4_workOut_b56 n x7 x8 w) := by
  intro n
  induction n with
  | zero =>
    intro x7 x8 w
    exact E_none
  | succ n ih =>
    intro x7 x8 w
    exact cb_X4_workOut_b56_y X _ ih x7 x8 w
set_option maxRecDepth 100000 in
set_option maxHeartbeats 4000000 in
theorem ce_X4_workOut (X : Xt) (a1 : Int32) (a2 : Int32) (a3 : Int32) (a4 : Int32) (a5 : Int32) (a6 : Int32) (w : Wd) : E gWI X m_X4_workOut 3 0 [(0, .ref (xa X 6)), (1, .int a1), (2, .int a2), (3, .int a3), (4, .int a4), (5, .int a5), (6, .int a6)] [] w (f_X4_workOut a1 a2 a3 a4 a5 a6 w) := by
  unfold f_X4_workOut
  refine e_aload_n (pc := 0) dX4_workOut_0 0 rfl rfl ?_
  refine g_R (pc := 1) (cl' := 10) kk6 fl_X4_32 rfl dX4_workOut_1 ?_
  refine e_iconst (pc := 4) (v := (0 : Int32)) dX4_workOut_4 ic_0 ?_
  refine e_iload_n (pc := 5) dX4_workOut_5 1 rfl rfl ?_
  refine e_iast (pc := 6) kk10 dX4_workOut_6 (fun w1 => ?_)
  refine e_aload_n (pc := 7) dX4_workOut_7 0 rfl rfl ?_
  refine g_R (pc := 8) (cl' := 10) kk6 fl_X4_32 rfl dX4_workOut_8 ?_
  refine e_iconst (pc := 11) (v := (1 : Int32)) dX4_workOut_11 ic_1 ?_
  refine e_iload_n (pc := 12) dX4_workOut_12 2 rfl rfl ?_
  refine e_iast (pc := 13) kk10 dX4_workOut_13 (fun w2 => ?_)
  refine e_aload_n (pc := 14) dX4_workOut_14 0 rfl rfl ?_
  refine g_R (pc := 15) (cl' := 10) kk6 fl_X4_32 rfl dX4_workOut_15 ?_
  refine e_iconst (pc := 18) (v := (2 : Int32)) dX4_workOut_18 ic_2 ?_
  refine e_iload_n (pc := 19) dX4_workOut_19 3 rfl rfl ?_
  refine e_iast (pc := 20) kk10 dX4_workOut_20 (fun w3 => ?_)
  refine e_aload_n (pc := 21) dX4_workOut_21 0 rfl rfl ?_
  refine g_R (pc := 22) (cl' := 10) kk6 fl_X4_32 rfl dX4_workOut_22 ?_
  refine e_iconst (pc := 25) (v := (3 : Int32)) dX4_workOut_25 ic_3 ?_
  refine e_iload (pc := 26) dX4_workOut_26 4 rfl ?_
  refine e_iast (pc := 28) kk10 dX4_workOut_28 (fun w4 => ?_)
  refine e_aload_n (pc := 29) dX4_workOut_29 0 rfl rfl ?_
  refine g_R (pc := 30) (cl' := 10) kk6 fl_X4_32 rfl dX4_workOut_30 ?_
  refine e_iconst (pc := 33) (v := (4 : Int32)) dX4_workOut_33 ic_4 ?_
  refine e_iload (pc := 34) dX4_workOut_34 5 rfl ?_
  refine e_iast (pc := 36) kk10 dX4_workOut_36 (fun w5 => ?_)
  refine e_aload_n (pc := 37) dX4_workOut_37 0 rfl rfl ?_
  refine g_R (pc := 38) (cl' := 10) kk6 fl_X4_32 rfl dX4_workOut_38 ?_
  refine e_iconst (pc := 41) (v := (5 : Int32)) dX4_workOut_41 ic_5 ?_
  refine e_iload (pc := 42) dX4_workOut_42 6 rfl ?_
  refine e_iast (pc := 44) kk10 dX4_workOut_44 (fun w6 => ?_)
  refine e_aload_n (pc := 45) dX4_workOut_45 0 rfl rfl ?_
  refine e_iconst (pc := 46) (v := (0 : Int32)) dX4_workOut_46 ic_0 ?_
  refine p_I (pc := 47) kk6 fp_X4_38 dX4_workOut_47 (fun w7 => ?_)
  refine e_iconst (pc := 50) (v := (0 : Int32)) dX4_workOut_50 ic_0 ?_
  refine e_istore (pc := 51) (lv' := [(7, .int (0 : Int32)), (0, .ref (xa X 6)), (1, .int a1), (2, .int a2), (3, .int a3), (4, .int a4), (5, .int a5), (6, .int a6)]) dX4_workOut_51 (Nat.le_of_ble_eq_true rfl) rfl ?_
  refine e_iconst (pc := 53) (v := (0 : Int32)) dX4_workOut_53 ic_0 ?_
  refine e_istore (pc := 54) (lv' := [(8, .int (0 : Int32)), (7, .int (0 : Int32)), (0, .ref (xa X 6)), (1, .int a1), (2, .int a2), (3, .int a3), (4, .int a4), (5, .int a5), (6, .int a6)]) dX4_workOut_54 (Nat.le_of_ble_eq_true rfl) rfl ?_
  refine e_lv [2, 1, 0] rfl ?_
  exact cb_X4_workOut_b56 X fu (0 : Int32) (0 : Int32) w7
theorem cf_X4_workOut (X : Xt) (a1 : Int32) (a2 : Int32) (a3 : Int32) (a4 : Int32) (a5 : Int32) (a6 : Int32) (w : Wd) : CF gWI X m_X4_workOut 3 [.ref (xa X 6), .int a1, .int a2, .int a3, .int a4, .int a5, .int a6] w (f_X4_workOut a1 a2 a3 a4 a5 a6 w) := CF_of (by decide) (Nat.le_of_ble_eq_true rfl) (ce_X4_workOut X a1 a2 a3 a4 a5 a6 w)
set_option maxRecDepth 100000 in
set_option maxHeartbeats 4000000 in
theorem ce_X9_hasPlaces (X : Xt) (c0 : Nat) (a1 : Int32) (a2 : Int32) (hc0 : isShf c0) (w : Wd) : E (gRI w) X m_X9_hasPlaces 1 0 [(0, .ref (xa X c0)), (1, .int a1), (2, .int a2)] [] w (f_X9_hasPlaces c0 a1 a2 w) := by
  unfold f_X9_hasPlaces
  refine e_iload_n (pc := 0) dX9_hasPlaces_0 1 rfl rfl ?_
  refine e_if_lt (pc := 1) (tgt := 30) dX9_hasPlaces_1 (by decide) (fun _ => ?_) (fun _ => ?_)
  · refine e_iconst (pc := 30) (v := (0 : Int32)) dX9_hasPlaces_30 ic_0 ?_
    exact e_zretR0 rfl (by decide) dX9_hasPlaces_31
  · refine e_iload_n (pc := 4) dX9_hasPlaces_4 2 rfl rfl ?_
    refine e_if_lt (pc := 5) (tgt := 30) dX9_hasPlaces_5 (by decide) (fun _ => ?_) (fun _ => ?_)
    · refine e_iconst (pc := 30) (v := (0 : Int32)) dX9_hasPlaces_30 ic_0 ?_
      exact e_zretR0 rfl (by decide) dX9_hasPlaces_31
    · refine e_iload_n (pc := 8) dX9_hasPlaces_8 2 rfl rfl ?_
      refine e_aload_n (pc := 9) dX9_hasPlaces_9 0 rfl rfl ?_
      refine g_I (pc := 10) hc0.1 fl_X9_21 dX9_hasPlaces_10 ?_
      refine e_icmp_gt (pc := 13) (tgt := 30) dX9_hasPlaces_13 (by decide) (fun _ => ?_) (fun _ => ?_)
      · refine e_iconst (pc := 30) (v := (0 : Int32)) dX9_hasPlaces_30 ic_0 ?_
        exact e_zretR0 rfl (by decide) dX9_hasPlaces_31
      · refine e_iload_n (pc := 16) dX9_hasPlaces_16 1 rfl rfl ?_
        refine e_aload_n (pc := 17) dX9_hasPlaces_17 0 rfl rfl ?_
        refine g_I (pc := 18) hc0.1 fl_X9_21 dX9_hasPlaces_18 ?_
        refine e_iload_n (pc := 21) dX9_hasPlaces_21 2 rfl rfl ?_
        refine e_isub (pc := 22) dX9_hasPlaces_22 ?_
        refine e_icmp_gt (pc := 23) (tgt := 30) dX9_hasPlaces_23 (by decide) (fun _ => ?_) (fun _ => ?_)
        · refine e_iconst (pc := 30) (v := (0 : Int32)) dX9_hasPlaces_30 ic_0 ?_
          exact e_zretR0 rfl (by decide) dX9_hasPlaces_31
        · refine e_iconst (pc := 26) (v := (1 : Int32)) dX9_hasPlaces_26 ic_1 ?_
          refine e_goto (pc := 27) (tgt := 31) dX9_hasPlaces_27 (by decide) ?_
          exact e_zretR0 rfl (by decide) dX9_hasPlaces_31
theorem cf_X9_hasPlaces (X : Xt) (c0 : Nat) (a1 : Int32) (a2 : Int32) (hc0 : isShf c0) (w : Wd) : CF (gRI w) X m_X9_hasPlaces 1 [.ref (xa X c0), .int a1, .int a2] w (f_X9_hasPlaces c0 a1 a2 w) := CF_of (by decide) (Nat.le_of_ble_eq_true rfl) (ce_X9_hasPlaces X c0 a1 a2 hc0 w)
set_option maxRecDepth 100000 in
set_option maxHeartbeats 4000000 in
theorem ce_X9_hasPlace (X : Xt) (c0 : Nat) (a1 : Int32) (hc0 : isShf c0) (w : Wd) : E (gRI w) X m_X9_hasPlace 1 0 [(0, .ref (xa X c0)), (1, .int a1)] [] w (f_X9_hasPlace c0 a1 w) := by
  unfold f_X9_hasPlace
  refine e_iload_n (pc := 0) dX9_hasPlace_0 1 rfl rfl ?_
  refine e_if_lt (pc := 1) (tgt := 16) dX9_hasPlace_1 (by decide) (fun _ => ?_) (fun _ => ?_)
  · refine e_iconst (pc := 16) (v := (0 : Int32)) dX9_hasPlace_16 ic_0 ?_
    exact e_zretR0 rfl (by decide) dX9_hasPlace_17
  · refine e_iload_n (pc := 4) dX9_hasPlace_4 1 rfl rfl ?_
    refine e_aload_n (pc := 5) dX9_hasPlace_5 0 rfl rfl ?_
    refine g_I (pc := 6) hc0.1 fl_X9_21 dX9_hasPlace_6 ?_
    refine e_icmp_ge (pc := 9) (tgt := 16) dX9_hasPlace_9 (by decide) (fun _ => ?_) (fun _ => ?_)
    · refine e_iconst (pc := 16) (v := (0 : Int32)) dX9_hasPlace_16 ic_0 ?_
      exact e_zretR0 rfl (by decide) dX9_hasPlace_17
    · refine e_iconst (pc := 12) (v := (1 : Int32)) dX9_hasPlace_12 ic_1 ?_
      refine e_goto (pc := 13) (tgt := 17) dX9_hasPlace_13 (by decide) ?_
      exact e_zretR0 rfl (by decide) dX9_hasPlace_17
theorem cf_X9_hasPlace (X : Xt) (c0 : Nat) (a1 : Int32) (hc0 : isShf c0) (w : Wd) : CF (gRI w) X m_X9_hasPlace 1 [.ref (xa X c0), .int a1] w (f_X9_hasPlace c0 a1 w) := CF_of (by decide) (Nat.le_of_ble_eq_true rfl) (ce_X9_hasPlace X c0 a1 hc0 w)
set_option maxRecDepth 100000 in
set_option maxHeartbeats 4000000 in
theorem ce_X9_read (X : Xt) (c0 : Nat) (a1 : Int32) (hc0 : isShf c0) (w : Wd) : E (gRL w) X m_X9_read 2 0 [(0, .ref (xa X c0)), (1, .int a1)] [] w (f_X9_read c0 a1 w) := by
  unfold f_X9_read
  refine e_aload_n (pc := 0) dX9_read_0 0 rfl rfl ?_
  refine e_iload_n (pc := 1) dX9_read_1 1 rfl rfl ?_
  refine e_callVRI (pc := 2) (As := [.int a1]) (rest := []) hc0.1 Kc9 (cf_X9_hasPlace X c0 a1 hc0 w) lk_X9_35 (Nat.le_of_ble_eq_true rfl) (Nat.le_of_ble_eq_true rfl) rfl rfl (Nat.le_of_ble_eq_true rfl) dX9_read_2 (fun r1 => ?_)
  refine e_if_eq (pc := 5) (tgt := 17) dX9_read_5 (by decide) (fun _ => ?_) (fun _ => ?_)
  · refine e_lconst (pc := 17) (v := (0 : Int64)) dX9_read_17 lc_0 ?_
    exact e_lretR rfl dX9_read_18
  · refine e_aload_n (pc := 8) dX9_read_8 0 rfl rfl ?_
    refine g_R (pc := 9) (cl' := (c0 + 1)) hc0.1 fl_X9_24 rfl dX9_read_9 ?_
    refine e_iload_n (pc := 12) dX9_read_12 1 rfl rfl ?_
    refine e_lald (pc := 13) hc0.2 dX9_read_13 (fun v2 => ?_)
    refine e_goto (pc := 14) (tgt := 18) dX9_read_14 (by decide) ?_
    exact e_lretR rfl dX9_read_18
theorem cf_X9_read (X : Xt) (c0 : Nat) (a1 : Int32) (hc0 : isShf c0) (w : Wd) : CF (gRL w) X m_X9_read 2 [.ref (xa X c0), .int a1] w (f_X9_read c0 a1 w) := CF_of (by decide) (Nat.le_of_ble_eq_true rfl) (ce_X9_read X c0 a1 hc0 w)
set_option maxRecDepth 100000 in
set_option maxHeartbeats 4000000 in
theorem ce_X5_isFound (X : Xt) (a0 : Int64) (w : Wd) : E (gRI w) X m_X5_isFound 1 0 [(0, .long a0)] [] w (f_X5_isFound a0) := by
  unfold f_X5_isFound
  refine e_lload_n (pc := 0) dX5_isFound_0 0 rfl rfl ?_
  refine e_lconst (pc := 1) (v := (0 : Int64)) dX5_isFound_1 lc_0 ?_
  refine e_lcmp_lt (pc := 2) (tgt := 18) dX5_isFound_2 dX5_isFound_3 (by decide) (fun _ => ?_) (fun _ => ?_)
  · refine e_iconst (pc := 18) (v := (0 : Int32)) dX5_isFound_18 ic_0 ?_
    exact e_zretR0 rfl (by decide) dX5_isFound_19
  · refine e_lload_n (pc := 6) dX5_isFound_6 0 rfl rfl ?_
    refine e_ldc2 (pc := 7) (v := (3 : Int64)) dX5_isFound_7 cl_X5_40 ?_
    refine e_lcmp_gt (pc := 10) (tgt := 18) dX5_isFound_10 dX5_isFound_11 (by decide) (fun _ => ?_) (fun _ => ?_)
    · refine e_iconst (pc := 18) (v := (0 : Int32)) dX5_isFound_18 ic_0 ?_
      exact e_zretR0 rfl (by decide) dX5_isFound_19
    · refine e_iconst (pc := 14) (v := (1 : Int32)) dX5_isFound_14 ic_1 ?_
      refine e_goto (pc := 15) (tgt := 19) dX5_isFound_15 (by decide) ?_
      exact e_zretR0 rfl (by decide) dX5_isFound_19
theorem cf_X5_isFound (X : Xt) (a0 : Int64) (w : Wd) : CF (gRI w) X m_X5_isFound 1 [.long a0] w (f_X5_isFound a0) := CF_of (by decide) (Nat.le_of_ble_eq_true rfl) (ce_X5_isFound X a0 w)
set_option maxRecDepth 100000 in
set_option maxHeartbeats 4000000 in
theorem cb_X5_readTwo_b71 (X : Xt) (x4 : Int64) (x6 : Int64) (w : Wd) : E gWI X m_X5_readTwo 3 71 [(0, .ref (xa X 13)), (4, .long x4), (6, .long x6)] [] w (f_X5_readTwo_b71 x4 x6 w) := by
  unfold f_X5_readTwo_b71
  refine e_aload_n (pc := 71) dX5_readTwo_71 0 rfl rfl ?_
  refine g_R (pc := 72) (cl' := 14) kk13 fl_X5_9 rfl dX5_readTwo_72 ?_
  refine e_aload_n (pc := 75) dX5_readTwo_75 0 rfl rfl ?_
  refine g_I (pc := 76) kk13 fl_X5_18 dX5_readTwo_76 ?_
  refine e_lload (pc := 79) dX5_readTwo_79 1 rfl ?_
  refine e_l2i (pc := 81) dX5_readTwo_81 ?_
  refine e_iast (pc := 82) kk14 dX5_readTwo_82 (fun w4 => ?_)
  refine e_aload_n (pc := 83) dX5_readTwo_83 0 rfl rfl ?_
  refine g_R (pc := 84) (cl' := 15) kk13 fl_X5_15 rfl dX5_readTwo_84 ?_
  refine e_aload_n (pc := 87) dX5_readTwo_87 0 rfl rfl ?_
  refine g_I (pc := 88) kk13 fl_X5_18 dX5_readTwo_88 ?_
  refine e_lload (pc := 91) dX5_readTwo_91 2 rfl ?_
  refine e_l2i (pc := 93) dX5_readTwo_93 ?_
  refine e_iast (pc := 94) kk15 dX5_readTwo_94 (fun w5 => ?_)
  refine e_iconst (pc := 95) (v := (1 : Int32)) dX5_readTwo_95 ic_1 ?_
  exact e_zretW0 rfl (by decide) dX5_readTwo_96
set_option maxRecDepth 100000 in
set_option maxHeartbeats 4000000 in
theorem ce_X5_readTwo (X : Xt) (c1 : Nat) (a2 : Int32) (a3 : Int32) (hc1 : isShf c1) (w : Wd) : E gWI X m_X5_readTwo 3 0 [(0, .ref (xa X 13)), (1, .ref (xa X c1)), (2, .int a2), (3, .int a3)] [] w (f_X5_readTwo c1 a2 a3 w) := by
  unfold f_X5_readTwo
  refine e_aload_n (pc := 0) dX5_readTwo_0 1 rfl rfl ?_
  refine e_iconst (pc := 1) (v := (2 : Int32)) dX5_readTwo_1 ic_2 ?_
  refine e_aload_n (pc := 2) dX5_readTwo_2 0 rfl rfl ?_
  refine g_I (pc := 3) kk13 fl_X5_18 dX5_readTwo_3 ?_
  refine e_imul (pc := 6) dX5_readTwo_6 ?_
  refine e_iconst (pc := 7) (v := (2 : Int32)) dX5_readTwo_7 ic_2 ?_
  refine e_callVRI (pc := 8) (As := [.int ((2 : Int32) * (gi w 13 2)), .int (2 : Int32)]) (rest := []) hc1.1 Kc9 (cf_X9_hasPlaces X c1 ((2 : Int32) * (gi w 13 2)) (2 : Int32) hc1 w) lk_X5_26 (Nat.le_of_ble_eq_true rfl) (Nat.le_of_ble_eq_true rfl) rfl rfl (Nat.le_of_ble_eq_true rfl) dX5_readTwo_8 (fun r1 => ?_)
  refine e_if_ne (pc := 11) (tgt := 16) dX5_readTwo_11 (by decide) (fun _ => ?_) (fun _ => ?_)
  · refine e_iconst (pc := 14) (v := (0 : Int32)) dX5_readTwo_14 ic_0 ?_
    exact e_zretW0 rfl (by decide) dX5_readTwo_15
  · refine e_aload_n (pc := 16) dX5_readTwo_16 1 rfl rfl ?_
    refine e_iconst (pc := 17) (v := (2 : Int32)) dX5_readTwo_17 ic_2 ?_
    refine e_aload_n (pc := 18) dX5_readTwo_18 0 rfl rfl ?_
    refine g_I (pc := 19) kk13 fl_X5_18 dX5_readTwo_19 ?_
    refine e_imul (pc := 22) dX5_readTwo_22 ?_
    refine e_callVRL (pc := 23) (As := [.int ((2 : Int32) * (gi w 13 2))]) (rest := []) hc1.1 Kc9 (cf_X9_read X c1 ((2 : Int32) * (gi w 13 2)) hc1 w) lk_X5_32 (Nat.le_of_ble_eq_true rfl) (Nat.le_of_ble_eq_true rfl) rfl rfl (Nat.le_of_ble_eq_true rfl) dX5_readTwo_23 (fun r2 => ?_)
    refine e_lstore (pc := 26) (lv' := [(4, .long r2), (0, .ref (xa X 13)), (1, .ref (xa X c1)), (2, .int a2), (3, .int a3)]) dX5_readTwo_26 (Nat.le_of_ble_eq_true rfl) rfl ?_
    refine e_aload_n (pc := 28) dX5_readTwo_28 2 rfl rfl ?_
    refine e_iconst (pc := 29) (v := (2 : Int32)) dX5_readTwo_29 ic_2 ?_
    refine e_aload_n (pc := 30) dX5_readTwo_30 1 rfl rfl ?_
    refine g_I (pc := 31) kk13 fl_X5_18 dX5_readTwo_31 ?_
    refine e_imul (pc := 34) dX5_readTwo_34 ?_
    refine e_iconst (pc := 35) (v := (1 : Int32)) dX5_readTwo_35 ic_1 ?_
    refine e_iadd (pc := 36) dX5_readTwo_36 ?_
    refine e_callVRL (pc := 37) (As := [.int (((2 : Int32) * (gi w 13 2)) + (1 : Int32))]) (rest := []) hc1.1 Kc9 (cf_X9_read X c1 (((2 : Int32) * (gi w 13 2)) + (1 : Int32)) hc1 w) lk_X5_32 (Nat.le_of_ble_eq_true rfl) (Nat.le_of_ble_eq_true rfl) rfl rfl (Nat.le_of_ble_eq_true rfl) dX5_readTwo_37 (fun r3 => ?_)
    refine e_lstore (pc := 40) (lv' := [(6, .long r3), (4, .long r2), (0, .ref (xa X 13)), (1, .ref (xa X c1)), (2, .int a2), (3, .int a3)]) dX5_readTwo_40 (Nat.le_of_ble_eq_true rfl) rfl ?_
    refine e_lload (pc := 42) dX5_readTwo_42 1 rfl ?_
    refine e_lconst (pc := 44) (v := (0 : Int64)) dX5_readTwo_44 lc_0 ?_
    refine e_lcmp_lt (pc := 45) (tgt := 69) dX5_readTwo_45 dX5_readTwo_46 (by decide) (fun _ => ?_) (fun _ => ?_)
    · refine e_iconst (pc := 69) (v := (0 : Int32)) dX5_readTwo_69 ic_0 ?_
      exact e_zretW0 rfl (by decide) dX5_readTwo_70
    · refine e_lload (pc := 49) dX5_readTwo_49 1 rfl ?_
      refine e_iload_n (pc := 51) dX5_readTwo_51 4 rfl rfl ?_
      refine e_i2l (pc := 52) dX5_readTwo_52 ?_
      refine e_lcmp_ge (pc := 53) (tgt := 69) dX5_readTwo_53 dX5_readTwo_54 (by decide) (fun _ => ?_) (fun _ => ?_)
      · refine e_iconst (pc := 69) (v := (0 : Int32)) dX5_readTwo_69 ic_0 ?_
        exact e_zretW0 rfl (by decide) dX5_readTwo_70
      · refine e_iload_n (pc := 57) dX5_readTwo_57 5 rfl rfl ?_
        refine e_if_ne (pc := 58) (tgt := 71) dX5_readTwo_58 (by decide) (fun _ => ?_) (fun _ => ?_)
        · refine e_lload (pc := 61) dX5_readTwo_61 0 rfl ?_
          refine e_callSRI (pc := 63) (As := [.long r3]) (rest := []) (cf_X5_isFound X r3 w) lk_X5_36 (Nat.le_of_ble_eq_true rfl) (Nat.le_of_ble_eq_true rfl) rfl rfl (Nat.le_of_ble_eq_true rfl) dX5_readTwo_63 (fun r6 => ?_)
          refine e_if_ne (pc := 66) (tgt := 71) dX5_readTwo_66 (by decide) (fun _ => ?_) (fun _ => ?_)
          · refine e_iconst (pc := 69) (v := (0 : Int32)) dX5_readTwo_69 ic_0 ?_
            exact e_zretW0 rfl (by decide) dX5_readTwo_70
          · refine e_lv [2, 1, 0] rfl ?_
            exact cb_X5_readTwo_b71 X r2 r3 w
        · refine e_lv [2, 1, 0] rfl ?_
          exact cb_X5_readTwo_b71 X r2 r3 w
theorem cf_X5_readTwo (X : Xt) (c1 : Nat) (a2 : Int32) (a3 : Int32) (hc1 : isShf c1) (w : Wd) : CF gWI X m_X5_readTwo 3 [.ref (xa X 13), .ref (xa X c1), .int a2, .int a3] w (f_X5_readTwo c1 a2 a3 w) := CF_of (by decide) (Nat.le_of_ble_eq_true rfl) (ce_X5_readTwo X c1 a2 a3 hc1 w)
set_option maxRecDepth 100000 in
set_option maxHeartbeats 4000000 in
theorem cb_X5_read_b5_y (X : Xt) (k5 : Nat → Int32 → Int32 → Wd → Option Wd) (hk5 : ∀ (c1 : Nat) (x2 : Int32) (x3 : Int32) (hc1 : isShf c1) (w : Wd), E gWV X m_X5_read 4 5 [(0, .ref (xa X 13)), (1, .ref (xa X c1)), (2, .int x2), (3, .int x3)] [] w (k5 c1 x2 x3 w)) (c1 : Nat) (x2 : Int32) (x3 : Int32) (hc1 : isShf c1) (w : Wd) : E gWV X m_X5_read 4 5 [(0, .ref (xa X 13)), (1, .ref (xa X c1)), (2, .int x2), (3, .int x3)] [] w (f_X5_read_b5_y k5 c1 x2 x3 w) := by
  unfold f_X5_read_b5_y
  refine e_aload_n (pc := 5) dX5_read_5 0 rfl rfl ?_
  refine g_I (pc := 6) kk13 fl_X5_18 dX5_read_6 ?_
  refine e_iconst (pc := 9) (v := (4 : Int32)) dX5_read_9 ic_4 ?_
  refine e_icmp_ge (pc := 10) (tgt := 36) dX5_read_10 (by decide) (fun _ => ?_) (fun _ => ?_)
  · exact e_vret rfl dX5_read_36
  · refine e_aload_n (pc := 13) dX5_read_13 0 rfl rfl ?_
    refine e_aload_n (pc := 14) dX5_read_14 1 rfl rfl ?_
    refine e_iload_n (pc := 15) dX5_read_15 2 rfl rfl ?_
    refine e_iload_n (pc := 16) dX5_read_16 3 rfl rfl ?_
    refine e_callVWI (pc := 17) (As := [.ref (xa X c1), .int x2, .int x3]) (rest := []) kk13 Kc5 (cf_X5_readTwo X c1 x2 x3 hc1 w) lk_X5_22 (Nat.le_of_ble_eq_true rfl) (Nat.le_of_ble_eq_true rfl) rfl rfl (Nat.le_of_ble_eq_true rfl) dX5_read_17 (fun r2 w3 => ?_)
    refine e_if_eq (pc := 20) (tgt := 36) dX5_read_20 (by decide) (fun _ => ?_) (fun _ => ?_)
    · exact e_vret rfl dX5_read_36
    · refine e_aload_n (pc := 23) dX5_read_23 0 rfl rfl ?_
      refine e_dup (pc := 24) dX5_read_24 rfl ?_
      refine g_I (pc := 25) kk13 fl_X5_18 dX5_read_25 ?_
      refine e_iconst (pc := 28) (v := (1 : Int32)) dX5_read_28 ic_1 ?_
      refine e_iadd (pc := 29) dX5_read_29 ?_
      refine p_I (pc := 30) kk13 fp_X5_18 dX5_read_30 (fun w4 => ?_)
      refine e_goto (pc := 33) (tgt := 5) dX5_read_33 (by decide) ?_
      refine e_lv [0, 1, 2, 3] rfl ?_
      exact hk5 c1 x2 x3 hc1 w4
theorem cb_X5_read_b5 (X : Xt) : ∀ (n : Nat) (c1 : Nat) (x2 : Int32) (x3 : Int32) (hc1 : isShf c1) (w : Wd), E gWV X m_X5_read 4 5 [(0, .ref (xa X 13)), (1, .ref (xa X c1)), (2, .int x2), (3, .int x3)] [] w (f_X5_read_b5 n c1 x2 x3 w) := by
  intro n
  induction n with
  | zero =>
    intro c1 x2 x3 hc1 w
    exact E_none
  | succ n ih =>
    intro c1 x2 x3 hc1 w
    exact cb_X5_read_b5_y X _ ih c1 x2 x3 hc1 w
set_option maxRecDepth 100000 in
set_option maxHeartbeats 4000000 in
theorem ce_X5_read (X : Xt) (c1 : Nat) (a2 : Int32) (a3 : Int32) (hc1 : isShf c1) (w : Wd) : E gWV X m_X5_read 4 0 [(0, .ref (xa X 13)), (1, .ref (xa X c1)), (2, .int a2), (3, .int a3)] [] w (f_X5_read c1 a2 a3 w) := by
  unfold f_X5_read
  refine e_aload_n (pc := 0) dX5_read_0 0 rfl rfl ?_
  refine e_iconst (pc := 1) (v := (0 : Int32)) dX5_read_1 ic_0 ?_
  refine p_I (pc := 2) kk13 fp_X5_18 dX5_read_2 (fun w1 => ?_)
  refine e_lv [0, 1, 2, 3] rfl ?_
  exact cb_X5_read_b5 X fu c1 a2 a3 hc1 w1
theorem cf_X5_read (X : Xt) (c1 : Nat) (a2 : Int32) (a3 : Int32) (hc1 : isShf c1) (w : Wd) : CF gWV X m_X5_read 4 [.ref (xa X 13), .ref (xa X c1), .int a2, .int a3] w (f_X5_read c1 a2 a3 w) := CF_of (by decide) (Nat.le_of_ble_eq_true rfl) (ce_X5_read X c1 a2 a3 hc1 w)
set_option maxRecDepth 100000 in
set_option maxHeartbeats 4000000 in
theorem ce_X5_by (X : Xt) (a1 : Int32) (w : Wd) : E (gRI w) X m_X5_by 1 0 [(0, .ref (xa X 13)), (1, .int a1)] [] w (f_X5_by a1 w) := by
  unfold f_X5_by
  refine e_iload_n (pc := 0) dX5_by_0 1 rfl rfl ?_
  refine e_if_lt (pc := 1) (tgt := 21) dX5_by_1 (by decide) (fun _ => ?_) (fun _ => ?_)
  · refine e_iconst (pc := 21) (v := (0 : Int32)) dX5_by_21 ic_0 ?_
    exact e_iretR rfl dX5_by_22
  · refine e_iload_n (pc := 4) dX5_by_4 1 rfl rfl ?_
    refine e_aload_n (pc := 5) dX5_by_5 0 rfl rfl ?_
    refine g_I (pc := 6) kk13 fl_X5_18 dX5_by_6 ?_
    refine e_icmp_ge (pc := 9) (tgt := 21) dX5_by_9 (by decide) (fun _ => ?_) (fun _ => ?_)
    · refine e_iconst (pc := 21) (v := (0 : Int32)) dX5_by_21 ic_0 ?_
      exact e_iretR rfl dX5_by_22
    · refine e_aload_n (pc := 12) dX5_by_12 0 rfl rfl ?_
      refine g_R (pc := 13) (cl' := 14) kk13 fl_X5_9 rfl dX5_by_13 ?_
      refine e_iload_n (pc := 16) dX5_by_16 1 rfl rfl ?_
      refine e_iald (pc := 17) kk14 dX5_by_17 (fun v1 => ?_)
      refine e_goto (pc := 18) (tgt := 22) dX5_by_18 (by decide) ?_
      exact e_iretR rfl dX5_by_22
theorem cf_X5_by (X : Xt) (a1 : Int32) (w : Wd) : CF (gRI w) X m_X5_by 1 [.ref (xa X 13), .int a1] w (f_X5_by a1 w) := CF_of (by decide) (Nat.le_of_ble_eq_true rfl) (ce_X5_by X a1 w)
set_option maxRecDepth 100000 in
set_option maxHeartbeats 4000000 in
theorem ce_X5_found (X : Xt) (a1 : Int32) (w : Wd) : E (gRI w) X m_X5_found 1 0 [(0, .ref (xa X 13)), (1, .int a1)] [] w (f_X5_found a1 w) := by
  unfold f_X5_found
  refine e_iload_n (pc := 0) dX5_found_0 1 rfl rfl ?_
  refine e_if_lt (pc := 1) (tgt := 21) dX5_found_1 (by decide) (fun _ => ?_) (fun _ => ?_)
  · refine e_iconst (pc := 21) (v := (0 : Int32)) dX5_found_21 ic_0 ?_
    exact e_iretR rfl dX5_found_22
  · refine e_iload_n (pc := 4) dX5_found_4 1 rfl rfl ?_
    refine e_aload_n (pc := 5) dX5_found_5 0 rfl rfl ?_
    refine g_I (pc := 6) kk13 fl_X5_18 dX5_found_6 ?_
    refine e_icmp_ge (pc := 9) (tgt := 21) dX5_found_9 (by decide) (fun _ => ?_) (fun _ => ?_)
    · refine e_iconst (pc := 21) (v := (0 : Int32)) dX5_found_21 ic_0 ?_
      exact e_iretR rfl dX5_found_22
    · refine e_aload_n (pc := 12) dX5_found_12 0 rfl rfl ?_
      refine g_R (pc := 13) (cl' := 15) kk13 fl_X5_15 rfl dX5_found_13 ?_
      refine e_iload_n (pc := 16) dX5_found_16 1 rfl rfl ?_
      refine e_iald (pc := 17) kk15 dX5_found_17 (fun v1 => ?_)
      refine e_goto (pc := 18) (tgt := 22) dX5_found_18 (by decide) ?_
      exact e_iretR rfl dX5_found_22
theorem cf_X5_found (X : Xt) (a1 : Int32) (w : Wd) : CF (gRI w) X m_X5_found 1 [.ref (xa X 13), .int a1] w (f_X5_found a1 w) := CF_of (by decide) (Nat.le_of_ble_eq_true rfl) (ce_X5_found X a1 w)
set_option maxRecDepth 100000 in
set_option maxHeartbeats 4000000 in
theorem ce_X6_mayBe (X : Xt) (a1 : Int32) (a2 : Int32) (w : Wd) : E (gRI w) X m_X6_mayBe 1 0 [(0, .ref (xa X 1)), (1, .int a1), (2, .int a2)] [] w (f_X6_mayBe a1 a2 w) := by
  unfold f_X6_mayBe
  refine e_iload_n (pc := 0) dX6_mayBe_0 1 rfl rfl ?_
  refine e_if_lt (pc := 1) (tgt := 32) dX6_mayBe_1 (by decide) (fun _ => ?_) (fun _ => ?_)
  · refine e_iconst (pc := 32) (v := (0 : Int32)) dX6_mayBe_32 ic_0 ?_
    exact e_zretR0 rfl (by decide) dX6_mayBe_33
  · refine e_iload_n (pc := 4) dX6_mayBe_4 1 rfl rfl ?_
    refine e_bipush (pc := 5) (v := (11 : Int32)) dX6_mayBe_5 bp_11 ?_
    refine e_icmp_gt (pc := 7) (tgt := 32) dX6_mayBe_7 (by decide) (fun _ => ?_) (fun _ => ?_)
    · refine e_iconst (pc := 32) (v := (0 : Int32)) dX6_mayBe_32 ic_0 ?_
      exact e_zretR0 rfl (by decide) dX6_mayBe_33
    · refine e_iload_n (pc := 10) dX6_mayBe_10 2 rfl rfl ?_
      refine e_gets (pc := 11) (q := 100) (fun U h => sZ0 U h) fl_X6_34 dX6_mayBe_11 ?_
      refine e_iload_n (pc := 14) dX6_mayBe_14 1 rfl rfl ?_
      refine e_tI (pc := 15) (q := 100) (fun U h => sT0 U h) dX6_mayBe_15 (fun v1 => ?_)
      refine e_icmp_lt (pc := 16) (tgt := 32) dX6_mayBe_16 (by decide) (fun _ => ?_) (fun _ => ?_)
      · refine e_iconst (pc := 32) (v := (0 : Int32)) dX6_mayBe_32 ic_0 ?_
        exact e_zretR0 rfl (by decide) dX6_mayBe_33
      · refine e_iload_n (pc := 19) dX6_mayBe_19 2 rfl rfl ?_
        refine e_gets (pc := 20) (q := 101) (fun U h => sZ1 U h) fl_X6_37 dX6_mayBe_20 ?_
        refine e_iload_n (pc := 23) dX6_mayBe_23 1 rfl rfl ?_
        refine e_tI (pc := 24) (q := 101) (fun U h => sT1 U h) dX6_mayBe_24 (fun v2 => ?_)
        refine e_icmp_gt (pc := 25) (tgt := 32) dX6_mayBe_25 (by decide) (fun _ => ?_) (fun _ => ?_)
        · refine e_iconst (pc := 32) (v := (0 : Int32)) dX6_mayBe_32 ic_0 ?_
          exact e_zretR0 rfl (by decide) dX6_mayBe_33
        · refine e_iconst (pc := 28) (v := (1 : Int32)) dX6_mayBe_28 ic_1 ?_
          refine e_goto (pc := 29) (tgt := 33) dX6_mayBe_29 (by decide) ?_
          exact e_zretR0 rfl (by decide) dX6_mayBe_33
theorem cf_X6_mayBe (X : Xt) (a1 : Int32) (a2 : Int32) (w : Wd) : CF (gRI w) X m_X6_mayBe 1 [.ref (xa X 1), .int a1, .int a2] w (f_X6_mayBe a1 a2 w) := CF_of (by decide) (Nat.le_of_ble_eq_true rfl) (ce_X6_mayBe X a1 a2 w)
set_option maxRecDepth 100000 in
set_option maxHeartbeats 4000000 in
theorem ce_X6_addLooker (X : Xt) (a1 : Int32) (a2 : Int32) (w : Wd) : E gWI X m_X6_addLooker 1 0 [(0, .ref (xa X 1)), (1, .int a1), (2, .int a2)] [] w (f_X6_addLooker a1 a2 w) := by
  unfold f_X6_addLooker
  refine e_aload_n (pc := 0) dX6_addLooker_0 0 rfl rfl ?_
  refine g_I (pc := 1) kk1 fl_X6_15 dX6_addLooker_1 ?_
  refine e_bipush (pc := 4) (v := (6 : Int32)) dX6_addLooker_4 bp_6 ?_
  refine e_icmp_ne (pc := 6) (tgt := 12) dX6_addLooker_6 (by decide) (fun _ => ?_) (fun _ => ?_)
  · refine e_bipush (pc := 9) (v := (-3 : Int32)) dX6_addLooker_9 bp_m3 ?_
    exact e_iretW rfl dX6_addLooker_11
  · refine e_aload_n (pc := 12) dX6_addLooker_12 0 rfl rfl ?_
    refine g_R (pc := 13) (cl' := 2) kk1 fl_X6_11 rfl dX6_addLooker_13 ?_
    refine e_bipush (pc := 16) (v := (20 : Int32)) dX6_addLooker_16 bp_20 ?_
    refine e_iconst (pc := 18) (v := (2 : Int32)) dX6_addLooker_18 ic_2 ?_
    refine e_aload_n (pc := 19) dX6_addLooker_19 0 rfl rfl ?_
    refine g_I (pc := 20) kk1 fl_X6_15 dX6_addLooker_20 ?_
    refine e_imul (pc := 23) dX6_addLooker_23 ?_
    refine e_iadd (pc := 24) dX6_addLooker_24 ?_
    refine e_iload_n (pc := 25) dX6_addLooker_25 1 rfl rfl ?_
    refine e_iast (pc := 26) kk2 dX6_addLooker_26 (fun w1 => ?_)
    refine e_aload_n (pc := 27) dX6_addLooker_27 0 rfl rfl ?_
    refine g_R (pc := 28) (cl' := 2) kk1 fl_X6_11 rfl dX6_addLooker_28 ?_
    refine e_bipush (pc := 31) (v := (20 : Int32)) dX6_addLooker_31 bp_20 ?_
    refine e_iconst (pc := 33) (v := (2 : Int32)) dX6_addLooker_33 ic_2 ?_
    refine e_aload_n (pc := 34) dX6_addLooker_34 0 rfl rfl ?_
    refine g_I (pc := 35) kk1 fl_X6_15 dX6_addLooker_35 ?_
    refine e_imul (pc := 38) dX6_addLooker_38 ?_
    refine e_iadd (pc := 39) dX6_addLooker_39 ?_
    refine e_iconst (pc := 40) (v := (1 : Int32)) dX6_addLooker_40 ic_1 ?_
    refine e_iadd (pc := 41) dX6_addLooker_41 ?_
    refine e_iload_n (pc := 42) dX6_addLooker_42 2 rfl rfl ?_
    refine e_iast (pc := 43) kk2 dX6_addLooker_43 (fun w2 => ?_)
    refine e_aload_n (pc := 44) dX6_addLooker_44 0 rfl rfl ?_
    refine e_dup (pc := 45) dX6_addLooker_45 rfl ?_
    refine g_I (pc := 46) kk1 fl_X6_15 dX6_addLooker_46 ?_
    refine e_iconst (pc := 49) (v := (1 : Int32)) dX6_addLooker_49 ic_1 ?_
    refine e_iadd (pc := 50) dX6_addLooker_50 ?_
    refine p_I (pc := 51) kk1 fp_X6_15 dX6_addLooker_51 (fun w3 => ?_)
    refine e_aload_n (pc := 54) dX6_addLooker_54 0 rfl rfl ?_
    refine g_I (pc := 55) kk1 fl_X6_15 dX6_addLooker_55 ?_
    refine e_iconst (pc := 58) (v := (1 : Int32)) dX6_addLooker_58 ic_1 ?_
    refine e_isub (pc := 59) dX6_addLooker_59 ?_
    exact e_iretW rfl dX6_addLooker_60
theorem cf_X6_addLooker (X : Xt) (a1 : Int32) (a2 : Int32) (w : Wd) : CF gWI X m_X6_addLooker 1 [.ref (xa X 1), .int a1, .int a2] w (f_X6_addLooker a1 a2 w) := CF_of (by decide) (Nat.le_of_ble_eq_true rfl) (ce_X6_addLooker X a1 a2 w)
set_option maxRecDepth 100000 in
set_option maxHeartbeats 4000000 in
theorem ce_X6_dropOldest (X : Xt) (w : Wd) : E gWV X m_X6_dropOldest 1 0 [(0, .ref (xa X 1))] [] w (f_X6_dropOldest w) := by
  unfold f_X6_dropOldest
  refine e_aload_n (pc := 0) dX6_dropOldest_0 0 rfl rfl ?_
  refine g_I (pc := 1) kk1 fl_X6_28 dX6_dropOldest_1 ?_
  refine e_bipush (pc := 4) (v := (40 : Int32)) dX6_dropOldest_4 bp_40 ?_
  refine e_icmp_ge (pc := 6) (tgt := 10) dX6_dropOldest_6 (by decide) (fun _ => ?_) (fun _ => ?_)
  · refine e_aload_n (pc := 10) dX6_dropOldest_10 0 rfl rfl ?_
    refine g_R (pc := 11) (cl' := 3) kk1 fl_X6_19 rfl dX6_dropOldest_11 ?_
    refine e_iconst (pc := 14) (v := (1 : Int32)) dX6_dropOldest_14 ic_1 ?_
    refine e_aload_n (pc := 15) dX6_dropOldest_15 0 rfl rfl ?_
    refine g_R (pc := 16) (cl' := 3) kk1 fl_X6_19 rfl dX6_dropOldest_16 ?_
    refine e_iconst (pc := 19) (v := (0 : Int32)) dX6_dropOldest_19 ic_0 ?_
    refine e_bipush (pc := 20) (v := (39 : Int32)) dX6_dropOldest_20 bp_39 ?_
    refine e_cyI (pc := 22) kk3 kk3 lcp_X6_54 (Nat.le_of_ble_eq_true rfl) (Nat.le_of_ble_eq_true rfl) dX6_dropOldest_22 (fun w1 => ?_)
    refine e_aload_n (pc := 25) dX6_dropOldest_25 0 rfl rfl ?_
    refine g_R (pc := 26) (cl' := 4) kk1 fl_X6_22 rfl dX6_dropOldest_26 ?_
    refine e_iconst (pc := 29) (v := (1 : Int32)) dX6_dropOldest_29 ic_1 ?_
    refine e_aload_n (pc := 30) dX6_dropOldest_30 0 rfl rfl ?_
    refine g_R (pc := 31) (cl' := 4) kk1 fl_X6_22 rfl dX6_dropOldest_31 ?_
    refine e_iconst (pc := 34) (v := (0 : Int32)) dX6_dropOldest_34 ic_0 ?_
    refine e_bipush (pc := 35) (v := (39 : Int32)) dX6_dropOldest_35 bp_39 ?_
    refine e_cyI (pc := 37) kk4 kk4 lcp_X6_54 (Nat.le_of_ble_eq_true rfl) (Nat.le_of_ble_eq_true rfl) dX6_dropOldest_37 (fun w2 => ?_)
    refine e_aload_n (pc := 40) dX6_dropOldest_40 0 rfl rfl ?_
    refine g_R (pc := 41) (cl' := 5) kk1 fl_X6_25 rfl dX6_dropOldest_41 ?_
    refine e_iconst (pc := 44) (v := (1 : Int32)) dX6_dropOldest_44 ic_1 ?_
    refine e_aload_n (pc := 45) dX6_dropOldest_45 0 rfl rfl ?_
    refine g_R (pc := 46) (cl' := 5) kk1 fl_X6_25 rfl dX6_dropOldest_46 ?_
    refine e_iconst (pc := 49) (v := (0 : Int32)) dX6_dropOldest_49 ic_0 ?_
    refine e_bipush (pc := 50) (v := (39 : Int32)) dX6_dropOldest_50 bp_39 ?_
    refine e_cyI (pc := 52) kk5 kk5 lcp_X6_54 (Nat.le_of_ble_eq_true rfl) (Nat.le_of_ble_eq_true rfl) dX6_dropOldest_52 (fun w3 => ?_)
    refine e_aload_n (pc := 55) dX6_dropOldest_55 0 rfl rfl ?_
    refine e_bipush (pc := 56) (v := (39 : Int32)) dX6_dropOldest_56 bp_39 ?_
    refine p_I (pc := 58) kk1 fp_X6_28 dX6_dropOldest_58 (fun w4 => ?_)
    exact e_vret rfl dX6_dropOldest_61
  · exact e_vret rfl dX6_dropOldest_9
theorem cf_X6_dropOldest (X : Xt) (w : Wd) : CF gWV X m_X6_dropOldest 1 [.ref (xa X 1)] w (f_X6_dropOldest w) := CF_of (by decide) (Nat.le_of_ble_eq_true rfl) (ce_X6_dropOldest X w)
set_option maxRecDepth 100000 in
set_option maxHeartbeats 4000000 in
theorem ce_X6_become (X : Xt) (a1 : Int32) (a2 : Int32) (w : Wd) : E gWI X m_X6_become 2 0 [(0, .ref (xa X 1)), (1, .int a1), (2, .int a2)] [] w (f_X6_become a1 a2 w) := by
  unfold f_X6_become
  refine e_iload_n (pc := 0) dX6_become_0 1 rfl rfl ?_
  refine e_if_lt (pc := 1) (tgt := 10) dX6_become_1 (by decide) (fun _ => ?_) (fun _ => ?_)
  · refine e_iconst (pc := 10) (v := (-1 : Int32)) dX6_become_10 ic_m1 ?_
    exact e_iretW rfl dX6_become_11
  · refine e_iload_n (pc := 4) dX6_become_4 1 rfl rfl ?_
    refine e_bipush (pc := 5) (v := (37 : Int32)) dX6_become_5 bp_37 ?_
    refine e_icmp_lt (pc := 7) (tgt := 12) dX6_become_7 (by decide) (fun _ => ?_) (fun _ => ?_)
    · refine e_aload_n (pc := 12) dX6_become_12 0 rfl rfl ?_
      refine g_R (pc := 13) (cl' := 2) kk1 fl_X6_11 rfl dX6_become_13 ?_
      refine e_iload_n (pc := 16) dX6_become_16 1 rfl rfl ?_
      refine e_iald (pc := 17) kk2 dX6_become_17 (fun v1 => ?_)
      refine e_istore_n (pc := 18) (lv' := [(3, .int v1), (0, .ref (xa X 1)), (1, .int a1), (2, .int a2)]) dX6_become_18 rfl (Nat.le_of_ble_eq_true rfl) rfl ?_
      refine e_iload_n (pc := 19) dX6_become_19 0 rfl rfl ?_
      refine e_iload_n (pc := 20) dX6_become_20 3 rfl rfl ?_
      refine e_icmp_eq (pc := 21) (tgt := 83) dX6_become_21 (by decide) (fun _ => ?_) (fun _ => ?_)
      · refine e_iload_n (pc := 83) dX6_become_83 0 rfl rfl ?_
        exact e_iretW rfl dX6_become_84
      · refine e_aload_n (pc := 24) dX6_become_24 1 rfl rfl ?_
        refine e_callVWV (pc := 25) (As := []) (rest := []) kk1 Kc6 (cf_X6_dropOldest X w) lk_X6_51 (Nat.le_of_ble_eq_true rfl) (Nat.le_of_ble_eq_true rfl) rfl rfl (Nat.le_of_ble_eq_true rfl) dX6_become_25 (fun w2 => ?_)
        refine e_aload_n (pc := 28) dX6_become_28 1 rfl rfl ?_
        refine g_R (pc := 29) (cl' := 3) kk1 fl_X6_19 rfl dX6_become_29 ?_
        refine e_aload_n (pc := 32) dX6_become_32 1 rfl rfl ?_
        refine g_I (pc := 33) kk1 fl_X6_28 dX6_become_33 ?_
        refine e_iload_n (pc := 36) dX6_become_36 2 rfl rfl ?_
        refine e_iast (pc := 37) kk3 dX6_become_37 (fun w3 => ?_)
        refine e_aload_n (pc := 38) dX6_become_38 1 rfl rfl ?_
        refine g_R (pc := 39) (cl' := 4) kk1 fl_X6_22 rfl dX6_become_39 ?_
        refine e_aload_n (pc := 42) dX6_become_42 1 rfl rfl ?_
        refine g_I (pc := 43) kk1 fl_X6_28 dX6_become_43 ?_
        refine e_iload_n (pc := 46) dX6_become_46 0 rfl rfl ?_
        refine e_iast (pc := 47) kk4 dX6_become_47 (fun w4 => ?_)
        refine e_aload_n (pc := 48) dX6_become_48 1 rfl rfl ?_
        refine g_R (pc := 49) (cl' := 5) kk1 fl_X6_25 rfl dX6_become_49 ?_
        refine e_aload_n (pc := 52) dX6_become_52 1 rfl rfl ?_
        refine g_I (pc := 53) kk1 fl_X6_28 dX6_become_53 ?_
        refine e_iload_n (pc := 56) dX6_become_56 3 rfl rfl ?_
        refine e_iast (pc := 57) kk5 dX6_become_57 (fun w5 => ?_)
        refine e_aload_n (pc := 58) dX6_become_58 1 rfl rfl ?_
        refine e_dup (pc := 59) dX6_become_59 rfl ?_
        refine g_I (pc := 60) kk1 fl_X6_28 dX6_become_60 ?_
        refine e_iconst (pc := 63) (v := (1 : Int32)) dX6_become_63 ic_1 ?_
        refine e_iadd (pc := 64) dX6_become_64 ?_
        refine p_I (pc := 65) kk1 fp_X6_28 dX6_become_65 (fun w6 => ?_)
        refine e_aload_n (pc := 68) dX6_become_68 1 rfl rfl ?_
        refine e_aload_n (pc := 69) dX6_become_69 1 rfl rfl ?_
        refine g_I (pc := 70) kk1 fl_X6_28 dX6_become_70 ?_
        refine p_I (pc := 73) kk1 fp_X6_31 dX6_become_73 (fun w7 => ?_)
        refine e_aload_n (pc := 76) dX6_become_76 1 rfl rfl ?_
        refine g_R (pc := 77) (cl' := 2) kk1 fl_X6_11 rfl dX6_become_77 ?_
        refine e_iload_n (pc := 80) dX6_become_80 2 rfl rfl ?_
        refine e_iload_n (pc := 81) dX6_become_81 3 rfl rfl ?_
        refine e_iast (pc := 82) kk2 dX6_become_82 (fun w8 => ?_)
        refine e_iload_n (pc := 83) dX6_become_83 0 rfl rfl ?_
        exact e_iretW rfl dX6_become_84
    · refine e_iconst (pc := 10) (v := (-1 : Int32)) dX6_become_10 ic_m1 ?_
      exact e_iretW rfl dX6_become_11
theorem cf_X6_become (X : Xt) (a1 : Int32) (a2 : Int32) (w : Wd) : CF gWI X m_X6_become 2 [.ref (xa X 1), .int a1, .int a2] w (f_X6_become a1 a2 w) := CF_of (by decide) (Nat.le_of_ble_eq_true rfl) (ce_X6_become X a1 a2 w)
set_option maxRecDepth 100000 in
set_option maxHeartbeats 4000000 in
theorem ce_X6_stepBack (X : Xt) (w : Wd) : E gWI X m_X6_stepBack 1 0 [(0, .ref (xa X 1))] [] w (f_X6_stepBack w) := by
  unfold f_X6_stepBack
  refine e_aload_n (pc := 0) dX6_stepBack_0 0 rfl rfl ?_
  refine g_I (pc := 1) kk1 fl_X6_28 dX6_stepBack_1 ?_
  refine e_if_le (pc := 4) (tgt := 40) dX6_stepBack_4 (by decide) (fun _ => ?_) (fun _ => ?_)
  · refine e_aload_n (pc := 40) dX6_stepBack_40 0 rfl rfl ?_
    refine g_I (pc := 41) kk1 fl_X6_28 dX6_stepBack_41 ?_
    exact e_iretW rfl dX6_stepBack_44
  · refine e_aload_n (pc := 7) dX6_stepBack_7 0 rfl rfl ?_
    refine e_dup (pc := 8) dX6_stepBack_8 rfl ?_
    refine g_I (pc := 9) kk1 fl_X6_28 dX6_stepBack_9 ?_
    refine e_iconst (pc := 12) (v := (1 : Int32)) dX6_stepBack_12 ic_1 ?_
    refine e_isub (pc := 13) dX6_stepBack_13 ?_
    refine p_I (pc := 14) kk1 fp_X6_28 dX6_stepBack_14 (fun w1 => ?_)
    refine e_aload_n (pc := 17) dX6_stepBack_17 0 rfl rfl ?_
    refine g_R (pc := 18) (cl' := 2) kk1 fl_X6_11 rfl dX6_stepBack_18 ?_
    refine e_aload_n (pc := 21) dX6_stepBack_21 0 rfl rfl ?_
    refine g_R (pc := 22) (cl' := 3) kk1 fl_X6_19 rfl dX6_stepBack_22 ?_
    refine e_aload_n (pc := 25) dX6_stepBack_25 0 rfl rfl ?_
    refine g_I (pc := 26) kk1 fl_X6_28 dX6_stepBack_26 ?_
    refine e_iald (pc := 29) kk3 dX6_stepBack_29 (fun v2 => ?_)
    refine e_aload_n (pc := 30) dX6_stepBack_30 0 rfl rfl ?_
    refine g_R (pc := 31) (cl' := 4) kk1 fl_X6_22 rfl dX6_stepBack_31 ?_
    refine e_aload_n (pc := 34) dX6_stepBack_34 0 rfl rfl ?_
    refine g_I (pc := 35) kk1 fl_X6_28 dX6_stepBack_35 ?_
    refine e_iald (pc := 38) kk4 dX6_stepBack_38 (fun v3 => ?_)
    refine e_iast (pc := 39) kk2 dX6_stepBack_39 (fun w4 => ?_)
    refine e_aload_n (pc := 40) dX6_stepBack_40 0 rfl rfl ?_
    refine g_I (pc := 41) kk1 fl_X6_28 dX6_stepBack_41 ?_
    exact e_iretW rfl dX6_stepBack_44
theorem cf_X6_stepBack (X : Xt) (w : Wd) : CF gWI X m_X6_stepBack 1 [.ref (xa X 1)] w (f_X6_stepBack w) := CF_of (by decide) (Nat.le_of_ble_eq_true rfl) (ce_X6_stepBack X w)
set_option maxRecDepth 100000 in
set_option maxHeartbeats 4000000 in
theorem cb_X6_stepOn_b44 (X : Xt) (w : Wd) : E gWI X m_X6_stepOn 1 44 [(0, .ref (xa X 1))] [] w (f_X6_stepOn_b44 w) := by
  unfold f_X6_stepOn_b44
  refine e_aload_n (pc := 44) dX6_stepOn_44 0 rfl rfl ?_
  refine g_I (pc := 45) kk1 fl_X6_31 dX6_stepOn_45 ?_
  refine e_aload_n (pc := 48) dX6_stepOn_48 0 rfl rfl ?_
  refine g_I (pc := 49) kk1 fl_X6_28 dX6_stepOn_49 ?_
  refine e_isub (pc := 52) dX6_stepOn_52 ?_
  exact e_iretW rfl dX6_stepOn_53
set_option maxRecDepth 100000 in
set_option maxHeartbeats 4000000 in
theorem ce_X6_stepOn (X : Xt) (w : Wd) : E gWI X m_X6_stepOn 1 0 [(0, .ref (xa X 1))] [] w (f_X6_stepOn w) := by
  unfold f_X6_stepOn
  refine e_aload_n (pc := 0) dX6_stepOn_0 0 rfl rfl ?_
  refine g_I (pc := 1) kk1 fl_X6_28 dX6_stepOn_1 ?_
  refine e_aload_n (pc := 4) dX6_stepOn_4 0 rfl rfl ?_
  refine g_I (pc := 5) kk1 fl_X6_31 dX6_stepOn_5 ?_
  refine e_icmp_ge (pc := 8) (tgt := 44) dX6_stepOn_8 (by decide) (fun _ => ?_) (fun _ => ?_)
  · refine e_lv [0] rfl ?_
    exact cb_X6_stepOn_b44 X w
  · refine e_aload_n (pc := 11) dX6_stepOn_11 0 rfl rfl ?_
    refine g_R (pc := 12) (cl' := 2) kk1 fl_X6_11 rfl dX6_stepOn_12 ?_
    refine e_aload_n (pc := 15) dX6_stepOn_15 0 rfl rfl ?_
    refine g_R (pc := 16) (cl' := 3) kk1 fl_X6_19 rfl dX6_stepOn_16 ?_
    refine e_aload_n (pc := 19) dX6_stepOn_19 0 rfl rfl ?_
    refine g_I (pc := 20) kk1 fl_X6_28 dX6_stepOn_20 ?_
    refine e_iald (pc := 23) kk3 dX6_stepOn_23 (fun v1 => ?_)
    refine e_aload_n (pc := 24) dX6_stepOn_24 0 rfl rfl ?_
    refine g_R (pc := 25) (cl' := 5) kk1 fl_X6_25 rfl dX6_stepOn_25 ?_
    refine e_aload_n (pc := 28) dX6_stepOn_28 0 rfl rfl ?_
    refine g_I (pc := 29) kk1 fl_X6_28 dX6_stepOn_29 ?_
    refine e_iald (pc := 32) kk5 dX6_stepOn_32 (fun v2 => ?_)
    refine e_iast (pc := 33) kk2 dX6_stepOn_33 (fun w3 => ?_)
    refine e_aload_n (pc := 34) dX6_stepOn_34 0 rfl rfl ?_
    refine e_dup (pc := 35) dX6_stepOn_35 rfl ?_
    refine g_I (pc := 36) kk1 fl_X6_28 dX6_stepOn_36 ?_
    refine e_iconst (pc := 39) (v := (1 : Int32)) dX6_stepOn_39 ic_1 ?_
    refine e_iadd (pc := 40) dX6_stepOn_40 ?_
    refine p_I (pc := 41) kk1 fp_X6_28 dX6_stepOn_41 (fun w4 => ?_)
    refine e_lv [0] rfl ?_
    exact cb_X6_stepOn_b44 X w4
theorem cf_X6_stepOn (X : Xt) (w : Wd) : CF gWI X m_X6_stepOn 1 [.ref (xa X 1)] w (f_X6_stepOn w) := CF_of (by decide) (Nat.le_of_ble_eq_true rfl) (ce_X6_stepOn X w)
set_option maxRecDepth 100000 in
set_option maxHeartbeats 4000000 in
theorem ce_X7_add (X : Xt) (a1 : Int32) (a2 : Int32) (a3 : Int32) (w : Wd) : E gWV X m_X7_add 1 0 [(0, .ref (xa X 31)), (1, .int a1), (2, .int a2), (3, .int a3)] [] w (f_X7_add a1 a2 a3 w) := by
  unfold f_X7_add
  refine e_iload_n (pc := 0) dX7_add_0 1 rfl rfl ?_
  refine e_if_lt (pc := 1) (tgt := 9) dX7_add_1 (by decide) (fun _ => ?_) (fun _ => ?_)
  · exact e_vret rfl dX7_add_9
  · refine e_iload_n (pc := 4) dX7_add_4 1 rfl rfl ?_
    refine e_iconst (pc := 5) (v := (3 : Int32)) dX7_add_5 ic_3 ?_
    refine e_icmp_lt (pc := 6) (tgt := 10) dX7_add_6 (by decide) (fun _ => ?_) (fun _ => ?_)
    · refine e_aload_n (pc := 10) dX7_add_10 0 rfl rfl ?_
      refine g_R (pc := 11) (cl' := 33) kk31 fl_X7_15 rfl dX7_add_11 ?_
      refine e_iload_n (pc := 14) dX7_add_14 1 rfl rfl ?_
      refine e_iload_n (pc := 15) dX7_add_15 2 rfl rfl ?_
      refine e_bipush (pc := 16) (v := (40 : Int32)) dX7_add_16 bp_40 ?_
      refine e_mmin (pc := 18) ml_X7_31 ms_min mi_Math mc_min (Nat.le_of_ble_eq_true rfl) (Nat.le_of_ble_eq_true rfl) dX7_add_18 ?_
      refine e_iast (pc := 21) kk33 dX7_add_21 (fun w1 => ?_)
      refine e_aload_n (pc := 22) dX7_add_22 0 rfl rfl ?_
      refine g_R (pc := 23) (cl' := 34) kk31 fl_X7_18 rfl dX7_add_23 ?_
      refine e_iload_n (pc := 26) dX7_add_26 1 rfl rfl ?_
      refine e_iload_n (pc := 27) dX7_add_27 3 rfl rfl ?_
      refine e_iast (pc := 28) kk34 dX7_add_28 (fun w2 => ?_)
      exact e_vret rfl dX7_add_29
    · exact e_vret rfl dX7_add_9
theorem cf_X7_add (X : Xt) (a1 : Int32) (a2 : Int32) (a3 : Int32) (w : Wd) : CF gWV X m_X7_add 1 [.ref (xa X 31), .int a1, .int a2, .int a3] w (f_X7_add a1 a2 a3 w) := CF_of (by decide) (Nat.le_of_ble_eq_true rfl) (ce_X7_add X a1 a2 a3 w)
set_option maxRecDepth 100000 in
set_option maxHeartbeats 4000000 in
theorem ce_X7_tell (X : Xt) (a1 : Int32) (a2 : Int32) (a3 : Int32) (w : Wd) : E gWV X m_X7_tell 1 0 [(0, .ref (xa X 31)), (1, .int a1), (2, .int a2), (3, .int a3)] [] w (f_X7_tell a1 a2 a3 w) := by
  unfold f_X7_tell
  refine e_iload_n (pc := 0) dX7_tell_0 1 rfl rfl ?_
  refine e_if_lt (pc := 1) (tgt := 19) dX7_tell_1 (by decide) (fun _ => ?_) (fun _ => ?_)
  · exact e_vret rfl dX7_tell_19
  · refine e_iload_n (pc := 4) dX7_tell_4 1 rfl rfl ?_
    refine e_iconst (pc := 5) (v := (3 : Int32)) dX7_tell_5 ic_3 ?_
    refine e_icmp_ge (pc := 6) (tgt := 19) dX7_tell_6 (by decide) (fun _ => ?_) (fun _ => ?_)
    · exact e_vret rfl dX7_tell_19
    · refine e_iload_n (pc := 9) dX7_tell_9 2 rfl rfl ?_
      refine e_if_lt (pc := 10) (tgt := 19) dX7_tell_10 (by decide) (fun _ => ?_) (fun _ => ?_)
      · exact e_vret rfl dX7_tell_19
      · refine e_iload_n (pc := 13) dX7_tell_13 2 rfl rfl ?_
        refine e_bipush (pc := 14) (v := (40 : Int32)) dX7_tell_14 bp_40 ?_
        refine e_icmp_le (pc := 16) (tgt := 20) dX7_tell_16 (by decide) (fun _ => ?_) (fun _ => ?_)
        · refine e_aload_n (pc := 20) dX7_tell_20 0 rfl rfl ?_
          refine g_R (pc := 21) (cl' := 32) kk31 fl_X7_11 rfl dX7_tell_21 ?_
          refine e_iload_n (pc := 24) dX7_tell_24 1 rfl rfl ?_
          refine e_bipush (pc := 25) (v := (41 : Int32)) dX7_tell_25 bp_41 ?_
          refine e_imul (pc := 27) dX7_tell_27 ?_
          refine e_iload_n (pc := 28) dX7_tell_28 2 rfl rfl ?_
          refine e_iadd (pc := 29) dX7_tell_29 ?_
          refine e_iload_n (pc := 30) dX7_tell_30 3 rfl rfl ?_
          refine e_iast (pc := 31) kk32 dX7_tell_31 (fun w1 => ?_)
          exact e_vret rfl dX7_tell_32
        · exact e_vret rfl dX7_tell_19
theorem cf_X7_tell (X : Xt) (a1 : Int32) (a2 : Int32) (a3 : Int32) (w : Wd) : CF gWV X m_X7_tell 1 [.ref (xa X 31), .int a1, .int a2, .int a3] w (f_X7_tell a1 a2 a3 w) := CF_of (by decide) (Nat.le_of_ble_eq_true rfl) (ce_X7_tell X a1 a2 a3 w)
set_option maxRecDepth 100000 in
set_option maxHeartbeats 4000000 in
theorem cb_X7_weigh_b92 (X : Xt) (x1 : Int32) (x2 : Int32) (x3 : Int32) (x5 : Int32) (x6 : Int32) (w : Wd) : E gWV X m_X7_weigh 1 92 [(0, .ref (xa X 31)), (1, .int x1), (2, .int x2), (3, .int x3), (5, .int x5), (6, .int x6)] [] w (f_X7_weigh_b92 x1 x2 x3 x5 x6 w) := by
  unfold f_X7_weigh_b92
  refine e_aload_n (pc := 92) dX7_weigh_92 0 rfl rfl ?_
  refine e_iload (pc := 93) dX7_weigh_93 5 rfl ?_
  refine p_I (pc := 95) kk31 fp_X7_24 dX7_weigh_95 (fun w9 => ?_)
  refine e_aload_n (pc := 98) dX7_weigh_98 0 rfl rfl ?_
  refine e_iload (pc := 99) dX7_weigh_99 4 rfl ?_
  refine p_I (pc := 101) kk31 fp_X7_28 dX7_weigh_101 (fun w10 => ?_)
  refine e_aload_n (pc := 104) dX7_weigh_104 0 rfl rfl ?_
  refine g_R (pc := 105) (cl' := 35) kk31 fl_X7_21 rfl dX7_weigh_105 ?_
  refine e_iconst (pc := 108) (v := (0 : Int32)) dX7_weigh_108 ic_0 ?_
  refine e_iload_n (pc := 109) dX7_weigh_109 1 rfl rfl ?_
  refine e_iast (pc := 110) kk35 dX7_weigh_110 (fun w11 => ?_)
  refine e_aload_n (pc := 111) dX7_weigh_111 0 rfl rfl ?_
  refine g_R (pc := 112) (cl' := 35) kk31 fl_X7_21 rfl dX7_weigh_112 ?_
  refine e_iconst (pc := 115) (v := (1 : Int32)) dX7_weigh_115 ic_1 ?_
  refine e_iload_n (pc := 116) dX7_weigh_116 2 rfl rfl ?_
  refine e_iast (pc := 117) kk35 dX7_weigh_117 (fun w12 => ?_)
  refine e_aload_n (pc := 118) dX7_weigh_118 0 rfl rfl ?_
  refine g_R (pc := 119) (cl' := 35) kk31 fl_X7_21 rfl dX7_weigh_119 ?_
  refine e_iconst (pc := 122) (v := (2 : Int32)) dX7_weigh_122 ic_2 ?_
  refine e_iload_n (pc := 123) dX7_weigh_123 3 rfl rfl ?_
  refine e_iast (pc := 124) kk35 dX7_weigh_124 (fun w13 => ?_)
  exact e_vret rfl dX7_weigh_125
set_option maxRecDepth 100000 in
set_option maxHeartbeats 4000000 in
theorem ce_X7_weigh (X : Xt) (a1 : Int32) (a2 : Int32) (a3 : Int32) (a4 : Int32) (w : Wd) : E gWV X m_X7_weigh 1 0 [(0, .ref (xa X 31)), (1, .int a1), (2, .int a2), (3, .int a3), (4, .int a4)] [] w (f_X7_weigh a1 a2 a3 a4 w) := by
  unfold f_X7_weigh
  refine e_iload_n (pc := 0) dX7_weigh_0 1 rfl rfl ?_
  refine e_aload_n (pc := 1) dX7_weigh_1 0 rfl rfl ?_
  refine g_R (pc := 2) (cl' := 34) kk31 fl_X7_18 rfl dX7_weigh_2 ?_
  refine e_iconst (pc := 5) (v := (0 : Int32)) dX7_weigh_5 ic_0 ?_
  refine e_iald (pc := 6) kk34 dX7_weigh_6 (fun v1 => ?_)
  refine e_imul (pc := 7) dX7_weigh_7 ?_
  refine e_iload_n (pc := 8) dX7_weigh_8 2 rfl rfl ?_
  refine e_aload_n (pc := 9) dX7_weigh_9 0 rfl rfl ?_
  refine g_R (pc := 10) (cl' := 34) kk31 fl_X7_18 rfl dX7_weigh_10 ?_
  refine e_iconst (pc := 13) (v := (1 : Int32)) dX7_weigh_13 ic_1 ?_
  refine e_iald (pc := 14) kk34 dX7_weigh_14 (fun v2 => ?_)
  refine e_imul (pc := 15) dX7_weigh_15 ?_
  refine e_iadd (pc := 16) dX7_weigh_16 ?_
  refine e_iload_n (pc := 17) dX7_weigh_17 3 rfl rfl ?_
  refine e_aload_n (pc := 18) dX7_weigh_18 0 rfl rfl ?_
  refine g_R (pc := 19) (cl' := 34) kk31 fl_X7_18 rfl dX7_weigh_19 ?_
  refine e_iconst (pc := 22) (v := (2 : Int32)) dX7_weigh_22 ic_2 ?_
  refine e_iald (pc := 23) kk34 dX7_weigh_23 (fun v3 => ?_)
  refine e_imul (pc := 24) dX7_weigh_24 ?_
  refine e_iadd (pc := 25) dX7_weigh_25 ?_
  refine e_nameI (fun y4 => ?_)
  refine e_istore (pc := 26) (lv' := [(5, .int y4), (0, .ref (xa X 31)), (1, .int a1), (2, .int a2), (3, .int a3), (4, .int a4)]) dX7_weigh_26 (Nat.le_of_ble_eq_true rfl) rfl ?_
  refine e_iload (pc := 28) dX7_weigh_28 0 rfl ?_
  refine e_iload (pc := 30) dX7_weigh_30 5 rfl ?_
  refine e_icmp_le (pc := 32) (tgt := 36) dX7_weigh_32 (by decide) (fun _ => ?_) (fun _ => ?_)
  · refine e_aload_n (pc := 36) dX7_weigh_36 1 rfl rfl ?_
    refine g_R (pc := 37) (cl' := 32) kk31 fl_X7_11 rfl dX7_weigh_37 ?_
    refine e_iload_n (pc := 40) dX7_weigh_40 2 rfl rfl ?_
    refine e_iald (pc := 41) kk32 dX7_weigh_41 (fun v5 => ?_)
    refine e_aload_n (pc := 42) dX7_weigh_42 1 rfl rfl ?_
    refine g_R (pc := 43) (cl' := 32) kk31 fl_X7_11 rfl dX7_weigh_43 ?_
    refine e_bipush (pc := 46) (v := (41 : Int32)) dX7_weigh_46 bp_41 ?_
    refine e_iload_n (pc := 48) dX7_weigh_48 3 rfl rfl ?_
    refine e_iadd (pc := 49) dX7_weigh_49 ?_
    refine e_iald (pc := 50) kk32 dX7_weigh_50 (fun v6 => ?_)
    refine e_iadd (pc := 51) dX7_weigh_51 ?_
    refine e_aload_n (pc := 52) dX7_weigh_52 1 rfl rfl ?_
    refine g_R (pc := 53) (cl' := 32) kk31 fl_X7_11 rfl dX7_weigh_53 ?_
    refine e_bipush (pc := 56) (v := (82 : Int32)) dX7_weigh_56 bp_82 ?_
    refine e_iload_n (pc := 58) dX7_weigh_58 4 rfl rfl ?_
    refine e_iadd (pc := 59) dX7_weigh_59 ?_
    refine e_iald (pc := 60) kk32 dX7_weigh_60 (fun v7 => ?_)
    refine e_iadd (pc := 61) dX7_weigh_61 ?_
    refine e_nameI (fun y8 => ?_)
    refine e_istore (pc := 62) (lv' := [(6, .int y8), (5, .int y4), (0, .ref (xa X 31)), (1, .int a1), (2, .int a2), (3, .int a3), (4, .int a4)]) dX7_weigh_62 (Nat.le_of_ble_eq_true rfl) rfl ?_
    refine e_iload (pc := 64) dX7_weigh_64 0 rfl ?_
    refine e_aload_n (pc := 66) dX7_weigh_66 2 rfl rfl ?_
    refine g_I (pc := 67) kk31 fl_X7_24 dX7_weigh_67 ?_
    refine e_icmp_lt (pc := 70) (tgt := 91) dX7_weigh_70 (by decide) (fun _ => ?_) (fun _ => ?_)
    · exact e_vret rfl dX7_weigh_91
    · refine e_iload (pc := 73) dX7_weigh_73 0 rfl ?_
      refine e_aload_n (pc := 75) dX7_weigh_75 2 rfl rfl ?_
      refine g_I (pc := 76) kk31 fl_X7_24 dX7_weigh_76 ?_
      refine e_icmp_ne (pc := 79) (tgt := 92) dX7_weigh_79 (by decide) (fun _ => ?_) (fun _ => ?_)
      · refine e_iload (pc := 82) dX7_weigh_82 1 rfl ?_
        refine e_aload_n (pc := 84) dX7_weigh_84 2 rfl rfl ?_
        refine g_I (pc := 85) kk31 fl_X7_28 dX7_weigh_85 ?_
        refine e_icmp_lt (pc := 88) (tgt := 92) dX7_weigh_88 (by decide) (fun _ => ?_) (fun _ => ?_)
        · refine e_lv [2, 3, 4, 5, 1, 0] rfl ?_
          exact cb_X7_weigh_b92 X a1 a2 a3 y4 y8 w
        · exact e_vret rfl dX7_weigh_91
      · refine e_lv [2, 3, 4, 5, 1, 0] rfl ?_
        exact cb_X7_weigh_b92 X a1 a2 a3 y4 y8 w
  · exact e_vret rfl dX7_weigh_35
theorem cf_X7_weigh (X : Xt) (a1 : Int32) (a2 : Int32) (a3 : Int32) (a4 : Int32) (w : Wd) : CF gWV X m_X7_weigh 1 [.ref (xa X 31), .int a1, .int a2, .int a3, .int a4] w (f_X7_weigh a1 a2 a3 a4 w) := CF_of (by decide) (Nat.le_of_ble_eq_true rfl) (ce_X7_weigh X a1 a2 a3 a4 w)
set_option maxRecDepth 100000 in
set_option maxHeartbeats 4000000 in
theorem cb_X7_search_b49_y (X : Xt) (k12 : Int32 → Int32 → Int32 → Wd → Option Wd) (hk12 : ∀ (x1 : Int32) (x2 : Int32) (x3 : Int32)  (w : Wd), E gWV X m_X7_search 2 12 [(0, .ref (xa X 31)), (1, .int x1), (2, .int x2), (3, .int x3)] [] w (k12 x1 x2 x3 w)) (k29 : Int32 → Int32 → Int32 → Int32 → Wd → Option Wd) (hk29 : ∀ (x1 : Int32) (x2 : Int32) (x3 : Int32) (x4 : Int32)  (w : Wd), E gWV X m_X7_search 2 29 [(0, .ref (xa X 31)), (1, .int x1), (2, .int x2), (3, .int x3), (4, .int x4)] [] w (k29 x1 x2 x3 x4 w)) (k49 : Int32 → Int32 → Int32 → Int32 → Int32 → Wd → Option Wd) (hk49 : ∀ (x1 : Int32) (x2 : Int32) (x3 : Int32) (x4 : Int32) (x5 : Int32)  (w : Wd), E gWV X m_X7_search 2 49 [(0, .ref (xa X 31)), (1, .int x1), (2, .int x2), (3, .int x3), (4, .int x4), (5, .int x5)] [] w (k49 x1 x2 x3 x4 x5 w)) (x1 : Int32) (x2 : Int32) (x3 : Int32) (x4 : Int32) (x5 : Int32) (w : Wd) : E gWV X m_X7_search 2 49 [(0, .ref (xa X 31)), (1, .int x1), (2, .int x2), (3, .int x3), (4, .int x4), (5, .int x5)] [] w (f_X7_search_b49_y k12 k29 k49 x1 x2 x3 x4 x5 w) := by
  unfold f_X7_search_b49_y
  refine e_iload (pc := 49) dX7_search_49 5 rfl ?_
  refine e_iload_n (pc := 51) dX7_search_51 1 rfl rfl ?_
  refine e_iload_n (pc := 52) dX7_search_52 3 rfl rfl ?_
  refine e_isub (pc := 53) dX7_search_53 ?_
  refine e_iload (pc := 54) dX7_search_54 4 rfl ?_
  refine e_isub (pc := 56) dX7_search_56 ?_
  refine e_aload_n (pc := 57) dX7_search_57 0 rfl rfl ?_
  refine g_R (pc := 58) (cl' := 33) kk31 fl_X7_15 rfl dX7_search_58 ?_
  refine e_iconst (pc := 61) (v := (2 : Int32)) dX7_search_61 ic_2 ?_
  refine e_iald (pc := 62) kk33 dX7_search_62 (fun v5 => ?_)
  refine e_mmin (pc := 63) ml_X7_31 ms_min mi_Math mc_min (Nat.le_of_ble_eq_true rfl) (Nat.le_of_ble_eq_true rfl) dX7_search_63 ?_
  refine e_icmp_gt (pc := 66) (tgt := 85) dX7_search_66 (by decide) (fun _ => ?_) (fun _ => ?_)
  · refine e_iinc (pc := 85) (lv' := [(4, .int (x4 + (1 : Int32))), (0, .ref (xa X 31)), (1, .int x1), (2, .int x2), (3, .int x3), (5, .int x5)]) dX7_search_85 4 rfl (ii_1 _) (Nat.le_of_ble_eq_true rfl) rfl ?_
    refine e_goto (pc := 88) (tgt := 29) dX7_search_88 (by decide) ?_
    refine e_lv [1, 2, 3, 4, 0] rfl ?_
    exact hk29 x1 x2 x3 (x4 + (1 : Int32)) w
  · refine e_aload_n (pc := 69) dX7_search_69 0 rfl rfl ?_
    refine e_iload_n (pc := 70) dX7_search_70 3 rfl rfl ?_
    refine e_iload (pc := 71) dX7_search_71 4 rfl ?_
    refine e_iload (pc := 73) dX7_search_73 5 rfl ?_
    refine e_iload_n (pc := 75) dX7_search_75 2 rfl rfl ?_
    refine e_callVWV (pc := 76) (As := [.int x3, .int x4, .int x5, .int x2]) (rest := []) kk31 Kc7 (cf_X7_weigh X x3 x4 x5 x2 w) lk_X7_37 (Nat.le_of_ble_eq_true rfl) (Nat.le_of_ble_eq_true rfl) rfl rfl (Nat.le_of_ble_eq_true rfl) dX7_search_76 (fun w6 => ?_)
    refine e_iinc (pc := 79) (lv' := [(5, .int (x5 + (1 : Int32))), (0, .ref (xa X 31)), (1, .int x1), (2, .int x2), (3, .int x3), (4, .int x4)]) dX7_search_79 5 rfl (ii_1 _) (Nat.le_of_ble_eq_true rfl) rfl ?_
    refine e_goto (pc := 82) (tgt := 49) dX7_search_82 (by decide) ?_
    refine e_lv [1, 2, 3, 4, 5, 0] rfl ?_
    exact hk49 x1 x2 x3 x4 (x5 + (1 : Int32)) w6
theorem cb_X7_search_b49 (X : Xt) (k12 : Int32 → Int32 → Int32 → Wd → Option Wd) (hk12 : ∀ (x1 : Int32) (x2 : Int32) (x3 : Int32)  (w : Wd), E gWV X m_X7_search 2 12 [(0, .ref (xa X 31)), (1, .int x1), (2, .int x2), (3, .int x3)] [] w (k12 x1 x2 x3 w)) (k29 : Int32 → Int32 → Int32 → Int32 → Wd → Option Wd) (hk29 : ∀ (x1 : Int32) (x2 : Int32) (x3 : Int32) (x4 : Int32)  (w : Wd), E gWV X m_X7_search 2 29 [(0, .ref (xa X 31)), (1, .int x1), (2, .int x2), (3, .int x3), (4, .int x4)] [] w (k29 x1 x2 x3 x4 w)) : ∀ (n : Nat) (x1 : Int32) (x2 : Int32) (x3 : Int32) (x4 : Int32) (x5 : Int32) (w : Wd), E gWV X m_X7_search 2 49 [(0, .ref (xa X 31)), (1, .int x1), (2, .int x2), (3, .int x3), (4, .int x4), (5, .int x5)] [] w (f_X7_search_b49 k12 k29 n x1 x2 x3 x4 x5 w) := by
  intro n
  induction n with
  | zero =>
    intro x1 x2 x3 x4 x5 w
    exact E_none
  | succ n ih =>
    intro x1 x2 x3 x4 x5 w
    exact cb_X7_search_b49_y X k12 hk12 k29 hk29 _ ih x1 x2 x3 x4 x5 w
set_option maxRecDepth 100000 in
set_option maxHeartbeats 4000000 in
theorem cb_X7_search_b29_y (X : Xt) (k12 : Int32 → Int32 → Int32 → Wd → Option Wd) (hk12 : ∀ (x1 : Int32) (x2 : Int32) (x3 : Int32)  (w : Wd), E gWV X m_X7_search 2 12 [(0, .ref (xa X 31)), (1, .int x1), (2, .int x2), (3, .int x3)] [] w (k12 x1 x2 x3 w)) (k29 : Int32 → Int32 → Int32 → Int32 → Wd → Option Wd) (hk29 : ∀ (x1 : Int32) (x2 : Int32) (x3 : Int32) (x4 : Int32)  (w : Wd), E gWV X m_X7_search 2 29 [(0, .ref (xa X 31)), (1, .int x1), (2, .int x2), (3, .int x3), (4, .int x4)] [] w (k29 x1 x2 x3 x4 w)) (x1 : Int32) (x2 : Int32) (x3 : Int32) (x4 : Int32) (w : Wd) : E gWV X m_X7_search 2 29 [(0, .ref (xa X 31)), (1, .int x1), (2, .int x2), (3, .int x3), (4, .int x4)] [] w (f_X7_search_b29_y k12 k29 x1 x2 x3 x4 w) := by
  unfold f_X7_search_b29_y
  refine e_iload (pc := 29) dX7_search_29 4 rfl ?_
  refine e_iload_n (pc := 31) dX7_search_31 1 rfl rfl ?_
  refine e_iload_n (pc := 32) dX7_search_32 3 rfl rfl ?_
  refine e_isub (pc := 33) dX7_search_33 ?_
  refine e_aload_n (pc := 34) dX7_search_34 0 rfl rfl ?_
  refine g_R (pc := 35) (cl' := 33) kk31 fl_X7_15 rfl dX7_search_35 ?_
  refine e_iconst (pc := 38) (v := (1 : Int32)) dX7_search_38 ic_1 ?_
  refine e_iald (pc := 39) kk33 dX7_search_39 (fun v4 => ?_)
  refine e_mmin (pc := 40) ml_X7_31 ms_min mi_Math mc_min (Nat.le_of_ble_eq_true rfl) (Nat.le_of_ble_eq_true rfl) dX7_search_40 ?_
  refine e_icmp_gt (pc := 43) (tgt := 91) dX7_search_43 (by decide) (fun _ => ?_) (fun _ => ?_)
  · refine e_iinc (pc := 91) (lv' := [(3, .int (x3 + (1 : Int32))), (0, .ref (xa X 31)), (1, .int x1), (2, .int x2), (4, .int x4)]) dX7_search_91 3 rfl (ii_1 _) (Nat.le_of_ble_eq_true rfl) rfl ?_
    refine e_goto (pc := 94) (tgt := 12) dX7_search_94 (by decide) ?_
    refine e_lv [1, 2, 3, 0] rfl ?_
    exact hk12 x1 x2 (x3 + (1 : Int32)) w
  · refine e_iconst (pc := 46) (v := (0 : Int32)) dX7_search_46 ic_0 ?_
    refine e_istore (pc := 47) (lv' := [(5, .int (0 : Int32)), (0, .ref (xa X 31)), (1, .int x1), (2, .int x2), (3, .int x3), (4, .int x4)]) dX7_search_47 (Nat.le_of_ble_eq_true rfl) rfl ?_
    refine e_lv [1, 2, 3, 4, 5, 0] rfl ?_
    exact cb_X7_search_b49 X k12 hk12 k29 hk29 fu x1 x2 x3 x4 (0 : Int32) w
theorem cb_X7_search_b29 (X : Xt) (k12 : Int32 → Int32 → Int32 → Wd → Option Wd) (hk12 : ∀ (x1 : Int32) (x2 : Int32) (x3 : Int32)  (w : Wd), E gWV X m_X7_search 2 12 [(0, .ref (xa X 31)), (1, .int x1), (2, .int x2), (3, .int x3)] [] w (k12 x1 x2 x3 w)) : ∀ (n : Nat) (x1 : Int32) (x2 : Int32) (x3 : Int32) (x4 : Int32) (w : Wd), E gWV X m_X7_search 2 29 [(0, .ref (xa X 31)), (1, .int x1), (2, .int x2), (3, .int x3), (4, .int x4)] [] w (f_X7_search_b29 k12 n x1 x2 x3 x4 w) := by
  intro n
  induction n with
  | zero =>
    intro x1 x2 x3 x4 w
    exact E_none
  | succ n ih =>
    intro x1 x2 x3 x4 w
    exact cb_X7_search_b29_y X k12 hk12 _ ih x1 x2 x3 x4 w
set_option maxRecDepth 100000 in
set_option maxHeartbeats 4000000 in
theorem cb_X7_search_b12_y (X : Xt) (k12 : Int32 → Int32 → Int32 → Wd → Option Wd) (hk12 : ∀ (x1 : Int32) (x2 : Int32) (x3 : Int32)  (w : Wd), E gWV X m_X7_search 2 12 [(0, .ref (xa X 31)), (1, .int x1), (2, .int x2), (3, .int x3)] [] w (k12 x1 x2 x3 w)) (x1 : Int32) (x2 : Int32) (x3 : Int32) (w : Wd) : E gWV X m_X7_search 2 12 [(0, .ref (xa X 31)), (1, .int x1), (2, .int x2), (3, .int x3)] [] w (f_X7_search_b12_y k12 x1 x2 x3 w) := by
  unfold f_X7_search_b12_y
  refine e_iload_n (pc := 12) dX7_search_12 3 rfl rfl ?_
  refine e_iload_n (pc := 13) dX7_search_13 1 rfl rfl ?_
  refine e_aload_n (pc := 14) dX7_search_14 0 rfl rfl ?_
  refine g_R (pc := 15) (cl' := 33) kk31 fl_X7_15 rfl dX7_search_15 ?_
  refine e_iconst (pc := 18) (v := (0 : Int32)) dX7_search_18 ic_0 ?_
  refine e_iald (pc := 19) kk33 dX7_search_19 (fun v3 => ?_)
  refine e_mmin (pc := 20) ml_X7_31 ms_min mi_Math mc_min (Nat.le_of_ble_eq_true rfl) (Nat.le_of_ble_eq_true rfl) dX7_search_20 ?_
  refine e_icmp_gt (pc := 23) (tgt := 97) dX7_search_23 (by decide) (fun _ => ?_) (fun _ => ?_)
  · exact e_vret rfl dX7_search_97
  · refine e_iconst (pc := 26) (v := (0 : Int32)) dX7_search_26 ic_0 ?_
    refine e_istore (pc := 27) (lv' := [(4, .int (0 : Int32)), (0, .ref (xa X 31)), (1, .int x1), (2, .int x2), (3, .int x3)]) dX7_search_27 (Nat.le_of_ble_eq_true rfl) rfl ?_
    refine e_lv [1, 2, 3, 4, 0] rfl ?_
    exact cb_X7_search_b29 X k12 hk12 fu x1 x2 x3 (0 : Int32) w
theorem cb_X7_search_b12 (X : Xt) : ∀ (n : Nat) (x1 : Int32) (x2 : Int32) (x3 : Int32) (w : Wd), E gWV X m_X7_search 2 12 [(0, .ref (xa X 31)), (1, .int x1), (2, .int x2), (3, .int x3)] [] w (f_X7_search_b12 n x1 x2 x3 w) := by
  intro n
  induction n with
  | zero =>
    intro x1 x2 x3 w
    exact E_none
  | succ n ih =>
    intro x1 x2 x3 w
    exact cb_X7_search_b12_y X _ ih x1 x2 x3 w
set_option maxRecDepth 100000 in
set_option maxHeartbeats 4000000 in
theorem ce_X7_search (X : Xt) (a1 : Int32) (a2 : Int32) (w : Wd) : E gWV X m_X7_search 2 0 [(0, .ref (xa X 31)), (1, .int a1), (2, .int a2)] [] w (f_X7_search a1 a2 w) := by
  unfold f_X7_search
  refine e_aload_n (pc := 0) dX7_search_0 0 rfl rfl ?_
  refine e_iconst (pc := 1) (v := (-1 : Int32)) dX7_search_1 ic_m1 ?_
  refine p_I (pc := 2) kk31 fp_X7_24 dX7_search_2 (fun w1 => ?_)
  refine e_aload_n (pc := 5) dX7_search_5 0 rfl rfl ?_
  refine e_iconst (pc := 6) (v := (0 : Int32)) dX7_search_6 ic_0 ?_
  refine p_I (pc := 7) kk31 fp_X7_28 dX7_search_7 (fun w2 => ?_)
  refine e_iconst (pc := 10) (v := (0 : Int32)) dX7_search_10 ic_0 ?_
  refine e_istore_n (pc := 11) (lv' := [(3, .int (0 : Int32)), (0, .ref (xa X 31)), (1, .int a1), (2, .int a2)]) dX7_search_11 rfl (Nat.le_of_ble_eq_true rfl) rfl ?_
  refine e_lv [1, 2, 3, 0] rfl ?_
  exact cb_X7_search_b12 X fu a1 a2 (0 : Int32) w2
theorem cf_X7_search (X : Xt) (a1 : Int32) (a2 : Int32) (w : Wd) : CF gWV X m_X7_search 2 [.ref (xa X 31), .int a1, .int a2] w (f_X7_search a1 a2 w) := CF_of (by decide) (Nat.le_of_ble_eq_true rfl) (ce_X7_search X a1 a2 w)
set_option maxRecDepth 100000 in
set_option maxHeartbeats 4000000 in
theorem ce_X7_heapsOf (X : Xt) (a1 : Int32) (w : Wd) : E (gRI w) X m_X7_heapsOf 1 0 [(0, .ref (xa X 31)), (1, .int a1)] [] w (f_X7_heapsOf a1 w) := by
  unfold f_X7_heapsOf
  refine e_iload_n (pc := 0) dX7_heapsOf_0 1 rfl rfl ?_
  refine e_if_lt (pc := 1) (tgt := 18) dX7_heapsOf_1 (by decide) (fun _ => ?_) (fun _ => ?_)
  · refine e_iconst (pc := 18) (v := (-1 : Int32)) dX7_heapsOf_18 ic_m1 ?_
    exact e_iretR rfl dX7_heapsOf_19
  · refine e_iload_n (pc := 4) dX7_heapsOf_4 1 rfl rfl ?_
    refine e_iconst (pc := 5) (v := (3 : Int32)) dX7_heapsOf_5 ic_3 ?_
    refine e_icmp_ge (pc := 6) (tgt := 18) dX7_heapsOf_6 (by decide) (fun _ => ?_) (fun _ => ?_)
    · refine e_iconst (pc := 18) (v := (-1 : Int32)) dX7_heapsOf_18 ic_m1 ?_
      exact e_iretR rfl dX7_heapsOf_19
    · refine e_aload_n (pc := 9) dX7_heapsOf_9 0 rfl rfl ?_
      refine g_R (pc := 10) (cl' := 35) kk31 fl_X7_21 rfl dX7_heapsOf_10 ?_
      refine e_iload_n (pc := 13) dX7_heapsOf_13 1 rfl rfl ?_
      refine e_iald (pc := 14) kk35 dX7_heapsOf_14 (fun v1 => ?_)
      refine e_goto (pc := 15) (tgt := 19) dX7_heapsOf_15 (by decide) ?_
      exact e_iretR rfl dX7_heapsOf_19
theorem cf_X7_heapsOf (X : Xt) (a1 : Int32) (w : Wd) : CF (gRI w) X m_X7_heapsOf 1 [.ref (xa X 31), .int a1] w (f_X7_heapsOf a1 w) := CF_of (by decide) (Nat.le_of_ble_eq_true rfl) (ce_X7_heapsOf X a1 w)
set_option maxRecDepth 100000 in
set_option maxHeartbeats 4000000 in
theorem cb_X8_least_b92 (X : Xt) {dd : Nat} (hb : 3 ≤ dd) (r_X8_least : Int32 → Int32 → Wd → Option (Int64 × Wd)) (hr_X8_least : ∀ (a1 : Int32) (a2 : Int32) (w : Wd), CF gWL X m_X8_least dd [.ref (xa X 18), .int a1, .int a2] w (r_X8_least a1 a2 w)) (r_X8_leastBy : Int32 → Int32 → Int32 → Wd → Option (Int64 × Wd)) (hr_X8_leastBy : ∀ (a1 : Int32) (a2 : Int32) (a3 : Int32) (w : Wd), CF gWL X m_X8_leastBy dd [.ref (xa X 18), .int a1, .int a2, .int a3] w (r_X8_leastBy a1 a2 a3 w)) (k46 : Int32 → Int32 → Int64 → Int32 → Wd → Option (Int64 × Wd)) (hk46 : ∀ (x1 : Int32) (x2 : Int32) (x3 : Int64) (x5 : Int32)  (w : Wd), E gWL X m_X8_least (dd + 1) 46 [(0, .ref (xa X 18)), (1, .int x1), (2, .int x2), (3, .long x3), (5, .int x5)] [] w (k46 x1 x2 x3 x5 w)) (x1 : Int32) (x2 : Int32) (x3 : Int64) (x5 : Int32) (w : Wd) : E gWL X m_X8_least (dd + 1) 92 [(0, .ref (xa X 18)), (1, .int x1), (2, .int x2), (3, .long x3), (5, .int x5)] [] w (f_X8_least_b92 r_X8_least r_X8_leastBy k46 x1 x2 x3 x5 w) := by
  unfold f_X8_least_b92
  refine e_iinc (pc := 92) (lv' := [(5, .int (x5 + (1 : Int32))), (0, .ref (xa X 18)), (1, .int x1), (2, .int x2), (3, .long x3)]) dX8_least_92 4 rfl (ii_1 _) (Nat.le_of_ble_eq_true rfl) rfl ?_
  refine e_goto (pc := 95) (tgt := 46) dX8_least_95 (by decide) ?_
  refine e_lv [1, 2, 3, 4, 0] rfl ?_
  exact hk46 x1 x2 x3 (x5 + (1 : Int32)) w
set_option maxRecDepth 100000 in
set_option maxHeartbeats 4000000 in
theorem cb_X8_least_b46_y (X : Xt) {dd : Nat} (hb : 3 ≤ dd) (r_X8_least : Int32 → Int32 → Wd → Option (Int64 × Wd)) (hr_X8_least : ∀ (a1 : Int32) (a2 : Int32) (w : Wd), CF gWL X m_X8_least dd [.ref (xa X 18), .int a1, .int a2] w (r_X8_least a1 a2 w)) (r_X8_leastBy : Int32 → Int32 → Int32 → Wd → Option (Int64 × Wd)) (hr_X8_leastBy : ∀ (a1 : Int32) (a2 : Int32) (a3 : Int32) (w : Wd), CF gWL X m_X8_leastBy dd [.ref (xa X 18), .int a1, .int a2, .int a3] w (r_X8_leastBy a1 a2 a3 w)) (k46 : Int32 → Int32 → Int64 → Int32 → Wd → Option (Int64 × Wd)) (hk46 : ∀ (x1 : Int32) (x2 : Int32) (x3 : Int64) (x5 : Int32)  (w : Wd), E gWL X m_X8_least (dd + 1) 46 [(0, .ref (xa X 18)), (1, .int x1), (2, .int x2), (3, .long x3), (5, .int x5)] [] w (k46 x1 x2 x3 x5 w)) (x1 : Int32) (x2 : Int32) (x3 : Int64) (x5 : Int32) (w : Wd) : E gWL X m_X8_least (dd + 1) 46 [(0, .ref (xa X 18)), (1, .int x1), (2, .int x2), (3, .long x3), (5, .int x5)] [] w (f_X8_least_b46_y r_X8_least r_X8_leastBy k46 x1 x2 x3 x5 w) := by
  unfold f_X8_least_b46_y
  refine e_iload (pc := 46) dX8_least_46 4 rfl ?_
  refine e_aload_n (pc := 48) dX8_least_48 0 rfl rfl ?_
  refine g_I (pc := 49) kk18 fl_X8_25 dX8_least_49 ?_
  refine e_icmp_ge (pc := 52) (tgt := 98) dX8_least_52 (by decide) (fun _ => ?_) (fun _ => ?_)
  · refine e_lload_n (pc := 98) dX8_least_98 3 rfl rfl ?_
    exact e_lretW rfl dX8_least_99
  · refine e_iload (pc := 55) dX8_least_55 4 rfl ?_
    refine e_bipush (pc := 57) (v := (6 : Int32)) dX8_least_57 bp_6 ?_
    refine e_icmp_ge (pc := 59) (tgt := 98) dX8_least_59 (by decide) (fun _ => ?_) (fun _ => ?_)
    · refine e_lload_n (pc := 98) dX8_least_98 3 rfl rfl ?_
      exact e_lretW rfl dX8_least_99
    · refine e_aload_n (pc := 62) dX8_least_62 0 rfl rfl ?_
      refine e_iload (pc := 63) dX8_least_63 4 rfl ?_
      refine e_iload_n (pc := 65) dX8_least_65 1 rfl rfl ?_
      refine e_iload_n (pc := 66) dX8_least_66 2 rfl rfl ?_
      refine e_callVWL (pc := 67) (As := [.int x5, .int x1, .int x2]) (rest := []) kk18 Kc8 (hr_X8_leastBy x5 x1 x2 w) lk_X8_56 (Nat.le_refl _) (Nat.le_of_ble_eq_true rfl) rfl rfl (Nat.le_of_ble_eq_true rfl) dX8_least_67 (fun r4 w5 => ?_)
      refine e_lstore (pc := 70) (lv' := [(6, .long r4), (0, .ref (xa X 18)), (1, .int x1), (2, .int x2), (3, .long x3), (5, .int x5)]) dX8_least_70 (Nat.le_of_ble_eq_true rfl) rfl ?_
      refine e_lload (pc := 72) dX8_least_72 0 rfl ?_
      refine e_lload_n (pc := 74) dX8_least_74 4 rfl rfl ?_
      refine e_lcmp_ge (pc := 75) (tgt := 92) dX8_least_75 dX8_least_76 (by decide) (fun _ => ?_) (fun _ => ?_)
      · refine e_lv [1, 2, 3, 4, 5] rfl ?_
        exact cb_X8_least_b92 X hb r_X8_least hr_X8_least r_X8_leastBy hr_X8_leastBy k46 hk46 x1 x2 x3 x5 w5
      · refine e_lload (pc := 79) dX8_least_79 0 rfl ?_
        refine e_lstore_n (pc := 81) (lv' := [(3, .long r4), (6, .long r4), (0, .ref (xa X 18)), (1, .int x1), (2, .int x2), (5, .int x5)]) dX8_least_81 rfl (Nat.le_of_ble_eq_true rfl) rfl ?_
        refine e_iload_n (pc := 82) dX8_least_82 3 rfl rfl ?_
        refine e_if_ne (pc := 83) (tgt := 92) dX8_least_83 (by decide) (fun _ => ?_) (fun _ => ?_)
        · refine e_aload_n (pc := 86) dX8_least_86 2 rfl rfl ?_
          refine e_iload (pc := 87) dX8_least_87 5 rfl ?_
          refine p_I (pc := 89) kk18 fp_X8_32 dX8_least_89 (fun w6 => ?_)
          refine e_lv [2, 3, 4, 0, 5] rfl ?_
          exact cb_X8_least_b92 X hb r_X8_least hr_X8_least r_X8_leastBy hr_X8_leastBy k46 hk46 x1 x2 r4 x5 w6
        · refine e_lv [2, 3, 4, 0, 5] rfl ?_
          exact cb_X8_least_b92 X hb r_X8_least hr_X8_least r_X8_leastBy hr_X8_leastBy k46 hk46 x1 x2 r4 x5 w5
theorem cb_X8_least_b46 (X : Xt) {dd : Nat} (hb : 3 ≤ dd) (r_X8_least : Int32 → Int32 → Wd → Option (Int64 × Wd)) (hr_X8_least : ∀ (a1 : Int32) (a2 : Int32) (w : Wd), CF gWL X m_X8_least dd [.ref (xa X 18), .int a1, .int a2] w (r_X8_least a1 a2 w)) (r_X8_leastBy : Int32 → Int32 → Int32 → Wd → Option (Int64 × Wd)) (hr_X8_leastBy : ∀ (a1 : Int32) (a2 : Int32) (a3 : Int32) (w : Wd), CF gWL X m_X8_leastBy dd [.ref (xa X 18), .int a1, .int a2, .int a3] w (r_X8_leastBy a1 a2 a3 w)) : ∀ (n : Nat) (x1 : Int32) (x2 : Int32) (x3 : Int64) (x5 : Int32) (w : Wd), E gWL X m_X8_least (dd + 1) 46 [(0, .ref (xa X 18)), (1, .int x1), (2, .int x2), (3, .long x3), (5, .int x5)] [] w (f_X8_least_b46 r_X8_least r_X8_leastBy n x1 x2 x3 x5 w) := by
  intro n
  induction n with
  | zero =>
    intro x1 x2 x3 x5 w
    exact E_none
  | succ n ih =>
    intro x1 x2 x3 x5 w
    exact cb_X8_least_b46_y X hb r_X8_least hr_X8_least r_X8_leastBy hr_X8_leastBy _ ih x1 x2 x3 x5 w
set_option maxRecDepth 100000 in
set_option maxHeartbeats 4000000 in
theorem ce_X8_least (X : Xt) {dd : Nat} (hb : 3 ≤ dd) (r_X8_least : Int32 → Int32 → Wd → Option (Int64 × Wd)) (hr_X8_least : ∀ (a1 : Int32) (a2 : Int32) (w : Wd), CF gWL X m_X8_least dd [.ref (xa X 18), .int a1, .int a2] w (r_X8_least a1 a2 w)) (r_X8_leastBy : Int32 → Int32 → Int32 → Wd → Option (Int64 × Wd)) (hr_X8_leastBy : ∀ (a1 : Int32) (a2 : Int32) (a3 : Int32) (w : Wd), CF gWL X m_X8_leastBy dd [.ref (xa X 18), .int a1, .int a2, .int a3] w (r_X8_leastBy a1 a2 a3 w)) (a1 : Int32) (a2 : Int32) (w : Wd) : E gWL X m_X8_least (dd + 1) 0 [(0, .ref (xa X 18)), (1, .int a1), (2, .int a2)] [] w (f_X8_least_y r_X8_least r_X8_leastBy a1 a2 w) := by
  unfold f_X8_least_y
  refine e_iload_n (pc := 0) dX8_least_0 2 rfl rfl ?_
  refine e_if_lt (pc := 1) (tgt := 9) dX8_least_1 (by decide) (fun _ => ?_) (fun _ => ?_)
  · refine e_lconst (pc := 9) (v := (0 : Int64)) dX8_least_9 lc_0 ?_
    exact e_lretW rfl dX8_least_10
  · refine e_iload_n (pc := 4) dX8_least_4 2 rfl rfl ?_
    refine e_iconst (pc := 5) (v := (3 : Int32)) dX8_least_5 ic_3 ?_
    refine e_icmp_le (pc := 6) (tgt := 11) dX8_least_6 (by decide) (fun _ => ?_) (fun _ => ?_)
    · refine e_aload_n (pc := 11) dX8_least_11 0 rfl rfl ?_
      refine g_I (pc := 12) kk18 fl_X8_29 dX8_least_12 ?_
      refine e_i2l (pc := 15) dX8_least_15 ?_
      refine e_aload_n (pc := 16) dX8_least_16 0 rfl rfl ?_
      refine g_R (pc := 17) (cl' := 19) kk18 fl_X8_12 rfl dX8_least_17 ?_
      refine e_iload_n (pc := 20) dX8_least_20 1 rfl rfl ?_
      refine e_callVRL (pc := 21) (As := [.int a1]) (rest := [.long (Int32.toInt64 (gi w 18 4))]) kk19 Kc1 (cf_X1_stones X 19 a1 hk_isCh_19 w) lk_X8_48 (by omega) (Nat.le_of_ble_eq_true rfl) rfl rfl (Nat.le_of_ble_eq_true rfl) dX8_least_21 (fun r1 => ?_)
      refine e_lmul (pc := 24) dX8_least_24 ?_
      refine e_gets (pc := 25) (q := 103) (fun U h => sZ3 U h) fl_X8_52 dX8_least_25 ?_
      refine e_iload_n (pc := 28) dX8_least_28 2 rfl rfl ?_
      refine e_tL (pc := 29) (q := 103) (fun U h => sT3 U h) dX8_least_29 (fun v2 => ?_)
      refine e_lmul (pc := 30) dX8_least_30 ?_
      refine e_nameL (fun y3 => ?_)
      refine e_lstore_n (pc := 31) (lv' := [(3, .long y3), (0, .ref (xa X 18)), (1, .int a1), (2, .int a2)]) dX8_least_31 rfl (Nat.le_of_ble_eq_true rfl) rfl ?_
      refine e_iload_n (pc := 32) dX8_least_32 3 rfl rfl ?_
      refine e_if_eq (pc := 33) (tgt := 41) dX8_least_33 (by decide) (fun _ => ?_) (fun _ => ?_)
      · refine e_lload_n (pc := 41) dX8_least_41 0 rfl rfl ?_
        exact e_lretW rfl dX8_least_42
      · refine e_iload_n (pc := 36) dX8_least_36 2 rfl rfl ?_
        refine e_iconst (pc := 37) (v := (3 : Int32)) dX8_least_37 ic_3 ?_
        refine e_icmp_lt (pc := 38) (tgt := 43) dX8_least_38 (by decide) (fun _ => ?_) (fun _ => ?_)
        · refine e_iconst (pc := 43) (v := (0 : Int32)) dX8_least_43 ic_0 ?_
          refine e_istore (pc := 44) (lv' := [(5, .int (0 : Int32)), (3, .long y3), (0, .ref (xa X 18)), (1, .int a1), (2, .int a2)]) dX8_least_44 (Nat.le_of_ble_eq_true rfl) rfl ?_
          refine e_lv [2, 3, 4, 1, 0] rfl ?_
          exact cb_X8_least_b46 X hb r_X8_least hr_X8_least r_X8_leastBy hr_X8_leastBy fu a1 a2 y3 (0 : Int32) w
        · refine e_lload_n (pc := 41) dX8_least_41 0 rfl rfl ?_
          exact e_lretW rfl dX8_least_42
    · refine e_lconst (pc := 9) (v := (0 : Int64)) dX8_least_9 lc_0 ?_
      exact e_lretW rfl dX8_least_10
set_option maxRecDepth 100000 in
set_option maxHeartbeats 4000000 in
theorem cb_X8_leastBy_b125 (X : Xt) {dd : Nat} (hb : 3 ≤ dd) (r_X8_least : Int32 → Int32 → Wd → Option (Int64 × Wd)) (hr_X8_least : ∀ (a1 : Int32) (a2 : Int32) (w : Wd), CF gWL X m_X8_least dd [.ref (xa X 18), .int a1, .int a2] w (r_X8_least a1 a2 w)) (r_X8_leastBy : Int32 → Int32 → Int32 → Wd → Option (Int64 × Wd)) (hr_X8_leastBy : ∀ (a1 : Int32) (a2 : Int32) (a3 : Int32) (w : Wd), CF gWL X m_X8_leastBy dd [.ref (xa X 18), .int a1, .int a2, .int a3] w (r_X8_leastBy a1 a2 a3 w)) (k77 : Int32 → Int32 → Int32 → Int64 → Int32 → Wd → Option (Int64 × Wd)) (hk77 : ∀ (x2 : Int32) (x3 : Int32) (x4 : Int32) (x5 : Int64) (x7 : Int32)  (w : Wd), E gWL X m_X8_leastBy (dd + 1) 77 [(0, .ref (xa X 18)), (2, .int x2), (3, .int x3), (4, .int x4), (5, .long x5), (7, .int x7)] [] w (k77 x2 x3 x4 x5 x7 w)) (x2 : Int32) (x3 : Int32) (x4 : Int32) (x5 : Int64) (x7 : Int32) (w : Wd) : E gWL X m_X8_leastBy (dd + 1) 125 [(0, .ref (xa X 18)), (2, .int x2), (3, .int x3), (4, .int x4), (5, .long x5), (7, .int x7)] [] w (f_X8_leastBy_b125 r_X8_least r_X8_leastBy k77 x2 x3 x4 x5 x7 w) := by
  unfold f_X8_leastBy_b125
  refine e_iinc (pc := 125) (lv' := [(7, .int (x7 + (1 : Int32))), (0, .ref (xa X 18)), (2, .int x2), (3, .int x3), (4, .int x4), (5, .long x5)]) dX8_leastBy_125 5 rfl (ii_1 _) (Nat.le_of_ble_eq_true rfl) rfl ?_
  refine e_goto (pc := 128) (tgt := 77) dX8_leastBy_128 (by decide) ?_
  refine e_lv [1, 2, 3, 4, 5, 0] rfl ?_
  exact hk77 x2 x3 x4 x5 (x7 + (1 : Int32)) w
set_option maxRecDepth 100000 in
set_option maxHeartbeats 4000000 in
theorem cb_X8_leastBy_b77_y (X : Xt) {dd : Nat} (hb : 3 ≤ dd) (r_X8_least : Int32 → Int32 → Wd → Option (Int64 × Wd)) (hr_X8_least : ∀ (a1 : Int32) (a2 : Int32) (w : Wd), CF gWL X m_X8_least dd [.ref (xa X 18), .int a1, .int a2] w (r_X8_least a1 a2 w)) (r_X8_leastBy : Int32 → Int32 → Int32 → Wd → Option (Int64 × Wd)) (hr_X8_leastBy : ∀ (a1 : Int32) (a2 : Int32) (a3 : Int32) (w : Wd), CF gWL X m_X8_leastBy dd [.ref (xa X 18), .int a1, .int a2, .int a3] w (r_X8_leastBy a1 a2 a3 w)) (k77 : Int32 → Int32 → Int32 → Int64 → Int32 → Wd → Option (Int64 × Wd)) (hk77 : ∀ (x2 : Int32) (x3 : Int32) (x4 : Int32) (x5 : Int64) (x7 : Int32)  (w : Wd), E gWL X m_X8_leastBy (dd + 1) 77 [(0, .ref (xa X 18)), (2, .int x2), (3, .int x3), (4, .int x4), (5, .long x5), (7, .int x7)] [] w (k77 x2 x3 x4 x5 x7 w)) (x2 : Int32) (x3 : Int32) (x4 : Int32) (x5 : Int64) (x7 : Int32) (w : Wd) : E gWL X m_X8_leastBy (dd + 1) 77 [(0, .ref (xa X 18)), (2, .int x2), (3, .int x3), (4, .int x4), (5, .long x5), (7, .int x7)] [] w (f_X8_leastBy_b77_y r_X8_least r_X8_leastBy k77 x2 x3 x4 x5 x7 w) := by
  unfold f_X8_leastBy_b77_y
  refine e_iload (pc := 77) dX8_leastBy_77 5 rfl ?_
  refine e_iconst (pc := 79) (v := (3 : Int32)) dX8_leastBy_79 ic_3 ?_
  refine e_icmp_gt (pc := 80) (tgt := 131) dX8_leastBy_80 (by decide) (fun _ => ?_) (fun _ => ?_)
  · refine e_lload (pc := 131) dX8_leastBy_131 4 rfl ?_
    exact e_lretW rfl dX8_leastBy_133
  · refine e_aload_n (pc := 83) dX8_leastBy_83 0 rfl rfl ?_
    refine g_R (pc := 84) (cl' := 19) kk18 fl_X8_12 rfl dX8_leastBy_84 ?_
    refine e_iload_n (pc := 87) dX8_leastBy_87 1 rfl rfl ?_
    refine e_iload (pc := 88) dX8_leastBy_88 3 rfl ?_
    refine e_iload (pc := 90) dX8_leastBy_90 5 rfl ?_
    refine e_callVWV (pc := 92) (As := [.int x2, .int x4, .int x7]) (rest := []) kk19 Kc1 (cf_X1_step X 19 x2 x4 x7 hk_isCh_19 w) lk_X8_65 (by omega) (Nat.le_of_ble_eq_true rfl) rfl rfl (Nat.le_of_ble_eq_true rfl) dX8_leastBy_92 (fun w6 => ?_)
    refine e_aload_n (pc := 95) dX8_leastBy_95 0 rfl rfl ?_
    refine g_R (pc := 96) (cl' := 19) kk18 fl_X8_12 rfl dX8_leastBy_96 ?_
    refine e_iload_n (pc := 99) dX8_leastBy_99 1 rfl rfl ?_
    refine e_iconst (pc := 100) (v := (1 : Int32)) dX8_leastBy_100 ic_1 ?_
    refine e_iadd (pc := 101) dX8_leastBy_101 ?_
    refine e_callVRL (pc := 102) (As := [.int (x2 + (1 : Int32))]) (rest := []) kk19 Kc1 (cf_X1_stones X 19 (x2 + (1 : Int32)) hk_isCh_19 w6) lk_X8_48 (by omega) (Nat.le_of_ble_eq_true rfl) rfl rfl (Nat.le_of_ble_eq_true rfl) dX8_leastBy_102 (fun r7 => ?_)
    refine e_lconst (pc := 105) (v := (0 : Int64)) dX8_leastBy_105 lc_0 ?_
    refine e_lcmp_le (pc := 106) (tgt := 125) dX8_leastBy_106 dX8_leastBy_107 (by decide) (fun _ => ?_) (fun _ => ?_)
    · refine e_lv [0, 1, 2, 3, 4, 5] rfl ?_
      exact cb_X8_leastBy_b125 X hb r_X8_least hr_X8_least r_X8_leastBy hr_X8_leastBy k77 hk77 x2 x3 x4 x5 x7 w6
    · refine e_lload (pc := 110) dX8_leastBy_110 4 rfl ?_
      refine e_aload_n (pc := 112) dX8_leastBy_112 0 rfl rfl ?_
      refine e_iload_n (pc := 113) dX8_leastBy_113 1 rfl rfl ?_
      refine e_iconst (pc := 114) (v := (1 : Int32)) dX8_leastBy_114 ic_1 ?_
      refine e_iadd (pc := 115) dX8_leastBy_115 ?_
      refine e_iload_n (pc := 116) dX8_leastBy_116 2 rfl rfl ?_
      refine e_iconst (pc := 117) (v := (1 : Int32)) dX8_leastBy_117 ic_1 ?_
      refine e_isub (pc := 118) dX8_leastBy_118 ?_
      refine e_callVWL (pc := 119) (As := [.int (x2 + (1 : Int32)), .int (x3 - (1 : Int32))]) (rest := [.long x5]) kk18 Kc8 (hr_X8_least (x2 + (1 : Int32)) (x3 - (1 : Int32)) w6) lk_X8_44 (Nat.le_refl _) (Nat.le_of_ble_eq_true rfl) rfl rfl (Nat.le_of_ble_eq_true rfl) dX8_leastBy_119 (fun r8 w9 => ?_)
      refine e_ladd (pc := 122) dX8_leastBy_122 ?_
      refine e_nameL (fun y10 => ?_)
      refine e_lstore (pc := 123) (lv' := [(5, .long y10), (0, .ref (xa X 18)), (2, .int x2), (3, .int x3), (4, .int x4), (7, .int x7)]) dX8_leastBy_123 (Nat.le_of_ble_eq_true rfl) rfl ?_
      refine e_lv [1, 2, 3, 4, 0, 5] rfl ?_
      exact cb_X8_leastBy_b125 X hb r_X8_least hr_X8_least r_X8_leastBy hr_X8_leastBy k77 hk77 x2 x3 x4 y10 x7 w9
theorem cb_X8_leastBy_b77 (X : Xt) {dd : Nat} (hb : 3 ≤ dd) (r_X8_least : Int32 → Int32 → Wd → Option (Int64 × Wd)) (hr_X8_least : ∀ (a1 : Int32) (a2 : Int32) (w : Wd), CF gWL X m_X8_least dd [.ref (xa X 18), .int a1, .int a2] w (r_X8_least a1 a2 w)) (r_X8_leastBy : Int32 → Int32 → Int32 → Wd → Option (Int64 × Wd)) (hr_X8_leastBy : ∀ (a1 : Int32) (a2 : Int32) (a3 : Int32) (w : Wd), CF gWL X m_X8_leastBy dd [.ref (xa X 18), .int a1, .int a2, .int a3] w (r_X8_leastBy a1 a2 a3 w)) : ∀ (n : Nat) (x2 : Int32) (x3 : Int32) (x4 : Int32) (x5 : Int64) (x7 : Int32) (w : Wd), E gWL X m_X8_leastBy (dd + 1) 77 [(0, .ref (xa X 18)), (2, .int x2), (3, .int x3), (4, .int x4), (5, .long x5), (7, .int x7)] [] w (f_X8_leastBy_b77 r_X8_least r_X8_leastBy n x2 x3 x4 x5 x7 w) := by
  intro n
  induction n with
  | zero =>
    intro x2 x3 x4 x5 x7 w
    exact E_none
  | succ n ih =>
    intro x2 x3 x4 x5 x7 w
    exact cb_X8_leastBy_b77_y X hb r_X8_least hr_X8_least r_X8_leastBy hr_X8_leastBy _ ih x2 x3 x4 x5 x7 w
set_option maxRecDepth 100000 in
set_option maxHeartbeats 4000000 in
theorem ce_X8_leastBy (X : Xt) {dd : Nat} (hb : 3 ≤ dd) (r_X8_least : Int32 → Int32 → Wd → Option (Int64 × Wd)) (hr_X8_least : ∀ (a1 : Int32) (a2 : Int32) (w : Wd), CF gWL X m_X8_least dd [.ref (xa X 18), .int a1, .int a2] w (r_X8_least a1 a2 w)) (r_X8_leastBy : Int32 → Int32 → Int32 → Wd → Option (Int64 × Wd)) (hr_X8_leastBy : ∀ (a1 : Int32) (a2 : Int32) (a3 : Int32) (w : Wd), CF gWL X m_X8_leastBy dd [.ref (xa X 18), .int a1, .int a2, .int a3] w (r_X8_leastBy a1 a2 a3 w)) (a1 : Int32) (a2 : Int32) (a3 : Int32) (w : Wd) : E gWL X m_X8_leastBy (dd + 1) 0 [(0, .ref (xa X 18)), (1, .int a1), (2, .int a2), (3, .int a3)] [] w (f_X8_leastBy_y r_X8_least r_X8_leastBy a1 a2 a3 w) := by
  unfold f_X8_leastBy_y
  refine e_aload_n (pc := 0) dX8_leastBy_0 0 rfl rfl ?_
  refine g_R (pc := 1) (cl' := 21) kk18 fl_X8_18 rfl dX8_leastBy_1 ?_
  refine e_iload_n (pc := 4) dX8_leastBy_4 1 rfl rfl ?_
  refine e_iconst (pc := 5) (v := (4 : Int32)) dX8_leastBy_5 ic_4 ?_
  refine e_imul (pc := 6) dX8_leastBy_6 ?_
  refine e_iload_n (pc := 7) dX8_leastBy_7 2 rfl rfl ?_
  refine e_iadd (pc := 8) dX8_leastBy_8 ?_
  refine e_iald (pc := 9) kk21 dX8_leastBy_9 (fun v1 => ?_)
  refine e_istore (pc := 10) (lv' := [(4, .int v1), (0, .ref (xa X 18)), (1, .int a1), (2, .int a2), (3, .int a3)]) dX8_leastBy_10 (Nat.le_of_ble_eq_true rfl) rfl ?_
  refine e_aload_n (pc := 12) dX8_leastBy_12 1 rfl rfl ?_
  refine g_R (pc := 13) (cl' := 22) kk18 fl_X8_22 rfl dX8_leastBy_13 ?_
  refine e_iload_n (pc := 16) dX8_leastBy_16 2 rfl rfl ?_
  refine e_iald (pc := 17) kk22 dX8_leastBy_17 (fun v2 => ?_)
  refine e_i2l (pc := 18) dX8_leastBy_18 ?_
  refine e_aload_n (pc := 19) dX8_leastBy_19 1 rfl rfl ?_
  refine g_R (pc := 20) (cl' := 19) kk18 fl_X8_12 rfl dX8_leastBy_20 ?_
  refine e_iload_n (pc := 23) dX8_leastBy_23 3 rfl rfl ?_
  refine e_callVRL (pc := 24) (As := [.int a2]) (rest := [.long (Int32.toInt64 v2)]) kk19 Kc1 (cf_X1_all X 19 a2 hk_isCh_19 w) lk_X8_60 (by omega) (Nat.le_of_ble_eq_true rfl) rfl rfl (Nat.le_of_ble_eq_true rfl) dX8_leastBy_24 (fun r3 => ?_)
  refine e_lmul (pc := 27) dX8_leastBy_27 ?_
  refine e_gets (pc := 28) (q := 103) (fun U h => sZ3 U h) fl_X8_52 dX8_leastBy_28 ?_
  refine e_iload_n (pc := 31) dX8_leastBy_31 4 rfl rfl ?_
  refine e_tL (pc := 32) (q := 103) (fun U h => sT3 U h) dX8_leastBy_32 (fun v4 => ?_)
  refine e_lmul (pc := 33) dX8_leastBy_33 ?_
  refine e_nameL (fun y5 => ?_)
  refine e_lstore (pc := 34) (lv' := [(5, .long y5), (4, .int v1), (0, .ref (xa X 18)), (1, .int a1), (2, .int a2), (3, .int a3)]) dX8_leastBy_34 (Nat.le_of_ble_eq_true rfl) rfl ?_
  refine e_iload_n (pc := 36) dX8_leastBy_36 5 rfl rfl ?_
  refine e_iconst (pc := 37) (v := (1 : Int32)) dX8_leastBy_37 ic_1 ?_
  refine e_icmp_ne (pc := 38) (tgt := 74) dX8_leastBy_38 (by decide) (fun _ => ?_) (fun _ => ?_)
  · refine e_aload_n (pc := 41) dX8_leastBy_41 2 rfl rfl ?_
    refine g_R (pc := 42) (cl' := 19) kk18 fl_X8_12 rfl dX8_leastBy_42 ?_
    refine e_iload_n (pc := 45) dX8_leastBy_45 4 rfl rfl ?_
    refine e_callVRL (pc := 46) (As := [.int a2]) (rest := []) kk19 Kc1 (cf_X1_stones X 19 a2 hk_isCh_19 w) lk_X8_48 (by omega) (Nat.le_of_ble_eq_true rfl) rfl rfl (Nat.le_of_ble_eq_true rfl) dX8_leastBy_46 (fun r11 => ?_)
    refine e_bipush (pc := 49) (v := (12 : Int32)) dX8_leastBy_49 bp_12 ?_
    refine e_iload (pc := 51) dX8_leastBy_51 1 rfl ?_
    refine e_isub (pc := 53) dX8_leastBy_53 ?_
    refine e_i2l (pc := 54) dX8_leastBy_54 ?_
    refine e_lmul (pc := 55) dX8_leastBy_55 ?_
    refine e_ldc2 (pc := 56) (v := (144 : Int64)) dX8_leastBy_56 cl_X8_63 ?_
    refine e_lmul (pc := 59) dX8_leastBy_59 ?_
    refine e_nameL (fun y12 => ?_)
    refine e_lstore (pc := 60) (lv' := [(7, .long y12), (5, .long y5), (4, .int v1), (0, .ref (xa X 18)), (1, .int a1), (2, .int a2), (3, .int a3)]) dX8_leastBy_60 (Nat.le_of_ble_eq_true rfl) rfl ?_
    refine e_lload (pc := 62) dX8_leastBy_62 1 rfl ?_
    refine e_aload_n (pc := 64) dX8_leastBy_64 3 rfl rfl ?_
    refine g_I (pc := 65) kk18 fl_X8_29 dX8_leastBy_65 ?_
    refine e_i2l (pc := 68) dX8_leastBy_68 ?_
    refine e_lload (pc := 69) dX8_leastBy_69 0 rfl ?_
    refine e_lmul (pc := 71) dX8_leastBy_71 ?_
    refine e_ladd (pc := 72) dX8_leastBy_72 ?_
    exact e_lretW rfl dX8_leastBy_73
  · refine e_iconst (pc := 74) (v := (0 : Int32)) dX8_leastBy_74 ic_0 ?_
    refine e_istore (pc := 75) (lv' := [(7, .int (0 : Int32)), (5, .long y5), (4, .int v1), (0, .ref (xa X 18)), (1, .int a1), (2, .int a2), (3, .int a3)]) dX8_leastBy_75 (Nat.le_of_ble_eq_true rfl) rfl ?_
    refine e_lv [3, 5, 6, 2, 1, 0] rfl ?_
    exact cb_X8_leastBy_b77 X hb r_X8_least hr_X8_least r_X8_leastBy hr_X8_leastBy fu a2 a3 v1 y5 (0 : Int32) w
set_option maxRecDepth 100000 in
theorem cs_X8_least (X : Xt) : ∀ n : Nat, (∀ (a1 : Int32) (a2 : Int32) (w : Wd), CF gWL X m_X8_least (3 + n) [.ref (xa X 18), .int a1, .int a2] w (f_X8_least n a1 a2 w)) ∧ (∀ (a1 : Int32) (a2 : Int32) (a3 : Int32) (w : Wd), CF gWL X m_X8_leastBy (3 + n) [.ref (xa X 18), .int a1, .int a2, .int a3] w (f_X8_leastBy n a1 a2 a3 w)) := by
  intro n
  induction n with
  | zero => exact ⟨fun _ _ _ => CF_none, fun _ _ _ _ => CF_none⟩
  | succ n ih =>
    obtain ⟨ih0, ih1⟩ := ih
    exact ⟨fun a1 a2 w => CF_of (by decide) (Nat.le_of_ble_eq_true rfl) (ce_X8_least X (Nat.le_add_right _ _) (f_X8_least n) ih0 (f_X8_leastBy n) ih1 a1 a2 w), fun a1 a2 a3 w => CF_of (by decide) (Nat.le_of_ble_eq_true rfl) (ce_X8_leastBy X (Nat.le_add_right _ _) (f_X8_least n) ih0 (f_X8_leastBy n) ih1 a1 a2 a3 w)⟩
theorem cf_X8_least (X : Xt) (n : Nat) (a1 : Int32) (a2 : Int32) (w : Wd) : CF gWL X m_X8_least (3 + n) [.ref (xa X 18), .int a1, .int a2] w (f_X8_least n a1 a2 w) := (cs_X8_least X n).1 a1 a2 w
theorem cf_X8_leastBy (X : Xt) (n : Nat) (a1 : Int32) (a2 : Int32) (a3 : Int32) (w : Wd) : CF gWL X m_X8_leastBy (3 + n) [.ref (xa X 18), .int a1, .int a2, .int a3] w (f_X8_leastBy n a1 a2 a3 w) := (cs_X8_least X n).2 a1 a2 a3 w
set_option maxRecDepth 100000 in
set_option maxHeartbeats 4000000 in
theorem ce_X8_leastOf (X : Xt) (a1 : Int32) (w : Wd) : E gWL X m_X8_leastOf 84 0 [(0, .ref (xa X 18)), (1, .int a1)] [] w (f_X8_leastOf a1 w) := by
  unfold f_X8_leastOf
  refine e_aload_n (pc := 0) dX8_leastOf_0 0 rfl rfl ?_
  refine e_bipush (pc := 1) (v := (-2 : Int32)) dX8_leastOf_1 bp_m2 ?_
  refine p_I (pc := 3) kk18 fp_X8_32 dX8_leastOf_3 (fun w1 => ?_)
  refine e_aload_n (pc := 6) dX8_leastOf_6 0 rfl rfl ?_
  refine e_iconst (pc := 7) (v := (0 : Int32)) dX8_leastOf_7 ic_0 ?_
  refine e_iconst (pc := 8) (v := (0 : Int32)) dX8_leastOf_8 ic_0 ?_
  refine e_iconst (pc := 9) (v := (3 : Int32)) dX8_leastOf_9 ic_3 ?_
  refine e_iload_n (pc := 10) dX8_leastOf_10 1 rfl rfl ?_
  refine e_mmin (pc := 11) ml_X8_35 ms_min mi_Math mc_min (Nat.le_of_ble_eq_true rfl) (Nat.le_of_ble_eq_true rfl) dX8_leastOf_11 ?_
  refine e_mmax (pc := 14) ml_X8_41 ms_max mi_Math mc_max (Nat.le_of_ble_eq_true rfl) (Nat.le_of_ble_eq_true rfl) dX8_leastOf_14 ?_
  refine e_callVWL (pc := 17) (As := [.int (0 : Int32), .int (imax (0 : Int32) (imin (3 : Int32) a1))]) (rest := []) kk18 Kc8 (cf_X8_least X rf (0 : Int32) (imax (0 : Int32) (imin (3 : Int32) a1)) w1) lk_X8_44 (Nat.le_of_ble_eq_true rfl) (Nat.le_of_ble_eq_true rfl) rfl rfl (Nat.le_of_ble_eq_true rfl) dX8_leastOf_17 (fun r2 w3 => ?_)
  exact e_lretW rfl dX8_leastOf_20
theorem cf_X8_leastOf (X : Xt) (a1 : Int32) (w : Wd) : CF gWL X m_X8_leastOf 84 [.ref (xa X 18), .int a1] w (f_X8_leastOf a1 w) := CF_of (by decide) (Nat.le_of_ble_eq_true rfl) (ce_X8_leastOf X a1 w)
set_option maxRecDepth 100000 in
set_option maxHeartbeats 4000000 in
theorem ce_X9_isEmpty (X : Xt) (c0 : Nat) (hc0 : isShf c0) (w : Wd) : E (gRI w) X m_X9_isEmpty 1 0 [(0, .ref (xa X c0))] [] w (f_X9_isEmpty c0 w) := by
  unfold f_X9_isEmpty
  refine e_aload_n (pc := 0) dX9_isEmpty_0 0 rfl rfl ?_
  refine g_I (pc := 1) hc0.1 fl_X9_11 dX9_isEmpty_1 ?_
  refine e_if_ne (pc := 4) (tgt := 11) dX9_isEmpty_4 (by decide) (fun _ => ?_) (fun _ => ?_)
  · refine e_iconst (pc := 7) (v := (1 : Int32)) dX9_isEmpty_7 ic_1 ?_
    refine e_goto (pc := 8) (tgt := 12) dX9_isEmpty_8 (by decide) ?_
    exact e_zretR0 rfl (by decide) dX9_isEmpty_12
  · refine e_iconst (pc := 11) (v := (0 : Int32)) dX9_isEmpty_11 ic_0 ?_
    exact e_zretR0 rfl (by decide) dX9_isEmpty_12
theorem cf_X9_isEmpty (X : Xt) (c0 : Nat) (hc0 : isShf c0) (w : Wd) : CF (gRI w) X m_X9_isEmpty 1 [.ref (xa X c0)] w (f_X9_isEmpty c0 w) := CF_of (by decide) (Nat.le_of_ble_eq_true rfl) (ce_X9_isEmpty X c0 hc0 w)
set_option maxRecDepth 100000 in
set_option maxHeartbeats 4000000 in
theorem ce_X9_isRow (X : Xt) (c0 : Nat) (hc0 : isShf c0) (w : Wd) : E (gRI w) X m_X9_isRow 1 0 [(0, .ref (xa X c0))] [] w (f_X9_isRow c0 w) := by
  unfold f_X9_isRow
  refine e_aload_n (pc := 0) dX9_isRow_0 0 rfl rfl ?_
  refine g_I (pc := 1) hc0.1 fl_X9_11 dX9_isRow_1 ?_
  refine e_iconst (pc := 4) (v := (2 : Int32)) dX9_isRow_4 ic_2 ?_
  refine e_icmp_ne (pc := 5) (tgt := 12) dX9_isRow_5 (by decide) (fun _ => ?_) (fun _ => ?_)
  · refine e_iconst (pc := 8) (v := (1 : Int32)) dX9_isRow_8 ic_1 ?_
    refine e_goto (pc := 9) (tgt := 13) dX9_isRow_9 (by decide) ?_
    exact e_zretR0 rfl (by decide) dX9_isRow_13
  · refine e_iconst (pc := 12) (v := (0 : Int32)) dX9_isRow_12 ic_0 ?_
    exact e_zretR0 rfl (by decide) dX9_isRow_13
theorem cf_X9_isRow (X : Xt) (c0 : Nat) (hc0 : isShf c0) (w : Wd) : CF (gRI w) X m_X9_isRow 1 [.ref (xa X c0)] w (f_X9_isRow c0 w) := CF_of (by decide) (Nat.le_of_ble_eq_true rfl) (ce_X9_isRow X c0 hc0 w)
set_option maxRecDepth 100000 in
set_option maxHeartbeats 4000000 in
theorem ce_X9_isBytes (X : Xt) (c0 : Nat) (hc0 : isShf c0) (w : Wd) : E (gRI w) X m_X9_isBytes 1 0 [(0, .ref (xa X c0))] [] w (f_X9_isBytes c0 w) := by
  unfold f_X9_isBytes
  refine e_aload_n (pc := 0) dX9_isBytes_0 0 rfl rfl ?_
  refine g_I (pc := 1) hc0.1 fl_X9_11 dX9_isBytes_1 ?_
  refine e_iconst (pc := 4) (v := (2 : Int32)) dX9_isBytes_4 ic_2 ?_
  refine e_icmp_ne (pc := 5) (tgt := 19) dX9_isBytes_5 (by decide) (fun _ => ?_) (fun _ => ?_)
  · refine e_aload_n (pc := 8) dX9_isBytes_8 0 rfl rfl ?_
    refine g_I (pc := 9) hc0.1 fl_X9_18 dX9_isBytes_9 ?_
    refine e_if_ne (pc := 12) (tgt := 19) dX9_isBytes_12 (by decide) (fun _ => ?_) (fun _ => ?_)
    · refine e_iconst (pc := 15) (v := (1 : Int32)) dX9_isBytes_15 ic_1 ?_
      refine e_goto (pc := 16) (tgt := 20) dX9_isBytes_16 (by decide) ?_
      exact e_zretR0 rfl (by decide) dX9_isBytes_20
    · refine e_iconst (pc := 19) (v := (0 : Int32)) dX9_isBytes_19 ic_0 ?_
      exact e_zretR0 rfl (by decide) dX9_isBytes_20
  · refine e_iconst (pc := 19) (v := (0 : Int32)) dX9_isBytes_19 ic_0 ?_
    exact e_zretR0 rfl (by decide) dX9_isBytes_20
theorem cf_X9_isBytes (X : Xt) (c0 : Nat) (hc0 : isShf c0) (w : Wd) : CF (gRI w) X m_X9_isBytes 1 [.ref (xa X c0)] w (f_X9_isBytes c0 w) := CF_of (by decide) (Nat.le_of_ble_eq_true rfl) (ce_X9_isBytes X c0 hc0 w)
set_option maxRecDepth 100000 in
set_option maxHeartbeats 4000000 in
theorem ce_X9_refusalAsBytes (X : Xt) (c0 : Nat) (hc0 : isShf c0) (w : Wd) : E (gRI w) X m_X9_refusalAsBytes 2 0 [(0, .ref (xa X c0))] [] w (f_X9_refusalAsBytes c0 w) := by
  unfold f_X9_refusalAsBytes
  refine e_aload_n (pc := 0) dX9_refusalAsBytes_0 0 rfl rfl ?_
  refine e_callVRI (pc := 1) (As := []) (rest := []) hc0.1 Kc9 (cf_X9_isEmpty X c0 hc0 w) lk_X9_28 (Nat.le_of_ble_eq_true rfl) (Nat.le_of_ble_eq_true rfl) rfl rfl (Nat.le_of_ble_eq_true rfl) dX9_refusalAsBytes_1 (fun r1 => ?_)
  refine e_if_eq (pc := 4) (tgt := 12) dX9_refusalAsBytes_4 (by decide) (fun _ => ?_) (fun _ => ?_)
  · refine e_aload_n (pc := 12) dX9_refusalAsBytes_12 0 rfl rfl ?_
    refine e_callVRI (pc := 13) (As := []) (rest := []) hc0.1 Kc9 (cf_X9_isBytes X c0 hc0 w) lk_X9_32 (Nat.le_of_ble_eq_true rfl) (Nat.le_of_ble_eq_true rfl) rfl rfl (Nat.le_of_ble_eq_true rfl) dX9_refusalAsBytes_13 (fun r2 => ?_)
    refine e_if_eq (pc := 16) (tgt := 23) dX9_refusalAsBytes_16 (by decide) (fun _ => ?_) (fun _ => ?_)
    · refine e_bipush (pc := 23) (v := (-12 : Int32)) dX9_refusalAsBytes_23 bp_m12 ?_
      exact e_iretR rfl dX9_refusalAsBytes_25
    · refine e_iconst (pc := 19) (v := (0 : Int32)) dX9_refusalAsBytes_19 ic_0 ?_
      refine e_goto (pc := 20) (tgt := 25) dX9_refusalAsBytes_20 (by decide) ?_
      exact e_iretR rfl dX9_refusalAsBytes_25
  · refine e_bipush (pc := 7) (v := (-11 : Int32)) dX9_refusalAsBytes_7 bp_m11 ?_
    refine e_goto (pc := 9) (tgt := 25) dX9_refusalAsBytes_9 (by decide) ?_
    exact e_iretR rfl dX9_refusalAsBytes_25
theorem cf_X9_refusalAsBytes (X : Xt) (c0 : Nat) (hc0 : isShf c0) (w : Wd) : CF (gRI w) X m_X9_refusalAsBytes 2 [.ref (xa X c0)] w (f_X9_refusalAsBytes c0 w) := CF_of (by decide) (Nat.le_of_ble_eq_true rfl) (ce_X9_refusalAsBytes X c0 hc0 w)
set_option maxRecDepth 100000 in
set_option maxHeartbeats 4000000 in
theorem ce_X9_holdNothing (X : Xt) (c0 : Nat) (hc0 : isShf c0) (w : Wd) : E gWV X m_X9_holdNothing 1 0 [(0, .ref (xa X c0))] [] w (f_X9_holdNothing c0 w) := by
  unfold f_X9_holdNothing
  refine e_aload_n (pc := 0) dX9_holdNothing_0 0 rfl rfl ?_
  refine e_iconst (pc := 1) (v := (0 : Int32)) dX9_holdNothing_1 ic_0 ?_
  refine p_I (pc := 2) hc0.1 fp_X9_11 dX9_holdNothing_2 (fun w1 => ?_)
  exact e_vret rfl dX9_holdNothing_5
theorem cf_X9_holdNothing (X : Xt) (c0 : Nat) (hc0 : isShf c0) (w : Wd) : CF gWV X m_X9_holdNothing 1 [.ref (xa X c0)] w (f_X9_holdNothing c0 w) := CF_of (by decide) (Nat.le_of_ble_eq_true rfl) (ce_X9_holdNothing X c0 hc0 w)
set_option maxRecDepth 100000 in
set_option maxHeartbeats 4000000 in
theorem ce_X9_holdBody (X : Xt) (c0 : Nat) (a1 : Int32) (hc0 : isShf c0) (w : Wd) : E gWV X m_X9_holdBody 1 0 [(0, .ref (xa X c0)), (1, .int a1)] [] w (f_X9_holdBody c0 a1 w) := by
  unfold f_X9_holdBody
  refine e_aload_n (pc := 0) dX9_holdBody_0 0 rfl rfl ?_
  refine e_iconst (pc := 1) (v := (1 : Int32)) dX9_holdBody_1 ic_1 ?_
  refine p_I (pc := 2) hc0.1 fp_X9_11 dX9_holdBody_2 (fun w1 => ?_)
  refine e_aload_n (pc := 5) dX9_holdBody_5 0 rfl rfl ?_
  refine e_iload_n (pc := 6) dX9_holdBody_6 1 rfl rfl ?_
  refine p_I (pc := 7) hc0.1 fp_X9_15 dX9_holdBody_7 (fun w2 => ?_)
  exact e_vret rfl dX9_holdBody_10
theorem cf_X9_holdBody (X : Xt) (c0 : Nat) (a1 : Int32) (hc0 : isShf c0) (w : Wd) : CF gWV X m_X9_holdBody 1 [.ref (xa X c0), .int a1] w (f_X9_holdBody c0 a1 w) := CF_of (by decide) (Nat.le_of_ble_eq_true rfl) (ce_X9_holdBody X c0 a1 hc0 w)
set_option maxRecDepth 100000 in
set_option maxHeartbeats 4000000 in
theorem cb_X9_holdRow_b28_y (X : Xt) (k28 : Nat → Int32 → Wd → Option Wd) (hk28 : ∀ (c0 : Nat) (x3 : Int32) (hc0 : isShf c0) (w : Wd), E gWV X m_X9_holdRow 1 28 [(0, .ref (xa X c0)), (3, .int x3)] [] w (k28 c0 x3 w)) (c0 : Nat) (x3 : Int32) (hc0 : isShf c0) (w : Wd) : E gWV X m_X9_holdRow 1 28 [(0, .ref (xa X c0)), (3, .int x3)] [] w (f_X9_holdRow_b28_y k28 c0 x3 w) := by
  unfold f_X9_holdRow_b28_y
  refine e_iload_n (pc := 28) dX9_holdRow_28 1 rfl rfl ?_
  refine e_bipush (pc := 29) (v := (60 : Int32)) dX9_holdRow_29 bp_60 ?_
  refine e_icmp_ge (pc := 31) (tgt := 47) dX9_holdRow_31 (by decide) (fun _ => ?_) (fun _ => ?_)
  · exact e_vret rfl dX9_holdRow_47
  · refine e_aload_n (pc := 34) dX9_holdRow_34 0 rfl rfl ?_
    refine g_R (pc := 35) (cl' := (c0 + 1)) hc0.1 fl_X9_24 rfl dX9_holdRow_35 ?_
    refine e_iload_n (pc := 38) dX9_holdRow_38 1 rfl rfl ?_
    refine e_lconst (pc := 39) (v := (0 : Int64)) dX9_holdRow_39 lc_0 ?_
    refine e_last (pc := 40) hc0.2 dX9_holdRow_40 (fun w4 => ?_)
    refine e_iinc (pc := 41) (lv' := [(3, .int (x3 + (1 : Int32))), (0, .ref (xa X c0))]) dX9_holdRow_41 1 rfl (ii_1 _) (Nat.le_of_ble_eq_true rfl) rfl ?_
    refine e_goto (pc := 44) (tgt := 28) dX9_holdRow_44 (by decide) ?_
    refine e_lv [1, 0] rfl ?_
    exact hk28 c0 (x3 + (1 : Int32)) hc0 w4
theorem cb_X9_holdRow_b28 (X : Xt) : ∀ (n : Nat) (c0 : Nat) (x3 : Int32) (hc0 : isShf c0) (w : Wd), E gWV X m_X9_holdRow 1 28 [(0, .ref (xa X c0)), (3, .int x3)] [] w (f_X9_holdRow_b28 n c0 x3 w) := by
  intro n
  induction n with
  | zero =>
    intro c0 x3 hc0 w
    exact E_none
  | succ n ih =>
    intro c0 x3 hc0 w
    exact cb_X9_holdRow_b28_y X _ ih c0 x3 hc0 w
set_option maxRecDepth 100000 in
set_option maxHeartbeats 4000000 in
theorem ce_X9_holdRow (X : Xt) (c0 : Nat) (a1 : Int32) (a2 : Int32) (hc0 : isShf c0) (w : Wd) : E gWV X m_X9_holdRow 1 0 [(0, .ref (xa X c0)), (1, .int a1), (2, .int a2)] [] w (f_X9_holdRow c0 a1 a2 w) := by
  unfold f_X9_holdRow
  refine e_iload_n (pc := 0) dX9_holdRow_0 2 rfl rfl ?_
  refine e_if_lt (pc := 1) (tgt := 10) dX9_holdRow_1 (by decide) (fun _ => ?_) (fun _ => ?_)
  · exact e_vret rfl dX9_holdRow_10
  · refine e_iload_n (pc := 4) dX9_holdRow_4 2 rfl rfl ?_
    refine e_bipush (pc := 5) (v := (60 : Int32)) dX9_holdRow_5 bp_60 ?_
    refine e_icmp_le (pc := 7) (tgt := 11) dX9_holdRow_7 (by decide) (fun _ => ?_) (fun _ => ?_)
    · refine e_aload_n (pc := 11) dX9_holdRow_11 0 rfl rfl ?_
      refine e_iconst (pc := 12) (v := (2 : Int32)) dX9_holdRow_12 ic_2 ?_
      refine p_I (pc := 13) hc0.1 fp_X9_11 dX9_holdRow_13 (fun w1 => ?_)
      refine e_aload_n (pc := 16) dX9_holdRow_16 0 rfl rfl ?_
      refine e_iload_n (pc := 17) dX9_holdRow_17 1 rfl rfl ?_
      refine p_I (pc := 18) hc0.1 fp_X9_18 dX9_holdRow_18 (fun w2 => ?_)
      refine e_aload_n (pc := 21) dX9_holdRow_21 0 rfl rfl ?_
      refine e_iload_n (pc := 22) dX9_holdRow_22 2 rfl rfl ?_
      refine p_I (pc := 23) hc0.1 fp_X9_21 dX9_holdRow_23 (fun w3 => ?_)
      refine e_iconst (pc := 26) (v := (0 : Int32)) dX9_holdRow_26 ic_0 ?_
      refine e_istore_n (pc := 27) (lv' := [(3, .int (0 : Int32)), (0, .ref (xa X c0)), (1, .int a1), (2, .int a2)]) dX9_holdRow_27 rfl (Nat.le_of_ble_eq_true rfl) rfl ?_
      refine e_lv [1, 0] rfl ?_
      exact cb_X9_holdRow_b28 X fu c0 (0 : Int32) hc0 w3
    · exact e_vret rfl dX9_holdRow_10
theorem cf_X9_holdRow (X : Xt) (c0 : Nat) (a1 : Int32) (a2 : Int32) (hc0 : isShf c0) (w : Wd) : CF gWV X m_X9_holdRow 1 [.ref (xa X c0), .int a1, .int a2] w (f_X9_holdRow c0 a1 a2 w) := CF_of (by decide) (Nat.le_of_ble_eq_true rfl) (ce_X9_holdRow X c0 a1 a2 hc0 w)
set_option maxRecDepth 100000 in
set_option maxHeartbeats 4000000 in
theorem ce_X9_cut (X : Xt) (c0 : Nat) (a1 : Int64) (hc0 : isShf c0) (w : Wd) : E (gRL w) X m_X9_cut 1 0 [(0, .ref (xa X c0)), (1, .long a1)] [] w (f_X9_cut c0 a1 w) := by
  unfold f_X9_cut
  refine e_aload_n (pc := 0) dX9_cut_0 0 rfl rfl ?_
  refine g_I (pc := 1) hc0.1 fl_X9_18 dX9_cut_1 ?_
  refine e_ite (fun h4_0 => ?_) (fun h4_0 => ?_)
  · refine e_tabIn (pc := 4) (off := 36) (tgt := 40) dX9_cut_4 (by rw [h4_0]; decide) (by rw [h4_0]; decide) (by rw [h4_0]; decide) (by decide) ?_
    refine e_lload_n (pc := 40) dX9_cut_40 1 rfl rfl ?_
    refine e_l2i (pc := 41) dX9_cut_41 ?_
    refine e_i2b (pc := 42) dX9_cut_42 ?_
    refine e_i2l (pc := 43) dX9_cut_43 ?_
    exact e_lretR rfl dX9_cut_44
  · refine e_ite (fun h4_1 => ?_) (fun h4_1 => ?_)
    · refine e_tabIn (pc := 4) (off := 41) (tgt := 45) dX9_cut_4 (by rw [h4_1]; decide) (by rw [h4_1]; decide) (by rw [h4_1]; decide) (by decide) ?_
      refine e_lload_n (pc := 45) dX9_cut_45 1 rfl rfl ?_
      refine e_l2i (pc := 46) dX9_cut_46 ?_
      refine e_i2s (pc := 47) dX9_cut_47 ?_
      refine e_i2l (pc := 48) dX9_cut_48 ?_
      exact e_lretR rfl dX9_cut_49
    · refine e_ite (fun h4_2 => ?_) (fun h4_2 => ?_)
      · refine e_tabIn (pc := 4) (off := 46) (tgt := 50) dX9_cut_4 (by rw [h4_2]; decide) (by rw [h4_2]; decide) (by rw [h4_2]; decide) (by decide) ?_
        refine e_lload_n (pc := 50) dX9_cut_50 1 rfl rfl ?_
        refine e_l2i (pc := 51) dX9_cut_51 ?_
        refine e_i2l (pc := 52) dX9_cut_52 ?_
        exact e_lretR rfl dX9_cut_53
      · refine e_ite (fun h4_4 => ?_) (fun h4_4 => ?_)
        · refine e_tabIn (pc := 4) (off := 50) (tgt := 54) dX9_cut_4 (by rw [h4_4]; decide) (by rw [h4_4]; decide) (by rw [h4_4]; decide) (by decide) ?_
          refine e_lload_n (pc := 54) dX9_cut_54 1 rfl rfl ?_
          refine e_lconst (pc := 55) (v := (0 : Int64)) dX9_cut_55 lc_0 ?_
          refine e_lcmp_eq (pc := 56) (tgt := 64) dX9_cut_56 dX9_cut_57 (by decide) (fun _ => ?_) (fun _ => ?_)
          · refine e_lconst (pc := 64) (v := (0 : Int64)) dX9_cut_64 lc_0 ?_
            exact e_lretR rfl dX9_cut_65
          · refine e_lconst (pc := 60) (v := (1 : Int64)) dX9_cut_60 lc_1 ?_
            refine e_goto (pc := 61) (tgt := 65) dX9_cut_61 (by decide) ?_
            exact e_lretR rfl dX9_cut_65
        · by_cases q0 : ((gi w c0 2)).toInt < 0 ∨ 4 < ((gi w c0 2)).toInt
          · refine e_tabOut (pc := 4) (tgt := 66) dX9_cut_4 q0 (by decide) ?_
            refine e_lload_n (pc := 66) dX9_cut_66 1 rfl rfl ?_
            exact e_lretR rfl dX9_cut_67
          · by_cases q3 : (gi w c0 2) = (3 : Int32)
            · refine e_tabIn (pc := 4) (off := 62) (tgt := 66) dX9_cut_4 (by rw [q3]; decide) (by rw [q3]; decide) (by rw [q3]; decide) (by decide) ?_
              refine e_lload_n (pc := 66) dX9_cut_66 1 rfl rfl ?_
              exact e_lretR rfl dX9_cut_67
            · have z0 := lv_neT h4_0 (show (0 : Int32).toInt = 0 by decide)
              have z1 := lv_neT h4_1 (show (1 : Int32).toInt = 1 by decide)
              have z2 := lv_neT h4_2 (show (2 : Int32).toInt = 2 by decide)
              have z4 := lv_neT h4_4 (show (4 : Int32).toInt = 4 by decide)
              have z3 := lv_neT q3 (show (3 : Int32).toInt = 3 by decide)
              exfalso
              omega
theorem cf_X9_cut (X : Xt) (c0 : Nat) (a1 : Int64) (hc0 : isShf c0) (w : Wd) : CF (gRL w) X m_X9_cut 1 [.ref (xa X c0), .long a1] w (f_X9_cut c0 a1 w) := CF_of (by decide) (Nat.le_of_ble_eq_true rfl) (ce_X9_cut X c0 a1 hc0 w)
set_option maxRecDepth 100000 in
set_option maxHeartbeats 4000000 in
theorem ce_X9_write (X : Xt) (c0 : Nat) (a1 : Int32) (a2 : Int64) (hc0 : isShf c0) (w : Wd) : E gWV X m_X9_write 2 0 [(0, .ref (xa X c0)), (1, .int a1), (2, .long a2)] [] w (f_X9_write c0 a1 a2 w) := by
  unfold f_X9_write
  refine e_aload_n (pc := 0) dX9_write_0 0 rfl rfl ?_
  refine e_iload_n (pc := 1) dX9_write_1 1 rfl rfl ?_
  refine e_callVRI (pc := 2) (As := [.int a1]) (rest := []) hc0.1 Kc9 (cf_X9_hasPlace X c0 a1 hc0 w) lk_X9_35 (Nat.le_of_ble_eq_true rfl) (Nat.le_of_ble_eq_true rfl) rfl rfl (Nat.le_of_ble_eq_true rfl) dX9_write_2 (fun r1 => ?_)
  refine e_if_eq (pc := 5) (tgt := 19) dX9_write_5 (by decide) (fun _ => ?_) (fun _ => ?_)
  · exact e_vret rfl dX9_write_19
  · refine e_aload_n (pc := 8) dX9_write_8 0 rfl rfl ?_
    refine g_R (pc := 9) (cl' := (c0 + 1)) hc0.1 fl_X9_24 rfl dX9_write_9 ?_
    refine e_iload_n (pc := 12) dX9_write_12 1 rfl rfl ?_
    refine e_aload_n (pc := 13) dX9_write_13 0 rfl rfl ?_
    refine e_lload_n (pc := 14) dX9_write_14 2 rfl rfl ?_
    refine e_callVRL (pc := 15) (As := [.long a2]) (rest := [.int a1, .ref (xa X (c0 + 1))]) hc0.1 Kc9 (cf_X9_cut X c0 a2 hc0 w) lk_X9_39 (Nat.le_of_ble_eq_true rfl) (Nat.le_of_ble_eq_true rfl) rfl rfl (Nat.le_of_ble_eq_true rfl) dX9_write_15 (fun r2 => ?_)
    refine e_last (pc := 18) hc0.2 dX9_write_18 (fun w3 => ?_)
    exact e_vret rfl dX9_write_19
theorem cf_X9_write (X : Xt) (c0 : Nat) (a1 : Int32) (a2 : Int64) (hc0 : isShf c0) (w : Wd) : CF gWV X m_X9_write 2 [.ref (xa X c0), .int a1, .long a2] w (f_X9_write c0 a1 a2 w) := CF_of (by decide) (Nat.le_of_ble_eq_true rfl) (ce_X9_write X c0 a1 a2 hc0 w)
set_option maxRecDepth 100000 in
set_option maxHeartbeats 4000000 in
theorem ce_X9_copyTo (X : Xt) (c0 : Nat) (a1 : Int32) (c2 : Nat) (a3 : Int32) (a4 : Int32) (hc0 : isShf c0) (hc2 : isShf c2) (w : Wd) : E gWV X m_X9_copyTo 2 0 [(0, .ref (xa X c0)), (1, .int a1), (2, .ref (xa X c2)), (3, .int a3), (4, .int a4)] [] w (f_X9_copyTo c0 a1 c2 a3 a4 w) := by
  unfold f_X9_copyTo
  refine e_aload_n (pc := 0) dX9_copyTo_0 0 rfl rfl ?_
  refine e_iload_n (pc := 1) dX9_copyTo_1 1 rfl rfl ?_
  refine e_iload (pc := 2) dX9_copyTo_2 4 rfl ?_
  refine e_callVRI (pc := 4) (As := [.int a1, .int a4]) (rest := []) hc0.1 Kc9 (cf_X9_hasPlaces X c0 a1 a4 hc0 w) lk_X9_43 (Nat.le_of_ble_eq_true rfl) (Nat.le_of_ble_eq_true rfl) rfl rfl (Nat.le_of_ble_eq_true rfl) dX9_copyTo_4 (fun r1 => ?_)
  refine e_if_eq (pc := 7) (tgt := 35) dX9_copyTo_7 (by decide) (fun _ => ?_) (fun _ => ?_)
  · exact e_vret rfl dX9_copyTo_35
  · refine e_aload_n (pc := 10) dX9_copyTo_10 2 rfl rfl ?_
    refine e_iload_n (pc := 11) dX9_copyTo_11 3 rfl rfl ?_
    refine e_iload (pc := 12) dX9_copyTo_12 4 rfl ?_
    refine e_callVRI (pc := 14) (As := [.int a3, .int a4]) (rest := []) hc2.1 Kc9 (cf_X9_hasPlaces X c2 a3 a4 hc2 w) lk_X9_43 (Nat.le_of_ble_eq_true rfl) (Nat.le_of_ble_eq_true rfl) rfl rfl (Nat.le_of_ble_eq_true rfl) dX9_copyTo_14 (fun r2 => ?_)
    refine e_if_eq (pc := 17) (tgt := 35) dX9_copyTo_17 (by decide) (fun _ => ?_) (fun _ => ?_)
    · exact e_vret rfl dX9_copyTo_35
    · refine e_aload_n (pc := 20) dX9_copyTo_20 0 rfl rfl ?_
      refine g_R (pc := 21) (cl' := (c0 + 1)) hc0.1 fl_X9_24 rfl dX9_copyTo_21 ?_
      refine e_iload_n (pc := 24) dX9_copyTo_24 1 rfl rfl ?_
      refine e_aload_n (pc := 25) dX9_copyTo_25 2 rfl rfl ?_
      refine g_R (pc := 26) (cl' := (c2 + 1)) hc2.1 fl_X9_24 rfl dX9_copyTo_26 ?_
      refine e_iload_n (pc := 29) dX9_copyTo_29 3 rfl rfl ?_
      refine e_iload (pc := 30) dX9_copyTo_30 4 rfl ?_
      refine e_cyL (pc := 32) hc0.2 hc2.2 lcp_X9_47 (Nat.le_of_ble_eq_true rfl) (Nat.le_of_ble_eq_true rfl) dX9_copyTo_32 (fun w3 => ?_)
      exact e_vret rfl dX9_copyTo_35
theorem cf_X9_copyTo (X : Xt) (c0 : Nat) (a1 : Int32) (c2 : Nat) (a3 : Int32) (a4 : Int32) (hc0 : isShf c0) (hc2 : isShf c2) (w : Wd) : CF gWV X m_X9_copyTo 2 [.ref (xa X c0), .int a1, .ref (xa X c2), .int a3, .int a4] w (f_X9_copyTo c0 a1 c2 a3 a4 w) := CF_of (by decide) (Nat.le_of_ble_eq_true rfl) (ce_X9_copyTo X c0 a1 c2 a3 a4 hc0 hc2 w)
set_option maxRecDepth 100000 in
set_option maxHeartbeats 4000000 in
theorem ce_X10_hearOne (X : Xt) (c1 : Nat) (hc1 : isShf c1) (w : Wd) : E gWI X m_X10_hearOne 3 0 [(0, .ref (xa X 23)), (1, .ref (xa X c1))] [] w (f_X10_hearOne c1 w) := by
  unfold f_X10_hearOne
  refine e_aload_n (pc := 0) dX10_hearOne_0 1 rfl rfl ?_
  refine e_aload_n (pc := 1) dX10_hearOne_1 0 rfl rfl ?_
  refine g_I (pc := 2) kk23 fl_X10_34 dX10_hearOne_2 ?_
  refine e_callVRI (pc := 5) (As := [.int (gi w 23 6)]) (rest := []) hc1.1 Kc9 (cf_X9_hasPlace X c1 (gi w 23 6) hc1 w) lk_X10_56 (Nat.le_of_ble_eq_true rfl) (Nat.le_of_ble_eq_true rfl) rfl rfl (Nat.le_of_ble_eq_true rfl) dX10_hearOne_5 (fun r1 => ?_)
  refine e_if_eq (pc := 8) (tgt := 25) dX10_hearOne_8 (by decide) (fun _ => ?_) (fun _ => ?_)
  · refine e_iconst (pc := 25) (v := (0 : Int32)) dX10_hearOne_25 ic_0 ?_
    exact e_zretW0 rfl (by decide) dX10_hearOne_26
  · refine e_aload_n (pc := 11) dX10_hearOne_11 1 rfl rfl ?_
    refine e_aload_n (pc := 12) dX10_hearOne_12 0 rfl rfl ?_
    refine g_I (pc := 13) kk23 fl_X10_34 dX10_hearOne_13 ?_
    refine e_callVRL (pc := 16) (As := [.int (gi w 23 6)]) (rest := []) hc1.1 Kc9 (cf_X9_read X c1 (gi w 23 6) hc1 w) lk_X10_62 (Nat.le_of_ble_eq_true rfl) (Nat.le_of_ble_eq_true rfl) rfl rfl (Nat.le_of_ble_eq_true rfl) dX10_hearOne_16 (fun r2 => ?_)
    refine e_callSRI (pc := 19) (As := [.long r2]) (rest := []) (cf_X5_isFound X r2 w) lk_X10_66 (Nat.le_of_ble_eq_true rfl) (Nat.le_of_ble_eq_true rfl) rfl rfl (Nat.le_of_ble_eq_true rfl) dX10_hearOne_19 (fun r3 => ?_)
    refine e_if_ne (pc := 22) (tgt := 27) dX10_hearOne_22 (by decide) (fun _ => ?_) (fun _ => ?_)
    · refine e_iconst (pc := 25) (v := (0 : Int32)) dX10_hearOne_25 ic_0 ?_
      exact e_zretW0 rfl (by decide) dX10_hearOne_26
    · refine e_aload_n (pc := 27) dX10_hearOne_27 0 rfl rfl ?_
      refine g_R (pc := 28) (cl' := 27) kk23 fl_X10_22 rfl dX10_hearOne_28 ?_
      refine e_aload_n (pc := 31) dX10_hearOne_31 0 rfl rfl ?_
      refine g_I (pc := 32) kk23 fl_X10_34 dX10_hearOne_32 ?_
      refine e_aload_n (pc := 35) dX10_hearOne_35 1 rfl rfl ?_
      refine e_aload_n (pc := 36) dX10_hearOne_36 0 rfl rfl ?_
      refine g_I (pc := 37) kk23 fl_X10_34 dX10_hearOne_37 ?_
      refine e_callVRL (pc := 40) (As := [.int (gi w 23 6)]) (rest := [.int (gi w 23 6), .ref (xa X 27)]) hc1.1 Kc9 (cf_X9_read X c1 (gi w 23 6) hc1 w) lk_X10_62 (Nat.le_of_ble_eq_true rfl) (Nat.le_of_ble_eq_true rfl) rfl rfl (Nat.le_of_ble_eq_true rfl) dX10_hearOne_40 (fun r4 => ?_)
      refine e_l2i (pc := 43) dX10_hearOne_43 ?_
      refine e_iast (pc := 44) kk27 dX10_hearOne_44 (fun w5 => ?_)
      refine e_aload_n (pc := 45) dX10_hearOne_45 0 rfl rfl ?_
      refine g_R (pc := 46) (cl' := 29) kk23 fl_X10_28 rfl dX10_hearOne_46 ?_
      refine e_aload_n (pc := 49) dX10_hearOne_49 0 rfl rfl ?_
      refine g_I (pc := 50) kk23 fl_X10_34 dX10_hearOne_50 ?_
      refine e_iconst (pc := 53) (v := (0 : Int32)) dX10_hearOne_53 ic_0 ?_
      refine e_iast (pc := 54) kk29 dX10_hearOne_54 (fun w6 => ?_)
      refine e_iconst (pc := 55) (v := (1 : Int32)) dX10_hearOne_55 ic_1 ?_
      exact e_zretW0 rfl (by decide) dX10_hearOne_56
theorem cf_X10_hearOne (X : Xt) (c1 : Nat) (hc1 : isShf c1) (w : Wd) : CF gWI X m_X10_hearOne 3 [.ref (xa X 23), .ref (xa X c1)] w (f_X10_hearOne c1 w) := CF_of (by decide) (Nat.le_of_ble_eq_true rfl) (ce_X10_hearOne X c1 hc1 w)
set_option maxRecDepth 100000 in
set_option maxHeartbeats 4000000 in
theorem cb_X10_note_b12_y (X : Xt) (k12 : Int32 → Wd → Option Wd) (hk12 : ∀ (x1 : Int32)  (w : Wd), E gWV X m_X10_note 3 12 [(0, .ref (xa X 23)), (1, .int x1)] [] w (k12 x1 w)) (x1 : Int32) (w : Wd) : E gWV X m_X10_note 3 12 [(0, .ref (xa X 23)), (1, .int x1)] [] w (f_X10_note_b12_y k12 x1 w) := by
  unfold f_X10_note_b12_y
  refine e_iload_n (pc := 12) dX10_note_12 1 rfl rfl ?_
  refine e_aload_n (pc := 13) dX10_note_13 0 rfl rfl ?_
  refine g_I (pc := 14) kk23 fl_X10_34 dX10_note_14 ?_
  refine e_icmp_ge (pc := 17) (tgt := 43) dX10_note_17 (by decide) (fun _ => ?_) (fun _ => ?_)
  · refine e_aload_n (pc := 43) dX10_note_43 0 rfl rfl ?_
    refine g_R (pc := 44) (cl' := 24) kk23 fl_X10_12 rfl dX10_note_44 ?_
    refine e_aload_n (pc := 47) dX10_note_47 0 rfl rfl ?_
    refine g_I (pc := 48) kk23 fl_X10_34 dX10_note_48 ?_
    refine e_callVRL (pc := 51) (As := [.int (gi w 23 6)]) (rest := []) kk24 Kc1 (cf_X1_all X 24 (gi w 23 6) hk_isCh_24 w) lk_X10_83 (Nat.le_of_ble_eq_true rfl) (Nat.le_of_ble_eq_true rfl) rfl rfl (Nat.le_of_ble_eq_true rfl) dX10_note_51 (fun r2 => ?_)
    refine e_lstore_n (pc := 54) (lv' := [(1, .long r2), (0, .ref (xa X 23))]) dX10_note_54 rfl (Nat.le_of_ble_eq_true rfl) rfl ?_
    refine e_lload_n (pc := 55) dX10_note_55 0 rfl rfl ?_
    refine e_aload_n (pc := 56) dX10_note_56 1 rfl rfl ?_
    refine g_L (pc := 57) kk23 fl_X10_44 dX10_note_57 ?_
    refine e_lcmp_gt (pc := 60) (tgt := 65) dX10_note_60 dX10_note_61 (by decide) (fun _ => ?_) (fun _ => ?_)
    · refine e_aload_n (pc := 65) dX10_note_65 1 rfl rfl ?_
      refine e_lload_n (pc := 66) dX10_note_66 0 rfl rfl ?_
      refine p_L (pc := 67) kk23 fp_X10_44 dX10_note_67 (fun w3 => ?_)
      refine e_aload_n (pc := 70) dX10_note_70 1 rfl rfl ?_
      refine g_R (pc := 71) (cl' := 28) kk23 fl_X10_25 rfl dX10_note_71 ?_
      refine e_iconst (pc := 74) (v := (0 : Int32)) dX10_note_74 ic_0 ?_
      refine e_aload_n (pc := 75) dX10_note_75 1 rfl rfl ?_
      refine g_R (pc := 76) (cl' := 30) kk23 fl_X10_31 rfl dX10_note_76 ?_
      refine e_iconst (pc := 79) (v := (0 : Int32)) dX10_note_79 ic_0 ?_
      refine e_aload_n (pc := 80) dX10_note_80 1 rfl rfl ?_
      refine g_I (pc := 81) kk23 fl_X10_34 dX10_note_81 ?_
      refine e_cyI (pc := 84) kk28 kk30 lcp_X10_86 (Nat.le_of_ble_eq_true rfl) (Nat.le_of_ble_eq_true rfl) dX10_note_84 (fun w4 => ?_)
      exact e_vret rfl dX10_note_87
    · exact e_vret rfl dX10_note_64
  · refine e_aload_n (pc := 20) dX10_note_20 0 rfl rfl ?_
    refine g_R (pc := 21) (cl' := 29) kk23 fl_X10_28 rfl dX10_note_21 ?_
    refine e_iload_n (pc := 24) dX10_note_24 1 rfl rfl ?_
    refine e_dup2 (pc := 25) dX10_note_25 rfl rfl ?_
    refine e_iald (pc := 26) kk29 dX10_note_26 (fun v5 => ?_)
    refine e_iconst (pc := 27) (v := (1 : Int32)) dX10_note_27 ic_1 ?_
    refine e_aload_n (pc := 28) dX10_note_28 0 rfl rfl ?_
    refine g_R (pc := 29) (cl' := 28) kk23 fl_X10_25 rfl dX10_note_29 ?_
    refine e_iload_n (pc := 32) dX10_note_32 1 rfl rfl ?_
    refine e_iald (pc := 33) kk28 dX10_note_33 (fun v6 => ?_)
    refine e_ishl (pc := 34) dX10_note_34 ?_
    refine e_ior (pc := 35) dX10_note_35 ?_
    refine e_iast (pc := 36) kk29 dX10_note_36 (fun w7 => ?_)
    refine e_iinc (pc := 37) (lv' := [(1, .int (x1 + (1 : Int32))), (0, .ref (xa X 23))]) dX10_note_37 1 rfl (ii_1 _) (Nat.le_of_ble_eq_true rfl) rfl ?_
    refine e_goto (pc := 40) (tgt := 12) dX10_note_40 (by decide) ?_
    refine e_lv [1, 0] rfl ?_
    exact hk12 (x1 + (1 : Int32)) w7
theorem cb_X10_note_b12 (X : Xt) : ∀ (n : Nat) (x1 : Int32) (w : Wd), E gWV X m_X10_note 3 12 [(0, .ref (xa X 23)), (1, .int x1)] [] w (f_X10_note_b12 n x1 w) := by
  intro n
  induction n with
  | zero =>
    intro x1 w
    exact E_none
  | succ n ih =>
    intro x1 w
    exact cb_X10_note_b12_y X _ ih x1 w
set_option maxRecDepth 100000 in
set_option maxHeartbeats 4000000 in
theorem ce_X10_note (X : Xt) (w : Wd) : E gWV X m_X10_note 3 0 [(0, .ref (xa X 23))] [] w (f_X10_note w) := by
  unfold f_X10_note
  refine e_aload_n (pc := 0) dX10_note_0 0 rfl rfl ?_
  refine e_dup (pc := 1) dX10_note_1 rfl ?_
  refine g_I (pc := 2) kk23 fl_X10_41 dX10_note_2 ?_
  refine e_iconst (pc := 5) (v := (1 : Int32)) dX10_note_5 ic_1 ?_
  refine e_iadd (pc := 6) dX10_note_6 ?_
  refine p_I (pc := 7) kk23 fp_X10_41 dX10_note_7 (fun w1 => ?_)
  refine e_iconst (pc := 10) (v := (0 : Int32)) dX10_note_10 ic_0 ?_
  refine e_istore_n (pc := 11) (lv' := [(1, .int (0 : Int32)), (0, .ref (xa X 23))]) dX10_note_11 rfl (Nat.le_of_ble_eq_true rfl) rfl ?_
  refine e_lv [1, 0] rfl ?_
  exact cb_X10_note_b12 X fu (0 : Int32) w1
theorem cf_X10_note (X : Xt) (w : Wd) : CF gWV X m_X10_note 3 [.ref (xa X 23)] w (f_X10_note w) := CF_of (by decide) (Nat.le_of_ble_eq_true rfl) (ce_X10_note X w)
set_option maxRecDepth 100000 in
set_option maxHeartbeats 4000000 in
theorem ce_X10_canHaveFound (X : Xt) (a1 : Int32) (a2 : Int32) (w : Wd) : E gWI X m_X10_canHaveFound 3 0 [(0, .ref (xa X 23)), (1, .int a1), (2, .int a2)] [] w (f_X10_canHaveFound a1 a2 w) := by
  unfold f_X10_canHaveFound
  refine e_aload_n (pc := 0) dX10_canHaveFound_0 0 rfl rfl ?_
  refine g_R (pc := 1) (cl' := 24) kk23 fl_X10_12 rfl dX10_canHaveFound_1 ?_
  refine e_iload_n (pc := 4) dX10_canHaveFound_4 2 rfl rfl ?_
  refine e_aload_n (pc := 5) dX10_canHaveFound_5 0 rfl rfl ?_
  refine g_R (pc := 6) (cl' := 26) kk23 fl_X10_18 rfl dX10_canHaveFound_6 ?_
  refine e_iload_n (pc := 9) dX10_canHaveFound_9 1 rfl rfl ?_
  refine e_iconst (pc := 10) (v := (4 : Int32)) dX10_canHaveFound_10 ic_4 ?_
  refine e_imul (pc := 11) dX10_canHaveFound_11 ?_
  refine e_iload_n (pc := 12) dX10_canHaveFound_12 2 rfl rfl ?_
  refine e_iadd (pc := 13) dX10_canHaveFound_13 ?_
  refine e_iald (pc := 14) kk26 dX10_canHaveFound_14 (fun v1 => ?_)
  refine e_aload_n (pc := 15) dX10_canHaveFound_15 0 rfl rfl ?_
  refine g_R (pc := 16) (cl' := 27) kk23 fl_X10_22 rfl dX10_canHaveFound_16 ?_
  refine e_iload_n (pc := 19) dX10_canHaveFound_19 2 rfl rfl ?_
  refine e_iald (pc := 20) kk27 dX10_canHaveFound_20 (fun v2 => ?_)
  refine e_callVWV (pc := 21) (As := [.int a2, .int v1, .int v2]) (rest := []) kk24 Kc1 (cf_X1_step X 24 a2 v1 v2 hk_isCh_24 w) lk_X10_79 (Nat.le_of_ble_eq_true rfl) (Nat.le_of_ble_eq_true rfl) rfl rfl (Nat.le_of_ble_eq_true rfl) dX10_canHaveFound_21 (fun w3 => ?_)
  refine e_aload_n (pc := 24) dX10_canHaveFound_24 0 rfl rfl ?_
  refine g_R (pc := 25) (cl' := 24) kk23 fl_X10_12 rfl dX10_canHaveFound_25 ?_
  refine e_iload_n (pc := 28) dX10_canHaveFound_28 2 rfl rfl ?_
  refine e_iconst (pc := 29) (v := (1 : Int32)) dX10_canHaveFound_29 ic_1 ?_
  refine e_iadd (pc := 30) dX10_canHaveFound_30 ?_
  refine e_callVRL (pc := 31) (As := [.int (a2 + (1 : Int32))]) (rest := []) kk24 Kc1 (cf_X1_all X 24 (a2 + (1 : Int32)) hk_isCh_24 w3) lk_X10_83 (Nat.le_of_ble_eq_true rfl) (Nat.le_of_ble_eq_true rfl) rfl rfl (Nat.le_of_ble_eq_true rfl) dX10_canHaveFound_31 (fun r4 => ?_)
  refine e_lconst (pc := 34) (v := (0 : Int64)) dX10_canHaveFound_34 lc_0 ?_
  refine e_lcmp_le (pc := 35) (tgt := 43) dX10_canHaveFound_35 dX10_canHaveFound_36 (by decide) (fun _ => ?_) (fun _ => ?_)
  · refine e_iconst (pc := 43) (v := (0 : Int32)) dX10_canHaveFound_43 ic_0 ?_
    exact e_zretW0 rfl (by decide) dX10_canHaveFound_44
  · refine e_iconst (pc := 39) (v := (1 : Int32)) dX10_canHaveFound_39 ic_1 ?_
    refine e_goto (pc := 40) (tgt := 44) dX10_canHaveFound_40 (by decide) ?_
    exact e_zretW0 rfl (by decide) dX10_canHaveFound_44
theorem cf_X10_canHaveFound (X : Xt) (a1 : Int32) (a2 : Int32) (w : Wd) : CF gWI X m_X10_canHaveFound 3 [.ref (xa X 23), .int a1, .int a2] w (f_X10_canHaveFound a1 a2 w) := CF_of (by decide) (Nat.le_of_ble_eq_true rfl) (ce_X10_canHaveFound X a1 a2 w)
set_option maxRecDepth 100000 in
set_option maxHeartbeats 4000000 in
theorem cb_X10_goOn_b52 (X : Xt) {dd : Nat} (hb : 4 ≤ dd) (r_X10_goOn : Int32 → Wd → Option Wd) (hr_X10_goOn : ∀ (a1 : Int32) (w : Wd), CF gWV X m_X10_goOn dd [.ref (xa X 23), .int a1] w (r_X10_goOn a1 w)) (k15 : Int32 → Int32 → Wd → Option Wd) (hk15 : ∀ (x1 : Int32) (x2 : Int32)  (w : Wd), E gWV X m_X10_goOn (dd + 1) 15 [(0, .ref (xa X 23)), (1, .int x1), (2, .int x2)] [] w (k15 x1 x2 w)) (x1 : Int32) (x2 : Int32) (w : Wd) : E gWV X m_X10_goOn (dd + 1) 52 [(0, .ref (xa X 23)), (1, .int x1), (2, .int x2)] [] w (f_X10_goOn_b52 r_X10_goOn k15 x1 x2 w) := by
  unfold f_X10_goOn_b52
  refine e_iinc (pc := 52) (lv' := [(2, .int (x2 + (1 : Int32))), (0, .ref (xa X 23)), (1, .int x1)]) dX10_goOn_52 2 rfl (ii_1 _) (Nat.le_of_ble_eq_true rfl) rfl ?_
  refine e_goto (pc := 55) (tgt := 15) dX10_goOn_55 (by decide) ?_
  refine e_lv [1, 2, 0] rfl ?_
  exact hk15 x1 (x2 + (1 : Int32)) w
set_option maxRecDepth 100000 in
set_option maxHeartbeats 4000000 in
theorem cb_X10_goOn_b15_y (X : Xt) {dd : Nat} (hb : 4 ≤ dd) (r_X10_goOn : Int32 → Wd → Option Wd) (hr_X10_goOn : ∀ (a1 : Int32) (w : Wd), CF gWV X m_X10_goOn dd [.ref (xa X 23), .int a1] w (r_X10_goOn a1 w)) (k15 : Int32 → Int32 → Wd → Option Wd) (hk15 : ∀ (x1 : Int32) (x2 : Int32)  (w : Wd), E gWV X m_X10_goOn (dd + 1) 15 [(0, .ref (xa X 23)), (1, .int x1), (2, .int x2)] [] w (k15 x1 x2 w)) (x1 : Int32) (x2 : Int32) (w : Wd) : E gWV X m_X10_goOn (dd + 1) 15 [(0, .ref (xa X 23)), (1, .int x1), (2, .int x2)] [] w (f_X10_goOn_b15_y r_X10_goOn k15 x1 x2 w) := by
  unfold f_X10_goOn_b15_y
  refine e_iload_n (pc := 15) dX10_goOn_15 2 rfl rfl ?_
  refine e_aload_n (pc := 16) dX10_goOn_16 0 rfl rfl ?_
  refine g_I (pc := 17) kk23 fl_X10_38 dX10_goOn_17 ?_
  refine e_icmp_ge (pc := 20) (tgt := 58) dX10_goOn_20 (by decide) (fun _ => ?_) (fun _ => ?_)
  · exact e_vret rfl dX10_goOn_58
  · refine e_iload_n (pc := 23) dX10_goOn_23 2 rfl rfl ?_
    refine e_bipush (pc := 24) (v := (6 : Int32)) dX10_goOn_24 bp_6 ?_
    refine e_icmp_ge (pc := 26) (tgt := 58) dX10_goOn_26 (by decide) (fun _ => ?_) (fun _ => ?_)
    · exact e_vret rfl dX10_goOn_58
    · refine e_aload_n (pc := 29) dX10_goOn_29 0 rfl rfl ?_
      refine g_R (pc := 30) (cl' := 28) kk23 fl_X10_25 rfl dX10_goOn_30 ?_
      refine e_iload_n (pc := 33) dX10_goOn_33 1 rfl rfl ?_
      refine e_iload_n (pc := 34) dX10_goOn_34 2 rfl rfl ?_
      refine e_iast (pc := 35) kk28 dX10_goOn_35 (fun w1 => ?_)
      refine e_aload_n (pc := 36) dX10_goOn_36 0 rfl rfl ?_
      refine e_iload_n (pc := 37) dX10_goOn_37 2 rfl rfl ?_
      refine e_iload_n (pc := 38) dX10_goOn_38 1 rfl rfl ?_
      refine e_callVWI (pc := 39) (As := [.int x2, .int x1]) (rest := []) kk23 Kc10 (cf_X10_canHaveFound X x2 x1 w1) lk_X10_75 (by omega) (Nat.le_of_ble_eq_true rfl) rfl rfl (Nat.le_of_ble_eq_true rfl) dX10_goOn_39 (fun r2 w3 => ?_)
      refine e_if_eq (pc := 42) (tgt := 52) dX10_goOn_42 (by decide) (fun _ => ?_) (fun _ => ?_)
      · refine e_lv [0, 1, 2] rfl ?_
        exact cb_X10_goOn_b52 X hb r_X10_goOn hr_X10_goOn k15 hk15 x1 x2 w3
      · refine e_aload_n (pc := 45) dX10_goOn_45 0 rfl rfl ?_
        refine e_iload_n (pc := 46) dX10_goOn_46 1 rfl rfl ?_
        refine e_iconst (pc := 47) (v := (1 : Int32)) dX10_goOn_47 ic_1 ?_
        refine e_iadd (pc := 48) dX10_goOn_48 ?_
        refine e_callVWV (pc := 49) (As := [.int (x1 + (1 : Int32))]) (rest := []) kk23 Kc10 (hr_X10_goOn (x1 + (1 : Int32)) w3) lk_X10_52 (Nat.le_refl _) (Nat.le_of_ble_eq_true rfl) rfl rfl (Nat.le_of_ble_eq_true rfl) dX10_goOn_49 (fun w4 => ?_)
        refine e_lv [0, 1, 2] rfl ?_
        exact cb_X10_goOn_b52 X hb r_X10_goOn hr_X10_goOn k15 hk15 x1 x2 w4
theorem cb_X10_goOn_b15 (X : Xt) {dd : Nat} (hb : 4 ≤ dd) (r_X10_goOn : Int32 → Wd → Option Wd) (hr_X10_goOn : ∀ (a1 : Int32) (w : Wd), CF gWV X m_X10_goOn dd [.ref (xa X 23), .int a1] w (r_X10_goOn a1 w)) : ∀ (n : Nat) (x1 : Int32) (x2 : Int32) (w : Wd), E gWV X m_X10_goOn (dd + 1) 15 [(0, .ref (xa X 23)), (1, .int x1), (2, .int x2)] [] w (f_X10_goOn_b15 r_X10_goOn n x1 x2 w) := by
  intro n
  induction n with
  | zero =>
    intro x1 x2 w
    exact E_none
  | succ n ih =>
    intro x1 x2 w
    exact cb_X10_goOn_b15_y X hb r_X10_goOn hr_X10_goOn _ ih x1 x2 w
set_option maxRecDepth 100000 in
set_option maxHeartbeats 4000000 in
theorem ce_X10_goOn (X : Xt) {dd : Nat} (hb : 4 ≤ dd) (r_X10_goOn : Int32 → Wd → Option Wd) (hr_X10_goOn : ∀ (a1 : Int32) (w : Wd), CF gWV X m_X10_goOn dd [.ref (xa X 23), .int a1] w (r_X10_goOn a1 w)) (a1 : Int32) (w : Wd) : E gWV X m_X10_goOn (dd + 1) 0 [(0, .ref (xa X 23)), (1, .int a1)] [] w (f_X10_goOn_y r_X10_goOn a1 w) := by
  unfold f_X10_goOn_y
  refine e_iload_n (pc := 0) dX10_goOn_0 1 rfl rfl ?_
  refine e_aload_n (pc := 1) dX10_goOn_1 0 rfl rfl ?_
  refine g_I (pc := 2) kk23 fl_X10_34 dX10_goOn_2 ?_
  refine e_icmp_lt (pc := 5) (tgt := 13) dX10_goOn_5 (by decide) (fun _ => ?_) (fun _ => ?_)
  · refine e_iconst (pc := 13) (v := (0 : Int32)) dX10_goOn_13 ic_0 ?_
    refine e_istore_n (pc := 14) (lv' := [(2, .int (0 : Int32)), (0, .ref (xa X 23)), (1, .int a1)]) dX10_goOn_14 rfl (Nat.le_of_ble_eq_true rfl) rfl ?_
    refine e_lv [1, 2, 0] rfl ?_
    exact cb_X10_goOn_b15 X hb r_X10_goOn hr_X10_goOn fu a1 (0 : Int32) w
  · refine e_aload_n (pc := 8) dX10_goOn_8 0 rfl rfl ?_
    refine e_callVWV (pc := 9) (As := []) (rest := []) kk23 Kc10 (cf_X10_note X w) lk_X10_72 (by omega) (Nat.le_of_ble_eq_true rfl) rfl rfl (Nat.le_of_ble_eq_true rfl) dX10_goOn_9 (fun w5 => ?_)
    exact e_vret rfl dX10_goOn_12
set_option maxRecDepth 100000 in
theorem cs_X10_goOn (X : Xt) : ∀ n : Nat, (∀ (a1 : Int32) (w : Wd), CF gWV X m_X10_goOn (4 + n) [.ref (xa X 23), .int a1] w (f_X10_goOn n a1 w)) := by
  intro n
  induction n with
  | zero => exact fun _ _ => CF_none
  | succ n ih =>
    have ih0 := ih
    exact fun a1 w => CF_of (by decide) (Nat.le_of_ble_eq_true rfl) (ce_X10_goOn X (Nat.le_add_right _ _) (f_X10_goOn n) ih0 a1 w)
theorem cf_X10_goOn (X : Xt) (n : Nat) (a1 : Int32) (w : Wd) : CF gWV X m_X10_goOn (4 + n) [.ref (xa X 23), .int a1] w (f_X10_goOn n a1 w) := cs_X10_goOn X n a1 w
set_option maxRecDepth 100000 in
set_option maxHeartbeats 4000000 in
theorem cb_X10_hear_b49 (X : Xt) (w : Wd) : E gWV X m_X10_hear 85 49 [(0, .ref (xa X 23))] [] w (f_X10_hear_b49 w) := by
  unfold f_X10_hear_b49
  refine e_aload_n (pc := 49) dX10_hear_49 0 rfl rfl ?_
  refine e_iconst (pc := 50) (v := (0 : Int32)) dX10_hear_50 ic_0 ?_
  refine e_callVWV (pc := 51) (As := [.int (0 : Int32)]) (rest := []) kk23 Kc10 (cf_X10_goOn X rf (0 : Int32) w) lk_X10_52 (Nat.le_of_ble_eq_true rfl) (Nat.le_of_ble_eq_true rfl) rfl rfl (Nat.le_of_ble_eq_true rfl) dX10_hear_51 (fun w5 => ?_)
  exact e_vret rfl dX10_hear_54
set_option maxRecDepth 100000 in
set_option maxHeartbeats 4000000 in
theorem cb_X10_hear_b20_y (X : Xt) (k20 : Nat → Wd → Option Wd) (hk20 : ∀ (c1 : Nat) (hc1 : isShf c1) (w : Wd), E gWV X m_X10_hear 85 20 [(0, .ref (xa X 23)), (1, .ref (xa X c1))] [] w (k20 c1 w)) (c1 : Nat) (hc1 : isShf c1) (w : Wd) : E gWV X m_X10_hear 85 20 [(0, .ref (xa X 23)), (1, .ref (xa X c1))] [] w (f_X10_hear_b20_y k20 c1 w) := by
  unfold f_X10_hear_b20_y
  refine e_aload_n (pc := 20) dX10_hear_20 0 rfl rfl ?_
  refine g_I (pc := 21) kk23 fl_X10_34 dX10_hear_21 ?_
  refine e_iconst (pc := 24) (v := (4 : Int32)) dX10_hear_24 ic_4 ?_
  refine e_icmp_ge (pc := 25) (tgt := 49) dX10_hear_25 (by decide) (fun _ => ?_) (fun _ => ?_)
  · refine e_lv [0] rfl ?_
    exact cb_X10_hear_b49 X w
  · refine e_aload_n (pc := 28) dX10_hear_28 0 rfl rfl ?_
    refine e_aload_n (pc := 29) dX10_hear_29 1 rfl rfl ?_
    refine e_callVWI (pc := 30) (As := [.ref (xa X c1)]) (rest := []) kk23 Kc10 (cf_X10_hearOne X c1 hc1 w) lk_X10_48 (Nat.le_of_ble_eq_true rfl) (Nat.le_of_ble_eq_true rfl) rfl rfl (Nat.le_of_ble_eq_true rfl) dX10_hear_30 (fun r6 w7 => ?_)
    refine e_if_eq (pc := 33) (tgt := 49) dX10_hear_33 (by decide) (fun _ => ?_) (fun _ => ?_)
    · refine e_lv [0] rfl ?_
      exact cb_X10_hear_b49 X w7
    · refine e_aload_n (pc := 36) dX10_hear_36 0 rfl rfl ?_
      refine e_dup (pc := 37) dX10_hear_37 rfl ?_
      refine g_I (pc := 38) kk23 fl_X10_34 dX10_hear_38 ?_
      refine e_iconst (pc := 41) (v := (1 : Int32)) dX10_hear_41 ic_1 ?_
      refine e_iadd (pc := 42) dX10_hear_42 ?_
      refine p_I (pc := 43) kk23 fp_X10_34 dX10_hear_43 (fun w8 => ?_)
      refine e_goto (pc := 46) (tgt := 20) dX10_hear_46 (by decide) ?_
      refine e_lv [0, 1] rfl ?_
      exact hk20 c1 hc1 w8
theorem cb_X10_hear_b20 (X : Xt) : ∀ (n : Nat) (c1 : Nat) (hc1 : isShf c1) (w : Wd), E gWV X m_X10_hear 85 20 [(0, .ref (xa X 23)), (1, .ref (xa X c1))] [] w (f_X10_hear_b20 n c1 w) := by
  intro n
  induction n with
  | zero =>
    intro c1 hc1 w
    exact E_none
  | succ n ih =>
    intro c1 hc1 w
    exact cb_X10_hear_b20_y X _ ih c1 hc1 w
set_option maxRecDepth 100000 in
set_option maxHeartbeats 4000000 in
theorem ce_X10_hear (X : Xt) (c1 : Nat) (a2 : Int32) (hc1 : isShf c1) (w : Wd) : E gWV X m_X10_hear 85 0 [(0, .ref (xa X 23)), (1, .ref (xa X c1)), (2, .int a2)] [] w (f_X10_hear c1 a2 w) := by
  unfold f_X10_hear
  refine e_aload_n (pc := 0) dX10_hear_0 0 rfl rfl ?_
  refine e_iconst (pc := 1) (v := (0 : Int32)) dX10_hear_1 ic_0 ?_
  refine p_I (pc := 2) kk23 fp_X10_34 dX10_hear_2 (fun w1 => ?_)
  refine e_aload_n (pc := 5) dX10_hear_5 0 rfl rfl ?_
  refine e_iload_n (pc := 6) dX10_hear_6 2 rfl rfl ?_
  refine p_I (pc := 7) kk23 fp_X10_38 dX10_hear_7 (fun w2 => ?_)
  refine e_aload_n (pc := 10) dX10_hear_10 0 rfl rfl ?_
  refine e_iconst (pc := 11) (v := (0 : Int32)) dX10_hear_11 ic_0 ?_
  refine p_I (pc := 12) kk23 fp_X10_41 dX10_hear_12 (fun w3 => ?_)
  refine e_aload_n (pc := 15) dX10_hear_15 0 rfl rfl ?_
  refine e_lconst (pc := 16) (v := (0 : Int64)) dX10_hear_16 lc_0 ?_
  refine p_L (pc := 17) kk23 fp_X10_44 dX10_hear_17 (fun w4 => ?_)
  refine e_lv [0, 1] rfl ?_
  exact cb_X10_hear_b20 X fu c1 hc1 w4
theorem cf_X10_hear (X : Xt) (c1 : Nat) (a2 : Int32) (hc1 : isShf c1) (w : Wd) : CF gWV X m_X10_hear 85 [.ref (xa X 23), .ref (xa X c1), .int a2] w (f_X10_hear c1 a2 w) := CF_of (by decide) (Nat.le_of_ble_eq_true rfl) (ce_X10_hear X c1 a2 hc1 w)
set_option maxRecDepth 100000 in
set_option maxHeartbeats 4000000 in
theorem ce_J6_bitCount_0f7a4 (X : Xt) (a0 : Int32) (w : Wd) : E (gRI w) X m_J6_bitCount_0f7a4 1 0 [(0, .int a0)] [] w (f_J6_bitCount_0f7a4 a0) := by
  unfold f_J6_bitCount_0f7a4
  refine e_iload_n (pc := 0) dJ6_bitCount_0f7a4_0 0 rfl rfl ?_
  refine e_iload_n (pc := 1) dJ6_bitCount_0f7a4_1 0 rfl rfl ?_
  refine e_iconst (pc := 2) (v := (1 : Int32)) dJ6_bitCount_0f7a4_2 ic_1 ?_
  refine e_iushr (pc := 3) dJ6_bitCount_0f7a4_3 ?_
  refine e_ldc_w (pc := 4) (v := (1431655765 : Int32)) dJ6_bitCount_0f7a4_4 co_J6_265 ?_
  refine e_iand (pc := 7) dJ6_bitCount_0f7a4_7 ?_
  refine e_isub (pc := 8) dJ6_bitCount_0f7a4_8 ?_
  refine e_nameI (fun y1 => ?_)
  refine e_istore_n (pc := 9) (lv' := [(0, .int y1)]) dJ6_bitCount_0f7a4_9 rfl (Nat.le_of_ble_eq_true rfl) rfl ?_
  refine e_iload_n (pc := 10) dJ6_bitCount_0f7a4_10 0 rfl rfl ?_
  refine e_ldc_w (pc := 11) (v := (858993459 : Int32)) dJ6_bitCount_0f7a4_11 co_J6_266 ?_
  refine e_iand (pc := 14) dJ6_bitCount_0f7a4_14 ?_
  refine e_iload_n (pc := 15) dJ6_bitCount_0f7a4_15 0 rfl rfl ?_
  refine e_iconst (pc := 16) (v := (2 : Int32)) dJ6_bitCount_0f7a4_16 ic_2 ?_
  refine e_iushr (pc := 17) dJ6_bitCount_0f7a4_17 ?_
  refine e_ldc_w (pc := 18) (v := (858993459 : Int32)) dJ6_bitCount_0f7a4_18 co_J6_266 ?_
  refine e_iand (pc := 21) dJ6_bitCount_0f7a4_21 ?_
  refine e_iadd (pc := 22) dJ6_bitCount_0f7a4_22 ?_
  refine e_nameI (fun y2 => ?_)
  refine e_istore_n (pc := 23) (lv' := [(0, .int y2)]) dJ6_bitCount_0f7a4_23 rfl (Nat.le_of_ble_eq_true rfl) rfl ?_
  refine e_iload_n (pc := 24) dJ6_bitCount_0f7a4_24 0 rfl rfl ?_
  refine e_iload_n (pc := 25) dJ6_bitCount_0f7a4_25 0 rfl rfl ?_
  refine e_iconst (pc := 26) (v := (4 : Int32)) dJ6_bitCount_0f7a4_26 ic_4 ?_
  refine e_iushr (pc := 27) dJ6_bitCount_0f7a4_27 ?_
  refine e_iadd (pc := 28) dJ6_bitCount_0f7a4_28 ?_
  refine e_ldc_w (pc := 29) (v := (252645135 : Int32)) dJ6_bitCount_0f7a4_29 co_J6_267 ?_
  refine e_iand (pc := 32) dJ6_bitCount_0f7a4_32 ?_
  refine e_nameI (fun y3 => ?_)
  refine e_istore_n (pc := 33) (lv' := [(0, .int y3)]) dJ6_bitCount_0f7a4_33 rfl (Nat.le_of_ble_eq_true rfl) rfl ?_
  refine e_iload_n (pc := 34) dJ6_bitCount_0f7a4_34 0 rfl rfl ?_
  refine e_iload_n (pc := 35) dJ6_bitCount_0f7a4_35 0 rfl rfl ?_
  refine e_bipush (pc := 36) (v := (8 : Int32)) dJ6_bitCount_0f7a4_36 bp_8 ?_
  refine e_iushr (pc := 38) dJ6_bitCount_0f7a4_38 ?_
  refine e_iadd (pc := 39) dJ6_bitCount_0f7a4_39 ?_
  refine e_nameI (fun y4 => ?_)
  refine e_istore_n (pc := 40) (lv' := [(0, .int y4)]) dJ6_bitCount_0f7a4_40 rfl (Nat.le_of_ble_eq_true rfl) rfl ?_
  refine e_iload_n (pc := 41) dJ6_bitCount_0f7a4_41 0 rfl rfl ?_
  refine e_iload_n (pc := 42) dJ6_bitCount_0f7a4_42 0 rfl rfl ?_
  refine e_bipush (pc := 43) (v := (16 : Int32)) dJ6_bitCount_0f7a4_43 bp_16 ?_
  refine e_iushr (pc := 45) dJ6_bitCount_0f7a4_45 ?_
  refine e_iadd (pc := 46) dJ6_bitCount_0f7a4_46 ?_
  refine e_nameI (fun y5 => ?_)
  refine e_istore_n (pc := 47) (lv' := [(0, .int y5)]) dJ6_bitCount_0f7a4_47 rfl (Nat.le_of_ble_eq_true rfl) rfl ?_
  refine e_iload_n (pc := 48) dJ6_bitCount_0f7a4_48 0 rfl rfl ?_
  refine e_bipush (pc := 49) (v := (63 : Int32)) dJ6_bitCount_0f7a4_49 bp_63 ?_
  refine e_iand (pc := 51) dJ6_bitCount_0f7a4_51 ?_
  exact e_iretR rfl dJ6_bitCount_0f7a4_52
theorem cf_J6_bitCount_0f7a4 (X : Xt) (a0 : Int32) (w : Wd) : CF (gRI w) X m_J6_bitCount_0f7a4 1 [.int a0] w (f_J6_bitCount_0f7a4 a0) := CF_of (by decide) (Nat.le_of_ble_eq_true rfl) (ce_J6_bitCount_0f7a4 X a0 w)
set_option maxRecDepth 100000 in
set_option maxHeartbeats 4000000 in
theorem ce_X10_sureBy (X : Xt) (a1 : Int32) (w : Wd) : E (gRI w) X m_X10_sureBy 2 0 [(0, .ref (xa X 23)), (1, .int a1)] [] w (f_X10_sureBy a1 w) := by
  unfold f_X10_sureBy
  refine e_iload_n (pc := 0) dX10_sureBy_0 1 rfl rfl ?_
  refine e_if_lt (pc := 1) (tgt := 12) dX10_sureBy_1 (by decide) (fun _ => ?_) (fun _ => ?_)
  · refine e_iconst (pc := 12) (v := (-1 : Int32)) dX10_sureBy_12 ic_m1 ?_
    exact e_iretR rfl dX10_sureBy_13
  · refine e_iload_n (pc := 4) dX10_sureBy_4 1 rfl rfl ?_
    refine e_aload_n (pc := 5) dX10_sureBy_5 0 rfl rfl ?_
    refine g_I (pc := 6) kk23 fl_X10_34 dX10_sureBy_6 ?_
    refine e_icmp_lt (pc := 9) (tgt := 14) dX10_sureBy_9 (by decide) (fun _ => ?_) (fun _ => ?_)
    · refine e_aload_n (pc := 14) dX10_sureBy_14 0 rfl rfl ?_
      refine g_R (pc := 15) (cl' := 29) kk23 fl_X10_28 rfl dX10_sureBy_15 ?_
      refine e_iload_n (pc := 18) dX10_sureBy_18 1 rfl rfl ?_
      refine e_iald (pc := 19) kk29 dX10_sureBy_19 (fun v1 => ?_)
      refine e_callSRI (pc := 20) (As := [.int v1]) (rest := []) (cf_J6_bitCount_0f7a4 X v1 w) lk_X10_92 (Nat.le_of_ble_eq_true rfl) (Nat.le_of_ble_eq_true rfl) rfl rfl (Nat.le_of_ble_eq_true rfl) dX10_sureBy_20 (fun r2 => ?_)
      refine e_iconst (pc := 23) (v := (1 : Int32)) dX10_sureBy_23 ic_1 ?_
      refine e_icmp_ne (pc := 24) (tgt := 36) dX10_sureBy_24 (by decide) (fun _ => ?_) (fun _ => ?_)
      · refine e_aload_n (pc := 27) dX10_sureBy_27 0 rfl rfl ?_
        refine g_R (pc := 28) (cl' := 29) kk23 fl_X10_28 rfl dX10_sureBy_28 ?_
        refine e_iload_n (pc := 31) dX10_sureBy_31 1 rfl rfl ?_
        refine e_iald (pc := 32) kk29 dX10_sureBy_32 (fun v3 => ?_)
        refine e_goto (pc := 33) (tgt := 37) dX10_sureBy_33 (by decide) ?_
        exact e_iretR rfl dX10_sureBy_37
      · refine e_iconst (pc := 36) (v := (0 : Int32)) dX10_sureBy_36 ic_0 ?_
        exact e_iretR rfl dX10_sureBy_37
    · refine e_iconst (pc := 12) (v := (-1 : Int32)) dX10_sureBy_12 ic_m1 ?_
      exact e_iretR rfl dX10_sureBy_13
theorem cf_X10_sureBy (X : Xt) (a1 : Int32) (w : Wd) : CF (gRI w) X m_X10_sureBy 2 [.ref (xa X 23), .int a1] w (f_X10_sureBy a1 w) := CF_of (by decide) (Nat.le_of_ble_eq_true rfl) (ce_X10_sureBy X a1 w)
set_option maxRecDepth 100000 in
set_option maxHeartbeats 4000000 in
theorem ce_X10_most (X : Xt) (a1 : Int32) (w : Wd) : E (gRI w) X m_X10_most 1 0 [(0, .ref (xa X 23)), (1, .int a1)] [] w (f_X10_most a1 w) := by
  unfold f_X10_most
  refine e_iload_n (pc := 0) dX10_most_0 1 rfl rfl ?_
  refine e_if_lt (pc := 1) (tgt := 12) dX10_most_1 (by decide) (fun _ => ?_) (fun _ => ?_)
  · refine e_iconst (pc := 12) (v := (-1 : Int32)) dX10_most_12 ic_m1 ?_
    exact e_iretR rfl dX10_most_13
  · refine e_iload_n (pc := 4) dX10_most_4 1 rfl rfl ?_
    refine e_aload_n (pc := 5) dX10_most_5 0 rfl rfl ?_
    refine g_I (pc := 6) kk23 fl_X10_34 dX10_most_6 ?_
    refine e_icmp_lt (pc := 9) (tgt := 14) dX10_most_9 (by decide) (fun _ => ?_) (fun _ => ?_)
    · refine e_aload_n (pc := 14) dX10_most_14 0 rfl rfl ?_
      refine g_I (pc := 15) kk23 fl_X10_41 dX10_most_15 ?_
      refine e_if_ne (pc := 18) (tgt := 26) dX10_most_18 (by decide) (fun _ => ?_) (fun _ => ?_)
      · refine e_bipush (pc := 21) (v := (-2 : Int32)) dX10_most_21 bp_m2 ?_
        refine e_goto (pc := 23) (tgt := 32) dX10_most_23 (by decide) ?_
        exact e_iretR rfl dX10_most_32
      · refine e_aload_n (pc := 26) dX10_most_26 0 rfl rfl ?_
        refine g_R (pc := 27) (cl' := 30) kk23 fl_X10_31 rfl dX10_most_27 ?_
        refine e_iload_n (pc := 30) dX10_most_30 1 rfl rfl ?_
        refine e_iald (pc := 31) kk30 dX10_most_31 (fun v1 => ?_)
        exact e_iretR rfl dX10_most_32
    · refine e_iconst (pc := 12) (v := (-1 : Int32)) dX10_most_12 ic_m1 ?_
      exact e_iretR rfl dX10_most_13
theorem cf_X10_most (X : Xt) (a1 : Int32) (w : Wd) : CF (gRI w) X m_X10_most 1 [.ref (xa X 23), .int a1] w (f_X10_most a1 w) := CF_of (by decide) (Nat.le_of_ble_eq_true rfl) (ce_X10_most X a1 w)
set_option maxRecDepth 100000 in
set_option maxHeartbeats 4000000 in
theorem ce_X11_looker (X : Xt) (a1 : Int32) (w : Wd) : E gWI X m_X11_looker 2 0 [(0, .ref (xa X 0)), (1, .int a1)] [] w (f_X11_looker a1 w) := by
  unfold f_X11_looker
  refine e_iload_n (pc := 0) dX11_looker_0 1 rfl rfl ?_
  refine e_if_lt (pc := 1) (tgt := 19) dX11_looker_1 (by decide) (fun _ => ?_) (fun _ => ?_)
  · refine e_iconst (pc := 19) (v := (-1 : Int32)) dX11_looker_19 ic_m1 ?_
    exact e_iretW rfl dX11_looker_20
  · refine e_aload_n (pc := 4) dX11_looker_4 0 rfl rfl ?_
    refine g_R (pc := 5) (cl' := 1) kk0 fl_X11_10 rfl dX11_looker_5 ?_
    refine e_iconst (pc := 8) (v := (5 : Int32)) dX11_looker_8 ic_5 ?_
    refine e_iload_n (pc := 9) dX11_looker_9 1 rfl rfl ?_
    refine e_bipush (pc := 10) (v := (100 : Int32)) dX11_looker_10 bp_100 ?_
    refine e_idiv (pc := 12) dX11_looker_12 (by decide) ?_
    refine e_callVRI (pc := 13) (As := [.int (5 : Int32), .int (a1 / (100 : Int32))]) (rest := []) kk1 Kc6 (cf_X6_mayBe X (5 : Int32) (a1 / (100 : Int32)) w) lk_X11_93 (Nat.le_of_ble_eq_true rfl) (Nat.le_of_ble_eq_true rfl) rfl rfl (Nat.le_of_ble_eq_true rfl) dX11_looker_13 (fun r1 => ?_)
    refine e_if_ne (pc := 16) (tgt := 21) dX11_looker_16 (by decide) (fun _ => ?_) (fun _ => ?_)
    · refine e_iconst (pc := 19) (v := (-1 : Int32)) dX11_looker_19 ic_m1 ?_
      exact e_iretW rfl dX11_looker_20
    · refine e_aload_n (pc := 21) dX11_looker_21 0 rfl rfl ?_
      refine g_R (pc := 22) (cl' := 1) kk0 fl_X11_10 rfl dX11_looker_22 ?_
      refine e_iload_n (pc := 25) dX11_looker_25 1 rfl rfl ?_
      refine e_bipush (pc := 26) (v := (100 : Int32)) dX11_looker_26 bp_100 ?_
      refine e_idiv (pc := 28) dX11_looker_28 (by decide) ?_
      refine e_iload_n (pc := 29) dX11_looker_29 1 rfl rfl ?_
      refine e_bipush (pc := 30) (v := (100 : Int32)) dX11_looker_30 bp_100 ?_
      refine e_irem (pc := 32) dX11_looker_32 (by decide) ?_
      refine e_callVWI (pc := 33) (As := [.int (a1 / (100 : Int32)), .int (ire a1 (100 : Int32))]) (rest := []) kk1 Kc6 (cf_X6_addLooker X (a1 / (100 : Int32)) (ire a1 (100 : Int32)) w) lk_X11_97 (Nat.le_of_ble_eq_true rfl) (Nat.le_of_ble_eq_true rfl) rfl rfl (Nat.le_of_ble_eq_true rfl) dX11_looker_33 (fun r2 w3 => ?_)
      exact e_iretW rfl dX11_looker_36
theorem cf_X11_looker (X : Xt) (a1 : Int32) (w : Wd) : CF gWI X m_X11_looker 2 [.ref (xa X 0), .int a1] w (f_X11_looker a1 w) := CF_of (by decide) (Nat.le_of_ble_eq_true rfl) (ce_X11_looker X a1 w)
set_option maxRecDepth 100000 in
set_option maxHeartbeats 4000000 in
theorem ce_X11_isShelf (X : Xt) (a0 : Int32) (w : Wd) : E (gRI w) X m_X11_isShelf 1 0 [(0, .int a0)] [] w (f_X11_isShelf a0) := by
  unfold f_X11_isShelf
  refine e_iload_n (pc := 0) dX11_isShelf_0 0 rfl rfl ?_
  refine e_if_lt (pc := 1) (tgt := 14) dX11_isShelf_1 (by decide) (fun _ => ?_) (fun _ => ?_)
  · refine e_iconst (pc := 14) (v := (0 : Int32)) dX11_isShelf_14 ic_0 ?_
    exact e_zretR0 rfl (by decide) dX11_isShelf_15
  · refine e_iload_n (pc := 4) dX11_isShelf_4 0 rfl rfl ?_
    refine e_bipush (pc := 5) (v := (6 : Int32)) dX11_isShelf_5 bp_6 ?_
    refine e_icmp_ge (pc := 7) (tgt := 14) dX11_isShelf_7 (by decide) (fun _ => ?_) (fun _ => ?_)
    · refine e_iconst (pc := 14) (v := (0 : Int32)) dX11_isShelf_14 ic_0 ?_
      exact e_zretR0 rfl (by decide) dX11_isShelf_15
    · refine e_iconst (pc := 10) (v := (1 : Int32)) dX11_isShelf_10 ic_1 ?_
      refine e_goto (pc := 11) (tgt := 15) dX11_isShelf_11 (by decide) ?_
      exact e_zretR0 rfl (by decide) dX11_isShelf_15
theorem cf_X11_isShelf (X : Xt) (a0 : Int32) (w : Wd) : CF (gRI w) X m_X11_isShelf 1 [.int a0] w (f_X11_isShelf a0) := CF_of (by decide) (Nat.le_of_ble_eq_true rfl) (ce_X11_isShelf X a0 w)
set_option maxRecDepth 100000 in
set_option maxHeartbeats 4000000 in
theorem ce_X11_cameFrom (X : Xt) (c1 : Nat) (a2 : Int32) (a3 : Int32) (hc1 : isShf c1) (w : Wd) : E gWI X m_X11_cameFrom 3 0 [(0, .ref (xa X 0)), (1, .ref (xa X c1)), (2, .int a2), (3, .int a3)] [] w (f_X11_cameFrom c1 a2 a3 w) := by
  unfold f_X11_cameFrom
  refine e_aload_n (pc := 0) dX11_cameFrom_0 0 rfl rfl ?_
  refine g_R (pc := 1) (cl' := 1) kk0 fl_X11_10 rfl dX11_cameFrom_1 ?_
  refine g_I (pc := 4) kk1 fl_X11_215 dX11_cameFrom_4 ?_
  refine e_bipush (pc := 7) (v := (6 : Int32)) dX11_cameFrom_7 bp_6 ?_
  refine e_icmp_eq (pc := 9) (tgt := 20) dX11_cameFrom_9 (by decide) (fun _ => ?_) (fun _ => ?_)
  · refine e_iconst (pc := 20) (v := (0 : Int32)) dX11_cameFrom_20 ic_0 ?_
    exact e_zretW0 rfl (by decide) dX11_cameFrom_21
  · refine e_aload_n (pc := 12) dX11_cameFrom_12 1 rfl rfl ?_
    refine e_iload_n (pc := 13) dX11_cameFrom_13 2 rfl rfl ?_
    refine e_callVRI (pc := 14) (As := [.int a2]) (rest := []) hc1.1 Kc9 (cf_X9_hasPlace X c1 a2 hc1 w) lk_X11_360 (Nat.le_of_ble_eq_true rfl) (Nat.le_of_ble_eq_true rfl) rfl rfl (Nat.le_of_ble_eq_true rfl) dX11_cameFrom_14 (fun r1 => ?_)
    refine e_if_ne (pc := 17) (tgt := 22) dX11_cameFrom_17 (by decide) (fun _ => ?_) (fun _ => ?_)
    · refine e_iconst (pc := 20) (v := (0 : Int32)) dX11_cameFrom_20 ic_0 ?_
      exact e_zretW0 rfl (by decide) dX11_cameFrom_21
    · refine e_iload_n (pc := 22) dX11_cameFrom_22 2 rfl rfl ?_
      refine e_iload_n (pc := 23) dX11_cameFrom_23 3 rfl rfl ?_
      refine e_iadd (pc := 24) dX11_cameFrom_24 ?_
      refine e_nameI (fun y2 => ?_)
      refine e_istore (pc := 25) (lv' := [(4, .int y2), (0, .ref (xa X 0)), (1, .ref (xa X c1)), (2, .int a2), (3, .int a3)]) dX11_cameFrom_25 (Nat.le_of_ble_eq_true rfl) rfl ?_
      refine e_aload_n (pc := 27) dX11_cameFrom_27 2 rfl rfl ?_
      refine e_iload (pc := 28) dX11_cameFrom_28 0 rfl ?_
      refine e_iconst (pc := 30) (v := (2 : Int32)) dX11_cameFrom_30 ic_2 ?_
      refine e_callVRI (pc := 31) (As := [.int y2, .int (2 : Int32)]) (rest := []) hc1.1 Kc9 (cf_X9_hasPlaces X c1 y2 (2 : Int32) hc1 w) lk_X11_372 (Nat.le_of_ble_eq_true rfl) (Nat.le_of_ble_eq_true rfl) rfl rfl (Nat.le_of_ble_eq_true rfl) dX11_cameFrom_31 (fun r3 => ?_)
      refine e_if_ne (pc := 34) (tgt := 39) dX11_cameFrom_34 (by decide) (fun _ => ?_) (fun _ => ?_)
      · refine e_iconst (pc := 37) (v := (0 : Int32)) dX11_cameFrom_37 ic_0 ?_
        exact e_zretW0 rfl (by decide) dX11_cameFrom_38
      · refine e_aload_n (pc := 39) dX11_cameFrom_39 2 rfl rfl ?_
        refine e_iload (pc := 40) dX11_cameFrom_40 0 rfl ?_
        refine e_callVRL (pc := 42) (As := [.int y2]) (rest := []) hc1.1 Kc9 (cf_X9_read X c1 y2 hc1 w) lk_X11_367 (Nat.le_of_ble_eq_true rfl) (Nat.le_of_ble_eq_true rfl) rfl rfl (Nat.le_of_ble_eq_true rfl) dX11_cameFrom_42 (fun r4 => ?_)
        refine e_l2i (pc := 45) dX11_cameFrom_45 ?_
        refine e_nameI (fun y5 => ?_)
        refine e_istore (pc := 46) (lv' := [(5, .int y5), (4, .int y2), (0, .ref (xa X 0)), (1, .ref (xa X c1)), (2, .int a2), (3, .int a3)]) dX11_cameFrom_46 (Nat.le_of_ble_eq_true rfl) rfl ?_
        refine e_aload_n (pc := 48) dX11_cameFrom_48 3 rfl rfl ?_
        refine e_iload (pc := 49) dX11_cameFrom_49 1 rfl ?_
        refine e_iconst (pc := 51) (v := (1 : Int32)) dX11_cameFrom_51 ic_1 ?_
        refine e_iadd (pc := 52) dX11_cameFrom_52 ?_
        refine e_callVRL (pc := 53) (As := [.int (y2 + (1 : Int32))]) (rest := []) hc1.1 Kc9 (cf_X9_read X c1 (y2 + (1 : Int32)) hc1 w) lk_X11_367 (Nat.le_of_ble_eq_true rfl) (Nat.le_of_ble_eq_true rfl) rfl rfl (Nat.le_of_ble_eq_true rfl) dX11_cameFrom_53 (fun r6 => ?_)
        refine e_l2i (pc := 56) dX11_cameFrom_56 ?_
        refine e_nameI (fun y7 => ?_)
        refine e_istore (pc := 57) (lv' := [(6, .int y7), (5, .int y5), (4, .int y2), (0, .ref (xa X 0)), (1, .ref (xa X c1)), (2, .int a2), (3, .int a3)]) dX11_cameFrom_57 (Nat.le_of_ble_eq_true rfl) rfl ?_
        refine e_aload_n (pc := 59) dX11_cameFrom_59 3 rfl rfl ?_
        refine g_R (pc := 60) (cl' := 1) kk0 fl_X11_10 rfl dX11_cameFrom_60 ?_
        refine e_iconst (pc := 63) (v := (5 : Int32)) dX11_cameFrom_63 ic_5 ?_
        refine e_iload (pc := 64) dX11_cameFrom_64 1 rfl ?_
        refine e_callVRI (pc := 66) (As := [.int (5 : Int32), .int y5]) (rest := []) kk1 Kc6 (cf_X6_mayBe X (5 : Int32) y5 w) lk_X11_93 (Nat.le_of_ble_eq_true rfl) (Nat.le_of_ble_eq_true rfl) rfl rfl (Nat.le_of_ble_eq_true rfl) dX11_cameFrom_66 (fun r8 => ?_)
        refine e_if_eq (pc := 69) (tgt := 86) dX11_cameFrom_69 (by decide) (fun _ => ?_) (fun _ => ?_)
        · refine e_iconst (pc := 86) (v := (0 : Int32)) dX11_cameFrom_86 ic_0 ?_
          exact e_zretW0 rfl (by decide) dX11_cameFrom_87
        · refine e_aload_n (pc := 72) dX11_cameFrom_72 3 rfl rfl ?_
          refine g_R (pc := 73) (cl' := 1) kk0 fl_X11_10 rfl dX11_cameFrom_73 ?_
          refine e_bipush (pc := 76) (v := (6 : Int32)) dX11_cameFrom_76 bp_6 ?_
          refine e_iload (pc := 78) dX11_cameFrom_78 0 rfl ?_
          refine e_callVRI (pc := 80) (As := [.int (6 : Int32), .int y7]) (rest := []) kk1 Kc6 (cf_X6_mayBe X (6 : Int32) y7 w) lk_X11_93 (Nat.le_of_ble_eq_true rfl) (Nat.le_of_ble_eq_true rfl) rfl rfl (Nat.le_of_ble_eq_true rfl) dX11_cameFrom_80 (fun r9 => ?_)
          refine e_if_ne (pc := 83) (tgt := 88) dX11_cameFrom_83 (by decide) (fun _ => ?_) (fun _ => ?_)
          · refine e_iconst (pc := 86) (v := (0 : Int32)) dX11_cameFrom_86 ic_0 ?_
            exact e_zretW0 rfl (by decide) dX11_cameFrom_87
          · refine e_aload_n (pc := 88) dX11_cameFrom_88 3 rfl rfl ?_
            refine g_R (pc := 89) (cl' := 1) kk0 fl_X11_10 rfl dX11_cameFrom_89 ?_
            refine e_iload (pc := 92) dX11_cameFrom_92 1 rfl ?_
            refine e_iload (pc := 94) dX11_cameFrom_94 0 rfl ?_
            refine e_callVWI (pc := 96) (As := [.int y5, .int y7]) (rest := []) kk1 Kc6 (cf_X6_addLooker X y5 y7 w) lk_X11_97 (Nat.le_of_ble_eq_true rfl) (Nat.le_of_ble_eq_true rfl) rfl rfl (Nat.le_of_ble_eq_true rfl) dX11_cameFrom_96 (fun r10 w11 => ?_)
            refine e_pop (pc := 99) dX11_cameFrom_99 rfl ?_
            refine e_iconst (pc := 100) (v := (1 : Int32)) dX11_cameFrom_100 ic_1 ?_
            exact e_zretW0 rfl (by decide) dX11_cameFrom_101
theorem cf_X11_cameFrom (X : Xt) (c1 : Nat) (a2 : Int32) (a3 : Int32) (hc1 : isShf c1) (w : Wd) : CF gWI X m_X11_cameFrom 3 [.ref (xa X 0), .ref (xa X c1), .int a2, .int a3] w (f_X11_cameFrom c1 a2 a3 w) := CF_of (by decide) (Nat.le_of_ble_eq_true rfl) (ce_X11_cameFrom X c1 a2 a3 hc1 w)
set_option maxRecDepth 100000 in
set_option maxHeartbeats 4000000 in
theorem cb_X11_lookers_b52_y (X : Xt) (k52 : Int32 → Int32 → Nat → Int32 → Wd → Option (Int32 × Wd)) (hk52 : ∀ (x2 : Int32) (x3 : Int32) (c4 : Nat) (x5 : Int32) (hc4 : isShf c4) (w : Wd), E gWI X m_X11_lookers 4 52 [(0, .ref (xa X 0)), (2, .int x2), (3, .int x3), (4, .ref (xa X c4)), (5, .int x5)] [] w (k52 x2 x3 c4 x5 w)) (x2 : Int32) (x3 : Int32) (c4 : Nat) (x5 : Int32) (hc4 : isShf c4) (w : Wd) : E gWI X m_X11_lookers 4 52 [(0, .ref (xa X 0)), (2, .int x2), (3, .int x3), (4, .ref (xa X c4)), (5, .int x5)] [] w (f_X11_lookers_b52_y k52 x2 x3 c4 x5 w) := by
  unfold f_X11_lookers_b52_y
  refine e_iload (pc := 52) dX11_lookers_52 4 rfl ?_
  refine e_iload_n (pc := 54) dX11_lookers_54 2 rfl rfl ?_
  refine e_icmp_ge (pc := 55) (tgt := 78) dX11_lookers_55 (by decide) (fun _ => ?_) (fun _ => ?_)
  · refine e_iload (pc := 78) dX11_lookers_78 4 rfl ?_
    exact e_iretW rfl dX11_lookers_80
  · refine e_aload_n (pc := 58) dX11_lookers_58 0 rfl rfl ?_
    refine e_aload (pc := 59) dX11_lookers_59 3 rfl ?_
    refine e_iload_n (pc := 61) dX11_lookers_61 1 rfl rfl ?_
    refine e_iconst (pc := 62) (v := (2 : Int32)) dX11_lookers_62 ic_2 ?_
    refine e_iload (pc := 63) dX11_lookers_63 4 rfl ?_
    refine e_imul (pc := 65) dX11_lookers_65 ?_
    refine e_callVWI (pc := 66) (As := [.ref (xa X c4), .int x2, .int ((2 : Int32) * x5)]) (rest := []) kk0 Kc11 (cf_X11_cameFrom X c4 x2 ((2 : Int32) * x5) hc4 w) lk_X11_112 (Nat.le_of_ble_eq_true rfl) (Nat.le_of_ble_eq_true rfl) rfl rfl (Nat.le_of_ble_eq_true rfl) dX11_lookers_66 (fun r5 w6 => ?_)
    refine e_if_eq (pc := 69) (tgt := 78) dX11_lookers_69 (by decide) (fun _ => ?_) (fun _ => ?_)
    · refine e_iload (pc := 78) dX11_lookers_78 4 rfl ?_
      exact e_iretW rfl dX11_lookers_80
    · refine e_iinc (pc := 72) (lv' := [(5, .int (x5 + (1 : Int32))), (0, .ref (xa X 0)), (2, .int x2), (3, .int x3), (4, .ref (xa X c4))]) dX11_lookers_72 4 rfl (ii_1 _) (Nat.le_of_ble_eq_true rfl) rfl ?_
      refine e_goto (pc := 75) (tgt := 52) dX11_lookers_75 (by decide) ?_
      refine e_lv [1, 2, 3, 4, 0] rfl ?_
      exact hk52 x2 x3 c4 (x5 + (1 : Int32)) hc4 w6
theorem cb_X11_lookers_b52 (X : Xt) : ∀ (n : Nat) (x2 : Int32) (x3 : Int32) (c4 : Nat) (x5 : Int32) (hc4 : isShf c4) (w : Wd), E gWI X m_X11_lookers 4 52 [(0, .ref (xa X 0)), (2, .int x2), (3, .int x3), (4, .ref (xa X c4)), (5, .int x5)] [] w (f_X11_lookers_b52 n x2 x3 c4 x5 w) := by
  intro n
  induction n with
  | zero =>
    intro x2 x3 c4 x5 hc4 w
    exact E_none
  | succ n ih =>
    intro x2 x3 c4 x5 hc4 w
    exact cb_X11_lookers_b52_y X _ ih x2 x3 c4 x5 hc4 w
set_option maxRecDepth 100000 in
set_option maxHeartbeats 4000000 in
theorem ce_X11_lookers (X : Xt) (a1 : Int32) (a2 : Int32) (a3 : Int32) (w : Wd) : E gWI X m_X11_lookers 4 0 [(0, .ref (xa X 0)), (1, .int a1), (2, .int a2), (3, .int a3)] [] w (f_X11_lookers a1 a2 a3 w) := by
  unfold f_X11_lookers
  refine e_iload_n (pc := 0) dX11_lookers_0 1 rfl rfl ?_
  refine e_callSRI (pc := 1) (As := [.int a1]) (rest := []) (cf_X11_isShelf X a1 w) lk_X11_101 (Nat.le_of_ble_eq_true rfl) (Nat.le_of_ble_eq_true rfl) rfl rfl (Nat.le_of_ble_eq_true rfl) dX11_lookers_1 (fun r1 => ?_)
  refine e_if_eq (pc := 4) (tgt := 18) dX11_lookers_4 (by decide) (fun _ => ?_) (fun _ => ?_)
  · refine e_iconst (pc := 18) (v := (-1 : Int32)) dX11_lookers_18 ic_m1 ?_
    exact e_iretW rfl dX11_lookers_19
  · refine e_iload_n (pc := 7) dX11_lookers_7 3 rfl rfl ?_
    refine e_iconst (pc := 8) (v := (1 : Int32)) dX11_lookers_8 ic_1 ?_
    refine e_icmp_lt (pc := 9) (tgt := 18) dX11_lookers_9 (by decide) (fun _ => ?_) (fun _ => ?_)
    · refine e_iconst (pc := 18) (v := (-1 : Int32)) dX11_lookers_18 ic_m1 ?_
      exact e_iretW rfl dX11_lookers_19
    · refine e_iload_n (pc := 12) dX11_lookers_12 3 rfl rfl ?_
      refine e_bipush (pc := 13) (v := (6 : Int32)) dX11_lookers_13 bp_6 ?_
      refine e_icmp_le (pc := 15) (tgt := 20) dX11_lookers_15 (by decide) (fun _ => ?_) (fun _ => ?_)
      · refine e_aload_n (pc := 20) dX11_lookers_20 0 rfl rfl ?_
        refine g_R (pc := 21) (cl' := 12) kk0 fl_X11_25 rfl dX11_lookers_21 ?_
        refine e_iload_n (pc := 24) dX11_lookers_24 1 rfl rfl ?_
        refine e_aald (pc := 25) kk12 dX11_lookers_25 (fun c2 hc2 => ?_)
        refine e_astore (pc := 26) (lv' := [(4, .ref (xa X c2)), (0, .ref (xa X 0)), (1, .int a1), (2, .int a2), (3, .int a3)]) dX11_lookers_26 (Nat.le_of_ble_eq_true rfl) rfl ?_
        refine e_aload (pc := 28) dX11_lookers_28 0 rfl ?_
        refine e_callVRI (pc := 30) (As := []) (rest := []) hc2.1 Kc9 (cf_X9_isEmpty X c2 hc2 w) lk_X11_105 (Nat.le_of_ble_eq_true rfl) (Nat.le_of_ble_eq_true rfl) rfl rfl (Nat.le_of_ble_eq_true rfl) dX11_lookers_30 (fun r3 => ?_)
        refine e_if_eq (pc := 33) (tgt := 38) dX11_lookers_33 (by decide) (fun _ => ?_) (fun _ => ?_)
        · refine e_aload (pc := 38) dX11_lookers_38 0 rfl ?_
          refine e_callVRI (pc := 40) (As := []) (rest := []) hc2.1 Kc9 (cf_X9_isBytes X c2 hc2 w) lk_X11_109 (Nat.le_of_ble_eq_true rfl) (Nat.le_of_ble_eq_true rfl) rfl rfl (Nat.le_of_ble_eq_true rfl) dX11_lookers_40 (fun r4 => ?_)
          refine e_if_ne (pc := 43) (tgt := 49) dX11_lookers_43 (by decide) (fun _ => ?_) (fun _ => ?_)
          · refine e_bipush (pc := 46) (v := (-12 : Int32)) dX11_lookers_46 bp_m12 ?_
            exact e_iretW rfl dX11_lookers_48
          · refine e_iconst (pc := 49) (v := (0 : Int32)) dX11_lookers_49 ic_0 ?_
            refine e_istore (pc := 50) (lv' := [(5, .int (0 : Int32)), (4, .ref (xa X c2)), (0, .ref (xa X 0)), (1, .int a1), (2, .int a2), (3, .int a3)]) dX11_lookers_50 (Nat.le_of_ble_eq_true rfl) rfl ?_
            refine e_lv [2, 4, 5, 1, 0] rfl ?_
            exact cb_X11_lookers_b52 X fu a2 a3 c2 (0 : Int32) hc2 w
        · refine e_iconst (pc := 36) (v := (0 : Int32)) dX11_lookers_36 ic_0 ?_
          exact e_iretW rfl dX11_lookers_37
      · refine e_iconst (pc := 18) (v := (-1 : Int32)) dX11_lookers_18 ic_m1 ?_
        exact e_iretW rfl dX11_lookers_19
theorem cf_X11_lookers (X : Xt) (a1 : Int32) (a2 : Int32) (a3 : Int32) (w : Wd) : CF gWI X m_X11_lookers 4 [.ref (xa X 0), .int a1, .int a2, .int a3] w (f_X11_lookers a1 a2 a3 w) := CF_of (by decide) (Nat.le_of_ble_eq_true rfl) (ce_X11_lookers X a1 a2 a3 w)
