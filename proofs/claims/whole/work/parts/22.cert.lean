set_option maxRecDepth 100000 in
set_option maxHeartbeats 4000000 in
theorem ce_X0_isKind (X : Xt) (a0 : Int32) (w : Wd) : E (gRI w) X m_X0_isKind 1 0 [(0, .int a0)] [] w (f_X0_isKind a0) := by
  unfold f_X0_isKind
  refine e_iload_n (pc := 0) dX0_isKind_0 0 rfl rfl ?_
  refine e_if_lt (pc := 1) (tgt := 14) dX0_isKind_1 (by decide) (fun _ => ?_) (fun _ => ?_)
  · refine e_iconst (pc := 14) (v := (0 : Int32)) dX0_isKind_14 ic_0 ?_
    exact e_zretR0 rfl (by decide) dX0_isKind_15
  · refine e_iload_n (pc := 4) dX0_isKind_4 0 rfl rfl ?_
    refine e_bipush (pc := 5) (v := (8 : Int32)) dX0_isKind_5 bp_8 ?_
    refine e_icmp_ge (pc := 7) (tgt := 14) dX0_isKind_7 (by decide) (fun _ => ?_) (fun _ => ?_)
    · refine e_iconst (pc := 14) (v := (0 : Int32)) dX0_isKind_14 ic_0 ?_
      exact e_zretR0 rfl (by decide) dX0_isKind_15
    · refine e_iconst (pc := 10) (v := (1 : Int32)) dX0_isKind_10 ic_1 ?_
      refine e_goto (pc := 11) (tgt := 15) dX0_isKind_11 (by decide) ?_
      exact e_zretR0 rfl (by decide) dX0_isKind_15
theorem cf_X0_isKind (X : Xt) (a0 : Int32) (w : Wd) : CF (gRI w) X m_X0_isKind 1 [.int a0] w (f_X0_isKind a0) := CF_of (by decide) (Nat.le_of_ble_eq_true rfl) (ce_X0_isKind X a0 w)
set_option maxRecDepth 100000 in
set_option maxHeartbeats 4000000 in
theorem cb_X0_isUnder_b4_y (X : Xt) (w : Wd) (k4 : Int32 → Int32 → Int32 → Option Int32) (hk4 : ∀ (x1 : Int32) (x2 : Int32) (x3 : Int32), E (gRI w) X m_X0_isUnder 2 4 [(1, .int x1), (2, .int x2), (3, .int x3)] [] w (k4 x1 x2 x3)) (x1 : Int32) (x2 : Int32) (x3 : Int32) : E (gRI w) X m_X0_isUnder 2 4 [(1, .int x1), (2, .int x2), (3, .int x3)] [] w (f_X0_isUnder_b4_y w k4 x1 x2 x3) := by
  unfold f_X0_isUnder_b4_y
  refine e_iload_n (pc := 4) dX0_isUnder_4 2 rfl rfl ?_
  refine e_bipush (pc := 5) (v := (8 : Int32)) dX0_isUnder_5 bp_8 ?_
  refine e_icmp_ge (pc := 7) (tgt := 36) dX0_isUnder_7 (by decide) (fun _ => ?_) (fun _ => ?_)
  · refine e_iconst (pc := 36) (v := (0 : Int32)) dX0_isUnder_36 ic_0 ?_
    exact e_zretR0 rfl (by decide) dX0_isUnder_37
  · refine e_iload_n (pc := 10) dX0_isUnder_10 1 rfl rfl ?_
    refine e_callSRI (pc := 11) (As := [.int x2]) (rest := []) (cf_X0_isKind X x2 w) lk_X0_28 (Nat.le_of_ble_eq_true rfl) (Nat.le_of_ble_eq_true rfl) rfl rfl (Nat.le_of_ble_eq_true rfl) dX0_isUnder_11 (fun r1 => ?_)
    refine e_if_eq (pc := 14) (tgt := 36) dX0_isUnder_14 (by decide) (fun _ => ?_) (fun _ => ?_)
    · refine e_iconst (pc := 36) (v := (0 : Int32)) dX0_isUnder_36 ic_0 ?_
      exact e_zretR0 rfl (by decide) dX0_isUnder_37
    · refine e_iload_n (pc := 17) dX0_isUnder_17 1 rfl rfl ?_
      refine e_iload_n (pc := 18) dX0_isUnder_18 0 rfl rfl ?_
      refine e_icmp_ne (pc := 19) (tgt := 24) dX0_isUnder_19 (by decide) (fun _ => ?_) (fun _ => ?_)
      · refine e_iconst (pc := 22) (v := (1 : Int32)) dX0_isUnder_22 ic_1 ?_
        exact e_zretR0 rfl (by decide) dX0_isUnder_23
      · refine e_gets (pc := 24) (q := 104) (fun U h => sZ4 U h) fl_X0_32 dX0_isUnder_24 ?_
        refine e_iload_n (pc := 27) dX0_isUnder_27 1 rfl rfl ?_
        refine e_tI (pc := 28) (q := 104) (fun U h => sT4 U h) dX0_isUnder_28 (fun v2 => ?_)
        refine e_istore_n (pc := 29) (lv' := [(2, .int v2), (1, .int x1), (3, .int x3)]) dX0_isUnder_29 rfl (Nat.le_of_ble_eq_true rfl) rfl ?_
        refine e_iinc (pc := 30) (lv' := [(3, .int (x3 + (1 : Int32))), (2, .int v2), (1, .int x1)]) dX0_isUnder_30 2 rfl (ii_1 _) (Nat.le_of_ble_eq_true rfl) rfl ?_
        refine e_goto (pc := 33) (tgt := 4) dX0_isUnder_33 (by decide) ?_
        refine e_lv [2, 1, 0] rfl ?_
        exact hk4 x1 v2 (x3 + (1 : Int32))
theorem cb_X0_isUnder_b4 (X : Xt) (w : Wd) : ∀ (n : Nat) (x1 : Int32) (x2 : Int32) (x3 : Int32), E (gRI w) X m_X0_isUnder 2 4 [(1, .int x1), (2, .int x2), (3, .int x3)] [] w (f_X0_isUnder_b4 w n x1 x2 x3) := by
  intro n
  induction n with
  | zero =>
    intro x1 x2 x3
    exact E_none
  | succ n ih =>
    intro x1 x2 x3
    exact cb_X0_isUnder_b4_y X w _ ih x1 x2 x3
set_option maxRecDepth 100000 in
set_option maxHeartbeats 4000000 in
theorem ce_X0_isUnder (X : Xt) (a0 : Int32) (a1 : Int32) (w : Wd) : E (gRI w) X m_X0_isUnder 2 0 [(0, .int a0), (1, .int a1)] [] w (f_X0_isUnder a0 a1 w) := by
  unfold f_X0_isUnder
  refine e_iload_n (pc := 0) dX0_isUnder_0 0 rfl rfl ?_
  refine e_istore_n (pc := 1) (lv' := [(2, .int a0), (0, .int a0), (1, .int a1)]) dX0_isUnder_1 rfl (Nat.le_of_ble_eq_true rfl) rfl ?_
  refine e_iconst (pc := 2) (v := (0 : Int32)) dX0_isUnder_2 ic_0 ?_
  refine e_istore_n (pc := 3) (lv' := [(3, .int (0 : Int32)), (2, .int a0), (0, .int a0), (1, .int a1)]) dX0_isUnder_3 rfl (Nat.le_of_ble_eq_true rfl) rfl ?_
  refine e_lv [3, 1, 0] rfl ?_
  exact cb_X0_isUnder_b4 X w fu a1 a0 (0 : Int32)
theorem cf_X0_isUnder (X : Xt) (a0 : Int32) (a1 : Int32) (w : Wd) : CF (gRI w) X m_X0_isUnder 2 [.int a0, .int a1] w (f_X0_isUnder a0 a1 w) := CF_of (by decide) (Nat.le_of_ble_eq_true rfl) (ce_X0_isUnder X a0 a1 w)
set_option maxRecDepth 100000 in
set_option maxHeartbeats 4000000 in
theorem ce_X0_has (X : Xt) (a1 : Int32) (w : Wd) : E (gRI w) X m_X0_has 1 0 [(0, .ref (xa X 39)), (1, .int a1)] [] w (f_X0_has a1 w) := by
  unfold f_X0_has
  refine e_iload_n (pc := 0) dX0_has_0 1 rfl rfl ?_
  refine e_if_lt (pc := 1) (tgt := 16) dX0_has_1 (by decide) (fun _ => ?_) (fun _ => ?_)
  · refine e_iconst (pc := 16) (v := (0 : Int32)) dX0_has_16 ic_0 ?_
    exact e_zretR0 rfl (by decide) dX0_has_17
  · refine e_iload_n (pc := 4) dX0_has_4 1 rfl rfl ?_
    refine e_aload_n (pc := 5) dX0_has_5 0 rfl rfl ?_
    refine g_I (pc := 6) kk39 fl_X0_15 dX0_has_6 ?_
    refine e_icmp_ge (pc := 9) (tgt := 16) dX0_has_9 (by decide) (fun _ => ?_) (fun _ => ?_)
    · refine e_iconst (pc := 16) (v := (0 : Int32)) dX0_has_16 ic_0 ?_
      exact e_zretR0 rfl (by decide) dX0_has_17
    · refine e_iconst (pc := 12) (v := (1 : Int32)) dX0_has_12 ic_1 ?_
      refine e_goto (pc := 13) (tgt := 17) dX0_has_13 (by decide) ?_
      exact e_zretR0 rfl (by decide) dX0_has_17
theorem cf_X0_has (X : Xt) (a1 : Int32) (w : Wd) : CF (gRI w) X m_X0_has 1 [.ref (xa X 39), .int a1] w (f_X0_has a1 w) := CF_of (by decide) (Nat.le_of_ble_eq_true rfl) (ce_X0_has X a1 w)
set_option maxRecDepth 100000 in
set_option maxHeartbeats 4000000 in
theorem ce_X0_add (X : Xt) (a1 : Int32) (w : Wd) : E gWI X m_X0_add 1 0 [(0, .ref (xa X 39)), (1, .int a1)] [] w (f_X0_add a1 w) := by
  unfold f_X0_add
  refine e_aload_n (pc := 0) dX0_add_0 0 rfl rfl ?_
  refine g_I (pc := 1) kk39 fl_X0_15 dX0_add_1 ?_
  refine e_bipush (pc := 4) (v := (50 : Int32)) dX0_add_4 bp_50 ?_
  refine e_icmp_ne (pc := 6) (tgt := 12) dX0_add_6 (by decide) (fun _ => ?_) (fun _ => ?_)
  · refine e_bipush (pc := 9) (v := (-3 : Int32)) dX0_add_9 bp_m3 ?_
    exact e_iretW rfl dX0_add_11
  · refine e_aload_n (pc := 12) dX0_add_12 0 rfl rfl ?_
    refine g_R (pc := 13) (cl' := 40) kk39 fl_X0_11 rfl dX0_add_13 ?_
    refine e_aload_n (pc := 16) dX0_add_16 0 rfl rfl ?_
    refine g_I (pc := 17) kk39 fl_X0_15 dX0_add_17 ?_
    refine e_iload_n (pc := 20) dX0_add_20 1 rfl rfl ?_
    refine e_iast (pc := 21) kk40 dX0_add_21 (fun w1 => ?_)
    refine e_aload_n (pc := 22) dX0_add_22 0 rfl rfl ?_
    refine e_dup (pc := 23) dX0_add_23 rfl ?_
    refine g_I (pc := 24) kk39 fl_X0_15 dX0_add_24 ?_
    refine e_iconst (pc := 27) (v := (1 : Int32)) dX0_add_27 ic_1 ?_
    refine e_iadd (pc := 28) dX0_add_28 ?_
    refine p_I (pc := 29) kk39 fp_X0_15 dX0_add_29 (fun w2 => ?_)
    refine e_aload_n (pc := 32) dX0_add_32 0 rfl rfl ?_
    refine g_I (pc := 33) kk39 fl_X0_15 dX0_add_33 ?_
    refine e_iconst (pc := 36) (v := (1 : Int32)) dX0_add_36 ic_1 ?_
    refine e_isub (pc := 37) dX0_add_37 ?_
    exact e_iretW rfl dX0_add_38
theorem cf_X0_add (X : Xt) (a1 : Int32) (w : Wd) : CF gWI X m_X0_add 1 [.ref (xa X 39), .int a1] w (f_X0_add a1 w) := CF_of (by decide) (Nat.le_of_ble_eq_true rfl) (ce_X0_add X a1 w)
set_option maxRecDepth 100000 in
set_option maxHeartbeats 4000000 in
theorem ce_X0_kindOf (X : Xt) (a1 : Int32) (w : Wd) : E (gRI w) X m_X0_kindOf 2 0 [(0, .ref (xa X 39)), (1, .int a1)] [] w (f_X0_kindOf a1 w) := by
  unfold f_X0_kindOf
  refine e_aload_n (pc := 0) dX0_kindOf_0 0 rfl rfl ?_
  refine e_iload_n (pc := 1) dX0_kindOf_1 1 rfl rfl ?_
  refine e_callVRI (pc := 2) (As := [.int a1]) (rest := []) kk39 Kc0 (cf_X0_has X a1 w) lk_X0_35 (Nat.le_of_ble_eq_true rfl) (Nat.le_of_ble_eq_true rfl) rfl rfl (Nat.le_of_ble_eq_true rfl) dX0_kindOf_2 (fun r1 => ?_)
  refine e_if_eq (pc := 5) (tgt := 17) dX0_kindOf_5 (by decide) (fun _ => ?_) (fun _ => ?_)
  · refine e_iconst (pc := 17) (v := (-1 : Int32)) dX0_kindOf_17 ic_m1 ?_
    exact e_iretR rfl dX0_kindOf_18
  · refine e_aload_n (pc := 8) dX0_kindOf_8 0 rfl rfl ?_
    refine g_R (pc := 9) (cl' := 40) kk39 fl_X0_11 rfl dX0_kindOf_9 ?_
    refine e_iload_n (pc := 12) dX0_kindOf_12 1 rfl rfl ?_
    refine e_iald (pc := 13) kk40 dX0_kindOf_13 (fun v2 => ?_)
    refine e_goto (pc := 14) (tgt := 18) dX0_kindOf_14 (by decide) ?_
    exact e_iretR rfl dX0_kindOf_18
theorem cf_X0_kindOf (X : Xt) (a1 : Int32) (w : Wd) : CF (gRI w) X m_X0_kindOf 2 [.ref (xa X 39), .int a1] w (f_X0_kindOf a1 w) := CF_of (by decide) (Nat.le_of_ble_eq_true rfl) (ce_X0_kindOf X a1 w)
set_option maxRecDepth 100000 in
set_option maxHeartbeats 4000000 in
theorem ce_X0_traced (X : Xt) (a1 : Int32) (w : Wd) : E (gRI w) X m_X0_traced 1 0 [(0, .ref (xa X 39)), (1, .int a1)] [] w (f_X0_traced a1 w) := by
  unfold f_X0_traced
  refine e_iload_n (pc := 0) dX0_traced_0 1 rfl rfl ?_
  refine e_if_lt (pc := 1) (tgt := 19) dX0_traced_1 (by decide) (fun _ => ?_) (fun _ => ?_)
  · refine e_iconst (pc := 19) (v := (-1 : Int32)) dX0_traced_19 ic_m1 ?_
    exact e_iretR rfl dX0_traced_20
  · refine e_iload_n (pc := 4) dX0_traced_4 1 rfl rfl ?_
    refine e_bipush (pc := 5) (v := (24 : Int32)) dX0_traced_5 bp_24 ?_
    refine e_icmp_ge (pc := 7) (tgt := 19) dX0_traced_7 (by decide) (fun _ => ?_) (fun _ => ?_)
    · refine e_iconst (pc := 19) (v := (-1 : Int32)) dX0_traced_19 ic_m1 ?_
      exact e_iretR rfl dX0_traced_20
    · refine e_aload_n (pc := 10) dX0_traced_10 0 rfl rfl ?_
      refine g_R (pc := 11) (cl' := 41) kk39 fl_X0_19 rfl dX0_traced_11 ?_
      refine e_iload_n (pc := 14) dX0_traced_14 1 rfl rfl ?_
      refine e_iald (pc := 15) kk41 dX0_traced_15 (fun v1 => ?_)
      refine e_goto (pc := 16) (tgt := 20) dX0_traced_16 (by decide) ?_
      exact e_iretR rfl dX0_traced_20
theorem cf_X0_traced (X : Xt) (a1 : Int32) (w : Wd) : CF (gRI w) X m_X0_traced 1 [.ref (xa X 39), .int a1] w (f_X0_traced a1 w) := CF_of (by decide) (Nat.le_of_ble_eq_true rfl) (ce_X0_traced X a1 w)
set_option maxRecDepth 100000 in
set_option maxHeartbeats 4000000 in
theorem ce_X0_forget (X : Xt) (w : Wd) : E gWV X m_X0_forget 1 0 [(0, .ref (xa X 39))] [] w (f_X0_forget w) := by
  unfold f_X0_forget
  refine e_aload_n (pc := 0) dX0_forget_0 0 rfl rfl ?_
  refine e_iconst (pc := 1) (v := (0 : Int32)) dX0_forget_1 ic_0 ?_
  refine p_I (pc := 2) kk39 fp_X0_22 dX0_forget_2 (fun w1 => ?_)
  exact e_vret rfl dX0_forget_5
theorem cf_X0_forget (X : Xt) (w : Wd) : CF gWV X m_X0_forget 1 [.ref (xa X 39)] w (f_X0_forget w) := CF_of (by decide) (Nat.le_of_ble_eq_true rfl) (ce_X0_forget X w)
set_option maxRecDepth 100000 in
set_option maxHeartbeats 4000000 in
theorem cb_X0_note_b19 (X : Xt) (w : Wd) : E gWV X m_X0_note 1 19 [(0, .ref (xa X 39))] [] w (f_X0_note_b19 w) := by
  unfold f_X0_note_b19
  refine e_aload_n (pc := 19) dX0_note_19 0 rfl rfl ?_
  refine e_dup (pc := 20) dX0_note_20 rfl ?_
  refine g_I (pc := 21) kk39 fl_X0_22 dX0_note_21 ?_
  refine e_iconst (pc := 24) (v := (1 : Int32)) dX0_note_24 ic_1 ?_
  refine e_iadd (pc := 25) dX0_note_25 ?_
  refine p_I (pc := 26) kk39 fp_X0_22 dX0_note_26 (fun w1 => ?_)
  exact e_vret rfl dX0_note_29
set_option maxRecDepth 100000 in
set_option maxHeartbeats 4000000 in
theorem ce_X0_note (X : Xt) (a1 : Int32) (w : Wd) : E gWV X m_X0_note 1 0 [(0, .ref (xa X 39)), (1, .int a1)] [] w (f_X0_note a1 w) := by
  unfold f_X0_note
  refine e_aload_n (pc := 0) dX0_note_0 0 rfl rfl ?_
  refine g_I (pc := 1) kk39 fl_X0_22 dX0_note_1 ?_
  refine e_bipush (pc := 4) (v := (24 : Int32)) dX0_note_4 bp_24 ?_
  refine e_icmp_ge (pc := 6) (tgt := 19) dX0_note_6 (by decide) (fun _ => ?_) (fun _ => ?_)
  · refine e_lv [0] rfl ?_
    exact cb_X0_note_b19 X w
  · refine e_aload_n (pc := 9) dX0_note_9 0 rfl rfl ?_
    refine g_R (pc := 10) (cl' := 41) kk39 fl_X0_19 rfl dX0_note_10 ?_
    refine e_aload_n (pc := 13) dX0_note_13 0 rfl rfl ?_
    refine g_I (pc := 14) kk39 fl_X0_22 dX0_note_14 ?_
    refine e_iload_n (pc := 17) dX0_note_17 1 rfl rfl ?_
    refine e_iast (pc := 18) kk41 dX0_note_18 (fun w2 => ?_)
    refine e_lv [0] rfl ?_
    exact cb_X0_note_b19 X w2
theorem cf_X0_note (X : Xt) (a1 : Int32) (w : Wd) : CF gWV X m_X0_note 1 [.ref (xa X 39), .int a1] w (f_X0_note a1 w) := CF_of (by decide) (Nat.le_of_ble_eq_true rfl) (ce_X0_note X a1 w)
set_option maxRecDepth 100000 in
set_option maxHeartbeats 4000000 in
theorem ce_X0_own (X : Xt) {dd : Nat} (hb : 3 ≤ dd) (r_X0_own : Int32 → Int32 → Int32 → Wd → Option (Int32 × Wd)) (hr_X0_own : ∀ (a1 : Int32) (a2 : Int32) (a3 : Int32) (w : Wd), CF gWI X m_X0_own dd [.ref (xa X 39), .int a1, .int a2, .int a3] w (r_X0_own a1 a2 a3 w)) (r_X0_from : Int32 → Int32 → Int32 → Int32 → Wd → Option (Int32 × Wd)) (hr_X0_from : ∀ (a1 : Int32) (a2 : Int32) (a3 : Int32) (a4 : Int32) (w : Wd), CF gWI X m_X0_from dd [.ref (xa X 39), .int a1, .int a2, .int a3, .int a4] w (r_X0_from a1 a2 a3 a4 w)) (r_X0_atTop : Int32 → Int32 → Int32 → Wd → Option (Int32 × Wd)) (hr_X0_atTop : ∀ (a1 : Int32) (a2 : Int32) (a3 : Int32) (w : Wd), CF gWI X m_X0_atTop dd [.ref (xa X 39), .int a1, .int a2, .int a3] w (r_X0_atTop a1 a2 a3 w)) (r_X0_below : Int32 → Int32 → Int32 → Int32 → Wd → Option (Int32 × Wd)) (hr_X0_below : ∀ (a1 : Int32) (a2 : Int32) (a3 : Int32) (a4 : Int32) (w : Wd), CF gWI X m_X0_below dd [.ref (xa X 39), .int a1, .int a2, .int a3, .int a4] w (r_X0_below a1 a2 a3 a4 w)) (a1 : Int32) (a2 : Int32) (a3 : Int32) (w : Wd) : E gWI X m_X0_own (dd + 1) 0 [(0, .ref (xa X 39)), (1, .int a1), (2, .int a2), (3, .int a3)] [] w (f_X0_own_y r_X0_own r_X0_from r_X0_atTop r_X0_below a1 a2 a3 w) := by
  unfold f_X0_own_y
  refine e_aload_n (pc := 0) dX0_own_0 0 rfl rfl ?_
  refine e_aload_n (pc := 1) dX0_own_1 0 rfl rfl ?_
  refine e_aload_n (pc := 2) dX0_own_2 0 rfl rfl ?_
  refine g_I (pc := 3) kk39 fl_X0_25 dX0_own_3 ?_
  refine e_callVRI (pc := 6) (As := [.int (gi w 39 4)]) (rest := [.ref (xa X 39)]) kk39 Kc0 (cf_X0_kindOf X (gi w 39 4) w) lk_X0_42 (by omega) (Nat.le_of_ble_eq_true rfl) rfl rfl (Nat.le_of_ble_eq_true rfl) dX0_own_6 (fun r1 => ?_)
  refine e_iload_n (pc := 9) dX0_own_9 1 rfl rfl ?_
  refine e_iload_n (pc := 10) dX0_own_10 2 rfl rfl ?_
  refine e_iload_n (pc := 11) dX0_own_11 3 rfl rfl ?_
  refine e_callVWI (pc := 12) (As := [.int r1, .int a1, .int a2, .int a3]) (rest := []) kk39 Kc0 (hr_X0_from r1 a1 a2 a3 w) lk_X0_46 (Nat.le_refl _) (Nat.le_of_ble_eq_true rfl) rfl rfl (Nat.le_of_ble_eq_true rfl) dX0_own_12 (fun r2 w3 => ?_)
  exact e_iretW rfl dX0_own_15
set_option maxRecDepth 100000 in
set_option maxHeartbeats 4000000 in
theorem cb_X0_from_b48 (X : Xt) {dd : Nat} (hb : 3 ≤ dd) (r_X0_own : Int32 → Int32 → Int32 → Wd → Option (Int32 × Wd)) (hr_X0_own : ∀ (a1 : Int32) (a2 : Int32) (a3 : Int32) (w : Wd), CF gWI X m_X0_own dd [.ref (xa X 39), .int a1, .int a2, .int a3] w (r_X0_own a1 a2 a3 w)) (r_X0_from : Int32 → Int32 → Int32 → Int32 → Wd → Option (Int32 × Wd)) (hr_X0_from : ∀ (a1 : Int32) (a2 : Int32) (a3 : Int32) (a4 : Int32) (w : Wd), CF gWI X m_X0_from dd [.ref (xa X 39), .int a1, .int a2, .int a3, .int a4] w (r_X0_from a1 a2 a3 a4 w)) (r_X0_atTop : Int32 → Int32 → Int32 → Wd → Option (Int32 × Wd)) (hr_X0_atTop : ∀ (a1 : Int32) (a2 : Int32) (a3 : Int32) (w : Wd), CF gWI X m_X0_atTop dd [.ref (xa X 39), .int a1, .int a2, .int a3] w (r_X0_atTop a1 a2 a3 w)) (r_X0_below : Int32 → Int32 → Int32 → Int32 → Wd → Option (Int32 × Wd)) (hr_X0_below : ∀ (a1 : Int32) (a2 : Int32) (a3 : Int32) (a4 : Int32) (w : Wd), CF gWI X m_X0_below dd [.ref (xa X 39), .int a1, .int a2, .int a3, .int a4] w (r_X0_below a1 a2 a3 a4 w)) (x2 : Int32) (x3 : Int32) (x4 : Int32) (x5 : Int32) (w : Wd) : E gWI X m_X0_from (dd + 1) 48 [(0, .ref (xa X 39)), (2, .int x2), (3, .int x3), (4, .int x4), (5, .int x5)] [] w (f_X0_from_b48 r_X0_own r_X0_from r_X0_atTop r_X0_below x2 x3 x4 x5 w) := by
  unfold f_X0_from_b48
  refine e_iload (pc := 48) dX0_from_48 4 rfl ?_
  refine e_callSRI (pc := 50) (As := [.int x5]) (rest := []) (cf_X0_isKind X x5 w) lk_X0_28 (by omega) (Nat.le_of_ble_eq_true rfl) rfl rfl (Nat.le_of_ble_eq_true rfl) dX0_from_50 (fun r1 => ?_)
  refine e_if_eq (pc := 53) (tgt := 63) dX0_from_53 (by decide) (fun _ => ?_) (fun _ => ?_)
  · refine e_iconst (pc := 63) (v := (0 : Int32)) dX0_from_63 ic_0 ?_
    exact e_iretW rfl dX0_from_64
  · refine e_iload (pc := 56) dX0_from_56 3 rfl ?_
    refine e_bipush (pc := 58) (v := (40 : Int32)) dX0_from_58 bp_40 ?_
    refine e_icmp_le (pc := 60) (tgt := 65) dX0_from_60 (by decide) (fun _ => ?_) (fun _ => ?_)
    · refine e_gets (pc := 65) (q := 105) (fun U h => sZ5 U h) fl_X0_50 dX0_from_65 ?_
      refine e_iload (pc := 68) dX0_from_68 4 rfl ?_
      refine e_iconst (pc := 70) (v := (4 : Int32)) dX0_from_70 ic_4 ?_
      refine e_imul (pc := 71) dX0_from_71 ?_
      refine e_iload_n (pc := 72) dX0_from_72 1 rfl rfl ?_
      refine e_iadd (pc := 73) dX0_from_73 ?_
      refine e_tI (pc := 74) (q := 105) (fun U h => sT5 U h) dX0_from_74 (fun v2 => ?_)
      refine e_istore (pc := 75) (lv' := [(6, .int v2), (0, .ref (xa X 39)), (2, .int x2), (3, .int x3), (4, .int x4), (5, .int x5)]) dX0_from_75 (Nat.le_of_ble_eq_true rfl) rfl ?_
      refine e_aload_n (pc := 77) dX0_from_77 1 rfl rfl ?_
      refine e_iload (pc := 78) dX0_from_78 0 rfl ?_
      refine e_callVWV (pc := 80) (As := [.int v2]) (rest := []) kk39 Kc0 (cf_X0_note X v2 w) lk_X0_53 (by omega) (Nat.le_of_ble_eq_true rfl) rfl rfl (Nat.le_of_ble_eq_true rfl) dX0_from_80 (fun w3 => ?_)
      refine e_iload (pc := 83) dX0_from_83 5 rfl ?_
      refine e_if_ne (pc := 85) (tgt := 102) dX0_from_85 (by decide) (fun _ => ?_) (fun _ => ?_)
      · refine e_aload_n (pc := 88) dX0_from_88 1 rfl rfl ?_
        refine e_iload (pc := 89) dX0_from_89 0 rfl ?_
        refine e_iload_n (pc := 91) dX0_from_91 3 rfl rfl ?_
        refine e_iload (pc := 92) dX0_from_92 4 rfl ?_
        refine e_iconst (pc := 94) (v := (1 : Int32)) dX0_from_94 ic_1 ?_
        refine e_iadd (pc := 95) dX0_from_95 ?_
        refine e_callVWI (pc := 96) (As := [.int v2, .int x3, .int (x4 + (1 : Int32))]) (rest := []) kk39 Kc0 (hr_X0_atTop v2 x3 (x4 + (1 : Int32)) w3) lk_X0_57 (Nat.le_refl _) (Nat.le_of_ble_eq_true rfl) rfl rfl (Nat.le_of_ble_eq_true rfl) dX0_from_96 (fun r7 w8 => ?_)
        refine e_goto (pc := 99) (tgt := 119) dX0_from_99 (by decide) ?_
        exact e_iretW rfl dX0_from_119
      · refine e_aload_n (pc := 102) dX0_from_102 1 rfl rfl ?_
        refine e_iload (pc := 103) dX0_from_103 0 rfl ?_
        refine e_gets (pc := 105) (q := 104) (fun U h => sZ4 U h) fl_X0_32 dX0_from_105 ?_
        refine e_iload (pc := 108) dX0_from_108 5 rfl ?_
        refine e_tI (pc := 110) (q := 104) (fun U h => sT4 U h) dX0_from_110 (fun v4 => ?_)
        refine e_iload_n (pc := 111) dX0_from_111 3 rfl rfl ?_
        refine e_iload (pc := 112) dX0_from_112 4 rfl ?_
        refine e_iconst (pc := 114) (v := (1 : Int32)) dX0_from_114 ic_1 ?_
        refine e_iadd (pc := 115) dX0_from_115 ?_
        refine e_callVWI (pc := 116) (As := [.int v2, .int v4, .int x3, .int (x4 + (1 : Int32))]) (rest := []) kk39 Kc0 (hr_X0_below v2 v4 x3 (x4 + (1 : Int32)) w3) lk_X0_60 (Nat.le_refl _) (Nat.le_of_ble_eq_true rfl) rfl rfl (Nat.le_of_ble_eq_true rfl) dX0_from_116 (fun r5 w6 => ?_)
        exact e_iretW rfl dX0_from_119
    · refine e_iconst (pc := 63) (v := (0 : Int32)) dX0_from_63 ic_0 ?_
      exact e_iretW rfl dX0_from_64
set_option maxRecDepth 100000 in
set_option maxHeartbeats 4000000 in
theorem cb_X0_from_b6_y (X : Xt) {dd : Nat} (hb : 3 ≤ dd) (r_X0_own : Int32 → Int32 → Int32 → Wd → Option (Int32 × Wd)) (hr_X0_own : ∀ (a1 : Int32) (a2 : Int32) (a3 : Int32) (w : Wd), CF gWI X m_X0_own dd [.ref (xa X 39), .int a1, .int a2, .int a3] w (r_X0_own a1 a2 a3 w)) (r_X0_from : Int32 → Int32 → Int32 → Int32 → Wd → Option (Int32 × Wd)) (hr_X0_from : ∀ (a1 : Int32) (a2 : Int32) (a3 : Int32) (a4 : Int32) (w : Wd), CF gWI X m_X0_from dd [.ref (xa X 39), .int a1, .int a2, .int a3, .int a4] w (r_X0_from a1 a2 a3 a4 w)) (r_X0_atTop : Int32 → Int32 → Int32 → Wd → Option (Int32 × Wd)) (hr_X0_atTop : ∀ (a1 : Int32) (a2 : Int32) (a3 : Int32) (w : Wd), CF gWI X m_X0_atTop dd [.ref (xa X 39), .int a1, .int a2, .int a3] w (r_X0_atTop a1 a2 a3 w)) (r_X0_below : Int32 → Int32 → Int32 → Int32 → Wd → Option (Int32 × Wd)) (hr_X0_below : ∀ (a1 : Int32) (a2 : Int32) (a3 : Int32) (a4 : Int32) (w : Wd), CF gWI X m_X0_below dd [.ref (xa X 39), .int a1, .int a2, .int a3, .int a4] w (r_X0_below a1 a2 a3 a4 w)) (k6 : Int32 → Int32 → Int32 → Int32 → Int32 → Wd → Option (Int32 × Wd)) (hk6 : ∀ (x2 : Int32) (x3 : Int32) (x4 : Int32) (x5 : Int32) (x6 : Int32)  (w : Wd), E gWI X m_X0_from (dd + 1) 6 [(0, .ref (xa X 39)), (2, .int x2), (3, .int x3), (4, .int x4), (5, .int x5), (6, .int x6)] [] w (k6 x2 x3 x4 x5 x6 w)) (x2 : Int32) (x3 : Int32) (x4 : Int32) (x5 : Int32) (x6 : Int32) (w : Wd) : E gWI X m_X0_from (dd + 1) 6 [(0, .ref (xa X 39)), (2, .int x2), (3, .int x3), (4, .int x4), (5, .int x5), (6, .int x6)] [] w (f_X0_from_b6_y r_X0_own r_X0_from r_X0_atTop r_X0_below k6 x2 x3 x4 x5 x6 w) := by
  unfold f_X0_from_b6_y
  refine e_iload (pc := 6) dX0_from_6 5 rfl ?_
  refine e_bipush (pc := 8) (v := (8 : Int32)) dX0_from_8 bp_8 ?_
  refine e_icmp_ge (pc := 10) (tgt := 48) dX0_from_10 (by decide) (fun _ => ?_) (fun _ => ?_)
  · refine e_lv [0, 1, 2, 3, 4] rfl ?_
    exact cb_X0_from_b48 X hb r_X0_own hr_X0_own r_X0_from hr_X0_from r_X0_atTop hr_X0_atTop r_X0_below hr_X0_below x2 x3 x4 x5 w
  · refine e_iload (pc := 13) dX0_from_13 4 rfl ?_
    refine e_callSRI (pc := 15) (As := [.int x5]) (rest := []) (cf_X0_isKind X x5 w) lk_X0_28 (by omega) (Nat.le_of_ble_eq_true rfl) rfl rfl (Nat.le_of_ble_eq_true rfl) dX0_from_15 (fun r9 => ?_)
    refine e_if_eq (pc := 18) (tgt := 48) dX0_from_18 (by decide) (fun _ => ?_) (fun _ => ?_)
    · refine e_lv [0, 1, 2, 3, 4] rfl ?_
      exact cb_X0_from_b48 X hb r_X0_own hr_X0_own r_X0_from hr_X0_from r_X0_atTop hr_X0_atTop r_X0_below hr_X0_below x2 x3 x4 x5 w
    · refine e_gets (pc := 21) (q := 105) (fun U h => sZ5 U h) fl_X0_50 dX0_from_21 ?_
      refine e_iload (pc := 24) dX0_from_24 4 rfl ?_
      refine e_iconst (pc := 26) (v := (4 : Int32)) dX0_from_26 ic_4 ?_
      refine e_imul (pc := 27) dX0_from_27 ?_
      refine e_iload_n (pc := 28) dX0_from_28 1 rfl rfl ?_
      refine e_iadd (pc := 29) dX0_from_29 ?_
      refine e_tI (pc := 30) (q := 105) (fun U h => sT5 U h) dX0_from_30 (fun v10 => ?_)
      refine e_if_ne (pc := 31) (tgt := 48) dX0_from_31 (by decide) (fun _ => ?_) (fun _ => ?_)
      · refine e_gets (pc := 34) (q := 104) (fun U h => sZ4 U h) fl_X0_32 dX0_from_34 ?_
        refine e_iload (pc := 37) dX0_from_37 4 rfl ?_
        refine e_tI (pc := 39) (q := 104) (fun U h => sT4 U h) dX0_from_39 (fun v11 => ?_)
        refine e_istore (pc := 40) (lv' := [(5, .int v11), (0, .ref (xa X 39)), (2, .int x2), (3, .int x3), (4, .int x4), (6, .int x6)]) dX0_from_40 (Nat.le_of_ble_eq_true rfl) rfl ?_
        refine e_iinc (pc := 42) (lv' := [(6, .int (x6 + (1 : Int32))), (5, .int v11), (0, .ref (xa X 39)), (2, .int x2), (3, .int x3), (4, .int x4)]) dX0_from_42 5 rfl (ii_1 _) (Nat.le_of_ble_eq_true rfl) rfl ?_
        refine e_goto (pc := 45) (tgt := 6) dX0_from_45 (by decide) ?_
        refine e_lv [2, 3, 4, 5, 1, 0] rfl ?_
        exact hk6 x2 x3 x4 v11 (x6 + (1 : Int32)) w
      · refine e_lv [0, 1, 2, 3, 4] rfl ?_
        exact cb_X0_from_b48 X hb r_X0_own hr_X0_own r_X0_from hr_X0_from r_X0_atTop hr_X0_atTop r_X0_below hr_X0_below x2 x3 x4 x5 w
theorem cb_X0_from_b6 (X : Xt) {dd : Nat} (hb : 3 ≤ dd) (r_X0_own : Int32 → Int32 → Int32 → Wd → Option (Int32 × Wd)) (hr_X0_own : ∀ (a1 : Int32) (a2 : Int32) (a3 : Int32) (w : Wd), CF gWI X m_X0_own dd [.ref (xa X 39), .int a1, .int a2, .int a3] w (r_X0_own a1 a2 a3 w)) (r_X0_from : Int32 → Int32 → Int32 → Int32 → Wd → Option (Int32 × Wd)) (hr_X0_from : ∀ (a1 : Int32) (a2 : Int32) (a3 : Int32) (a4 : Int32) (w : Wd), CF gWI X m_X0_from dd [.ref (xa X 39), .int a1, .int a2, .int a3, .int a4] w (r_X0_from a1 a2 a3 a4 w)) (r_X0_atTop : Int32 → Int32 → Int32 → Wd → Option (Int32 × Wd)) (hr_X0_atTop : ∀ (a1 : Int32) (a2 : Int32) (a3 : Int32) (w : Wd), CF gWI X m_X0_atTop dd [.ref (xa X 39), .int a1, .int a2, .int a3] w (r_X0_atTop a1 a2 a3 w)) (r_X0_below : Int32 → Int32 → Int32 → Int32 → Wd → Option (Int32 × Wd)) (hr_X0_below : ∀ (a1 : Int32) (a2 : Int32) (a3 : Int32) (a4 : Int32) (w : Wd), CF gWI X m_X0_below dd [.ref (xa X 39), .int a1, .int a2, .int a3, .int a4] w (r_X0_below a1 a2 a3 a4 w)) : ∀ (n : Nat) (x2 : Int32) (x3 : Int32) (x4 : Int32) (x5 : Int32) (x6 : Int32) (w : Wd), E gWI X m_X0_from (dd + 1) 6 [(0, .ref (xa X 39)), (2, .int x2), (3, .int x3), (4, .int x4), (5, .int x5), (6, .int x6)] [] w (f_X0_from_b6 r_X0_own r_X0_from r_X0_atTop r_X0_below n x2 x3 x4 x5 x6 w) := by
  intro n
  induction n with
  | zero =>
    intro x2 x3 x4 x5 x6 w
    exact E_none
  | succ n ih =>
    intro x2 x3 x4 x5 x6 w
    exact cb_X0_from_b6_y X hb r_X0_own hr_X0_own r_X0_from hr_X0_from r_X0_atTop hr_X0_atTop r_X0_below hr_X0_below _ ih x2 x3 x4 x5 x6 w
set_option maxRecDepth 100000 in
set_option maxHeartbeats 4000000 in
theorem ce_X0_from (X : Xt) {dd : Nat} (hb : 3 ≤ dd) (r_X0_own : Int32 → Int32 → Int32 → Wd → Option (Int32 × Wd)) (hr_X0_own : ∀ (a1 : Int32) (a2 : Int32) (a3 : Int32) (w : Wd), CF gWI X m_X0_own dd [.ref (xa X 39), .int a1, .int a2, .int a3] w (r_X0_own a1 a2 a3 w)) (r_X0_from : Int32 → Int32 → Int32 → Int32 → Wd → Option (Int32 × Wd)) (hr_X0_from : ∀ (a1 : Int32) (a2 : Int32) (a3 : Int32) (a4 : Int32) (w : Wd), CF gWI X m_X0_from dd [.ref (xa X 39), .int a1, .int a2, .int a3, .int a4] w (r_X0_from a1 a2 a3 a4 w)) (r_X0_atTop : Int32 → Int32 → Int32 → Wd → Option (Int32 × Wd)) (hr_X0_atTop : ∀ (a1 : Int32) (a2 : Int32) (a3 : Int32) (w : Wd), CF gWI X m_X0_atTop dd [.ref (xa X 39), .int a1, .int a2, .int a3] w (r_X0_atTop a1 a2 a3 w)) (r_X0_below : Int32 → Int32 → Int32 → Int32 → Wd → Option (Int32 × Wd)) (hr_X0_below : ∀ (a1 : Int32) (a2 : Int32) (a3 : Int32) (a4 : Int32) (w : Wd), CF gWI X m_X0_below dd [.ref (xa X 39), .int a1, .int a2, .int a3, .int a4] w (r_X0_below a1 a2 a3 a4 w)) (a1 : Int32) (a2 : Int32) (a3 : Int32) (a4 : Int32) (w : Wd) : E gWI X m_X0_from (dd + 1) 0 [(0, .ref (xa X 39)), (1, .int a1), (2, .int a2), (3, .int a3), (4, .int a4)] [] w (f_X0_from_y r_X0_own r_X0_from r_X0_atTop r_X0_below a1 a2 a3 a4 w) := by
  unfold f_X0_from_y
  refine e_iload_n (pc := 0) dX0_from_0 1 rfl rfl ?_
  refine e_istore (pc := 1) (lv' := [(5, .int a1), (0, .ref (xa X 39)), (1, .int a1), (2, .int a2), (3, .int a3), (4, .int a4)]) dX0_from_1 (Nat.le_of_ble_eq_true rfl) rfl ?_
  refine e_iconst (pc := 3) (v := (0 : Int32)) dX0_from_3 ic_0 ?_
  refine e_istore (pc := 4) (lv' := [(6, .int (0 : Int32)), (5, .int a1), (0, .ref (xa X 39)), (1, .int a1), (2, .int a2), (3, .int a3), (4, .int a4)]) dX0_from_4 (Nat.le_of_ble_eq_true rfl) rfl ?_
  refine e_lv [2, 4, 5, 6, 1, 0] rfl ?_
  exact cb_X0_from_b6 X hb r_X0_own hr_X0_own r_X0_from hr_X0_from r_X0_atTop hr_X0_atTop r_X0_below hr_X0_below fu a2 a3 a4 a1 (0 : Int32) w
set_option maxRecDepth 100000 in
set_option maxHeartbeats 4000000 in
theorem ce_X0_atTop (X : Xt) {dd : Nat} (hb : 3 ≤ dd) (r_X0_own : Int32 → Int32 → Int32 → Wd → Option (Int32 × Wd)) (hr_X0_own : ∀ (a1 : Int32) (a2 : Int32) (a3 : Int32) (w : Wd), CF gWI X m_X0_own dd [.ref (xa X 39), .int a1, .int a2, .int a3] w (r_X0_own a1 a2 a3 w)) (r_X0_from : Int32 → Int32 → Int32 → Int32 → Wd → Option (Int32 × Wd)) (hr_X0_from : ∀ (a1 : Int32) (a2 : Int32) (a3 : Int32) (a4 : Int32) (w : Wd), CF gWI X m_X0_from dd [.ref (xa X 39), .int a1, .int a2, .int a3, .int a4] w (r_X0_from a1 a2 a3 a4 w)) (r_X0_atTop : Int32 → Int32 → Int32 → Wd → Option (Int32 × Wd)) (hr_X0_atTop : ∀ (a1 : Int32) (a2 : Int32) (a3 : Int32) (w : Wd), CF gWI X m_X0_atTop dd [.ref (xa X 39), .int a1, .int a2, .int a3] w (r_X0_atTop a1 a2 a3 w)) (r_X0_below : Int32 → Int32 → Int32 → Int32 → Wd → Option (Int32 × Wd)) (hr_X0_below : ∀ (a1 : Int32) (a2 : Int32) (a3 : Int32) (a4 : Int32) (w : Wd), CF gWI X m_X0_below dd [.ref (xa X 39), .int a1, .int a2, .int a3, .int a4] w (r_X0_below a1 a2 a3 a4 w)) (a1 : Int32) (a2 : Int32) (a3 : Int32) (w : Wd) : E gWI X m_X0_atTop (dd + 1) 0 [(0, .ref (xa X 39)), (1, .int a1), (2, .int a2), (3, .int a3)] [] w (f_X0_atTop_y r_X0_own r_X0_from r_X0_atTop r_X0_below a1 a2 a3 w) := by
  unfold f_X0_atTop_y
  refine e_iload_n (pc := 0) dX0_atTop_0 1 rfl rfl ?_
  refine e_ite (fun h1_1 => ?_) (fun h1_1 => ?_)
  · refine e_look (pc := 1) (off := 43) (tgt := 44) dX0_atTop_1 (by decide) (by rw [h1_1]; decide) (by decide) ?_
    refine e_iload_n (pc := 44) dX0_atTop_44 2 rfl rfl ?_
    refine e_aload_n (pc := 45) dX0_atTop_45 0 rfl rfl ?_
    refine g_I (pc := 46) kk39 fl_X0_25 dX0_atTop_46 ?_
    refine e_iadd (pc := 49) dX0_atTop_49 ?_
    exact e_iretW rfl dX0_atTop_50
  · refine e_ite (fun h1_2 => ?_) (fun h1_2 => ?_)
    · refine e_look (pc := 1) (off := 50) (tgt := 51) dX0_atTop_1 (by decide) (by rw [h1_2]; decide) (by decide) ?_
      refine e_aload_n (pc := 51) dX0_atTop_51 0 rfl rfl ?_
      refine e_iconst (pc := 52) (v := (1 : Int32)) dX0_atTop_52 ic_1 ?_
      refine e_iload_n (pc := 53) dX0_atTop_53 2 rfl rfl ?_
      refine e_iload_n (pc := 54) dX0_atTop_54 3 rfl rfl ?_
      refine e_callVWI (pc := 55) (As := [.int (1 : Int32), .int a2, .int a3]) (rest := []) kk39 Kc0 (hr_X0_own (1 : Int32) a2 a3 w) lk_X0_38 (Nat.le_refl _) (Nat.le_of_ble_eq_true rfl) rfl rfl (Nat.le_of_ble_eq_true rfl) dX0_atTop_55 (fun r1 w2 => ?_)
      refine e_aload_n (pc := 58) dX0_atTop_58 0 rfl rfl ?_
      refine e_iconst (pc := 59) (v := (2 : Int32)) dX0_atTop_59 ic_2 ?_
      refine e_iconst (pc := 60) (v := (1 : Int32)) dX0_atTop_60 ic_1 ?_
      refine e_iload_n (pc := 61) dX0_atTop_61 3 rfl rfl ?_
      refine e_callVWI (pc := 62) (As := [.int (2 : Int32), .int (1 : Int32), .int a3]) (rest := [.int r1]) kk39 Kc0 (hr_X0_own (2 : Int32) (1 : Int32) a3 w2) lk_X0_38 (Nat.le_refl _) (Nat.le_of_ble_eq_true rfl) rfl rfl (Nat.le_of_ble_eq_true rfl) dX0_atTop_62 (fun r3 w4 => ?_)
      refine e_isub (pc := 65) dX0_atTop_65 ?_
      exact e_iretW rfl dX0_atTop_66
    · refine e_ite (fun h1_10 => ?_) (fun h1_10 => ?_)
      · refine e_look (pc := 1) (off := 66) (tgt := 67) dX0_atTop_1 (by decide) (by rw [h1_10]; decide) (by decide) ?_
        refine e_aload_n (pc := 67) dX0_atTop_67 0 rfl rfl ?_
        refine e_iconst (pc := 68) (v := (0 : Int32)) dX0_atTop_68 ic_0 ?_
        refine e_iload_n (pc := 69) dX0_atTop_69 2 rfl rfl ?_
        refine e_iload_n (pc := 70) dX0_atTop_70 3 rfl rfl ?_
        refine e_callVWI (pc := 71) (As := [.int (0 : Int32), .int a2, .int a3]) (rest := []) kk39 Kc0 (hr_X0_own (0 : Int32) a2 a3 w) lk_X0_38 (Nat.le_refl _) (Nat.le_of_ble_eq_true rfl) rfl rfl (Nat.le_of_ble_eq_true rfl) dX0_atTop_71 (fun r5 w6 => ?_)
        refine e_iconst (pc := 74) (v := (2 : Int32)) dX0_atTop_74 ic_2 ?_
        refine e_imul (pc := 75) dX0_atTop_75 ?_
        exact e_iretW rfl dX0_atTop_76
      · refine e_ite (fun h1_11 => ?_) (fun h1_11 => ?_)
        · refine e_look (pc := 1) (off := 76) (tgt := 77) dX0_atTop_1 (by decide) (by rw [h1_11]; decide) (by decide) ?_
          refine e_iload_n (pc := 77) dX0_atTop_77 2 rfl rfl ?_
          refine e_aload_n (pc := 78) dX0_atTop_78 0 rfl rfl ?_
          refine g_I (pc := 79) kk39 fl_X0_25 dX0_atTop_79 ?_
          refine e_ixor (pc := 82) dX0_atTop_82 ?_
          exact e_iretW rfl dX0_atTop_83
        · refine e_look (pc := 1) (off := 83) (tgt := 84) dX0_atTop_1 (by decide) ((lv_osw h1_1 (by decide)).trans ((lv_osw h1_2 (by decide)).trans ((lv_osw h1_10 (by decide)).trans ((lv_osw h1_11 (by decide)).trans rfl)))) (by decide) ?_
          refine e_iconst (pc := 84) (v := (0 : Int32)) dX0_atTop_84 ic_0 ?_
          exact e_iretW rfl dX0_atTop_85
set_option maxRecDepth 100000 in
set_option maxHeartbeats 4000000 in
theorem ce_X0_below (X : Xt) {dd : Nat} (hb : 3 ≤ dd) (r_X0_own : Int32 → Int32 → Int32 → Wd → Option (Int32 × Wd)) (hr_X0_own : ∀ (a1 : Int32) (a2 : Int32) (a3 : Int32) (w : Wd), CF gWI X m_X0_own dd [.ref (xa X 39), .int a1, .int a2, .int a3] w (r_X0_own a1 a2 a3 w)) (r_X0_from : Int32 → Int32 → Int32 → Int32 → Wd → Option (Int32 × Wd)) (hr_X0_from : ∀ (a1 : Int32) (a2 : Int32) (a3 : Int32) (a4 : Int32) (w : Wd), CF gWI X m_X0_from dd [.ref (xa X 39), .int a1, .int a2, .int a3, .int a4] w (r_X0_from a1 a2 a3 a4 w)) (r_X0_atTop : Int32 → Int32 → Int32 → Wd → Option (Int32 × Wd)) (hr_X0_atTop : ∀ (a1 : Int32) (a2 : Int32) (a3 : Int32) (w : Wd), CF gWI X m_X0_atTop dd [.ref (xa X 39), .int a1, .int a2, .int a3] w (r_X0_atTop a1 a2 a3 w)) (r_X0_below : Int32 → Int32 → Int32 → Int32 → Wd → Option (Int32 × Wd)) (hr_X0_below : ∀ (a1 : Int32) (a2 : Int32) (a3 : Int32) (a4 : Int32) (w : Wd), CF gWI X m_X0_below dd [.ref (xa X 39), .int a1, .int a2, .int a3, .int a4] w (r_X0_below a1 a2 a3 a4 w)) (a1 : Int32) (a2 : Int32) (a3 : Int32) (a4 : Int32) (w : Wd) : E gWI X m_X0_below (dd + 1) 0 [(0, .ref (xa X 39)), (1, .int a1), (2, .int a2), (3, .int a3), (4, .int a4)] [] w (f_X0_below_y r_X0_own r_X0_from r_X0_atTop r_X0_below a1 a2 a3 a4 w) := by
  unfold f_X0_below_y
  refine e_iload_n (pc := 0) dX0_below_0 1 rfl rfl ?_
  refine e_ite (fun h1_20 => ?_) (fun h1_20 => ?_)
  · refine e_look (pc := 1) (off := 91) (tgt := 92) dX0_below_1 (by decide) (by rw [h1_20]; decide) (by decide) ?_
    refine e_aload_n (pc := 92) dX0_below_92 0 rfl rfl ?_
    refine e_iload_n (pc := 93) dX0_below_93 2 rfl rfl ?_
    refine e_iconst (pc := 94) (v := (0 : Int32)) dX0_below_94 ic_0 ?_
    refine e_iload_n (pc := 95) dX0_below_95 3 rfl rfl ?_
    refine e_iload (pc := 96) dX0_below_96 4 rfl ?_
    refine e_callVWI (pc := 98) (As := [.int a2, .int (0 : Int32), .int a3, .int a4]) (rest := []) kk39 Kc0 (hr_X0_from a2 (0 : Int32) a3 a4 w) lk_X0_46 (Nat.le_refl _) (Nat.le_of_ble_eq_true rfl) rfl rfl (Nat.le_of_ble_eq_true rfl) dX0_below_98 (fun r1 w2 => ?_)
    refine e_iconst (pc := 101) (v := (3 : Int32)) dX0_below_101 ic_3 ?_
    refine e_iadd (pc := 102) dX0_below_102 ?_
    exact e_iretW rfl dX0_below_103
  · refine e_ite (fun h1_30 => ?_) (fun h1_30 => ?_)
    · refine e_look (pc := 1) (off := 103) (tgt := 104) dX0_below_1 (by decide) (by rw [h1_30]; decide) (by decide) ?_
      refine e_aload_n (pc := 104) dX0_below_104 0 rfl rfl ?_
      refine e_iload_n (pc := 105) dX0_below_105 2 rfl rfl ?_
      refine e_iconst (pc := 106) (v := (1 : Int32)) dX0_below_106 ic_1 ?_
      refine e_iload_n (pc := 107) dX0_below_107 3 rfl rfl ?_
      refine e_iload (pc := 108) dX0_below_108 4 rfl ?_
      refine e_callVWI (pc := 110) (As := [.int a2, .int (1 : Int32), .int a3, .int a4]) (rest := []) kk39 Kc0 (hr_X0_from a2 (1 : Int32) a3 a4 w) lk_X0_46 (Nat.le_refl _) (Nat.le_of_ble_eq_true rfl) rfl rfl (Nat.le_of_ble_eq_true rfl) dX0_below_110 (fun r3 w4 => ?_)
      refine e_ineg (pc := 113) dX0_below_113 ?_
      exact e_iretW rfl dX0_below_114
    · refine e_ite (fun h1_40 => ?_) (fun h1_40 => ?_)
      · refine e_look (pc := 1) (off := 114) (tgt := 115) dX0_below_1 (by decide) (by rw [h1_40]; decide) (by decide) ?_
        refine e_aload_n (pc := 115) dX0_below_115 0 rfl rfl ?_
        refine e_iload_n (pc := 116) dX0_below_116 2 rfl rfl ?_
        refine e_iconst (pc := 117) (v := (2 : Int32)) dX0_below_117 ic_2 ?_
        refine e_iload_n (pc := 118) dX0_below_118 3 rfl rfl ?_
        refine e_iload (pc := 119) dX0_below_119 4 rfl ?_
        refine e_callVWI (pc := 121) (As := [.int a2, .int (2 : Int32), .int a3, .int a4]) (rest := []) kk39 Kc0 (hr_X0_from a2 (2 : Int32) a3 a4 w) lk_X0_46 (Nat.le_refl _) (Nat.le_of_ble_eq_true rfl) rfl rfl (Nat.le_of_ble_eq_true rfl) dX0_below_121 (fun r5 w6 => ?_)
        refine e_iconst (pc := 124) (v := (3 : Int32)) dX0_below_124 ic_3 ?_
        refine e_imul (pc := 125) dX0_below_125 ?_
        exact e_iretW rfl dX0_below_126
      · refine e_ite (fun h1_41 => ?_) (fun h1_41 => ?_)
        · refine e_look (pc := 1) (off := 126) (tgt := 127) dX0_below_1 (by decide) (by rw [h1_41]; decide) (by decide) ?_
          refine e_aload_n (pc := 127) dX0_below_127 0 rfl rfl ?_
          refine e_iload_n (pc := 128) dX0_below_128 2 rfl rfl ?_
          refine e_iconst (pc := 129) (v := (1 : Int32)) dX0_below_129 ic_1 ?_
          refine e_iload_n (pc := 130) dX0_below_130 3 rfl rfl ?_
          refine e_iconst (pc := 131) (v := (1 : Int32)) dX0_below_131 ic_1 ?_
          refine e_iadd (pc := 132) dX0_below_132 ?_
          refine e_iload (pc := 133) dX0_below_133 4 rfl ?_
          refine e_callVWI (pc := 135) (As := [.int a2, .int (1 : Int32), .int (a3 + (1 : Int32)), .int a4]) (rest := []) kk39 Kc0 (hr_X0_from a2 (1 : Int32) (a3 + (1 : Int32)) a4 w) lk_X0_46 (Nat.le_refl _) (Nat.le_of_ble_eq_true rfl) rfl rfl (Nat.le_of_ble_eq_true rfl) dX0_below_135 (fun r7 w8 => ?_)
          exact e_iretW rfl dX0_below_138
        · refine e_ite (fun h1_50 => ?_) (fun h1_50 => ?_)
          · refine e_look (pc := 1) (off := 138) (tgt := 139) dX0_below_1 (by decide) (by rw [h1_50]; decide) (by decide) ?_
            refine e_aload_n (pc := 139) dX0_below_139 0 rfl rfl ?_
            refine e_iload_n (pc := 140) dX0_below_140 2 rfl rfl ?_
            refine e_iconst (pc := 141) (v := (3 : Int32)) dX0_below_141 ic_3 ?_
            refine e_iload_n (pc := 142) dX0_below_142 3 rfl rfl ?_
            refine e_iload (pc := 143) dX0_below_143 4 rfl ?_
            refine e_callVWI (pc := 145) (As := [.int a2, .int (3 : Int32), .int a3, .int a4]) (rest := []) kk39 Kc0 (hr_X0_from a2 (3 : Int32) a3 a4 w) lk_X0_46 (Nat.le_refl _) (Nat.le_of_ble_eq_true rfl) rfl rfl (Nat.le_of_ble_eq_true rfl) dX0_below_145 (fun r9 w10 => ?_)
            refine e_iconst (pc := 148) (v := (5 : Int32)) dX0_below_148 ic_5 ?_
            refine e_ixor (pc := 149) dX0_below_149 ?_
            exact e_iretW rfl dX0_below_150
          · refine e_ite (fun h1_60 => ?_) (fun h1_60 => ?_)
            · refine e_look (pc := 1) (off := 150) (tgt := 151) dX0_below_1 (by decide) (by rw [h1_60]; decide) (by decide) ?_
              refine e_aload_n (pc := 151) dX0_below_151 0 rfl rfl ?_
              refine e_iload_n (pc := 152) dX0_below_152 2 rfl rfl ?_
              refine e_iconst (pc := 153) (v := (2 : Int32)) dX0_below_153 ic_2 ?_
              refine e_iload_n (pc := 154) dX0_below_154 3 rfl rfl ?_
              refine e_iload (pc := 155) dX0_below_155 4 rfl ?_
              refine e_callVWI (pc := 157) (As := [.int a2, .int (2 : Int32), .int a3, .int a4]) (rest := []) kk39 Kc0 (hr_X0_from a2 (2 : Int32) a3 a4 w) lk_X0_46 (Nat.le_refl _) (Nat.le_of_ble_eq_true rfl) rfl rfl (Nat.le_of_ble_eq_true rfl) dX0_below_157 (fun r11 w12 => ?_)
              refine e_aload_n (pc := 160) dX0_below_160 0 rfl rfl ?_
              refine e_iconst (pc := 161) (v := (0 : Int32)) dX0_below_161 ic_0 ?_
              refine e_iconst (pc := 162) (v := (2 : Int32)) dX0_below_162 ic_2 ?_
              refine e_iload (pc := 163) dX0_below_163 4 rfl ?_
              refine e_callVWI (pc := 165) (As := [.int (0 : Int32), .int (2 : Int32), .int a4]) (rest := [.int r11]) kk39 Kc0 (hr_X0_own (0 : Int32) (2 : Int32) a4 w12) lk_X0_38 (Nat.le_refl _) (Nat.le_of_ble_eq_true rfl) rfl rfl (Nat.le_of_ble_eq_true rfl) dX0_below_165 (fun r13 w14 => ?_)
              refine e_isub (pc := 168) dX0_below_168 ?_
              exact e_iretW rfl dX0_below_169
            · refine e_ite (fun h1_61 => ?_) (fun h1_61 => ?_)
              · refine e_look (pc := 1) (off := 169) (tgt := 170) dX0_below_1 (by decide) (by rw [h1_61]; decide) (by decide) ?_
                refine e_aload_n (pc := 170) dX0_below_170 0 rfl rfl ?_
                refine e_iload_n (pc := 171) dX0_below_171 2 rfl rfl ?_
                refine e_iconst (pc := 172) (v := (3 : Int32)) dX0_below_172 ic_3 ?_
                refine e_iload_n (pc := 173) dX0_below_173 3 rfl rfl ?_
                refine e_iload (pc := 174) dX0_below_174 4 rfl ?_
                refine e_callVWI (pc := 176) (As := [.int a2, .int (3 : Int32), .int a3, .int a4]) (rest := []) kk39 Kc0 (hr_X0_from a2 (3 : Int32) a3 a4 w) lk_X0_46 (Nat.le_refl _) (Nat.le_of_ble_eq_true rfl) rfl rfl (Nat.le_of_ble_eq_true rfl) dX0_below_176 (fun r15 w16 => ?_)
                refine e_iconst (pc := 179) (v := (1 : Int32)) dX0_below_179 ic_1 ?_
                refine e_iadd (pc := 180) dX0_below_180 ?_
                exact e_iretW rfl dX0_below_181
              · refine e_ite (fun h1_70 => ?_) (fun h1_70 => ?_)
                · refine e_look (pc := 1) (off := 181) (tgt := 182) dX0_below_1 (by decide) (by rw [h1_70]; decide) (by decide) ?_
                  refine e_aload_n (pc := 182) dX0_below_182 0 rfl rfl ?_
                  refine e_iload_n (pc := 183) dX0_below_183 2 rfl rfl ?_
                  refine e_iconst (pc := 184) (v := (0 : Int32)) dX0_below_184 ic_0 ?_
                  refine e_iload_n (pc := 185) dX0_below_185 3 rfl rfl ?_
                  refine e_iload (pc := 186) dX0_below_186 4 rfl ?_
                  refine e_callVWI (pc := 188) (As := [.int a2, .int (0 : Int32), .int a3, .int a4]) (rest := []) kk39 Kc0 (hr_X0_from a2 (0 : Int32) a3 a4 w) lk_X0_46 (Nat.le_refl _) (Nat.le_of_ble_eq_true rfl) rfl rfl (Nat.le_of_ble_eq_true rfl) dX0_below_188 (fun r17 w18 => ?_)
                  refine e_iconst (pc := 191) (v := (2 : Int32)) dX0_below_191 ic_2 ?_
                  refine e_imul (pc := 192) dX0_below_192 ?_
                  exact e_iretW rfl dX0_below_193
                · refine e_ite (fun h1_80 => ?_) (fun h1_80 => ?_)
                  · refine e_look (pc := 1) (off := 193) (tgt := 194) dX0_below_1 (by decide) (by rw [h1_80]; decide) (by decide) ?_
                    refine e_aload_n (pc := 194) dX0_below_194 0 rfl rfl ?_
                    refine e_iload_n (pc := 195) dX0_below_195 2 rfl rfl ?_
                    refine e_iconst (pc := 196) (v := (1 : Int32)) dX0_below_196 ic_1 ?_
                    refine e_iload_n (pc := 197) dX0_below_197 3 rfl rfl ?_
                    refine e_iload (pc := 198) dX0_below_198 4 rfl ?_
                    refine e_callVWI (pc := 200) (As := [.int a2, .int (1 : Int32), .int a3, .int a4]) (rest := []) kk39 Kc0 (hr_X0_from a2 (1 : Int32) a3 a4 w) lk_X0_46 (Nat.le_refl _) (Nat.le_of_ble_eq_true rfl) rfl rfl (Nat.le_of_ble_eq_true rfl) dX0_below_200 (fun r19 w20 => ?_)
                    refine e_aload_n (pc := 203) dX0_below_203 0 rfl rfl ?_
                    refine e_iconst (pc := 204) (v := (2 : Int32)) dX0_below_204 ic_2 ?_
                    refine e_iconst (pc := 205) (v := (2 : Int32)) dX0_below_205 ic_2 ?_
                    refine e_iload (pc := 206) dX0_below_206 4 rfl ?_
                    refine e_callVWI (pc := 208) (As := [.int (2 : Int32), .int (2 : Int32), .int a4]) (rest := [.int r19]) kk39 Kc0 (hr_X0_own (2 : Int32) (2 : Int32) a4 w20) lk_X0_38 (Nat.le_refl _) (Nat.le_of_ble_eq_true rfl) rfl rfl (Nat.le_of_ble_eq_true rfl) dX0_below_208 (fun r21 w22 => ?_)
                    refine e_iadd (pc := 211) dX0_below_211 ?_
                    exact e_iretW rfl dX0_below_212
                  · refine e_ite (fun h1_81 => ?_) (fun h1_81 => ?_)
                    · refine e_look (pc := 1) (off := 212) (tgt := 213) dX0_below_1 (by decide) (by rw [h1_81]; decide) (by decide) ?_
                      refine e_aload_n (pc := 213) dX0_below_213 0 rfl rfl ?_
                      refine e_iload_n (pc := 214) dX0_below_214 2 rfl rfl ?_
                      refine e_iconst (pc := 215) (v := (0 : Int32)) dX0_below_215 ic_0 ?_
                      refine e_iload_n (pc := 216) dX0_below_216 3 rfl rfl ?_
                      refine e_iload (pc := 217) dX0_below_217 4 rfl ?_
                      refine e_callVWI (pc := 219) (As := [.int a2, .int (0 : Int32), .int a3, .int a4]) (rest := []) kk39 Kc0 (hr_X0_from a2 (0 : Int32) a3 a4 w) lk_X0_46 (Nat.le_refl _) (Nat.le_of_ble_eq_true rfl) rfl rfl (Nat.le_of_ble_eq_true rfl) dX0_below_219 (fun r23 w24 => ?_)
                      refine e_iconst (pc := 222) (v := (1 : Int32)) dX0_below_222 ic_1 ?_
                      refine e_isub (pc := 223) dX0_below_223 ?_
                      exact e_iretW rfl dX0_below_224
                    · refine e_look (pc := 1) (off := 224) (tgt := 225) dX0_below_1 (by decide) ((lv_osw h1_20 (by decide)).trans ((lv_osw h1_30 (by decide)).trans ((lv_osw h1_40 (by decide)).trans ((lv_osw h1_41 (by decide)).trans ((lv_osw h1_50 (by decide)).trans ((lv_osw h1_60 (by decide)).trans ((lv_osw h1_61 (by decide)).trans ((lv_osw h1_70 (by decide)).trans ((lv_osw h1_80 (by decide)).trans ((lv_osw h1_81 (by decide)).trans rfl)))))))))) (by decide) ?_
                      refine e_iconst (pc := 225) (v := (0 : Int32)) dX0_below_225 ic_0 ?_
                      exact e_iretW rfl dX0_below_226
set_option maxRecDepth 100000 in
theorem cs_X0_own (X : Xt) : ∀ n : Nat, (∀ (a1 : Int32) (a2 : Int32) (a3 : Int32) (w : Wd), CF gWI X m_X0_own (3 + n) [.ref (xa X 39), .int a1, .int a2, .int a3] w (f_X0_own n a1 a2 a3 w)) ∧ (∀ (a1 : Int32) (a2 : Int32) (a3 : Int32) (a4 : Int32) (w : Wd), CF gWI X m_X0_from (3 + n) [.ref (xa X 39), .int a1, .int a2, .int a3, .int a4] w (f_X0_from n a1 a2 a3 a4 w)) ∧ (∀ (a1 : Int32) (a2 : Int32) (a3 : Int32) (w : Wd), CF gWI X m_X0_atTop (3 + n) [.ref (xa X 39), .int a1, .int a2, .int a3] w (f_X0_atTop n a1 a2 a3 w)) ∧ (∀ (a1 : Int32) (a2 : Int32) (a3 : Int32) (a4 : Int32) (w : Wd), CF gWI X m_X0_below (3 + n) [.ref (xa X 39), .int a1, .int a2, .int a3, .int a4] w (f_X0_below n a1 a2 a3 a4 w)) := by
  intro n
  induction n with
  | zero => exact ⟨fun _ _ _ _ => CF_none, fun _ _ _ _ _ => CF_none, fun _ _ _ _ => CF_none, fun _ _ _ _ _ => CF_none⟩
  | succ n ih =>
    obtain ⟨ih0, ih1, ih2, ih3⟩ := ih
    exact ⟨fun a1 a2 a3 w => CF_of (by decide) (Nat.le_of_ble_eq_true rfl) (ce_X0_own X (Nat.le_add_right _ _) (f_X0_own n) ih0 (f_X0_from n) ih1 (f_X0_atTop n) ih2 (f_X0_below n) ih3 a1 a2 a3 w), fun a1 a2 a3 a4 w => CF_of (by decide) (Nat.le_of_ble_eq_true rfl) (ce_X0_from X (Nat.le_add_right _ _) (f_X0_own n) ih0 (f_X0_from n) ih1 (f_X0_atTop n) ih2 (f_X0_below n) ih3 a1 a2 a3 a4 w), fun a1 a2 a3 w => CF_of (by decide) (Nat.le_of_ble_eq_true rfl) (ce_X0_atTop X (Nat.le_add_right _ _) (f_X0_own n) ih0 (f_X0_from n) ih1 (f_X0_atTop n) ih2 (f_X0_below n) ih3 a1 a2 a3 w), fun a1 a2 a3 a4 w => CF_of (by decide) (Nat.le_of_ble_eq_true rfl) (ce_X0_below X (Nat.le_add_right _ _) (f_X0_own n) ih0 (f_X0_from n) ih1 (f_X0_atTop n) ih2 (f_X0_below n) ih3 a1 a2 a3 a4 w)⟩
theorem cf_X0_own (X : Xt) (n : Nat) (a1 : Int32) (a2 : Int32) (a3 : Int32) (w : Wd) : CF gWI X m_X0_own (3 + n) [.ref (xa X 39), .int a1, .int a2, .int a3] w (f_X0_own n a1 a2 a3 w) := (cs_X0_own X n).1 a1 a2 a3 w
theorem cf_X0_from (X : Xt) (n : Nat) (a1 : Int32) (a2 : Int32) (a3 : Int32) (a4 : Int32) (w : Wd) : CF gWI X m_X0_from (3 + n) [.ref (xa X 39), .int a1, .int a2, .int a3, .int a4] w (f_X0_from n a1 a2 a3 a4 w) := (cs_X0_own X n).2.1 a1 a2 a3 a4 w
theorem cf_X0_atTop (X : Xt) (n : Nat) (a1 : Int32) (a2 : Int32) (a3 : Int32) (w : Wd) : CF gWI X m_X0_atTop (3 + n) [.ref (xa X 39), .int a1, .int a2, .int a3] w (f_X0_atTop n a1 a2 a3 w) := (cs_X0_own X n).2.2.1 a1 a2 a3 w
theorem cf_X0_below (X : Xt) (n : Nat) (a1 : Int32) (a2 : Int32) (a3 : Int32) (a4 : Int32) (w : Wd) : CF gWI X m_X0_below (3 + n) [.ref (xa X 39), .int a1, .int a2, .int a3, .int a4] w (f_X0_below n a1 a2 a3 a4 w) := (cs_X0_own X n).2.2.2 a1 a2 a3 a4 w
set_option maxRecDepth 100000 in
set_option maxHeartbeats 4000000 in
theorem ce_X0_perform (X : Xt) (a1 : Int32) (a2 : Int32) (a3 : Int32) (w : Wd) : E gWI X m_X0_perform 84 0 [(0, .ref (xa X 39)), (1, .int a1), (2, .int a2), (3, .int a3)] [] w (f_X0_perform a1 a2 a3 w) := by
  unfold f_X0_perform
  refine e_aload_n (pc := 0) dX0_perform_0 0 rfl rfl ?_
  refine e_iload_n (pc := 1) dX0_perform_1 1 rfl rfl ?_
  refine p_I (pc := 2) kk39 fp_X0_25 dX0_perform_2 (fun w1 => ?_)
  refine e_aload_n (pc := 5) dX0_perform_5 0 rfl rfl ?_
  refine e_iload_n (pc := 6) dX0_perform_6 2 rfl rfl ?_
  refine e_iload_n (pc := 7) dX0_perform_7 3 rfl rfl ?_
  refine e_iconst (pc := 8) (v := (0 : Int32)) dX0_perform_8 ic_0 ?_
  refine e_callVWI (pc := 9) (As := [.int a2, .int a3, .int (0 : Int32)]) (rest := []) kk39 Kc0 (cf_X0_own X rf a2 a3 (0 : Int32) w1) lk_X0_38 (Nat.le_of_ble_eq_true rfl) (Nat.le_of_ble_eq_true rfl) rfl rfl (Nat.le_of_ble_eq_true rfl) dX0_perform_9 (fun r2 w3 => ?_)
  exact e_iretW rfl dX0_perform_12
theorem cf_X0_perform (X : Xt) (a1 : Int32) (a2 : Int32) (a3 : Int32) (w : Wd) : CF gWI X m_X0_perform 84 [.ref (xa X 39), .int a1, .int a2, .int a3] w (f_X0_perform a1 a2 a3 w) := CF_of (by decide) (Nat.le_of_ble_eq_true rfl) (ce_X0_perform X a1 a2 a3 w)
set_option maxRecDepth 100000 in
set_option maxHeartbeats 4000000 in
theorem ce_X11_isBag (X : Xt) (a0 : Int32) (w : Wd) : E (gRI w) X m_X11_isBag 1 0 [(0, .int a0)] [] w (f_X11_isBag a0) := by
  unfold f_X11_isBag
  refine e_iload_n (pc := 0) dX11_isBag_0 0 rfl rfl ?_
  refine e_if_lt (pc := 1) (tgt := 13) dX11_isBag_1 (by decide) (fun _ => ?_) (fun _ => ?_)
  · refine e_iconst (pc := 13) (v := (0 : Int32)) dX11_isBag_13 ic_0 ?_
    exact e_zretR0 rfl (by decide) dX11_isBag_14
  · refine e_iload_n (pc := 4) dX11_isBag_4 0 rfl rfl ?_
    refine e_iconst (pc := 5) (v := (4 : Int32)) dX11_isBag_5 ic_4 ?_
    refine e_icmp_ge (pc := 6) (tgt := 13) dX11_isBag_6 (by decide) (fun _ => ?_) (fun _ => ?_)
    · refine e_iconst (pc := 13) (v := (0 : Int32)) dX11_isBag_13 ic_0 ?_
      exact e_zretR0 rfl (by decide) dX11_isBag_14
    · refine e_iconst (pc := 9) (v := (1 : Int32)) dX11_isBag_9 ic_1 ?_
      refine e_goto (pc := 10) (tgt := 14) dX11_isBag_10 (by decide) ?_
      exact e_zretR0 rfl (by decide) dX11_isBag_14
theorem cf_X11_isBag (X : Xt) (a0 : Int32) (w : Wd) : CF (gRI w) X m_X11_isBag 1 [.int a0] w (f_X11_isBag a0) := CF_of (by decide) (Nat.le_of_ble_eq_true rfl) (ce_X11_isBag X a0 w)
set_option maxRecDepth 100000 in
set_option maxHeartbeats 4000000 in
theorem ce_X6_isLooker (X : Xt) (a1 : Int32) (w : Wd) : E (gRI w) X m_X6_isLooker 1 0 [(0, .ref (xa X 1)), (1, .int a1)] [] w (f_X6_isLooker a1 w) := by
  unfold f_X6_isLooker
  refine e_iload_n (pc := 0) dX6_isLooker_0 1 rfl rfl ?_
  refine e_if_lt (pc := 1) (tgt := 16) dX6_isLooker_1 (by decide) (fun _ => ?_) (fun _ => ?_)
  · refine e_iconst (pc := 16) (v := (0 : Int32)) dX6_isLooker_16 ic_0 ?_
    exact e_zretR0 rfl (by decide) dX6_isLooker_17
  · refine e_iload_n (pc := 4) dX6_isLooker_4 1 rfl rfl ?_
    refine e_aload_n (pc := 5) dX6_isLooker_5 0 rfl rfl ?_
    refine g_I (pc := 6) kk1 fl_X6_15 dX6_isLooker_6 ?_
    refine e_icmp_ge (pc := 9) (tgt := 16) dX6_isLooker_9 (by decide) (fun _ => ?_) (fun _ => ?_)
    · refine e_iconst (pc := 16) (v := (0 : Int32)) dX6_isLooker_16 ic_0 ?_
      exact e_zretR0 rfl (by decide) dX6_isLooker_17
    · refine e_iconst (pc := 12) (v := (1 : Int32)) dX6_isLooker_12 ic_1 ?_
      refine e_goto (pc := 13) (tgt := 17) dX6_isLooker_13 (by decide) ?_
      exact e_zretR0 rfl (by decide) dX6_isLooker_17
theorem cf_X6_isLooker (X : Xt) (a1 : Int32) (w : Wd) : CF (gRI w) X m_X6_isLooker 1 [.ref (xa X 1), .int a1] w (f_X6_isLooker a1 w) := CF_of (by decide) (Nat.le_of_ble_eq_true rfl) (ce_X6_isLooker X a1 w)
set_option maxRecDepth 100000 in
set_option maxHeartbeats 4000000 in
theorem ce_X6_slotOf (X : Xt) (a1 : Int32) (a2 : Int32) (w : Wd) : E (gRI w) X m_X6_slotOf 2 0 [(0, .ref (xa X 1)), (1, .int a1), (2, .int a2)] [] w (f_X6_slotOf a1 a2 w) := by
  unfold f_X6_slotOf
  refine e_iload_n (pc := 0) dX6_slotOf_0 2 rfl rfl ?_
  refine e_if_lt (pc := 1) (tgt := 10) dX6_slotOf_1 (by decide) (fun _ => ?_) (fun _ => ?_)
  · refine e_iconst (pc := 10) (v := (-1 : Int32)) dX6_slotOf_10 ic_m1 ?_
    exact e_iretR rfl dX6_slotOf_11
  · refine e_iload_n (pc := 4) dX6_slotOf_4 2 rfl rfl ?_
    refine e_bipush (pc := 5) (v := (11 : Int32)) dX6_slotOf_5 bp_11 ?_
    refine e_icmp_le (pc := 7) (tgt := 12) dX6_slotOf_7 (by decide) (fun _ => ?_) (fun _ => ?_)
    · refine e_iload_n (pc := 12) dX6_slotOf_12 2 rfl rfl ?_
      refine e_iconst (pc := 13) (v := (4 : Int32)) dX6_slotOf_13 ic_4 ?_
      refine e_icmp_gt (pc := 14) (tgt := 34) dX6_slotOf_14 (by decide) (fun _ => ?_) (fun _ => ?_)
      · refine e_iload_n (pc := 34) dX6_slotOf_34 2 rfl rfl ?_
        refine e_bipush (pc := 35) (v := (6 : Int32)) dX6_slotOf_35 bp_6 ?_
        refine e_icmp_gt (pc := 37) (tgt := 63) dX6_slotOf_37 (by decide) (fun _ => ?_) (fun _ => ?_)
        · refine e_iload_n (pc := 63) dX6_slotOf_63 1 rfl rfl ?_
          refine e_if_ne (pc := 64) (tgt := 77) dX6_slotOf_64 (by decide) (fun _ => ?_) (fun _ => ?_)
          · refine e_bipush (pc := 67) (v := (32 : Int32)) dX6_slotOf_67 bp_32 ?_
            refine e_iload_n (pc := 69) dX6_slotOf_69 2 rfl rfl ?_
            refine e_iadd (pc := 70) dX6_slotOf_70 ?_
            refine e_bipush (pc := 71) (v := (7 : Int32)) dX6_slotOf_71 bp_7 ?_
            refine e_isub (pc := 73) dX6_slotOf_73 ?_
            refine e_goto (pc := 74) (tgt := 78) dX6_slotOf_74 (by decide) ?_
            exact e_iretR rfl dX6_slotOf_78
          · refine e_iconst (pc := 77) (v := (-1 : Int32)) dX6_slotOf_77 ic_m1 ?_
            exact e_iretR rfl dX6_slotOf_78
        · refine e_aload_n (pc := 40) dX6_slotOf_40 0 rfl rfl ?_
          refine e_iload_n (pc := 41) dX6_slotOf_41 1 rfl rfl ?_
          refine e_callVRI (pc := 42) (As := [.int a1]) (rest := []) kk1 Kc6 (cf_X6_isLooker X a1 w) lk_X6_44 (Nat.le_of_ble_eq_true rfl) (Nat.le_of_ble_eq_true rfl) rfl rfl (Nat.le_of_ble_eq_true rfl) dX6_slotOf_42 (fun r1 => ?_)
          refine e_if_eq (pc := 45) (tgt := 61) dX6_slotOf_45 (by decide) (fun _ => ?_) (fun _ => ?_)
          · refine e_iconst (pc := 61) (v := (-1 : Int32)) dX6_slotOf_61 ic_m1 ?_
            exact e_iretR rfl dX6_slotOf_62
          · refine e_bipush (pc := 48) (v := (20 : Int32)) dX6_slotOf_48 bp_20 ?_
            refine e_iconst (pc := 50) (v := (2 : Int32)) dX6_slotOf_50 ic_2 ?_
            refine e_iload_n (pc := 51) dX6_slotOf_51 1 rfl rfl ?_
            refine e_imul (pc := 52) dX6_slotOf_52 ?_
            refine e_iadd (pc := 53) dX6_slotOf_53 ?_
            refine e_iload_n (pc := 54) dX6_slotOf_54 2 rfl rfl ?_
            refine e_iadd (pc := 55) dX6_slotOf_55 ?_
            refine e_iconst (pc := 56) (v := (5 : Int32)) dX6_slotOf_56 ic_5 ?_
            refine e_isub (pc := 57) dX6_slotOf_57 ?_
            refine e_goto (pc := 58) (tgt := 62) dX6_slotOf_58 (by decide) ?_
            exact e_iretR rfl dX6_slotOf_62
      · refine e_iload_n (pc := 17) dX6_slotOf_17 1 rfl rfl ?_
        refine e_callNRI (pc := 18) (As := [.int a1]) (rest := []) (cf_X11_isBag X a1 w) (lk_X6_40 X) (Nat.le_of_ble_eq_true rfl) (Nat.le_of_ble_eq_true rfl) rfl rfl (Nat.le_of_ble_eq_true rfl) dX6_slotOf_18 (fun r2 => ?_)
        refine e_if_eq (pc := 21) (tgt := 32) dX6_slotOf_21 (by decide) (fun _ => ?_) (fun _ => ?_)
        · refine e_iconst (pc := 32) (v := (-1 : Int32)) dX6_slotOf_32 ic_m1 ?_
          exact e_iretR rfl dX6_slotOf_33
        · refine e_iload_n (pc := 24) dX6_slotOf_24 1 rfl rfl ?_
          refine e_iconst (pc := 25) (v := (5 : Int32)) dX6_slotOf_25 ic_5 ?_
          refine e_imul (pc := 26) dX6_slotOf_26 ?_
          refine e_iload_n (pc := 27) dX6_slotOf_27 2 rfl rfl ?_
          refine e_iadd (pc := 28) dX6_slotOf_28 ?_
          refine e_goto (pc := 29) (tgt := 33) dX6_slotOf_29 (by decide) ?_
          exact e_iretR rfl dX6_slotOf_33
    · refine e_iconst (pc := 10) (v := (-1 : Int32)) dX6_slotOf_10 ic_m1 ?_
      exact e_iretR rfl dX6_slotOf_11
theorem cf_X6_slotOf (X : Xt) (a1 : Int32) (a2 : Int32) (w : Wd) : CF (gRI w) X m_X6_slotOf 2 [.ref (xa X 1), .int a1, .int a2] w (f_X6_slotOf a1 a2 w) := CF_of (by decide) (Nat.le_of_ble_eq_true rfl) (ce_X6_slotOf X a1 a2 w)
set_option maxRecDepth 100000 in
set_option maxHeartbeats 4000000 in
theorem ce_X6_get (X : Xt) (a1 : Int32) (a2 : Int32) (w : Wd) : E (gRI w) X m_X6_get 3 0 [(0, .ref (xa X 1)), (1, .int a1), (2, .int a2)] [] w (f_X6_get a1 a2 w) := by
  unfold f_X6_get
  refine e_aload_n (pc := 0) dX6_get_0 0 rfl rfl ?_
  refine e_iload_n (pc := 1) dX6_get_1 1 rfl rfl ?_
  refine e_iload_n (pc := 2) dX6_get_2 2 rfl rfl ?_
  refine e_callVRI (pc := 3) (As := [.int a1, .int a2]) (rest := []) kk1 Kc6 (cf_X6_slotOf X a1 a2 w) lk_X6_47 (Nat.le_of_ble_eq_true rfl) (Nat.le_of_ble_eq_true rfl) rfl rfl (Nat.le_of_ble_eq_true rfl) dX6_get_3 (fun r1 => ?_)
  refine e_istore_n (pc := 6) (lv' := [(3, .int r1), (0, .ref (xa X 1)), (1, .int a1), (2, .int a2)]) dX6_get_6 rfl (Nat.le_of_ble_eq_true rfl) rfl ?_
  refine e_iload_n (pc := 7) dX6_get_7 0 rfl rfl ?_
  refine e_if_ge (pc := 8) (tgt := 15) dX6_get_8 (by decide) (fun _ => ?_) (fun _ => ?_)
  · refine e_aload_n (pc := 15) dX6_get_15 1 rfl rfl ?_
    refine g_R (pc := 16) (cl' := 2) kk1 fl_X6_11 rfl dX6_get_16 ?_
    refine e_iload_n (pc := 19) dX6_get_19 0 rfl rfl ?_
    refine e_iald (pc := 20) kk2 dX6_get_20 (fun v2 => ?_)
    exact e_iretR rfl dX6_get_21
  · refine e_iconst (pc := 11) (v := (0 : Int32)) dX6_get_11 ic_0 ?_
    refine e_goto (pc := 12) (tgt := 21) dX6_get_12 (by decide) ?_
    exact e_iretR rfl dX6_get_21
theorem cf_X6_get (X : Xt) (a1 : Int32) (a2 : Int32) (w : Wd) : CF (gRI w) X m_X6_get 3 [.ref (xa X 1), .int a1, .int a2] w (f_X6_get a1 a2 w) := CF_of (by decide) (Nat.le_of_ble_eq_true rfl) (ce_X6_get X a1 a2 w)
set_option maxRecDepth 100000 in
set_option maxHeartbeats 4000000 in
theorem ce_X1_isLevel (X : Xt) (a0 : Int32) (w : Wd) : E (gRI w) X m_X1_isLevel 1 0 [(0, .int a0)] [] w (f_X1_isLevel a0) := by
  unfold f_X1_isLevel
  refine e_iload_n (pc := 0) dX1_isLevel_0 0 rfl rfl ?_
  refine e_if_lt (pc := 1) (tgt := 13) dX1_isLevel_1 (by decide) (fun _ => ?_) (fun _ => ?_)
  · refine e_iconst (pc := 13) (v := (0 : Int32)) dX1_isLevel_13 ic_0 ?_
    exact e_zretR0 rfl (by decide) dX1_isLevel_14
  · refine e_iload_n (pc := 4) dX1_isLevel_4 0 rfl rfl ?_
    refine e_iconst (pc := 5) (v := (4 : Int32)) dX1_isLevel_5 ic_4 ?_
    refine e_icmp_gt (pc := 6) (tgt := 13) dX1_isLevel_6 (by decide) (fun _ => ?_) (fun _ => ?_)
    · refine e_iconst (pc := 13) (v := (0 : Int32)) dX1_isLevel_13 ic_0 ?_
      exact e_zretR0 rfl (by decide) dX1_isLevel_14
    · refine e_iconst (pc := 9) (v := (1 : Int32)) dX1_isLevel_9 ic_1 ?_
      refine e_goto (pc := 10) (tgt := 14) dX1_isLevel_10 (by decide) ?_
      exact e_zretR0 rfl (by decide) dX1_isLevel_14
theorem cf_X1_isLevel (X : Xt) (a0 : Int32) (w : Wd) : CF (gRI w) X m_X1_isLevel 1 [.int a0] w (f_X1_isLevel a0) := CF_of (by decide) (Nat.le_of_ble_eq_true rfl) (ce_X1_isLevel X a0 w)
set_option maxRecDepth 100000 in
set_option maxHeartbeats 4000000 in
theorem ce_X1_all (X : Xt) (c0 : Nat) (a1 : Int32) (hc0 : isCh c0) (w : Wd) : E (gRL w) X m_X1_all 2 0 [(0, .ref (xa X c0)), (1, .int a1)] [] w (f_X1_all c0 a1 w) := by
  unfold f_X1_all
  refine e_iload_n (pc := 0) dX1_all_0 1 rfl rfl ?_
  refine e_callSRI (pc := 1) (As := [.int a1]) (rest := []) (cf_X1_isLevel X a1 w) lk_X1_33 (Nat.le_of_ble_eq_true rfl) (Nat.le_of_ble_eq_true rfl) rfl rfl (Nat.le_of_ble_eq_true rfl) dX1_all_1 (fun r1 => ?_)
  refine e_if_ne (pc := 4) (tgt := 9) dX1_all_4 (by decide) (fun _ => ?_) (fun _ => ?_)
  · refine e_lconst (pc := 7) (v := (0 : Int64)) dX1_all_7 lc_0 ?_
    exact e_lretR rfl dX1_all_8
  · refine e_iload_n (pc := 9) dX1_all_9 1 rfl rfl ?_
    refine e_iconst (pc := 10) (v := (4 : Int32)) dX1_all_10 ic_4 ?_
    refine e_imul (pc := 11) dX1_all_11 ?_
    refine e_nameI (fun y2 => ?_)
    refine e_istore_n (pc := 12) (lv' := [(2, .int y2), (0, .ref (xa X c0)), (1, .int a1)]) dX1_all_12 rfl (Nat.le_of_ble_eq_true rfl) rfl ?_
    refine e_aload_n (pc := 13) dX1_all_13 1 rfl rfl ?_
    refine g_R (pc := 14) (cl' := (c0 + 1)) hc0.1 fl_X1_11 rfl dX1_all_14 ?_
    refine e_iload_n (pc := 17) dX1_all_17 0 rfl rfl ?_
    refine e_lald (pc := 18) hc0.2 dX1_all_18 (fun v3 => ?_)
    refine e_aload_n (pc := 19) dX1_all_19 1 rfl rfl ?_
    refine g_R (pc := 20) (cl' := (c0 + 1)) hc0.1 fl_X1_11 rfl dX1_all_20 ?_
    refine e_iload_n (pc := 23) dX1_all_23 0 rfl rfl ?_
    refine e_iconst (pc := 24) (v := (1 : Int32)) dX1_all_24 ic_1 ?_
    refine e_iadd (pc := 25) dX1_all_25 ?_
    refine e_lald (pc := 26) hc0.2 dX1_all_26 (fun v4 => ?_)
    refine e_ladd (pc := 27) dX1_all_27 ?_
    refine e_aload_n (pc := 28) dX1_all_28 1 rfl rfl ?_
    refine g_R (pc := 29) (cl' := (c0 + 1)) hc0.1 fl_X1_11 rfl dX1_all_29 ?_
    refine e_iload_n (pc := 32) dX1_all_32 0 rfl rfl ?_
    refine e_iconst (pc := 33) (v := (2 : Int32)) dX1_all_33 ic_2 ?_
    refine e_iadd (pc := 34) dX1_all_34 ?_
    refine e_lald (pc := 35) hc0.2 dX1_all_35 (fun v5 => ?_)
    refine e_ladd (pc := 36) dX1_all_36 ?_
    refine e_aload_n (pc := 37) dX1_all_37 1 rfl rfl ?_
    refine g_R (pc := 38) (cl' := (c0 + 1)) hc0.1 fl_X1_11 rfl dX1_all_38 ?_
    refine e_iload_n (pc := 41) dX1_all_41 0 rfl rfl ?_
    refine e_iconst (pc := 42) (v := (3 : Int32)) dX1_all_42 ic_3 ?_
    refine e_iadd (pc := 43) dX1_all_43 ?_
    refine e_lald (pc := 44) hc0.2 dX1_all_44 (fun v6 => ?_)
    refine e_ladd (pc := 45) dX1_all_45 ?_
    exact e_lretR rfl dX1_all_46
theorem cf_X1_all (X : Xt) (c0 : Nat) (a1 : Int32) (hc0 : isCh c0) (w : Wd) : CF (gRL w) X m_X1_all 2 [.ref (xa X c0), .int a1] w (f_X1_all c0 a1 w) := CF_of (by decide) (Nat.le_of_ble_eq_true rfl) (ce_X1_all X c0 a1 hc0 w)
set_option maxRecDepth 100000 in
set_option maxHeartbeats 4000000 in
theorem cb_X1_begin_b2_y (X : Xt) (k2 : Nat → Int32 → Int32 → Wd → Option Wd) (hk2 : ∀ (c0 : Nat) (x2 : Int32) (x3 : Int32) (hc0 : isCh c0) (w : Wd), E gWV X m_X1_begin 4 2 [(0, .ref (xa X c0)), (1, .ref (xa X 1)), (2, .int x2), (3, .int x3)] [] w (k2 c0 x2 x3 w)) (c0 : Nat) (x2 : Int32) (x3 : Int32) (hc0 : isCh c0) (w : Wd) : E gWV X m_X1_begin 4 2 [(0, .ref (xa X c0)), (1, .ref (xa X 1)), (2, .int x2), (3, .int x3)] [] w (f_X1_begin_b2_y k2 c0 x2 x3 w) := by
  unfold f_X1_begin_b2_y
  refine e_iload_n (pc := 2) dX1_begin_2 3 rfl rfl ?_
  refine e_iconst (pc := 3) (v := (4 : Int32)) dX1_begin_3 ic_4 ?_
  refine e_icmp_ge (pc := 4) (tgt := 26) dX1_begin_4 (by decide) (fun _ => ?_) (fun _ => ?_)
  · refine e_aload_n (pc := 26) dX1_begin_26 0 rfl rfl ?_
    refine e_iconst (pc := 27) (v := (0 : Int32)) dX1_begin_27 ic_0 ?_
    refine e_callVRL (pc := 28) (As := [.int (0 : Int32)]) (rest := []) hc0.1 Kc1 (cf_X1_all X c0 (0 : Int32) hc0 w) lk_X1_21 (Nat.le_of_ble_eq_true rfl) (Nat.le_of_ble_eq_true rfl) rfl rfl (Nat.le_of_ble_eq_true rfl) dX1_begin_28 (fun r1 => ?_)
    refine e_lconst (pc := 31) (v := (0 : Int64)) dX1_begin_31 lc_0 ?_
    refine e_lcmp_ne (pc := 32) (tgt := 43) dX1_begin_32 dX1_begin_33 (by decide) (fun _ => ?_) (fun _ => ?_)
    · refine e_aload_n (pc := 36) dX1_begin_36 0 rfl rfl ?_
      refine g_R (pc := 37) (cl' := (c0 + 1)) hc0.1 fl_X1_11 rfl dX1_begin_37 ?_
      refine e_iconst (pc := 40) (v := (0 : Int32)) dX1_begin_40 ic_0 ?_
      refine e_lconst (pc := 41) (v := (1 : Int64)) dX1_begin_41 lc_1 ?_
      refine e_last (pc := 42) hc0.2 dX1_begin_42 (fun w2 => ?_)
      exact e_vret rfl dX1_begin_43
    · exact e_vret rfl dX1_begin_43
  · refine e_aload_n (pc := 7) dX1_begin_7 0 rfl rfl ?_
    refine g_R (pc := 8) (cl' := (c0 + 1)) hc0.1 fl_X1_11 rfl dX1_begin_8 ?_
    refine e_iload_n (pc := 11) dX1_begin_11 3 rfl rfl ?_
    refine e_aload_n (pc := 12) dX1_begin_12 1 rfl rfl ?_
    refine e_iload_n (pc := 13) dX1_begin_13 2 rfl rfl ?_
    refine e_iload_n (pc := 14) dX1_begin_14 3 rfl rfl ?_
    refine e_callVRI (pc := 15) (As := [.int x2, .int x3]) (rest := [.int x3, .ref (xa X (c0 + 1))]) kk1 Kc6 (cf_X6_get X x2 x3 w) lk_X1_15 (Nat.le_of_ble_eq_true rfl) (Nat.le_of_ble_eq_true rfl) rfl rfl (Nat.le_of_ble_eq_true rfl) dX1_begin_15 (fun r3 => ?_)
    refine e_i2l (pc := 18) dX1_begin_18 ?_
    refine e_last (pc := 19) hc0.2 dX1_begin_19 (fun w4 => ?_)
    refine e_iinc (pc := 20) (lv' := [(3, .int (x3 + (1 : Int32))), (0, .ref (xa X c0)), (1, .ref (xa X 1)), (2, .int x2)]) dX1_begin_20 3 rfl (ii_1 _) (Nat.le_of_ble_eq_true rfl) rfl ?_
    refine e_goto (pc := 23) (tgt := 2) dX1_begin_23 (by decide) ?_
    refine e_lv [1, 2, 3, 0] rfl ?_
    exact hk2 c0 x2 (x3 + (1 : Int32)) hc0 w4
theorem cb_X1_begin_b2 (X : Xt) : ∀ (n : Nat) (c0 : Nat) (x2 : Int32) (x3 : Int32) (hc0 : isCh c0) (w : Wd), E gWV X m_X1_begin 4 2 [(0, .ref (xa X c0)), (1, .ref (xa X 1)), (2, .int x2), (3, .int x3)] [] w (f_X1_begin_b2 n c0 x2 x3 w) := by
  intro n
  induction n with
  | zero =>
    intro c0 x2 x3 hc0 w
    exact E_none
  | succ n ih =>
    intro c0 x2 x3 hc0 w
    exact cb_X1_begin_b2_y X _ ih c0 x2 x3 hc0 w
set_option maxRecDepth 100000 in
set_option maxHeartbeats 4000000 in
theorem ce_X1_begin (X : Xt) (c0 : Nat) (a2 : Int32) (hc0 : isCh c0) (w : Wd) : E gWV X m_X1_begin 4 0 [(0, .ref (xa X c0)), (1, .ref (xa X 1)), (2, .int a2)] [] w (f_X1_begin c0 a2 w) := by
  unfold f_X1_begin
  refine e_iconst (pc := 0) (v := (0 : Int32)) dX1_begin_0 ic_0 ?_
  refine e_istore_n (pc := 1) (lv' := [(3, .int (0 : Int32)), (0, .ref (xa X c0)), (1, .ref (xa X 1)), (2, .int a2)]) dX1_begin_1 rfl (Nat.le_of_ble_eq_true rfl) rfl ?_
  refine e_lv [1, 2, 3, 0] rfl ?_
  exact cb_X1_begin_b2 X fu c0 a2 (0 : Int32) hc0 w
theorem cf_X1_begin (X : Xt) (c0 : Nat) (a2 : Int32) (hc0 : isCh c0) (w : Wd) : CF gWV X m_X1_begin 4 [.ref (xa X c0), .ref (xa X 1), .int a2] w (f_X1_begin c0 a2 w) := CF_of (by decide) (Nat.le_of_ble_eq_true rfl) (ce_X1_begin X c0 a2 hc0 w)
set_option maxRecDepth 100000 in
set_option maxHeartbeats 4000000 in
theorem cb_X1_power_b5_y (X : Xt) (w : Wd) (k5 : Int32 → Int32 → Int64 → Int32 → Option Int64) (hk5 : ∀ (x0 : Int32) (x1 : Int32) (x2 : Int64) (x4 : Int32), E (gRL w) X m_X1_power 1 5 [(0, .int x0), (1, .int x1), (2, .long x2), (4, .int x4)] [] w (k5 x0 x1 x2 x4)) (x0 : Int32) (x1 : Int32) (x2 : Int64) (x4 : Int32) : E (gRL w) X m_X1_power 1 5 [(0, .int x0), (1, .int x1), (2, .long x2), (4, .int x4)] [] w (f_X1_power_b5_y k5 x0 x1 x2 x4) := by
  unfold f_X1_power_b5_y
  refine e_iload (pc := 5) dX1_power_5 3 rfl ?_
  refine e_iload_n (pc := 7) dX1_power_7 1 rfl rfl ?_
  refine e_icmp_ge (pc := 8) (tgt := 22) dX1_power_8 (by decide) (fun _ => ?_) (fun _ => ?_)
  · refine e_lload_n (pc := 22) dX1_power_22 2 rfl rfl ?_
    exact e_lretR rfl dX1_power_23
  · refine e_lload_n (pc := 11) dX1_power_11 2 rfl rfl ?_
    refine e_iload_n (pc := 12) dX1_power_12 0 rfl rfl ?_
    refine e_i2l (pc := 13) dX1_power_13 ?_
    refine e_lmul (pc := 14) dX1_power_14 ?_
    refine e_nameL (fun y1 => ?_)
    refine e_lstore_n (pc := 15) (lv' := [(2, .long y1), (0, .int x0), (1, .int x1), (4, .int x4)]) dX1_power_15 rfl (Nat.le_of_ble_eq_true rfl) rfl ?_
    refine e_iinc (pc := 16) (lv' := [(4, .int (x4 + (1 : Int32))), (2, .long y1), (0, .int x0), (1, .int x1)]) dX1_power_16 3 rfl (ii_1 _) (Nat.le_of_ble_eq_true rfl) rfl ?_
    refine e_goto (pc := 19) (tgt := 5) dX1_power_19 (by decide) ?_
    refine e_lv [2, 3, 1, 0] rfl ?_
    exact hk5 x0 x1 y1 (x4 + (1 : Int32))
theorem cb_X1_power_b5 (X : Xt) (w : Wd) : ∀ (n : Nat) (x0 : Int32) (x1 : Int32) (x2 : Int64) (x4 : Int32), E (gRL w) X m_X1_power 1 5 [(0, .int x0), (1, .int x1), (2, .long x2), (4, .int x4)] [] w (f_X1_power_b5 n x0 x1 x2 x4) := by
  intro n
  induction n with
  | zero =>
    intro x0 x1 x2 x4
    exact E_none
  | succ n ih =>
    intro x0 x1 x2 x4
    exact cb_X1_power_b5_y X w _ ih x0 x1 x2 x4
set_option maxRecDepth 100000 in
set_option maxHeartbeats 4000000 in
theorem ce_X1_power (X : Xt) (a0 : Int32) (a1 : Int32) (w : Wd) : E (gRL w) X m_X1_power 1 0 [(0, .int a0), (1, .int a1)] [] w (f_X1_power a0 a1) := by
  unfold f_X1_power
  refine e_lconst (pc := 0) (v := (1 : Int64)) dX1_power_0 lc_1 ?_
  refine e_lstore_n (pc := 1) (lv' := [(2, .long (1 : Int64)), (0, .int a0), (1, .int a1)]) dX1_power_1 rfl (Nat.le_of_ble_eq_true rfl) rfl ?_
  refine e_iconst (pc := 2) (v := (0 : Int32)) dX1_power_2 ic_0 ?_
  refine e_istore (pc := 3) (lv' := [(4, .int (0 : Int32)), (2, .long (1 : Int64)), (0, .int a0), (1, .int a1)]) dX1_power_3 (Nat.le_of_ble_eq_true rfl) rfl ?_
  refine e_lv [2, 3, 1, 0] rfl ?_
  exact cb_X1_power_b5 X w fu a0 a1 (1 : Int64) (0 : Int32)
theorem cf_X1_power (X : Xt) (a0 : Int32) (a1 : Int32) (w : Wd) : CF (gRL w) X m_X1_power 1 [.int a0, .int a1] w (f_X1_power a0 a1) := CF_of (by decide) (Nat.le_of_ble_eq_true rfl) (ce_X1_power X a0 a1 w)
set_option maxRecDepth 100000 in
set_option maxHeartbeats 4000000 in
theorem cb_X1_step_b55_y (X : Xt) (k55 : Nat → Int32 → Int32 → Int32 → Int32 → Int32 → Wd → Option Wd) (hk55 : ∀ (c0 : Nat) (x2 : Int32) (x3 : Int32) (x4 : Int32) (x5 : Int32) (x6 : Int32) (hc0 : isCh c0) (w : Wd), E gWV X m_X1_step 2 55 [(0, .ref (xa X c0)), (2, .int x2), (3, .int x3), (4, .int x4), (5, .int x5), (6, .int x6)] [] w (k55 c0 x2 x3 x4 x5 x6 w)) (c0 : Nat) (x2 : Int32) (x3 : Int32) (x4 : Int32) (x5 : Int32) (x6 : Int32) (hc0 : isCh c0) (w : Wd) : E gWV X m_X1_step 2 55 [(0, .ref (xa X c0)), (2, .int x2), (3, .int x3), (4, .int x4), (5, .int x5), (6, .int x6)] [] w (f_X1_step_b55_y k55 c0 x2 x3 x4 x5 x6 w) := by
  unfold f_X1_step_b55_y
  refine e_iload (pc := 55) dX1_step_55 5 rfl ?_
  refine e_iload_n (pc := 57) dX1_step_57 2 rfl rfl ?_
  refine e_iadd (pc := 58) dX1_step_58 ?_
  refine e_iconst (pc := 59) (v := (4 : Int32)) dX1_step_59 ic_4 ?_
  refine e_icmp_ge (pc := 60) (tgt := 137) dX1_step_60 (by decide) (fun _ => ?_) (fun _ => ?_)
  · exact e_vret rfl dX1_step_137
  · refine e_iload (pc := 63) dX1_step_63 5 rfl ?_
    refine e_iload_n (pc := 65) dX1_step_65 2 rfl rfl ?_
    refine e_iadd (pc := 66) dX1_step_66 ?_
    refine e_nameI (fun y3 => ?_)
    refine e_istore (pc := 67) (lv' := [(7, .int y3), (0, .ref (xa X c0)), (2, .int x2), (3, .int x3), (4, .int x4), (5, .int x5), (6, .int x6)]) dX1_step_67 (Nat.le_of_ble_eq_true rfl) rfl ?_
    refine e_gets (pc := 69) (q := 102) (fun U h => sZ2 U h) fl_X1_25 dX1_step_69 ?_
    refine e_iload (pc := 72) dX1_step_72 0 rfl ?_
    refine e_iconst (pc := 74) (v := (4 : Int32)) dX1_step_74 ic_4 ?_
    refine e_imul (pc := 75) dX1_step_75 ?_
    refine e_iload_n (pc := 76) dX1_step_76 3 rfl rfl ?_
    refine e_iadd (pc := 77) dX1_step_77 ?_
    refine e_tI (pc := 78) (q := 102) (fun U h => sT2 U h) dX1_step_78 (fun v4 => ?_)
    refine e_i2l (pc := 79) dX1_step_79 ?_
    refine e_iload_n (pc := 80) dX1_step_80 2 rfl rfl ?_
    refine e_iload_n (pc := 81) dX1_step_81 3 rfl rfl ?_
    refine e_callSRL (pc := 82) (As := [.int x2, .int x3]) (rest := [.long (Int32.toInt64 v4)]) (cf_X1_power X x2 x3 w) lk_X1_29 (Nat.le_of_ble_eq_true rfl) (Nat.le_of_ble_eq_true rfl) rfl rfl (Nat.le_of_ble_eq_true rfl) dX1_step_82 (fun r5 => ?_)
    refine e_lmul (pc := 85) dX1_step_85 ?_
    refine e_bipush (pc := 86) (v := (12 : Int32)) dX1_step_86 bp_12 ?_
    refine e_iload_n (pc := 88) dX1_step_88 2 rfl rfl ?_
    refine e_isub (pc := 89) dX1_step_89 ?_
    refine e_iload (pc := 90) dX1_step_90 6 rfl ?_
    refine e_callSRL (pc := 92) (As := [.int ((12 : Int32) - x2), .int x6]) (rest := [.long ((Int32.toInt64 v4) * r5)]) (cf_X1_power X ((12 : Int32) - x2) x6 w) lk_X1_29 (Nat.le_of_ble_eq_true rfl) (Nat.le_of_ble_eq_true rfl) rfl rfl (Nat.le_of_ble_eq_true rfl) dX1_step_92 (fun r6 => ?_)
    refine e_lmul (pc := 95) dX1_step_95 ?_
    refine e_nameL (fun y7 => ?_)
    refine e_lstore (pc := 96) (lv' := [(8, .long y7), (7, .int y3), (0, .ref (xa X c0)), (2, .int x2), (3, .int x3), (4, .int x4), (5, .int x5), (6, .int x6)]) dX1_step_96 (Nat.le_of_ble_eq_true rfl) rfl ?_
    refine e_aload_n (pc := 98) dX1_step_98 2 rfl rfl ?_
    refine g_R (pc := 99) (cl' := (c0 + 1)) hc0.1 fl_X1_11 rfl dX1_step_99 ?_
    refine e_iload (pc := 102) dX1_step_102 6 rfl ?_
    refine e_iload (pc := 104) dX1_step_104 7 rfl ?_
    refine e_iadd (pc := 106) dX1_step_106 ?_
    refine e_aload_n (pc := 107) dX1_step_107 2 rfl rfl ?_
    refine g_R (pc := 108) (cl' := (c0 + 1)) hc0.1 fl_X1_11 rfl dX1_step_108 ?_
    refine e_iload (pc := 111) dX1_step_111 5 rfl ?_
    refine e_iload (pc := 113) dX1_step_113 1 rfl ?_
    refine e_iadd (pc := 115) dX1_step_115 ?_
    refine e_lald (pc := 116) hc0.2 dX1_step_116 (fun v8 => ?_)
    refine e_lload (pc := 117) dX1_step_117 0 rfl ?_
    refine e_lmul (pc := 119) dX1_step_119 ?_
    refine e_bipush (pc := 120) (v := (12 : Int32)) dX1_step_120 bp_12 ?_
    refine e_iconst (pc := 122) (v := (3 : Int32)) dX1_step_122 ic_3 ?_
    refine e_iload (pc := 123) dX1_step_123 1 rfl ?_
    refine e_isub (pc := 125) dX1_step_125 ?_
    refine e_callSRL (pc := 126) (As := [.int (12 : Int32), .int ((3 : Int32) - y3)]) (rest := [.long (v8 * y7), .int (x5 + x6), .ref (xa X (c0 + 1))]) (cf_X1_power X (12 : Int32) ((3 : Int32) - y3) w) lk_X1_29 (Nat.le_of_ble_eq_true rfl) (Nat.le_of_ble_eq_true rfl) rfl rfl (Nat.le_of_ble_eq_true rfl) dX1_step_126 (fun r9 => ?_)
    refine e_lmul (pc := 129) dX1_step_129 ?_
    refine e_last (pc := 130) hc0.2 dX1_step_130 (fun w10 => ?_)
    refine e_iinc (pc := 131) (lv' := [(6, .int (x6 + (1 : Int32))), (8, .long y7), (7, .int y3), (0, .ref (xa X c0)), (2, .int x2), (3, .int x3), (4, .int x4), (5, .int x5)]) dX1_step_131 7 rfl (ii_1 _) (Nat.le_of_ble_eq_true rfl) rfl ?_
    refine e_goto (pc := 134) (tgt := 55) dX1_step_134 (by decide) ?_
    refine e_lv [3, 4, 5, 6, 7, 0] rfl ?_
    exact hk55 c0 x2 x3 x4 x5 (x6 + (1 : Int32)) hc0 w10
theorem cb_X1_step_b55 (X : Xt) : ∀ (n : Nat) (c0 : Nat) (x2 : Int32) (x3 : Int32) (x4 : Int32) (x5 : Int32) (x6 : Int32) (hc0 : isCh c0) (w : Wd), E gWV X m_X1_step 2 55 [(0, .ref (xa X c0)), (2, .int x2), (3, .int x3), (4, .int x4), (5, .int x5), (6, .int x6)] [] w (f_X1_step_b55 n c0 x2 x3 x4 x5 x6 w) := by
  intro n
  induction n with
  | zero =>
    intro c0 x2 x3 x4 x5 x6 hc0 w
    exact E_none
  | succ n ih =>
    intro c0 x2 x3 x4 x5 x6 hc0 w
    exact cb_X1_step_b55_y X _ ih c0 x2 x3 x4 x5 x6 hc0 w
set_option maxRecDepth 100000 in
set_option maxHeartbeats 4000000 in
theorem cb_X1_step_b24_y (X : Xt) (k24 : Nat → Int32 → Int32 → Int32 → Int32 → Int32 → Wd → Option Wd) (hk24 : ∀ (c0 : Nat) (x2 : Int32) (x3 : Int32) (x4 : Int32) (x5 : Int32) (x6 : Int32) (hc0 : isCh c0) (w : Wd), E gWV X m_X1_step 2 24 [(0, .ref (xa X c0)), (2, .int x2), (3, .int x3), (4, .int x4), (5, .int x5), (6, .int x6)] [] w (k24 c0 x2 x3 x4 x5 x6 w)) (c0 : Nat) (x2 : Int32) (x3 : Int32) (x4 : Int32) (x5 : Int32) (x6 : Int32) (hc0 : isCh c0) (w : Wd) : E gWV X m_X1_step 2 24 [(0, .ref (xa X c0)), (2, .int x2), (3, .int x3), (4, .int x4), (5, .int x5), (6, .int x6)] [] w (f_X1_step_b24_y k24 c0 x2 x3 x4 x5 x6 w) := by
  unfold f_X1_step_b24_y
  refine e_iload (pc := 24) dX1_step_24 5 rfl ?_
  refine e_iconst (pc := 26) (v := (4 : Int32)) dX1_step_26 ic_4 ?_
  refine e_icmp_ge (pc := 27) (tgt := 47) dX1_step_27 (by decide) (fun _ => ?_) (fun _ => ?_)
  · refine e_iload_n (pc := 47) dX1_step_47 2 rfl rfl ?_
    refine e_if_ge (pc := 48) (tgt := 52) dX1_step_48 (by decide) (fun _ => ?_) (fun _ => ?_)
    · refine e_iconst (pc := 52) (v := (0 : Int32)) dX1_step_52 ic_0 ?_
      refine e_istore (pc := 53) (lv' := [(6, .int (0 : Int32)), (0, .ref (xa X c0)), (2, .int x2), (3, .int x3), (4, .int x4), (5, .int x5)]) dX1_step_53 (Nat.le_of_ble_eq_true rfl) rfl ?_
      refine e_lv [1, 2, 3, 4, 5, 0] rfl ?_
      exact cb_X1_step_b55 X fu c0 x2 x3 x4 x5 (0 : Int32) hc0 w
    · exact e_vret rfl dX1_step_51
  · refine e_aload_n (pc := 30) dX1_step_30 0 rfl rfl ?_
    refine g_R (pc := 31) (cl' := (c0 + 1)) hc0.1 fl_X1_11 rfl dX1_step_31 ?_
    refine e_iload (pc := 34) dX1_step_34 4 rfl ?_
    refine e_iload (pc := 36) dX1_step_36 5 rfl ?_
    refine e_iadd (pc := 38) dX1_step_38 ?_
    refine e_lconst (pc := 39) (v := (0 : Int64)) dX1_step_39 lc_0 ?_
    refine e_last (pc := 40) hc0.2 dX1_step_40 (fun w11 => ?_)
    refine e_iinc (pc := 41) (lv' := [(6, .int (x6 + (1 : Int32))), (0, .ref (xa X c0)), (2, .int x2), (3, .int x3), (4, .int x4), (5, .int x5)]) dX1_step_41 5 rfl (ii_1 _) (Nat.le_of_ble_eq_true rfl) rfl ?_
    refine e_goto (pc := 44) (tgt := 24) dX1_step_44 (by decide) ?_
    refine e_lv [1, 2, 3, 4, 5, 0] rfl ?_
    exact hk24 c0 x2 x3 x4 x5 (x6 + (1 : Int32)) hc0 w11
theorem cb_X1_step_b24 (X : Xt) : ∀ (n : Nat) (c0 : Nat) (x2 : Int32) (x3 : Int32) (x4 : Int32) (x5 : Int32) (x6 : Int32) (hc0 : isCh c0) (w : Wd), E gWV X m_X1_step 2 24 [(0, .ref (xa X c0)), (2, .int x2), (3, .int x3), (4, .int x4), (5, .int x5), (6, .int x6)] [] w (f_X1_step_b24 n c0 x2 x3 x4 x5 x6 w) := by
  intro n
  induction n with
  | zero =>
    intro c0 x2 x3 x4 x5 x6 hc0 w
    exact E_none
  | succ n ih =>
    intro c0 x2 x3 x4 x5 x6 hc0 w
    exact cb_X1_step_b24_y X _ ih c0 x2 x3 x4 x5 x6 hc0 w
set_option maxRecDepth 100000 in
set_option maxHeartbeats 4000000 in
theorem ce_X1_step (X : Xt) (c0 : Nat) (a1 : Int32) (a2 : Int32) (a3 : Int32) (hc0 : isCh c0) (w : Wd) : E gWV X m_X1_step 2 0 [(0, .ref (xa X c0)), (1, .int a1), (2, .int a2), (3, .int a3)] [] w (f_X1_step c0 a1 a2 a3 w) := by
  unfold f_X1_step
  refine e_iload_n (pc := 0) dX1_step_0 1 rfl rfl ?_
  refine e_if_lt (pc := 1) (tgt := 9) dX1_step_1 (by decide) (fun _ => ?_) (fun _ => ?_)
  · exact e_vret rfl dX1_step_9
  · refine e_iload_n (pc := 4) dX1_step_4 1 rfl rfl ?_
    refine e_iconst (pc := 5) (v := (4 : Int32)) dX1_step_5 ic_4 ?_
    refine e_icmp_lt (pc := 6) (tgt := 10) dX1_step_6 (by decide) (fun _ => ?_) (fun _ => ?_)
    · refine e_iload_n (pc := 10) dX1_step_10 1 rfl rfl ?_
      refine e_iconst (pc := 11) (v := (4 : Int32)) dX1_step_11 ic_4 ?_
      refine e_imul (pc := 12) dX1_step_12 ?_
      refine e_nameI (fun y1 => ?_)
      refine e_istore (pc := 13) (lv' := [(4, .int y1), (0, .ref (xa X c0)), (1, .int a1), (2, .int a2), (3, .int a3)]) dX1_step_13 (Nat.le_of_ble_eq_true rfl) rfl ?_
      refine e_iload (pc := 15) dX1_step_15 0 rfl ?_
      refine e_iconst (pc := 17) (v := (4 : Int32)) dX1_step_17 ic_4 ?_
      refine e_iadd (pc := 18) dX1_step_18 ?_
      refine e_nameI (fun y2 => ?_)
      refine e_istore (pc := 19) (lv' := [(5, .int y2), (4, .int y1), (0, .ref (xa X c0)), (1, .int a1), (2, .int a2), (3, .int a3)]) dX1_step_19 (Nat.le_of_ble_eq_true rfl) rfl ?_
      refine e_iconst (pc := 21) (v := (0 : Int32)) dX1_step_21 ic_0 ?_
      refine e_istore (pc := 22) (lv' := [(6, .int (0 : Int32)), (5, .int y2), (4, .int y1), (0, .ref (xa X c0)), (1, .int a1), (2, .int a2), (3, .int a3)]) dX1_step_22 (Nat.le_of_ble_eq_true rfl) rfl ?_
      refine e_lv [3, 5, 6, 2, 1, 0] rfl ?_
      exact cb_X1_step_b24 X fu c0 a2 a3 y1 y2 (0 : Int32) hc0 w
    · exact e_vret rfl dX1_step_9
theorem cf_X1_step (X : Xt) (c0 : Nat) (a1 : Int32) (a2 : Int32) (a3 : Int32) (hc0 : isCh c0) (w : Wd) : CF gWV X m_X1_step 2 [.ref (xa X c0), .int a1, .int a2, .int a3] w (f_X1_step c0 a1 a2 a3 w) := CF_of (by decide) (Nat.le_of_ble_eq_true rfl) (ce_X1_step X c0 a1 a2 a3 hc0 w)
set_option maxRecDepth 100000 in
set_option maxHeartbeats 4000000 in
theorem ce_X1_at (X : Xt) (c0 : Nat) (a1 : Int32) (a2 : Int32) (hc0 : isCh c0) (w : Wd) : E (gRL w) X m_X1_at 2 0 [(0, .ref (xa X c0)), (1, .int a1), (2, .int a2)] [] w (f_X1_at c0 a1 a2 w) := by
  unfold f_X1_at
  refine e_iload_n (pc := 0) dX1_at_0 1 rfl rfl ?_
  refine e_callSRI (pc := 1) (As := [.int a1]) (rest := []) (cf_X1_isLevel X a1 w) lk_X1_33 (Nat.le_of_ble_eq_true rfl) (Nat.le_of_ble_eq_true rfl) rfl rfl (Nat.le_of_ble_eq_true rfl) dX1_at_1 (fun r1 => ?_)
  refine e_if_eq (pc := 4) (tgt := 29) dX1_at_4 (by decide) (fun _ => ?_) (fun _ => ?_)
  · refine e_lconst (pc := 29) (v := (0 : Int64)) dX1_at_29 lc_0 ?_
    exact e_lretR rfl dX1_at_30
  · refine e_iload_n (pc := 7) dX1_at_7 2 rfl rfl ?_
    refine e_if_lt (pc := 8) (tgt := 29) dX1_at_8 (by decide) (fun _ => ?_) (fun _ => ?_)
    · refine e_lconst (pc := 29) (v := (0 : Int64)) dX1_at_29 lc_0 ?_
      exact e_lretR rfl dX1_at_30
    · refine e_iload_n (pc := 11) dX1_at_11 2 rfl rfl ?_
      refine e_iconst (pc := 12) (v := (4 : Int32)) dX1_at_12 ic_4 ?_
      refine e_icmp_ge (pc := 13) (tgt := 29) dX1_at_13 (by decide) (fun _ => ?_) (fun _ => ?_)
      · refine e_lconst (pc := 29) (v := (0 : Int64)) dX1_at_29 lc_0 ?_
        exact e_lretR rfl dX1_at_30
      · refine e_aload_n (pc := 16) dX1_at_16 0 rfl rfl ?_
        refine g_R (pc := 17) (cl' := (c0 + 1)) hc0.1 fl_X1_11 rfl dX1_at_17 ?_
        refine e_iload_n (pc := 20) dX1_at_20 1 rfl rfl ?_
        refine e_iconst (pc := 21) (v := (4 : Int32)) dX1_at_21 ic_4 ?_
        refine e_imul (pc := 22) dX1_at_22 ?_
        refine e_iload_n (pc := 23) dX1_at_23 2 rfl rfl ?_
        refine e_iadd (pc := 24) dX1_at_24 ?_
        refine e_lald (pc := 25) hc0.2 dX1_at_25 (fun v2 => ?_)
        refine e_goto (pc := 26) (tgt := 30) dX1_at_26 (by decide) ?_
        exact e_lretR rfl dX1_at_30
theorem cf_X1_at (X : Xt) (c0 : Nat) (a1 : Int32) (a2 : Int32) (hc0 : isCh c0) (w : Wd) : CF (gRL w) X m_X1_at 2 [.ref (xa X c0), .int a1, .int a2] w (f_X1_at c0 a1 a2 w) := CF_of (by decide) (Nat.le_of_ble_eq_true rfl) (ce_X1_at X c0 a1 a2 hc0 w)
set_option maxRecDepth 100000 in
set_option maxHeartbeats 4000000 in
theorem cb_X1_allAhead_b9_y (X : Xt) (w : Wd) (k9 : Int32 → Int64 → Int32 → Option Int64) (hk9 : ∀ (x1 : Int32) (x2 : Int64) (x4 : Int32), E (gRL w) X m_X1_allAhead 3 9 [(1, .int x1), (2, .long x2), (4, .int x4)] [] w (k9 x1 x2 x4)) (x1 : Int32) (x2 : Int64) (x4 : Int32) : E (gRL w) X m_X1_allAhead 3 9 [(1, .int x1), (2, .long x2), (4, .int x4)] [] w (f_X1_allAhead_b9_y w k9 x1 x2 x4) := by
  unfold f_X1_allAhead_b9_y
  refine e_iload (pc := 9) dX1_allAhead_9 2 rfl ?_
  refine e_iload_n (pc := 11) dX1_allAhead_11 0 rfl rfl ?_
  refine e_icmp_ge (pc := 12) (tgt := 27) dX1_allAhead_12 (by decide) (fun _ => ?_) (fun _ => ?_)
  · refine e_lload_n (pc := 27) dX1_allAhead_27 1 rfl rfl ?_
    exact e_lretR rfl dX1_allAhead_28
  · refine e_lload_n (pc := 15) dX1_allAhead_15 1 rfl rfl ?_
    refine e_ldc2 (pc := 16) (v := (1728 : Int64)) dX1_allAhead_16 cl_X1_37 ?_
    refine e_lmul (pc := 19) dX1_allAhead_19 ?_
    refine e_nameL (fun y2 => ?_)
    refine e_lstore_n (pc := 20) (lv' := [(2, .long y2), (1, .int x1), (4, .int x4)]) dX1_allAhead_20 rfl (Nat.le_of_ble_eq_true rfl) rfl ?_
    refine e_iinc (pc := 21) (lv' := [(4, .int (x4 + (1 : Int32))), (2, .long y2), (1, .int x1)]) dX1_allAhead_21 2 rfl (ii_1 _) (Nat.le_of_ble_eq_true rfl) rfl ?_
    refine e_goto (pc := 24) (tgt := 9) dX1_allAhead_24 (by decide) ?_
    refine e_lv [2, 1, 0] rfl ?_
    exact hk9 x1 y2 (x4 + (1 : Int32))
theorem cb_X1_allAhead_b9 (X : Xt) (w : Wd) : ∀ (n : Nat) (x1 : Int32) (x2 : Int64) (x4 : Int32), E (gRL w) X m_X1_allAhead 3 9 [(1, .int x1), (2, .long x2), (4, .int x4)] [] w (f_X1_allAhead_b9 w n x1 x2 x4) := by
  intro n
  induction n with
  | zero =>
    intro x1 x2 x4
    exact E_none
  | succ n ih =>
    intro x1 x2 x4
    exact cb_X1_allAhead_b9_y X w _ ih x1 x2 x4
set_option maxRecDepth 100000 in
set_option maxHeartbeats 4000000 in
theorem ce_X1_allAhead (X : Xt) (c0 : Nat) (a1 : Int32) (hc0 : isCh c0) (w : Wd) : E (gRL w) X m_X1_allAhead 3 0 [(0, .ref (xa X c0)), (1, .int a1)] [] w (f_X1_allAhead c0 a1 w) := by
  unfold f_X1_allAhead
  refine e_aload_n (pc := 0) dX1_allAhead_0 0 rfl rfl ?_
  refine e_iconst (pc := 1) (v := (0 : Int32)) dX1_allAhead_1 ic_0 ?_
  refine e_callVRL (pc := 2) (As := [.int (0 : Int32)]) (rest := []) hc0.1 Kc1 (cf_X1_all X c0 (0 : Int32) hc0 w) lk_X1_21 (Nat.le_of_ble_eq_true rfl) (Nat.le_of_ble_eq_true rfl) rfl rfl (Nat.le_of_ble_eq_true rfl) dX1_allAhead_2 (fun r1 => ?_)
  refine e_lstore_n (pc := 5) (lv' := [(2, .long r1), (0, .ref (xa X c0)), (1, .int a1)]) dX1_allAhead_5 rfl (Nat.le_of_ble_eq_true rfl) rfl ?_
  refine e_iconst (pc := 6) (v := (0 : Int32)) dX1_allAhead_6 ic_0 ?_
  refine e_istore (pc := 7) (lv' := [(4, .int (0 : Int32)), (2, .long r1), (0, .ref (xa X c0)), (1, .int a1)]) dX1_allAhead_7 (Nat.le_of_ble_eq_true rfl) rfl ?_
  refine e_lv [3, 1, 0] rfl ?_
  exact cb_X1_allAhead_b9 X w fu a1 r1 (0 : Int32)
theorem cf_X1_allAhead (X : Xt) (c0 : Nat) (a1 : Int32) (hc0 : isCh c0) (w : Wd) : CF (gRL w) X m_X1_allAhead 3 [.ref (xa X c0), .int a1] w (f_X1_allAhead c0 a1 w) := CF_of (by decide) (Nat.le_of_ble_eq_true rfl) (ce_X1_allAhead X c0 a1 hc0 w)
set_option maxRecDepth 100000 in
set_option maxHeartbeats 4000000 in
theorem ce_X1_stones (X : Xt) (c0 : Nat) (a1 : Int32) (hc0 : isCh c0) (w : Wd) : E (gRL w) X m_X1_stones 2 0 [(0, .ref (xa X c0)), (1, .int a1)] [] w (f_X1_stones c0 a1 w) := by
  unfold f_X1_stones
  refine e_iload_n (pc := 0) dX1_stones_0 1 rfl rfl ?_
  refine e_callSRI (pc := 1) (As := [.int a1]) (rest := []) (cf_X1_isLevel X a1 w) lk_X1_33 (Nat.le_of_ble_eq_true rfl) (Nat.le_of_ble_eq_true rfl) rfl rfl (Nat.le_of_ble_eq_true rfl) dX1_stones_1 (fun r1 => ?_)
  refine e_if_ne (pc := 4) (tgt := 9) dX1_stones_4 (by decide) (fun _ => ?_) (fun _ => ?_)
  · refine e_lconst (pc := 7) (v := (0 : Int64)) dX1_stones_7 lc_0 ?_
    exact e_lretR rfl dX1_stones_8
  · refine e_iload_n (pc := 9) dX1_stones_9 1 rfl rfl ?_
    refine e_iconst (pc := 10) (v := (4 : Int32)) dX1_stones_10 ic_4 ?_
    refine e_imul (pc := 11) dX1_stones_11 ?_
    refine e_nameI (fun y2 => ?_)
    refine e_istore_n (pc := 12) (lv' := [(2, .int y2), (0, .ref (xa X c0)), (1, .int a1)]) dX1_stones_12 rfl (Nat.le_of_ble_eq_true rfl) rfl ?_
    refine e_aload_n (pc := 13) dX1_stones_13 1 rfl rfl ?_
    refine g_R (pc := 14) (cl' := (c0 + 1)) hc0.1 fl_X1_11 rfl dX1_stones_14 ?_
    refine e_iload_n (pc := 17) dX1_stones_17 0 rfl rfl ?_
    refine e_iconst (pc := 18) (v := (1 : Int32)) dX1_stones_18 ic_1 ?_
    refine e_iadd (pc := 19) dX1_stones_19 ?_
    refine e_lald (pc := 20) hc0.2 dX1_stones_20 (fun v3 => ?_)
    refine e_ldc2 (pc := 21) (v := (2 : Int64)) dX1_stones_21 cl_X1_39 ?_
    refine e_aload_n (pc := 24) dX1_stones_24 1 rfl rfl ?_
    refine g_R (pc := 25) (cl' := (c0 + 1)) hc0.1 fl_X1_11 rfl dX1_stones_25 ?_
    refine e_iload_n (pc := 28) dX1_stones_28 0 rfl rfl ?_
    refine e_iconst (pc := 29) (v := (2 : Int32)) dX1_stones_29 ic_2 ?_
    refine e_iadd (pc := 30) dX1_stones_30 ?_
    refine e_lald (pc := 31) hc0.2 dX1_stones_31 (fun v4 => ?_)
    refine e_lmul (pc := 32) dX1_stones_32 ?_
    refine e_ladd (pc := 33) dX1_stones_33 ?_
    refine e_ldc2 (pc := 34) (v := (3 : Int64)) dX1_stones_34 cl_X1_41 ?_
    refine e_aload_n (pc := 37) dX1_stones_37 1 rfl rfl ?_
    refine g_R (pc := 38) (cl' := (c0 + 1)) hc0.1 fl_X1_11 rfl dX1_stones_38 ?_
    refine e_iload_n (pc := 41) dX1_stones_41 0 rfl rfl ?_
    refine e_iconst (pc := 42) (v := (3 : Int32)) dX1_stones_42 ic_3 ?_
    refine e_iadd (pc := 43) dX1_stones_43 ?_
    refine e_lald (pc := 44) hc0.2 dX1_stones_44 (fun v5 => ?_)
    refine e_lmul (pc := 45) dX1_stones_45 ?_
    refine e_ladd (pc := 46) dX1_stones_46 ?_
    exact e_lretR rfl dX1_stones_47
theorem cf_X1_stones (X : Xt) (c0 : Nat) (a1 : Int32) (hc0 : isCh c0) (w : Wd) : CF (gRL w) X m_X1_stones 2 [.ref (xa X c0), .int a1] w (f_X1_stones c0 a1 w) := CF_of (by decide) (Nat.le_of_ble_eq_true rfl) (ce_X1_stones X c0 a1 hc0 w)
set_option maxRecDepth 100000 in
set_option maxHeartbeats 4000000 in
theorem ce_X2_become (X : Xt) (c0 : Nat) (c1 : Nat) (hc0 : isDe c0) (hc1 : isDe c1) (w : Wd) : E gWV X m_X2_become 1 0 [(0, .ref (xa X c0)), (1, .ref (xa X c1))] [] w (f_X2_become c0 c1 w) := by
  unfold f_X2_become
  refine e_aload_n (pc := 0) dX2_become_0 0 rfl rfl ?_
  refine e_aload_n (pc := 1) dX2_become_1 1 rfl rfl ?_
  refine g_I (pc := 2) hc1 fl_X2_7 dX2_become_2 ?_
  refine p_Z (pc := 5) hc0 fp_X2_7 dX2_become_5 (fun w1 => ?_)
  refine e_aload_n (pc := 8) dX2_become_8 0 rfl rfl ?_
  refine e_aload_n (pc := 9) dX2_become_9 1 rfl rfl ?_
  refine g_I (pc := 10) hc1 fl_X2_13 dX2_become_10 ?_
  refine p_I (pc := 13) hc0 fp_X2_13 dX2_become_13 (fun w2 => ?_)
  refine e_aload_n (pc := 16) dX2_become_16 0 rfl rfl ?_
  refine e_aload_n (pc := 17) dX2_become_17 1 rfl rfl ?_
  refine g_I (pc := 18) hc1 fl_X2_17 dX2_become_18 ?_
  refine p_I (pc := 21) hc0 fp_X2_17 dX2_become_21 (fun w3 => ?_)
  refine e_aload_n (pc := 24) dX2_become_24 0 rfl rfl ?_
  refine e_aload_n (pc := 25) dX2_become_25 1 rfl rfl ?_
  refine g_I (pc := 26) hc1 fl_X2_20 dX2_become_26 ?_
  refine p_I (pc := 29) hc0 fp_X2_20 dX2_become_29 (fun w4 => ?_)
  refine e_aload_n (pc := 32) dX2_become_32 0 rfl rfl ?_
  refine e_aload_n (pc := 33) dX2_become_33 1 rfl rfl ?_
  refine g_I (pc := 34) hc1 fl_X2_23 dX2_become_34 ?_
  refine p_I (pc := 37) hc0 fp_X2_23 dX2_become_37 (fun w5 => ?_)
  refine e_aload_n (pc := 40) dX2_become_40 0 rfl rfl ?_
  refine e_aload_n (pc := 41) dX2_become_41 1 rfl rfl ?_
  refine g_I (pc := 42) hc1 fl_X2_26 dX2_become_42 ?_
  refine p_I (pc := 45) hc0 fp_X2_26 dX2_become_45 (fun w6 => ?_)
  refine e_aload_n (pc := 48) dX2_become_48 0 rfl rfl ?_
  refine e_aload_n (pc := 49) dX2_become_49 1 rfl rfl ?_
  refine g_I (pc := 50) hc1 fl_X2_29 dX2_become_50 ?_
  refine p_I (pc := 53) hc0 fp_X2_29 dX2_become_53 (fun w7 => ?_)
  refine e_aload_n (pc := 56) dX2_become_56 0 rfl rfl ?_
  refine e_aload_n (pc := 57) dX2_become_57 1 rfl rfl ?_
  refine g_I (pc := 58) hc1 fl_X2_32 dX2_become_58 ?_
  refine p_I (pc := 61) hc0 fp_X2_32 dX2_become_61 (fun w8 => ?_)
  refine e_aload_n (pc := 64) dX2_become_64 0 rfl rfl ?_
  refine e_aload_n (pc := 65) dX2_become_65 1 rfl rfl ?_
  refine g_I (pc := 66) hc1 fl_X2_35 dX2_become_66 ?_
  refine p_I (pc := 69) hc0 fp_X2_35 dX2_become_69 (fun w9 => ?_)
  exact e_vret rfl dX2_become_72
theorem cf_X2_become (X : Xt) (c0 : Nat) (c1 : Nat) (hc0 : isDe c0) (hc1 : isDe c1) (w : Wd) : CF gWV X m_X2_become 1 [.ref (xa X c0), .ref (xa X c1)] w (f_X2_become c0 c1 w) := CF_of (by decide) (Nat.le_of_ble_eq_true rfl) (ce_X2_become X c0 c1 hc0 hc1 w)
set_option maxRecDepth 100000 in
set_option maxHeartbeats 4000000 in
theorem ce_X2_begin (X : Xt) (c0 : Nat) (a1 : Int32) (a2 : Int32) (hc0 : isDe c0) (w : Wd) : E gWV X m_X2_begin 1 0 [(0, .ref (xa X c0)), (1, .int a1), (2, .int a2)] [] w (f_X2_begin c0 a1 a2 w) := by
  unfold f_X2_begin
  refine e_aload_n (pc := 0) dX2_begin_0 0 rfl rfl ?_
  refine e_iconst (pc := 1) (v := (1 : Int32)) dX2_begin_1 ic_1 ?_
  refine p_Z (pc := 2) hc0 fp_X2_7 dX2_begin_2 (fun w1 => ?_)
  refine e_aload_n (pc := 5) dX2_begin_5 0 rfl rfl ?_
  refine e_iload_n (pc := 6) dX2_begin_6 1 rfl rfl ?_
  refine p_I (pc := 7) hc0 fp_X2_13 dX2_begin_7 (fun w2 => ?_)
  refine e_aload_n (pc := 10) dX2_begin_10 0 rfl rfl ?_
  refine e_iload_n (pc := 11) dX2_begin_11 2 rfl rfl ?_
  refine p_I (pc := 12) hc0 fp_X2_17 dX2_begin_12 (fun w3 => ?_)
  refine e_aload_n (pc := 15) dX2_begin_15 0 rfl rfl ?_
  refine e_iconst (pc := 16) (v := (0 : Int32)) dX2_begin_16 ic_0 ?_
  refine p_I (pc := 17) hc0 fp_X2_20 dX2_begin_17 (fun w4 => ?_)
  exact e_vret rfl dX2_begin_20
theorem cf_X2_begin (X : Xt) (c0 : Nat) (a1 : Int32) (a2 : Int32) (hc0 : isDe c0) (w : Wd) : CF gWV X m_X2_begin 1 [.ref (xa X c0), .int a1, .int a2] w (f_X2_begin c0 a1 a2 w) := CF_of (by decide) (Nat.le_of_ble_eq_true rfl) (ce_X2_begin X c0 a1 a2 hc0 w)
set_option maxRecDepth 100000 in
set_option maxHeartbeats 4000000 in
theorem ce_X2_addLook (X : Xt) (c0 : Nat) (a1 : Int32) (a2 : Int32) (a3 : Int32) (hc0 : isDe c0) (w : Wd) : E gWV X m_X2_addLook 1 0 [(0, .ref (xa X c0)), (1, .int a1), (2, .int a2), (3, .int a3)] [] w (f_X2_addLook c0 a1 a2 a3 w) := by
  unfold f_X2_addLook
  refine e_aload_n (pc := 0) dX2_addLook_0 0 rfl rfl ?_
  refine e_dup (pc := 1) dX2_addLook_1 rfl ?_
  refine g_I (pc := 2) hc0 fl_X2_13 dX2_addLook_2 ?_
  refine e_iload_n (pc := 5) dX2_addLook_5 1 rfl rfl ?_
  refine e_isub (pc := 6) dX2_addLook_6 ?_
  refine p_I (pc := 7) hc0 fp_X2_13 dX2_addLook_7 (fun w1 => ?_)
  refine e_aload_n (pc := 10) dX2_addLook_10 0 rfl rfl ?_
  refine e_iload_n (pc := 11) dX2_addLook_11 3 rfl rfl ?_
  refine p_I (pc := 12) hc0 fp_X2_17 dX2_addLook_12 (fun w2 => ?_)
  refine e_aload_n (pc := 15) dX2_addLook_15 0 rfl rfl ?_
  refine e_dup (pc := 16) dX2_addLook_16 rfl ?_
  refine g_I (pc := 17) hc0 fl_X2_20 dX2_addLook_17 ?_
  refine e_iconst (pc := 20) (v := (1 : Int32)) dX2_addLook_20 ic_1 ?_
  refine e_iadd (pc := 21) dX2_addLook_21 ?_
  refine p_I (pc := 22) hc0 fp_X2_20 dX2_addLook_22 (fun w3 => ?_)
  refine e_aload_n (pc := 25) dX2_addLook_25 0 rfl rfl ?_
  refine e_dup (pc := 26) dX2_addLook_26 rfl ?_
  refine g_I (pc := 27) hc0 fl_X2_26 dX2_addLook_27 ?_
  refine e_iconst (pc := 30) (v := (1 : Int32)) dX2_addLook_30 ic_1 ?_
  refine e_iadd (pc := 31) dX2_addLook_31 ?_
  refine p_I (pc := 32) hc0 fp_X2_26 dX2_addLook_32 (fun w4 => ?_)
  refine e_aload_n (pc := 35) dX2_addLook_35 0 rfl rfl ?_
  refine e_dup (pc := 36) dX2_addLook_36 rfl ?_
  refine g_I (pc := 37) hc0 fl_X2_29 dX2_addLook_37 ?_
  refine e_iload_n (pc := 40) dX2_addLook_40 1 rfl rfl ?_
  refine e_iadd (pc := 41) dX2_addLook_41 ?_
  refine p_I (pc := 42) hc0 fp_X2_29 dX2_addLook_42 (fun w5 => ?_)
  refine e_aload_n (pc := 45) dX2_addLook_45 0 rfl rfl ?_
  refine e_dup (pc := 46) dX2_addLook_46 rfl ?_
  refine g_I (pc := 47) hc0 fl_X2_35 dX2_addLook_47 ?_
  refine e_iload_n (pc := 50) dX2_addLook_50 2 rfl rfl ?_
  refine e_iadd (pc := 51) dX2_addLook_51 ?_
  refine p_I (pc := 52) hc0 fp_X2_35 dX2_addLook_52 (fun w6 => ?_)
  exact e_vret rfl dX2_addLook_55
theorem cf_X2_addLook (X : Xt) (c0 : Nat) (a1 : Int32) (a2 : Int32) (a3 : Int32) (hc0 : isDe c0) (w : Wd) : CF gWV X m_X2_addLook 1 [.ref (xa X c0), .int a1, .int a2, .int a3] w (f_X2_addLook c0 a1 a2 a3 w) := CF_of (by decide) (Nat.le_of_ble_eq_true rfl) (ce_X2_addLook X c0 a1 a2 a3 hc0 w)
set_option maxRecDepth 100000 in
set_option maxHeartbeats 4000000 in
theorem ce_X2_end (X : Xt) (c0 : Nat) (a1 : Int32) (hc0 : isDe c0) (w : Wd) : E gWI X m_X2_end 1 0 [(0, .ref (xa X c0)), (1, .int a1)] [] w (f_X2_end c0 a1 w) := by
  unfold f_X2_end
  refine e_aload_n (pc := 0) dX2_end_0 0 rfl rfl ?_
  refine e_iconst (pc := 1) (v := (0 : Int32)) dX2_end_1 ic_0 ?_
  refine p_Z (pc := 2) hc0 fp_X2_7 dX2_end_2 (fun w1 => ?_)
  refine e_aload_n (pc := 5) dX2_end_5 0 rfl rfl ?_
  refine e_dup (pc := 6) dX2_end_6 rfl ?_
  refine g_I (pc := 7) hc0 fl_X2_23 dX2_end_7 ?_
  refine e_iconst (pc := 10) (v := (1 : Int32)) dX2_end_10 ic_1 ?_
  refine e_iadd (pc := 11) dX2_end_11 ?_
  refine p_I (pc := 12) hc0 fp_X2_23 dX2_end_12 (fun w2 => ?_)
  refine e_aload_n (pc := 15) dX2_end_15 0 rfl rfl ?_
  refine e_dup (pc := 16) dX2_end_16 rfl ?_
  refine g_I (pc := 17) hc0 fl_X2_32 dX2_end_17 ?_
  refine e_aload_n (pc := 20) dX2_end_20 0 rfl rfl ?_
  refine g_I (pc := 21) hc0 fl_X2_13 dX2_end_21 ?_
  refine e_iadd (pc := 24) dX2_end_24 ?_
  refine p_I (pc := 25) hc0 fp_X2_32 dX2_end_25 (fun w3 => ?_)
  refine e_aload_n (pc := 28) dX2_end_28 0 rfl rfl ?_
  refine e_dup (pc := 29) dX2_end_29 rfl ?_
  refine g_I (pc := 30) hc0 fl_X2_35 dX2_end_30 ?_
  refine e_iload_n (pc := 33) dX2_end_33 1 rfl rfl ?_
  refine e_aload_n (pc := 34) dX2_end_34 0 rfl rfl ?_
  refine g_I (pc := 35) hc0 fl_X2_13 dX2_end_35 ?_
  refine e_imul (pc := 38) dX2_end_38 ?_
  refine e_iadd (pc := 39) dX2_end_39 ?_
  refine p_I (pc := 40) hc0 fp_X2_35 dX2_end_40 (fun w4 => ?_)
  refine e_aload_n (pc := 43) dX2_end_43 0 rfl rfl ?_
  refine g_I (pc := 44) hc0 fl_X2_13 dX2_end_44 ?_
  exact e_iretW rfl dX2_end_47
theorem cf_X2_end (X : Xt) (c0 : Nat) (a1 : Int32) (hc0 : isDe c0) (w : Wd) : CF gWI X m_X2_end 1 [.ref (xa X c0), .int a1] w (f_X2_end c0 a1 w) := CF_of (by decide) (Nat.le_of_ble_eq_true rfl) (ce_X2_end X c0 a1 hc0 w)
set_option maxRecDepth 100000 in
set_option maxHeartbeats 4000000 in
theorem ce_X3_draw (X : Xt) (a1 : Int32) (w : Wd) : E gWI X m_X3_draw 1 0 [(0, .ref (xa X 36)), (1, .int a1)] [] w (f_X3_draw a1 w) := by
  unfold f_X3_draw
  refine e_aload_n (pc := 0) dX3_draw_0 0 rfl rfl ?_
  refine e_aload_n (pc := 1) dX3_draw_1 0 rfl rfl ?_
  refine g_I (pc := 2) kk36 fl_X3_9 dX3_draw_2 ?_
  refine e_ldc (pc := 5) (v := (1103515245 : Int32)) dX3_draw_5 co_X3_15 ?_
  refine e_imul (pc := 7) dX3_draw_7 ?_
  refine e_sipush (pc := 8) (v := (12345 : Int32)) dX3_draw_8 sp_12345 ?_
  refine e_iadd (pc := 11) dX3_draw_11 ?_
  refine p_I (pc := 12) kk36 fp_X3_9 dX3_draw_12 (fun w1 => ?_)
  refine e_iload_n (pc := 15) dX3_draw_15 1 rfl rfl ?_
  refine e_if_gt (pc := 16) (tgt := 23) dX3_draw_16 (by decide) (fun _ => ?_) (fun _ => ?_)
  · refine e_aload_n (pc := 23) dX3_draw_23 0 rfl rfl ?_
    refine g_I (pc := 24) kk36 fl_X3_9 dX3_draw_24 ?_
    refine e_bipush (pc := 27) (v := (8 : Int32)) dX3_draw_27 bp_8 ?_
    refine e_iushr (pc := 29) dX3_draw_29 ?_
    refine e_iload_n (pc := 30) dX3_draw_30 1 rfl rfl ?_
    refine e_iremG (pc := 31) dX3_draw_31 (fun v2 => ?_)
    exact e_iretW rfl dX3_draw_32
  · refine e_iconst (pc := 19) (v := (0 : Int32)) dX3_draw_19 ic_0 ?_
    refine e_goto (pc := 20) (tgt := 32) dX3_draw_20 (by decide) ?_
    exact e_iretW rfl dX3_draw_32
theorem cf_X3_draw (X : Xt) (a1 : Int32) (w : Wd) : CF gWI X m_X3_draw 1 [.ref (xa X 36), .int a1] w (f_X3_draw a1 w) := CF_of (by decide) (Nat.le_of_ble_eq_true rfl) (ce_X3_draw X a1 w)
set_option maxRecDepth 100000 in
set_option maxHeartbeats 4000000 in
theorem cb_X3_stones_b43_y (X : Xt) (k43 : Int32 → Int32 → Int32 → Wd → Option (Int32 × Wd)) (hk43 : ∀ (x2 : Int32) (x4 : Int32) (x5 : Int32)  (w : Wd), E gWI X m_X3_stones 4 43 [(1, .ref (xa X 1)), (2, .int x2), (4, .int x4), (5, .int x5)] [] w (k43 x2 x4 x5 w)) (x2 : Int32) (x4 : Int32) (x5 : Int32) (w : Wd) : E gWI X m_X3_stones 4 43 [(1, .ref (xa X 1)), (2, .int x2), (4, .int x4), (5, .int x5)] [] w (f_X3_stones_b43_y k43 x2 x4 x5 w) := by
  unfold f_X3_stones_b43_y
  refine e_iload (pc := 43) dX3_stones_43 3 rfl ?_
  refine e_iconst (pc := 45) (v := (3 : Int32)) dX3_stones_45 ic_3 ?_
  refine e_icmp_ge (pc := 46) (tgt := 75) dX3_stones_46 (by decide) (fun _ => ?_) (fun _ => ?_)
  · refine e_iconst (pc := 75) (v := (3 : Int32)) dX3_stones_75 ic_3 ?_
    exact e_iretW rfl dX3_stones_76
  · refine e_iload (pc := 49) dX3_stones_49 2 rfl ?_
    refine e_aload_n (pc := 51) dX3_stones_51 0 rfl rfl ?_
    refine e_iload_n (pc := 52) dX3_stones_52 1 rfl rfl ?_
    refine e_iload (pc := 53) dX3_stones_53 3 rfl ?_
    refine e_callVRI (pc := 55) (As := [.int x2, .int x5]) (rest := [.int x4]) kk1 Kc6 (cf_X6_get X x2 x5 w) lk_X3_16 (Nat.le_of_ble_eq_true rfl) (Nat.le_of_ble_eq_true rfl) rfl rfl (Nat.le_of_ble_eq_true rfl) dX3_stones_55 (fun r3 => ?_)
    refine e_isub (pc := 58) dX3_stones_58 ?_
    refine e_nameI (fun y4 => ?_)
    refine e_istore (pc := 59) (lv' := [(4, .int y4), (1, .ref (xa X 1)), (2, .int x2), (5, .int x5)]) dX3_stones_59 (Nat.le_of_ble_eq_true rfl) rfl ?_
    refine e_iload (pc := 61) dX3_stones_61 0 rfl ?_
    refine e_if_ge (pc := 63) (tgt := 69) dX3_stones_63 (by decide) (fun _ => ?_) (fun _ => ?_)
    · refine e_iinc (pc := 69) (lv' := [(5, .int (x5 + (1 : Int32))), (4, .int y4), (1, .ref (xa X 1)), (2, .int x2)]) dX3_stones_69 3 rfl (ii_1 _) (Nat.le_of_ble_eq_true rfl) rfl ?_
      refine e_goto (pc := 72) (tgt := 43) dX3_stones_72 (by decide) ?_
      refine e_lv [2, 3, 1, 0] rfl ?_
      exact hk43 x2 y4 (x5 + (1 : Int32)) w
    · refine e_iload (pc := 66) dX3_stones_66 3 rfl ?_
      exact e_iretW rfl dX3_stones_68
theorem cb_X3_stones_b43 (X : Xt) : ∀ (n : Nat) (x2 : Int32) (x4 : Int32) (x5 : Int32) (w : Wd), E gWI X m_X3_stones 4 43 [(1, .ref (xa X 1)), (2, .int x2), (4, .int x4), (5, .int x5)] [] w (f_X3_stones_b43 n x2 x4 x5 w) := by
  intro n
  induction n with
  | zero =>
    intro x2 x4 x5 w
    exact E_none
  | succ n ih =>
    intro x2 x4 x5 w
    exact cb_X3_stones_b43_y X _ ih x2 x4 x5 w
set_option maxRecDepth 100000 in
set_option maxHeartbeats 4000000 in
theorem cb_X3_stones_b5_y (X : Xt) (k5 : Int32 → Int32 → Int32 → Wd → Option (Int32 × Wd)) (hk5 : ∀ (x2 : Int32) (x3 : Int32) (x4 : Int32)  (w : Wd), E gWI X m_X3_stones 4 5 [(0, .ref (xa X 36)), (1, .ref (xa X 1)), (2, .int x2), (3, .int x3), (4, .int x4)] [] w (k5 x2 x3 x4 w)) (x2 : Int32) (x3 : Int32) (x4 : Int32) (w : Wd) : E gWI X m_X3_stones 4 5 [(0, .ref (xa X 36)), (1, .ref (xa X 1)), (2, .int x2), (3, .int x3), (4, .int x4)] [] w (f_X3_stones_b5_y k5 x2 x3 x4 w) := by
  unfold f_X3_stones_b5_y
  refine e_iload (pc := 5) dX3_stones_5 4 rfl ?_
  refine e_iconst (pc := 7) (v := (3 : Int32)) dX3_stones_7 ic_3 ?_
  refine e_icmp_gt (pc := 8) (tgt := 27) dX3_stones_8 (by decide) (fun _ => ?_) (fun _ => ?_)
  · refine e_iload_n (pc := 27) dX3_stones_27 3 rfl rfl ?_
    refine e_if_ne (pc := 28) (tgt := 33) dX3_stones_28 (by decide) (fun _ => ?_) (fun _ => ?_)
    · refine e_iconst (pc := 31) (v := (0 : Int32)) dX3_stones_31 ic_0 ?_
      exact e_iretW rfl dX3_stones_32
    · refine e_aload_n (pc := 33) dX3_stones_33 0 rfl rfl ?_
      refine e_iload_n (pc := 34) dX3_stones_34 3 rfl rfl ?_
      refine e_callVWI (pc := 35) (As := [.int x3]) (rest := []) kk36 Kc3 (cf_X3_draw X x3 w) lk_X3_22 (Nat.le_of_ble_eq_true rfl) (Nat.le_of_ble_eq_true rfl) rfl rfl (Nat.le_of_ble_eq_true rfl) dX3_stones_35 (fun r1 w2 => ?_)
      refine e_istore (pc := 38) (lv' := [(4, .int r1), (0, .ref (xa X 36)), (1, .ref (xa X 1)), (2, .int x2), (3, .int x3)]) dX3_stones_38 (Nat.le_of_ble_eq_true rfl) rfl ?_
      refine e_iconst (pc := 40) (v := (0 : Int32)) dX3_stones_40 ic_0 ?_
      refine e_istore (pc := 41) (lv' := [(5, .int (0 : Int32)), (4, .int r1), (0, .ref (xa X 36)), (1, .ref (xa X 1)), (2, .int x2), (3, .int x3)]) dX3_stones_41 (Nat.le_of_ble_eq_true rfl) rfl ?_
      refine e_lv [3, 4, 1, 0] rfl ?_
      exact cb_X3_stones_b43 X fu x2 r1 (0 : Int32) w2
  · refine e_iload_n (pc := 11) dX3_stones_11 3 rfl rfl ?_
    refine e_aload_n (pc := 12) dX3_stones_12 1 rfl rfl ?_
    refine e_iload_n (pc := 13) dX3_stones_13 2 rfl rfl ?_
    refine e_iload (pc := 14) dX3_stones_14 4 rfl ?_
    refine e_callVRI (pc := 16) (As := [.int x2, .int x4]) (rest := [.int x3]) kk1 Kc6 (cf_X6_get X x2 x4 w) lk_X3_16 (Nat.le_of_ble_eq_true rfl) (Nat.le_of_ble_eq_true rfl) rfl rfl (Nat.le_of_ble_eq_true rfl) dX3_stones_16 (fun r5 => ?_)
    refine e_iadd (pc := 19) dX3_stones_19 ?_
    refine e_nameI (fun y6 => ?_)
    refine e_istore_n (pc := 20) (lv' := [(3, .int y6), (0, .ref (xa X 36)), (1, .ref (xa X 1)), (2, .int x2), (4, .int x4)]) dX3_stones_20 rfl (Nat.le_of_ble_eq_true rfl) rfl ?_
    refine e_iinc (pc := 21) (lv' := [(4, .int (x4 + (1 : Int32))), (3, .int y6), (0, .ref (xa X 36)), (1, .ref (xa X 1)), (2, .int x2)]) dX3_stones_21 4 rfl (ii_1 _) (Nat.le_of_ble_eq_true rfl) rfl ?_
    refine e_goto (pc := 24) (tgt := 5) dX3_stones_24 (by decide) ?_
    refine e_lv [2, 3, 4, 1, 0] rfl ?_
    exact hk5 x2 y6 (x4 + (1 : Int32)) w
theorem cb_X3_stones_b5 (X : Xt) : ∀ (n : Nat) (x2 : Int32) (x3 : Int32) (x4 : Int32) (w : Wd), E gWI X m_X3_stones 4 5 [(0, .ref (xa X 36)), (1, .ref (xa X 1)), (2, .int x2), (3, .int x3), (4, .int x4)] [] w (f_X3_stones_b5 n x2 x3 x4 w) := by
  intro n
  induction n with
  | zero =>
    intro x2 x3 x4 w
    exact E_none
  | succ n ih =>
    intro x2 x3 x4 w
    exact cb_X3_stones_b5_y X _ ih x2 x3 x4 w
set_option maxRecDepth 100000 in
set_option maxHeartbeats 4000000 in
theorem ce_X3_stones (X : Xt) (a2 : Int32) (w : Wd) : E gWI X m_X3_stones 4 0 [(0, .ref (xa X 36)), (1, .ref (xa X 1)), (2, .int a2)] [] w (f_X3_stones a2 w) := by
  unfold f_X3_stones
  refine e_iconst (pc := 0) (v := (0 : Int32)) dX3_stones_0 ic_0 ?_
  refine e_istore_n (pc := 1) (lv' := [(3, .int (0 : Int32)), (0, .ref (xa X 36)), (1, .ref (xa X 1)), (2, .int a2)]) dX3_stones_1 rfl (Nat.le_of_ble_eq_true rfl) rfl ?_
  refine e_iconst (pc := 2) (v := (0 : Int32)) dX3_stones_2 ic_0 ?_
  refine e_istore (pc := 3) (lv' := [(4, .int (0 : Int32)), (3, .int (0 : Int32)), (0, .ref (xa X 36)), (1, .ref (xa X 1)), (2, .int a2)]) dX3_stones_3 (Nat.le_of_ble_eq_true rfl) rfl ?_
  refine e_lv [2, 3, 4, 1, 0] rfl ?_
  exact cb_X3_stones_b5 X fu a2 (0 : Int32) (0 : Int32) w
theorem cf_X3_stones (X : Xt) (a2 : Int32) (w : Wd) : CF gWI X m_X3_stones 4 [.ref (xa X 36), .ref (xa X 1), .int a2] w (f_X3_stones a2 w) := CF_of (by decide) (Nat.le_of_ble_eq_true rfl) (ce_X3_stones X a2 w)
set_option maxRecDepth 100000 in
set_option maxHeartbeats 4000000 in
theorem cb_X3_found_b24 (X : Xt) (k5 : Int32 → Int32 → Int32 → Int32 → Wd → Option (Int32 × Wd)) (hk5 : ∀ (x1 : Int32) (x2 : Int32) (x3 : Int32) (x4 : Int32)  (w : Wd), E gWI X m_X3_found 2 5 [(0, .ref (xa X 36)), (1, .int x1), (2, .int x2), (3, .int x3), (4, .int x4)] [] w (k5 x1 x2 x3 x4 w)) (x1 : Int32) (x2 : Int32) (x3 : Int32) (x4 : Int32) (w : Wd) : E gWI X m_X3_found 2 24 [(0, .ref (xa X 36)), (1, .int x1), (2, .int x2), (3, .int x3), (4, .int x4)] [] w (f_X3_found_b24 k5 x1 x2 x3 x4 w) := by
  unfold f_X3_found_b24
  refine e_iinc (pc := 24) (lv' := [(4, .int (x4 + (1 : Int32))), (0, .ref (xa X 36)), (1, .int x1), (2, .int x2), (3, .int x3)]) dX3_found_24 4 rfl (ii_1 _) (Nat.le_of_ble_eq_true rfl) rfl ?_
  refine e_goto (pc := 27) (tgt := 5) dX3_found_27 (by decide) ?_
  refine e_lv [1, 2, 3, 4, 0] rfl ?_
  exact hk5 x1 x2 x3 (x4 + (1 : Int32)) w
set_option maxRecDepth 100000 in
set_option maxHeartbeats 4000000 in
theorem cb_X3_found_b5_y (X : Xt) (k5 : Int32 → Int32 → Int32 → Int32 → Wd → Option (Int32 × Wd)) (hk5 : ∀ (x1 : Int32) (x2 : Int32) (x3 : Int32) (x4 : Int32)  (w : Wd), E gWI X m_X3_found 2 5 [(0, .ref (xa X 36)), (1, .int x1), (2, .int x2), (3, .int x3), (4, .int x4)] [] w (k5 x1 x2 x3 x4 w)) (x1 : Int32) (x2 : Int32) (x3 : Int32) (x4 : Int32) (w : Wd) : E gWI X m_X3_found 2 5 [(0, .ref (xa X 36)), (1, .int x1), (2, .int x2), (3, .int x3), (4, .int x4)] [] w (f_X3_found_b5_y k5 x1 x2 x3 x4 w) := by
  unfold f_X3_found_b5_y
  refine e_iload (pc := 5) dX3_found_5 4 rfl ?_
  refine e_iload_n (pc := 7) dX3_found_7 1 rfl rfl ?_
  refine e_icmp_ge (pc := 8) (tgt := 30) dX3_found_8 (by decide) (fun _ => ?_) (fun _ => ?_)
  · refine e_iload_n (pc := 30) dX3_found_30 3 rfl rfl ?_
    exact e_iretW rfl dX3_found_31
  · refine e_aload_n (pc := 11) dX3_found_11 0 rfl rfl ?_
    refine e_bipush (pc := 12) (v := (12 : Int32)) dX3_found_12 bp_12 ?_
    refine e_callVWI (pc := 14) (As := [.int (12 : Int32)]) (rest := []) kk36 Kc3 (cf_X3_draw X (12 : Int32) w) lk_X3_22 (Nat.le_of_ble_eq_true rfl) (Nat.le_of_ble_eq_true rfl) rfl rfl (Nat.le_of_ble_eq_true rfl) dX3_found_14 (fun r1 w2 => ?_)
    refine e_iload_n (pc := 17) dX3_found_17 2 rfl rfl ?_
    refine e_icmp_ge (pc := 18) (tgt := 24) dX3_found_18 (by decide) (fun _ => ?_) (fun _ => ?_)
    · refine e_lv [0, 1, 2, 3, 4] rfl ?_
      exact cb_X3_found_b24 X k5 hk5 x1 x2 x3 x4 w2
    · refine e_iinc (pc := 21) (lv' := [(3, .int (x3 + (1 : Int32))), (0, .ref (xa X 36)), (1, .int x1), (2, .int x2), (4, .int x4)]) dX3_found_21 3 rfl (ii_1 _) (Nat.le_of_ble_eq_true rfl) rfl ?_
      refine e_lv [1, 2, 3, 0, 4] rfl ?_
      exact cb_X3_found_b24 X k5 hk5 x1 x2 (x3 + (1 : Int32)) x4 w2
theorem cb_X3_found_b5 (X : Xt) : ∀ (n : Nat) (x1 : Int32) (x2 : Int32) (x3 : Int32) (x4 : Int32) (w : Wd), E gWI X m_X3_found 2 5 [(0, .ref (xa X 36)), (1, .int x1), (2, .int x2), (3, .int x3), (4, .int x4)] [] w (f_X3_found_b5 n x1 x2 x3 x4 w) := by
  intro n
  induction n with
  | zero =>
    intro x1 x2 x3 x4 w
    exact E_none
  | succ n ih =>
    intro x1 x2 x3 x4 w
    exact cb_X3_found_b5_y X _ ih x1 x2 x3 x4 w
set_option maxRecDepth 100000 in
set_option maxHeartbeats 4000000 in
theorem ce_X3_found (X : Xt) (a1 : Int32) (a2 : Int32) (w : Wd) : E gWI X m_X3_found 2 0 [(0, .ref (xa X 36)), (1, .int a1), (2, .int a2)] [] w (f_X3_found a1 a2 w) := by
  unfold f_X3_found
  refine e_iconst (pc := 0) (v := (0 : Int32)) dX3_found_0 ic_0 ?_
  refine e_istore_n (pc := 1) (lv' := [(3, .int (0 : Int32)), (0, .ref (xa X 36)), (1, .int a1), (2, .int a2)]) dX3_found_1 rfl (Nat.le_of_ble_eq_true rfl) rfl ?_
  refine e_iconst (pc := 2) (v := (0 : Int32)) dX3_found_2 ic_0 ?_
  refine e_istore (pc := 3) (lv' := [(4, .int (0 : Int32)), (3, .int (0 : Int32)), (0, .ref (xa X 36)), (1, .int a1), (2, .int a2)]) dX3_found_3 (Nat.le_of_ble_eq_true rfl) rfl ?_
  refine e_lv [2, 3, 4, 1, 0] rfl ?_
  exact cb_X3_found_b5 X fu a1 a2 (0 : Int32) (0 : Int32) w
theorem cf_X3_found (X : Xt) (a1 : Int32) (a2 : Int32) (w : Wd) : CF gWI X m_X3_found 2 [.ref (xa X 36), .int a1, .int a2] w (f_X3_found a1 a2 w) := CF_of (by decide) (Nat.le_of_ble_eq_true rfl) (ce_X3_found X a1 a2 w)
set_option maxRecDepth 100000 in
set_option maxHeartbeats 4000000 in
theorem ce_X4_isFull (X : Xt) (w : Wd) : E (gRI w) X m_X4_isFull 1 0 [(0, .ref (xa X 6))] [] w (f_X4_isFull w) := by
  unfold f_X4_isFull
  refine e_aload_n (pc := 0) dX4_isFull_0 0 rfl rfl ?_
  refine g_I (pc := 1) kk6 fl_X4_13 dX4_isFull_1 ?_
  refine e_bipush (pc := 4) (v := (120 : Int32)) dX4_isFull_4 bp_120 ?_
  refine e_icmp_ne (pc := 6) (tgt := 13) dX4_isFull_6 (by decide) (fun _ => ?_) (fun _ => ?_)
  · refine e_iconst (pc := 9) (v := (1 : Int32)) dX4_isFull_9 ic_1 ?_
    refine e_goto (pc := 10) (tgt := 14) dX4_isFull_10 (by decide) ?_
    exact e_zretR0 rfl (by decide) dX4_isFull_14
  · refine e_iconst (pc := 13) (v := (0 : Int32)) dX4_isFull_13 ic_0 ?_
    exact e_zretR0 rfl (by decide) dX4_isFull_14
theorem cf_X4_isFull (X : Xt) (w : Wd) : CF (gRI w) X m_X4_isFull 1 [.ref (xa X 6)] w (f_X4_isFull w) := CF_of (by decide) (Nat.le_of_ble_eq_true rfl) (ce_X4_isFull X w)
set_option maxRecDepth 100000 in
set_option maxHeartbeats 4000000 in
theorem ce_X4_isTold (X : Xt) (w : Wd) : E (gRI w) X m_X4_isTold 1 0 [(0, .ref (xa X 6))] [] w (f_X4_isTold w) := by
  unfold f_X4_isTold
  refine e_aload_n (pc := 0) dX4_isTold_0 0 rfl rfl ?_
  refine g_I (pc := 1) kk6 fl_X4_29 dX4_isTold_1 ?_
  refine e_if_le (pc := 4) (tgt := 11) dX4_isTold_4 (by decide) (fun _ => ?_) (fun _ => ?_)
  · refine e_iconst (pc := 11) (v := (0 : Int32)) dX4_isTold_11 ic_0 ?_
    exact e_zretR0 rfl (by decide) dX4_isTold_12
  · refine e_iconst (pc := 7) (v := (1 : Int32)) dX4_isTold_7 ic_1 ?_
    refine e_goto (pc := 8) (tgt := 12) dX4_isTold_8 (by decide) ?_
    exact e_zretR0 rfl (by decide) dX4_isTold_12
theorem cf_X4_isTold (X : Xt) (w : Wd) : CF (gRI w) X m_X4_isTold 1 [.ref (xa X 6)] w (f_X4_isTold w) := CF_of (by decide) (Nat.le_of_ble_eq_true rfl) (ce_X4_isTold X w)
set_option maxRecDepth 100000 in
set_option maxHeartbeats 4000000 in
theorem ce_X4_add (X : Xt) (a1 : Int32) (w : Wd) : E gWI X m_X4_add 1 0 [(0, .ref (xa X 6)), (1, .int a1)] [] w (f_X4_add a1 w) := by
  unfold f_X4_add
  refine e_aload_n (pc := 0) dX4_add_0 0 rfl rfl ?_
  refine g_I (pc := 1) kk6 fl_X4_13 dX4_add_1 ?_
  refine e_bipush (pc := 4) (v := (120 : Int32)) dX4_add_4 bp_120 ?_
  refine e_icmp_ge (pc := 6) (tgt := 29) dX4_add_6 (by decide) (fun _ => ?_) (fun _ => ?_)
  · refine e_aload_n (pc := 29) dX4_add_29 0 rfl rfl ?_
    refine g_I (pc := 30) kk6 fl_X4_13 dX4_add_30 ?_
    exact e_iretW rfl dX4_add_33
  · refine e_aload_n (pc := 9) dX4_add_9 0 rfl rfl ?_
    refine g_R (pc := 10) (cl' := 7) kk6 fl_X4_9 rfl dX4_add_10 ?_
    refine e_aload_n (pc := 13) dX4_add_13 0 rfl rfl ?_
    refine g_I (pc := 14) kk6 fl_X4_13 dX4_add_14 ?_
    refine e_iload_n (pc := 17) dX4_add_17 1 rfl rfl ?_
    refine e_iast (pc := 18) kk7 dX4_add_18 (fun w1 => ?_)
    refine e_aload_n (pc := 19) dX4_add_19 0 rfl rfl ?_
    refine e_dup (pc := 20) dX4_add_20 rfl ?_
    refine g_I (pc := 21) kk6 fl_X4_13 dX4_add_21 ?_
    refine e_iconst (pc := 24) (v := (1 : Int32)) dX4_add_24 ic_1 ?_
    refine e_iadd (pc := 25) dX4_add_25 ?_
    refine p_I (pc := 26) kk6 fp_X4_13 dX4_add_26 (fun w2 => ?_)
    refine e_aload_n (pc := 29) dX4_add_29 0 rfl rfl ?_
    refine g_I (pc := 30) kk6 fl_X4_13 dX4_add_30 ?_
    exact e_iretW rfl dX4_add_33
theorem cf_X4_add (X : Xt) (a1 : Int32) (w : Wd) : CF gWI X m_X4_add 1 [.ref (xa X 6), .int a1] w (f_X4_add a1 w) := CF_of (by decide) (Nat.le_of_ble_eq_true rfl) (ce_X4_add X a1 w)
set_option maxRecDepth 100000 in
set_option maxHeartbeats 4000000 in
theorem ce_X4_letter (X : Xt) (w : Wd) : E (gRI w) X m_X4_letter 1 0 [(0, .ref (xa X 6))] [] w (f_X4_letter w) := by
  unfold f_X4_letter
  refine e_aload_n (pc := 0) dX4_letter_0 0 rfl rfl ?_
  refine g_I (pc := 1) kk6 fl_X4_17 dX4_letter_1 ?_
  refine e_aload_n (pc := 4) dX4_letter_4 0 rfl rfl ?_
  refine g_I (pc := 5) kk6 fl_X4_13 dX4_letter_5 ?_
  refine e_icmp_ge (pc := 8) (tgt := 23) dX4_letter_8 (by decide) (fun _ => ?_) (fun _ => ?_)
  · refine e_iconst (pc := 23) (v := (-1 : Int32)) dX4_letter_23 ic_m1 ?_
    exact e_iretR rfl dX4_letter_24
  · refine e_aload_n (pc := 11) dX4_letter_11 0 rfl rfl ?_
    refine g_R (pc := 12) (cl' := 7) kk6 fl_X4_9 rfl dX4_letter_12 ?_
    refine e_aload_n (pc := 15) dX4_letter_15 0 rfl rfl ?_
    refine g_I (pc := 16) kk6 fl_X4_17 dX4_letter_16 ?_
    refine e_iald (pc := 19) kk7 dX4_letter_19 (fun v1 => ?_)
    refine e_goto (pc := 20) (tgt := 24) dX4_letter_20 (by decide) ?_
    exact e_iretR rfl dX4_letter_24
theorem cf_X4_letter (X : Xt) (w : Wd) : CF (gRI w) X m_X4_letter 1 [.ref (xa X 6)] w (f_X4_letter w) := CF_of (by decide) (Nat.le_of_ble_eq_true rfl) (ce_X4_letter X w)
set_option maxRecDepth 100000 in
set_option maxHeartbeats 4000000 in
theorem ce_X4_isDigit (X : Xt) (a0 : Int32) (w : Wd) : E (gRI w) X m_X4_isDigit 1 0 [(0, .int a0)] [] w (f_X4_isDigit a0) := by
  unfold f_X4_isDigit
  refine e_iload_n (pc := 0) dX4_isDigit_0 0 rfl rfl ?_
  refine e_bipush (pc := 1) (v := (48 : Int32)) dX4_isDigit_1 bp_48 ?_
  refine e_icmp_lt (pc := 3) (tgt := 16) dX4_isDigit_3 (by decide) (fun _ => ?_) (fun _ => ?_)
  · refine e_iconst (pc := 16) (v := (0 : Int32)) dX4_isDigit_16 ic_0 ?_
    exact e_zretR0 rfl (by decide) dX4_isDigit_17
  · refine e_iload_n (pc := 6) dX4_isDigit_6 0 rfl rfl ?_
    refine e_bipush (pc := 7) (v := (57 : Int32)) dX4_isDigit_7 bp_57 ?_
    refine e_icmp_gt (pc := 9) (tgt := 16) dX4_isDigit_9 (by decide) (fun _ => ?_) (fun _ => ?_)
    · refine e_iconst (pc := 16) (v := (0 : Int32)) dX4_isDigit_16 ic_0 ?_
      exact e_zretR0 rfl (by decide) dX4_isDigit_17
    · refine e_iconst (pc := 12) (v := (1 : Int32)) dX4_isDigit_12 ic_1 ?_
      refine e_goto (pc := 13) (tgt := 17) dX4_isDigit_13 (by decide) ?_
      exact e_zretR0 rfl (by decide) dX4_isDigit_17
theorem cf_X4_isDigit (X : Xt) (a0 : Int32) (w : Wd) : CF (gRI w) X m_X4_isDigit 1 [.int a0] w (f_X4_isDigit a0) := CF_of (by decide) (Nat.le_of_ble_eq_true rfl) (ce_X4_isDigit X a0 w)
set_option maxRecDepth 100000 in
set_option maxHeartbeats 4000000 in
theorem ce_X4_write (X : Xt) (a1 : Int32) (a2 : Int32) (w : Wd) : E gWV X m_X4_write 1 0 [(0, .ref (xa X 6)), (1, .int a1), (2, .int a2)] [] w (f_X4_write a1 a2 w) := by
  unfold f_X4_write
  refine e_aload_n (pc := 0) dX4_write_0 0 rfl rfl ?_
  refine g_I (pc := 1) kk6 fl_X4_23 dX4_write_1 ?_
  refine e_aload_n (pc := 4) dX4_write_4 0 rfl rfl ?_
  refine g_R (pc := 5) (cl' := 8) kk6 fl_X4_20 rfl dX4_write_5 ?_
  refine e_alenI (pc := 8) (v := (128 : Int32)) kk8 al_128 dX4_write_8 ?_
  refine e_icmp_ge (pc := 9) (tgt := 38) dX4_write_9 (by decide) (fun _ => ?_) (fun _ => ?_)
  · exact e_vret rfl dX4_write_38
  · refine e_aload_n (pc := 12) dX4_write_12 0 rfl rfl ?_
    refine g_R (pc := 13) (cl' := 8) kk6 fl_X4_20 rfl dX4_write_13 ?_
    refine e_aload_n (pc := 16) dX4_write_16 0 rfl rfl ?_
    refine g_I (pc := 17) kk6 fl_X4_23 dX4_write_17 ?_
    refine e_iload_n (pc := 20) dX4_write_20 1 rfl rfl ?_
    refine e_sipush (pc := 21) (v := (256 : Int32)) dX4_write_21 sp_256 ?_
    refine e_iload_n (pc := 24) dX4_write_24 2 rfl rfl ?_
    refine e_imul (pc := 25) dX4_write_25 ?_
    refine e_iadd (pc := 26) dX4_write_26 ?_
    refine e_iast (pc := 27) kk8 dX4_write_27 (fun w1 => ?_)
    refine e_aload_n (pc := 28) dX4_write_28 0 rfl rfl ?_
    refine e_dup (pc := 29) dX4_write_29 rfl ?_
    refine g_I (pc := 30) kk6 fl_X4_23 dX4_write_30 ?_
    refine e_iconst (pc := 33) (v := (1 : Int32)) dX4_write_33 ic_1 ?_
    refine e_iadd (pc := 34) dX4_write_34 ?_
    refine p_I (pc := 35) kk6 fp_X4_23 dX4_write_35 (fun w2 => ?_)
    exact e_vret rfl dX4_write_38
theorem cf_X4_write (X : Xt) (a1 : Int32) (a2 : Int32) (w : Wd) : CF gWV X m_X4_write 1 [.ref (xa X 6), .int a1, .int a2] w (f_X4_write a1 a2 w) := CF_of (by decide) (Nat.le_of_ble_eq_true rfl) (ce_X4_write X a1 a2 w)
set_option maxRecDepth 100000 in
set_option maxHeartbeats 4000000 in
theorem cb_X4_readNumber_b48 (X : Xt) (x1 : Int32) (w : Wd) : E gWI X m_X4_readNumber 2 48 [(0, .ref (xa X 6)), (1, .int x1)] [] w (f_X4_readNumber_b48 x1 w) := by
  unfold f_X4_readNumber_b48
  refine e_aload_n (pc := 48) dX4_readNumber_48 0 rfl rfl ?_
  refine e_bipush (pc := 49) (v := (35 : Int32)) dX4_readNumber_49 bp_35 ?_
  refine e_iload_n (pc := 51) dX4_readNumber_51 1 rfl rfl ?_
  refine e_callVWV (pc := 52) (As := [.int (35 : Int32), .int x1]) (rest := []) kk6 Kc4 (cf_X4_write X (35 : Int32) x1 w) lk_X4_62 (Nat.le_of_ble_eq_true rfl) (Nat.le_of_ble_eq_true rfl) rfl rfl (Nat.le_of_ble_eq_true rfl) dX4_readNumber_52 (fun w1 => ?_)
  refine e_iconst (pc := 55) (v := (1 : Int32)) dX4_readNumber_55 ic_1 ?_
  exact e_zretW0 rfl (by decide) dX4_readNumber_56
set_option maxRecDepth 100000 in
set_option maxHeartbeats 4000000 in
theorem cb_X4_readNumber_b4_y (X : Xt) (k4 : Int32 → Int32 → Wd → Option (Int32 × Wd)) (hk4 : ∀ (x1 : Int32) (x2 : Int32)  (w : Wd), E gWI X m_X4_readNumber 2 4 [(0, .ref (xa X 6)), (1, .int x1), (2, .int x2)] [] w (k4 x1 x2 w)) (x1 : Int32) (x2 : Int32) (w : Wd) : E gWI X m_X4_readNumber 2 4 [(0, .ref (xa X 6)), (1, .int x1), (2, .int x2)] [] w (f_X4_readNumber_b4_y k4 x1 x2 w) := by
  unfold f_X4_readNumber_b4_y
  refine e_iload_n (pc := 4) dX4_readNumber_4 2 rfl rfl ?_
  refine e_iconst (pc := 5) (v := (4 : Int32)) dX4_readNumber_5 ic_4 ?_
  refine e_icmp_ge (pc := 6) (tgt := 48) dX4_readNumber_6 (by decide) (fun _ => ?_) (fun _ => ?_)
  · refine e_lv [0, 1] rfl ?_
    exact cb_X4_readNumber_b48 X x1 w
  · refine e_aload_n (pc := 9) dX4_readNumber_9 0 rfl rfl ?_
    refine e_callVRI (pc := 10) (As := []) (rest := []) kk6 Kc4 (cf_X4_letter X w) lk_X4_69 (Nat.le_of_ble_eq_true rfl) (Nat.le_of_ble_eq_true rfl) rfl rfl (Nat.le_of_ble_eq_true rfl) dX4_readNumber_10 (fun r2 => ?_)
    refine e_callSRI (pc := 13) (As := [.int r2]) (rest := []) (cf_X4_isDigit X r2 w) lk_X4_77 (Nat.le_of_ble_eq_true rfl) (Nat.le_of_ble_eq_true rfl) rfl rfl (Nat.le_of_ble_eq_true rfl) dX4_readNumber_13 (fun r3 => ?_)
    refine e_if_eq (pc := 16) (tgt := 48) dX4_readNumber_16 (by decide) (fun _ => ?_) (fun _ => ?_)
    · refine e_lv [0, 1] rfl ?_
      exact cb_X4_readNumber_b48 X x1 w
    · refine e_iload_n (pc := 19) dX4_readNumber_19 1 rfl rfl ?_
      refine e_bipush (pc := 20) (v := (10 : Int32)) dX4_readNumber_20 bp_10 ?_
      refine e_imul (pc := 22) dX4_readNumber_22 ?_
      refine e_aload_n (pc := 23) dX4_readNumber_23 0 rfl rfl ?_
      refine e_callVRI (pc := 24) (As := []) (rest := [.int (x1 * (10 : Int32))]) kk6 Kc4 (cf_X4_letter X w) lk_X4_69 (Nat.le_of_ble_eq_true rfl) (Nat.le_of_ble_eq_true rfl) rfl rfl (Nat.le_of_ble_eq_true rfl) dX4_readNumber_24 (fun r4 => ?_)
      refine e_iadd (pc := 27) dX4_readNumber_27 ?_
      refine e_bipush (pc := 28) (v := (48 : Int32)) dX4_readNumber_28 bp_48 ?_
      refine e_isub (pc := 30) dX4_readNumber_30 ?_
      refine e_nameI (fun y5 => ?_)
      refine e_istore_n (pc := 31) (lv' := [(1, .int y5), (0, .ref (xa X 6)), (2, .int x2)]) dX4_readNumber_31 rfl (Nat.le_of_ble_eq_true rfl) rfl ?_
      refine e_aload_n (pc := 32) dX4_readNumber_32 1 rfl rfl ?_
      refine e_dup (pc := 33) dX4_readNumber_33 rfl ?_
      refine g_I (pc := 34) kk6 fl_X4_17 dX4_readNumber_34 ?_
      refine e_iconst (pc := 37) (v := (1 : Int32)) dX4_readNumber_37 ic_1 ?_
      refine e_iadd (pc := 38) dX4_readNumber_38 ?_
      refine p_I (pc := 39) kk6 fp_X4_17 dX4_readNumber_39 (fun w6 => ?_)
      refine e_iinc (pc := 42) (lv' := [(2, .int (x2 + (1 : Int32))), (1, .int y5), (0, .ref (xa X 6))]) dX4_readNumber_42 2 rfl (ii_1 _) (Nat.le_of_ble_eq_true rfl) rfl ?_
      refine e_goto (pc := 45) (tgt := 4) dX4_readNumber_45 (by decide) ?_
      refine e_lv [2, 1, 0] rfl ?_
      exact hk4 y5 (x2 + (1 : Int32)) w6
theorem cb_X4_readNumber_b4 (X : Xt) : ∀ (n : Nat) (x1 : Int32) (x2 : Int32) (w : Wd), E gWI X m_X4_readNumber 2 4 [(0, .ref (xa X 6)), (1, .int x1), (2, .int x2)] [] w (f_X4_readNumber_b4 n x1 x2 w) := by
  intro n
  induction n with
  | zero =>
    intro x1 x2 w
    exact E_none
  | succ n ih =>
    intro x1 x2 w
    exact cb_X4_readNumber_b4_y X _ ih x1 x2 w
set_option maxRecDepth 100000 in
set_option maxHeartbeats 4000000 in
theorem ce_X4_readNumber (X : Xt) (w : Wd) : E gWI X m_X4_readNumber 2 0 [(0, .ref (xa X 6))] [] w (f_X4_readNumber w) := by
  unfold f_X4_readNumber
  refine e_iconst (pc := 0) (v := (0 : Int32)) dX4_readNumber_0 ic_0 ?_
  refine e_istore_n (pc := 1) (lv' := [(1, .int (0 : Int32)), (0, .ref (xa X 6))]) dX4_readNumber_1 rfl (Nat.le_of_ble_eq_true rfl) rfl ?_
  refine e_iconst (pc := 2) (v := (0 : Int32)) dX4_readNumber_2 ic_0 ?_
  refine e_istore_n (pc := 3) (lv' := [(2, .int (0 : Int32)), (1, .int (0 : Int32)), (0, .ref (xa X 6))]) dX4_readNumber_3 rfl (Nat.le_of_ble_eq_true rfl) rfl ?_
  refine e_lv [2, 1, 0] rfl ?_
  exact cb_X4_readNumber_b4 X fu (0 : Int32) (0 : Int32) w
theorem cf_X4_readNumber (X : Xt) (w : Wd) : CF gWI X m_X4_readNumber 2 [.ref (xa X 6)] w (f_X4_readNumber w) := CF_of (by decide) (Nat.le_of_ble_eq_true rfl) (ce_X4_readNumber X w)
set_option maxRecDepth 100000 in
set_option maxHeartbeats 4000000 in
theorem ce_X4_nameOf (X : Xt) (a0 : Int32) (w : Wd) : E (gRI w) X m_X4_nameOf 1 0 [(0, .int a0)] [] w (f_X4_nameOf a0) := by
  unfold f_X4_nameOf
  refine e_iload_n (pc := 0) dX4_nameOf_0 0 rfl rfl ?_
  refine e_ite (fun h1_104 => ?_) (fun h1_104 => ?_)
  · refine e_tabIn (pc := 1) (off := 73) (tgt := 74) dX4_nameOf_1 (by rw [h1_104]; decide) (by rw [h1_104]; decide) (by rw [h1_104]; decide) (by decide) ?_
    refine e_iconst (pc := 74) (v := (3 : Int32)) dX4_nameOf_74 ic_3 ?_
    exact e_iretR rfl dX4_nameOf_75
  · refine e_ite (fun h1_107 => ?_) (fun h1_107 => ?_)
    · refine e_tabIn (pc := 1) (off := 77) (tgt := 78) dX4_nameOf_1 (by rw [h1_107]; decide) (by rw [h1_107]; decide) (by rw [h1_107]; decide) (by decide) ?_
      refine e_iconst (pc := 78) (v := (5 : Int32)) dX4_nameOf_78 ic_5 ?_
      exact e_iretR rfl dX4_nameOf_79
    · refine e_ite (fun h1_108 => ?_) (fun h1_108 => ?_)
      · refine e_tabIn (pc := 1) (off := 71) (tgt := 72) dX4_nameOf_1 (by rw [h1_108]; decide) (by rw [h1_108]; decide) (by rw [h1_108]; decide) (by decide) ?_
        refine e_iconst (pc := 72) (v := (2 : Int32)) dX4_nameOf_72 ic_2 ?_
        exact e_iretR rfl dX4_nameOf_73
      · refine e_ite (fun h1_110 => ?_) (fun h1_110 => ?_)
        · refine e_tabIn (pc := 1) (off := 75) (tgt := 76) dX4_nameOf_1 (by rw [h1_110]; decide) (by rw [h1_110]; decide) (by rw [h1_110]; decide) (by decide) ?_
          refine e_iconst (pc := 76) (v := (4 : Int32)) dX4_nameOf_76 ic_4 ?_
          exact e_iretR rfl dX4_nameOf_77
        · refine e_ite (fun h1_115 => ?_) (fun h1_115 => ?_)
          · refine e_tabIn (pc := 1) (off := 67) (tgt := 68) dX4_nameOf_1 (by rw [h1_115]; decide) (by rw [h1_115]; decide) (by rw [h1_115]; decide) (by decide) ?_
            refine e_iconst (pc := 68) (v := (0 : Int32)) dX4_nameOf_68 ic_0 ?_
            exact e_iretR rfl dX4_nameOf_69
          · refine e_ite (fun h1_116 => ?_) (fun h1_116 => ?_)
            · refine e_tabIn (pc := 1) (off := 69) (tgt := 70) dX4_nameOf_1 (by rw [h1_116]; decide) (by rw [h1_116]; decide) (by rw [h1_116]; decide) (by decide) ?_
              refine e_iconst (pc := 70) (v := (1 : Int32)) dX4_nameOf_70 ic_1 ?_
              exact e_iretR rfl dX4_nameOf_71
            · by_cases q0 : (a0).toInt < 104 ∨ 116 < (a0).toInt
              · refine e_tabOut (pc := 1) (tgt := 80) dX4_nameOf_1 q0 (by decide) ?_
                refine e_iconst (pc := 80) (v := (-1 : Int32)) dX4_nameOf_80 ic_m1 ?_
                exact e_iretR rfl dX4_nameOf_81
              · by_cases q105 : a0 = (105 : Int32)
                · refine e_tabIn (pc := 1) (off := 79) (tgt := 80) dX4_nameOf_1 (by rw [q105]; decide) (by rw [q105]; decide) (by rw [q105]; decide) (by decide) ?_
                  refine e_iconst (pc := 80) (v := (-1 : Int32)) dX4_nameOf_80 ic_m1 ?_
                  exact e_iretR rfl dX4_nameOf_81
                · by_cases q106 : a0 = (106 : Int32)
                  · refine e_tabIn (pc := 1) (off := 79) (tgt := 80) dX4_nameOf_1 (by rw [q106]; decide) (by rw [q106]; decide) (by rw [q106]; decide) (by decide) ?_
                    refine e_iconst (pc := 80) (v := (-1 : Int32)) dX4_nameOf_80 ic_m1 ?_
                    exact e_iretR rfl dX4_nameOf_81
                  · by_cases q109 : a0 = (109 : Int32)
                    · refine e_tabIn (pc := 1) (off := 79) (tgt := 80) dX4_nameOf_1 (by rw [q109]; decide) (by rw [q109]; decide) (by rw [q109]; decide) (by decide) ?_
                      refine e_iconst (pc := 80) (v := (-1 : Int32)) dX4_nameOf_80 ic_m1 ?_
                      exact e_iretR rfl dX4_nameOf_81
                    · by_cases q111 : a0 = (111 : Int32)
                      · refine e_tabIn (pc := 1) (off := 79) (tgt := 80) dX4_nameOf_1 (by rw [q111]; decide) (by rw [q111]; decide) (by rw [q111]; decide) (by decide) ?_
                        refine e_iconst (pc := 80) (v := (-1 : Int32)) dX4_nameOf_80 ic_m1 ?_
                        exact e_iretR rfl dX4_nameOf_81
                      · by_cases q112 : a0 = (112 : Int32)
                        · refine e_tabIn (pc := 1) (off := 79) (tgt := 80) dX4_nameOf_1 (by rw [q112]; decide) (by rw [q112]; decide) (by rw [q112]; decide) (by decide) ?_
                          refine e_iconst (pc := 80) (v := (-1 : Int32)) dX4_nameOf_80 ic_m1 ?_
                          exact e_iretR rfl dX4_nameOf_81
                        · by_cases q113 : a0 = (113 : Int32)
                          · refine e_tabIn (pc := 1) (off := 79) (tgt := 80) dX4_nameOf_1 (by rw [q113]; decide) (by rw [q113]; decide) (by rw [q113]; decide) (by decide) ?_
                            refine e_iconst (pc := 80) (v := (-1 : Int32)) dX4_nameOf_80 ic_m1 ?_
                            exact e_iretR rfl dX4_nameOf_81
                          · by_cases q114 : a0 = (114 : Int32)
                            · refine e_tabIn (pc := 1) (off := 79) (tgt := 80) dX4_nameOf_1 (by rw [q114]; decide) (by rw [q114]; decide) (by rw [q114]; decide) (by decide) ?_
                              refine e_iconst (pc := 80) (v := (-1 : Int32)) dX4_nameOf_80 ic_m1 ?_
                              exact e_iretR rfl dX4_nameOf_81
                            · have z104 := lv_neT h1_104 (show (104 : Int32).toInt = 104 by decide)
                              have z107 := lv_neT h1_107 (show (107 : Int32).toInt = 107 by decide)
                              have z108 := lv_neT h1_108 (show (108 : Int32).toInt = 108 by decide)
                              have z110 := lv_neT h1_110 (show (110 : Int32).toInt = 110 by decide)
                              have z115 := lv_neT h1_115 (show (115 : Int32).toInt = 115 by decide)
                              have z116 := lv_neT h1_116 (show (116 : Int32).toInt = 116 by decide)
                              have z105 := lv_neT q105 (show (105 : Int32).toInt = 105 by decide)
                              have z106 := lv_neT q106 (show (106 : Int32).toInt = 106 by decide)
                              have z109 := lv_neT q109 (show (109 : Int32).toInt = 109 by decide)
                              have z111 := lv_neT q111 (show (111 : Int32).toInt = 111 by decide)
                              have z112 := lv_neT q112 (show (112 : Int32).toInt = 112 by decide)
                              have z113 := lv_neT q113 (show (113 : Int32).toInt = 113 by decide)
                              have z114 := lv_neT q114 (show (114 : Int32).toInt = 114 by decide)
                              exfalso
                              omega
theorem cf_X4_nameOf (X : Xt) (a0 : Int32) (w : Wd) : CF (gRI w) X m_X4_nameOf 1 [.int a0] w (f_X4_nameOf a0) := CF_of (by decide) (Nat.le_of_ble_eq_true rfl) (ce_X4_nameOf X a0 w)
set_option maxRecDepth 100000 in
set_option maxHeartbeats 4000000 in
theorem ce_X4_passed (X : Xt) (a1 : Int32) (w : Wd) : E gWI X m_X4_passed 2 0 [(0, .ref (xa X 6)), (1, .int a1)] [] w (f_X4_passed a1 w) := by
  unfold f_X4_passed
  refine e_aload_n (pc := 0) dX4_passed_0 0 rfl rfl ?_
  refine e_callVRI (pc := 1) (As := []) (rest := []) kk6 Kc4 (cf_X4_letter X w) lk_X4_69 (Nat.le_of_ble_eq_true rfl) (Nat.le_of_ble_eq_true rfl) rfl rfl (Nat.le_of_ble_eq_true rfl) dX4_passed_1 (fun r1 => ?_)
  refine e_iload_n (pc := 4) dX4_passed_4 1 rfl rfl ?_
  refine e_icmp_eq (pc := 5) (tgt := 10) dX4_passed_5 (by decide) (fun _ => ?_) (fun _ => ?_)
  · refine e_aload_n (pc := 10) dX4_passed_10 0 rfl rfl ?_
    refine e_dup (pc := 11) dX4_passed_11 rfl ?_
    refine g_I (pc := 12) kk6 fl_X4_17 dX4_passed_12 ?_
    refine e_iconst (pc := 15) (v := (1 : Int32)) dX4_passed_15 ic_1 ?_
    refine e_iadd (pc := 16) dX4_passed_16 ?_
    refine p_I (pc := 17) kk6 fp_X4_17 dX4_passed_17 (fun w2 => ?_)
    refine e_iconst (pc := 20) (v := (1 : Int32)) dX4_passed_20 ic_1 ?_
    exact e_zretW0 rfl (by decide) dX4_passed_21
  · refine e_iconst (pc := 8) (v := (0 : Int32)) dX4_passed_8 ic_0 ?_
    exact e_zretW0 rfl (by decide) dX4_passed_9
theorem cf_X4_passed (X : Xt) (a1 : Int32) (w : Wd) : CF gWI X m_X4_passed 2 [.ref (xa X 6), .int a1] w (f_X4_passed a1 w) := CF_of (by decide) (Nat.le_of_ble_eq_true rfl) (ce_X4_passed X a1 w)
set_option maxRecDepth 100000 in
set_option maxHeartbeats 4000000 in
theorem ce_X4_levelOf (X : Xt) (a0 : Int32) (w : Wd) : E (gRI w) X m_X4_levelOf 1 0 [(0, .int a0)] [] w (f_X4_levelOf a0) := by
  unfold f_X4_levelOf
  refine e_iload_n (pc := 0) dX4_levelOf_0 0 rfl rfl ?_
  refine e_ite (fun h1_37 => ?_) (fun h1_37 => ?_)
  · refine e_look (pc := 1) (off := 99) (tgt := 100) dX4_levelOf_1 (by decide) (by rw [h1_37]; decide) (by decide) ?_
    refine e_iconst (pc := 100) (v := (4 : Int32)) dX4_levelOf_100 ic_4 ?_
    exact e_iretR rfl dX4_levelOf_101
  · refine e_ite (fun h1_38 => ?_) (fun h1_38 => ?_)
    · refine e_look (pc := 1) (off := 93) (tgt := 94) dX4_levelOf_1 (by decide) (by rw [h1_38]; decide) (by decide) ?_
      refine e_iconst (pc := 94) (v := (1 : Int32)) dX4_levelOf_94 ic_1 ?_
      exact e_iretR rfl dX4_levelOf_95
    · refine e_ite (fun h1_42 => ?_) (fun h1_42 => ?_)
      · refine e_look (pc := 1) (off := 99) (tgt := 100) dX4_levelOf_1 (by decide) (by rw [h1_42]; decide) (by decide) ?_
        refine e_iconst (pc := 100) (v := (4 : Int32)) dX4_levelOf_100 ic_4 ?_
        exact e_iretR rfl dX4_levelOf_101
      · refine e_ite (fun h1_43 => ?_) (fun h1_43 => ?_)
        · refine e_look (pc := 1) (off := 97) (tgt := 98) dX4_levelOf_1 (by decide) (by rw [h1_43]; decide) (by decide) ?_
          refine e_iconst (pc := 98) (v := (3 : Int32)) dX4_levelOf_98 ic_3 ?_
          exact e_iretR rfl dX4_levelOf_99
        · refine e_ite (fun h1_45 => ?_) (fun h1_45 => ?_)
          · refine e_look (pc := 1) (off := 97) (tgt := 98) dX4_levelOf_1 (by decide) (by rw [h1_45]; decide) (by decide) ?_
            refine e_iconst (pc := 98) (v := (3 : Int32)) dX4_levelOf_98 ic_3 ?_
            exact e_iretR rfl dX4_levelOf_99
          · refine e_ite (fun h1_47 => ?_) (fun h1_47 => ?_)
            · refine e_look (pc := 1) (off := 99) (tgt := 100) dX4_levelOf_1 (by decide) (by rw [h1_47]; decide) (by decide) ?_
              refine e_iconst (pc := 100) (v := (4 : Int32)) dX4_levelOf_100 ic_4 ?_
              exact e_iretR rfl dX4_levelOf_101
            · refine e_ite (fun h1_60 => ?_) (fun h1_60 => ?_)
              · refine e_look (pc := 1) (off := 95) (tgt := 96) dX4_levelOf_1 (by decide) (by rw [h1_60]; decide) (by decide) ?_
                refine e_iconst (pc := 96) (v := (2 : Int32)) dX4_levelOf_96 ic_2 ?_
                exact e_iretR rfl dX4_levelOf_97
              · refine e_ite (fun h1_61 => ?_) (fun h1_61 => ?_)
                · refine e_look (pc := 1) (off := 95) (tgt := 96) dX4_levelOf_1 (by decide) (by rw [h1_61]; decide) (by decide) ?_
                  refine e_iconst (pc := 96) (v := (2 : Int32)) dX4_levelOf_96 ic_2 ?_
                  exact e_iretR rfl dX4_levelOf_97
                · refine e_ite (fun h1_62 => ?_) (fun h1_62 => ?_)
                  · refine e_look (pc := 1) (off := 95) (tgt := 96) dX4_levelOf_1 (by decide) (by rw [h1_62]; decide) (by decide) ?_
                    refine e_iconst (pc := 96) (v := (2 : Int32)) dX4_levelOf_96 ic_2 ?_
                    exact e_iretR rfl dX4_levelOf_97
                  · refine e_ite (fun h1_124 => ?_) (fun h1_124 => ?_)
                    · refine e_look (pc := 1) (off := 91) (tgt := 92) dX4_levelOf_1 (by decide) (by rw [h1_124]; decide) (by decide) ?_
                      refine e_iconst (pc := 92) (v := (0 : Int32)) dX4_levelOf_92 ic_0 ?_
                      exact e_iretR rfl dX4_levelOf_93
                    · refine e_look (pc := 1) (off := 101) (tgt := 102) dX4_levelOf_1 (by decide) ((lv_osw h1_37 (by decide)).trans ((lv_osw h1_38 (by decide)).trans ((lv_osw h1_42 (by decide)).trans ((lv_osw h1_43 (by decide)).trans ((lv_osw h1_45 (by decide)).trans ((lv_osw h1_47 (by decide)).trans ((lv_osw h1_60 (by decide)).trans ((lv_osw h1_61 (by decide)).trans ((lv_osw h1_62 (by decide)).trans ((lv_osw h1_124 (by decide)).trans rfl)))))))))) (by decide) ?_
                      refine e_iconst (pc := 102) (v := (-1 : Int32)) dX4_levelOf_102 ic_m1 ?_
                      exact e_iretR rfl dX4_levelOf_103
theorem cf_X4_levelOf (X : Xt) (a0 : Int32) (w : Wd) : CF (gRI w) X m_X4_levelOf 1 [.int a0] w (f_X4_levelOf a0) := CF_of (by decide) (Nat.le_of_ble_eq_true rfl) (ce_X4_levelOf X a0 w)
set_option maxRecDepth 100000 in
set_option maxHeartbeats 4000000 in
theorem cb_X4_readLevel_b39_y (X : Xt) {dd : Nat} (hb : 3 ≤ dd) (r_X4_readLevel : Int32 → Int32 → Wd → Option (Int32 × Wd)) (hr_X4_readLevel : ∀ (a1 : Int32) (a2 : Int32) (w : Wd), CF gWI X m_X4_readLevel dd [.ref (xa X 6), .int a1, .int a2] w (r_X4_readLevel a1 a2 w)) (r_X4_readOperand : Int32 → Wd → Option (Int32 × Wd)) (hr_X4_readOperand : ∀ (a1 : Int32) (w : Wd), CF gWI X m_X4_readOperand dd [.ref (xa X 6), .int a1] w (r_X4_readOperand a1 w)) (k39 : Int32 → Int32 → Int32 → Int32 → Wd → Option (Int32 × Wd)) (hk39 : ∀ (x1 : Int32) (x2 : Int32) (x3 : Int32) (x4 : Int32)  (w : Wd), E gWI X m_X4_readLevel (dd + 1) 39 [(0, .ref (xa X 6)), (1, .int x1), (2, .int x2), (3, .int x3), (4, .int x4)] [] w (k39 x1 x2 x3 x4 w)) (x1 : Int32) (x2 : Int32) (x3 : Int32) (x4 : Int32) (w : Wd) : E gWI X m_X4_readLevel (dd + 1) 39 [(0, .ref (xa X 6)), (1, .int x1), (2, .int x2), (3, .int x3), (4, .int x4)] [] w (f_X4_readLevel_b39_y r_X4_readLevel r_X4_readOperand k39 x1 x2 x3 x4 w) := by
  unfold f_X4_readLevel_b39_y
  refine e_iload (pc := 39) dX4_readLevel_39 4 rfl ?_
  refine e_iload_n (pc := 41) dX4_readLevel_41 3 rfl rfl ?_
  refine e_icmp_ge (pc := 42) (tgt := 98) dX4_readLevel_42 (by decide) (fun _ => ?_) (fun _ => ?_)
  · refine e_iconst (pc := 98) (v := (1 : Int32)) dX4_readLevel_98 ic_1 ?_
    exact e_zretW0 rfl (by decide) dX4_readLevel_99
  · refine e_aload_n (pc := 45) dX4_readLevel_45 0 rfl rfl ?_
    refine e_callVRI (pc := 46) (As := []) (rest := []) kk6 Kc4 (cf_X4_letter X w) lk_X4_69 (by omega) (Nat.le_of_ble_eq_true rfl) rfl rfl (Nat.le_of_ble_eq_true rfl) dX4_readLevel_46 (fun r3 => ?_)
    refine e_callSRI (pc := 49) (As := [.int r3]) (rest := []) (cf_X4_levelOf X r3 w) lk_X4_73 (by omega) (Nat.le_of_ble_eq_true rfl) rfl rfl (Nat.le_of_ble_eq_true rfl) dX4_readLevel_49 (fun r4 => ?_)
    refine e_iload_n (pc := 52) dX4_readLevel_52 1 rfl rfl ?_
    refine e_icmp_ne (pc := 53) (tgt := 98) dX4_readLevel_53 (by decide) (fun _ => ?_) (fun _ => ?_)
    · refine e_aload_n (pc := 56) dX4_readLevel_56 0 rfl rfl ?_
      refine e_callVRI (pc := 57) (As := []) (rest := []) kk6 Kc4 (cf_X4_letter X w) lk_X4_69 (by omega) (Nat.le_of_ble_eq_true rfl) rfl rfl (Nat.le_of_ble_eq_true rfl) dX4_readLevel_57 (fun r5 => ?_)
      refine e_istore (pc := 60) (lv' := [(5, .int r5), (0, .ref (xa X 6)), (1, .int x1), (2, .int x2), (3, .int x3), (4, .int x4)]) dX4_readLevel_60 (Nat.le_of_ble_eq_true rfl) rfl ?_
      refine e_aload_n (pc := 62) dX4_readLevel_62 1 rfl rfl ?_
      refine e_dup (pc := 63) dX4_readLevel_63 rfl ?_
      refine g_I (pc := 64) kk6 fl_X4_17 dX4_readLevel_64 ?_
      refine e_iconst (pc := 67) (v := (1 : Int32)) dX4_readLevel_67 ic_1 ?_
      refine e_iadd (pc := 68) dX4_readLevel_68 ?_
      refine p_I (pc := 69) kk6 fp_X4_17 dX4_readLevel_69 (fun w6 => ?_)
      refine e_aload_n (pc := 72) dX4_readLevel_72 1 rfl rfl ?_
      refine e_iload_n (pc := 73) dX4_readLevel_73 2 rfl rfl ?_
      refine e_iconst (pc := 74) (v := (1 : Int32)) dX4_readLevel_74 ic_1 ?_
      refine e_iadd (pc := 75) dX4_readLevel_75 ?_
      refine e_iload_n (pc := 76) dX4_readLevel_76 3 rfl rfl ?_
      refine e_callVWI (pc := 77) (As := [.int (x1 + (1 : Int32)), .int x2]) (rest := []) kk6 Kc4 (hr_X4_readLevel (x1 + (1 : Int32)) x2 w6) lk_X4_58 (Nat.le_refl _) (Nat.le_of_ble_eq_true rfl) rfl rfl (Nat.le_of_ble_eq_true rfl) dX4_readLevel_77 (fun r7 w8 => ?_)
      refine e_if_ne (pc := 80) (tgt := 85) dX4_readLevel_80 (by decide) (fun _ => ?_) (fun _ => ?_)
      · refine e_iconst (pc := 83) (v := (0 : Int32)) dX4_readLevel_83 ic_0 ?_
        exact e_zretW0 rfl (by decide) dX4_readLevel_84
      · refine e_aload_n (pc := 85) dX4_readLevel_85 1 rfl rfl ?_
        refine e_iload (pc := 86) dX4_readLevel_86 0 rfl ?_
        refine e_iconst (pc := 88) (v := (0 : Int32)) dX4_readLevel_88 ic_0 ?_
        refine e_callVWV (pc := 89) (As := [.int r5, .int (0 : Int32)]) (rest := []) kk6 Kc4 (cf_X4_write X r5 (0 : Int32) w8) lk_X4_62 (by omega) (Nat.le_of_ble_eq_true rfl) rfl rfl (Nat.le_of_ble_eq_true rfl) dX4_readLevel_89 (fun w9 => ?_)
        refine e_iinc (pc := 92) (lv' := [(4, .int (x4 + (1 : Int32))), (5, .int r5), (0, .ref (xa X 6)), (1, .int x1), (2, .int x2), (3, .int x3)]) dX4_readLevel_92 5 rfl (ii_1 _) (Nat.le_of_ble_eq_true rfl) rfl ?_
        refine e_goto (pc := 95) (tgt := 39) dX4_readLevel_95 (by decide) ?_
        refine e_lv [2, 3, 4, 5, 0] rfl ?_
        exact hk39 x1 x2 x3 (x4 + (1 : Int32)) w9
    · refine e_iconst (pc := 98) (v := (1 : Int32)) dX4_readLevel_98 ic_1 ?_
      exact e_zretW0 rfl (by decide) dX4_readLevel_99
theorem cb_X4_readLevel_b39 (X : Xt) {dd : Nat} (hb : 3 ≤ dd) (r_X4_readLevel : Int32 → Int32 → Wd → Option (Int32 × Wd)) (hr_X4_readLevel : ∀ (a1 : Int32) (a2 : Int32) (w : Wd), CF gWI X m_X4_readLevel dd [.ref (xa X 6), .int a1, .int a2] w (r_X4_readLevel a1 a2 w)) (r_X4_readOperand : Int32 → Wd → Option (Int32 × Wd)) (hr_X4_readOperand : ∀ (a1 : Int32) (w : Wd), CF gWI X m_X4_readOperand dd [.ref (xa X 6), .int a1] w (r_X4_readOperand a1 w)) : ∀ (n : Nat) (x1 : Int32) (x2 : Int32) (x3 : Int32) (x4 : Int32) (w : Wd), E gWI X m_X4_readLevel (dd + 1) 39 [(0, .ref (xa X 6)), (1, .int x1), (2, .int x2), (3, .int x3), (4, .int x4)] [] w (f_X4_readLevel_b39 r_X4_readLevel r_X4_readOperand n x1 x2 x3 x4 w) := by
  intro n
  induction n with
  | zero =>
    intro x1 x2 x3 x4 w
    exact E_none
  | succ n ih =>
    intro x1 x2 x3 x4 w
    exact cb_X4_readLevel_b39_y X hb r_X4_readLevel hr_X4_readLevel r_X4_readOperand hr_X4_readOperand _ ih x1 x2 x3 x4 w
set_option maxRecDepth 100000 in
set_option maxHeartbeats 4000000 in
theorem cb_X4_readLevel_b35 (X : Xt) {dd : Nat} (hb : 3 ≤ dd) (r_X4_readLevel : Int32 → Int32 → Wd → Option (Int32 × Wd)) (hr_X4_readLevel : ∀ (a1 : Int32) (a2 : Int32) (w : Wd), CF gWI X m_X4_readLevel dd [.ref (xa X 6), .int a1, .int a2] w (r_X4_readLevel a1 a2 w)) (r_X4_readOperand : Int32 → Wd → Option (Int32 × Wd)) (hr_X4_readOperand : ∀ (a1 : Int32) (w : Wd), CF gWI X m_X4_readOperand dd [.ref (xa X 6), .int a1] w (r_X4_readOperand a1 w)) (x1 : Int32) (x2 : Int32) (s0 : Int32) (w : Wd) : E gWI X m_X4_readLevel (dd + 1) 35 [(0, .ref (xa X 6)), (1, .int x1), (2, .int x2)] [.int s0] w (f_X4_readLevel_b35 r_X4_readLevel r_X4_readOperand x1 x2 s0 w) := by
  unfold f_X4_readLevel_b35
  refine e_istore_n (pc := 35) (lv' := [(3, .int s0), (0, .ref (xa X 6)), (1, .int x1), (2, .int x2)]) dX4_readLevel_35 rfl (Nat.le_of_ble_eq_true rfl) rfl ?_
  refine e_iconst (pc := 36) (v := (0 : Int32)) dX4_readLevel_36 ic_0 ?_
  refine e_istore (pc := 37) (lv' := [(4, .int (0 : Int32)), (3, .int s0), (0, .ref (xa X 6)), (1, .int x1), (2, .int x2)]) dX4_readLevel_37 (Nat.le_of_ble_eq_true rfl) rfl ?_
  refine e_lv [2, 3, 4, 1, 0] rfl ?_
  exact cb_X4_readLevel_b39 X hb r_X4_readLevel hr_X4_readLevel r_X4_readOperand hr_X4_readOperand fu x1 x2 s0 (0 : Int32) w
set_option maxRecDepth 100000 in
set_option maxHeartbeats 4000000 in
theorem ce_X4_readLevel (X : Xt) {dd : Nat} (hb : 3 ≤ dd) (r_X4_readLevel : Int32 → Int32 → Wd → Option (Int32 × Wd)) (hr_X4_readLevel : ∀ (a1 : Int32) (a2 : Int32) (w : Wd), CF gWI X m_X4_readLevel dd [.ref (xa X 6), .int a1, .int a2] w (r_X4_readLevel a1 a2 w)) (r_X4_readOperand : Int32 → Wd → Option (Int32 × Wd)) (hr_X4_readOperand : ∀ (a1 : Int32) (w : Wd), CF gWI X m_X4_readOperand dd [.ref (xa X 6), .int a1] w (r_X4_readOperand a1 w)) (a1 : Int32) (a2 : Int32) (w : Wd) : E gWI X m_X4_readLevel (dd + 1) 0 [(0, .ref (xa X 6)), (1, .int a1), (2, .int a2)] [] w (f_X4_readLevel_y r_X4_readLevel r_X4_readOperand a1 a2 w) := by
  unfold f_X4_readLevel_y
  refine e_iload_n (pc := 0) dX4_readLevel_0 1 rfl rfl ?_
  refine e_iconst (pc := 1) (v := (5 : Int32)) dX4_readLevel_1 ic_5 ?_
  refine e_icmp_ne (pc := 2) (tgt := 11) dX4_readLevel_2 (by decide) (fun _ => ?_) (fun _ => ?_)
  · refine e_aload_n (pc := 5) dX4_readLevel_5 0 rfl rfl ?_
    refine e_iload_n (pc := 6) dX4_readLevel_6 2 rfl rfl ?_
    refine e_callVWI (pc := 7) (As := [.int a2]) (rest := []) kk6 Kc4 (hr_X4_readOperand a2 w) lk_X4_66 (Nat.le_refl _) (Nat.le_of_ble_eq_true rfl) rfl rfl (Nat.le_of_ble_eq_true rfl) dX4_readLevel_7 (fun r10 w11 => ?_)
    exact e_zretW rfl dX4_readLevel_10
  · refine e_aload_n (pc := 11) dX4_readLevel_11 0 rfl rfl ?_
    refine e_iload_n (pc := 12) dX4_readLevel_12 1 rfl rfl ?_
    refine e_iconst (pc := 13) (v := (1 : Int32)) dX4_readLevel_13 ic_1 ?_
    refine e_iadd (pc := 14) dX4_readLevel_14 ?_
    refine e_iload_n (pc := 15) dX4_readLevel_15 2 rfl rfl ?_
    refine e_callVWI (pc := 16) (As := [.int (a1 + (1 : Int32)), .int a2]) (rest := []) kk6 Kc4 (hr_X4_readLevel (a1 + (1 : Int32)) a2 w) lk_X4_58 (Nat.le_refl _) (Nat.le_of_ble_eq_true rfl) rfl rfl (Nat.le_of_ble_eq_true rfl) dX4_readLevel_16 (fun r1 w2 => ?_)
    refine e_if_ne (pc := 19) (tgt := 24) dX4_readLevel_19 (by decide) (fun _ => ?_) (fun _ => ?_)
    · refine e_iconst (pc := 22) (v := (0 : Int32)) dX4_readLevel_22 ic_0 ?_
      exact e_zretW0 rfl (by decide) dX4_readLevel_23
    · refine e_iload_n (pc := 24) dX4_readLevel_24 1 rfl rfl ?_
      refine e_iconst (pc := 25) (v := (2 : Int32)) dX4_readLevel_25 ic_2 ?_
      refine e_icmp_ne (pc := 26) (tgt := 33) dX4_readLevel_26 (by decide) (fun _ => ?_) (fun _ => ?_)
      · refine e_iconst (pc := 29) (v := (1 : Int32)) dX4_readLevel_29 ic_1 ?_
        refine e_goto (pc := 30) (tgt := 35) dX4_readLevel_30 (by decide) ?_
        refine e_lv [0, 1, 2] rfl ?_
        exact cb_X4_readLevel_b35 X hb r_X4_readLevel hr_X4_readLevel r_X4_readOperand hr_X4_readOperand a1 a2 (1 : Int32) w2
      · refine e_bipush (pc := 33) (v := (120 : Int32)) dX4_readLevel_33 bp_120 ?_
        refine e_lv [0, 1, 2] rfl ?_
        exact cb_X4_readLevel_b35 X hb r_X4_readLevel hr_X4_readLevel r_X4_readOperand hr_X4_readOperand a1 a2 (120 : Int32) w2
set_option maxRecDepth 100000 in
set_option maxHeartbeats 4000000 in
theorem cb_X4_readOperand_b140 (X : Xt) {dd : Nat} (hb : 3 ≤ dd) (r_X4_readLevel : Int32 → Int32 → Wd → Option (Int32 × Wd)) (hr_X4_readLevel : ∀ (a1 : Int32) (a2 : Int32) (w : Wd), CF gWI X m_X4_readLevel dd [.ref (xa X 6), .int a1, .int a2] w (r_X4_readLevel a1 a2 w)) (r_X4_readOperand : Int32 → Wd → Option (Int32 × Wd)) (hr_X4_readOperand : ∀ (a1 : Int32) (w : Wd), CF gWI X m_X4_readOperand dd [.ref (xa X 6), .int a1] w (r_X4_readOperand a1 w)) (s0 : Int32) (w : Wd) : E gWI X m_X4_readOperand (dd + 1) 140 [] [.int s0, .ref (xa X 6)] w (f_X4_readOperand_b140 r_X4_readLevel r_X4_readOperand s0 w) := by
  unfold f_X4_readOperand_b140
  refine e_iconst (pc := 140) (v := (0 : Int32)) dX4_readOperand_140 ic_0 ?_
  refine e_callVWV (pc := 141) (As := [.int s0, .int (0 : Int32)]) (rest := []) kk6 Kc4 (cf_X4_write X s0 (0 : Int32) w) lk_X4_62 (by omega) (Nat.le_of_ble_eq_true rfl) rfl rfl (Nat.le_of_ble_eq_true rfl) dX4_readOperand_141 (fun w7 => ?_)
  refine e_iconst (pc := 144) (v := (1 : Int32)) dX4_readOperand_144 ic_1 ?_
  exact e_zretW0 rfl (by decide) dX4_readOperand_145
set_option maxRecDepth 100000 in
set_option maxHeartbeats 4000000 in
theorem cb_X4_readOperand_b64 (X : Xt) {dd : Nat} (hb : 3 ≤ dd) (r_X4_readLevel : Int32 → Int32 → Wd → Option (Int32 × Wd)) (hr_X4_readLevel : ∀ (a1 : Int32) (a2 : Int32) (w : Wd), CF gWI X m_X4_readLevel dd [.ref (xa X 6), .int a1, .int a2] w (r_X4_readLevel a1 a2 w)) (r_X4_readOperand : Int32 → Wd → Option (Int32 × Wd)) (hr_X4_readOperand : ∀ (a1 : Int32) (w : Wd), CF gWI X m_X4_readOperand dd [.ref (xa X 6), .int a1] w (r_X4_readOperand a1 w)) (x1 : Int32) (x2 : Int32) (w : Wd) : E gWI X m_X4_readOperand (dd + 1) 64 [(0, .ref (xa X 6)), (1, .int x1), (2, .int x2)] [] w (f_X4_readOperand_b64 r_X4_readLevel r_X4_readOperand x1 x2 w) := by
  unfold f_X4_readOperand_b64
  refine e_iload_n (pc := 64) dX4_readOperand_64 1 rfl rfl ?_
  refine e_bipush (pc := 65) (v := (6 : Int32)) dX4_readOperand_65 bp_6 ?_
  refine e_icmp_ne (pc := 67) (tgt := 72) dX4_readOperand_67 (by decide) (fun _ => ?_) (fun _ => ?_)
  · refine e_iconst (pc := 70) (v := (0 : Int32)) dX4_readOperand_70 ic_0 ?_
    exact e_zretW0 rfl (by decide) dX4_readOperand_71
  · refine e_aload_n (pc := 72) dX4_readOperand_72 0 rfl rfl ?_
    refine e_dup (pc := 73) dX4_readOperand_73 rfl ?_
    refine g_I (pc := 74) kk6 fl_X4_17 dX4_readOperand_74 ?_
    refine e_iconst (pc := 77) (v := (1 : Int32)) dX4_readOperand_77 ic_1 ?_
    refine e_iadd (pc := 78) dX4_readOperand_78 ?_
    refine p_I (pc := 79) kk6 fp_X4_17 dX4_readOperand_79 (fun w4 => ?_)
    refine e_iload_n (pc := 82) dX4_readOperand_82 2 rfl rfl ?_
    refine e_bipush (pc := 83) (v := (40 : Int32)) dX4_readOperand_83 bp_40 ?_
    refine e_icmp_ne (pc := 85) (tgt := 114) dX4_readOperand_85 (by decide) (fun _ => ?_) (fun _ => ?_)
    · refine e_aload_n (pc := 88) dX4_readOperand_88 0 rfl rfl ?_
      refine e_iconst (pc := 89) (v := (0 : Int32)) dX4_readOperand_89 ic_0 ?_
      refine e_iload_n (pc := 90) dX4_readOperand_90 1 rfl rfl ?_
      refine e_iconst (pc := 91) (v := (1 : Int32)) dX4_readOperand_91 ic_1 ?_
      refine e_iadd (pc := 92) dX4_readOperand_92 ?_
      refine e_callVWI (pc := 93) (As := [.int (0 : Int32), .int (x1 + (1 : Int32))]) (rest := []) kk6 Kc4 (hr_X4_readLevel (0 : Int32) (x1 + (1 : Int32)) w4) lk_X4_58 (Nat.le_refl _) (Nat.le_of_ble_eq_true rfl) rfl rfl (Nat.le_of_ble_eq_true rfl) dX4_readOperand_93 (fun r8 w9 => ?_)
      refine e_if_eq (pc := 96) (tgt := 112) dX4_readOperand_96 (by decide) (fun _ => ?_) (fun _ => ?_)
      · refine e_iconst (pc := 112) (v := (0 : Int32)) dX4_readOperand_112 ic_0 ?_
        exact e_zretW0 rfl (by decide) dX4_readOperand_113
      · refine e_aload_n (pc := 99) dX4_readOperand_99 0 rfl rfl ?_
        refine e_bipush (pc := 100) (v := (41 : Int32)) dX4_readOperand_100 bp_41 ?_
        refine e_callVWI (pc := 102) (As := [.int (41 : Int32)]) (rest := []) kk6 Kc4 (cf_X4_passed X (41 : Int32) w9) lk_X4_54 (by omega) (Nat.le_of_ble_eq_true rfl) rfl rfl (Nat.le_of_ble_eq_true rfl) dX4_readOperand_102 (fun r10 w11 => ?_)
        refine e_if_eq (pc := 105) (tgt := 112) dX4_readOperand_105 (by decide) (fun _ => ?_) (fun _ => ?_)
        · refine e_iconst (pc := 112) (v := (0 : Int32)) dX4_readOperand_112 ic_0 ?_
          exact e_zretW0 rfl (by decide) dX4_readOperand_113
        · refine e_iconst (pc := 108) (v := (1 : Int32)) dX4_readOperand_108 ic_1 ?_
          refine e_goto (pc := 109) (tgt := 113) dX4_readOperand_109 (by decide) ?_
          exact e_zretW0 rfl (by decide) dX4_readOperand_113
    · refine e_aload_n (pc := 114) dX4_readOperand_114 0 rfl rfl ?_
      refine e_iload_n (pc := 115) dX4_readOperand_115 1 rfl rfl ?_
      refine e_iconst (pc := 116) (v := (1 : Int32)) dX4_readOperand_116 ic_1 ?_
      refine e_iadd (pc := 117) dX4_readOperand_117 ?_
      refine e_callVWI (pc := 118) (As := [.int (x1 + (1 : Int32))]) (rest := []) kk6 Kc4 (hr_X4_readOperand (x1 + (1 : Int32)) w4) lk_X4_66 (Nat.le_refl _) (Nat.le_of_ble_eq_true rfl) rfl rfl (Nat.le_of_ble_eq_true rfl) dX4_readOperand_118 (fun r5 w6 => ?_)
      refine e_if_ne (pc := 121) (tgt := 126) dX4_readOperand_121 (by decide) (fun _ => ?_) (fun _ => ?_)
      · refine e_iconst (pc := 124) (v := (0 : Int32)) dX4_readOperand_124 ic_0 ?_
        exact e_zretW0 rfl (by decide) dX4_readOperand_125
      · refine e_aload_n (pc := 126) dX4_readOperand_126 0 rfl rfl ?_
        refine e_iload_n (pc := 127) dX4_readOperand_127 2 rfl rfl ?_
        refine e_bipush (pc := 128) (v := (33 : Int32)) dX4_readOperand_128 bp_33 ?_
        refine e_icmp_ne (pc := 130) (tgt := 138) dX4_readOperand_130 (by decide) (fun _ => ?_) (fun _ => ?_)
        · refine e_bipush (pc := 133) (v := (33 : Int32)) dX4_readOperand_133 bp_33 ?_
          refine e_goto (pc := 135) (tgt := 140) dX4_readOperand_135 (by decide) ?_
          refine e_lv [] rfl ?_
          exact cb_X4_readOperand_b140 X hb r_X4_readLevel hr_X4_readLevel r_X4_readOperand hr_X4_readOperand (33 : Int32) w6
        · refine e_bipush (pc := 138) (v := (126 : Int32)) dX4_readOperand_138 bp_126 ?_
          refine e_lv [] rfl ?_
          exact cb_X4_readOperand_b140 X hb r_X4_readLevel hr_X4_readLevel r_X4_readOperand hr_X4_readOperand (126 : Int32) w6
set_option maxRecDepth 100000 in
set_option maxHeartbeats 4000000 in
theorem ce_X4_readOperand (X : Xt) {dd : Nat} (hb : 3 ≤ dd) (r_X4_readLevel : Int32 → Int32 → Wd → Option (Int32 × Wd)) (hr_X4_readLevel : ∀ (a1 : Int32) (a2 : Int32) (w : Wd), CF gWI X m_X4_readLevel dd [.ref (xa X 6), .int a1, .int a2] w (r_X4_readLevel a1 a2 w)) (r_X4_readOperand : Int32 → Wd → Option (Int32 × Wd)) (hr_X4_readOperand : ∀ (a1 : Int32) (w : Wd), CF gWI X m_X4_readOperand dd [.ref (xa X 6), .int a1] w (r_X4_readOperand a1 w)) (a1 : Int32) (w : Wd) : E gWI X m_X4_readOperand (dd + 1) 0 [(0, .ref (xa X 6)), (1, .int a1)] [] w (f_X4_readOperand_y r_X4_readLevel r_X4_readOperand a1 w) := by
  unfold f_X4_readOperand_y
  refine e_aload_n (pc := 0) dX4_readOperand_0 0 rfl rfl ?_
  refine e_callVRI (pc := 1) (As := []) (rest := []) kk6 Kc4 (cf_X4_letter X w) lk_X4_69 (by omega) (Nat.le_of_ble_eq_true rfl) rfl rfl (Nat.le_of_ble_eq_true rfl) dX4_readOperand_1 (fun r1 => ?_)
  refine e_istore_n (pc := 4) (lv' := [(2, .int r1), (0, .ref (xa X 6)), (1, .int a1)]) dX4_readOperand_4 rfl (Nat.le_of_ble_eq_true rfl) rfl ?_
  refine e_iload_n (pc := 5) dX4_readOperand_5 0 rfl rfl ?_
  refine e_callSRI (pc := 6) (As := [.int r1]) (rest := []) (cf_X4_isDigit X r1 w) lk_X4_77 (by omega) (Nat.le_of_ble_eq_true rfl) rfl rfl (Nat.le_of_ble_eq_true rfl) dX4_readOperand_6 (fun r2 => ?_)
  refine e_if_eq (pc := 9) (tgt := 17) dX4_readOperand_9 (by decide) (fun _ => ?_) (fun _ => ?_)
  · refine e_iload_n (pc := 17) dX4_readOperand_17 0 rfl rfl ?_
    refine e_callSRI (pc := 18) (As := [.int r1]) (rest := []) (cf_X4_nameOf X r1 w) lk_X4_83 (by omega) (Nat.le_of_ble_eq_true rfl) rfl rfl (Nat.le_of_ble_eq_true rfl) dX4_readOperand_18 (fun r3 => ?_)
    refine e_if_lt (pc := 21) (tgt := 46) dX4_readOperand_21 (by decide) (fun _ => ?_) (fun _ => ?_)
    · refine e_iload_n (pc := 46) dX4_readOperand_46 0 rfl rfl ?_
      refine e_bipush (pc := 47) (v := (40 : Int32)) dX4_readOperand_47 bp_40 ?_
      refine e_icmp_eq (pc := 49) (tgt := 64) dX4_readOperand_49 (by decide) (fun _ => ?_) (fun _ => ?_)
      · refine e_lv [1, 2, 0] rfl ?_
        exact cb_X4_readOperand_b64 X hb r_X4_readLevel hr_X4_readLevel r_X4_readOperand hr_X4_readOperand a1 r1 w
      · refine e_iload_n (pc := 52) dX4_readOperand_52 0 rfl rfl ?_
        refine e_bipush (pc := 53) (v := (33 : Int32)) dX4_readOperand_53 bp_33 ?_
        refine e_icmp_eq (pc := 55) (tgt := 64) dX4_readOperand_55 (by decide) (fun _ => ?_) (fun _ => ?_)
        · refine e_lv [1, 2, 0] rfl ?_
          exact cb_X4_readOperand_b64 X hb r_X4_readLevel hr_X4_readLevel r_X4_readOperand hr_X4_readOperand a1 r1 w
        · refine e_iload_n (pc := 58) dX4_readOperand_58 0 rfl rfl ?_
          refine e_bipush (pc := 59) (v := (45 : Int32)) dX4_readOperand_59 bp_45 ?_
          refine e_icmp_ne (pc := 61) (tgt := 70) dX4_readOperand_61 (by decide) (fun _ => ?_) (fun _ => ?_)
          · refine e_lv [1, 2, 0] rfl ?_
            exact cb_X4_readOperand_b64 X hb r_X4_readLevel hr_X4_readLevel r_X4_readOperand hr_X4_readOperand a1 r1 w
          · refine e_iconst (pc := 70) (v := (0 : Int32)) dX4_readOperand_70 ic_0 ?_
            exact e_zretW0 rfl (by decide) dX4_readOperand_71
    · refine e_aload_n (pc := 24) dX4_readOperand_24 1 rfl rfl ?_
      refine e_dup (pc := 25) dX4_readOperand_25 rfl ?_
      refine g_I (pc := 26) kk6 fl_X4_17 dX4_readOperand_26 ?_
      refine e_iconst (pc := 29) (v := (1 : Int32)) dX4_readOperand_29 ic_1 ?_
      refine e_iadd (pc := 30) dX4_readOperand_30 ?_
      refine p_I (pc := 31) kk6 fp_X4_17 dX4_readOperand_31 (fun w12 => ?_)
      refine e_aload_n (pc := 34) dX4_readOperand_34 1 rfl rfl ?_
      refine e_bipush (pc := 35) (v := (36 : Int32)) dX4_readOperand_35 bp_36 ?_
      refine e_iload_n (pc := 37) dX4_readOperand_37 0 rfl rfl ?_
      refine e_callSRI (pc := 38) (As := [.int r1]) (rest := [.int (36 : Int32), .ref (xa X 6)]) (cf_X4_nameOf X r1 w12) lk_X4_83 (by omega) (Nat.le_of_ble_eq_true rfl) rfl rfl (Nat.le_of_ble_eq_true rfl) dX4_readOperand_38 (fun r13 => ?_)
      refine e_callVWV (pc := 41) (As := [.int (36 : Int32), .int r13]) (rest := []) kk6 Kc4 (cf_X4_write X (36 : Int32) r13 w12) lk_X4_62 (by omega) (Nat.le_of_ble_eq_true rfl) rfl rfl (Nat.le_of_ble_eq_true rfl) dX4_readOperand_41 (fun w14 => ?_)
      refine e_iconst (pc := 44) (v := (1 : Int32)) dX4_readOperand_44 ic_1 ?_
      exact e_zretW0 rfl (by decide) dX4_readOperand_45
  · refine e_aload_n (pc := 12) dX4_readOperand_12 1 rfl rfl ?_
    refine e_callVWI (pc := 13) (As := []) (rest := []) kk6 Kc4 (cf_X4_readNumber X w) lk_X4_80 (by omega) (Nat.le_of_ble_eq_true rfl) rfl rfl (Nat.le_of_ble_eq_true rfl) dX4_readOperand_13 (fun r15 w16 => ?_)
    exact e_zretW rfl dX4_readOperand_16
set_option maxRecDepth 100000 in
theorem cs_X4_readLevel (X : Xt) : ∀ n : Nat, (∀ (a1 : Int32) (a2 : Int32) (w : Wd), CF gWI X m_X4_readLevel (3 + n) [.ref (xa X 6), .int a1, .int a2] w (f_X4_readLevel n a1 a2 w)) ∧ (∀ (a1 : Int32) (w : Wd), CF gWI X m_X4_readOperand (3 + n) [.ref (xa X 6), .int a1] w (f_X4_readOperand n a1 w)) := by
  intro n
  induction n with
  | zero => exact ⟨fun _ _ _ => CF_none, fun _ _ => CF_none⟩
  | succ n ih =>
    obtain ⟨ih0, ih1⟩ := ih
    exact ⟨fun a1 a2 w => CF_of (by decide) (Nat.le_of_ble_eq_true rfl) (ce_X4_readLevel X (Nat.le_add_right _ _) (f_X4_readLevel n) ih0 (f_X4_readOperand n) ih1 a1 a2 w), fun a1 w => CF_of (by decide) (Nat.le_of_ble_eq_true rfl) (ce_X4_readOperand X (Nat.le_add_right _ _) (f_X4_readLevel n) ih0 (f_X4_readOperand n) ih1 a1 w)⟩
theorem cf_X4_readLevel (X : Xt) (n : Nat) (a1 : Int32) (a2 : Int32) (w : Wd) : CF gWI X m_X4_readLevel (3 + n) [.ref (xa X 6), .int a1, .int a2] w (f_X4_readLevel n a1 a2 w) := (cs_X4_readLevel X n).1 a1 a2 w
theorem cf_X4_readOperand (X : Xt) (n : Nat) (a1 : Int32) (w : Wd) : CF gWI X m_X4_readOperand (3 + n) [.ref (xa X 6), .int a1] w (f_X4_readOperand n a1 w) := (cs_X4_readLevel X n).2 a1 w
set_option maxRecDepth 100000 in
set_option maxHeartbeats 4000000 in
theorem ce_X4_readLine (X : Xt) (w : Wd) : E gWI X m_X4_readLine 84 0 [(0, .ref (xa X 6))] [] w (f_X4_readLine w) := by
  unfold f_X4_readLine
  refine e_aload_n (pc := 0) dX4_readLine_0 0 rfl rfl ?_
  refine e_iconst (pc := 1) (v := (0 : Int32)) dX4_readLine_1 ic_0 ?_
  refine e_iconst (pc := 2) (v := (0 : Int32)) dX4_readLine_2 ic_0 ?_
  refine e_callVWI (pc := 3) (As := [.int (0 : Int32), .int (0 : Int32)]) (rest := []) kk6 Kc4 (cf_X4_readLevel X rf (0 : Int32) (0 : Int32) w) lk_X4_58 (Nat.le_of_ble_eq_true rfl) (Nat.le_of_ble_eq_true rfl) rfl rfl (Nat.le_of_ble_eq_true rfl) dX4_readLine_3 (fun r1 w2 => ?_)
  refine e_if_ne (pc := 6) (tgt := 11) dX4_readLine_6 (by decide) (fun _ => ?_) (fun _ => ?_)
  · refine e_iconst (pc := 9) (v := (0 : Int32)) dX4_readLine_9 ic_0 ?_
    exact e_zretW0 rfl (by decide) dX4_readLine_10
  · refine e_aload_n (pc := 11) dX4_readLine_11 0 rfl rfl ?_
    refine e_bipush (pc := 12) (v := (63 : Int32)) dX4_readLine_12 bp_63 ?_
    refine e_callVWI (pc := 14) (As := [.int (63 : Int32)]) (rest := []) kk6 Kc4 (cf_X4_passed X (63 : Int32) w2) lk_X4_54 (Nat.le_of_ble_eq_true rfl) (Nat.le_of_ble_eq_true rfl) rfl rfl (Nat.le_of_ble_eq_true rfl) dX4_readLine_14 (fun r3 w4 => ?_)
    refine e_if_eq (pc := 17) (tgt := 79) dX4_readLine_17 (by decide) (fun _ => ?_) (fun _ => ?_)
    · refine e_aload_n (pc := 79) dX4_readLine_79 0 rfl rfl ?_
      refine e_bipush (pc := 80) (v := (59 : Int32)) dX4_readLine_80 bp_59 ?_
      refine e_iconst (pc := 82) (v := (0 : Int32)) dX4_readLine_82 ic_0 ?_
      refine e_callVWV (pc := 83) (As := [.int (59 : Int32), .int (0 : Int32)]) (rest := []) kk6 Kc4 (cf_X4_write X (59 : Int32) (0 : Int32) w4) lk_X4_62 (Nat.le_of_ble_eq_true rfl) (Nat.le_of_ble_eq_true rfl) rfl rfl (Nat.le_of_ble_eq_true rfl) dX4_readLine_83 (fun w5 => ?_)
      refine e_iconst (pc := 86) (v := (1 : Int32)) dX4_readLine_86 ic_1 ?_
      exact e_zretW0 rfl (by decide) dX4_readLine_87
    · refine e_aload_n (pc := 20) dX4_readLine_20 0 rfl rfl ?_
      refine g_I (pc := 21) kk6 fl_X4_23 dX4_readLine_21 ?_
      refine e_nameI (fun y6 => ?_)
      refine e_istore_n (pc := 24) (lv' := [(1, .int y6), (0, .ref (xa X 6))]) dX4_readLine_24 rfl (Nat.le_of_ble_eq_true rfl) rfl ?_
      refine e_aload_n (pc := 25) dX4_readLine_25 1 rfl rfl ?_
      refine e_bipush (pc := 26) (v := (63 : Int32)) dX4_readLine_26 bp_63 ?_
      refine e_iconst (pc := 28) (v := (0 : Int32)) dX4_readLine_28 ic_0 ?_
      refine e_callVWV (pc := 29) (As := [.int (63 : Int32), .int (0 : Int32)]) (rest := []) kk6 Kc4 (cf_X4_write X (63 : Int32) (0 : Int32) w4) lk_X4_62 (Nat.le_of_ble_eq_true rfl) (Nat.le_of_ble_eq_true rfl) rfl rfl (Nat.le_of_ble_eq_true rfl) dX4_readLine_29 (fun w7 => ?_)
      refine e_aload_n (pc := 32) dX4_readLine_32 1 rfl rfl ?_
      refine e_iconst (pc := 33) (v := (0 : Int32)) dX4_readLine_33 ic_0 ?_
      refine e_iconst (pc := 34) (v := (0 : Int32)) dX4_readLine_34 ic_0 ?_
      refine e_callVWI (pc := 35) (As := [.int (0 : Int32), .int (0 : Int32)]) (rest := []) kk6 Kc4 (cf_X4_readLevel X rf (0 : Int32) (0 : Int32) w7) lk_X4_58 (Nat.le_of_ble_eq_true rfl) (Nat.le_of_ble_eq_true rfl) rfl rfl (Nat.le_of_ble_eq_true rfl) dX4_readLine_35 (fun r8 w9 => ?_)
      refine e_if_ne (pc := 38) (tgt := 43) dX4_readLine_38 (by decide) (fun _ => ?_) (fun _ => ?_)
      · refine e_iconst (pc := 41) (v := (0 : Int32)) dX4_readLine_41 ic_0 ?_
        exact e_zretW0 rfl (by decide) dX4_readLine_42
      · refine e_aload_n (pc := 43) dX4_readLine_43 1 rfl rfl ?_
        refine e_bipush (pc := 44) (v := (59 : Int32)) dX4_readLine_44 bp_59 ?_
        refine e_iconst (pc := 46) (v := (0 : Int32)) dX4_readLine_46 ic_0 ?_
        refine e_callVWV (pc := 47) (As := [.int (59 : Int32), .int (0 : Int32)]) (rest := []) kk6 Kc4 (cf_X4_write X (59 : Int32) (0 : Int32) w9) lk_X4_62 (Nat.le_of_ble_eq_true rfl) (Nat.le_of_ble_eq_true rfl) rfl rfl (Nat.le_of_ble_eq_true rfl) dX4_readLine_47 (fun w10 => ?_)
        refine e_iload_n (pc := 50) dX4_readLine_50 0 rfl rfl ?_
        refine e_aload_n (pc := 51) dX4_readLine_51 1 rfl rfl ?_
        refine g_R (pc := 52) (cl' := 8) kk6 fl_X4_20 rfl dX4_readLine_52 ?_
        refine e_alenI (pc := 55) (v := (128 : Int32)) kk8 al_128 dX4_readLine_55 ?_
        refine e_icmp_ge (pc := 56) (tgt := 76) dX4_readLine_56 (by decide) (fun _ => ?_) (fun _ => ?_)
        · refine e_goto (pc := 76) (tgt := 86) dX4_readLine_76 (by decide) ?_
          refine e_iconst (pc := 86) (v := (1 : Int32)) dX4_readLine_86 ic_1 ?_
          exact e_zretW0 rfl (by decide) dX4_readLine_87
        · refine e_aload_n (pc := 59) dX4_readLine_59 1 rfl rfl ?_
          refine g_R (pc := 60) (cl' := 8) kk6 fl_X4_20 rfl dX4_readLine_60 ?_
          refine e_iload_n (pc := 63) dX4_readLine_63 0 rfl rfl ?_
          refine e_bipush (pc := 64) (v := (63 : Int32)) dX4_readLine_64 bp_63 ?_
          refine e_sipush (pc := 66) (v := (256 : Int32)) dX4_readLine_66 sp_256 ?_
          refine e_aload_n (pc := 69) dX4_readLine_69 1 rfl rfl ?_
          refine g_I (pc := 70) kk6 fl_X4_23 dX4_readLine_70 ?_
          refine e_imul (pc := 73) dX4_readLine_73 ?_
          refine e_iadd (pc := 74) dX4_readLine_74 ?_
          refine e_iast (pc := 75) kk8 dX4_readLine_75 (fun w11 => ?_)
          refine e_goto (pc := 76) (tgt := 86) dX4_readLine_76 (by decide) ?_
          refine e_iconst (pc := 86) (v := (1 : Int32)) dX4_readLine_86 ic_1 ?_
          exact e_zretW0 rfl (by decide) dX4_readLine_87
theorem cf_X4_readLine (X : Xt) (w : Wd) : CF gWI X m_X4_readLine 84 [.ref (xa X 6)] w (f_X4_readLine w) := CF_of (by decide) (Nat.le_of_ble_eq_true rfl) (ce_X4_readLine X w)
set_option maxRecDepth 100000 in
set_option maxHeartbeats 4000000 in
theorem cb_X4_readLines_b2_y (X : Xt) (k2 : Int32 → Wd → Option (Int32 × Wd)) (hk2 : ∀ (x1 : Int32)  (w : Wd), E gWI X m_X4_readLines 85 2 [(0, .ref (xa X 6)), (1, .int x1)] [] w (k2 x1 w)) (x1 : Int32) (w : Wd) : E gWI X m_X4_readLines 85 2 [(0, .ref (xa X 6)), (1, .int x1)] [] w (f_X4_readLines_b2_y k2 x1 w) := by
  unfold f_X4_readLines_b2_y
  refine e_iload_n (pc := 2) dX4_readLines_2 1 rfl rfl ?_
  refine e_bipush (pc := 3) (v := (120 : Int32)) dX4_readLines_3 bp_120 ?_
  refine e_icmp_gt (pc := 5) (tgt := 47) dX4_readLines_5 (by decide) (fun _ => ?_) (fun _ => ?_)
  · refine e_iconst (pc := 47) (v := (0 : Int32)) dX4_readLines_47 ic_0 ?_
    exact e_zretW0 rfl (by decide) dX4_readLines_48
  · refine e_aload_n (pc := 8) dX4_readLines_8 0 rfl rfl ?_
    refine e_callVWI (pc := 9) (As := []) (rest := []) kk6 Kc4 (cf_X4_readLine X w) lk_X4_51 (Nat.le_of_ble_eq_true rfl) (Nat.le_of_ble_eq_true rfl) rfl rfl (Nat.le_of_ble_eq_true rfl) dX4_readLines_9 (fun r1 w2 => ?_)
    refine e_if_ne (pc := 12) (tgt := 17) dX4_readLines_12 (by decide) (fun _ => ?_) (fun _ => ?_)
    · refine e_iconst (pc := 15) (v := (0 : Int32)) dX4_readLines_15 ic_0 ?_
      exact e_zretW0 rfl (by decide) dX4_readLines_16
    · refine e_aload_n (pc := 17) dX4_readLines_17 0 rfl rfl ?_
      refine g_I (pc := 18) kk6 fl_X4_17 dX4_readLines_18 ?_
      refine e_aload_n (pc := 21) dX4_readLines_21 0 rfl rfl ?_
      refine g_I (pc := 22) kk6 fl_X4_13 dX4_readLines_22 ?_
      refine e_icmp_ne (pc := 25) (tgt := 30) dX4_readLines_25 (by decide) (fun _ => ?_) (fun _ => ?_)
      · refine e_iconst (pc := 28) (v := (1 : Int32)) dX4_readLines_28 ic_1 ?_
        exact e_zretW0 rfl (by decide) dX4_readLines_29
      · refine e_aload_n (pc := 30) dX4_readLines_30 0 rfl rfl ?_
        refine e_bipush (pc := 31) (v := (59 : Int32)) dX4_readLines_31 bp_59 ?_
        refine e_callVWI (pc := 33) (As := [.int (59 : Int32)]) (rest := []) kk6 Kc4 (cf_X4_passed X (59 : Int32) w2) lk_X4_54 (Nat.le_of_ble_eq_true rfl) (Nat.le_of_ble_eq_true rfl) rfl rfl (Nat.le_of_ble_eq_true rfl) dX4_readLines_33 (fun r3 w4 => ?_)
        refine e_if_ne (pc := 36) (tgt := 41) dX4_readLines_36 (by decide) (fun _ => ?_) (fun _ => ?_)
        · refine e_iconst (pc := 39) (v := (0 : Int32)) dX4_readLines_39 ic_0 ?_
          exact e_zretW0 rfl (by decide) dX4_readLines_40
        · refine e_iinc (pc := 41) (lv' := [(1, .int (x1 + (1 : Int32))), (0, .ref (xa X 6))]) dX4_readLines_41 1 rfl (ii_1 _) (Nat.le_of_ble_eq_true rfl) rfl ?_
          refine e_goto (pc := 44) (tgt := 2) dX4_readLines_44 (by decide) ?_
          refine e_lv [1, 0] rfl ?_
          exact hk2 (x1 + (1 : Int32)) w4
theorem cb_X4_readLines_b2 (X : Xt) : ∀ (n : Nat) (x1 : Int32) (w : Wd), E gWI X m_X4_readLines 85 2 [(0, .ref (xa X 6)), (1, .int x1)] [] w (f_X4_readLines_b2 n x1 w) := by
  intro n
  induction n with
  | zero =>
    intro x1 w
    exact E_none
  | succ n ih =>
    intro x1 w
    exact cb_X4_readLines_b2_y X _ ih x1 w
set_option maxRecDepth 100000 in
set_option maxHeartbeats 4000000 in
theorem ce_X4_readLines (X : Xt) (w : Wd) : E gWI X m_X4_readLines 85 0 [(0, .ref (xa X 6))] [] w (f_X4_readLines w) := by
  unfold f_X4_readLines
  refine e_iconst (pc := 0) (v := (0 : Int32)) dX4_readLines_0 ic_0 ?_
  refine e_istore_n (pc := 1) (lv' := [(1, .int (0 : Int32)), (0, .ref (xa X 6))]) dX4_readLines_1 rfl (Nat.le_of_ble_eq_true rfl) rfl ?_
  refine e_lv [1, 0] rfl ?_
  exact cb_X4_readLines_b2 X fu (0 : Int32) w
theorem cf_X4_readLines (X : Xt) (w : Wd) : CF gWI X m_X4_readLines 85 [.ref (xa X 6)] w (f_X4_readLines w) := CF_of (by decide) (Nat.le_of_ble_eq_true rfl) (ce_X4_readLines X w)
set_option maxRecDepth 100000 in
set_option maxHeartbeats 4000000 in
theorem ce_X4_takeTape (X : Xt) (w : Wd) : E gWI X m_X4_takeTape 86 0 [(0, .ref (xa X 6))] [] w (f_X4_takeTape w) := by
  unfold f_X4_takeTape
  refine e_aload_n (pc := 0) dX4_takeTape_0 0 rfl rfl ?_
  refine e_iconst (pc := 1) (v := (0 : Int32)) dX4_takeTape_1 ic_0 ?_
  refine p_I (pc := 2) kk6 fp_X4_17 dX4_takeTape_2 (fun w1 => ?_)
  refine e_aload_n (pc := 5) dX4_takeTape_5 0 rfl rfl ?_
  refine e_iconst (pc := 6) (v := (0 : Int32)) dX4_takeTape_6 ic_0 ?_
  refine p_I (pc := 7) kk6 fp_X4_23 dX4_takeTape_7 (fun w2 => ?_)
  refine e_aload_n (pc := 10) dX4_takeTape_10 0 rfl rfl ?_
  refine e_callVWI (pc := 11) (As := []) (rest := []) kk6 Kc4 (cf_X4_readLines X w2) lk_X4_41 (Nat.le_of_ble_eq_true rfl) (Nat.le_of_ble_eq_true rfl) rfl rfl (Nat.le_of_ble_eq_true rfl) dX4_takeTape_11 (fun r3 w4 => ?_)
  refine e_istore_n (pc := 14) (lv' := [(1, .int r3), (0, .ref (xa X 6))]) dX4_takeTape_14 rfl (Nat.le_of_ble_eq_true rfl) rfl ?_
  refine e_aload_n (pc := 15) dX4_takeTape_15 1 rfl rfl ?_
  refine e_iconst (pc := 16) (v := (0 : Int32)) dX4_takeTape_16 ic_0 ?_
  refine p_I (pc := 17) kk6 fp_X4_13 dX4_takeTape_17 (fun w5 => ?_)
  refine e_iload_n (pc := 20) dX4_takeTape_20 0 rfl rfl ?_
  refine e_if_ne (pc := 21) (tgt := 29) dX4_takeTape_21 (by decide) (fun _ => ?_) (fun _ => ?_)
  · refine e_aload_n (pc := 24) dX4_takeTape_24 1 rfl rfl ?_
    refine g_I (pc := 25) kk6 fl_X4_17 dX4_takeTape_25 ?_
    exact e_iretW rfl dX4_takeTape_28
  · refine e_aload_n (pc := 29) dX4_takeTape_29 1 rfl rfl ?_
    refine g_R (pc := 30) (cl' := 8) kk6 fl_X4_20 rfl dX4_takeTape_30 ?_
    refine e_iconst (pc := 33) (v := (0 : Int32)) dX4_takeTape_33 ic_0 ?_
    refine e_aload_n (pc := 34) dX4_takeTape_34 1 rfl rfl ?_
    refine g_R (pc := 35) (cl' := 9) kk6 fl_X4_26 rfl dX4_takeTape_35 ?_
    refine e_iconst (pc := 38) (v := (0 : Int32)) dX4_takeTape_38 ic_0 ?_
    refine e_aload_n (pc := 39) dX4_takeTape_39 1 rfl rfl ?_
    refine g_I (pc := 40) kk6 fl_X4_23 dX4_takeTape_40 ?_
    refine e_cyI (pc := 43) kk8 kk9 lcp_X4_45 (Nat.le_of_ble_eq_true rfl) (Nat.le_of_ble_eq_true rfl) dX4_takeTape_43 (fun w6 => ?_)
    refine e_aload_n (pc := 46) dX4_takeTape_46 1 rfl rfl ?_
    refine e_aload_n (pc := 47) dX4_takeTape_47 1 rfl rfl ?_
    refine g_I (pc := 48) kk6 fl_X4_23 dX4_takeTape_48 ?_
    refine p_I (pc := 51) kk6 fp_X4_29 dX4_takeTape_51 (fun w7 => ?_)
    refine e_iconst (pc := 54) (v := (-1 : Int32)) dX4_takeTape_54 ic_m1 ?_
    exact e_iretW rfl dX4_takeTape_55
theorem cf_X4_takeTape (X : Xt) (w : Wd) : CF gWI X m_X4_takeTape 86 [.ref (xa X 6)] w (f_X4_takeTape w) := CF_of (by decide) (Nat.le_of_ble_eq_true rfl) (ce_X4_takeTape X w)
set_option maxRecDepth 100000 in
set_option maxHeartbeats 4000000 in
theorem ce_X4_pop (X : Xt) (w : Wd) : E gWI X m_X4_pop 1 0 [(0, .ref (xa X 6))] [] w (f_X4_pop w) := by
  unfold f_X4_pop
  refine e_aload_n (pc := 0) dX4_pop_0 0 rfl rfl ?_
  refine g_I (pc := 1) kk6 fl_X4_38 dX4_pop_1 ?_
  refine e_if_ne (pc := 4) (tgt := 9) dX4_pop_4 (by decide) (fun _ => ?_) (fun _ => ?_)
  · refine e_iconst (pc := 7) (v := (0 : Int32)) dX4_pop_7 ic_0 ?_
    exact e_iretW rfl dX4_pop_8
  · refine e_aload_n (pc := 9) dX4_pop_9 0 rfl rfl ?_
    refine e_dup (pc := 10) dX4_pop_10 rfl ?_
    refine g_I (pc := 11) kk6 fl_X4_38 dX4_pop_11 ?_
    refine e_iconst (pc := 14) (v := (1 : Int32)) dX4_pop_14 ic_1 ?_
    refine e_isub (pc := 15) dX4_pop_15 ?_
    refine p_I (pc := 16) kk6 fp_X4_38 dX4_pop_16 (fun w1 => ?_)
    refine e_aload_n (pc := 19) dX4_pop_19 0 rfl rfl ?_
    refine g_R (pc := 20) (cl' := 11) kk6 fl_X4_35 rfl dX4_pop_20 ?_
    refine e_aload_n (pc := 23) dX4_pop_23 0 rfl rfl ?_
    refine g_I (pc := 24) kk6 fl_X4_38 dX4_pop_24 ?_
    refine e_iald (pc := 27) kk11 dX4_pop_27 (fun v2 => ?_)
    exact e_iretW rfl dX4_pop_28
theorem cf_X4_pop (X : Xt) (w : Wd) : CF gWI X m_X4_pop 1 [.ref (xa X 6)] w (f_X4_pop w) := CF_of (by decide) (Nat.le_of_ble_eq_true rfl) (ce_X4_pop X w)
set_option maxRecDepth 100000 in
set_option maxHeartbeats 4000000 in
theorem ce_X4_push (X : Xt) (a1 : Int32) (w : Wd) : E gWV X m_X4_push 1 0 [(0, .ref (xa X 6)), (1, .int a1)] [] w (f_X4_push a1 w) := by
  unfold f_X4_push
  refine e_aload_n (pc := 0) dX4_push_0 0 rfl rfl ?_
  refine g_I (pc := 1) kk6 fl_X4_38 dX4_push_1 ?_
  refine e_aload_n (pc := 4) dX4_push_4 0 rfl rfl ?_
  refine g_R (pc := 5) (cl' := 11) kk6 fl_X4_35 rfl dX4_push_5 ?_
  refine e_alenI (pc := 8) (v := (64 : Int32)) kk11 al_64 dX4_push_8 ?_
  refine e_icmp_ge (pc := 9) (tgt := 32) dX4_push_9 (by decide) (fun _ => ?_) (fun _ => ?_)
  · exact e_vret rfl dX4_push_32
  · refine e_aload_n (pc := 12) dX4_push_12 0 rfl rfl ?_
    refine g_R (pc := 13) (cl' := 11) kk6 fl_X4_35 rfl dX4_push_13 ?_
    refine e_aload_n (pc := 16) dX4_push_16 0 rfl rfl ?_
    refine g_I (pc := 17) kk6 fl_X4_38 dX4_push_17 ?_
    refine e_iload_n (pc := 20) dX4_push_20 1 rfl rfl ?_
    refine e_iast (pc := 21) kk11 dX4_push_21 (fun w1 => ?_)
    refine e_aload_n (pc := 22) dX4_push_22 0 rfl rfl ?_
    refine e_dup (pc := 23) dX4_push_23 rfl ?_
    refine g_I (pc := 24) kk6 fl_X4_38 dX4_push_24 ?_
    refine e_iconst (pc := 27) (v := (1 : Int32)) dX4_push_27 ic_1 ?_
    refine e_iadd (pc := 28) dX4_push_28 ?_
    refine p_I (pc := 29) kk6 fp_X4_38 dX4_push_29 (fun w2 => ?_)
    exact e_vret rfl dX4_push_32
theorem cf_X4_push (X : Xt) (a1 : Int32) (w : Wd) : CF gWV X m_X4_push 1 [.ref (xa X 6), .int a1] w (f_X4_push a1 w) := CF_of (by decide) (Nat.le_of_ble_eq_true rfl) (ce_X4_push X a1 w)
