/-! NUMBERS: bags, lookers, what mend tells, undo and redo -/
def slt (q r : Nat) : Nat := if q ≤ 4 then 5 * r + q else if q ≤ 6 then 15 + 2 * r + q else 25 + q
def mc (q : Nat) : Nat := if q < 4 then 55 else if q = 4 then 56 else if q = 5 then 57 else if q = 6 then 58 else 54
def mi (q r : Nat) : Nat := if q < 4 then 4 * r + q else if q ≤ 6 then r else q - 1
def okq (q r : Nat) : Prop := q ≤ 11 ∧ (q ≤ 4 → r < 4) ∧ (5 ≤ q → q ≤ 6 → r < 6) ∧ (7 ≤ q → r = 0)
def qlo (q : Nat) : Int := if q = 9 then 1 else 0
def qhi (q : Nat) : Int := if q ≤ 3 then 9 else if q = 4 then 99 else if q = 5 then 12 else if q = 6 then 99 else if q ≤ 9 then 9 else if q = 10 then 999 else 12
abbrev inr (q : Nat) (x : Int32) : Prop := qlo q ≤ x.toInt ∧ x.toInt ≤ qhi q
theorem slt_lt {q r : Nat} (h : okq q r) : slt q r < 37 := by
  obtain ⟨h1, h2, h3, h4⟩ := h
  unfold slt
  repeat' split
  all_goals omega
theorem slt_inj {q r q' r' : Nat} (h : okq q r) (h' : okq q' r') (e : slt q r = slt q' r') : q = q' ∧ r = r' := by
  obtain ⟨h1, h2, h3, h4⟩ := h
  obtain ⟨g1, g2, g3, g4⟩ := h'
  unfold slt at e
  repeat' split at e
  all_goals omega
theorem mi_inj {q r q' r' : Nat} (h : okq q r) (h' : okq q' r') (e1 : mc q = mc q') (e2 : mi q r = mi q' r') : q = q' ∧ r = r' := by
  obtain ⟨h1, h2, h3, h4⟩ := h
  obtain ⟨g1, g2, g3, g4⟩ := h'
  unfold mc at e1
  unfold mi at e2
  repeat' split at e1
  all_goals (repeat' split at e2)
  all_goals omega
theorem mc_rng (q : Nat) : mc q = 54 ∨ mc q = 55 ∨ mc q = 56 ∨ mc q = 57 ∨ mc q = 58 := by
  unfold mc
  repeat' split
  all_goals omega
theorem mi_54 {q r : Nat} (h : okq q r) (e : mc q = 54) : 6 ≤ mi q r ∧ mi q r ≤ 10 := by
  obtain ⟨h1, h2, h3, h4⟩ := h
  unfold mc at e
  unfold mi
  repeat' split at e
  all_goals (repeat' split)
  all_goals omega
/-- which pairs of arguments name a number -/
def vld (a1 a2 : Int32) (L : Nat) : Prop := ((0 ≤ a2.toInt ∧ a2.toInt ≤ 4) ∧ inb a1 4) ∨ ((5 ≤ a2.toInt ∧ a2.toInt ≤ 6) ∧ inb a1 L) ∨ ((7 ≤ a2.toInt ∧ a2.toInt ≤ 11) ∧ a1.toInt = 0)
theorem vld_dec (a1 a2 : Int32) (L : Nat) : vld a1 a2 L ∨ ¬ vld a1 a2 L := Classical.em _
theorem vld_ok {a1 a2 : Int32} {L : Nat} (h : vld a1 a2 L) (h6 : L ≤ 6) : ∃ q r, a2 = nI q ∧ a1 = nI r ∧ okq q r ∧ (5 ≤ q → q ≤ 6 → r < L) := by
  have h12 : inb a2 12 := by
    unfold vld at h
    simp only [fa_lt, fa_le, fa_eq, inb, ti_m14, ti_m13, ti_m12, ti_m11, ti_m10, ti_m9, ti_m8, ti_m7, ti_m6, ti_m5, ti_m4, ti_m3, ti_m2, ti_m1, ti_0, ti_1, ti_2, ti_3, ti_4, ti_5, ti_6, ti_7, ti_8, ti_9, ti_10, ti_11, ti_12, ti_13, ti_14, ti_15, ti_16, ti_17, ti_18, ti_19, ti_20, ti_21, ti_22, ti_23, ti_24, ti_25, ti_26, ti_27, ti_28, ti_29, ti_30, ti_31, ti_32, ti_33, ti_34, ti_35, ti_36, ti_37, ti_38, ti_39, ti_40, ti_41, ti_42, ti_43, ti_44, ti_45, ti_46, ti_47, ti_48, ti_49, ti_50, ti_51, ti_52, ti_53, ti_54, ti_55, ti_56, ti_57, ti_58, ti_59, ti_60, ti_61, ti_62, ti_63, ti_64, ti_99, ti_100, ti_120, ti_122, ti_124, ti_128, ti_130, ti_255, ti_256, ti_260, ti_360, ti_999, ti_1000, ti_9999, ti_10000] at *
    omega
  obtain ⟨q, hq, e⟩ := of_inb h12
  have tq := nI_toInt (n := q) (by omega)
  unfold vld at h
  rw [e, tq] at h
  rcases h with ⟨c, h⟩ | ⟨c, h⟩ | ⟨c, h⟩
  · obtain ⟨r, hr, e2⟩ := of_inb h
    exact ⟨q, r, e, e2, ⟨by omega, fun _ => hr, by omega, by omega⟩, by omega⟩
  · obtain ⟨r, hr, e2⟩ := of_inb h
    exact ⟨q, r, e, e2, ⟨by omega, by omega, by omega, by omega⟩, fun _ _ => hr⟩
  · refine ⟨q, 0, e, ?_, ⟨by omega, by omega, by omega, fun _ => rfl⟩, by omega⟩
    apply Int32.toInt_inj.mp
    rw [h]
    rfl
theorem X_slot_ok {w : Wd} {L q r : Nat} (hL : gi w 1 1 = nI L) (h6 : L ≤ 6) (ho : okq q r) (hr : 5 ≤ q → q ≤ 6 → r < L) : f_X6_slotOf (nI r) (nI q) w = some (nI (slt q r)) := by
  obtain ⟨h1, h2, h3, h4⟩ := ho
  have tq := nI_toInt (n := q) (by omega)
  unfold f_X6_slotOf
  rw [X_isLooker hL h6, X_isBag, bR_s, bR_s, ite_b2i, ite_b2i]
  by_cases c1 : q ≤ 4
  · have tr := nI_toInt (n := r) (by have := h2 c1; omega)
    have := h2 c1
    rw [if_neg (by simp only [fa_lt, fa_le, fa_eq, inb, ti_m14, ti_m13, ti_m12, ti_m11, ti_m10, ti_m9, ti_m8, ti_m7, ti_m6, ti_m5, ti_m4, ti_m3, ti_m2, ti_m1, ti_0, ti_1, ti_2, ti_3, ti_4, ti_5, ti_6, ti_7, ti_8, ti_9, ti_10, ti_11, ti_12, ti_13, ti_14, ti_15, ti_16, ti_17, ti_18, ti_19, ti_20, ti_21, ti_22, ti_23, ti_24, ti_25, ti_26, ti_27, ti_28, ti_29, ti_30, ti_31, ti_32, ti_33, ti_34, ti_35, ti_36, ti_37, ti_38, ti_39, ti_40, ti_41, ti_42, ti_43, ti_44, ti_45, ti_46, ti_47, ti_48, ti_49, ti_50, ti_51, ti_52, ti_53, ti_54, ti_55, ti_56, ti_57, ti_58, ti_59, ti_60, ti_61, ti_62, ti_63, ti_64, ti_99, ti_100, ti_120, ti_122, ti_124, ti_128, ti_130, ti_255, ti_256, ti_260, ti_360, ti_999, ti_1000, ti_9999, ti_10000]; omega), if_pos (by simp only [fa_lt, fa_le, fa_eq, inb, ti_m14, ti_m13, ti_m12, ti_m11, ti_m10, ti_m9, ti_m8, ti_m7, ti_m6, ti_m5, ti_m4, ti_m3, ti_m2, ti_m1, ti_0, ti_1, ti_2, ti_3, ti_4, ti_5, ti_6, ti_7, ti_8, ti_9, ti_10, ti_11, ti_12, ti_13, ti_14, ti_15, ti_16, ti_17, ti_18, ti_19, ti_20, ti_21, ti_22, ti_23, ti_24, ti_25, ti_26, ti_27, ti_28, ti_29, ti_30, ti_31, ti_32, ti_33, ti_34, ti_35, ti_36, ti_37, ti_38, ti_39, ti_40, ti_41, ti_42, ti_43, ti_44, ti_45, ti_46, ti_47, ti_48, ti_49, ti_50, ti_51, ti_52, ti_53, ti_54, ti_55, ti_56, ti_57, ti_58, ti_59, ti_60, ti_61, ti_62, ti_63, ti_64, ti_99, ti_100, ti_120, ti_122, ti_124, ti_128, ti_130, ti_255, ti_256, ti_260, ti_360, ti_999, ti_1000, ti_9999, ti_10000]; omega), if_neg (by simp only [fa_lt, fa_le, fa_eq, inb, ti_m14, ti_m13, ti_m12, ti_m11, ti_m10, ti_m9, ti_m8, ti_m7, ti_m6, ti_m5, ti_m4, ti_m3, ti_m2, ti_m1, ti_0, ti_1, ti_2, ti_3, ti_4, ti_5, ti_6, ti_7, ti_8, ti_9, ti_10, ti_11, ti_12, ti_13, ti_14, ti_15, ti_16, ti_17, ti_18, ti_19, ti_20, ti_21, ti_22, ti_23, ti_24, ti_25, ti_26, ti_27, ti_28, ti_29, ti_30, ti_31, ti_32, ti_33, ti_34, ti_35, ti_36, ti_37, ti_38, ti_39, ti_40, ti_41, ti_42, ti_43, ti_44, ti_45, ti_46, ti_47, ti_48, ti_49, ti_50, ti_51, ti_52, ti_53, ti_54, ti_55, ti_56, ti_57, ti_58, ti_59, ti_60, ti_61, ti_62, ti_63, ti_64, ti_99, ti_100, ti_120, ti_122, ti_124, ti_128, ti_130, ti_255, ti_256, ti_260, ti_360, ti_999, ti_1000, ti_9999, ti_10000]; omega), if_pos (by simp only [fa_lt, fa_le, fa_eq, inb, ti_m14, ti_m13, ti_m12, ti_m11, ti_m10, ti_m9, ti_m8, ti_m7, ti_m6, ti_m5, ti_m4, ti_m3, ti_m2, ti_m1, ti_0, ti_1, ti_2, ti_3, ti_4, ti_5, ti_6, ti_7, ti_8, ti_9, ti_10, ti_11, ti_12, ti_13, ti_14, ti_15, ti_16, ti_17, ti_18, ti_19, ti_20, ti_21, ti_22, ti_23, ti_24, ti_25, ti_26, ti_27, ti_28, ti_29, ti_30, ti_31, ti_32, ti_33, ti_34, ti_35, ti_36, ti_37, ti_38, ti_39, ti_40, ti_41, ti_42, ti_43, ti_44, ti_45, ti_46, ti_47, ti_48, ti_49, ti_50, ti_51, ti_52, ti_53, ti_54, ti_55, ti_56, ti_57, ti_58, ti_59, ti_60, ti_61, ti_62, ti_63, ti_64, ti_99, ti_100, ti_120, ti_122, ti_124, ti_128, ti_130, ti_255, ti_256, ti_260, ti_360, ti_999, ti_1000, ti_9999, ti_10000]; omega)]
    rw [show (5 : Int32) = nI 5 from rfl, pk_mul, nI_add]
    unfold slt
    rw [if_pos c1, Nat.mul_comm]
  · by_cases c2 : q ≤ 6
    · have := hr (by omega) c2
      have tr := nI_toInt (n := r) (by omega)
      rw [if_neg (by simp only [fa_lt, fa_le, fa_eq, inb, ti_m14, ti_m13, ti_m12, ti_m11, ti_m10, ti_m9, ti_m8, ti_m7, ti_m6, ti_m5, ti_m4, ti_m3, ti_m2, ti_m1, ti_0, ti_1, ti_2, ti_3, ti_4, ti_5, ti_6, ti_7, ti_8, ti_9, ti_10, ti_11, ti_12, ti_13, ti_14, ti_15, ti_16, ti_17, ti_18, ti_19, ti_20, ti_21, ti_22, ti_23, ti_24, ti_25, ti_26, ti_27, ti_28, ti_29, ti_30, ti_31, ti_32, ti_33, ti_34, ti_35, ti_36, ti_37, ti_38, ti_39, ti_40, ti_41, ti_42, ti_43, ti_44, ti_45, ti_46, ti_47, ti_48, ti_49, ti_50, ti_51, ti_52, ti_53, ti_54, ti_55, ti_56, ti_57, ti_58, ti_59, ti_60, ti_61, ti_62, ti_63, ti_64, ti_99, ti_100, ti_120, ti_122, ti_124, ti_128, ti_130, ti_255, ti_256, ti_260, ti_360, ti_999, ti_1000, ti_9999, ti_10000]; omega), if_pos (by simp only [fa_lt, fa_le, fa_eq, inb, ti_m14, ti_m13, ti_m12, ti_m11, ti_m10, ti_m9, ti_m8, ti_m7, ti_m6, ti_m5, ti_m4, ti_m3, ti_m2, ti_m1, ti_0, ti_1, ti_2, ti_3, ti_4, ti_5, ti_6, ti_7, ti_8, ti_9, ti_10, ti_11, ti_12, ti_13, ti_14, ti_15, ti_16, ti_17, ti_18, ti_19, ti_20, ti_21, ti_22, ti_23, ti_24, ti_25, ti_26, ti_27, ti_28, ti_29, ti_30, ti_31, ti_32, ti_33, ti_34, ti_35, ti_36, ti_37, ti_38, ti_39, ti_40, ti_41, ti_42, ti_43, ti_44, ti_45, ti_46, ti_47, ti_48, ti_49, ti_50, ti_51, ti_52, ti_53, ti_54, ti_55, ti_56, ti_57, ti_58, ti_59, ti_60, ti_61, ti_62, ti_63, ti_64, ti_99, ti_100, ti_120, ti_122, ti_124, ti_128, ti_130, ti_255, ti_256, ti_260, ti_360, ti_999, ti_1000, ti_9999, ti_10000]; omega), if_pos (by simp only [fa_lt, fa_le, fa_eq, inb, ti_m14, ti_m13, ti_m12, ti_m11, ti_m10, ti_m9, ti_m8, ti_m7, ti_m6, ti_m5, ti_m4, ti_m3, ti_m2, ti_m1, ti_0, ti_1, ti_2, ti_3, ti_4, ti_5, ti_6, ti_7, ti_8, ti_9, ti_10, ti_11, ti_12, ti_13, ti_14, ti_15, ti_16, ti_17, ti_18, ti_19, ti_20, ti_21, ti_22, ti_23, ti_24, ti_25, ti_26, ti_27, ti_28, ti_29, ti_30, ti_31, ti_32, ti_33, ti_34, ti_35, ti_36, ti_37, ti_38, ti_39, ti_40, ti_41, ti_42, ti_43, ti_44, ti_45, ti_46, ti_47, ti_48, ti_49, ti_50, ti_51, ti_52, ti_53, ti_54, ti_55, ti_56, ti_57, ti_58, ti_59, ti_60, ti_61, ti_62, ti_63, ti_64, ti_99, ti_100, ti_120, ti_122, ti_124, ti_128, ti_130, ti_255, ti_256, ti_260, ti_360, ti_999, ti_1000, ti_9999, ti_10000]; omega), if_neg (by simp only [fa_lt, fa_le, fa_eq, inb, ti_m14, ti_m13, ti_m12, ti_m11, ti_m10, ti_m9, ti_m8, ti_m7, ti_m6, ti_m5, ti_m4, ti_m3, ti_m2, ti_m1, ti_0, ti_1, ti_2, ti_3, ti_4, ti_5, ti_6, ti_7, ti_8, ti_9, ti_10, ti_11, ti_12, ti_13, ti_14, ti_15, ti_16, ti_17, ti_18, ti_19, ti_20, ti_21, ti_22, ti_23, ti_24, ti_25, ti_26, ti_27, ti_28, ti_29, ti_30, ti_31, ti_32, ti_33, ti_34, ti_35, ti_36, ti_37, ti_38, ti_39, ti_40, ti_41, ti_42, ti_43, ti_44, ti_45, ti_46, ti_47, ti_48, ti_49, ti_50, ti_51, ti_52, ti_53, ti_54, ti_55, ti_56, ti_57, ti_58, ti_59, ti_60, ti_61, ti_62, ti_63, ti_64, ti_99, ti_100, ti_120, ti_122, ti_124, ti_128, ti_130, ti_255, ti_256, ti_260, ti_360, ti_999, ti_1000, ti_9999, ti_10000]; omega), if_pos (by simp only [fa_lt, fa_le, fa_eq, inb, ti_m14, ti_m13, ti_m12, ti_m11, ti_m10, ti_m9, ti_m8, ti_m7, ti_m6, ti_m5, ti_m4, ti_m3, ti_m2, ti_m1, ti_0, ti_1, ti_2, ti_3, ti_4, ti_5, ti_6, ti_7, ti_8, ti_9, ti_10, ti_11, ti_12, ti_13, ti_14, ti_15, ti_16, ti_17, ti_18, ti_19, ti_20, ti_21, ti_22, ti_23, ti_24, ti_25, ti_26, ti_27, ti_28, ti_29, ti_30, ti_31, ti_32, ti_33, ti_34, ti_35, ti_36, ti_37, ti_38, ti_39, ti_40, ti_41, ti_42, ti_43, ti_44, ti_45, ti_46, ti_47, ti_48, ti_49, ti_50, ti_51, ti_52, ti_53, ti_54, ti_55, ti_56, ti_57, ti_58, ti_59, ti_60, ti_61, ti_62, ti_63, ti_64, ti_99, ti_100, ti_120, ti_122, ti_124, ti_128, ti_130, ti_255, ti_256, ti_260, ti_360, ti_999, ti_1000, ti_9999, ti_10000]; omega)]
      rw [show (5 : Int32) = nI 5 from rfl, show (20 : Int32) = nI 20 from rfl, show (2 : Int32) = nI 2 from rfl, pk_mul, nI_add, nI_add, pk_sub (by omega)]
      unfold slt
      rw [if_neg c1, if_pos c2]
      congr 2
      omega
    · have := h4 (by omega)
      subst this
      rw [if_neg (by simp only [fa_lt, fa_le, fa_eq, inb, ti_m14, ti_m13, ti_m12, ti_m11, ti_m10, ti_m9, ti_m8, ti_m7, ti_m6, ti_m5, ti_m4, ti_m3, ti_m2, ti_m1, ti_0, ti_1, ti_2, ti_3, ti_4, ti_5, ti_6, ti_7, ti_8, ti_9, ti_10, ti_11, ti_12, ti_13, ti_14, ti_15, ti_16, ti_17, ti_18, ti_19, ti_20, ti_21, ti_22, ti_23, ti_24, ti_25, ti_26, ti_27, ti_28, ti_29, ti_30, ti_31, ti_32, ti_33, ti_34, ti_35, ti_36, ti_37, ti_38, ti_39, ti_40, ti_41, ti_42, ti_43, ti_44, ti_45, ti_46, ti_47, ti_48, ti_49, ti_50, ti_51, ti_52, ti_53, ti_54, ti_55, ti_56, ti_57, ti_58, ti_59, ti_60, ti_61, ti_62, ti_63, ti_64, ti_99, ti_100, ti_120, ti_122, ti_124, ti_128, ti_130, ti_255, ti_256, ti_260, ti_360, ti_999, ti_1000, ti_9999, ti_10000]; omega), if_pos (by simp only [fa_lt, fa_le, fa_eq, inb, ti_m14, ti_m13, ti_m12, ti_m11, ti_m10, ti_m9, ti_m8, ti_m7, ti_m6, ti_m5, ti_m4, ti_m3, ti_m2, ti_m1, ti_0, ti_1, ti_2, ti_3, ti_4, ti_5, ti_6, ti_7, ti_8, ti_9, ti_10, ti_11, ti_12, ti_13, ti_14, ti_15, ti_16, ti_17, ti_18, ti_19, ti_20, ti_21, ti_22, ti_23, ti_24, ti_25, ti_26, ti_27, ti_28, ti_29, ti_30, ti_31, ti_32, ti_33, ti_34, ti_35, ti_36, ti_37, ti_38, ti_39, ti_40, ti_41, ti_42, ti_43, ti_44, ti_45, ti_46, ti_47, ti_48, ti_49, ti_50, ti_51, ti_52, ti_53, ti_54, ti_55, ti_56, ti_57, ti_58, ti_59, ti_60, ti_61, ti_62, ti_63, ti_64, ti_99, ti_100, ti_120, ti_122, ti_124, ti_128, ti_130, ti_255, ti_256, ti_260, ti_360, ti_999, ti_1000, ti_9999, ti_10000]; omega), if_pos (by simp only [fa_lt, fa_le, fa_eq, inb, ti_m14, ti_m13, ti_m12, ti_m11, ti_m10, ti_m9, ti_m8, ti_m7, ti_m6, ti_m5, ti_m4, ti_m3, ti_m2, ti_m1, ti_0, ti_1, ti_2, ti_3, ti_4, ti_5, ti_6, ti_7, ti_8, ti_9, ti_10, ti_11, ti_12, ti_13, ti_14, ti_15, ti_16, ti_17, ti_18, ti_19, ti_20, ti_21, ti_22, ti_23, ti_24, ti_25, ti_26, ti_27, ti_28, ti_29, ti_30, ti_31, ti_32, ti_33, ti_34, ti_35, ti_36, ti_37, ti_38, ti_39, ti_40, ti_41, ti_42, ti_43, ti_44, ti_45, ti_46, ti_47, ti_48, ti_49, ti_50, ti_51, ti_52, ti_53, ti_54, ti_55, ti_56, ti_57, ti_58, ti_59, ti_60, ti_61, ti_62, ti_63, ti_64, ti_99, ti_100, ti_120, ti_122, ti_124, ti_128, ti_130, ti_255, ti_256, ti_260, ti_360, ti_999, ti_1000, ti_9999, ti_10000]; omega), if_pos (by simp only [fa_lt, fa_le, fa_eq, inb, ti_m14, ti_m13, ti_m12, ti_m11, ti_m10, ti_m9, ti_m8, ti_m7, ti_m6, ti_m5, ti_m4, ti_m3, ti_m2, ti_m1, ti_0, ti_1, ti_2, ti_3, ti_4, ti_5, ti_6, ti_7, ti_8, ti_9, ti_10, ti_11, ti_12, ti_13, ti_14, ti_15, ti_16, ti_17, ti_18, ti_19, ti_20, ti_21, ti_22, ti_23, ti_24, ti_25, ti_26, ti_27, ti_28, ti_29, ti_30, ti_31, ti_32, ti_33, ti_34, ti_35, ti_36, ti_37, ti_38, ti_39, ti_40, ti_41, ti_42, ti_43, ti_44, ti_45, ti_46, ti_47, ti_48, ti_49, ti_50, ti_51, ti_52, ti_53, ti_54, ti_55, ti_56, ti_57, ti_58, ti_59, ti_60, ti_61, ti_62, ti_63, ti_64, ti_99, ti_100, ti_120, ti_122, ti_124, ti_128, ti_130, ti_255, ti_256, ti_260, ti_360, ti_999, ti_1000, ti_9999, ti_10000]; omega), if_pos (show nI 0 = 0 from rfl)]
      rw [show (7 : Int32) = nI 7 from rfl, show (32 : Int32) = nI 32 from rfl, nI_add, pk_sub (by omega)]
      unfold slt
      rw [if_neg c1, if_neg c2]
      congr 2
      omega
theorem X_slot_no {w : Wd} {L : Nat} {a1 a2 : Int32} (hL : gi w 1 1 = nI L) (h6 : L ≤ 6) (h : ¬ vld a1 a2 L) : f_X6_slotOf a1 a2 w = some (-1) := by
  unfold f_X6_slotOf
  rw [X_isLooker hL h6, X_isBag, bR_s, bR_s, ite_b2i, ite_b2i]
  unfold vld at h
  simp only [fa_lt, fa_le, fa_eq, inb, ti_m14, ti_m13, ti_m12, ti_m11, ti_m10, ti_m9, ti_m8, ti_m7, ti_m6, ti_m5, ti_m4, ti_m3, ti_m2, ti_m1, ti_0, ti_1, ti_2, ti_3, ti_4, ti_5, ti_6, ti_7, ti_8, ti_9, ti_10, ti_11, ti_12, ti_13, ti_14, ti_15, ti_16, ti_17, ti_18, ti_19, ti_20, ti_21, ti_22, ti_23, ti_24, ti_25, ti_26, ti_27, ti_28, ti_29, ti_30, ti_31, ti_32, ti_33, ti_34, ti_35, ti_36, ti_37, ti_38, ti_39, ti_40, ti_41, ti_42, ti_43, ti_44, ti_45, ti_46, ti_47, ti_48, ti_49, ti_50, ti_51, ti_52, ti_53, ti_54, ti_55, ti_56, ti_57, ti_58, ti_59, ti_60, ti_61, ti_62, ti_63, ti_64, ti_99, ti_100, ti_120, ti_122, ti_124, ti_128, ti_130, ti_255, ti_256, ti_260, ti_360, ti_999, ti_1000, ti_9999, ti_10000] at *
  repeat' split
  all_goals first | rfl | (exfalso; omega)
theorem M_isOne {w : Wd} {L : Nat} {a1 a2 : Int32} (hL : gi w 54 3 = nI L) (h6 : L ≤ 6) [Decidable (vld a1 a2 L)] : f_X12_isOne a1 a2 w = some (b2i (vld a1 a2 L)) := by
  unfold f_X12_isOne
  simp only [M_in, M_isLooker hL h6, M_isBag, bR_s, ite_b2i, zb_b2i]
  by_cases hv : vld a1 a2 L
  · rw [b2i_t hv]
    unfold vld at hv
    unfold b2i
    simp only [fa_lt, fa_le, fa_eq, inb, ti_m14, ti_m13, ti_m12, ti_m11, ti_m10, ti_m9, ti_m8, ti_m7, ti_m6, ti_m5, ti_m4, ti_m3, ti_m2, ti_m1, ti_0, ti_1, ti_2, ti_3, ti_4, ti_5, ti_6, ti_7, ti_8, ti_9, ti_10, ti_11, ti_12, ti_13, ti_14, ti_15, ti_16, ti_17, ti_18, ti_19, ti_20, ti_21, ti_22, ti_23, ti_24, ti_25, ti_26, ti_27, ti_28, ti_29, ti_30, ti_31, ti_32, ti_33, ti_34, ti_35, ti_36, ti_37, ti_38, ti_39, ti_40, ti_41, ti_42, ti_43, ti_44, ti_45, ti_46, ti_47, ti_48, ti_49, ti_50, ti_51, ti_52, ti_53, ti_54, ti_55, ti_56, ti_57, ti_58, ti_59, ti_60, ti_61, ti_62, ti_63, ti_64, ti_99, ti_100, ti_120, ti_122, ti_124, ti_128, ti_130, ti_255, ti_256, ti_260, ti_360, ti_999, ti_1000, ti_9999, ti_10000] at *
    repeat' split
    all_goals first | rfl | (exfalso; omega)
  · rw [b2i_f hv]
    unfold vld at hv
    unfold b2i
    simp only [fa_lt, fa_le, fa_eq, inb, ti_m14, ti_m13, ti_m12, ti_m11, ti_m10, ti_m9, ti_m8, ti_m7, ti_m6, ti_m5, ti_m4, ti_m3, ti_m2, ti_m1, ti_0, ti_1, ti_2, ti_3, ti_4, ti_5, ti_6, ti_7, ti_8, ti_9, ti_10, ti_11, ti_12, ti_13, ti_14, ti_15, ti_16, ti_17, ti_18, ti_19, ti_20, ti_21, ti_22, ti_23, ti_24, ti_25, ti_26, ti_27, ti_28, ti_29, ti_30, ti_31, ti_32, ti_33, ti_34, ti_35, ti_36, ti_37, ti_38, ti_39, ti_40, ti_41, ti_42, ti_43, ti_44, ti_45, ti_46, ti_47, ti_48, ti_49, ti_50, ti_51, ti_52, ti_53, ti_54, ti_55, ti_56, ti_57, ti_58, ti_59, ti_60, ti_61, ti_62, ti_63, ti_64, ti_99, ti_100, ti_120, ti_122, ti_124, ti_128, ti_130, ti_255, ti_256, ti_260, ti_360, ti_999, ti_1000, ti_9999, ti_10000] at *
    repeat' split
    all_goals first | rfl | (exfalso; omega)
theorem X_mayBe_ok {w : Wd} {q : Nat} (h : q ≤ 11) (v : Int32) : f_X6_mayBe (nI q) v w = some (b2i (inr q v)) := by
  have tq := nI_toInt (n := q) (by omega)
  have ib : inb (nI q) 12 := inb_nI (by omega) (by decide)
  have l1 : ∀ q, q < 12 → (tb0 q).toInt = qlo q := by decide
  have l2 : ∀ q, q < 12 → (tb1 q).toInt = qhi q := by decide
  unfold f_X6_mayBe
  rw [if_neg (by simp only [fa_lt, fa_le, fa_eq, inb, ti_m14, ti_m13, ti_m12, ti_m11, ti_m10, ti_m9, ti_m8, ti_m7, ti_m6, ti_m5, ti_m4, ti_m3, ti_m2, ti_m1, ti_0, ti_1, ti_2, ti_3, ti_4, ti_5, ti_6, ti_7, ti_8, ti_9, ti_10, ti_11, ti_12, ti_13, ti_14, ti_15, ti_16, ti_17, ti_18, ti_19, ti_20, ti_21, ti_22, ti_23, ti_24, ti_25, ti_26, ti_27, ti_28, ti_29, ti_30, ti_31, ti_32, ti_33, ti_34, ti_35, ti_36, ti_37, ti_38, ti_39, ti_40, ti_41, ti_42, ti_43, ti_44, ti_45, ti_46, ti_47, ti_48, ti_49, ti_50, ti_51, ti_52, ti_53, ti_54, ti_55, ti_56, ti_57, ti_58, ti_59, ti_60, ti_61, ti_62, ti_63, ti_64, ti_99, ti_100, ti_120, ti_122, ti_124, ti_128, ti_130, ti_255, ti_256, ti_260, ti_360, ti_999, ti_1000, ti_9999, ti_10000]; omega), if_neg (by simp only [fa_lt, fa_le, fa_eq, inb, ti_m14, ti_m13, ti_m12, ti_m11, ti_m10, ti_m9, ti_m8, ti_m7, ti_m6, ti_m5, ti_m4, ti_m3, ti_m2, ti_m1, ti_0, ti_1, ti_2, ti_3, ti_4, ti_5, ti_6, ti_7, ti_8, ti_9, ti_10, ti_11, ti_12, ti_13, ti_14, ti_15, ti_16, ti_17, ti_18, ti_19, ti_20, ti_21, ti_22, ti_23, ti_24, ti_25, ti_26, ti_27, ti_28, ti_29, ti_30, ti_31, ti_32, ti_33, ti_34, ti_35, ti_36, ti_37, ti_38, ti_39, ti_40, ti_41, ti_42, ti_43, ti_44, ti_45, ti_46, ti_47, ti_48, ti_49, ti_50, ti_51, ti_52, ti_53, ti_54, ti_55, ti_56, ti_57, ti_58, ti_59, ti_60, ti_61, ti_62, ti_63, ti_64, ti_99, ti_100, ti_120, ti_122, ti_124, ti_128, ti_130, ti_255, ti_256, ti_260, ti_360, ti_999, ti_1000, ti_9999, ti_10000]; omega), ltI_d ib, ltI_d ib, ix_nI (by omega)]
  have e1 := l1 q (by omega)
  have e2 := l2 q (by omega)
  unfold b2i
  simp only [fa_lt, fa_le, fa_eq, inb, ti_m14, ti_m13, ti_m12, ti_m11, ti_m10, ti_m9, ti_m8, ti_m7, ti_m6, ti_m5, ti_m4, ti_m3, ti_m2, ti_m1, ti_0, ti_1, ti_2, ti_3, ti_4, ti_5, ti_6, ti_7, ti_8, ti_9, ti_10, ti_11, ti_12, ti_13, ti_14, ti_15, ti_16, ti_17, ti_18, ti_19, ti_20, ti_21, ti_22, ti_23, ti_24, ti_25, ti_26, ti_27, ti_28, ti_29, ti_30, ti_31, ti_32, ti_33, ti_34, ti_35, ti_36, ti_37, ti_38, ti_39, ti_40, ti_41, ti_42, ti_43, ti_44, ti_45, ti_46, ti_47, ti_48, ti_49, ti_50, ti_51, ti_52, ti_53, ti_54, ti_55, ti_56, ti_57, ti_58, ti_59, ti_60, ti_61, ti_62, ti_63, ti_64, ti_99, ti_100, ti_120, ti_122, ti_124, ti_128, ti_130, ti_255, ti_256, ti_260, ti_360, ti_999, ti_1000, ti_9999, ti_10000]
  rw [e1, e2]
  repeat' split
  all_goals first | rfl | (exfalso; omega)
theorem M_mayBe_ok {q : Nat} (h : q ≤ 11) (v : Int32) : f_X12_mayBe (nI q) v = some (b2i (inr q v)) := by
  have key : ∀ q : Nat, q ≤ 11 → q = 0 ∨ q = 1 ∨ q = 2 ∨ q = 3 ∨ q = 4 ∨ q = 5 ∨ q = 6 ∨ q = 7 ∨ q = 8 ∨ q = 9 ∨ q = 10 ∨ q = 11 := by omega
  unfold f_X12_mayBe f_X12_mayBe_b97
  simp only [M_in, bR_s, zb_b2i]
  rcases key q h with rfl | rfl | rfl | rfl | rfl | rfl | rfl | rfl | rfl | rfl | rfl | rfl
  all_goals exact congrArg some (b2i_congr (Iff.of_eq rfl))
/-- the relation of the numbers -/
def NR (L dn um : Nat) (w : Wd) : Prop :=
  L ≤ 6 ∧ gi w 1 1 = nI L ∧ gi w 54 3 = nI L ∧ dn + um ≤ 40 ∧ gi w 1 5 = nI dn ∧ gi w 1 6 = nI (dn + um) ∧ gi w 54 11 = nI dn ∧ gi w 54 12 = nI um ∧
  (∀ q r, okq q r → gi w 2 (slt q r) = gi w (mc q) (mi q r) ∧ inr q (gi w 2 (slt q r))) ∧
  (∀ i, i < dn + um → ∃ q r, okq q r ∧ gi w 59 i = nI q ∧ gi w 60 i = nI r ∧ gi w 3 i = nI (slt q r) ∧ gi w 4 i = gi w 61 i ∧ gi w 5 i = gi w 62 i ∧ inr q (gi w 61 i) ∧ inr q (gi w 62 i))
def aN (c k : Nat) : Bool := (1 ≤ c && c ≤ 5) || (55 ≤ c && c ≤ 62) || (c == 54 && (k == 3 || (6 ≤ k && k ≤ 12)))
theorem aN_mc {q r : Nat} (h : okq q r) : aN (mc q) (mi q r) = true := by
  rcases mc_rng q with e | e | e | e | e
  · have := mi_54 h e
    rw [e]
    simp [aN]
    omega
  all_goals rw [e]; simp [aN]
theorem NR_cg {L dn um : Nat} {w w' : Wd} (h : NR L dn um w) (he : ∀ c k, aN c k = true → gi w' c k = gi w c k) : NR L dn um w' := by
  obtain ⟨h1, h2, h3, h4, h5, h6, h7, h8, h9, h10⟩ := h
  refine ⟨h1, ?_, ?_, h4, ?_, ?_, ?_, ?_, ?_, ?_⟩
  · rw [he _ _ (by decide)]; exact h2
  · rw [he _ _ (by decide)]; exact h3
  · rw [he _ _ (by decide)]; exact h5
  · rw [he _ _ (by decide)]; exact h6
  · rw [he _ _ (by decide)]; exact h7
  · rw [he _ _ (by decide)]; exact h8
  · intro q r hq
    rw [he 2 _ (by simp [aN]), he _ _ (aN_mc hq)]
    exact h9 q r hq
  · intro i hi
    rw [he 59 _ (by simp [aN]), he 60 _ (by simp [aN]), he 3 _ (by simp [aN]), he 4 _ (by simp [aN]), he 61 _ (by simp [aN]), he 5 _ (by simp [aN]), he 62 _ (by simp [aN])]
    exact h10 i hi
theorem X_get_ok {w : Wd} {L q r : Nat} (hL : gi w 1 1 = nI L) (h6 : L ≤ 6) (ho : okq q r) (hr : 5 ≤ q → q ≤ 6 → r < L) : f_X6_get (nI r) (nI q) w = some (gi w 2 (slt q r)) := by
  have hl := slt_lt ho
  unfold f_X6_get
  rw [X_slot_ok hL h6 ho hr, bR_s, if_pos (nI_pos' (by omega)), ldI_d (inb_nI hl (by decide)), ix_nI (by omega)]
theorem X_get_no {w : Wd} {L : Nat} {a1 a2 : Int32} (hL : gi w 1 1 = nI L) (h6 : L ≤ 6) (h : ¬ vld a1 a2 L) : f_X6_get a1 a2 w = some 0 := by
  unfold f_X6_get
  rw [X_slot_no hL h6 h, bR_s, if_neg (by decide)]
theorem M_valueAt {w : Wd} {q r : Nat} (ho : okq q r) : f_X12_valueAt (nI q) (nI r) w = some (gi w (mc q) (mi q r)) := by
  obtain ⟨h1, h2, h3, h4⟩ := ho
  have key : q ≤ 3 ∨ q = 4 ∨ q = 5 ∨ q = 6 ∨ q = 7 ∨ q = 8 ∨ q = 9 ∨ q = 10 ∨ q = 11 := by omega
  unfold f_X12_valueAt
  have tq := nI_toInt (n := q) (by omega)
  rcases key with c | rfl | rfl | rfl | rfl | rfl | rfl | rfl | rfl
  · have hr := h2 (by omega)
    rw [if_neg (by simp only [fa_lt, fa_le, fa_eq, inb, ti_m14, ti_m13, ti_m12, ti_m11, ti_m10, ti_m9, ti_m8, ti_m7, ti_m6, ti_m5, ti_m4, ti_m3, ti_m2, ti_m1, ti_0, ti_1, ti_2, ti_3, ti_4, ti_5, ti_6, ti_7, ti_8, ti_9, ti_10, ti_11, ti_12, ti_13, ti_14, ti_15, ti_16, ti_17, ti_18, ti_19, ti_20, ti_21, ti_22, ti_23, ti_24, ti_25, ti_26, ti_27, ti_28, ti_29, ti_30, ti_31, ti_32, ti_33, ti_34, ti_35, ti_36, ti_37, ti_38, ti_39, ti_40, ti_41, ti_42, ti_43, ti_44, ti_45, ti_46, ti_47, ti_48, ti_49, ti_50, ti_51, ti_52, ti_53, ti_54, ti_55, ti_56, ti_57, ti_58, ti_59, ti_60, ti_61, ti_62, ti_63, ti_64, ti_99, ti_100, ti_120, ti_122, ti_124, ti_128, ti_130, ti_255, ti_256, ti_260, ti_360, ti_999, ti_1000, ti_9999, ti_10000]; omega), show (4 : Int32) = nI 4 from rfl, pk_mul, nI_add, ldI_d (inb_nI (by omega) (by decide)), ix_nI (by omega)]
    unfold mc mi
    rw [if_pos (by omega), if_pos (by omega)]
  · have hr := h2 (by omega)
    rw [if_pos (by decide), if_pos (by decide), ldI_d (inb_nI (by omega) (by decide)), ix_nI (by omega)]
    rfl
  · have hr := h3 (by omega) (by omega)
    rw [if_pos (by decide), if_neg (by decide), if_pos (by decide), ldI_d (inb_nI (by omega) (by decide)), ix_nI (by omega)]
    rfl
  · have hr := h3 (by omega) (by omega)
    rw [if_pos (by decide), if_neg (by decide), if_neg (by decide), if_pos (by decide), ldI_d (inb_nI (by omega) (by decide)), ix_nI (by omega)]
    rfl
  all_goals rfl
theorem M_lays {w : Wd} {q r : Nat} (ho : okq q r) (v : Int32) : f_X12_lays (nI q) (nI r) v w = some (si w (mc q) (mi q r) v) := by
  obtain ⟨h1, h2, h3, h4⟩ := ho
  have key : q ≤ 3 ∨ q = 4 ∨ q = 5 ∨ q = 6 ∨ q = 7 ∨ q = 8 ∨ q = 9 ∨ q = 10 ∨ q = 11 := by omega
  unfold f_X12_lays
  have tq := nI_toInt (n := q) (by omega)
  rcases key with c | rfl | rfl | rfl | rfl | rfl | rfl | rfl | rfl
  · have hr := h2 (by omega)
    rw [if_neg (by simp only [fa_lt, fa_le, fa_eq, inb, ti_m14, ti_m13, ti_m12, ti_m11, ti_m10, ti_m9, ti_m8, ti_m7, ti_m6, ti_m5, ti_m4, ti_m3, ti_m2, ti_m1, ti_0, ti_1, ti_2, ti_3, ti_4, ti_5, ti_6, ti_7, ti_8, ti_9, ti_10, ti_11, ti_12, ti_13, ti_14, ti_15, ti_16, ti_17, ti_18, ti_19, ti_20, ti_21, ti_22, ti_23, ti_24, ti_25, ti_26, ti_27, ti_28, ti_29, ti_30, ti_31, ti_32, ti_33, ti_34, ti_35, ti_36, ti_37, ti_38, ti_39, ti_40, ti_41, ti_42, ti_43, ti_44, ti_45, ti_46, ti_47, ti_48, ti_49, ti_50, ti_51, ti_52, ti_53, ti_54, ti_55, ti_56, ti_57, ti_58, ti_59, ti_60, ti_61, ti_62, ti_63, ti_64, ti_99, ti_100, ti_120, ti_122, ti_124, ti_128, ti_130, ti_255, ti_256, ti_260, ti_360, ti_999, ti_1000, ti_9999, ti_10000]; omega), if_neg (by simp only [fa_lt, fa_le, fa_eq, inb, ti_m14, ti_m13, ti_m12, ti_m11, ti_m10, ti_m9, ti_m8, ti_m7, ti_m6, ti_m5, ti_m4, ti_m3, ti_m2, ti_m1, ti_0, ti_1, ti_2, ti_3, ti_4, ti_5, ti_6, ti_7, ti_8, ti_9, ti_10, ti_11, ti_12, ti_13, ti_14, ti_15, ti_16, ti_17, ti_18, ti_19, ti_20, ti_21, ti_22, ti_23, ti_24, ti_25, ti_26, ti_27, ti_28, ti_29, ti_30, ti_31, ti_32, ti_33, ti_34, ti_35, ti_36, ti_37, ti_38, ti_39, ti_40, ti_41, ti_42, ti_43, ti_44, ti_45, ti_46, ti_47, ti_48, ti_49, ti_50, ti_51, ti_52, ti_53, ti_54, ti_55, ti_56, ti_57, ti_58, ti_59, ti_60, ti_61, ti_62, ti_63, ti_64, ti_99, ti_100, ti_120, ti_122, ti_124, ti_128, ti_130, ti_255, ti_256, ti_260, ti_360, ti_999, ti_1000, ti_9999, ti_10000]; omega), if_neg (by simp only [fa_lt, fa_le, fa_eq, inb, ti_m14, ti_m13, ti_m12, ti_m11, ti_m10, ti_m9, ti_m8, ti_m7, ti_m6, ti_m5, ti_m4, ti_m3, ti_m2, ti_m1, ti_0, ti_1, ti_2, ti_3, ti_4, ti_5, ti_6, ti_7, ti_8, ti_9, ti_10, ti_11, ti_12, ti_13, ti_14, ti_15, ti_16, ti_17, ti_18, ti_19, ti_20, ti_21, ti_22, ti_23, ti_24, ti_25, ti_26, ti_27, ti_28, ti_29, ti_30, ti_31, ti_32, ti_33, ti_34, ti_35, ti_36, ti_37, ti_38, ti_39, ti_40, ti_41, ti_42, ti_43, ti_44, ti_45, ti_46, ti_47, ti_48, ti_49, ti_50, ti_51, ti_52, ti_53, ti_54, ti_55, ti_56, ti_57, ti_58, ti_59, ti_60, ti_61, ti_62, ti_63, ti_64, ti_99, ti_100, ti_120, ti_122, ti_124, ti_128, ti_130, ti_255, ti_256, ti_260, ti_360, ti_999, ti_1000, ti_9999, ti_10000]; omega), if_neg (by simp only [fa_lt, fa_le, fa_eq, inb, ti_m14, ti_m13, ti_m12, ti_m11, ti_m10, ti_m9, ti_m8, ti_m7, ti_m6, ti_m5, ti_m4, ti_m3, ti_m2, ti_m1, ti_0, ti_1, ti_2, ti_3, ti_4, ti_5, ti_6, ti_7, ti_8, ti_9, ti_10, ti_11, ti_12, ti_13, ti_14, ti_15, ti_16, ti_17, ti_18, ti_19, ti_20, ti_21, ti_22, ti_23, ti_24, ti_25, ti_26, ti_27, ti_28, ti_29, ti_30, ti_31, ti_32, ti_33, ti_34, ti_35, ti_36, ti_37, ti_38, ti_39, ti_40, ti_41, ti_42, ti_43, ti_44, ti_45, ti_46, ti_47, ti_48, ti_49, ti_50, ti_51, ti_52, ti_53, ti_54, ti_55, ti_56, ti_57, ti_58, ti_59, ti_60, ti_61, ti_62, ti_63, ti_64, ti_99, ti_100, ti_120, ti_122, ti_124, ti_128, ti_130, ti_255, ti_256, ti_260, ti_360, ti_999, ti_1000, ti_9999, ti_10000]; omega), if_neg (by simp only [fa_lt, fa_le, fa_eq, inb, ti_m14, ti_m13, ti_m12, ti_m11, ti_m10, ti_m9, ti_m8, ti_m7, ti_m6, ti_m5, ti_m4, ti_m3, ti_m2, ti_m1, ti_0, ti_1, ti_2, ti_3, ti_4, ti_5, ti_6, ti_7, ti_8, ti_9, ti_10, ti_11, ti_12, ti_13, ti_14, ti_15, ti_16, ti_17, ti_18, ti_19, ti_20, ti_21, ti_22, ti_23, ti_24, ti_25, ti_26, ti_27, ti_28, ti_29, ti_30, ti_31, ti_32, ti_33, ti_34, ti_35, ti_36, ti_37, ti_38, ti_39, ti_40, ti_41, ti_42, ti_43, ti_44, ti_45, ti_46, ti_47, ti_48, ti_49, ti_50, ti_51, ti_52, ti_53, ti_54, ti_55, ti_56, ti_57, ti_58, ti_59, ti_60, ti_61, ti_62, ti_63, ti_64, ti_99, ti_100, ti_120, ti_122, ti_124, ti_128, ti_130, ti_255, ti_256, ti_260, ti_360, ti_999, ti_1000, ti_9999, ti_10000]; omega), if_neg (by simp only [fa_lt, fa_le, fa_eq, inb, ti_m14, ti_m13, ti_m12, ti_m11, ti_m10, ti_m9, ti_m8, ti_m7, ti_m6, ti_m5, ti_m4, ti_m3, ti_m2, ti_m1, ti_0, ti_1, ti_2, ti_3, ti_4, ti_5, ti_6, ti_7, ti_8, ti_9, ti_10, ti_11, ti_12, ti_13, ti_14, ti_15, ti_16, ti_17, ti_18, ti_19, ti_20, ti_21, ti_22, ti_23, ti_24, ti_25, ti_26, ti_27, ti_28, ti_29, ti_30, ti_31, ti_32, ti_33, ti_34, ti_35, ti_36, ti_37, ti_38, ti_39, ti_40, ti_41, ti_42, ti_43, ti_44, ti_45, ti_46, ti_47, ti_48, ti_49, ti_50, ti_51, ti_52, ti_53, ti_54, ti_55, ti_56, ti_57, ti_58, ti_59, ti_60, ti_61, ti_62, ti_63, ti_64, ti_99, ti_100, ti_120, ti_122, ti_124, ti_128, ti_130, ti_255, ti_256, ti_260, ti_360, ti_999, ti_1000, ti_9999, ti_10000]; omega), if_neg (by simp only [fa_lt, fa_le, fa_eq, inb, ti_m14, ti_m13, ti_m12, ti_m11, ti_m10, ti_m9, ti_m8, ti_m7, ti_m6, ti_m5, ti_m4, ti_m3, ti_m2, ti_m1, ti_0, ti_1, ti_2, ti_3, ti_4, ti_5, ti_6, ti_7, ti_8, ti_9, ti_10, ti_11, ti_12, ti_13, ti_14, ti_15, ti_16, ti_17, ti_18, ti_19, ti_20, ti_21, ti_22, ti_23, ti_24, ti_25, ti_26, ti_27, ti_28, ti_29, ti_30, ti_31, ti_32, ti_33, ti_34, ti_35, ti_36, ti_37, ti_38, ti_39, ti_40, ti_41, ti_42, ti_43, ti_44, ti_45, ti_46, ti_47, ti_48, ti_49, ti_50, ti_51, ti_52, ti_53, ti_54, ti_55, ti_56, ti_57, ti_58, ti_59, ti_60, ti_61, ti_62, ti_63, ti_64, ti_99, ti_100, ti_120, ti_122, ti_124, ti_128, ti_130, ti_255, ti_256, ti_260, ti_360, ti_999, ti_1000, ti_9999, ti_10000]; omega), if_neg (by simp only [fa_lt, fa_le, fa_eq, inb, ti_m14, ti_m13, ti_m12, ti_m11, ti_m10, ti_m9, ti_m8, ti_m7, ti_m6, ti_m5, ti_m4, ti_m3, ti_m2, ti_m1, ti_0, ti_1, ti_2, ti_3, ti_4, ti_5, ti_6, ti_7, ti_8, ti_9, ti_10, ti_11, ti_12, ti_13, ti_14, ti_15, ti_16, ti_17, ti_18, ti_19, ti_20, ti_21, ti_22, ti_23, ti_24, ti_25, ti_26, ti_27, ti_28, ti_29, ti_30, ti_31, ti_32, ti_33, ti_34, ti_35, ti_36, ti_37, ti_38, ti_39, ti_40, ti_41, ti_42, ti_43, ti_44, ti_45, ti_46, ti_47, ti_48, ti_49, ti_50, ti_51, ti_52, ti_53, ti_54, ti_55, ti_56, ti_57, ti_58, ti_59, ti_60, ti_61, ti_62, ti_63, ti_64, ti_99, ti_100, ti_120, ti_122, ti_124, ti_128, ti_130, ti_255, ti_256, ti_260, ti_360, ti_999, ti_1000, ti_9999, ti_10000]; omega), show (4 : Int32) = nI 4 from rfl, pk_mul, nI_add, saI_d (inb_nI (by omega) (by decide)), ix_nI (by omega)]
    unfold mc mi
    rw [if_pos (by omega), if_pos (by omega)]
  · have hr := h2 (by omega)
    rw [if_pos (by decide), saI_d (inb_nI (by omega) (by decide)), ix_nI (by omega)]
    rfl
  · have hr := h3 (by omega) (by omega)
    rw [if_neg (by decide), if_pos (by decide), saI_d (inb_nI (by omega) (by decide)), ix_nI (by omega)]
    rfl
  · have hr := h3 (by omega) (by omega)
    rw [if_neg (by decide), if_neg (by decide), if_pos (by decide), saI_d (inb_nI (by omega) (by decide)), ix_nI (by omega)]
    rfl
  all_goals rfl
/-- the oldest change dropped, on both sides: places shift down by one, if forty stand there -/
def sh1 (dn : Nat) : Nat := if dn = 40 then 1 else 0
def drX (dn : Nat) (w : Wd) : Wd := if dn = 40 then si (cpI (cpI (cpI w 3 3 1 0 39) 4 4 1 0 39) 5 5 1 0 39) 1 5 39 else w
theorem X_drop {w : Wd} {dn : Nat} (hd : dn ≤ 40) (h5 : gi w 1 5 = nI dn) : f_X6_dropOldest w = some (drX dn w) := by
  have t := nI_toInt (n := dn) (by omega)
  unfold f_X6_dropOldest drX
  by_cases c : dn = 40
  · rw [if_pos (by rw [h5]; simp only [fa_lt, fa_le, fa_eq, inb, ti_m14, ti_m13, ti_m12, ti_m11, ti_m10, ti_m9, ti_m8, ti_m7, ti_m6, ti_m5, ti_m4, ti_m3, ti_m2, ti_m1, ti_0, ti_1, ti_2, ti_3, ti_4, ti_5, ti_6, ti_7, ti_8, ti_9, ti_10, ti_11, ti_12, ti_13, ti_14, ti_15, ti_16, ti_17, ti_18, ti_19, ti_20, ti_21, ti_22, ti_23, ti_24, ti_25, ti_26, ti_27, ti_28, ti_29, ti_30, ti_31, ti_32, ti_33, ti_34, ti_35, ti_36, ti_37, ti_38, ti_39, ti_40, ti_41, ti_42, ti_43, ti_44, ti_45, ti_46, ti_47, ti_48, ti_49, ti_50, ti_51, ti_52, ti_53, ti_54, ti_55, ti_56, ti_57, ti_58, ti_59, ti_60, ti_61, ti_62, ti_63, ti_64, ti_99, ti_100, ti_120, ti_122, ti_124, ti_128, ti_130, ti_255, ti_256, ti_260, ti_360, ti_999, ti_1000, ti_9999, ti_10000]; omega), if_pos c]
    have ok : cyok 40 40 (1 : Int32) (0 : Int32) (39 : Int32) := by decide
    rw [cyI_d ok, cyI_d ok, cyI_d ok, stI_d]
    rfl
  · rw [if_neg (by rw [h5]; simp only [fa_lt, fa_le, fa_eq, inb, ti_m14, ti_m13, ti_m12, ti_m11, ti_m10, ti_m9, ti_m8, ti_m7, ti_m6, ti_m5, ti_m4, ti_m3, ti_m2, ti_m1, ti_0, ti_1, ti_2, ti_3, ti_4, ti_5, ti_6, ti_7, ti_8, ti_9, ti_10, ti_11, ti_12, ti_13, ti_14, ti_15, ti_16, ti_17, ti_18, ti_19, ti_20, ti_21, ti_22, ti_23, ti_24, ti_25, ti_26, ti_27, ti_28, ti_29, ti_30, ti_31, ti_32, ti_33, ti_34, ti_35, ti_36, ti_37, ti_38, ti_39, ti_40, ti_41, ti_42, ti_43, ti_44, ti_45, ti_46, ti_47, ti_48, ti_49, ti_50, ti_51, ti_52, ti_53, ti_54, ti_55, ti_56, ti_57, ti_58, ti_59, ti_60, ti_61, ti_62, ti_63, ti_64, ti_99, ti_100, ti_120, ti_122, ti_124, ti_128, ti_130, ti_255, ti_256, ti_260, ti_360, ti_999, ti_1000, ti_9999, ti_10000]; omega), if_neg c]
theorem drX_at {w : Wd} {dn : Nat} (h5 : gi w 1 5 = nI dn) (c k : Nat) : gi (drX dn w) c k = if c = 1 ∧ k = 5 then nI (dn - sh1 dn) else if 3 ≤ c ∧ c ≤ 5 ∧ k < 39 then gi w c (k + sh1 dn) else gi w c k := by
  unfold drX sh1
  by_cases hc : dn = 40
  · subst hc
    simp only [if_true, gi_si, gi_cpI]
    by_cases e1 : c = 1 ∧ k = 5
    · simp [e1]
      rfl
    · simp only [e1, if_false]
      by_cases e3 : c = 3
      · subst e3
        by_cases hk : k < 39 <;> simp [hk, Nat.add_comm]
      · by_cases e4 : c = 4
        · subst e4
          by_cases hk : k < 39 <;> simp [hk, Nat.add_comm]
        · by_cases e5 : c = 5
          · subst e5
            by_cases hk : k < 39 <;> simp [hk, Nat.add_comm]
          · have : ¬ (3 ≤ c ∧ c ≤ 5 ∧ k < 39) := by omega
            simp [this, e3, e4, e5]
  · simp only [hc, if_false, Nat.sub_zero, Nat.add_zero]
    by_cases e1 : c = 1 ∧ k = 5
    · simp [e1, h5]
    · simp [e1]
theorem drX_gl {w : Wd} {dn : Nat} (c k : Nat) : gl (drX dn w) c k = gl w c k := by
  unfold drX
  by_cases hc : dn = 40
  · simp only [hc, if_true]
    rfl
  · simp only [hc, if_false]
def shf (j : Nat) (w : Wd) : Wd := (fun c k => if 59 ≤ c ∧ c ≤ 62 ∧ j ≤ k + 1 ∧ k < 39 then w.1 c (k + 1) else w.1 c k, w.2)
theorem gi_shf (j : Nat) (w : Wd) (c k : Nat) : gi (shf j w) c k = if 59 ≤ c ∧ c ≤ 62 ∧ j ≤ k + 1 ∧ k < 39 then gi w c (k + 1) else gi w c k := rfl
theorem M_shf {x1 x2 x3 x4 : Int32} : ∀ (n j : Nat) (w : Wd), 1 ≤ j → j ≤ 40 → 40 - j < n → f_X12_changes_b34 n x1 x2 x3 x4 (nI j) w = f_X12_changes_b121 x1 x2 x3 x4 (si (shf j w) 54 11 (gi w 54 11 - 1))
  | 0, j, w, _, _, h => absurd h (by omega)
  | n + 1, j, w, h1, h2, h3 => by
    have t := nI_toInt (n := j) (by omega)
    show f_X12_changes_b34_y (f_X12_changes_b34 n) x1 x2 x3 x4 (nI j) w = _
    unfold f_X12_changes_b34_y
    by_cases c : j = 40
    · subst c
      rw [if_pos (by decide), stI_d]
      have e : shf 40 w = w := wd_ext (fun c k => by rw [gi_shf, if_neg (by omega)]) (fun _ _ => rfl)
      rw [e]
    · have ib : inb (nI j) 40 := inb_nI (by omega) (by decide)
      have ej : nI j - 1 = nI (j - 1) := by rw [show (1 : Int32) = nI 1 from rfl, pk_sub (by omega)]
      have ib2 : inb (nI (j - 1)) 40 := inb_nI (by omega) (by decide)
      rw [if_neg (by simp only [fa_lt, fa_le, fa_eq, inb, ti_m14, ti_m13, ti_m12, ti_m11, ti_m10, ti_m9, ti_m8, ti_m7, ti_m6, ti_m5, ti_m4, ti_m3, ti_m2, ti_m1, ti_0, ti_1, ti_2, ti_3, ti_4, ti_5, ti_6, ti_7, ti_8, ti_9, ti_10, ti_11, ti_12, ti_13, ti_14, ti_15, ti_16, ti_17, ti_18, ti_19, ti_20, ti_21, ti_22, ti_23, ti_24, ti_25, ti_26, ti_27, ti_28, ti_29, ti_30, ti_31, ti_32, ti_33, ti_34, ti_35, ti_36, ti_37, ti_38, ti_39, ti_40, ti_41, ti_42, ti_43, ti_44, ti_45, ti_46, ti_47, ti_48, ti_49, ti_50, ti_51, ti_52, ti_53, ti_54, ti_55, ti_56, ti_57, ti_58, ti_59, ti_60, ti_61, ti_62, ti_63, ti_64, ti_99, ti_100, ti_120, ti_122, ti_124, ti_128, ti_130, ti_255, ti_256, ti_260, ti_360, ti_999, ti_1000, ti_9999, ti_10000]; omega), ej]
      rw [ldI_d ib, saI_d ib2, ldI_d ib, saI_d ib2, ldI_d ib, saI_d ib2, ldI_d ib, saI_d ib2, ix_nI (by omega), ix_nI (by omega), nI_1]
      rw [M_shf n (j + 1) _ (by omega) (by omega) (by omega)]
      congr 1
      refine wd_ext (fun c k => ?_) (fun _ _ => rfl)
      simp only [gi_si, gi_shf]
      by_cases e54 : c = 54 ∧ k = 11
      · simp [e54]
      · simp only [e54, if_false]
        by_cases r : 59 ≤ c ∧ c ≤ 62
        · have key : c = 59 ∨ c = 60 ∨ c = 61 ∨ c = 62 := by omega
          by_cases k1 : k = j - 1
          · subst k1
            have z1 : ¬ (j + 1 ≤ j - 1 + 1) := by omega
            have z2 : j - 1 + 1 = j := by omega
            have z3 : j - 1 < 39 := by omega
            rcases key with rfl | rfl | rfl | rfl <;> simp [z1, z2, z3] <;> omega
          · by_cases k2 : j ≤ k + 1 ∧ k < 39
            · have z1 : j + 1 ≤ k + 1 := by omega
              have z2 : ¬ (k + 1 = j - 1) := by omega
              rcases key with rfl | rfl | rfl | rfl <;> simp [z1, z2, k2, k1]
            · have z1 : ¬ (j + 1 ≤ k + 1 ∧ k < 39) := by omega
              rcases key with rfl | rfl | rfl | rfl <;> simp [z1, k2, k1] <;> (intro u1 u2; exfalso; omega)
        · have z1 : ¬ (59 ≤ c ∧ c ≤ 62 ∧ j + 1 ≤ k + 1 ∧ k < 39) := by omega
          have z2 : ¬ (59 ≤ c ∧ c ≤ 62 ∧ j ≤ k + 1 ∧ k < 39) := by omega
          have n1 : ¬ c = 59 := by omega
          have n2 : ¬ c = 60 := by omega
          have n3 : ¬ c = 61 := by omega
          have n4 : ¬ c = 62 := by omega
          rw [if_neg z1, if_neg z2]
          simp [n1, n2, n3, n4]
def drM (dn : Nat) (w : Wd) : Wd := if dn = 40 then si (shf 1 w) 54 11 39 else w
theorem drM_at {w : Wd} {dn : Nat} (h5 : gi w 54 11 = nI dn) (c k : Nat) : gi (drM dn w) c k = if c = 54 ∧ k = 11 then nI (dn - sh1 dn) else if 59 ≤ c ∧ c ≤ 62 ∧ k < 39 then gi w c (k + sh1 dn) else gi w c k := by
  unfold drM sh1
  by_cases hc : dn = 40
  · subst hc
    simp only [if_true, gi_si, gi_shf]
    by_cases e1 : c = 54 ∧ k = 11
    · simp [e1]
      rfl
    · simp only [e1, if_false]
      by_cases r : 59 ≤ c ∧ c ≤ 62 ∧ k < 39
      · have : 59 ≤ c ∧ c ≤ 62 ∧ 1 ≤ k + 1 ∧ k < 39 := by omega
        simp [r, this]
      · have : ¬ (59 ≤ c ∧ c ≤ 62 ∧ 1 ≤ k + 1 ∧ k < 39) := by omega
        simp only [r, this, if_false]
  · simp only [hc, if_false, Nat.sub_zero, Nat.add_zero]
    by_cases e1 : c = 54 ∧ k = 11
    · simp [e1, h5]
    · simp [e1]
theorem drM_gl {w : Wd} {dn : Nat} (c k : Nat) : gl (drM dn w) c k = gl w c k := by
  unfold drM
  by_cases hc : dn = 40
  · simp only [hc, if_true]
    rfl
  · simp only [hc, if_false]
theorem M_changes {w : Wd} {dn q r : Nat} {v : Int32} (ho : okq q r) (hd : dn ≤ 40) (h11 : gi w 54 11 = nI dn) (hne : ¬ gi w (mc q) (mi q r) = v) :
    f_X12_changes (nI q) (nI r) v w = some (gi w (mc q) (mi q r), si (si (si (si (si (si (drM dn (si w 54 12 0)) 59 (dn - sh1 dn) (nI q)) 60 (dn - sh1 dn) (nI r)) 61 (dn - sh1 dn) (gi w (mc q) (mi q r))) 62 (dn - sh1 dn) v) 54 11 (nI (dn - sh1 dn + 1))) (mc q) (mi q r) v) := by
  have t := nI_toInt (n := dn) (by omega)
  have hsh : dn - sh1 dn < 40 := by
    unfold sh1
    split <;> omega
  unfold f_X12_changes
  rw [M_valueAt ho, bR_s, if_neg hne, stI_d]
  have h11' : gi (si w 54 12 0) 54 11 = nI dn := by rw [gi_si]; simp [h11]
  have main : ∀ wd : Wd, gi wd 54 11 = nI (dn - sh1 dn) → f_X12_changes_b121 (nI q) (nI r) v (gi w (mc q) (mi q r)) wd = some (gi w (mc q) (mi q r), si (si (si (si (si (si wd 59 (dn - sh1 dn) (nI q)) 60 (dn - sh1 dn) (nI r)) 61 (dn - sh1 dn) (gi w (mc q) (mi q r))) 62 (dn - sh1 dn) v) 54 11 (nI (dn - sh1 dn + 1))) (mc q) (mi q r) v) := by
    intro wd hwd
    have ib : inb (nI (dn - sh1 dn)) 40 := inb_nI hsh (by decide)
    unfold f_X12_changes_b121
    rw [hwd, saI_d ib, gi_si, if_neg (by omega), hwd, saI_d ib, gi_si, if_neg (by omega), gi_si, if_neg (by omega), hwd, saI_d ib, gi_si, if_neg (by omega), gi_si, if_neg (by omega), gi_si, if_neg (by omega), hwd, saI_d ib, gi_si, if_neg (by omega), gi_si, if_neg (by omega), gi_si, if_neg (by omega), gi_si, if_neg (by omega), hwd, stI_d, nI_1, ix_nI (by omega), M_lays ho, bV_s]
  by_cases c : dn = 40
  · rw [if_pos (by rw [h11', c]; rfl)]
    rw [show (1 : Int32) = nI 1 from rfl, M_shf fu 1 _ (by omega) (by omega) (by decide), h11']
    have e : nI dn - 1 = nI 39 := by rw [c]; decide
    rw [e]
    have e2 : drM dn (si w 54 12 0) = si (shf 1 (si w 54 12 0)) 54 11 39 := by unfold drM; rw [if_pos c]
    rw [e2]
    exact main _ (by rw [gi_si, if_pos ⟨rfl, rfl⟩]; unfold sh1; rw [if_pos c, c])
  · rw [if_neg (by rw [h11']; simp only [fa_lt, fa_le, fa_eq, inb, ti_m14, ti_m13, ti_m12, ti_m11, ti_m10, ti_m9, ti_m8, ti_m7, ti_m6, ti_m5, ti_m4, ti_m3, ti_m2, ti_m1, ti_0, ti_1, ti_2, ti_3, ti_4, ti_5, ti_6, ti_7, ti_8, ti_9, ti_10, ti_11, ti_12, ti_13, ti_14, ti_15, ti_16, ti_17, ti_18, ti_19, ti_20, ti_21, ti_22, ti_23, ti_24, ti_25, ti_26, ti_27, ti_28, ti_29, ti_30, ti_31, ti_32, ti_33, ti_34, ti_35, ti_36, ti_37, ti_38, ti_39, ti_40, ti_41, ti_42, ti_43, ti_44, ti_45, ti_46, ti_47, ti_48, ti_49, ti_50, ti_51, ti_52, ti_53, ti_54, ti_55, ti_56, ti_57, ti_58, ti_59, ti_60, ti_61, ti_62, ti_63, ti_64, ti_99, ti_100, ti_120, ti_122, ti_124, ti_128, ti_130, ti_255, ti_256, ti_260, ti_360, ti_999, ti_1000, ti_9999, ti_10000]; omega)]
    have e2 : drM dn (si w 54 12 0) = si w 54 12 0 := by unfold drM; rw [if_neg c]
    rw [e2]
    exact main _ (by rw [h11']; unfold sh1; rw [if_neg c]; rfl)
theorem X_become {w : Wd} {dn q r : Nat} {v : Int32} (ho : okq q r) (hd : dn ≤ 40) (h5 : gi w 1 5 = nI dn) (hne : ¬ gi w 2 (slt q r) = v) :
    f_X6_become (nI (slt q r)) v w = some (gi w 2 (slt q r), si (si (si (si (si (si (drX dn w) 3 (dn - sh1 dn) (nI (slt q r))) 4 (dn - sh1 dn) (gi w 2 (slt q r))) 5 (dn - sh1 dn) v) 1 5 (nI (dn - sh1 dn + 1))) 1 6 (nI (dn - sh1 dn + 1))) 2 (slt q r) v) := by
  have hl := slt_lt ho
  have t := nI_toInt (n := slt q r) (by omega)
  have hsh : dn - sh1 dn < 40 := by
    unfold sh1
    split <;> omega
  have hd5 : gi (drX dn w) 1 5 = nI (dn - sh1 dn) := by rw [drX_at h5, if_pos ⟨rfl, rfl⟩]
  have ib : inb (nI (dn - sh1 dn)) 40 := inb_nI hsh (by decide)
  have ib2 : inb (nI (slt q r)) 37 := inb_nI hl (by decide)
  unfold f_X6_become
  rw [if_neg (by simp only [fa_lt, fa_le, fa_eq, inb, ti_m14, ti_m13, ti_m12, ti_m11, ti_m10, ti_m9, ti_m8, ti_m7, ti_m6, ti_m5, ti_m4, ti_m3, ti_m2, ti_m1, ti_0, ti_1, ti_2, ti_3, ti_4, ti_5, ti_6, ti_7, ti_8, ti_9, ti_10, ti_11, ti_12, ti_13, ti_14, ti_15, ti_16, ti_17, ti_18, ti_19, ti_20, ti_21, ti_22, ti_23, ti_24, ti_25, ti_26, ti_27, ti_28, ti_29, ti_30, ti_31, ti_32, ti_33, ti_34, ti_35, ti_36, ti_37, ti_38, ti_39, ti_40, ti_41, ti_42, ti_43, ti_44, ti_45, ti_46, ti_47, ti_48, ti_49, ti_50, ti_51, ti_52, ti_53, ti_54, ti_55, ti_56, ti_57, ti_58, ti_59, ti_60, ti_61, ti_62, ti_63, ti_64, ti_99, ti_100, ti_120, ti_122, ti_124, ti_128, ti_130, ti_255, ti_256, ti_260, ti_360, ti_999, ti_1000, ti_9999, ti_10000]; omega), if_pos (by simp only [fa_lt, fa_le, fa_eq, inb, ti_m14, ti_m13, ti_m12, ti_m11, ti_m10, ti_m9, ti_m8, ti_m7, ti_m6, ti_m5, ti_m4, ti_m3, ti_m2, ti_m1, ti_0, ti_1, ti_2, ti_3, ti_4, ti_5, ti_6, ti_7, ti_8, ti_9, ti_10, ti_11, ti_12, ti_13, ti_14, ti_15, ti_16, ti_17, ti_18, ti_19, ti_20, ti_21, ti_22, ti_23, ti_24, ti_25, ti_26, ti_27, ti_28, ti_29, ti_30, ti_31, ti_32, ti_33, ti_34, ti_35, ti_36, ti_37, ti_38, ti_39, ti_40, ti_41, ti_42, ti_43, ti_44, ti_45, ti_46, ti_47, ti_48, ti_49, ti_50, ti_51, ti_52, ti_53, ti_54, ti_55, ti_56, ti_57, ti_58, ti_59, ti_60, ti_61, ti_62, ti_63, ti_64, ti_99, ti_100, ti_120, ti_122, ti_124, ti_128, ti_130, ti_255, ti_256, ti_260, ti_360, ti_999, ti_1000, ti_9999, ti_10000]; omega), ldI_d ib2, ix_nI (by omega), if_neg hne, X_drop hd h5, bV_s]
  rw [hd5, saI_d ib, gi_si, if_neg (by omega), hd5, saI_d ib, gi_si, if_neg (by omega), gi_si, if_neg (by omega), hd5, saI_d ib, gi_si, if_neg (by omega), gi_si, if_neg (by omega), gi_si, if_neg (by omega), hd5, stI_d, nI_1, gi_si, if_pos ⟨rfl, rfl⟩, stI_d, saI_d ib2, ix_nI (by omega), ix_nI (by omega)]
theorem X_become_same {w : Wd} {q r : Nat} {v : Int32} (ho : okq q r) (he : gi w 2 (slt q r) = v) : f_X6_become (nI (slt q r)) v w = some (v, w) := by
  have hl := slt_lt ho
  have t := nI_toInt (n := slt q r) (by omega)
  unfold f_X6_become
  rw [if_neg (by simp only [fa_lt, fa_le, fa_eq, inb, ti_m14, ti_m13, ti_m12, ti_m11, ti_m10, ti_m9, ti_m8, ti_m7, ti_m6, ti_m5, ti_m4, ti_m3, ti_m2, ti_m1, ti_0, ti_1, ti_2, ti_3, ti_4, ti_5, ti_6, ti_7, ti_8, ti_9, ti_10, ti_11, ti_12, ti_13, ti_14, ti_15, ti_16, ti_17, ti_18, ti_19, ti_20, ti_21, ti_22, ti_23, ti_24, ti_25, ti_26, ti_27, ti_28, ti_29, ti_30, ti_31, ti_32, ti_33, ti_34, ti_35, ti_36, ti_37, ti_38, ti_39, ti_40, ti_41, ti_42, ti_43, ti_44, ti_45, ti_46, ti_47, ti_48, ti_49, ti_50, ti_51, ti_52, ti_53, ti_54, ti_55, ti_56, ti_57, ti_58, ti_59, ti_60, ti_61, ti_62, ti_63, ti_64, ti_99, ti_100, ti_120, ti_122, ti_124, ti_128, ti_130, ti_255, ti_256, ti_260, ti_360, ti_999, ti_1000, ti_9999, ti_10000]; omega), if_pos (by simp only [fa_lt, fa_le, fa_eq, inb, ti_m14, ti_m13, ti_m12, ti_m11, ti_m10, ti_m9, ti_m8, ti_m7, ti_m6, ti_m5, ti_m4, ti_m3, ti_m2, ti_m1, ti_0, ti_1, ti_2, ti_3, ti_4, ti_5, ti_6, ti_7, ti_8, ti_9, ti_10, ti_11, ti_12, ti_13, ti_14, ti_15, ti_16, ti_17, ti_18, ti_19, ti_20, ti_21, ti_22, ti_23, ti_24, ti_25, ti_26, ti_27, ti_28, ti_29, ti_30, ti_31, ti_32, ti_33, ti_34, ti_35, ti_36, ti_37, ti_38, ti_39, ti_40, ti_41, ti_42, ti_43, ti_44, ti_45, ti_46, ti_47, ti_48, ti_49, ti_50, ti_51, ti_52, ti_53, ti_54, ti_55, ti_56, ti_57, ti_58, ti_59, ti_60, ti_61, ti_62, ti_63, ti_64, ti_99, ti_100, ti_120, ti_122, ti_124, ti_128, ti_130, ti_255, ti_256, ti_260, ti_360, ti_999, ti_1000, ti_9999, ti_10000]; omega), ldI_d (inb_nI hl (by decide)), ix_nI (by omega), if_pos he, he]
theorem N_mend {w : Wd} {L dn um : Nat} (hN : NR L dn um w) (a1 a2 a3 : Int32) : ∃ r w1 w2 dn' um', f_X11_mend a1 a2 a3 w = some (r, w1) ∧ f_X12_mend a1 a2 a3 w1 = some (r, w2) ∧ NR L dn' um' w2 ∧ eqo aN w w2 := by
  obtain ⟨h1, h2, h3, h4, h5, h6, h7, h8, h9, h10⟩ := id hN
  have dv : Decidable (vld a1 a2 L) := Classical.propDecidable _
  by_cases hv : vld a1 a2 L
  · obtain ⟨q, r, rfl, rfl, ho, hr⟩ := vld_ok hv h1
    have hq11 : q ≤ 11 := ho.1
    have ts := nI_toInt (n := slt q r) (by have := slt_lt ho; omega)
    have eX : ∀ x : Option (Int32 × Wd), f_X6_become (nI (slt q r)) a3 w = x → f_X11_mend (nI r) (nI q) a3 w = if inr q a3 then x else some (-1, w) := by
      intro x hx
      unfold f_X11_mend
      rw [X_slot_ok h2 h1 ho hr, bR_s, if_neg (by simp only [fa_lt, fa_le, fa_eq, inb, ti_m14, ti_m13, ti_m12, ti_m11, ti_m10, ti_m9, ti_m8, ti_m7, ti_m6, ti_m5, ti_m4, ti_m3, ti_m2, ti_m1, ti_0, ti_1, ti_2, ti_3, ti_4, ti_5, ti_6, ti_7, ti_8, ti_9, ti_10, ti_11, ti_12, ti_13, ti_14, ti_15, ti_16, ti_17, ti_18, ti_19, ti_20, ti_21, ti_22, ti_23, ti_24, ti_25, ti_26, ti_27, ti_28, ti_29, ti_30, ti_31, ti_32, ti_33, ti_34, ti_35, ti_36, ti_37, ti_38, ti_39, ti_40, ti_41, ti_42, ti_43, ti_44, ti_45, ti_46, ti_47, ti_48, ti_49, ti_50, ti_51, ti_52, ti_53, ti_54, ti_55, ti_56, ti_57, ti_58, ti_59, ti_60, ti_61, ti_62, ti_63, ti_64, ti_99, ti_100, ti_120, ti_122, ti_124, ti_128, ti_130, ti_255, ti_256, ti_260, ti_360, ti_999, ti_1000, ti_9999, ti_10000]; omega), X_mayBe_ok hq11, bR_s, ite_b2i, hx]
      by_cases hi : inr q a3
      · rw [if_pos hi, if_pos hi]
        cases x with
        | none => rfl
        | some y => rfl
      · rw [if_neg hi, if_neg hi]
    have eM : ∀ (w1 : Wd) (x : Option (Int32 × Wd)), gi w1 54 3 = nI L → f_X12_changes (nI q) (nI r) a3 w1 = x → f_X12_mend (nI r) (nI q) a3 w1 = if inr q a3 then x else some (-1, w1) := by
      intro w1 x hw1 hx
      unfold f_X12_mend
      rw [M_isOne hw1 h1, bR_s, ite_b2i, if_pos hv, M_mayBe_ok hq11, bR_s, ite_b2i, hx]
      by_cases hi : inr q a3
      · rw [if_pos hi, if_pos hi]
        cases x with
        | none => rfl
        | some y => rfl
      · rw [if_neg hi, if_neg hi]
    obtain ⟨e9, r9⟩ := h9 q r ho
    by_cases hi : inr q a3
    · by_cases he : gi w 2 (slt q r) = a3
      · refine ⟨a3, w, w, dn, um, ?_, ?_, hN, eqo_rf w⟩
        · rw [eX _ (X_become_same ho he), if_pos hi]
        · rw [eM w (some (a3, w)) h3 (by unfold f_X12_changes; rw [M_valueAt ho, bR_s, if_pos (by rw [← e9]; exact he), ← e9, he]), if_pos hi]
      · have hd : dn ≤ 40 := by omega
        have hB := X_become ho hd h5 he
        have hsh : dn - sh1 dn < 40 ∧ (dn - sh1 dn) + sh1 dn = dn := by
          unfold sh1
          split <;> omega
        generalize hdd : dn - sh1 dn = d at hB hsh
        generalize hw1 : si (si (si (si (si (si (drX dn w) 3 d (nI (slt q r))) 4 d (gi w 2 (slt q r))) 5 d a3) 1 5 (nI (d + 1))) 1 6 (nI (d + 1))) 2 (slt q r) a3 = w1 at hB
        have k1 : ∀ c k, 6 ≤ c → gi w1 c k = gi w c k := by
          intro c k hc
          rw [← hw1]
          simp only [gi_si, drX_at h5]
          repeat' (rw [if_neg (by omega)])
        have g1 : ∀ c k, gl w1 c k = gl w c k := by
          intro c k
          rw [← hw1]
          simp only [gl_si, drX_gl]
        have hmc : 54 ≤ mc q := by rcases mc_rng q with e | e | e | e | e <;> omega
        have hC := M_changes (w := w1) (v := a3) ho hd (by rw [k1 _ _ (by omega)]; exact h7) (by rw [k1 _ _ (by omega), ← e9]; exact he)
        rw [k1 _ _ (by omega), ← e9, hdd] at hC
        generalize hw2 : si (si (si (si (si (si (drM dn (si w1 54 12 0)) 59 d (nI q)) 60 d (nI r)) 61 d (gi w 2 (slt q r))) 62 d a3) 54 11 (nI (d + 1))) (mc q) (mi q r) a3 = w2 at hC
        have h11 : gi (si w1 54 12 0) 54 11 = nI dn := by rw [gi_si, if_neg (by omega), k1 _ _ (by omega)]; exact h7
        have hmi := mi_54 ho
        have f2 : ∀ c k, c ≤ 53 → gi w2 c k = gi w1 c k := by
          intro c k hc
          rw [← hw2]
          simp only [gi_si, drM_at h11]
          repeat' (rw [if_neg (by omega)])
        have x1 : ∀ c k, gi w1 c k = if c = 2 ∧ k = slt q r then a3 else if c = 1 ∧ k = 6 then nI (d + 1) else if c = 1 ∧ k = 5 then nI (d + 1) else if c = 5 ∧ k = d then a3 else if c = 4 ∧ k = d then gi w 2 (slt q r) else if c = 3 ∧ k = d then nI (slt q r) else if c = 1 ∧ k = 5 then nI d else if 3 ≤ c ∧ c ≤ 5 ∧ k < 39 then gi w c (k + sh1 dn) else gi w c k := by
          intro c k
          rw [← hw1]
          simp only [gi_si, drX_at h5, hdd]
        have x2 : ∀ c k, gi w2 c k = if c = mc q ∧ k = mi q r then a3 else if c = 54 ∧ k = 11 then nI (d + 1) else if c = 62 ∧ k = d then a3 else if c = 61 ∧ k = d then gi w 2 (slt q r) else if c = 60 ∧ k = d then nI r else if c = 59 ∧ k = d then nI q else if c = 54 ∧ k = 11 then nI d else if 59 ≤ c ∧ c ≤ 62 ∧ k < 39 then (if c = 54 ∧ k + sh1 dn = 12 then 0 else gi w1 c (k + sh1 dn)) else if c = 54 ∧ k = 12 then 0 else gi w1 c k := by
          intro c k
          rw [← hw2]
          simp only [gi_si, drM_at h11, hdd]
        refine ⟨gi w 2 (slt q r), w1, w2, d + 1, 0, ?_, ?_, ⟨h1, ?_, ?_, by omega, ?_, ?_, ?_, ?_, ?_, ?_⟩, ?_⟩
        · rw [eX _ hB, if_pos hi]
        · rw [eM w1 _ (by rw [k1 _ _ (by omega)]; exact h3) hC, if_pos hi]
        · rw [f2 _ _ (by omega), x1]
          simp
          exact h2
        · rw [x2, if_neg (by intro z; have := hmi z.1.symm; omega)]
          simp
          rw [k1 _ _ (by omega)]
          exact h3
        · rw [f2 _ _ (by omega), x1]
          simp
        · rw [f2 _ _ (by omega), x1]
          simp
        · rw [x2, if_neg (by intro z; have := hmi z.1.symm; omega)]
          simp
        · rw [x2, if_neg (by intro z; have := hmi z.1.symm; omega)]
          simp
          rfl
        · intro q' r' ho'
          have a1 : gi w2 2 (slt q' r') = if slt q' r' = slt q r then a3 else gi w 2 (slt q' r') := by
            rw [f2 _ _ (by omega), x1]
            simp
          have a2 : gi w2 (mc q') (mi q' r') = if mc q' = mc q ∧ mi q' r' = mi q r then a3 else gi w (mc q') (mi q' r') := by
            have hr' := mc_rng q'
            have h54 := mi_54 ho'
            rw [x2]
            by_cases z : mc q' = mc q ∧ mi q' r' = mi q r
            · rw [if_pos z, if_pos z]
            · rw [if_neg z, if_neg z]
              have n1 : ¬ (mc q' = 54 ∧ mi q' r' = 11) := by intro y; have := h54 y.1; omega
              have n2 : ¬ (mc q' = 54 ∧ mi q' r' = 12) := by intro y; have := h54 y.1; omega
              have n3 : ¬ (59 ≤ mc q' ∧ mc q' ≤ 62 ∧ mi q' r' < 39) := by omega
              rw [if_neg n1, if_neg (by omega), if_neg (by omega), if_neg (by omega), if_neg (by omega), if_neg n1, if_neg n3, if_neg n2, k1 _ _ (by omega)]
          rw [a1, a2]
          by_cases z : q' = q ∧ r' = r
          · obtain ⟨rfl, rfl⟩ := z
            rw [if_pos rfl, if_pos ⟨rfl, rfl⟩]
            exact ⟨rfl, hi⟩
          · rw [if_neg (fun y => z (slt_inj ho' ho y)), if_neg (fun y => z (mi_inj ho' ho y.1 y.2))]
            exact h9 q' r' ho'
        · intro i hi'
          by_cases z : i = d
          · subst z
            refine ⟨q, r, ho, ?_, ?_, ?_, ?_, ?_, ?_, ?_⟩
            · rw [x2, if_neg (by intro y; rcases mc_rng q with e | e | e | e | e <;> omega)]; simp
            · rw [x2, if_neg (by intro y; rcases mc_rng q with e | e | e | e | e <;> omega)]; simp
            · rw [f2 _ _ (by omega), x1]; simp
            · rw [f2 _ _ (by omega), x1, x2, if_neg (c := 61 = mc q ∧ i = mi q r) (by intro y; rcases mc_rng q with e | e | e | e | e <;> omega)]; simp
            · rw [f2 _ _ (by omega), x1, x2, if_neg (c := 62 = mc q ∧ i = mi q r) (by intro y; rcases mc_rng q with e | e | e | e | e <;> omega)]; simp
            · rw [x2, if_neg (by intro y; rcases mc_rng q with e | e | e | e | e <;> omega)]; simp; exact r9
            · rw [x2, if_neg (by intro y; rcases mc_rng q with e | e | e | e | e <;> omega)]; simp; exact hi
          · have hid : i < d := by omega
            have h39 : i < 39 := by omega
            obtain ⟨q', r', ho', b1, b2, b3, b4, b5, b6, b7⟩ := h10 (i + sh1 dn) (by omega)
            have y3 : ∀ c, 3 ≤ c → c ≤ 5 → gi w2 c i = gi w c (i + sh1 dn) := by
              intro c hc1 hc2
              rw [f2 _ _ (by omega), x1, if_neg (by omega), if_neg (by omega), if_neg (by omega), if_neg (by omega), if_neg (by omega), if_neg (by omega), if_neg (by omega), if_pos ⟨hc1, hc2, h39⟩]
            have y59 : ∀ c, 59 ≤ c → c ≤ 62 → gi w2 c i = gi w c (i + sh1 dn) := by
              intro c hc1 hc2
              rw [x2, if_neg (by intro y; rcases mc_rng q with e | e | e | e | e <;> omega)]
              rw [if_neg (by omega), if_neg (by omega), if_neg (by omega), if_neg (by omega), if_neg (by omega), if_neg (by omega), if_pos ⟨hc1, hc2, h39⟩, if_neg (by omega), k1 _ _ (by omega)]
            refine ⟨q', r', ho', ?_, ?_, ?_, ?_, ?_, ?_, ?_⟩
            · rw [y59 59 (by omega) (by omega)]; exact b1
            · rw [y59 60 (by omega) (by omega)]; exact b2
            · rw [y3 3 (by omega) (by omega)]; exact b3
            · rw [y3 4 (by omega) (by omega), y59 61 (by omega) (by omega)]; exact b4
            · rw [y3 5 (by omega) (by omega), y59 62 (by omega) (by omega)]; exact b5
            · rw [y59 61 (by omega) (by omega)]; exact b6
            · rw [y59 62 (by omega) (by omega)]; exact b7
        · intro c k hk
          have z1 : ¬ (1 ≤ c ∧ c ≤ 5) := by intro y; simp [aN, y] at hk
          have z2 : ¬ (55 ≤ c ∧ c ≤ 62) := by intro y; simp [aN, y] at hk
          have z3 : c = 54 → k ≠ 3 ∧ ¬ (6 ≤ k ∧ k ≤ 12) := by
            intro y
            subst y
            simp [aN] at hk
            omega
          refine ⟨?_, ?_⟩
          · rw [x2]
            have m1 : ¬ (c = mc q ∧ k = mi q r) := by
              intro y
              rcases mc_rng q with e | e | e | e | e
              · have := hmi e; have := z3 (by omega); omega
              all_goals omega
            rw [if_neg m1, if_neg (by intro y; have := z3 y.1; omega), if_neg (by omega), if_neg (by omega), if_neg (by omega), if_neg (by omega), if_neg (by intro y; have := z3 y.1; omega), if_neg (by omega), if_neg (by intro y; have := z3 y.1; omega), x1]
            repeat' (rw [if_neg (by omega)])
          · rw [← hw2]
            simp only [gl_si, drM_gl, g1]
    · refine ⟨-1, w, w, dn, um, ?_, ?_, hN, eqo_rf w⟩
      · rw [eX _ rfl, if_neg hi]
      · rw [eM w _ h3 rfl, if_neg hi]
  · refine ⟨-1, w, w, dn, um, ?_, ?_, hN, eqo_rf w⟩
    · unfold f_X11_mend
      rw [X_slot_no h2 h1 hv, bR_s, if_pos (by decide)]
    · unfold f_X12_mend
      rw [M_isOne h3 h1, bR_s, ite_b2i, if_neg hv]
theorem N_of {w : Wd} {L dn um : Nat} (hN : NR L dn um w) (a1 a2 : Int32) : ∃ r, f_X11_of a1 a2 w = some r ∧ f_X12_of a1 a2 w = some r := by
  obtain ⟨h1, h2, h3, h4, h5, h6, h7, h8, h9, h10⟩ := id hN
  have dv : Decidable (vld a1 a2 L) := Classical.propDecidable _
  by_cases hv : vld a1 a2 L
  · obtain ⟨q, r, rfl, rfl, ho, hr⟩ := vld_ok hv h1
    have ts := nI_toInt (n := slt q r) (by have := slt_lt ho; omega)
    refine ⟨gi w 2 (slt q r), ?_, ?_⟩
    · unfold f_X11_of
      rw [X_slot_ok h2 h1 ho hr, bR_s, if_pos (by simp only [fa_lt, fa_le, fa_eq, inb, ti_m14, ti_m13, ti_m12, ti_m11, ti_m10, ti_m9, ti_m8, ti_m7, ti_m6, ti_m5, ti_m4, ti_m3, ti_m2, ti_m1, ti_0, ti_1, ti_2, ti_3, ti_4, ti_5, ti_6, ti_7, ti_8, ti_9, ti_10, ti_11, ti_12, ti_13, ti_14, ti_15, ti_16, ti_17, ti_18, ti_19, ti_20, ti_21, ti_22, ti_23, ti_24, ti_25, ti_26, ti_27, ti_28, ti_29, ti_30, ti_31, ti_32, ti_33, ti_34, ti_35, ti_36, ti_37, ti_38, ti_39, ti_40, ti_41, ti_42, ti_43, ti_44, ti_45, ti_46, ti_47, ti_48, ti_49, ti_50, ti_51, ti_52, ti_53, ti_54, ti_55, ti_56, ti_57, ti_58, ti_59, ti_60, ti_61, ti_62, ti_63, ti_64, ti_99, ti_100, ti_120, ti_122, ti_124, ti_128, ti_130, ti_255, ti_256, ti_260, ti_360, ti_999, ti_1000, ti_9999, ti_10000]; omega), X_get_ok h2 h1 ho hr, bR_s]
    · unfold f_X12_of
      rw [M_isOne h3 h1, bR_s, ite_b2i, if_pos hv, M_valueAt ho, bR_s, (h9 q r ho).1]
  · refine ⟨-1, ?_, ?_⟩
    · unfold f_X11_of
      rw [X_slot_no h2 h1 hv, bR_s, if_neg (by decide)]
    · unfold f_X12_of
      rw [M_isOne h3 h1, bR_s, ite_b2i, if_neg hv]
