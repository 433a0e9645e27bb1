/-! SHELVES -/
def shE (s : Nat) (w : Wd) : Prop := gi w (42 + 2 * s) 0 = 0 ∧ gi w 82 s = -1
def shB (s b : Nat) (w : Wd) : Prop := gi w (42 + 2 * s) 0 = 1 ∧ gi w (42 + 2 * s) 1 = nI b ∧ gi w 82 s = nI b
def shR (s t n : Nat) (w : Wd) : Prop := gi w (42 + 2 * s) 0 = 2 ∧ gi w (42 + 2 * s) 2 = nI t ∧ gi w (42 + 2 * s) 3 = nI n ∧ gi w 82 s = -2 - nI t ∧ gi w 83 s = nI n ∧ t ≤ 4 ∧ n ≤ 60 ∧ (∀ i, i < n → gl w (42 + 2 * s + 1) i = gl w 84 (60 * s + i)) ∧ (t = 0 → ∀ i, i < n → -128 ≤ (gl w (42 + 2 * s + 1) i).toInt ∧ (gl w (42 + 2 * s + 1) i).toInt ≤ 127)
def shOK (nb s : Nat) (w : Wd) : Prop := shE s w ∨ (∃ b, b < nb ∧ shB s b w) ∨ (∃ t n, shR s t n w)
def SR (nb : Nat) (w : Wd) : Prop := nb ≤ 50 ∧ ∀ s, s < 6 → shOK nb s w
def aS (c _k : Nat) : Bool := (42 ≤ c && c ≤ 53) || (82 ≤ c && c ≤ 84)
theorem shOK_cg {nb s : Nat} {w w' : Wd} (h : shOK nb s w) (h1 : ∀ k, gi w' (42 + 2 * s) k = gi w (42 + 2 * s) k) (h2 : ∀ k, gl w' (42 + 2 * s + 1) k = gl w (42 + 2 * s + 1) k) (h3 : gi w' 82 s = gi w 82 s) (h4 : gi w' 83 s = gi w 83 s) (h5 : ∀ i, i < 60 → gl w' 84 (60 * s + i) = gl w 84 (60 * s + i)) : shOK nb s w' := by
  rcases h with ⟨a, b⟩ | ⟨b, hb, a1, a2, a3⟩ | ⟨t, n, a1, a2, a3, a4, a5, a6, a7, a8, a9⟩
  · exact Or.inl ⟨by rw [h1]; exact a, by rw [h3]; exact b⟩
  · exact Or.inr (Or.inl ⟨b, hb, by rw [h1]; exact a1, by rw [h1]; exact a2, by rw [h3]; exact a3⟩)
  · refine Or.inr (Or.inr ⟨t, n, by rw [h1]; exact a1, by rw [h1]; exact a2, by rw [h1]; exact a3, by rw [h3]; exact a4, by rw [h4]; exact a5, a6, a7, fun i hi => ?_, fun ht i hi => ?_⟩)
    · rw [h2, h5 i (by omega)]; exact a8 i hi
    · rw [h2]; exact a9 ht i hi
theorem SR_cg {nb nb' : Nat} {w w' : Wd} (h : SR nb w) (hn : nb ≤ nb') (hn2 : nb' ≤ 50) (he : ∀ c k, aS c k = true → gi w' c k = gi w c k ∧ gl w' c k = gl w c k) : SR nb' w' := by
  refine ⟨hn2, fun s hs => ?_⟩
  have h0 : shOK nb' s w := by
    rcases h.2 s hs with a | ⟨b, hb, a⟩ | a
    · exact Or.inl a
    · exact Or.inr (Or.inl ⟨b, by omega, a⟩)
    · exact Or.inr (Or.inr a)
  exact shOK_cg h0 (fun k => (he _ _ (by simp [aS]; omega)).1) (fun k => (he _ _ (by simp [aS]; omega)).2) (he _ _ (by simp [aS])).1 (he _ _ (by simp [aS])).1 (fun i _ => (he _ _ (by simp [aS])).2)
theorem X_isEmpty (c : Nat) (w : Wd) : f_X9_isEmpty c w = some (b2i (gi w c 0 = 0)) := by
  unfold f_X9_isEmpty b2i
  split <;> rfl
theorem X_isRow (c : Nat) (w : Wd) : f_X9_isRow c w = some (b2i (gi w c 0 = 2)) := by
  unfold f_X9_isRow b2i
  split <;> rfl
theorem X_isBytes (c : Nat) (w : Wd) : f_X9_isBytes c w = some (b2i (gi w c 0 = 2 ∧ gi w c 2 = 0)) := by
  unfold f_X9_isBytes b2i
  by_cases h1 : gi w c 0 = 2
  · by_cases h2 : gi w c 2 = 0
    · simp [h1, h2]
    · simp [h1, h2]
  · simp [h1]
theorem X_hasPlace {c n : Nat} {w : Wd} (h : gi w c 3 = nI n) (hn : n ≤ 60) (i : Int32) : f_X9_hasPlace c i w = some (b2i (inb i n)) := by
  have t := nI_toInt (n := n) (by omega)
  unfold f_X9_hasPlace b2i
  rw [h]
  simp only [fa_lt, fa_le, fa_eq, inb, ti_m14, ti_m13, ti_m12, ti_m11, ti_m10, ti_m9, ti_m8, ti_m7, ti_m6, ti_m5, ti_m4, ti_m3, ti_m2, ti_m1, ti_0, ti_1, ti_2, ti_3, ti_4, ti_5, ti_6, ti_7, ti_8, ti_9, ti_10, ti_11, ti_12, ti_13, ti_14, ti_15, ti_16, ti_17, ti_18, ti_19, ti_20, ti_21, ti_22, ti_23, ti_24, ti_25, ti_26, ti_27, ti_28, ti_29, ti_30, ti_31, ti_32, ti_33, ti_34, ti_35, ti_36, ti_37, ti_38, ti_39, ti_40, ti_41, ti_42, ti_43, ti_44, ti_45, ti_46, ti_47, ti_48, ti_49, ti_50, ti_51, ti_52, ti_53, ti_54, ti_55, ti_56, ti_57, ti_58, ti_59, ti_60, ti_61, ti_62, ti_63, ti_64, ti_99, ti_100, ti_120, ti_122, ti_124, ti_128, ti_130, ti_255, ti_256, ti_260, ti_360, ti_999, ti_1000, ti_9999, ti_10000]
  repeat' split
  all_goals first | rfl | (exfalso; omega)
abbrev plc (i m : Int32) (n : Nat) : Prop := 0 ≤ i.toInt ∧ 0 ≤ m.toInt ∧ i.toInt + m.toInt ≤ (n : Int)
theorem X_hasPlaces {c n : Nat} {w : Wd} (h : gi w c 3 = nI n) (hn : n ≤ 60) (i m : Int32) : f_X9_hasPlaces c i m w = some (b2i (plc i m n)) := by
  have t := nI_toInt (n := n) (by omega)
  unfold f_X9_hasPlaces b2i
  rw [h]
  by_cases c1 : i < 0
  · rw [if_pos c1, if_neg (by simp only [fa_lt, fa_le, fa_eq, inb, ti_m14, ti_m13, ti_m12, ti_m11, ti_m10, ti_m9, ti_m8, ti_m7, ti_m6, ti_m5, ti_m4, ti_m3, ti_m2, ti_m1, ti_0, ti_1, ti_2, ti_3, ti_4, ti_5, ti_6, ti_7, ti_8, ti_9, ti_10, ti_11, ti_12, ti_13, ti_14, ti_15, ti_16, ti_17, ti_18, ti_19, ti_20, ti_21, ti_22, ti_23, ti_24, ti_25, ti_26, ti_27, ti_28, ti_29, ti_30, ti_31, ti_32, ti_33, ti_34, ti_35, ti_36, ti_37, ti_38, ti_39, ti_40, ti_41, ti_42, ti_43, ti_44, ti_45, ti_46, ti_47, ti_48, ti_49, ti_50, ti_51, ti_52, ti_53, ti_54, ti_55, ti_56, ti_57, ti_58, ti_59, ti_60, ti_61, ti_62, ti_63, ti_64, ti_99, ti_100, ti_120, ti_122, ti_124, ti_128, ti_130, ti_255, ti_256, ti_260, ti_360, ti_999, ti_1000, ti_9999, ti_10000] at *; omega)]
  · by_cases c2 : m < 0
    · rw [if_neg c1, if_pos c2, if_neg (by simp only [fa_lt, fa_le, fa_eq, inb, ti_m14, ti_m13, ti_m12, ti_m11, ti_m10, ti_m9, ti_m8, ti_m7, ti_m6, ti_m5, ti_m4, ti_m3, ti_m2, ti_m1, ti_0, ti_1, ti_2, ti_3, ti_4, ti_5, ti_6, ti_7, ti_8, ti_9, ti_10, ti_11, ti_12, ti_13, ti_14, ti_15, ti_16, ti_17, ti_18, ti_19, ti_20, ti_21, ti_22, ti_23, ti_24, ti_25, ti_26, ti_27, ti_28, ti_29, ti_30, ti_31, ti_32, ti_33, ti_34, ti_35, ti_36, ti_37, ti_38, ti_39, ti_40, ti_41, ti_42, ti_43, ti_44, ti_45, ti_46, ti_47, ti_48, ti_49, ti_50, ti_51, ti_52, ti_53, ti_54, ti_55, ti_56, ti_57, ti_58, ti_59, ti_60, ti_61, ti_62, ti_63, ti_64, ti_99, ti_100, ti_120, ti_122, ti_124, ti_128, ti_130, ti_255, ti_256, ti_260, ti_360, ti_999, ti_1000, ti_9999, ti_10000] at *; omega)]
    · have e : (nI n - m).toInt = (n : Int) - m.toInt := by
        have := i_rng m
        rw [i_sub] <;> simp only [fa_lt, fa_le, fa_eq, inb, ti_m14, ti_m13, ti_m12, ti_m11, ti_m10, ti_m9, ti_m8, ti_m7, ti_m6, ti_m5, ti_m4, ti_m3, ti_m2, ti_m1, ti_0, ti_1, ti_2, ti_3, ti_4, ti_5, ti_6, ti_7, ti_8, ti_9, ti_10, ti_11, ti_12, ti_13, ti_14, ti_15, ti_16, ti_17, ti_18, ti_19, ti_20, ti_21, ti_22, ti_23, ti_24, ti_25, ti_26, ti_27, ti_28, ti_29, ti_30, ti_31, ti_32, ti_33, ti_34, ti_35, ti_36, ti_37, ti_38, ti_39, ti_40, ti_41, ti_42, ti_43, ti_44, ti_45, ti_46, ti_47, ti_48, ti_49, ti_50, ti_51, ti_52, ti_53, ti_54, ti_55, ti_56, ti_57, ti_58, ti_59, ti_60, ti_61, ti_62, ti_63, ti_64, ti_99, ti_100, ti_120, ti_122, ti_124, ti_128, ti_130, ti_255, ti_256, ti_260, ti_360, ti_999, ti_1000, ti_9999, ti_10000] at * <;> omega
      rw [if_neg c1, if_neg c2]
      simp only [fa_lt, fa_le, fa_eq, inb, ti_m14, ti_m13, ti_m12, ti_m11, ti_m10, ti_m9, ti_m8, ti_m7, ti_m6, ti_m5, ti_m4, ti_m3, ti_m2, ti_m1, ti_0, ti_1, ti_2, ti_3, ti_4, ti_5, ti_6, ti_7, ti_8, ti_9, ti_10, ti_11, ti_12, ti_13, ti_14, ti_15, ti_16, ti_17, ti_18, ti_19, ti_20, ti_21, ti_22, ti_23, ti_24, ti_25, ti_26, ti_27, ti_28, ti_29, ti_30, ti_31, ti_32, ti_33, ti_34, ti_35, ti_36, ti_37, ti_38, ti_39, ti_40, ti_41, ti_42, ti_43, ti_44, ti_45, ti_46, ti_47, ti_48, ti_49, ti_50, ti_51, ti_52, ti_53, ti_54, ti_55, ti_56, ti_57, ti_58, ti_59, ti_60, ti_61, ti_62, ti_63, ti_64, ti_99, ti_100, ti_120, ti_122, ti_124, ti_128, ti_130, ti_255, ti_256, ti_260, ti_360, ti_999, ti_1000, ti_9999, ti_10000] at *
      rw [e]
      repeat' split
      all_goals first | rfl | (exfalso; omega)
theorem X_read {c n : Nat} {w : Wd} (h : gi w c 3 = nI n) (hn : n ≤ 60) {i : Nat} (hi : i < n) : f_X9_read c (nI i) w = some (gl w (c + 1) i) := by
  unfold f_X9_read
  rw [X_hasPlace h hn, bR_s, ite_b2i, if_pos (inb_nI hi (by omega)), ldL_d (inb_nI (by omega) (by decide)), ix_nI (by omega)]
/-- of a shelf's number: which cell, on both sides -/
theorem sh_arg {a : Int32} (h : inb a 6) : ∃ s, s < 6 ∧ a = nI s ∧ (42 + 2 * ix a) = 42 + 2 * s := by
  obtain ⟨s, hs, rfl⟩ := of_inb h
  exact ⟨s, hs, rfl, by rw [ix_nI (by omega)]⟩
theorem m2_ne {t : Nat} (ht : t ≤ 4) : ¬ (-2 - nI t = (-1 : Int32)) ∧ (-2 - nI t < (0 : Int32)) ∧ (-2 - nI t).toInt = -2 - (t : Int) := by
  have e := nI_toInt (n := t) (by omega)
  have k : (-2 - nI t).toInt = -2 - (t : Int) := by
    rw [i_sub] <;> simp only [fa_lt, fa_le, fa_eq, inb, ti_m14, ti_m13, ti_m12, ti_m11, ti_m10, ti_m9, ti_m8, ti_m7, ti_m6, ti_m5, ti_m4, ti_m3, ti_m2, ti_m1, ti_0, ti_1, ti_2, ti_3, ti_4, ti_5, ti_6, ti_7, ti_8, ti_9, ti_10, ti_11, ti_12, ti_13, ti_14, ti_15, ti_16, ti_17, ti_18, ti_19, ti_20, ti_21, ti_22, ti_23, ti_24, ti_25, ti_26, ti_27, ti_28, ti_29, ti_30, ti_31, ti_32, ti_33, ti_34, ti_35, ti_36, ti_37, ti_38, ti_39, ti_40, ti_41, ti_42, ti_43, ti_44, ti_45, ti_46, ti_47, ti_48, ti_49, ti_50, ti_51, ti_52, ti_53, ti_54, ti_55, ti_56, ti_57, ti_58, ti_59, ti_60, ti_61, ti_62, ti_63, ti_64, ti_99, ti_100, ti_120, ti_122, ti_124, ti_128, ti_130, ti_255, ti_256, ti_260, ti_360, ti_999, ti_1000, ti_9999, ti_10000] <;> omega
  refine ⟨?_, ?_, k⟩
  · simp only [fa_lt, fa_le, fa_eq, inb, ti_m14, ti_m13, ti_m12, ti_m11, ti_m10, ti_m9, ti_m8, ti_m7, ti_m6, ti_m5, ti_m4, ti_m3, ti_m2, ti_m1, ti_0, ti_1, ti_2, ti_3, ti_4, ti_5, ti_6, ti_7, ti_8, ti_9, ti_10, ti_11, ti_12, ti_13, ti_14, ti_15, ti_16, ti_17, ti_18, ti_19, ti_20, ti_21, ti_22, ti_23, ti_24, ti_25, ti_26, ti_27, ti_28, ti_29, ti_30, ti_31, ti_32, ti_33, ti_34, ti_35, ti_36, ti_37, ti_38, ti_39, ti_40, ti_41, ti_42, ti_43, ti_44, ti_45, ti_46, ti_47, ti_48, ti_49, ti_50, ti_51, ti_52, ti_53, ti_54, ti_55, ti_56, ti_57, ti_58, ti_59, ti_60, ti_61, ti_62, ti_63, ti_64, ti_99, ti_100, ti_120, ti_122, ti_124, ti_128, ti_130, ti_255, ti_256, ti_260, ti_360, ti_999, ti_1000, ti_9999, ti_10000]; rw [k]; omega
  · simp only [fa_lt, fa_le, fa_eq, inb, ti_m14, ti_m13, ti_m12, ti_m11, ti_m10, ti_m9, ti_m8, ti_m7, ti_m6, ti_m5, ti_m4, ti_m3, ti_m2, ti_m1, ti_0, ti_1, ti_2, ti_3, ti_4, ti_5, ti_6, ti_7, ti_8, ti_9, ti_10, ti_11, ti_12, ti_13, ti_14, ti_15, ti_16, ti_17, ti_18, ti_19, ti_20, ti_21, ti_22, ti_23, ti_24, ti_25, ti_26, ti_27, ti_28, ti_29, ti_30, ti_31, ti_32, ti_33, ti_34, ti_35, ti_36, ti_37, ti_38, ti_39, ti_40, ti_41, ti_42, ti_43, ti_44, ti_45, ti_46, ti_47, ti_48, ti_49, ti_50, ti_51, ti_52, ti_53, ti_54, ti_55, ti_56, ti_57, ti_58, ti_59, ti_60, ti_61, ti_62, ti_63, ti_64, ti_99, ti_100, ti_120, ti_122, ti_124, ti_128, ti_130, ti_255, ti_256, ti_260, ti_360, ti_999, ti_1000, ti_9999, ti_10000]; rw [k]; omega
theorem m2_row {t : Nat} (ht : t ≤ 4) : ¬ (-2 - nI t = (-1 : Int32)) ∧ (-2 - nI t < (0 : Int32)) ∧ ¬ ((0 : Int32) ≤ -2 - nI t) := by
  obtain ⟨h1, h2, h3⟩ := m2_ne ht
  refine ⟨h1, h2, ?_⟩
  simp only [fa_lt, fa_le, fa_eq, inb, ti_m14, ti_m13, ti_m12, ti_m11, ti_m10, ti_m9, ti_m8, ti_m7, ti_m6, ti_m5, ti_m4, ti_m3, ti_m2, ti_m1, ti_0, ti_1, ti_2, ti_3, ti_4, ti_5, ti_6, ti_7, ti_8, ti_9, ti_10, ti_11, ti_12, ti_13, ti_14, ti_15, ti_16, ti_17, ti_18, ti_19, ti_20, ti_21, ti_22, ti_23, ti_24, ti_25, ti_26, ti_27, ti_28, ti_29, ti_30, ti_31, ti_32, ti_33, ti_34, ti_35, ti_36, ti_37, ti_38, ti_39, ti_40, ti_41, ti_42, ti_43, ti_44, ti_45, ti_46, ti_47, ti_48, ti_49, ti_50, ti_51, ti_52, ti_53, ti_54, ti_55, ti_56, ti_57, ti_58, ti_59, ti_60, ti_61, ti_62, ti_63, ti_64, ti_99, ti_100, ti_120, ti_122, ti_124, ti_128, ti_130, ti_255, ti_256, ti_260, ti_360, ti_999, ti_1000, ti_9999, ti_10000]
  rw [h3]
  omega
theorem m2_inj {t t' : Nat} (ht : t ≤ 4) (ht' : t' ≤ 4) (e : -2 - nI t = -2 - nI t') : t = t' := by
  have h := congrArg Int32.toInt e
  rw [(m2_ne ht).2.2, (m2_ne ht').2.2] at h
  omega
theorem sub_lt {N : Nat} (hN : N ≤ 60) {m i : Int32} (hm : ¬ m < 0) : (nI N - m < i) = ((N : Int) - m.toInt < i.toInt) := by
  have tN := nI_toInt (n := N) (by omega)
  have hr := i_rng m
  have e : (nI N - m).toInt = (N : Int) - m.toInt := by
    rw [i_sub] <;> simp only [fa_lt, fa_le, fa_eq, inb, ti_m14, ti_m13, ti_m12, ti_m11, ti_m10, ti_m9, ti_m8, ti_m7, ti_m6, ti_m5, ti_m4, ti_m3, ti_m2, ti_m1, ti_0, ti_1, ti_2, ti_3, ti_4, ti_5, ti_6, ti_7, ti_8, ti_9, ti_10, ti_11, ti_12, ti_13, ti_14, ti_15, ti_16, ti_17, ti_18, ti_19, ti_20, ti_21, ti_22, ti_23, ti_24, ti_25, ti_26, ti_27, ti_28, ti_29, ti_30, ti_31, ti_32, ti_33, ti_34, ti_35, ti_36, ti_37, ti_38, ti_39, ti_40, ti_41, ti_42, ti_43, ti_44, ti_45, ti_46, ti_47, ti_48, ti_49, ti_50, ti_51, ti_52, ti_53, ti_54, ti_55, ti_56, ti_57, ti_58, ti_59, ti_60, ti_61, ti_62, ti_63, ti_64, ti_99, ti_100, ti_120, ti_122, ti_124, ti_128, ti_130, ti_255, ti_256, ti_260, ti_360, ti_999, ti_1000, ti_9999, ti_10000] at * <;> omega
  rw [fa_lt, e]
theorem sub_ge {N : Nat} (hN : N ≤ 60) {m i : Int32} (hm : ¬ m < 0) : (i ≤ nI N - m) = (i.toInt ≤ (N : Int) - m.toInt) := by
  have tN := nI_toInt (n := N) (by omega)
  have hr := i_rng m
  have e : (nI N - m).toInt = (N : Int) - m.toInt := by
    rw [i_sub] <;> simp only [fa_lt, fa_le, fa_eq, inb, ti_m14, ti_m13, ti_m12, ti_m11, ti_m10, ti_m9, ti_m8, ti_m7, ti_m6, ti_m5, ti_m4, ti_m3, ti_m2, ti_m1, ti_0, ti_1, ti_2, ti_3, ti_4, ti_5, ti_6, ti_7, ti_8, ti_9, ti_10, ti_11, ti_12, ti_13, ti_14, ti_15, ti_16, ti_17, ti_18, ti_19, ti_20, ti_21, ti_22, ti_23, ti_24, ti_25, ti_26, ti_27, ti_28, ti_29, ti_30, ti_31, ti_32, ti_33, ti_34, ti_35, ti_36, ti_37, ti_38, ti_39, ti_40, ti_41, ti_42, ti_43, ti_44, ti_45, ti_46, ti_47, ti_48, ti_49, ti_50, ti_51, ti_52, ti_53, ti_54, ti_55, ti_56, ti_57, ti_58, ti_59, ti_60, ti_61, ti_62, ti_63, ti_64, ti_99, ti_100, ti_120, ti_122, ti_124, ti_128, ti_130, ti_255, ti_256, ti_260, ti_360, ti_999, ti_1000, ti_9999, ti_10000] at * <;> omega
  rw [fa_le, e]
theorem M_isBody {w : Wd} {nb : Nat} (hb : gi w 54 48 = nI nb) (hn : nb ≤ 50) (a : Int32) : f_X12_isBody a w = some (b2i (inb a nb)) := by
  unfold f_X12_isBody
  rw [M_in, bR_s, zb_b2i, hb]
  congr 1
  apply b2i_congr
  have := nI_toInt (n := nb) (by omega)
  have e : (nI nb - 1).toInt = (nb : Int) - 1 := by
    rw [i_sub] <;> simp only [fa_lt, fa_le, fa_eq, inb, ti_m14, ti_m13, ti_m12, ti_m11, ti_m10, ti_m9, ti_m8, ti_m7, ti_m6, ti_m5, ti_m4, ti_m3, ti_m2, ti_m1, ti_0, ti_1, ti_2, ti_3, ti_4, ti_5, ti_6, ti_7, ti_8, ti_9, ti_10, ti_11, ti_12, ti_13, ti_14, ti_15, ti_16, ti_17, ti_18, ti_19, ti_20, ti_21, ti_22, ti_23, ti_24, ti_25, ti_26, ti_27, ti_28, ti_29, ti_30, ti_31, ti_32, ti_33, ti_34, ti_35, ti_36, ti_37, ti_38, ti_39, ti_40, ti_41, ti_42, ti_43, ti_44, ti_45, ti_46, ti_47, ti_48, ti_49, ti_50, ti_51, ti_52, ti_53, ti_54, ti_55, ti_56, ti_57, ti_58, ti_59, ti_60, ti_61, ti_62, ti_63, ti_64, ti_99, ti_100, ti_120, ti_122, ti_124, ti_128, ti_130, ti_255, ti_256, ti_260, ti_360, ti_999, ti_1000, ti_9999, ti_10000] <;> omega
  rw [e]
  simp only [fa_lt, fa_le, fa_eq, inb, ti_m14, ti_m13, ti_m12, ti_m11, ti_m10, ti_m9, ti_m8, ti_m7, ti_m6, ti_m5, ti_m4, ti_m3, ti_m2, ti_m1, ti_0, ti_1, ti_2, ti_3, ti_4, ti_5, ti_6, ti_7, ti_8, ti_9, ti_10, ti_11, ti_12, ti_13, ti_14, ti_15, ti_16, ti_17, ti_18, ti_19, ti_20, ti_21, ti_22, ti_23, ti_24, ti_25, ti_26, ti_27, ti_28, ti_29, ti_30, ti_31, ti_32, ti_33, ti_34, ti_35, ti_36, ti_37, ti_38, ti_39, ti_40, ti_41, ti_42, ti_43, ti_44, ti_45, ti_46, ti_47, ti_48, ti_49, ti_50, ti_51, ti_52, ti_53, ti_54, ti_55, ti_56, ti_57, ti_58, ti_59, ti_60, ti_61, ti_62, ti_63, ti_64, ti_99, ti_100, ti_120, ti_122, ti_124, ti_128, ti_130, ti_255, ti_256, ti_260, ti_360, ti_999, ti_1000, ti_9999, ti_10000]
  omega
theorem X_has {w : Wd} {nb : Nat} (hb : gi w 39 1 = nI nb) (hn : nb ≤ 50) (a : Int32) : f_X0_has a w = some (b2i (inb a nb)) := by
  have := nI_toInt (n := nb) (by omega)
  unfold f_X0_has b2i
  rw [hb]
  simp only [fa_lt, fa_le, fa_eq, inb, ti_m14, ti_m13, ti_m12, ti_m11, ti_m10, ti_m9, ti_m8, ti_m7, ti_m6, ti_m5, ti_m4, ti_m3, ti_m2, ti_m1, ti_0, ti_1, ti_2, ti_3, ti_4, ti_5, ti_6, ti_7, ti_8, ti_9, ti_10, ti_11, ti_12, ti_13, ti_14, ti_15, ti_16, ti_17, ti_18, ti_19, ti_20, ti_21, ti_22, ti_23, ti_24, ti_25, ti_26, ti_27, ti_28, ti_29, ti_30, ti_31, ti_32, ti_33, ti_34, ti_35, ti_36, ti_37, ti_38, ti_39, ti_40, ti_41, ti_42, ti_43, ti_44, ti_45, ti_46, ti_47, ti_48, ti_49, ti_50, ti_51, ti_52, ti_53, ti_54, ti_55, ti_56, ti_57, ti_58, ti_59, ti_60, ti_61, ti_62, ti_63, ti_64, ti_99, ti_100, ti_120, ti_122, ti_124, ti_128, ti_130, ti_255, ti_256, ti_260, ti_360, ti_999, ti_1000, ti_9999, ti_10000]
  repeat' split
  all_goals first | rfl | (exfalso; omega)
/-- one shelf changes, on both sides -/
theorem SR_one {nb s : Nat} {w w2 : Wd} (h : SR nb w) (hs : s < 6) (hc : ∀ c k, gi w2 c k = gi w c k ∨ c = 42 + 2 * s ∨ ((c = 82 ∨ c = 83) ∧ k = s)) (hl : ∀ c k, gl w2 c k = gl w c k ∨ c = 42 + 2 * s + 1 ∨ c = 85 ∨ (c = 84 ∧ 60 * s ≤ k ∧ k < 60 * s + 60)) (hn : shOK nb s w2) : SR nb w2 := by
  refine ⟨h.1, fun s' hs' => ?_⟩
  by_cases e : s' = s
  · subst e; exact hn
  · refine shOK_cg (h.2 s' hs') (fun k => ?_) (fun k => ?_) ?_ ?_ (fun i hi => ?_)
    · rcases hc (42 + 2 * s') k with q | q | q
      · exact q
      · omega
      · omega
    · rcases hl (42 + 2 * s' + 1) k with q | q | q | q
      · exact q
      · omega
      · omega
      · omega
    · rcases hc 82 s' with q | q | q
      · exact q
      · omega
      · omega
    · rcases hc 83 s' with q | q | q
      · exact q
      · omega
      · omega
    · rcases hl 84 (60 * s' + i) with q | q | q | q
      · exact q
      · omega
      · omega
      · omega
theorem S_keep {w : Wd} {nb : Nat} (hS : SR nb w) (hX : gi w 39 1 = nI nb) (hM : gi w 54 48 = nI nb) (a1 a2 : Int32) : ∃ r w1 w2, f_X11_keep a1 a2 w = some (r, w1) ∧ f_X12_keep a1 a2 w1 = some (r, w2) ∧ SR nb w2 ∧ eqo aS w w2 := by
  have hn := hS.1
  by_cases hs : inb a1 6
  · obtain ⟨s, hs6, rfl, es⟩ := sh_arg hs
    by_cases h1 : a2 = -1
    · subst h1
      refine ⟨1, si w (42 + 2 * s) 0 0, si (si w (42 + 2 * s) 0 0) 82 s (-1), ?_, ?_, ?_, ?_⟩
      · unfold f_X11_keep f_X11_keep_b25 f_X9_holdNothing
        rw [X_isShelf, bR_s, ite_b2i, if_pos hs, if_pos rfl, if_pos rfl, ldR_d hs, es, stI_d, bV_s]
      · unfold f_X12_keep f_X12_keep_b22
        rw [M_isShelf, bR_s, ite_b2i, if_pos hs, if_pos rfl, saI_d hs, ix_nI (by omega)]
      · refine SR_one hS hs6 (fun c k => ?_) (fun c k => Or.inl rfl) (Or.inl ⟨?_, ?_⟩)
        · rw [gi_si, gi_si]
          by_cases q : c = 82 ∧ k = s
          · exact Or.inr (Or.inr ⟨Or.inl q.1, q.2⟩)
          · rw [if_neg q]
            by_cases q2 : c = 42 + 2 * s ∧ k = 0
            · exact Or.inr (Or.inl q2.1)
            · rw [if_neg q2]; exact Or.inl rfl
        · rw [gi_si, if_neg (by omega), gi_si, if_pos ⟨rfl, rfl⟩]
        · rw [gi_si, if_pos ⟨rfl, rfl⟩]
      · exact eqo_si (eqo_si (eqo_rf w) (by simp [aS]; omega)) (by simp [aS])
    · by_cases hb : inb a2 nb
      · obtain ⟨b, hb2, rfl⟩ := of_inb hb
        refine ⟨1, si (si w (42 + 2 * s) 0 1) (42 + 2 * s) 1 (nI b), si (si (si w (42 + 2 * s) 0 1) (42 + 2 * s) 1 (nI b)) 82 s (nI b), ?_, ?_, ?_, ?_⟩
        · unfold f_X11_keep f_X11_keep_b25 f_X9_holdBody
          rw [X_isShelf, bR_s, ite_b2i, if_pos hs, if_neg h1, X_has hX hn, bR_s, ite_b2i, if_pos hb, if_neg h1, ldR_d hs, es, stI_d, stI_d, bV_s]
        · unfold f_X12_keep f_X12_keep_b22
          rw [M_isShelf, bR_s, ite_b2i, if_pos hs, if_neg h1, M_isBody (nb := nb) (by rw [gi_si, if_neg (by omega), gi_si, if_neg (by omega)]; exact hM) hn, bR_s, ite_b2i, if_pos hb, saI_d hs, ix_nI (by omega)]
        · refine SR_one hS hs6 (fun c k => ?_) (fun c k => Or.inl rfl) (Or.inr (Or.inl ⟨b, hb2, ?_, ?_, ?_⟩))
          · simp only [gi_si]
            by_cases q : c = 82 ∧ k = s
            · exact Or.inr (Or.inr ⟨Or.inl q.1, q.2⟩)
            · by_cases q2 : c = 42 + 2 * s
              · exact Or.inr (Or.inl q2)
              · simp [q, q2]
          · rw [gi_si, if_neg (by omega), gi_si, if_neg (by omega), gi_si, if_pos ⟨rfl, rfl⟩]
          · rw [gi_si, if_neg (by omega), gi_si, if_pos ⟨rfl, rfl⟩]
          · rw [gi_si, if_pos ⟨rfl, rfl⟩]
        · exact eqo_si (eqo_si (eqo_si (eqo_rf w) (by simp [aS]; omega)) (by simp [aS]; omega)) (by simp [aS])
      · refine ⟨-1, w, w, ?_, ?_, hS, eqo_rf w⟩
        · unfold f_X11_keep
          rw [X_isShelf, bR_s, ite_b2i, if_pos hs, if_neg h1, X_has hX hn, bR_s, ite_b2i, if_neg hb]
        · unfold f_X12_keep
          rw [M_isShelf, bR_s, ite_b2i, if_pos hs, if_neg h1, M_isBody hM hn, bR_s, ite_b2i, if_neg hb]
  · refine ⟨-1, w, w, ?_, ?_, hS, eqo_rf w⟩
    · unfold f_X11_keep; rw [X_isShelf, bR_s, ite_b2i, if_neg hs]
    · unfold f_X12_keep; rw [M_isShelf, bR_s, ite_b2i, if_neg hs]
/-- zeros -/
def zl (c lo hi : Nat) (w : Wd) : Wd := (w.1, fun a b => if a = c ∧ lo ≤ b ∧ b < hi then 0 else w.2 a b)
theorem gi_zl (c lo hi : Nat) (w : Wd) (a b : Nat) : gi (zl c lo hi w) a b = gi w a b := rfl
theorem gl_zl (c lo hi : Nat) (w : Wd) (a b : Nat) : gl (zl c lo hi w) a b = if a = c ∧ lo ≤ b ∧ b < hi then 0 else gl w a b := rfl
theorem zl_step {c lo hi : Nat} {w : Wd} (h : lo < hi) : zl c (lo + 1) hi (sl w c lo 0) = zl c lo hi w := by
  refine wd_ext (fun _ _ => rfl) (fun a b => ?_)
  rw [gl_zl, gl_zl, gl_sl]
  by_cases e : a = c
  · subst e
    by_cases e2 : b = lo
    · subst e2
      simp [h]
    · by_cases e3 : lo ≤ b ∧ b < hi
      · have : lo + 1 ≤ b := by omega
        simp [e3, this]
      · have : ¬ (lo + 1 ≤ b ∧ b < hi) := by omega
        simp [e2, e3, this]
  · simp [e]
theorem zl_end {c lo : Nat} {w : Wd} : zl c lo lo w = w := by
  refine wd_ext (fun _ _ => rfl) (fun a b => ?_)
  rw [gl_zl, if_neg (by omega)]
theorem X_zero (c : Nat) : ∀ (n i : Nat) (w : Wd), i ≤ 60 → 60 - i < n → f_X9_holdRow_b28 n c (nI i) w = some (zl (c + 1) i 60 w)
  | 0, i, w, _, h => absurd h (by omega)
  | n + 1, i, w, h1, h2 => by
    have t := nI_toInt (n := i) (by omega)
    show f_X9_holdRow_b28_y (f_X9_holdRow_b28 n) c (nI i) w = _
    unfold f_X9_holdRow_b28_y
    by_cases e : i = 60
    · subst e
      rw [if_pos (by decide), zl_end]
    · rw [if_neg (by simp only [fa_lt, fa_le, fa_eq, inb, ti_m14, ti_m13, ti_m12, ti_m11, ti_m10, ti_m9, ti_m8, ti_m7, ti_m6, ti_m5, ti_m4, ti_m3, ti_m2, ti_m1, ti_0, ti_1, ti_2, ti_3, ti_4, ti_5, ti_6, ti_7, ti_8, ti_9, ti_10, ti_11, ti_12, ti_13, ti_14, ti_15, ti_16, ti_17, ti_18, ti_19, ti_20, ti_21, ti_22, ti_23, ti_24, ti_25, ti_26, ti_27, ti_28, ti_29, ti_30, ti_31, ti_32, ti_33, ti_34, ti_35, ti_36, ti_37, ti_38, ti_39, ti_40, ti_41, ti_42, ti_43, ti_44, ti_45, ti_46, ti_47, ti_48, ti_49, ti_50, ti_51, ti_52, ti_53, ti_54, ti_55, ti_56, ti_57, ti_58, ti_59, ti_60, ti_61, ti_62, ti_63, ti_64, ti_99, ti_100, ti_120, ti_122, ti_124, ti_128, ti_130, ti_255, ti_256, ti_260, ti_360, ti_999, ti_1000, ti_9999, ti_10000]; omega), saL_d (inb_nI (by omega) (by decide)), ix_nI (by omega), nI_1, X_zero c n (i + 1) _ (by omega) (by omega), zl_step (by omega)]
theorem M_zero {s : Nat} (hs : s < 6) : ∀ (n i : Nat) (w : Wd), i ≤ 60 → 60 - i < n → f_X12_row_b54 n (nI s) (nI (60 * s + i)) w = some (1, zl 84 (60 * s + i) (60 * s + 60) w)
  | 0, i, w, _, h => absurd h (by omega)
  | n + 1, i, w, h1, h2 => by
    have t := nI_toInt (n := 60 * s + i) (by omega)
    have e60 : (60 : Int32) * nI s + 60 = nI (60 * s + 60) := by rw [show (60 : Int32) = nI 60 from rfl, pk_mul, nI_add]
    have t60 := nI_toInt (n := 60 * s + 60) (by omega)
    show f_X12_row_b54_y (f_X12_row_b54 n) (nI s) (nI (60 * s + i)) w = _
    unfold f_X12_row_b54_y
    rw [e60]
    by_cases e : i = 60
    · subst e
      rw [if_pos (by simp only [fa_lt, fa_le, fa_eq, inb, ti_m14, ti_m13, ti_m12, ti_m11, ti_m10, ti_m9, ti_m8, ti_m7, ti_m6, ti_m5, ti_m4, ti_m3, ti_m2, ti_m1, ti_0, ti_1, ti_2, ti_3, ti_4, ti_5, ti_6, ti_7, ti_8, ti_9, ti_10, ti_11, ti_12, ti_13, ti_14, ti_15, ti_16, ti_17, ti_18, ti_19, ti_20, ti_21, ti_22, ti_23, ti_24, ti_25, ti_26, ti_27, ti_28, ti_29, ti_30, ti_31, ti_32, ti_33, ti_34, ti_35, ti_36, ti_37, ti_38, ti_39, ti_40, ti_41, ti_42, ti_43, ti_44, ti_45, ti_46, ti_47, ti_48, ti_49, ti_50, ti_51, ti_52, ti_53, ti_54, ti_55, ti_56, ti_57, ti_58, ti_59, ti_60, ti_61, ti_62, ti_63, ti_64, ti_99, ti_100, ti_120, ti_122, ti_124, ti_128, ti_130, ti_255, ti_256, ti_260, ti_360, ti_999, ti_1000, ti_9999, ti_10000]; omega), zl_end]
    · rw [if_neg (by simp only [fa_lt, fa_le, fa_eq, inb, ti_m14, ti_m13, ti_m12, ti_m11, ti_m10, ti_m9, ti_m8, ti_m7, ti_m6, ti_m5, ti_m4, ti_m3, ti_m2, ti_m1, ti_0, ti_1, ti_2, ti_3, ti_4, ti_5, ti_6, ti_7, ti_8, ti_9, ti_10, ti_11, ti_12, ti_13, ti_14, ti_15, ti_16, ti_17, ti_18, ti_19, ti_20, ti_21, ti_22, ti_23, ti_24, ti_25, ti_26, ti_27, ti_28, ti_29, ti_30, ti_31, ti_32, ti_33, ti_34, ti_35, ti_36, ti_37, ti_38, ti_39, ti_40, ti_41, ti_42, ti_43, ti_44, ti_45, ti_46, ti_47, ti_48, ti_49, ti_50, ti_51, ti_52, ti_53, ti_54, ti_55, ti_56, ti_57, ti_58, ti_59, ti_60, ti_61, ti_62, ti_63, ti_64, ti_99, ti_100, ti_120, ti_122, ti_124, ti_128, ti_130, ti_255, ti_256, ti_260, ti_360, ti_999, ti_1000, ti_9999, ti_10000]; omega), saL_d (inb_nI (by omega) (by decide)), ix_nI (by omega), nI_1, Nat.add_assoc, M_zero hs n (i + 1) _ (by omega) (by omega), ← Nat.add_assoc, zl_step (by omega)]
theorem S_row {w : Wd} {nb : Nat} (hS : SR nb w) (a1 a2 a3 : Int32) : ∃ r w1 w2, f_X11_row a1 a2 a3 w = some (r, w1) ∧ f_X12_row a1 a2 a3 w1 = some (r, w2) ∧ SR nb w2 ∧ eqo aS w w2 := by
  by_cases hs : inb a1 6
  · obtain ⟨s, hs6, rfl, es⟩ := sh_arg hs
    by_cases ht : inb a2 5
    · obtain ⟨t, ht5, rfl⟩ := of_inb ht
      have tt := nI_toInt (n := t) (by omega)
      by_cases h60 : a3 ≤ 60
      · by_cases h0 : 0 ≤ a3
        · have hb : inb a3 61 := by simp only [fa_lt, fa_le, fa_eq, inb, ti_m14, ti_m13, ti_m12, ti_m11, ti_m10, ti_m9, ti_m8, ti_m7, ti_m6, ti_m5, ti_m4, ti_m3, ti_m2, ti_m1, ti_0, ti_1, ti_2, ti_3, ti_4, ti_5, ti_6, ti_7, ti_8, ti_9, ti_10, ti_11, ti_12, ti_13, ti_14, ti_15, ti_16, ti_17, ti_18, ti_19, ti_20, ti_21, ti_22, ti_23, ti_24, ti_25, ti_26, ti_27, ti_28, ti_29, ti_30, ti_31, ti_32, ti_33, ti_34, ti_35, ti_36, ti_37, ti_38, ti_39, ti_40, ti_41, ti_42, ti_43, ti_44, ti_45, ti_46, ti_47, ti_48, ti_49, ti_50, ti_51, ti_52, ti_53, ti_54, ti_55, ti_56, ti_57, ti_58, ti_59, ti_60, ti_61, ti_62, ti_63, ti_64, ti_99, ti_100, ti_120, ti_122, ti_124, ti_128, ti_130, ti_255, ti_256, ti_260, ti_360, ti_999, ti_1000, ti_9999, ti_10000] at *; omega
          obtain ⟨n, hn, rfl⟩ := of_inb hb
          have tn := nI_toInt (n := n) (by omega)
          generalize hw1 : zl (42 + 2 * s + 1) 0 60 (si (si (si w (42 + 2 * s) 0 2) (42 + 2 * s) 2 (nI t)) (42 + 2 * s) 3 (nI n)) = w1
          generalize hw2 : zl 84 (60 * s + 0) (60 * s + 60) (si (si w1 82 s (-2 - nI t)) 83 s (nI n)) = w2
          refine ⟨1, w1, w2, ?_, ?_, ?_, ?_⟩
          · unfold f_X11_row f_X9_holdRow
            rw [X_isShelf, bR_s, ite_b2i, if_pos hs, if_neg (by simp only [fa_lt, fa_le, fa_eq, inb, ti_m14, ti_m13, ti_m12, ti_m11, ti_m10, ti_m9, ti_m8, ti_m7, ti_m6, ti_m5, ti_m4, ti_m3, ti_m2, ti_m1, ti_0, ti_1, ti_2, ti_3, ti_4, ti_5, ti_6, ti_7, ti_8, ti_9, ti_10, ti_11, ti_12, ti_13, ti_14, ti_15, ti_16, ti_17, ti_18, ti_19, ti_20, ti_21, ti_22, ti_23, ti_24, ti_25, ti_26, ti_27, ti_28, ti_29, ti_30, ti_31, ti_32, ti_33, ti_34, ti_35, ti_36, ti_37, ti_38, ti_39, ti_40, ti_41, ti_42, ti_43, ti_44, ti_45, ti_46, ti_47, ti_48, ti_49, ti_50, ti_51, ti_52, ti_53, ti_54, ti_55, ti_56, ti_57, ti_58, ti_59, ti_60, ti_61, ti_62, ti_63, ti_64, ti_99, ti_100, ti_120, ti_122, ti_124, ti_128, ti_130, ti_255, ti_256, ti_260, ti_360, ti_999, ti_1000, ti_9999, ti_10000]; omega), if_neg (by simp only [fa_lt, fa_le, fa_eq, inb, ti_m14, ti_m13, ti_m12, ti_m11, ti_m10, ti_m9, ti_m8, ti_m7, ti_m6, ti_m5, ti_m4, ti_m3, ti_m2, ti_m1, ti_0, ti_1, ti_2, ti_3, ti_4, ti_5, ti_6, ti_7, ti_8, ti_9, ti_10, ti_11, ti_12, ti_13, ti_14, ti_15, ti_16, ti_17, ti_18, ti_19, ti_20, ti_21, ti_22, ti_23, ti_24, ti_25, ti_26, ti_27, ti_28, ti_29, ti_30, ti_31, ti_32, ti_33, ti_34, ti_35, ti_36, ti_37, ti_38, ti_39, ti_40, ti_41, ti_42, ti_43, ti_44, ti_45, ti_46, ti_47, ti_48, ti_49, ti_50, ti_51, ti_52, ti_53, ti_54, ti_55, ti_56, ti_57, ti_58, ti_59, ti_60, ti_61, ti_62, ti_63, ti_64, ti_99, ti_100, ti_120, ti_122, ti_124, ti_128, ti_130, ti_255, ti_256, ti_260, ti_360, ti_999, ti_1000, ti_9999, ti_10000]; omega), if_pos h60, if_pos h0, ldR_d hs, es, if_neg (by simp only [fa_lt, fa_le, fa_eq, inb, ti_m14, ti_m13, ti_m12, ti_m11, ti_m10, ti_m9, ti_m8, ti_m7, ti_m6, ti_m5, ti_m4, ti_m3, ti_m2, ti_m1, ti_0, ti_1, ti_2, ti_3, ti_4, ti_5, ti_6, ti_7, ti_8, ti_9, ti_10, ti_11, ti_12, ti_13, ti_14, ti_15, ti_16, ti_17, ti_18, ti_19, ti_20, ti_21, ti_22, ti_23, ti_24, ti_25, ti_26, ti_27, ti_28, ti_29, ti_30, ti_31, ti_32, ti_33, ti_34, ti_35, ti_36, ti_37, ti_38, ti_39, ti_40, ti_41, ti_42, ti_43, ti_44, ti_45, ti_46, ti_47, ti_48, ti_49, ti_50, ti_51, ti_52, ti_53, ti_54, ti_55, ti_56, ti_57, ti_58, ti_59, ti_60, ti_61, ti_62, ti_63, ti_64, ti_99, ti_100, ti_120, ti_122, ti_124, ti_128, ti_130, ti_255, ti_256, ti_260, ti_360, ti_999, ti_1000, ti_9999, ti_10000]; omega), if_pos h60, stI_d, stI_d, stI_d, show (0 : Int32) = nI 0 from rfl, X_zero _ fu 0 _ (by omega) (by decide), bV_s, hw1]
          · unfold f_X12_row
            have e60 : (60 : Int32) * nI s = nI (60 * s + 0) := by rw [show (60 : Int32) = nI 60 from rfl, pk_mul, Nat.add_zero]
            rw [M_isShelf, bR_s, ite_b2i, if_pos hs, M_in, bR_s, ite_b2i, if_pos (by simp only [fa_lt, fa_le, fa_eq, inb, ti_m14, ti_m13, ti_m12, ti_m11, ti_m10, ti_m9, ti_m8, ti_m7, ti_m6, ti_m5, ti_m4, ti_m3, ti_m2, ti_m1, ti_0, ti_1, ti_2, ti_3, ti_4, ti_5, ti_6, ti_7, ti_8, ti_9, ti_10, ti_11, ti_12, ti_13, ti_14, ti_15, ti_16, ti_17, ti_18, ti_19, ti_20, ti_21, ti_22, ti_23, ti_24, ti_25, ti_26, ti_27, ti_28, ti_29, ti_30, ti_31, ti_32, ti_33, ti_34, ti_35, ti_36, ti_37, ti_38, ti_39, ti_40, ti_41, ti_42, ti_43, ti_44, ti_45, ti_46, ti_47, ti_48, ti_49, ti_50, ti_51, ti_52, ti_53, ti_54, ti_55, ti_56, ti_57, ti_58, ti_59, ti_60, ti_61, ti_62, ti_63, ti_64, ti_99, ti_100, ti_120, ti_122, ti_124, ti_128, ti_130, ti_255, ti_256, ti_260, ti_360, ti_999, ti_1000, ti_9999, ti_10000]; omega), if_pos h60, if_pos h0, saI_d hs, saI_d hs, ix_nI (by omega), lt_d, e60, M_zero hs6 fu 0 _ (by omega) (by decide), hw2]
          · have x2 : ∀ c k, gi w2 c k = if c = 83 ∧ k = s then nI n else if c = 82 ∧ k = s then -2 - nI t else if c = 42 + 2 * s ∧ k = 3 then nI n else if c = 42 + 2 * s ∧ k = 2 then nI t else if c = 42 + 2 * s ∧ k = 0 then 2 else gi w c k := by
              intro c k
              rw [← hw2, ← hw1]
              simp only [gi_zl, gi_si]
            have y2 : ∀ c k, gl w2 c k = if c = 84 ∧ 60 * s + 0 ≤ k ∧ k < 60 * s + 60 then 0 else if c = 42 + 2 * s + 1 ∧ 0 ≤ k ∧ k < 60 then 0 else gl w c k := by
              intro c k
              rw [← hw2, ← hw1]
              simp only [gl_zl, gl_si]
            refine SR_one hS hs6 (fun c k => ?_) (fun c k => ?_) (Or.inr (Or.inr ⟨t, n, ?_, ?_, ?_, ?_, ?_, by omega, by omega, ?_, ?_⟩))
            · rw [x2]
              by_cases q1 : c = 42 + 2 * s
              · exact Or.inr (Or.inl q1)
              · by_cases q2 : (c = 82 ∨ c = 83) ∧ k = s
                · exact Or.inr (Or.inr q2)
                · left
                  rw [if_neg (by omega), if_neg (by omega), if_neg (by omega), if_neg (by omega), if_neg (by omega)]
            · rw [y2]
              by_cases q1 : c = 42 + 2 * s + 1
              · exact Or.inr (Or.inl q1)
              · by_cases q2 : c = 84 ∧ 60 * s ≤ k ∧ k < 60 * s + 60
                · exact Or.inr (Or.inr (Or.inr q2))
                · left
                  rw [if_neg (by omega), if_neg (by omega)]
            · rw [x2, if_neg (by omega), if_neg (by omega), if_neg (by omega), if_neg (by omega), if_pos ⟨rfl, rfl⟩]
            · rw [x2, if_neg (by omega), if_neg (by omega), if_neg (by omega), if_pos ⟨rfl, rfl⟩]
            · rw [x2, if_neg (by omega), if_neg (by omega), if_pos ⟨rfl, rfl⟩]
            · rw [x2, if_neg (by omega), if_pos ⟨rfl, rfl⟩]
            · rw [x2, if_pos ⟨rfl, rfl⟩]
            · intro i hi
              rw [y2, if_neg (by omega), if_pos ⟨rfl, by omega, by omega⟩, y2, if_pos ⟨rfl, by omega, by omega⟩]
            · intro _ i hi
              rw [y2, if_neg (by omega), if_pos ⟨rfl, by omega, by omega⟩]
              decide
          · intro c k hk
            have z1 : ¬ (42 ≤ c ∧ c ≤ 53) := by intro y; simp [aS, y] at hk
            have z2 : ¬ (82 ≤ c ∧ c ≤ 84) := by intro y; simp [aS, y] at hk
            rw [← hw2, ← hw1]
            simp only [gi_zl, gi_si, gl_zl, gl_si]
            refine ⟨?_, ?_⟩
            · rw [if_neg (by omega), if_neg (by omega), if_neg (by omega), if_neg (by omega), if_neg (by omega)]
            · rw [if_neg (by omega), if_neg (by omega)]
        · refine ⟨-14, w, w, ?_, ?_, hS, eqo_rf w⟩
          · unfold f_X11_row
            rw [X_isShelf, bR_s, ite_b2i, if_pos hs, if_neg (by simp only [fa_lt, fa_le, fa_eq, inb, ti_m14, ti_m13, ti_m12, ti_m11, ti_m10, ti_m9, ti_m8, ti_m7, ti_m6, ti_m5, ti_m4, ti_m3, ti_m2, ti_m1, ti_0, ti_1, ti_2, ti_3, ti_4, ti_5, ti_6, ti_7, ti_8, ti_9, ti_10, ti_11, ti_12, ti_13, ti_14, ti_15, ti_16, ti_17, ti_18, ti_19, ti_20, ti_21, ti_22, ti_23, ti_24, ti_25, ti_26, ti_27, ti_28, ti_29, ti_30, ti_31, ti_32, ti_33, ti_34, ti_35, ti_36, ti_37, ti_38, ti_39, ti_40, ti_41, ti_42, ti_43, ti_44, ti_45, ti_46, ti_47, ti_48, ti_49, ti_50, ti_51, ti_52, ti_53, ti_54, ti_55, ti_56, ti_57, ti_58, ti_59, ti_60, ti_61, ti_62, ti_63, ti_64, ti_99, ti_100, ti_120, ti_122, ti_124, ti_128, ti_130, ti_255, ti_256, ti_260, ti_360, ti_999, ti_1000, ti_9999, ti_10000]; omega), if_neg (by simp only [fa_lt, fa_le, fa_eq, inb, ti_m14, ti_m13, ti_m12, ti_m11, ti_m10, ti_m9, ti_m8, ti_m7, ti_m6, ti_m5, ti_m4, ti_m3, ti_m2, ti_m1, ti_0, ti_1, ti_2, ti_3, ti_4, ti_5, ti_6, ti_7, ti_8, ti_9, ti_10, ti_11, ti_12, ti_13, ti_14, ti_15, ti_16, ti_17, ti_18, ti_19, ti_20, ti_21, ti_22, ti_23, ti_24, ti_25, ti_26, ti_27, ti_28, ti_29, ti_30, ti_31, ti_32, ti_33, ti_34, ti_35, ti_36, ti_37, ti_38, ti_39, ti_40, ti_41, ti_42, ti_43, ti_44, ti_45, ti_46, ti_47, ti_48, ti_49, ti_50, ti_51, ti_52, ti_53, ti_54, ti_55, ti_56, ti_57, ti_58, ti_59, ti_60, ti_61, ti_62, ti_63, ti_64, ti_99, ti_100, ti_120, ti_122, ti_124, ti_128, ti_130, ti_255, ti_256, ti_260, ti_360, ti_999, ti_1000, ti_9999, ti_10000]; omega), if_pos h60, if_neg h0]
          · unfold f_X12_row
            rw [M_isShelf, bR_s, ite_b2i, if_pos hs, M_in, bR_s, ite_b2i, if_pos (by simp only [fa_lt, fa_le, fa_eq, inb, ti_m14, ti_m13, ti_m12, ti_m11, ti_m10, ti_m9, ti_m8, ti_m7, ti_m6, ti_m5, ti_m4, ti_m3, ti_m2, ti_m1, ti_0, ti_1, ti_2, ti_3, ti_4, ti_5, ti_6, ti_7, ti_8, ti_9, ti_10, ti_11, ti_12, ti_13, ti_14, ti_15, ti_16, ti_17, ti_18, ti_19, ti_20, ti_21, ti_22, ti_23, ti_24, ti_25, ti_26, ti_27, ti_28, ti_29, ti_30, ti_31, ti_32, ti_33, ti_34, ti_35, ti_36, ti_37, ti_38, ti_39, ti_40, ti_41, ti_42, ti_43, ti_44, ti_45, ti_46, ti_47, ti_48, ti_49, ti_50, ti_51, ti_52, ti_53, ti_54, ti_55, ti_56, ti_57, ti_58, ti_59, ti_60, ti_61, ti_62, ti_63, ti_64, ti_99, ti_100, ti_120, ti_122, ti_124, ti_128, ti_130, ti_255, ti_256, ti_260, ti_360, ti_999, ti_1000, ti_9999, ti_10000]; omega), if_pos h60, if_neg h0]
      · refine ⟨-1, w, w, ?_, ?_, hS, eqo_rf w⟩
        · unfold f_X11_row
          rw [X_isShelf, bR_s, ite_b2i, if_pos hs, if_neg (by simp only [fa_lt, fa_le, fa_eq, inb, ti_m14, ti_m13, ti_m12, ti_m11, ti_m10, ti_m9, ti_m8, ti_m7, ti_m6, ti_m5, ti_m4, ti_m3, ti_m2, ti_m1, ti_0, ti_1, ti_2, ti_3, ti_4, ti_5, ti_6, ti_7, ti_8, ti_9, ti_10, ti_11, ti_12, ti_13, ti_14, ti_15, ti_16, ti_17, ti_18, ti_19, ti_20, ti_21, ti_22, ti_23, ti_24, ti_25, ti_26, ti_27, ti_28, ti_29, ti_30, ti_31, ti_32, ti_33, ti_34, ti_35, ti_36, ti_37, ti_38, ti_39, ti_40, ti_41, ti_42, ti_43, ti_44, ti_45, ti_46, ti_47, ti_48, ti_49, ti_50, ti_51, ti_52, ti_53, ti_54, ti_55, ti_56, ti_57, ti_58, ti_59, ti_60, ti_61, ti_62, ti_63, ti_64, ti_99, ti_100, ti_120, ti_122, ti_124, ti_128, ti_130, ti_255, ti_256, ti_260, ti_360, ti_999, ti_1000, ti_9999, ti_10000]; omega), if_neg (by simp only [fa_lt, fa_le, fa_eq, inb, ti_m14, ti_m13, ti_m12, ti_m11, ti_m10, ti_m9, ti_m8, ti_m7, ti_m6, ti_m5, ti_m4, ti_m3, ti_m2, ti_m1, ti_0, ti_1, ti_2, ti_3, ti_4, ti_5, ti_6, ti_7, ti_8, ti_9, ti_10, ti_11, ti_12, ti_13, ti_14, ti_15, ti_16, ti_17, ti_18, ti_19, ti_20, ti_21, ti_22, ti_23, ti_24, ti_25, ti_26, ti_27, ti_28, ti_29, ti_30, ti_31, ti_32, ti_33, ti_34, ti_35, ti_36, ti_37, ti_38, ti_39, ti_40, ti_41, ti_42, ti_43, ti_44, ti_45, ti_46, ti_47, ti_48, ti_49, ti_50, ti_51, ti_52, ti_53, ti_54, ti_55, ti_56, ti_57, ti_58, ti_59, ti_60, ti_61, ti_62, ti_63, ti_64, ti_99, ti_100, ti_120, ti_122, ti_124, ti_128, ti_130, ti_255, ti_256, ti_260, ti_360, ti_999, ti_1000, ti_9999, ti_10000]; omega), if_neg h60]
        · unfold f_X12_row
          rw [M_isShelf, bR_s, ite_b2i, if_pos hs, M_in, bR_s, ite_b2i, if_pos (by simp only [fa_lt, fa_le, fa_eq, inb, ti_m14, ti_m13, ti_m12, ti_m11, ti_m10, ti_m9, ti_m8, ti_m7, ti_m6, ti_m5, ti_m4, ti_m3, ti_m2, ti_m1, ti_0, ti_1, ti_2, ti_3, ti_4, ti_5, ti_6, ti_7, ti_8, ti_9, ti_10, ti_11, ti_12, ti_13, ti_14, ti_15, ti_16, ti_17, ti_18, ti_19, ti_20, ti_21, ti_22, ti_23, ti_24, ti_25, ti_26, ti_27, ti_28, ti_29, ti_30, ti_31, ti_32, ti_33, ti_34, ti_35, ti_36, ti_37, ti_38, ti_39, ti_40, ti_41, ti_42, ti_43, ti_44, ti_45, ti_46, ti_47, ti_48, ti_49, ti_50, ti_51, ti_52, ti_53, ti_54, ti_55, ti_56, ti_57, ti_58, ti_59, ti_60, ti_61, ti_62, ti_63, ti_64, ti_99, ti_100, ti_120, ti_122, ti_124, ti_128, ti_130, ti_255, ti_256, ti_260, ti_360, ti_999, ti_1000, ti_9999, ti_10000]; omega), if_neg h60]
    · refine ⟨-1, w, w, ?_, ?_, hS, eqo_rf w⟩
      · unfold f_X11_row
        rw [X_isShelf, bR_s, ite_b2i, if_pos hs]
        by_cases c1 : a2 < 0
        · rw [if_pos c1]
        · rw [if_neg c1, if_pos (by simp only [fa_lt, fa_le, fa_eq, inb, ti_m14, ti_m13, ti_m12, ti_m11, ti_m10, ti_m9, ti_m8, ti_m7, ti_m6, ti_m5, ti_m4, ti_m3, ti_m2, ti_m1, ti_0, ti_1, ti_2, ti_3, ti_4, ti_5, ti_6, ti_7, ti_8, ti_9, ti_10, ti_11, ti_12, ti_13, ti_14, ti_15, ti_16, ti_17, ti_18, ti_19, ti_20, ti_21, ti_22, ti_23, ti_24, ti_25, ti_26, ti_27, ti_28, ti_29, ti_30, ti_31, ti_32, ti_33, ti_34, ti_35, ti_36, ti_37, ti_38, ti_39, ti_40, ti_41, ti_42, ti_43, ti_44, ti_45, ti_46, ti_47, ti_48, ti_49, ti_50, ti_51, ti_52, ti_53, ti_54, ti_55, ti_56, ti_57, ti_58, ti_59, ti_60, ti_61, ti_62, ti_63, ti_64, ti_99, ti_100, ti_120, ti_122, ti_124, ti_128, ti_130, ti_255, ti_256, ti_260, ti_360, ti_999, ti_1000, ti_9999, ti_10000] at *; omega)]
      · unfold f_X12_row
        rw [M_isShelf, bR_s, ite_b2i, if_pos hs, M_in, bR_s, ite_b2i, if_neg (by simp only [fa_lt, fa_le, fa_eq, inb, ti_m14, ti_m13, ti_m12, ti_m11, ti_m10, ti_m9, ti_m8, ti_m7, ti_m6, ti_m5, ti_m4, ti_m3, ti_m2, ti_m1, ti_0, ti_1, ti_2, ti_3, ti_4, ti_5, ti_6, ti_7, ti_8, ti_9, ti_10, ti_11, ti_12, ti_13, ti_14, ti_15, ti_16, ti_17, ti_18, ti_19, ti_20, ti_21, ti_22, ti_23, ti_24, ti_25, ti_26, ti_27, ti_28, ti_29, ti_30, ti_31, ti_32, ti_33, ti_34, ti_35, ti_36, ti_37, ti_38, ti_39, ti_40, ti_41, ti_42, ti_43, ti_44, ti_45, ti_46, ti_47, ti_48, ti_49, ti_50, ti_51, ti_52, ti_53, ti_54, ti_55, ti_56, ti_57, ti_58, ti_59, ti_60, ti_61, ti_62, ti_63, ti_64, ti_99, ti_100, ti_120, ti_122, ti_124, ti_128, ti_130, ti_255, ti_256, ti_260, ti_360, ti_999, ti_1000, ti_9999, ti_10000] at *; omega)]
  · refine ⟨-1, w, w, ?_, ?_, hS, eqo_rf w⟩
    · unfold f_X11_row; rw [X_isShelf, bR_s, ite_b2i, if_neg hs]
    · unfold f_X12_row; rw [M_isShelf, bR_s, ite_b2i, if_neg hs]
/-- what a shelf holds, as both sides see it -/
theorem X_kinds {nb s : Nat} {w : Wd} (h : shOK nb s w) : (shE s w ∧ ¬ gi w (42 + 2 * s) 0 = 2) ∨ (∃ b, b < nb ∧ shB s b w ∧ ¬ gi w (42 + 2 * s) 0 = 0 ∧ ¬ gi w (42 + 2 * s) 0 = 2) ∨ (∃ t n, shR s t n w ∧ ¬ gi w (42 + 2 * s) 0 = 0) := by
  rcases h with h | ⟨b, hb, h⟩ | ⟨t, n, h⟩
  · exact Or.inl ⟨h, by rw [h.1]; decide⟩
  · exact Or.inr (Or.inl ⟨b, hb, h, by rw [h.1]; decide, by rw [h.1]; decide⟩)
  · exact Or.inr (Or.inr ⟨t, n, h, by rw [h.1]; decide⟩)
theorem nb_ne {b : Nat} (h : b < 50) : ¬ nI b = (-1 : Int32) ∧ ¬ nI b < (0 : Int32) ∧ ¬ nI b = (-2 : Int32) ∧ (0 : Int32) ≤ nI b := by
  have := nI_toInt (n := b) (by omega)
  refine ⟨?_, ?_, ?_, ?_⟩ <;> simp only [fa_lt, fa_le, fa_eq, inb, ti_m14, ti_m13, ti_m12, ti_m11, ti_m10, ti_m9, ti_m8, ti_m7, ti_m6, ti_m5, ti_m4, ti_m3, ti_m2, ti_m1, ti_0, ti_1, ti_2, ti_3, ti_4, ti_5, ti_6, ti_7, ti_8, ti_9, ti_10, ti_11, ti_12, ti_13, ti_14, ti_15, ti_16, ti_17, ti_18, ti_19, ti_20, ti_21, ti_22, ti_23, ti_24, ti_25, ti_26, ti_27, ti_28, ti_29, ti_30, ti_31, ti_32, ti_33, ti_34, ti_35, ti_36, ti_37, ti_38, ti_39, ti_40, ti_41, ti_42, ti_43, ti_44, ti_45, ti_46, ti_47, ti_48, ti_49, ti_50, ti_51, ti_52, ti_53, ti_54, ti_55, ti_56, ti_57, ti_58, ti_59, ti_60, ti_61, ti_62, ti_63, ti_64, ti_99, ti_100, ti_120, ti_122, ti_124, ti_128, ti_130, ti_255, ti_256, ti_260, ti_360, ti_999, ti_1000, ti_9999, ti_10000] <;> omega
theorem M_why {nb s : Nat} {w : Wd} (hn : nb ≤ 50) (hs : s < 6) (h : shOK nb s w) (i : Int32) :
    (shE s w → f_X12_whyNoPlace (nI s) i w = some (-11)) ∧ (∀ b, b < nb → shB s b w → f_X12_whyNoPlace (nI s) i w = some (-12)) ∧ (∀ t n, shR s t n w → f_X12_whyNoPlace (nI s) i w = some (if inb i n then 0 else -13)) := by
  have ib : inb (nI s) 6 := inb_nI hs (by decide)
  have base : f_X12_whyNoPlace (nI s) i w = (if gi w 82 s = -1 then some (-11) else if gi w 82 s < 0 then bR (f_X12_in i 0 (gi w 83 s - 1)) (fun r5 => if r5 = 0 then some (-13) else some 0) else some (-12)) := by
    unfold f_X12_whyNoPlace
    rw [M_isShelf, bR_s, ite_b2i, if_pos ib, ldI_d ib, ldI_d ib, ldI_d ib, ix_nI (by omega)]
  refine ⟨fun hE => ?_, fun b hb hB => ?_, fun t n hR => ?_⟩
  · rw [base, hE.2, if_pos rfl]
  · obtain ⟨q1, q2, -⟩ := nb_ne (b := b) (by omega)
    rw [base, hB.2.2, if_neg q1, if_neg q2]
  · obtain ⟨a1, a2, a3, a4, a5, a6, a7, a8, a9⟩ := hR
    obtain ⟨q1, q2, -⟩ := m2_ne a6
    have tn := nI_toInt (n := n) (by omega)
    have e : (nI n - 1).toInt = (n : Int) - 1 := by
      rw [i_sub] <;> simp only [fa_lt, fa_le, fa_eq, inb, ti_m14, ti_m13, ti_m12, ti_m11, ti_m10, ti_m9, ti_m8, ti_m7, ti_m6, ti_m5, ti_m4, ti_m3, ti_m2, ti_m1, ti_0, ti_1, ti_2, ti_3, ti_4, ti_5, ti_6, ti_7, ti_8, ti_9, ti_10, ti_11, ti_12, ti_13, ti_14, ti_15, ti_16, ti_17, ti_18, ti_19, ti_20, ti_21, ti_22, ti_23, ti_24, ti_25, ti_26, ti_27, ti_28, ti_29, ti_30, ti_31, ti_32, ti_33, ti_34, ti_35, ti_36, ti_37, ti_38, ti_39, ti_40, ti_41, ti_42, ti_43, ti_44, ti_45, ti_46, ti_47, ti_48, ti_49, ti_50, ti_51, ti_52, ti_53, ti_54, ti_55, ti_56, ti_57, ti_58, ti_59, ti_60, ti_61, ti_62, ti_63, ti_64, ti_99, ti_100, ti_120, ti_122, ti_124, ti_128, ti_130, ti_255, ti_256, ti_260, ti_360, ti_999, ti_1000, ti_9999, ti_10000] <;> omega
    rw [base, a4, if_neg q1, if_pos q2, a5, M_in, bR_s, ite_b2i, e]
    simp only [fa_lt, fa_le, fa_eq, inb, ti_m14, ti_m13, ti_m12, ti_m11, ti_m10, ti_m9, ti_m8, ti_m7, ti_m6, ti_m5, ti_m4, ti_m3, ti_m2, ti_m1, ti_0, ti_1, ti_2, ti_3, ti_4, ti_5, ti_6, ti_7, ti_8, ti_9, ti_10, ti_11, ti_12, ti_13, ti_14, ti_15, ti_16, ti_17, ti_18, ti_19, ti_20, ti_21, ti_22, ti_23, ti_24, ti_25, ti_26, ti_27, ti_28, ti_29, ti_30, ti_31, ti_32, ti_33, ti_34, ti_35, ti_36, ti_37, ti_38, ti_39, ti_40, ti_41, ti_42, ti_43, ti_44, ti_45, ti_46, ti_47, ti_48, ti_49, ti_50, ti_51, ti_52, ti_53, ti_54, ti_55, ti_56, ti_57, ti_58, ti_59, ti_60, ti_61, ti_62, ti_63, ti_64, ti_99, ti_100, ti_120, ti_122, ti_124, ti_128, ti_130, ti_255, ti_256, ti_260, ti_360, ti_999, ti_1000, ti_9999, ti_10000]
    by_cases c : 0 ≤ i.toInt ∧ i.toInt < (n : Int)
    · rw [if_pos c, if_pos (by omega)]
    · rw [if_neg c, if_neg (by omega)]
theorem S_element {w : Wd} {nb : Nat} (hS : SR nb w) (a1 a2 : Int32) : ∃ r, f_X11_element a1 a2 w = some r ∧ f_X12_element a1 a2 w = some r := by
  by_cases hs : inb a1 6
  · obtain ⟨s, hs6, rfl, es⟩ := sh_arg hs
    obtain ⟨m1, m2, m3⟩ := M_why hS.1 hs6 (hS.2 s hs6) a2
    have ex : ∀ x, f_X12_whyNoPlace (nI s) a2 w = some x → ¬ (0 : Int32) ≤ x → f_X12_element (nI s) a2 w = some (-9223372036854775808) := by
      intro x h1 h2
      unfold f_X12_element
      rw [h1, bR_s, if_neg h2]
    rcases X_kinds (hS.2 s hs6) with ⟨hE, q⟩ | ⟨b, hb, hB, q0, q⟩ | ⟨t, n, hR, q⟩
    · refine ⟨-9223372036854775808, ?_, ex _ (m1 hE) (by decide)⟩
      unfold f_X11_element
      rw [X_isShelf, bR_s, ite_b2i, if_pos hs, ldR_d hs, es, X_isRow, bR_s, ite_b2i, if_neg q]
    · refine ⟨-9223372036854775808, ?_, ex _ (m2 b hb hB) (by decide)⟩
      unfold f_X11_element
      rw [X_isShelf, bR_s, ite_b2i, if_pos hs, ldR_d hs, es, X_isRow, bR_s, ite_b2i, if_neg q]
    · obtain ⟨c1, c2, c3, c4, c5, c6, c7, c8, c9⟩ := id hR
      by_cases hi : inb a2 n
      · obtain ⟨i, hin, rfl⟩ := of_inb hi
        refine ⟨gl w (42 + 2 * s + 1) i, ?_, ?_⟩
        · unfold f_X11_element
          rw [X_isShelf, bR_s, ite_b2i, if_pos hs, ldR_d hs, es, X_isRow, bR_s, ite_b2i, if_pos c1, ldR_d hs, es, X_hasPlace c3 c7, bR_s, ite_b2i, if_pos hi, ldR_d hs, es, X_read c3 c7 hin, bR_s]
        · unfold f_X12_element
          have e : (60 : Int32) * nI s + nI i = nI (60 * s + i) := by rw [show (60 : Int32) = nI 60 from rfl, pk_mul, nI_add]
          rw [m3 t n hR, bR_s, if_pos hi, if_pos (by decide), e, ldL_d (inb_nI (by omega) (by decide)), ix_nI (by omega), c8 i hin]
      · refine ⟨-9223372036854775808, ?_, ex _ (m3 t n hR) (by rw [if_neg hi]; decide)⟩
        unfold f_X11_element
        rw [X_isShelf, bR_s, ite_b2i, if_pos hs, ldR_d hs, es, X_isRow, bR_s, ite_b2i, if_pos c1, ldR_d hs, es, X_hasPlace c3 c7, bR_s, ite_b2i, if_neg hi]
  · refine ⟨-9223372036854775808, ?_, ?_⟩
    · unfold f_X11_element; rw [X_isShelf, bR_s, ite_b2i, if_neg hs]
    · unfold f_X12_element f_X12_whyNoPlace
      rw [M_isShelf, bR_s, ite_b2i, if_neg hs, bR_s, if_neg (by decide)]
/-- what is put in keeps its lowest bits -/
def cutv (t : Nat) (v : Int64) : Int64 := if t = 0 then Int32.toInt64 (i2b (Int64.toInt32 v)) else if t = 1 then Int32.toInt64 (i2s (Int64.toInt32 v)) else if t = 2 then Int32.toInt64 (Int64.toInt32 v) else if t = 3 then v else if v = 0 then 0 else 1
theorem X_cut {c t : Nat} {w : Wd} (h : gi w c 2 = nI t) (ht : t ≤ 4) (v : Int64) : f_X9_cut c v w = some (cutv t v) := by
  unfold f_X9_cut cutv
  rw [h]
  have key : t = 0 ∨ t = 1 ∨ t = 2 ∨ t = 3 ∨ t = 4 := by omega
  rcases key with rfl | rfl | rfl | rfl | rfl
  · rfl
  · rfl
  · rfl
  · rfl
  · by_cases hv : v = 0
    · subst hv; rfl
    · show (if v = 0 then some (0 : Int64) else some 1) = some (if v = 0 then 0 else 1)
      rw [if_neg hv, if_neg hv]
theorem cut_rng (v : Int64) : -128 ≤ (cutv 0 v).toInt ∧ (cutv 0 v).toInt ≤ 127 := by
  have e : cutv 0 v = Int32.toInt64 (i2b (Int64.toInt32 v)) := rfl
  rw [e, Int32.toInt_toInt64]
  unfold i2b
  rw [Int8.toInt_toInt32]
  have h1 := (Int64.toInt32 v).toInt8.le_toInt
  have h2 := (Int64.toInt32 v).toInt8.toInt_lt
  omega
theorem S_put {w : Wd} {nb : Nat} (hS : SR nb w) (a1 a2 : Int32) (v : Int64) : ∃ r w1 w2, f_X11_put a1 a2 v w = some (r, w1) ∧ f_X12_put a1 a2 v w1 = some (r, w2) ∧ SR nb w2 ∧ eqo aS w w2 := by
  by_cases hs : inb a1 6
  · obtain ⟨s, hs6, rfl, es⟩ := sh_arg hs
    obtain ⟨m1, m2, m3⟩ := M_why hS.1 hs6 (hS.2 s hs6) a2
    have ex : ∀ x, f_X12_whyNoPlace (nI s) a2 w = some x → ¬ (0 : Int32) ≤ x → f_X12_put (nI s) a2 v w = some (x, w) := by
      intro x h1 h2
      unfold f_X12_put
      rw [h1, bR_s, if_neg h2]
    rcases X_kinds (hS.2 s hs6) with ⟨hE, q⟩ | ⟨b, hb, hB, q0, q⟩ | ⟨t, n, hR, q⟩
    · refine ⟨-11, w, w, ?_, ex _ (m1 hE) (by decide), hS, eqo_rf w⟩
      unfold f_X11_put
      rw [X_isShelf, bR_s, ite_b2i, if_pos hs, ldR_d hs, es, X_isEmpty, bR_s, ite_b2i, if_pos hE.1]
    · refine ⟨-12, w, w, ?_, ex _ (m2 b hb hB) (by decide), hS, eqo_rf w⟩
      unfold f_X11_put
      rw [X_isShelf, bR_s, ite_b2i, if_pos hs, ldR_d hs, es, X_isEmpty, bR_s, ite_b2i, if_neg q0, X_isRow, bR_s, ite_b2i, if_neg q]
    · obtain ⟨c1, c2, c3, c4, c5, c6, c7, c8, c9⟩ := id hR
      by_cases hi : inb a2 n
      · obtain ⟨i, hin, rfl⟩ := of_inb hi
        generalize hw1 : sl w (42 + 2 * s + 1) i (cutv t v) = w1
        generalize hw2 : sl w1 84 (60 * s + i) (cutv t v) = w2
        have k1 : ∀ c k, gi w1 c k = gi w c k := fun c k => by rw [← hw1]; rfl
        have e : (60 : Int32) * nI s + nI i = nI (60 * s + i) := by rw [show (60 : Int32) = nI 60 from rfl, pk_mul, nI_add]
        have ib6 : inb (nI s) 6 := inb_nI hs6 (by decide)
        have wy : f_X12_whyNoPlace (nI s) (nI i) w1 = f_X12_whyNoPlace (nI s) (nI i) w := by
          unfold f_X12_whyNoPlace
          rw [ldI_d ib6, ldI_d ib6, ldI_d ib6, ldI_d ib6, ldI_d ib6, ldI_d ib6, k1, k1]
        have ey : -2 - (-2 - nI t) = nI t := by
          apply Int32.toInt_inj.mp
          have tt := nI_toInt (n := t) (by omega)
          have := (m2_ne c6).2.2
          rw [i_sub] <;> simp only [fa_lt, fa_le, fa_eq, inb, ti_m14, ti_m13, ti_m12, ti_m11, ti_m10, ti_m9, ti_m8, ti_m7, ti_m6, ti_m5, ti_m4, ti_m3, ti_m2, ti_m1, ti_0, ti_1, ti_2, ti_3, ti_4, ti_5, ti_6, ti_7, ti_8, ti_9, ti_10, ti_11, ti_12, ti_13, ti_14, ti_15, ti_16, ti_17, ti_18, ti_19, ti_20, ti_21, ti_22, ti_23, ti_24, ti_25, ti_26, ti_27, ti_28, ti_29, ti_30, ti_31, ti_32, ti_33, ti_34, ti_35, ti_36, ti_37, ti_38, ti_39, ti_40, ti_41, ti_42, ti_43, ti_44, ti_45, ti_46, ti_47, ti_48, ti_49, ti_50, ti_51, ti_52, ti_53, ti_54, ti_55, ti_56, ti_57, ti_58, ti_59, ti_60, ti_61, ti_62, ti_63, ti_64, ti_99, ti_100, ti_120, ti_122, ti_124, ti_128, ti_130, ti_255, ti_256, ti_260, ti_360, ti_999, ti_1000, ti_9999, ti_10000] <;> omega
        refine ⟨1, w1, w2, ?_, ?_, ?_, ?_⟩
        · unfold f_X11_put f_X9_write
          rw [X_isShelf, bR_s, ite_b2i, if_pos hs, ldR_d hs, es, X_isEmpty, bR_s, ite_b2i, if_neg q, X_isRow, bR_s, ite_b2i, if_pos c1, X_hasPlace c3 c7, bR_s, ite_b2i, if_pos hi, bR_s, ite_b2i, if_pos hi, X_cut c2 c6, bR_s, saL_d (inb_nI (by omega) (by decide)), ix_nI (by omega), bV_s, hw1]
        · unfold f_X12_put
          rw [wy, m3 t n hR, bR_s, if_pos hi, if_pos (by decide), ldI_d ib6, ix_nI (by omega), k1, c4, lt_d, ey, e]
          have fin : ∀ x : Int64, f_X12_put_b95 x (nI (60 * s + i)) w1 = some (1, sl w1 84 (60 * s + i) x) := by
            intro x
            unfold f_X12_put_b95
            rw [saL_d (inb_nI (by omega) (by decide)), ix_nI (by omega)]
          simp only [fin]
          rw [← hw2]
          unfold cutv
          have key : t = 0 ∨ t = 1 ∨ t = 2 ∨ t = 3 ∨ t = 4 := by omega
          rcases key with rfl | rfl | rfl | rfl | rfl
          · rfl
          · rfl
          · rfl
          · rfl
          · by_cases hv : v = 0
            · subst hv; rfl
            · show (if v = 0 then _ else _) = some ((1 : Int32), sl w1 84 (60 * s + i) (if v = 0 then 0 else 1))
              rw [if_neg hv, if_neg hv]
        · have y2 : ∀ c k, gl w2 c k = if c = 84 ∧ k = 60 * s + i then cutv t v else if c = 42 + 2 * s + 1 ∧ k = i then cutv t v else gl w c k := by
            intro c k
            rw [← hw2, ← hw1]
            simp only [gl_sl]
          have x2 : ∀ c k, gi w2 c k = gi w c k := fun c k => by rw [← hw2, gi_sl, k1]
          refine SR_one hS hs6 (fun c k => Or.inl (x2 c k)) (fun c k => ?_) (Or.inr (Or.inr ⟨t, n, by rw [x2]; exact c1, by rw [x2]; exact c2, by rw [x2]; exact c3, by rw [x2]; exact c4, by rw [x2]; exact c5, c6, c7, ?_, ?_⟩))
          · rw [y2]
            by_cases q1 : c = 42 + 2 * s + 1
            · exact Or.inr (Or.inl q1)
            · by_cases q2 : c = 84 ∧ 60 * s ≤ k ∧ k < 60 * s + 60
              · exact Or.inr (Or.inr (Or.inr q2))
              · left
                rw [if_neg (by omega), if_neg (by omega)]
          · intro j hj
            rw [y2, y2, if_neg (by omega)]
            by_cases z : j = i
            · subst z
              rw [if_pos ⟨rfl, rfl⟩, if_pos ⟨rfl, rfl⟩]
            · rw [if_neg (by omega), if_neg (by omega), if_neg (by omega)]
              exact c8 j hj
          · intro ht j hj
            rw [y2, if_neg (by omega)]
            by_cases z : j = i
            · subst z
              rw [if_pos ⟨rfl, rfl⟩, ht]
              exact cut_rng v
            · rw [if_neg (by omega)]
              exact c9 ht j hj
        · rw [← hw2, ← hw1]
          exact eqo_sl (eqo_sl (eqo_rf w) (by simp [aS]; omega)) (by simp [aS])
      · refine ⟨-13, w, w, ?_, ?_, hS, eqo_rf w⟩
        · unfold f_X11_put
          rw [X_isShelf, bR_s, ite_b2i, if_pos hs, ldR_d hs, es, X_isEmpty, bR_s, ite_b2i, if_neg q, X_isRow, bR_s, ite_b2i, if_pos c1, X_hasPlace c3 c7, bR_s, ite_b2i, if_neg hi]
        · rw [ex _ (m3 t n hR) (by rw [if_neg hi]; decide), if_neg hi]
  · refine ⟨-1, w, w, ?_, ?_, hS, eqo_rf w⟩
    · unfold f_X11_put; rw [X_isShelf, bR_s, ite_b2i, if_neg hs]
    · unfold f_X12_put f_X12_whyNoPlace
      rw [M_isShelf, bR_s, ite_b2i, if_neg hs, bR_s, if_neg (by decide)]
/-- the copy on the reference's side: out, then in -/
theorem cpL_step {cs cd sp dp n : Nat} {w : Wd} (hne : cs ≠ cd) (hn : 0 < n) : cpL (sl w cd dp (gl w cs sp)) cs cd (sp + 1) (dp + 1) (n - 1) = cpL w cs cd sp dp n := by
  refine wd_ext (fun _ _ => rfl) (fun a b => ?_)
  rw [gl_cpL, gl_cpL]
  by_cases e : a = cd
  · subst e
    by_cases e2 : b = dp
    · subst e2
      rw [if_neg (by omega), if_pos ⟨rfl, by omega, by omega⟩, gl_sl, if_pos ⟨rfl, rfl⟩]
      congr 1
      omega
    · by_cases e3 : dp ≤ b ∧ b < dp + n
      · rw [if_pos ⟨rfl, by omega, by omega⟩, if_pos ⟨rfl, e3⟩, gl_sl, if_neg (by omega)]
        congr 1
        omega
      · rw [if_neg (by omega), if_neg (by omega), gl_sl, if_neg (by omega)]
  · rw [if_neg (by omega), if_neg (by omega), gl_sl, if_neg (by omega)]
theorem cpL_0 {cs cd sp dp : Nat} {w : Wd} : cpL w cs cd sp dp 0 = w := by
  refine wd_ext (fun _ _ => rfl) (fun a b => ?_)
  rw [gl_cpL, if_neg (by omega)]
theorem M_in2 {o j n : Nat} (ho : o < 6) (hj : j + n ≤ 60) : ∀ (m k : Nat) (w : Wd), k ≤ n → n - k < m → f_X12_shift_b150 m (nI o) (nI j) (nI n) (nI k) w = some (nI n, cpL w 85 84 k (60 * o + j + k) (n - k))
  | 0, k, w, _, h => absurd h (by omega)
  | m + 1, k, w, h1, h2 => by
    have tn := nI_toInt (n := n) (by omega)
    have tk := nI_toInt (n := k) (by omega)
    show f_X12_shift_b150_y (f_X12_shift_b150 m) (nI o) (nI j) (nI n) (nI k) w = _
    unfold f_X12_shift_b150_y
    by_cases e : k = n
    · subst e
      rw [if_pos (by simp only [fa_lt, fa_le, fa_eq, inb, ti_m14, ti_m13, ti_m12, ti_m11, ti_m10, ti_m9, ti_m8, ti_m7, ti_m6, ti_m5, ti_m4, ti_m3, ti_m2, ti_m1, ti_0, ti_1, ti_2, ti_3, ti_4, ti_5, ti_6, ti_7, ti_8, ti_9, ti_10, ti_11, ti_12, ti_13, ti_14, ti_15, ti_16, ti_17, ti_18, ti_19, ti_20, ti_21, ti_22, ti_23, ti_24, ti_25, ti_26, ti_27, ti_28, ti_29, ti_30, ti_31, ti_32, ti_33, ti_34, ti_35, ti_36, ti_37, ti_38, ti_39, ti_40, ti_41, ti_42, ti_43, ti_44, ti_45, ti_46, ti_47, ti_48, ti_49, ti_50, ti_51, ti_52, ti_53, ti_54, ti_55, ti_56, ti_57, ti_58, ti_59, ti_60, ti_61, ti_62, ti_63, ti_64, ti_99, ti_100, ti_120, ti_122, ti_124, ti_128, ti_130, ti_255, ti_256, ti_260, ti_360, ti_999, ti_1000, ti_9999, ti_10000]; omega), Nat.sub_self, cpL_0]
    · have e1 : (60 : Int32) * nI o + nI j + nI k = nI (60 * o + j + k) := by rw [show (60 : Int32) = nI 60 from rfl, pk_mul, nI_add, nI_add]
      rw [if_neg (by simp only [fa_lt, fa_le, fa_eq, inb, ti_m14, ti_m13, ti_m12, ti_m11, ti_m10, ti_m9, ti_m8, ti_m7, ti_m6, ti_m5, ti_m4, ti_m3, ti_m2, ti_m1, ti_0, ti_1, ti_2, ti_3, ti_4, ti_5, ti_6, ti_7, ti_8, ti_9, ti_10, ti_11, ti_12, ti_13, ti_14, ti_15, ti_16, ti_17, ti_18, ti_19, ti_20, ti_21, ti_22, ti_23, ti_24, ti_25, ti_26, ti_27, ti_28, ti_29, ti_30, ti_31, ti_32, ti_33, ti_34, ti_35, ti_36, ti_37, ti_38, ti_39, ti_40, ti_41, ti_42, ti_43, ti_44, ti_45, ti_46, ti_47, ti_48, ti_49, ti_50, ti_51, ti_52, ti_53, ti_54, ti_55, ti_56, ti_57, ti_58, ti_59, ti_60, ti_61, ti_62, ti_63, ti_64, ti_99, ti_100, ti_120, ti_122, ti_124, ti_128, ti_130, ti_255, ti_256, ti_260, ti_360, ti_999, ti_1000, ti_9999, ti_10000]; omega), ldL_d (inb_nI (by omega) (by decide)), ix_nI (by omega), e1, saL_d (inb_nI (by omega) (by decide)), ix_nI (by omega), nI_1, M_in2 ho hj m (k + 1) _ (by omega) (by omega)]
      rw [show n - (k + 1) = n - k - 1 by omega, show 60 * o + j + (k + 1) = 60 * o + j + k + 1 by omega, cpL_step (by omega) (by omega)]
theorem M_out {s i o j n : Nat} (hs : s < 6) (hi : i + n ≤ 60) : ∀ (m k : Nat) (w : Wd), k ≤ n → n - k < m → f_X12_shift_b113 m (nI s) (nI i) (nI o) (nI j) (nI n) (nI k) w = f_X12_shift_b150 fu (nI o) (nI j) (nI n) (nI 0) (cpL w 84 85 (60 * s + i + k) k (n - k))
  | 0, k, w, _, h => absurd h (by omega)
  | m + 1, k, w, h1, h2 => by
    have tn := nI_toInt (n := n) (by omega)
    have tk := nI_toInt (n := k) (by omega)
    show f_X12_shift_b113_y (f_X12_shift_b113 m) (nI s) (nI i) (nI o) (nI j) (nI n) (nI k) w = _
    unfold f_X12_shift_b113_y
    by_cases e : k = n
    · subst e
      rw [if_pos (by simp only [fa_lt, fa_le, fa_eq, inb, ti_m14, ti_m13, ti_m12, ti_m11, ti_m10, ti_m9, ti_m8, ti_m7, ti_m6, ti_m5, ti_m4, ti_m3, ti_m2, ti_m1, ti_0, ti_1, ti_2, ti_3, ti_4, ti_5, ti_6, ti_7, ti_8, ti_9, ti_10, ti_11, ti_12, ti_13, ti_14, ti_15, ti_16, ti_17, ti_18, ti_19, ti_20, ti_21, ti_22, ti_23, ti_24, ti_25, ti_26, ti_27, ti_28, ti_29, ti_30, ti_31, ti_32, ti_33, ti_34, ti_35, ti_36, ti_37, ti_38, ti_39, ti_40, ti_41, ti_42, ti_43, ti_44, ti_45, ti_46, ti_47, ti_48, ti_49, ti_50, ti_51, ti_52, ti_53, ti_54, ti_55, ti_56, ti_57, ti_58, ti_59, ti_60, ti_61, ti_62, ti_63, ti_64, ti_99, ti_100, ti_120, ti_122, ti_124, ti_128, ti_130, ti_255, ti_256, ti_260, ti_360, ti_999, ti_1000, ti_9999, ti_10000]; omega), Nat.sub_self, cpL_0]
      rfl
    · have e1 : (60 : Int32) * nI s + nI i + nI k = nI (60 * s + i + k) := by rw [show (60 : Int32) = nI 60 from rfl, pk_mul, nI_add, nI_add]
      rw [if_neg (by simp only [fa_lt, fa_le, fa_eq, inb, ti_m14, ti_m13, ti_m12, ti_m11, ti_m10, ti_m9, ti_m8, ti_m7, ti_m6, ti_m5, ti_m4, ti_m3, ti_m2, ti_m1, ti_0, ti_1, ti_2, ti_3, ti_4, ti_5, ti_6, ti_7, ti_8, ti_9, ti_10, ti_11, ti_12, ti_13, ti_14, ti_15, ti_16, ti_17, ti_18, ti_19, ti_20, ti_21, ti_22, ti_23, ti_24, ti_25, ti_26, ti_27, ti_28, ti_29, ti_30, ti_31, ti_32, ti_33, ti_34, ti_35, ti_36, ti_37, ti_38, ti_39, ti_40, ti_41, ti_42, ti_43, ti_44, ti_45, ti_46, ti_47, ti_48, ti_49, ti_50, ti_51, ti_52, ti_53, ti_54, ti_55, ti_56, ti_57, ti_58, ti_59, ti_60, ti_61, ti_62, ti_63, ti_64, ti_99, ti_100, ti_120, ti_122, ti_124, ti_128, ti_130, ti_255, ti_256, ti_260, ti_360, ti_999, ti_1000, ti_9999, ti_10000]; omega), e1, ldL_d (inb_nI (by omega) (by decide)), ix_nI (by omega), saL_d (inb_nI (by omega) (by decide)), ix_nI (by omega), nI_1, M_out hs hi m (k + 1) _ (by omega) (by omega)]
      rw [show n - (k + 1) = n - k - 1 by omega, show 60 * s + i + (k + 1) = 60 * s + i + k + 1 by omega, cpL_step (by omega) (by omega)]
def aS2 (c k : Nat) : Bool := aS c k || c == 85
/-- the reference's shift, by what the two shelves hold -/
theorem M_shift {w : Wd} {s o : Nat} (hs : s < 6) (ho : o < 6) (i j n : Int32) : f_X12_shift (nI s) i (nI o) j n w =
    if gi w 82 s = -1 then some (-11, w) else if gi w 82 o = -1 then some (-11, w) else if 0 ≤ gi w 82 s then some (-12, w) else if gi w 82 s = gi w 82 o then (if n < 0 then some (-13, w) else if i < 0 then some (-13, w) else if j < 0 then some (-13, w) else if gi w 83 s - n < i then some (-13, w) else if j ≤ gi w 83 o - n then f_X12_shift_b113 fu (nI s) i (nI o) j n 0 w else some (-13, w)) else some (-12, w) := by
  have b1 : inb (nI s) 6 := inb_nI hs (by decide)
  have b2 : inb (nI o) 6 := inb_nI ho (by decide)
  unfold f_X12_shift
  rw [M_isShelf, bR_s, ite_b2i, if_pos b1, M_isShelf, bR_s, ite_b2i, if_pos b2]
  simp only [ldI_d b1, ldI_d b2]
  rw [ix_nI (by omega), ix_nI (by omega)]
theorem S_shift {w : Wd} {nb : Nat} (hS : SR nb w) (a1 a2 a3 a4 a5 : Int32) : ∃ r w1 w2, f_X11_shift a1 a2 a3 a4 a5 w = some (r, w1) ∧ f_X12_shift a1 a2 a3 a4 a5 w1 = some (r, w2) ∧ SR nb w2 ∧ eqo aS2 w w2 := by
  by_cases hs : inb a1 6
  · obtain ⟨s, hs6, rfl, es⟩ := sh_arg hs
    by_cases ho : inb a3 6
    · obtain ⟨o, ho6, rfl, eo⟩ := sh_arg ho
      have hX : f_X11_shift (nI s) a2 (nI o) a4 a5 w = if gi w (42 + 2 * s) 0 = 0 then some (-11, w) else if gi w (42 + 2 * o) 0 = 0 then some (-11, w) else if gi w (42 + 2 * s) 0 = 2 then (if gi w (42 + 2 * o) 0 = 2 then (if gi w (42 + 2 * s) 2 = gi w (42 + 2 * o) 2 then bR (f_X9_hasPlaces (42 + 2 * s) a2 a5 w) (fun r9 => if r9 = 0 then some (-13, w) else bR (f_X9_hasPlaces (42 + 2 * o) a4 a5 w) (fun r10 => if r10 = 0 then some (-13, w) else bV (f_X9_copyTo (42 + 2 * s) a2 (42 + 2 * o) a4 a5 w) (fun w11 => some (a5, w11)))) else some (-12, w)) else some (-12, w)) else some (-12, w) := by
        unfold f_X11_shift
        rw [X_isShelf, bR_s, ite_b2i, if_pos hs, X_isShelf, bR_s, ite_b2i, if_pos ho, ldR_d hs, ldR_d ho, es, eo]
        simp only [X_isEmpty, X_isRow, bR_s, ite_b2i]
      rcases X_kinds (hS.2 s hs6) with ⟨hE, q⟩ | ⟨b, hb, hB, q0, q⟩ | ⟨t, n, hR, q⟩
      · refine ⟨-11, w, w, ?_, ?_, hS, eqo_rf w⟩
        · rw [hX, if_pos hE.1]
        · rw [M_shift hs6 ho6, if_pos hE.2]
      · obtain ⟨z1, z2, -, z4⟩ := nb_ne (b := b) (by have := hS.1; omega)
        rcases X_kinds (hS.2 o ho6) with ⟨hE', p⟩ | ⟨b', hb', hB', p0, p⟩ | ⟨t', n', hR', p⟩
        · refine ⟨-11, w, w, ?_, ?_, hS, eqo_rf w⟩
          · rw [hX, if_neg q0, if_pos hE'.1]
          · rw [M_shift hs6 ho6, hB.2.2, if_neg z1, if_pos hE'.2]
        · refine ⟨-12, w, w, ?_, ?_, hS, eqo_rf w⟩
          · rw [hX, if_neg q0, if_neg p0, if_neg q]
          · rw [M_shift hs6 ho6, hB.2.2, if_neg z1, hB'.2.2, if_neg (nb_ne (b := b') (by have := hS.1; omega)).1, if_pos z4]
        · refine ⟨-12, w, w, ?_, ?_, hS, eqo_rf w⟩
          · rw [hX, if_neg q0, if_neg p, if_neg q]
          · rw [M_shift hs6 ho6, hB.2.2, if_neg z1, hR'.2.2.2.1, if_neg (m2_ne hR'.2.2.2.2.2.1).1, if_pos z4]
      · obtain ⟨c1, c2, c3, c4, c5, c6, c7, c8, c9⟩ := id hR
        obtain ⟨y1, y2, y2'⟩ := m2_row c6
        have tt := nI_toInt (n := t) (by omega)
        have tn := nI_toInt (n := n) (by omega)
        rcases X_kinds (hS.2 o ho6) with ⟨hE', p⟩ | ⟨b', hb', hB', p0, p⟩ | ⟨t', n', hR', p⟩
        · refine ⟨-11, w, w, ?_, ?_, hS, eqo_rf w⟩
          · rw [hX, if_neg q, if_pos hE'.1]
          · rw [M_shift hs6 ho6, c4, if_neg y1, if_pos hE'.2]
        · obtain ⟨z1, z2, z3, z4⟩ := nb_ne (b := b') (by have := hS.1; omega)
          refine ⟨-12, w, w, ?_, ?_, hS, eqo_rf w⟩
          · rw [hX, if_neg q, if_neg p0, if_pos c1, if_neg p]
          · rw [M_shift hs6 ho6, c4, if_neg y1, hB'.2.2, if_neg z1, if_neg y2', if_neg (fun e => by rw [← e] at z2; exact z2 y2)]
        · obtain ⟨d1, d2, d3, d4, d5, d6, d7, d8, d9⟩ := id hR'
          have x1 := (m2_row d6).1
          have tt' := nI_toInt (n := t') (by omega)
          have tn' := nI_toInt (n := n') (by omega)
          by_cases et : t = t'
          · subst et
            by_cases hp : plc a2 a5 n ∧ plc a4 a5 n'
            · obtain ⟨hp1, hp2⟩ := hp
              have ha5 : inb a5 61 := ⟨hp1.2.1, by omega⟩
              have ha2 : inb a2 61 := ⟨hp1.1, by omega⟩
              have ha4 : inb a4 61 := ⟨hp2.1, by omega⟩
              obtain ⟨m, hm, rfl⟩ := of_inb ha5
              obtain ⟨i, hi, rfl⟩ := of_inb ha2
              obtain ⟨j, hj, rfl⟩ := of_inb ha4
              have tm := nI_toInt (n := m) (by omega)
              have ti := nI_toInt (n := i) (by omega)
              have tj := nI_toInt (n := j) (by omega)
              have g1 : i + m ≤ n := by have := hp1.2.2; omega
              have g2 : j + m ≤ n' := by have := hp2.2.2; omega
              generalize hw1 : cpL w (42 + 2 * s + 1) (42 + 2 * o + 1) i j m = w1
              have k1 : ∀ c k, gi w1 c k = gi w c k := fun c k => by rw [← hw1]; rfl
              generalize hw2 : cpL (cpL w1 84 85 (60 * s + i) 0 m) 85 84 0 (60 * o + j) m = w2
              have hm0 : ¬ nI m < 0 := by simp only [fa_lt, fa_le, fa_eq, inb, ti_m14, ti_m13, ti_m12, ti_m11, ti_m10, ti_m9, ti_m8, ti_m7, ti_m6, ti_m5, ti_m4, ti_m3, ti_m2, ti_m1, ti_0, ti_1, ti_2, ti_3, ti_4, ti_5, ti_6, ti_7, ti_8, ti_9, ti_10, ti_11, ti_12, ti_13, ti_14, ti_15, ti_16, ti_17, ti_18, ti_19, ti_20, ti_21, ti_22, ti_23, ti_24, ti_25, ti_26, ti_27, ti_28, ti_29, ti_30, ti_31, ti_32, ti_33, ti_34, ti_35, ti_36, ti_37, ti_38, ti_39, ti_40, ti_41, ti_42, ti_43, ti_44, ti_45, ti_46, ti_47, ti_48, ti_49, ti_50, ti_51, ti_52, ti_53, ti_54, ti_55, ti_56, ti_57, ti_58, ti_59, ti_60, ti_61, ti_62, ti_63, ti_64, ti_99, ti_100, ti_120, ti_122, ti_124, ti_128, ti_130, ti_255, ti_256, ti_260, ti_360, ti_999, ti_1000, ti_9999, ti_10000]; omega
              refine ⟨nI m, w1, w2, ?_, ?_, ?_, ?_⟩
              · rw [hX, if_neg q, if_neg p, if_pos c1, if_pos d1, if_pos (by rw [c2, d2]), X_hasPlaces c3 c7, bR_s, ite_b2i, if_pos hp1, X_hasPlaces d3 d7, bR_s, ite_b2i, if_pos hp2]
                unfold f_X9_copyTo
                rw [X_hasPlaces c3 c7, bR_s, ite_b2i, if_pos hp1, X_hasPlaces d3 d7, bR_s, ite_b2i, if_pos hp2, cyL_d (by refine ⟨?_, ?_, ?_, ?_, ?_⟩ <;> omega), ix_nI (by omega), ix_nI (by omega), ix_nI (by omega), bV_s, hw1]
              · rw [M_shift hs6 ho6, k1, k1, k1, k1, c4, if_neg y1, d4, if_neg x1, if_neg y2', if_pos rfl, if_neg (by simp only [fa_lt, fa_le, fa_eq, inb, ti_m14, ti_m13, ti_m12, ti_m11, ti_m10, ti_m9, ti_m8, ti_m7, ti_m6, ti_m5, ti_m4, ti_m3, ti_m2, ti_m1, ti_0, ti_1, ti_2, ti_3, ti_4, ti_5, ti_6, ti_7, ti_8, ti_9, ti_10, ti_11, ti_12, ti_13, ti_14, ti_15, ti_16, ti_17, ti_18, ti_19, ti_20, ti_21, ti_22, ti_23, ti_24, ti_25, ti_26, ti_27, ti_28, ti_29, ti_30, ti_31, ti_32, ti_33, ti_34, ti_35, ti_36, ti_37, ti_38, ti_39, ti_40, ti_41, ti_42, ti_43, ti_44, ti_45, ti_46, ti_47, ti_48, ti_49, ti_50, ti_51, ti_52, ti_53, ti_54, ti_55, ti_56, ti_57, ti_58, ti_59, ti_60, ti_61, ti_62, ti_63, ti_64, ti_99, ti_100, ti_120, ti_122, ti_124, ti_128, ti_130, ti_255, ti_256, ti_260, ti_360, ti_999, ti_1000, ti_9999, ti_10000]; omega), if_neg (by simp only [fa_lt, fa_le, fa_eq, inb, ti_m14, ti_m13, ti_m12, ti_m11, ti_m10, ti_m9, ti_m8, ti_m7, ti_m6, ti_m5, ti_m4, ti_m3, ti_m2, ti_m1, ti_0, ti_1, ti_2, ti_3, ti_4, ti_5, ti_6, ti_7, ti_8, ti_9, ti_10, ti_11, ti_12, ti_13, ti_14, ti_15, ti_16, ti_17, ti_18, ti_19, ti_20, ti_21, ti_22, ti_23, ti_24, ti_25, ti_26, ti_27, ti_28, ti_29, ti_30, ti_31, ti_32, ti_33, ti_34, ti_35, ti_36, ti_37, ti_38, ti_39, ti_40, ti_41, ti_42, ti_43, ti_44, ti_45, ti_46, ti_47, ti_48, ti_49, ti_50, ti_51, ti_52, ti_53, ti_54, ti_55, ti_56, ti_57, ti_58, ti_59, ti_60, ti_61, ti_62, ti_63, ti_64, ti_99, ti_100, ti_120, ti_122, ti_124, ti_128, ti_130, ti_255, ti_256, ti_260, ti_360, ti_999, ti_1000, ti_9999, ti_10000]; omega), if_neg (by simp only [fa_lt, fa_le, fa_eq, inb, ti_m14, ti_m13, ti_m12, ti_m11, ti_m10, ti_m9, ti_m8, ti_m7, ti_m6, ti_m5, ti_m4, ti_m3, ti_m2, ti_m1, ti_0, ti_1, ti_2, ti_3, ti_4, ti_5, ti_6, ti_7, ti_8, ti_9, ti_10, ti_11, ti_12, ti_13, ti_14, ti_15, ti_16, ti_17, ti_18, ti_19, ti_20, ti_21, ti_22, ti_23, ti_24, ti_25, ti_26, ti_27, ti_28, ti_29, ti_30, ti_31, ti_32, ti_33, ti_34, ti_35, ti_36, ti_37, ti_38, ti_39, ti_40, ti_41, ti_42, ti_43, ti_44, ti_45, ti_46, ti_47, ti_48, ti_49, ti_50, ti_51, ti_52, ti_53, ti_54, ti_55, ti_56, ti_57, ti_58, ti_59, ti_60, ti_61, ti_62, ti_63, ti_64, ti_99, ti_100, ti_120, ti_122, ti_124, ti_128, ti_130, ti_255, ti_256, ti_260, ti_360, ti_999, ti_1000, ti_9999, ti_10000]; omega), c5, d5, if_neg (by rw [sub_lt c7 hm0]; omega), if_pos (by rw [sub_ge d7 hm0]; omega), show (0 : Int32) = nI 0 from rfl, M_out hs6 (by omega) fu 0 _ (by omega) (by show m - 0 < 300; omega), M_in2 ho6 (by omega) fu 0 _ (by omega) (by show m - 0 < 300; omega), Nat.sub_zero, Nat.add_zero, Nat.add_zero, hw2]
              · have xx2 : ∀ c k, gi w2 c k = gi w c k := fun c k => by rw [← hw2, gi_cpL, gi_cpL, k1]
                have y2 : ∀ c k, c ≠ 85 → gl w2 c k = if c = 84 ∧ 60 * o + j ≤ k ∧ k < 60 * o + j + m then gl w 84 (60 * s + i + (k - (60 * o + j))) else if c = 42 + 2 * o + 1 ∧ j ≤ k ∧ k < j + m then gl w (42 + 2 * s + 1) (i + (k - j)) else gl w c k := by
                  intro c k hc
                  rw [← hw2, gl_cpL]
                  by_cases z : c = 84 ∧ 60 * o + j ≤ k ∧ k < 60 * o + j + m
                  · rw [if_pos z, if_pos z, gl_cpL, if_pos ⟨rfl, by omega, by omega⟩, ← hw1, gl_cpL, if_neg (by omega)]
                    rw [show 60 * s + i + (0 + (k - (60 * o + j)) - 0) = 60 * s + i + (k - (60 * o + j)) by omega]
                  · rw [if_neg z, if_neg z, gl_cpL, if_neg (by omega), ← hw1, gl_cpL]
                refine SR_one hS ho6 (fun c k => Or.inl (xx2 c k)) (fun c k => ?_) (Or.inr (Or.inr ⟨t, n', by rw [xx2]; exact d1, by rw [xx2]; exact d2, by rw [xx2]; exact d3, by rw [xx2]; exact d4, by rw [xx2]; exact d5, d6, d7, ?_, ?_⟩))
                · by_cases q85 : c = 85
                  · exact Or.inr (Or.inr (Or.inl q85))
                  · rw [y2 c k q85]
                    by_cases q1 : c = 42 + 2 * o + 1
                    · exact Or.inr (Or.inl q1)
                    · by_cases q2 : c = 84 ∧ 60 * o ≤ k ∧ k < 60 * o + 60
                      · exact Or.inr (Or.inr (Or.inr q2))
                      · left
                        rw [if_neg (by omega), if_neg (by omega)]
                · intro k hk
                  rw [y2 _ _ (by omega), y2 _ _ (by omega), if_neg (by omega)]
                  by_cases z : j ≤ k ∧ k < j + m
                  · rw [if_pos ⟨rfl, z⟩, if_pos ⟨rfl, by omega, by omega⟩, c8 _ (by omega), show 60 * s + (i + (k - j)) = 60 * s + i + (60 * o + k - (60 * o + j)) by omega]
                  · rw [if_neg (by omega), if_neg (by omega), if_neg (by omega)]
                    exact d8 k hk
                · intro ht k hk
                  rw [y2 _ _ (by omega), if_neg (by omega)]
                  by_cases z : j ≤ k ∧ k < j + m
                  · rw [if_pos ⟨rfl, z⟩]
                    exact c9 ht _ (by omega)
                  · rw [if_neg (by omega)]
                    exact d9 ht k hk
              · intro c k hk
                have z1 : ¬ (42 ≤ c ∧ c ≤ 53) := by intro y; simp [aS2, aS, y] at hk
                have z2 : ¬ (82 ≤ c ∧ c ≤ 84) := by intro y; simp [aS2, aS, y] at hk
                have z3 : ¬ c = 85 := by intro y; simp [aS2, y] at hk
                rw [← hw2, gl_cpL, if_neg (by omega), gl_cpL, if_neg (by omega), gi_cpL, gi_cpL, k1, ← hw1, gl_cpL, if_neg (by omega)]
                exact ⟨rfl, rfl⟩
            · refine ⟨-13, w, w, ?_, ?_, hS, eqo_rf w⟩
              · rw [hX, if_neg q, if_neg p, if_pos c1, if_pos d1, if_pos (by rw [c2, d2]), X_hasPlaces c3 c7, bR_s, ite_b2i, X_hasPlaces d3 d7, bR_s, ite_b2i]
                by_cases h1 : plc a2 a5 n
                · rw [if_pos h1, if_neg (fun h2 => hp ⟨h1, h2⟩)]
                · rw [if_neg h1]
              · rw [M_shift hs6 ho6, c4, if_neg y1, d4, if_neg x1, if_neg y2', if_pos rfl, c5, d5]
                by_cases h5 : a5 < 0
                · rw [if_pos h5]
                · rw [if_neg h5]
                  have h5' : 0 ≤ a5.toInt := by
                    have := mt Int32.lt_iff_toInt_lt.mpr h5
                    rw [ti_0] at this
                    omega
                  by_cases k1 : a2 < 0
                  · rw [if_pos k1]
                  · rw [if_neg k1]
                    by_cases k2 : a4 < 0
                    · rw [if_pos k2]
                    · rw [if_neg k2]
                      have k1' : 0 ≤ a2.toInt := by
                        have := mt Int32.lt_iff_toInt_lt.mpr k1
                        rw [ti_0] at this
                        omega
                      have k2' : 0 ≤ a4.toInt := by
                        have := mt Int32.lt_iff_toInt_lt.mpr k2
                        rw [ti_0] at this
                        omega
                      by_cases k3 : nI n - a5 < a2
                      · rw [if_pos k3]
                      · rw [if_neg k3, if_neg]
                        intro k4
                        rw [sub_lt c7 h5] at k3
                        rw [sub_ge d7 h5] at k4
                        exact hp ⟨⟨k1', h5', by omega⟩, ⟨k2', h5', by omega⟩⟩
          · refine ⟨-12, w, w, ?_, ?_, hS, eqo_rf w⟩
            · rw [hX, if_neg q, if_neg p, if_pos c1, if_pos d1, if_neg (by rw [c2, d2]; simp only [fa_lt, fa_le, fa_eq, inb, ti_m14, ti_m13, ti_m12, ti_m11, ti_m10, ti_m9, ti_m8, ti_m7, ti_m6, ti_m5, ti_m4, ti_m3, ti_m2, ti_m1, ti_0, ti_1, ti_2, ti_3, ti_4, ti_5, ti_6, ti_7, ti_8, ti_9, ti_10, ti_11, ti_12, ti_13, ti_14, ti_15, ti_16, ti_17, ti_18, ti_19, ti_20, ti_21, ti_22, ti_23, ti_24, ti_25, ti_26, ti_27, ti_28, ti_29, ti_30, ti_31, ti_32, ti_33, ti_34, ti_35, ti_36, ti_37, ti_38, ti_39, ti_40, ti_41, ti_42, ti_43, ti_44, ti_45, ti_46, ti_47, ti_48, ti_49, ti_50, ti_51, ti_52, ti_53, ti_54, ti_55, ti_56, ti_57, ti_58, ti_59, ti_60, ti_61, ti_62, ti_63, ti_64, ti_99, ti_100, ti_120, ti_122, ti_124, ti_128, ti_130, ti_255, ti_256, ti_260, ti_360, ti_999, ti_1000, ti_9999, ti_10000]; omega)]
            · rw [M_shift hs6 ho6, c4, if_neg y1, d4, if_neg x1, if_neg y2', if_neg (fun e => et (m2_inj c6 d6 e))]
    · refine ⟨-1, w, w, ?_, ?_, hS, eqo_rf w⟩
      · unfold f_X11_shift; rw [X_isShelf, bR_s, ite_b2i, if_pos hs, X_isShelf, bR_s, ite_b2i, if_neg ho]
      · unfold f_X12_shift; rw [M_isShelf, bR_s, ite_b2i, if_pos hs, M_isShelf, bR_s, ite_b2i, if_neg ho]
  · refine ⟨-1, w, w, ?_, ?_, hS, eqo_rf w⟩
    · unfold f_X11_shift; rw [X_isShelf, bR_s, ite_b2i, if_neg hs]
    · unfold f_X12_shift; rw [M_isShelf, bR_s, ite_b2i, if_neg hs]
