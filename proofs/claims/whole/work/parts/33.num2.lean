/-! NUMBERS, 2: undo, redo, lookers -/
theorem NR_upd {w w2 : Wd} {L dn um dn' um' q r : Nat} {v : Int32} (hN : NR L dn um w) (ho : okq q r) (hv : inr q v) (hs : dn' + um' = dn + um)
    (hw : ∀ c k, gi w2 c k = if c = 2 ∧ k = slt q r then v else if c = mc q ∧ k = mi q r then v else if c = 1 ∧ k = 5 then nI dn' else if c = 54 ∧ k = 11 then nI dn' else if c = 54 ∧ k = 12 then nI um' else gi w c k) :
    NR L dn' um' w2 ∧ (∀ c k, aN c k = false → gi w2 c k = gi w c k) := by
  obtain ⟨h1, h2, h3, h4, h5, h6, h7, h8, h9, h10⟩ := id hN
  have hr := mc_rng q
  have hmi := mi_54 ho
  have o54 : ∀ k, k < 6 ∨ 10 < k → ¬ (54 = mc q ∧ k = mi q r) := by
    intro k hk y
    have := hmi y.1.symm
    omega
  refine ⟨⟨h1, ?_, ?_, by omega, ?_, ?_, ?_, ?_, ?_, ?_⟩, ?_⟩
  · rw [hw, if_neg (by omega), if_neg (by omega), if_neg (by omega), if_neg (by omega), if_neg (by omega)]; exact h2
  · rw [hw, if_neg (by omega), if_neg (o54 3 (by omega)), if_neg (by omega), if_neg (by omega), if_neg (by omega)]; exact h3
  · rw [hw, if_neg (by omega), if_neg (by omega), if_pos ⟨rfl, rfl⟩]
  · rw [hw, if_neg (by omega), if_neg (by omega), if_neg (by omega), if_neg (by omega), if_neg (by omega), h6, hs]
  · rw [hw, if_neg (by omega), if_neg (o54 11 (by omega)), if_neg (by omega), if_pos ⟨rfl, rfl⟩]
  · rw [hw, if_neg (by omega), if_neg (o54 12 (by omega)), if_neg (by omega), if_neg (by omega), if_pos ⟨rfl, rfl⟩]
  · intro q' r' ho'
    have hr' := mc_rng q'
    have h54 := mi_54 ho'
    have a1 : gi w2 2 (slt q' r') = if slt q' r' = slt q r then v else gi w 2 (slt q' r') := by
      rw [hw]
      by_cases z : slt q' r' = slt q r
      · rw [if_pos ⟨rfl, z⟩, if_pos z]
      · rw [if_neg (by omega), if_neg (by omega), if_neg (by omega), if_neg (by omega), if_neg (by omega), if_neg z]
    have a2 : gi w2 (mc q') (mi q' r') = if mc q' = mc q ∧ mi q' r' = mi q r then v else gi w (mc q') (mi q' r') := by
      rw [hw, if_neg (by omega)]
      by_cases z : mc q' = mc q ∧ mi q' r' = mi q r
      · rw [if_pos z, if_pos z]
      · rw [if_neg z, if_neg z, if_neg (by omega), if_neg (by intro y; have := h54 y.1; omega), if_neg (by intro y; have := h54 y.1; omega)]
    rw [a1, a2]
    by_cases z : q' = q ∧ r' = r
    · obtain ⟨rfl, rfl⟩ := z
      rw [if_pos rfl, if_pos ⟨rfl, rfl⟩]
      exact ⟨rfl, hv⟩
    · rw [if_neg (fun y => z (slt_inj ho' ho y)), if_neg (fun y => z (mi_inj ho' ho y.1 y.2))]
      exact h9 q' r' ho'
  · intro i hi
    have st : ∀ c, (3 ≤ c ∧ c ≤ 5) ∨ (59 ≤ c ∧ c ≤ 62) → gi w2 c i = gi w c i := by
      intro c hc
      rw [hw, if_neg (by omega), if_neg (by omega), if_neg (by omega), if_neg (by omega), if_neg (by omega)]
    rw [st 59 (by omega), st 60 (by omega), st 3 (by omega), st 4 (by omega), st 61 (by omega), st 5 (by omega), st 62 (by omega)]
    exact h10 i (by omega)
  · intro c k hk
    have z1 : ¬ (1 ≤ c ∧ c ≤ 5) := by intro y; simp [aN, y] at hk
    have z2 : ¬ (55 ≤ c ∧ c ≤ 62) := by intro y; simp [aN, y] at hk
    have z3 : c = 54 → k ≠ 3 ∧ ¬ (6 ≤ k ∧ k ≤ 12) := by
      intro y
      subst y
      simp [aN] at hk
      omega
    rw [hw, if_neg (by omega), if_neg (by intro y; rcases hr with e | e | e | e | e; · have := hmi e; have := z3 (by omega); omega
                                          all_goals omega), if_neg (by omega), if_neg (by intro y; have := z3 y.1; omega), if_neg (by intro y; have := z3 y.1; omega)]
theorem N_undo {w : Wd} {L dn um : Nat} (hN : NR L dn um w) : ∃ r w1 w2 dn' um', f_X11_undo w = some (r, w1) ∧ f_X12_undo w1 = some (r, w2) ∧ NR L dn' um' w2 ∧ eqo aN w w2 := by
  obtain ⟨h1, h2, h3, h4, h5, h6, h7, h8, h9, h10⟩ := id hN
  cases dn with
  | zero =>
    refine ⟨-5, w, w, 0, um, ?_, ?_, hN, eqo_rf w⟩
    · unfold f_X11_undo; rw [h5, if_pos (by decide)]
    · unfold f_X12_undo; rw [h7, if_pos (by decide)]
  | succ d =>
    have t := nI_toInt (n := d + 1) (by omega)
    obtain ⟨q, r, ho, b1, b2, b3, b4, b5, b6, b7⟩ := h10 d (by omega)
    have hl := slt_lt ho
    have hmc := mc_rng q
    have hmi := mi_54 ho
    have ib : inb (nI d) 40 := inb_nI (by omega) (by decide)
    have ed : nI (d + 1) - 1 = nI d := nI_pred d
    refine ⟨nI d, si (si w 1 5 (nI d)) 2 (slt q r) (gi w 4 d), si (si (si (si (si w 1 5 (nI d)) 2 (slt q r) (gi w 4 d)) 54 11 (nI d)) 54 12 (nI (um + 1))) (mc q) (mi q r) (gi w 61 d), d, um + 1, ?_, ?_, ?_⟩
    · unfold f_X11_undo f_X6_stepBack
      rw [h5, if_neg (by simp only [fa_lt, fa_le, fa_eq, inb, ti_m14, ti_m13, ti_m12, ti_m11, ti_m10, ti_m9, ti_m8, ti_m7, ti_m6, ti_m5, ti_m4, ti_m3, ti_m2, ti_m1, ti_0, ti_1, ti_2, ti_3, ti_4, ti_5, ti_6, ti_7, ti_8, ti_9, ti_10, ti_11, ti_12, ti_13, ti_14, ti_15, ti_16, ti_17, ti_18, ti_19, ti_20, ti_21, ti_22, ti_23, ti_24, ti_25, ti_26, ti_27, ti_28, ti_29, ti_30, ti_31, ti_32, ti_33, ti_34, ti_35, ti_36, ti_37, ti_38, ti_39, ti_40, ti_41, ti_42, ti_43, ti_44, ti_45, ti_46, ti_47, ti_48, ti_49, ti_50, ti_51, ti_52, ti_53, ti_54, ti_55, ti_56, ti_57, ti_58, ti_59, ti_60, ti_61, ti_62, ti_63, ti_64, ti_99, ti_100, ti_120, ti_122, ti_124, ti_128, ti_130, ti_255, ti_256, ti_260, ti_360, ti_999, ti_1000, ti_9999, ti_10000]; omega), if_neg (by simp only [fa_lt, fa_le, fa_eq, inb, ti_m14, ti_m13, ti_m12, ti_m11, ti_m10, ti_m9, ti_m8, ti_m7, ti_m6, ti_m5, ti_m4, ti_m3, ti_m2, ti_m1, ti_0, ti_1, ti_2, ti_3, ti_4, ti_5, ti_6, ti_7, ti_8, ti_9, ti_10, ti_11, ti_12, ti_13, ti_14, ti_15, ti_16, ti_17, ti_18, ti_19, ti_20, ti_21, ti_22, ti_23, ti_24, ti_25, ti_26, ti_27, ti_28, ti_29, ti_30, ti_31, ti_32, ti_33, ti_34, ti_35, ti_36, ti_37, ti_38, ti_39, ti_40, ti_41, ti_42, ti_43, ti_44, ti_45, ti_46, ti_47, ti_48, ti_49, ti_50, ti_51, ti_52, ti_53, ti_54, ti_55, ti_56, ti_57, ti_58, ti_59, ti_60, ti_61, ti_62, ti_63, ti_64, ti_99, ti_100, ti_120, ti_122, ti_124, ti_128, ti_130, ti_255, ti_256, ti_260, ti_360, ti_999, ti_1000, ti_9999, ti_10000]; omega), stI_d, ed, gi_si, if_pos ⟨rfl, rfl⟩, ldI_d ib, ldI_d ib, ix_nI (by omega), gi_si, if_neg (by omega), gi_si, if_neg (by omega), b3, saI_d (inb_nI hl (by decide)), ix_nI (by omega), gi_si, if_neg (by omega), gi_si, if_pos ⟨rfl, rfl⟩, bW_s]
    · unfold f_X12_undo
      have e11 : gi (si (si w 1 5 (nI d)) 2 (slt q r) (gi w 4 d)) 54 11 = nI (d + 1) := by
        rw [gi_si, if_neg (by omega), gi_si, if_neg (by omega)]; exact h7
      have e12 : gi (si (si (si w 1 5 (nI d)) 2 (slt q r) (gi w 4 d)) 54 11 (nI d)) 54 12 = nI um := by
        rw [gi_si, if_neg (by omega), gi_si, if_neg (by omega), gi_si, if_neg (by omega)]; exact h8
      rw [e11, if_neg (by simp only [fa_lt, fa_le, fa_eq, inb, ti_m14, ti_m13, ti_m12, ti_m11, ti_m10, ti_m9, ti_m8, ti_m7, ti_m6, ti_m5, ti_m4, ti_m3, ti_m2, ti_m1, ti_0, ti_1, ti_2, ti_3, ti_4, ti_5, ti_6, ti_7, ti_8, ti_9, ti_10, ti_11, ti_12, ti_13, ti_14, ti_15, ti_16, ti_17, ti_18, ti_19, ti_20, ti_21, ti_22, ti_23, ti_24, ti_25, ti_26, ti_27, ti_28, ti_29, ti_30, ti_31, ti_32, ti_33, ti_34, ti_35, ti_36, ti_37, ti_38, ti_39, ti_40, ti_41, ti_42, ti_43, ti_44, ti_45, ti_46, ti_47, ti_48, ti_49, ti_50, ti_51, ti_52, ti_53, ti_54, ti_55, ti_56, ti_57, ti_58, ti_59, ti_60, ti_61, ti_62, ti_63, ti_64, ti_99, ti_100, ti_120, ti_122, ti_124, ti_128, ti_130, ti_255, ti_256, ti_260, ti_360, ti_999, ti_1000, ti_9999, ti_10000]; omega), stI_d, ed, e12, stI_d, nI_1]
      have e13 : gi (si (si (si (si w 1 5 (nI d)) 2 (slt q r) (gi w 4 d)) 54 11 (nI d)) 54 12 (nI (um + 1))) 54 11 = nI d := by
        rw [gi_si, if_neg (by omega), gi_si, if_pos ⟨rfl, rfl⟩]
      have rd : ∀ c, 59 ≤ c → gi (si (si (si (si w 1 5 (nI d)) 2 (slt q r) (gi w 4 d)) 54 11 (nI d)) 54 12 (nI (um + 1))) c d = gi w c d := by
        intro c hc
        rw [gi_si, if_neg (by omega), gi_si, if_neg (by omega), gi_si, if_neg (by omega), gi_si, if_neg (by omega)]
      rw [e13, ldI_d ib, ldI_d ib, ldI_d ib, ix_nI (by omega), rd 59 (by omega), rd 60 (by omega), rd 61 (by omega), b1, b2, M_lays ho, bV_s, gi_si, if_neg (by intro y; have := hmi y.1.symm; omega), e13]
    · have key := NR_upd (w2 := si (si (si (si (si w 1 5 (nI d)) 2 (slt q r) (gi w 4 d)) 54 11 (nI d)) 54 12 (nI (um + 1))) (mc q) (mi q r) (gi w 61 d)) (dn' := d) (um' := um + 1) (v := gi w 61 d) hN ho b6 (by omega) (by
        intro c k
        simp only [gi_si, b4]
        by_cases z1 : c = 2 ∧ k = slt q r
        · simp only [z1, and_self, if_true]
          have : ¬ (2 = mc q ∧ slt q r = mi q r) := by omega
          simp [this]
        · by_cases z2 : c = mc q ∧ k = mi q r
          · simp only [z2, and_self, if_true]
            split <;> rfl
          · by_cases z3 : c = 54 ∧ k = 12
            · simp only [z1, z2, z3, if_false, if_true, and_self]
              simp
            · by_cases z4 : c = 54 ∧ k = 11
              · simp only [z1, z2, z3, z4, if_false, if_true, and_self]
                simp
              · simp only [z1, z2, z3, z4, if_false])
      exact ⟨key.1, fun c k hk => ⟨key.2 c k hk, rfl⟩⟩
theorem N_redo {w : Wd} {L dn um : Nat} (hN : NR L dn um w) : ∃ r w1 w2 dn' um', f_X11_redo w = some (r, w1) ∧ f_X12_redo w1 = some (r, w2) ∧ NR L dn' um' w2 ∧ eqo aN w w2 := by
  obtain ⟨h1, h2, h3, h4, h5, h6, h7, h8, h9, h10⟩ := id hN
  cases um with
  | zero =>
    refine ⟨-5, w, w, dn, 0, ?_, ?_, hN, eqo_rf w⟩
    · unfold f_X11_redo; rw [h5, h6, Nat.add_zero, if_pos rfl]
    · unfold f_X12_redo; rw [h8, if_pos (by decide)]
  | succ u =>
    have t := nI_toInt (n := dn) (by omega)
    have t2 := nI_toInt (n := dn + (u + 1)) (by omega)
    have t3 := nI_toInt (n := u + 1) (by omega)
    obtain ⟨q, r, ho, b1, b2, b3, b4, b5, b6, b7⟩ := h10 dn (by omega)
    have hl := slt_lt ho
    have hmc := mc_rng q
    have hmi := mi_54 ho
    have ib : inb (nI dn) 40 := inb_nI (by omega) (by decide)
    refine ⟨nI u, si (si w 2 (slt q r) (gi w 5 dn)) 1 5 (nI (dn + 1)), si (si (si (si (si w 2 (slt q r) (gi w 5 dn)) 1 5 (nI (dn + 1))) (mc q) (mi q r) (gi w 62 dn)) 54 11 (nI (dn + 1))) 54 12 (nI u), dn + 1, u, ?_, ?_, ?_⟩
    · unfold f_X11_redo f_X6_stepOn f_X6_stepOn_b44
      rw [h5, h6, if_neg (by simp only [fa_lt, fa_le, fa_eq, inb, ti_m14, ti_m13, ti_m12, ti_m11, ti_m10, ti_m9, ti_m8, ti_m7, ti_m6, ti_m5, ti_m4, ti_m3, ti_m2, ti_m1, ti_0, ti_1, ti_2, ti_3, ti_4, ti_5, ti_6, ti_7, ti_8, ti_9, ti_10, ti_11, ti_12, ti_13, ti_14, ti_15, ti_16, ti_17, ti_18, ti_19, ti_20, ti_21, ti_22, ti_23, ti_24, ti_25, ti_26, ti_27, ti_28, ti_29, ti_30, ti_31, ti_32, ti_33, ti_34, ti_35, ti_36, ti_37, ti_38, ti_39, ti_40, ti_41, ti_42, ti_43, ti_44, ti_45, ti_46, ti_47, ti_48, ti_49, ti_50, ti_51, ti_52, ti_53, ti_54, ti_55, ti_56, ti_57, ti_58, ti_59, ti_60, ti_61, ti_62, ti_63, ti_64, ti_99, ti_100, ti_120, ti_122, ti_124, ti_128, ti_130, ti_255, ti_256, ti_260, ti_360, ti_999, ti_1000, ti_9999, ti_10000]; omega), if_neg (by simp only [fa_lt, fa_le, fa_eq, inb, ti_m14, ti_m13, ti_m12, ti_m11, ti_m10, ti_m9, ti_m8, ti_m7, ti_m6, ti_m5, ti_m4, ti_m3, ti_m2, ti_m1, ti_0, ti_1, ti_2, ti_3, ti_4, ti_5, ti_6, ti_7, ti_8, ti_9, ti_10, ti_11, ti_12, ti_13, ti_14, ti_15, ti_16, ti_17, ti_18, ti_19, ti_20, ti_21, ti_22, ti_23, ti_24, ti_25, ti_26, ti_27, ti_28, ti_29, ti_30, ti_31, ti_32, ti_33, ti_34, ti_35, ti_36, ti_37, ti_38, ti_39, ti_40, ti_41, ti_42, ti_43, ti_44, ti_45, ti_46, ti_47, ti_48, ti_49, ti_50, ti_51, ti_52, ti_53, ti_54, ti_55, ti_56, ti_57, ti_58, ti_59, ti_60, ti_61, ti_62, ti_63, ti_64, ti_99, ti_100, ti_120, ti_122, ti_124, ti_128, ti_130, ti_255, ti_256, ti_260, ti_360, ti_999, ti_1000, ti_9999, ti_10000]; omega), ldI_d ib, ldI_d ib, ix_nI (by omega), b3, saI_d (inb_nI hl (by decide)), ix_nI (by omega), gi_si, if_neg (by omega), h5, stI_d, nI_1, gi_si, if_neg (by omega), gi_si, if_neg (by omega), h6, gi_si, if_pos ⟨rfl, rfl⟩, pk_sub (by omega), bW_s]
      congr 3
      omega
    · unfold f_X12_redo
      have e11 : gi (si (si w 2 (slt q r) (gi w 5 dn)) 1 5 (nI (dn + 1))) 54 11 = nI dn := by
        rw [gi_si, if_neg (by omega), gi_si, if_neg (by omega)]; exact h7
      have e12 : gi (si (si w 2 (slt q r) (gi w 5 dn)) 1 5 (nI (dn + 1))) 54 12 = nI (u + 1) := by
        rw [gi_si, if_neg (by omega), gi_si, if_neg (by omega)]; exact h8
      have rd : ∀ c, 59 ≤ c → gi (si (si w 2 (slt q r) (gi w 5 dn)) 1 5 (nI (dn + 1))) c dn = gi w c dn := by
        intro c hc
        rw [gi_si, if_neg (by omega), gi_si, if_neg (by omega)]
      rw [e12, if_neg (by simp only [fa_lt, fa_le, fa_eq, inb, ti_m14, ti_m13, ti_m12, ti_m11, ti_m10, ti_m9, ti_m8, ti_m7, ti_m6, ti_m5, ti_m4, ti_m3, ti_m2, ti_m1, ti_0, ti_1, ti_2, ti_3, ti_4, ti_5, ti_6, ti_7, ti_8, ti_9, ti_10, ti_11, ti_12, ti_13, ti_14, ti_15, ti_16, ti_17, ti_18, ti_19, ti_20, ti_21, ti_22, ti_23, ti_24, ti_25, ti_26, ti_27, ti_28, ti_29, ti_30, ti_31, ti_32, ti_33, ti_34, ti_35, ti_36, ti_37, ti_38, ti_39, ti_40, ti_41, ti_42, ti_43, ti_44, ti_45, ti_46, ti_47, ti_48, ti_49, ti_50, ti_51, ti_52, ti_53, ti_54, ti_55, ti_56, ti_57, ti_58, ti_59, ti_60, ti_61, ti_62, ti_63, ti_64, ti_99, ti_100, ti_120, ti_122, ti_124, ti_128, ti_130, ti_255, ti_256, ti_260, ti_360, ti_999, ti_1000, ti_9999, ti_10000]; omega), e11, ldI_d ib, ldI_d ib, ldI_d ib, ix_nI (by omega), rd 59 (by omega), rd 60 (by omega), rd 62 (by omega), b1, b2, M_lays ho, bV_s, gi_si, if_neg (by intro y; have := hmi y.1.symm; omega), e11, stI_d, nI_1, gi_si, if_neg (by omega), gi_si, if_neg (by intro y; have := hmi y.1.symm; omega), e12, nI_pred, stI_d, gi_si, if_pos ⟨rfl, rfl⟩]
    · have key := NR_upd (w2 := si (si (si (si (si w 2 (slt q r) (gi w 5 dn)) 1 5 (nI (dn + 1))) (mc q) (mi q r) (gi w 62 dn)) 54 11 (nI (dn + 1))) 54 12 (nI u)) (dn' := dn + 1) (um' := u) (v := gi w 62 dn) hN ho b7 (by omega) (by
        intro c k
        simp only [gi_si, b5]
        by_cases z1 : c = 2 ∧ k = slt q r
        · obtain ⟨rfl, rfl⟩ := z1
          simp
        · by_cases z2 : c = mc q ∧ k = mi q r
          · have n1 : ¬ (c = 54 ∧ k = 12) := by intro y; have := hmi (by omega); omega
            have n2 : ¬ (c = 54 ∧ k = 11) := by intro y; have := hmi (by omega); omega
            rw [if_neg n1, if_neg n2, if_pos z2, if_neg z1, if_pos z2]
          · by_cases z3 : c = 54 ∧ k = 12
            · obtain ⟨rfl, rfl⟩ := z3
              rw [if_pos ⟨rfl, rfl⟩, if_neg (by omega), if_neg z2, if_neg (by omega), if_neg (by omega), if_pos ⟨rfl, rfl⟩]
            · by_cases z4 : c = 54 ∧ k = 11
              · rw [if_neg z3, if_pos z4, if_neg z1, if_neg z2, if_neg (by omega), if_pos z4]
              · rw [if_neg z3, if_neg z4, if_neg z2, if_neg z1, if_neg z2, if_neg z4, if_neg z3]
                simp only [z1, if_false])
      exact ⟨key.1, fun c k hk => ⟨key.2 c k hk, rfl⟩⟩
/-- a looker comes, on each side -/
def addX (L : Nat) (s c : Int32) (w : Wd) : Wd := si (si (si w 2 (20 + 2 * L) s) 2 (20 + 2 * L + 1) c) 1 1 (nI (L + 1))
def addM (L : Nat) (s c : Int32) (w : Wd) : Wd := si (si (si w 57 L s) 58 L c) 54 3 (nI (L + 1))
theorem X_add {w : Wd} {L : Nat} {s c : Int32} (hL : gi w 1 1 = nI L) (h6 : L < 6) : f_X6_addLooker s c w = some (nI L, addX L s c w) := by
  have t := nI_toInt (n := L) (by omega)
  unfold f_X6_addLooker addX
  have e : (20 : Int32) + 2 * nI L = nI (20 + 2 * L) := by
    rw [show (20 : Int32) = nI 20 from rfl, show (2 : Int32) = nI 2 from rfl, pk_mul, nI_add]
  rw [hL, if_neg (by simp only [fa_lt, fa_le, fa_eq, inb, ti_m14, ti_m13, ti_m12, ti_m11, ti_m10, ti_m9, ti_m8, ti_m7, ti_m6, ti_m5, ti_m4, ti_m3, ti_m2, ti_m1, ti_0, ti_1, ti_2, ti_3, ti_4, ti_5, ti_6, ti_7, ti_8, ti_9, ti_10, ti_11, ti_12, ti_13, ti_14, ti_15, ti_16, ti_17, ti_18, ti_19, ti_20, ti_21, ti_22, ti_23, ti_24, ti_25, ti_26, ti_27, ti_28, ti_29, ti_30, ti_31, ti_32, ti_33, ti_34, ti_35, ti_36, ti_37, ti_38, ti_39, ti_40, ti_41, ti_42, ti_43, ti_44, ti_45, ti_46, ti_47, ti_48, ti_49, ti_50, ti_51, ti_52, ti_53, ti_54, ti_55, ti_56, ti_57, ti_58, ti_59, ti_60, ti_61, ti_62, ti_63, ti_64, ti_99, ti_100, ti_120, ti_122, ti_124, ti_128, ti_130, ti_255, ti_256, ti_260, ti_360, ti_999, ti_1000, ti_9999, ti_10000]; omega), e, saI_d (inb_nI (by omega) (by decide)), ix_nI (by omega), gi_si, if_neg (by omega), hL, e, nI_1, saI_d (inb_nI (by omega) (by decide)), ix_nI (by omega), gi_si, if_neg (by omega), gi_si, if_neg (by omega), hL, stI_d, nI_1, gi_si, if_pos ⟨rfl, rfl⟩, nI_pred]
theorem X_addF {w : Wd} {s c : Int32} (hL : gi w 1 1 = nI 6) : f_X6_addLooker s c w = some (-3, w) := by
  unfold f_X6_addLooker
  rw [hL, if_pos (by decide)]
theorem M_add {w : Wd} {L : Nat} {s c : Int32} (hL : gi w 54 3 = nI L) (h6 : L < 6) : f_X12_addLooker s c w = some (nI L, addM L s c w) := by
  unfold f_X12_addLooker addM
  rw [hL, saI_d (inb_nI h6 (by decide)), ix_nI (by omega), gi_si, if_neg (by omega), hL, saI_d (inb_nI h6 (by decide)), ix_nI (by omega), gi_si, if_neg (by omega), gi_si, if_neg (by omega), hL, stI_d, nI_1, gi_si, if_pos ⟨rfl, rfl⟩, nI_pred]
theorem NR_add {w : Wd} {L dn um : Nat} {s c : Int32} (hN : NR L dn um w) (h6 : L < 6) (hs : inr 5 s) (hc : inr 6 c) : NR (L + 1) dn um (addM L s c (addX L s c w)) := by
  obtain ⟨h1, h2, h3, h4, h5, h6', h7, h8, h9, h10⟩ := id hN
  have hw : ∀ a b, gi (addM L s c (addX L s c w)) a b = if a = 54 ∧ b = 3 then nI (L + 1) else if a = 58 ∧ b = L then c else if a = 57 ∧ b = L then s else if a = 1 ∧ b = 1 then nI (L + 1) else if a = 2 ∧ b = 20 + 2 * L + 1 then c else if a = 2 ∧ b = 20 + 2 * L then s else gi w a b := by
    intro a b
    unfold addM addX
    simp only [gi_si]
  refine ⟨by omega, ?_, ?_, h4, ?_, ?_, ?_, ?_, ?_, ?_⟩
  · rw [hw]; simp
  · rw [hw]; simp
  · rw [hw]; simp; exact h5
  · rw [hw]; simp; exact h6'
  · rw [hw]; simp; exact h7
  · rw [hw]; simp; exact h8
  · intro q r ho
    have hr := mc_rng q
    have h54 := mi_54 ho
    by_cases z5 : q = 5 ∧ r = L
    · obtain ⟨rfl, rfl⟩ := z5
      have e1 : slt 5 r = 20 + 2 * r := by show 15 + 2 * r + 5 = _; omega
      rw [e1, hw, hw, show mc 5 = 57 from rfl, show mi 5 r = r from rfl]
      simp
      exact hs
    · by_cases z6 : q = 6 ∧ r = L
      · obtain ⟨rfl, rfl⟩ := z6
        have e1 : slt 6 r = 20 + 2 * r + 1 := by show 15 + 2 * r + 6 = _; omega
        rw [e1, hw, hw, show mc 6 = 58 from rfl, show mi 6 r = r from rfl]
        simp
        exact hc
      · have o5 : okq 5 L := ⟨by omega, by omega, by omega, by omega⟩
        have o6 : okq 6 L := ⟨by omega, by omega, by omega, by omega⟩
        have e5 : slt 5 L = 20 + 2 * L := by show 15 + 2 * L + 5 = _; omega
        have e6 : slt 6 L = 20 + 2 * L + 1 := by show 15 + 2 * L + 6 = _; omega
        have n1 : ¬ slt q r = 20 + 2 * L := fun y => z5 (slt_inj ho o5 (y.trans e5.symm))
        have n2 : ¬ slt q r = 20 + 2 * L + 1 := fun y => z6 (slt_inj ho o6 (y.trans e6.symm))
        have m1 : ¬ (mc q = 57 ∧ mi q r = L) := fun y => z5 (mi_inj ho o5 y.1 y.2)
        have m2 : ¬ (mc q = 58 ∧ mi q r = L) := fun y => z6 (mi_inj ho o6 y.1 y.2)
        have m3 : ¬ (mc q = 54 ∧ mi q r = 3) := by intro y; have := h54 y.1; omega
        rw [hw, hw, if_neg (by omega), if_neg (by omega), if_neg (by omega), if_neg (by omega), if_neg (by omega), if_neg (by omega), if_neg m3, if_neg m2, if_neg m1, if_neg (by omega), if_neg (by omega), if_neg (by omega)]
        exact h9 q r ho
  · intro i hi
    have st : ∀ a, (3 ≤ a ∧ a ≤ 5) ∨ (59 ≤ a ∧ a ≤ 62) → gi (addM L s c (addX L s c w)) a i = gi w a i := by
      intro a ha
      rw [hw, if_neg (by omega), if_neg (by omega), if_neg (by omega), if_neg (by omega), if_neg (by omega), if_neg (by omega)]
    rw [st 59 (by omega), st 60 (by omega), st 3 (by omega), st 4 (by omega), st 61 (by omega), st 5 (by omega), st 62 (by omega)]
    exact h10 i hi
theorem eqo_addX {w w' : Wd} {L : Nat} {s c : Int32} (h : eqo aN w w') : eqo aN w (addX L s c w') := by
  unfold addX
  exact eqo_si (eqo_si (eqo_si h (by simp [aN])) (by simp [aN])) (by simp [aN])
theorem eqo_addM {w w' : Wd} {L : Nat} {s c : Int32} (h : eqo aN w w') : eqo aN w (addM L s c w') := by
  unfold addM
  exact eqo_si (eqo_si (eqo_si h (by simp [aN])) (by simp [aN])) (by simp [aN])
theorem N_looker {w : Wd} {L dn um : Nat} (hN : NR L dn um w) (a : Int32) : ∃ r w1 w2 L', f_X11_looker a w = some (r, w1) ∧ f_X12_looker a w1 = some (r, w2) ∧ NR L' dn um w2 ∧ L ≤ L' ∧ eqo aN w w2 := by
  obtain ⟨h1, h2, h3, h4, h5, h6, h7, h8, h9, h10⟩ := id hN
  by_cases ha : a < 0
  · refine ⟨-1, w, w, L, ?_, ?_, hN, Nat.le_refl _, eqo_rf w⟩
    · unfold f_X11_looker; rw [if_pos ha]
    · unfold f_X12_looker; rw [if_pos ha]
  · obtain ⟨n, hn, rfl⟩ := nI_of ha
    have ed : nI n / 100 = nI (n / 100) := by rw [show (100 : Int32) = nI 100 from rfl, pk_div hn (by omega) (by omega)]
    have er : ire (nI n) 100 = nI (n % 100) := by unfold ire; rw [show (100 : Int32) = nI 100 from rfl, pk_rem hn (by omega) (by omega)]
    have t := nI_toInt (n := n / 100) (by omega)
    have t2 := nI_toInt (n := n % 100) (by omega)
    have hi : inr 5 (nI (n / 100)) ↔ n / 100 ≤ 12 := by
      show (0 : Int) ≤ _ ∧ _ ≤ (12 : Int) ↔ _
      rw [t]
      omega
    have mb : f_X6_mayBe 5 (nI (n / 100)) w = some (b2i (inr 5 (nI (n / 100)))) := X_mayBe_ok (q := 5) (by omega) _
    by_cases hs : n / 100 ≤ 12
    · by_cases c6 : L = 6
      · subst c6
        refine ⟨-3, w, w, 6, ?_, ?_, hN, Nat.le_refl _, eqo_rf w⟩
        · unfold f_X11_looker
          rw [if_neg ha, ed, mb, bR_s, ite_b2i, if_pos (hi.mpr hs), X_addF h2, bW_s]
        · unfold f_X12_looker
          rw [if_neg ha, ed, if_pos (by simp only [fa_lt, fa_le, fa_eq, inb, ti_m14, ti_m13, ti_m12, ti_m11, ti_m10, ti_m9, ti_m8, ti_m7, ti_m6, ti_m5, ti_m4, ti_m3, ti_m2, ti_m1, ti_0, ti_1, ti_2, ti_3, ti_4, ti_5, ti_6, ti_7, ti_8, ti_9, ti_10, ti_11, ti_12, ti_13, ti_14, ti_15, ti_16, ti_17, ti_18, ti_19, ti_20, ti_21, ti_22, ti_23, ti_24, ti_25, ti_26, ti_27, ti_28, ti_29, ti_30, ti_31, ti_32, ti_33, ti_34, ti_35, ti_36, ti_37, ti_38, ti_39, ti_40, ti_41, ti_42, ti_43, ti_44, ti_45, ti_46, ti_47, ti_48, ti_49, ti_50, ti_51, ti_52, ti_53, ti_54, ti_55, ti_56, ti_57, ti_58, ti_59, ti_60, ti_61, ti_62, ti_63, ti_64, ti_99, ti_100, ti_120, ti_122, ti_124, ti_128, ti_130, ti_255, ti_256, ti_260, ti_360, ti_999, ti_1000, ti_9999, ti_10000]; omega), h3, if_pos (by decide)]
      · have tL := nI_toInt (n := L) (by omega)
        refine ⟨nI L, addX L (nI (n / 100)) (nI (n % 100)) w, addM L (nI (n / 100)) (nI (n % 100)) (addX L (nI (n / 100)) (nI (n % 100)) w), L + 1, ?_, ?_, NR_add hN (by omega) (hi.mpr hs) ?_, by omega, eqo_addM (eqo_addX (eqo_rf w))⟩
        · unfold f_X11_looker
          rw [if_neg ha, ed, mb, bR_s, ite_b2i, if_pos (hi.mpr hs), er, X_add h2 (by omega), bW_s]
        · have e3 : gi (addX L (nI (n / 100)) (nI (n % 100)) w) 54 3 = nI L := by
            unfold addX
            rw [gi_si, if_neg (by omega), gi_si, if_neg (by omega), gi_si, if_neg (by omega)]
            exact h3
          unfold f_X12_looker
          rw [if_neg ha, ed, if_pos (by simp only [fa_lt, fa_le, fa_eq, inb, ti_m14, ti_m13, ti_m12, ti_m11, ti_m10, ti_m9, ti_m8, ti_m7, ti_m6, ti_m5, ti_m4, ti_m3, ti_m2, ti_m1, ti_0, ti_1, ti_2, ti_3, ti_4, ti_5, ti_6, ti_7, ti_8, ti_9, ti_10, ti_11, ti_12, ti_13, ti_14, ti_15, ti_16, ti_17, ti_18, ti_19, ti_20, ti_21, ti_22, ti_23, ti_24, ti_25, ti_26, ti_27, ti_28, ti_29, ti_30, ti_31, ti_32, ti_33, ti_34, ti_35, ti_36, ti_37, ti_38, ti_39, ti_40, ti_41, ti_42, ti_43, ti_44, ti_45, ti_46, ti_47, ti_48, ti_49, ti_50, ti_51, ti_52, ti_53, ti_54, ti_55, ti_56, ti_57, ti_58, ti_59, ti_60, ti_61, ti_62, ti_63, ti_64, ti_99, ti_100, ti_120, ti_122, ti_124, ti_128, ti_130, ti_255, ti_256, ti_260, ti_360, ti_999, ti_1000, ti_9999, ti_10000]; omega), e3, if_neg (by simp only [fa_lt, fa_le, fa_eq, inb, ti_m14, ti_m13, ti_m12, ti_m11, ti_m10, ti_m9, ti_m8, ti_m7, ti_m6, ti_m5, ti_m4, ti_m3, ti_m2, ti_m1, ti_0, ti_1, ti_2, ti_3, ti_4, ti_5, ti_6, ti_7, ti_8, ti_9, ti_10, ti_11, ti_12, ti_13, ti_14, ti_15, ti_16, ti_17, ti_18, ti_19, ti_20, ti_21, ti_22, ti_23, ti_24, ti_25, ti_26, ti_27, ti_28, ti_29, ti_30, ti_31, ti_32, ti_33, ti_34, ti_35, ti_36, ti_37, ti_38, ti_39, ti_40, ti_41, ti_42, ti_43, ti_44, ti_45, ti_46, ti_47, ti_48, ti_49, ti_50, ti_51, ti_52, ti_53, ti_54, ti_55, ti_56, ti_57, ti_58, ti_59, ti_60, ti_61, ti_62, ti_63, ti_64, ti_99, ti_100, ti_120, ti_122, ti_124, ti_128, ti_130, ti_255, ti_256, ti_260, ti_360, ti_999, ti_1000, ti_9999, ti_10000]; omega), er, M_add e3 (by omega), bW_s]
        · show (0 : Int) ≤ _ ∧ _ ≤ (99 : Int)
          rw [t2]
          omega
    · refine ⟨-1, w, w, L, ?_, ?_, hN, Nat.le_refl _, eqo_rf w⟩
      · unfold f_X11_looker
        rw [if_neg ha, ed, mb, bR_s, ite_b2i, if_neg (fun y => hs (hi.mp y))]
      · unfold f_X12_looker
        rw [if_neg ha, ed, if_neg (by simp only [fa_lt, fa_le, fa_eq, inb, ti_m14, ti_m13, ti_m12, ti_m11, ti_m10, ti_m9, ti_m8, ti_m7, ti_m6, ti_m5, ti_m4, ti_m3, ti_m2, ti_m1, ti_0, ti_1, ti_2, ti_3, ti_4, ti_5, ti_6, ti_7, ti_8, ti_9, ti_10, ti_11, ti_12, ti_13, ti_14, ti_15, ti_16, ti_17, ti_18, ti_19, ti_20, ti_21, ti_22, ti_23, ti_24, ti_25, ti_26, ti_27, ti_28, ti_29, ti_30, ti_31, ti_32, ti_33, ti_34, ti_35, ti_36, ti_37, ti_38, ti_39, ti_40, ti_41, ti_42, ti_43, ti_44, ti_45, ti_46, ti_47, ti_48, ti_49, ti_50, ti_51, ti_52, ti_53, ti_54, ti_55, ti_56, ti_57, ti_58, ti_59, ti_60, ti_61, ti_62, ti_63, ti_64, ti_99, ti_100, ti_120, ti_122, ti_124, ti_128, ti_130, ti_255, ti_256, ti_260, ti_360, ti_999, ti_1000, ti_9999, ti_10000]; omega)]
