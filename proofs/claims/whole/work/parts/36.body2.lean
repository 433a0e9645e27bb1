/-! BODIES, 2 -/
theorem B_body {w : Wd} {nb : Nat} (hB : BR nb w) (a : Int32) : ∃ r w1 w2 nb', f_X11_body a w = some (r, w1) ∧ f_X12_body a w1 = some (r, w2) ∧ BR nb' w2 ∧ nb ≤ nb' ∧ nb' ≤ 50 ∧ eqo aB w w2 := by
  obtain ⟨h1, h2, h3, h4, tr, h5, h6, h7, h8⟩ := id hB
  have t := nI_toInt (n := nb) (by omega)
  by_cases ha : inb a 8
  · obtain ⟨k, hk, rfl⟩ := of_inb ha
    have hm : (0 : Int32).toInt ≤ (nI k).toInt ∧ (nI k).toInt ≤ (7 : Int32).toInt := by
      have := nI_toInt (n := k) (by omega)
      simp only [fa_lt, fa_le, fa_eq, inb, ti_m14, ti_m13, ti_m12, ti_m11, ti_m10, ti_m9, ti_m8, ti_m7, ti_m6, ti_m5, ti_m4, ti_m3, ti_m2, ti_m1, ti_0, ti_1, ti_2, ti_3, ti_4, ti_5, ti_6, ti_7, ti_8, ti_9, ti_10, ti_11, ti_12, ti_13, ti_14, ti_15, ti_16, ti_17, ti_18, ti_19, ti_20, ti_21, ti_22, ti_23, ti_24, ti_25, ti_26, ti_27, ti_28, ti_29, ti_30, ti_31, ti_32, ti_33, ti_34, ti_35, ti_36, ti_37, ti_38, ti_39, ti_40, ti_41, ti_42, ti_43, ti_44, ti_45, ti_46, ti_47, ti_48, ti_49, ti_50, ti_51, ti_52, ti_53, ti_54, ti_55, ti_56, ti_57, ti_58, ti_59, ti_60, ti_61, ti_62, ti_63, ti_64, ti_99, ti_100, ti_120, ti_122, ti_124, ti_128, ti_130, ti_255, ti_256, ti_260, ti_360, ti_999, ti_1000, ti_9999, ti_10000]
      omega
    by_cases e : nb = 50
    · subst e
      refine ⟨-3, w, w, 50, ?_, ?_, hB, Nat.le_refl _, Nat.le_refl _, eqo_rf w⟩
      · unfold f_X11_body f_X0_add
        rw [X_isKind, bR_s, ite_b2i, if_pos ha, h2, if_pos (by decide), bW_s]
      · unfold f_X12_body
        rw [M_in, bR_s, ite_b2i, if_pos hm, h3, if_pos (by decide)]
    · have ib : inb (nI nb) 50 := inb_nI (by omega) (by decide)
      generalize hw1 : si (si w 40 nb (nI k)) 39 1 (nI (nb + 1)) = w1
      generalize hw2 : si (si w1 80 nb (nI k)) 54 48 (nI (nb + 1)) = w2
      have x1 : ∀ c j, gi w1 c j = if c = 39 ∧ j = 1 then nI (nb + 1) else if c = 40 ∧ j = nb then nI k else gi w c j := by
        intro c j
        rw [← hw1]
        simp only [gi_si]
      have x2 : ∀ c j, gi w2 c j = if c = 54 ∧ j = 48 then nI (nb + 1) else if c = 80 ∧ j = nb then nI k else gi w1 c j := by
        intro c j
        rw [← hw2]
        simp only [gi_si]
      have e48 : gi w1 54 48 = nI nb := by rw [x1, if_neg (by omega), if_neg (by omega)]; exact h3
      refine ⟨nI nb, w1, w2, nb + 1, ?_, ?_, ⟨by omega, ?_, ?_, ?_, tr, h5, ?_, ?_, ?_⟩, by omega, by omega, ?_⟩
      · unfold f_X11_body f_X0_add
        rw [X_isKind, bR_s, ite_b2i, if_pos ha, h2, if_neg (by simp only [fa_lt, fa_le, fa_eq, inb, ti_m14, ti_m13, ti_m12, ti_m11, ti_m10, ti_m9, ti_m8, ti_m7, ti_m6, ti_m5, ti_m4, ti_m3, ti_m2, ti_m1, ti_0, ti_1, ti_2, ti_3, ti_4, ti_5, ti_6, ti_7, ti_8, ti_9, ti_10, ti_11, ti_12, ti_13, ti_14, ti_15, ti_16, ti_17, ti_18, ti_19, ti_20, ti_21, ti_22, ti_23, ti_24, ti_25, ti_26, ti_27, ti_28, ti_29, ti_30, ti_31, ti_32, ti_33, ti_34, ti_35, ti_36, ti_37, ti_38, ti_39, ti_40, ti_41, ti_42, ti_43, ti_44, ti_45, ti_46, ti_47, ti_48, ti_49, ti_50, ti_51, ti_52, ti_53, ti_54, ti_55, ti_56, ti_57, ti_58, ti_59, ti_60, ti_61, ti_62, ti_63, ti_64, ti_99, ti_100, ti_120, ti_122, ti_124, ti_128, ti_130, ti_255, ti_256, ti_260, ti_360, ti_999, ti_1000, ti_9999, ti_10000]; omega), saI_d ib, ix_nI (by omega), gi_si, if_neg (by omega), h2, stI_d, nI_1, gi_si, if_pos ⟨rfl, rfl⟩, nI_pred, bW_s, hw1]
      · unfold f_X12_body
        rw [M_in, bR_s, ite_b2i, if_pos hm, e48, if_neg (by simp only [fa_lt, fa_le, fa_eq, inb, ti_m14, ti_m13, ti_m12, ti_m11, ti_m10, ti_m9, ti_m8, ti_m7, ti_m6, ti_m5, ti_m4, ti_m3, ti_m2, ti_m1, ti_0, ti_1, ti_2, ti_3, ti_4, ti_5, ti_6, ti_7, ti_8, ti_9, ti_10, ti_11, ti_12, ti_13, ti_14, ti_15, ti_16, ti_17, ti_18, ti_19, ti_20, ti_21, ti_22, ti_23, ti_24, ti_25, ti_26, ti_27, ti_28, ti_29, ti_30, ti_31, ti_32, ti_33, ti_34, ti_35, ti_36, ti_37, ti_38, ti_39, ti_40, ti_41, ti_42, ti_43, ti_44, ti_45, ti_46, ti_47, ti_48, ti_49, ti_50, ti_51, ti_52, ti_53, ti_54, ti_55, ti_56, ti_57, ti_58, ti_59, ti_60, ti_61, ti_62, ti_63, ti_64, ti_99, ti_100, ti_120, ti_122, ti_124, ti_128, ti_130, ti_255, ti_256, ti_260, ti_360, ti_999, ti_1000, ti_9999, ti_10000]; omega), saI_d ib, ix_nI (by omega), gi_si, if_neg (by omega), e48, stI_d, nI_1, gi_si, if_pos ⟨rfl, rfl⟩, nI_pred, hw2]
      · rw [x2, if_neg (by omega), if_neg (by omega), x1, if_pos ⟨rfl, rfl⟩]
      · rw [x2, if_pos ⟨rfl, rfl⟩]
      · intro i hi
        by_cases z : i = nb
        · subst z
          exact ⟨k, hk, by rw [x2, if_neg (by omega), if_neg (by omega), x1, if_neg (by omega), if_pos ⟨rfl, rfl⟩], by rw [x2, if_neg (by omega), if_pos ⟨rfl, rfl⟩]⟩
        · obtain ⟨k', q1, q2, q3⟩ := h4 i (by omega)
          exact ⟨k', q1, by rw [x2, if_neg (by omega), if_neg (by omega), x1, if_neg (by omega), if_neg (by omega)]; exact q2, by rw [x2, if_neg (by omega), if_neg (by omega), x1, if_neg (by omega), if_neg (by omega)]; exact q3⟩
      · rw [x2, if_neg (by omega), if_neg (by omega), x1, if_neg (by omega), if_neg (by omega)]; exact h6
      · rw [x2, if_neg (by omega), if_neg (by omega), x1, if_neg (by omega), if_neg (by omega)]; exact h7
      · intro i hi
        rw [x2, if_neg (by omega), if_neg (by omega), x1, if_neg (by omega), if_neg (by omega), x2, if_neg (by omega), if_neg (by omega), x1, if_neg (by omega), if_neg (by omega)]
        exact h8 i hi
      · rw [← hw2, ← hw1]
        exact eqo_si (eqo_si (eqo_si (eqo_si (eqo_rf w) (by simp [aB])) (by simp [aB])) (by simp [aB])) (by simp [aB])
  · refine ⟨-1, w, w, nb, ?_, ?_, hB, Nat.le_refl _, h1, eqo_rf w⟩
    · unfold f_X11_body
      rw [X_isKind, bR_s, ite_b2i, if_neg ha]
    · unfold f_X12_body
      rw [M_in, bR_s, ite_b2i, if_neg (by simp only [fa_lt, fa_le, fa_eq, inb, ti_m14, ti_m13, ti_m12, ti_m11, ti_m10, ti_m9, ti_m8, ti_m7, ti_m6, ti_m5, ti_m4, ti_m3, ti_m2, ti_m1, ti_0, ti_1, ti_2, ti_3, ti_4, ti_5, ti_6, ti_7, ti_8, ti_9, ti_10, ti_11, ti_12, ti_13, ti_14, ti_15, ti_16, ti_17, ti_18, ti_19, ti_20, ti_21, ti_22, ti_23, ti_24, ti_25, ti_26, ti_27, ti_28, ti_29, ti_30, ti_31, ti_32, ti_33, ti_34, ti_35, ti_36, ti_37, ti_38, ti_39, ti_40, ti_41, ti_42, ti_43, ti_44, ti_45, ti_46, ti_47, ti_48, ti_49, ti_50, ti_51, ti_52, ti_53, ti_54, ti_55, ti_56, ti_57, ti_58, ti_59, ti_60, ti_61, ti_62, ti_63, ti_64, ti_99, ti_100, ti_120, ti_122, ti_124, ti_128, ti_130, ti_255, ti_256, ti_260, ti_360, ti_999, ti_1000, ti_9999, ti_10000] at *; omega)]
theorem eqo_tX {S : Nat → Nat → Bool} {w w' : Wd} (h : eqo S w w') (h1 : ∀ k, S 41 k = true) (h2 : S 39 3 = true) (l : List Int32) (r : Nat) : eqo S w (tX r l w') := by
  intro c k hk
  rw [tX_at, tX_gl]
  have n1 : ¬ (c = 41 ∧ r ≤ k ∧ k < r + l.length) := by
    intro y
    rw [y.1, h1] at hk
    cases hk
  have n2 : ¬ (c = 39 ∧ k = 3 ∧ l ≠ []) := by
    intro y
    rw [y.1, y.2.1, h2] at hk
    cases hk
  rw [if_neg n1, if_neg n2]
  exact h c k hk
theorem eqo_tM {S : Nat → Nat → Bool} {w w' : Wd} (h : eqo S w w') (h1 : ∀ k, S 81 k = true) (h2 : S 54 50 = true) (l : List Int32) (r : Nat) : eqo S w (tM r l w') := by
  intro c k hk
  rw [tM_at, tM_gl]
  have n1 : ¬ (c = 81 ∧ r ≤ k ∧ k < r + l.length) := by
    intro y
    rw [y.1, h1] at hk
    cases hk
  have n2 : ¬ (c = 54 ∧ k = 50 ∧ l ≠ []) := by
    intro y
    rw [y.1, y.2.1, h2] at hk
    cases hk
  rw [if_neg n1, if_neg n2]
  exact h c k hk
theorem B_act {w : Wd} {nb : Nat} (hB : BR nb w) (a1 a2 a3 : Int32) : ∃ r w1 w2, f_X11_act a1 a2 a3 w = some (r, w1) ∧ f_X12_act a1 a2 a3 w1 = some (r, w2) ∧ BR nb w2 ∧ eqo aB w w2 := by
  obtain ⟨h1, h2, h3, h4, tr, h5, h6, h7, h8⟩ := id hB
  have e1 : gi (si w 39 3 0) 39 1 = nI nb := by rw [gi_si, if_neg (by omega)]; exact h2
  -- an answer of nothing
  have none_ : BR nb (si (si w 39 3 0) 54 50 0) ∧ eqo aB w (si (si w 39 3 0) 54 50 0) := by
    refine ⟨⟨h1, ?_, ?_, fun i hi => ?_, 0, by omega, ?_, ?_, fun i hi => absurd hi (by omega)⟩, eqo_si (eqo_si (eqo_rf w) (by simp [aB])) (by simp [aB])⟩
    · rw [gi_si, if_neg (by omega), gi_si, if_neg (by omega)]; exact h2
    · rw [gi_si, if_neg (by omega), gi_si, if_neg (by omega)]; exact h3
    · rw [gi_si, if_neg (by omega), gi_si, if_neg (by omega), gi_si, if_neg (by omega), gi_si, if_neg (by omega)]; exact h4 i hi
    · rw [gi_si, if_neg (by omega), gi_si, if_pos ⟨rfl, rfl⟩]; rfl
    · rw [gi_si, if_pos ⟨rfl, rfl⟩]; rfl
  have e48 : gi (si (si w 39 3 0) 54 50 0) 54 48 = nI nb := by rw [gi_si, if_neg (by omega), gi_si, if_neg (by omega)]; exact h3
  by_cases hb : inb a1 nb
  · by_cases ha : inb a2 4
    · obtain ⟨b, hbn, rfl⟩ := of_inb hb
      obtain ⟨act, hact, rfl⟩ := of_inb ha
      obtain ⟨k, hk, k1, k2⟩ := h4 b hbn
      have ta := nI_toInt (n := act) (by omega)
      -- both by the tables
      have both : ∃ (val : Int32) (l : List Int32), l ≠ [] ∧ l.length ≤ 24 ∧ Ow nb b (nI k) 41 (nI act) a3 val l ∧ (∀ (w0 : Wd), mOK nb b (nI k) 0 w0 → (if (nI act : Int32) = 0 then (bW (f_X12_picking (nI b) a3 w0) fun r10 w11 => some (r10, w11)) else (if (nI act : Int32) = 1 then (bW (f_X12_finding (nI b) a3 w0) fun r8 w9 => some (r8, w9)) else (if (nI act : Int32) = 2 then (bW (f_X12_leaving (nI b) a3 w0) fun r6 w7 => some (r6, w7)) else (bW (f_X12_telling (nI b) a3 w0) fun r4 w5 => some (r4, w5))))) = some (val, tM 0 l w0)) := by
        have key : act = 0 ∨ act = 1 ∨ act = 2 ∨ act = 3 := by omega
        rcases key with rfl | rfl | rfl | rfl
        · obtain ⟨v, l, q1, q2, q3, q4⟩ := both_0 nb b k hk a3
          refine ⟨v, l, q1, q2, q3, fun w0 h0 => ?_⟩
          rw [if_pos (show nI 0 = 0 from rfl), bW_id]
          exact q4 0 w0 h0 (by omega)
        · obtain ⟨v, l, q1, q2, q3, q4⟩ := both_1 nb b k hk a3
          refine ⟨v, l, q1, q2, q3, fun w0 h0 => ?_⟩
          rw [if_neg (by decide), if_pos (show nI 1 = 1 from rfl), bW_id]
          exact q4 0 w0 h0 (by omega)
        · obtain ⟨v, l, q1, q2, q3, q4⟩ := both_2 nb b k hk a3
          refine ⟨v, l, q1, q2, q3, fun w0 h0 => ?_⟩
          rw [if_neg (by decide), if_neg (by decide), if_pos (show nI 2 = 2 from rfl), bW_id]
          exact q4 0 w0 h0 (by omega)
        · obtain ⟨v, l, q1, q2, q3, q4⟩ := both_3 nb b k hk a3
          refine ⟨v, l, q1, q2, q3, fun w0 h0 => ?_⟩
          rw [if_neg (by decide), if_neg (by decide), if_neg (by decide), bW_id]
          exact q4 0 w0 h0 (by omega)
      obtain ⟨val, l, l1, l2, hO, hM⟩ := both
      generalize hw0 : si (si w 39 3 0) 39 4 (nI b) = w0
      have z0 : ∀ c j, gi w0 c j = if c = 39 ∧ j = 4 then nI b else if c = 39 ∧ j = 3 then 0 else gi w c j := by
        intro c j
        rw [← hw0]
        simp only [gi_si]
      have aok : aOK nb b (nI k) 0 w0 := by
        refine ⟨h1, hbn, ?_, ?_, ?_, ?_⟩
        · rw [z0, if_neg (by omega), if_neg (by omega)]; exact h2
        · rw [z0, if_pos ⟨rfl, rfl⟩]
        · rw [z0, if_neg (by omega), if_neg (by omega)]; exact k1
        · rw [z0, if_neg (by omega), if_pos ⟨rfl, rfl⟩]; rfl
      have hO' := hO rf 0 0 w0 (by decide) (by decide) aok (by omega)
      generalize hw1 : tX 0 l w0 = w1 at hO'
      have z1 : ∀ c j, gi w1 c j = if c = 41 ∧ 0 ≤ j ∧ j < 0 + l.length then l.getD (j - 0) 0 else if c = 39 ∧ j = 3 ∧ l ≠ [] then nI (0 + l.length) else gi w0 c j := fun c j => by rw [← hw1, tX_at]
      generalize hw2 : si w1 54 50 0 = w2
      have mok : mOK nb b (nI k) 0 w2 := by
        refine ⟨h1, hbn, ?_, ?_⟩
        · rw [← hw2, gi_si, if_neg (by omega), z1, if_neg (by omega), if_neg (by omega), z0, if_neg (by omega), if_neg (by omega)]; exact k2
        · rw [← hw2, gi_si, if_pos ⟨rfl, rfl⟩]; rfl
      have e48' : gi w2 54 48 = nI nb := by
        rw [← hw2, gi_si, if_neg (by omega), z1, if_neg (by omega), if_neg (by omega), z0, if_neg (by omega), if_neg (by omega)]; exact h3
      refine ⟨val, w1, tM 0 l w2, ?_, ?_, ⟨h1, ?_, ?_, fun i hi => ?_, l.length, l2, ?_, ?_, fun i hi => ?_⟩, ?_⟩
      · unfold f_X11_act f_X0_forget f_X0_perform
        rw [stI_d, bV_s, X_has e1 h1, bR_s, ite_b2i, if_pos hb, if_neg (by simp only [fa_lt, fa_le, fa_eq, inb, ti_m14, ti_m13, ti_m12, ti_m11, ti_m10, ti_m9, ti_m8, ti_m7, ti_m6, ti_m5, ti_m4, ti_m3, ti_m2, ti_m1, ti_0, ti_1, ti_2, ti_3, ti_4, ti_5, ti_6, ti_7, ti_8, ti_9, ti_10, ti_11, ti_12, ti_13, ti_14, ti_15, ti_16, ti_17, ti_18, ti_19, ti_20, ti_21, ti_22, ti_23, ti_24, ti_25, ti_26, ti_27, ti_28, ti_29, ti_30, ti_31, ti_32, ti_33, ti_34, ti_35, ti_36, ti_37, ti_38, ti_39, ti_40, ti_41, ti_42, ti_43, ti_44, ti_45, ti_46, ti_47, ti_48, ti_49, ti_50, ti_51, ti_52, ti_53, ti_54, ti_55, ti_56, ti_57, ti_58, ti_59, ti_60, ti_61, ti_62, ti_63, ti_64, ti_99, ti_100, ti_120, ti_122, ti_124, ti_128, ti_130, ti_255, ti_256, ti_260, ti_360, ti_999, ti_1000, ti_9999, ti_10000]; omega), if_pos (by simp only [fa_lt, fa_le, fa_eq, inb, ti_m14, ti_m13, ti_m12, ti_m11, ti_m10, ti_m9, ti_m8, ti_m7, ti_m6, ti_m5, ti_m4, ti_m3, ti_m2, ti_m1, ti_0, ti_1, ti_2, ti_3, ti_4, ti_5, ti_6, ti_7, ti_8, ti_9, ti_10, ti_11, ti_12, ti_13, ti_14, ti_15, ti_16, ti_17, ti_18, ti_19, ti_20, ti_21, ti_22, ti_23, ti_24, ti_25, ti_26, ti_27, ti_28, ti_29, ti_30, ti_31, ti_32, ti_33, ti_34, ti_35, ti_36, ti_37, ti_38, ti_39, ti_40, ti_41, ti_42, ti_43, ti_44, ti_45, ti_46, ti_47, ti_48, ti_49, ti_50, ti_51, ti_52, ti_53, ti_54, ti_55, ti_56, ti_57, ti_58, ti_59, ti_60, ti_61, ti_62, ti_63, ti_64, ti_99, ti_100, ti_120, ti_122, ti_124, ti_128, ti_130, ti_255, ti_256, ti_260, ti_360, ti_999, ti_1000, ti_9999, ti_10000]; omega), stI_d, hw0, show (0 : Int32) = nI 0 from rfl, hO', bW_s, bW_s]
      · unfold f_X12_act
        rw [stI_d, hw2, M_isBody e48' h1, bR_s, ite_b2i, if_pos hb, M_in, bR_s, ite_b2i, if_pos (by simp only [fa_lt, fa_le, fa_eq, inb, ti_m14, ti_m13, ti_m12, ti_m11, ti_m10, ti_m9, ti_m8, ti_m7, ti_m6, ti_m5, ti_m4, ti_m3, ti_m2, ti_m1, ti_0, ti_1, ti_2, ti_3, ti_4, ti_5, ti_6, ti_7, ti_8, ti_9, ti_10, ti_11, ti_12, ti_13, ti_14, ti_15, ti_16, ti_17, ti_18, ti_19, ti_20, ti_21, ti_22, ti_23, ti_24, ti_25, ti_26, ti_27, ti_28, ti_29, ti_30, ti_31, ti_32, ti_33, ti_34, ti_35, ti_36, ti_37, ti_38, ti_39, ti_40, ti_41, ti_42, ti_43, ti_44, ti_45, ti_46, ti_47, ti_48, ti_49, ti_50, ti_51, ti_52, ti_53, ti_54, ti_55, ti_56, ti_57, ti_58, ti_59, ti_60, ti_61, ti_62, ti_63, ti_64, ti_99, ti_100, ti_120, ti_122, ti_124, ti_128, ti_130, ti_255, ti_256, ti_260, ti_360, ti_999, ti_1000, ti_9999, ti_10000]; omega)]
        exact hM w2 mok
      · rw [tM_at, if_neg (by omega), if_neg (by omega), ← hw2, gi_si, if_neg (by omega), z1, if_neg (by omega), if_neg (by omega), z0, if_neg (by omega), if_neg (by omega)]; exact h2
      · rw [tM_at, if_neg (by omega), if_neg (by omega)]; exact e48'
      · have r : ∀ c, c = 40 ∨ c = 80 → gi (tM 0 l w2) c i = gi w c i := by
          intro c hc
          rw [tM_at, if_neg (by omega), if_neg (by omega), ← hw2, gi_si, if_neg (by omega), z1, if_neg (by omega), if_neg (by omega), z0, if_neg (by omega), if_neg (by omega)]
        rw [r 40 (by omega), r 80 (by omega)]
        exact h4 i hi
      · rw [tM_at, if_neg (by omega), if_neg (by omega), ← hw2, gi_si, if_neg (by omega), z1, if_neg (by omega), if_pos ⟨rfl, rfl, l1⟩, Nat.zero_add]
      · rw [tM_at, if_neg (by omega), if_pos ⟨rfl, rfl, l1⟩, Nat.zero_add]
      · rw [tM_at, if_neg (by omega), if_neg (by omega), ← hw2, gi_si, if_neg (by omega), z1, if_pos ⟨rfl, by omega, by omega⟩, tM_at, if_pos ⟨rfl, by omega, by omega⟩]
      · refine eqo_tM ?_ (fun k => by simp [aB]) (by simp [aB]) l 0
        rw [← hw2, ← hw1, ← hw0]
        exact eqo_si (eqo_tX (eqo_si (eqo_si (eqo_rf w) (by simp [aB])) (by simp [aB])) (fun k => by simp [aB]) (by simp [aB]) l 0) (by simp [aB])
    · refine ⟨0, si w 39 3 0, si (si w 39 3 0) 54 50 0, ?_, ?_, none_.1, none_.2⟩
      · unfold f_X11_act f_X0_forget
        rw [stI_d, bV_s, X_has e1 h1, bR_s, ite_b2i, if_pos hb]
        by_cases c1 : a2 < 0
        · rw [if_pos c1]
        · rw [if_neg c1, if_neg (by simp only [fa_lt, fa_le, fa_eq, inb, ti_m14, ti_m13, ti_m12, ti_m11, ti_m10, ti_m9, ti_m8, ti_m7, ti_m6, ti_m5, ti_m4, ti_m3, ti_m2, ti_m1, ti_0, ti_1, ti_2, ti_3, ti_4, ti_5, ti_6, ti_7, ti_8, ti_9, ti_10, ti_11, ti_12, ti_13, ti_14, ti_15, ti_16, ti_17, ti_18, ti_19, ti_20, ti_21, ti_22, ti_23, ti_24, ti_25, ti_26, ti_27, ti_28, ti_29, ti_30, ti_31, ti_32, ti_33, ti_34, ti_35, ti_36, ti_37, ti_38, ti_39, ti_40, ti_41, ti_42, ti_43, ti_44, ti_45, ti_46, ti_47, ti_48, ti_49, ti_50, ti_51, ti_52, ti_53, ti_54, ti_55, ti_56, ti_57, ti_58, ti_59, ti_60, ti_61, ti_62, ti_63, ti_64, ti_99, ti_100, ti_120, ti_122, ti_124, ti_128, ti_130, ti_255, ti_256, ti_260, ti_360, ti_999, ti_1000, ti_9999, ti_10000] at *; omega)]
      · unfold f_X12_act
        rw [stI_d, M_isBody e48 h1, bR_s, ite_b2i, if_pos hb, M_in, bR_s, ite_b2i, if_neg (by simp only [fa_lt, fa_le, fa_eq, inb, ti_m14, ti_m13, ti_m12, ti_m11, ti_m10, ti_m9, ti_m8, ti_m7, ti_m6, ti_m5, ti_m4, ti_m3, ti_m2, ti_m1, ti_0, ti_1, ti_2, ti_3, ti_4, ti_5, ti_6, ti_7, ti_8, ti_9, ti_10, ti_11, ti_12, ti_13, ti_14, ti_15, ti_16, ti_17, ti_18, ti_19, ti_20, ti_21, ti_22, ti_23, ti_24, ti_25, ti_26, ti_27, ti_28, ti_29, ti_30, ti_31, ti_32, ti_33, ti_34, ti_35, ti_36, ti_37, ti_38, ti_39, ti_40, ti_41, ti_42, ti_43, ti_44, ti_45, ti_46, ti_47, ti_48, ti_49, ti_50, ti_51, ti_52, ti_53, ti_54, ti_55, ti_56, ti_57, ti_58, ti_59, ti_60, ti_61, ti_62, ti_63, ti_64, ti_99, ti_100, ti_120, ti_122, ti_124, ti_128, ti_130, ti_255, ti_256, ti_260, ti_360, ti_999, ti_1000, ti_9999, ti_10000] at *; omega)]
  · refine ⟨0, si w 39 3 0, si (si w 39 3 0) 54 50 0, ?_, ?_, none_.1, none_.2⟩
    · unfold f_X11_act f_X0_forget
      rw [stI_d, bV_s, X_has e1 h1, bR_s, ite_b2i, if_neg hb]
    · unfold f_X12_act
      rw [stI_d, M_isBody e48 h1, bR_s, ite_b2i, if_neg hb]
theorem B_trace {w : Wd} {nb : Nat} (hB : BR nb w) (a : Int32) : ∃ r, f_X11_trace a w = some r ∧ f_X12_trace a w = some r := by
  obtain ⟨h1, h2, h3, h4, tr, h5, h6, h7, h8⟩ := id hB
  have t := nI_toInt (n := tr) (by omega)
  by_cases ha : inb a tr
  · obtain ⟨i, hi, rfl⟩ := of_inb ha
    have ti := nI_toInt (n := i) (by omega)
    have mn : imin (nI tr) 24 = nI tr := by
      unfold imin
      by_cases c : (24 : Int32) < nI tr
      · exfalso
        simp only [fa_lt, fa_le, fa_eq, inb, ti_m14, ti_m13, ti_m12, ti_m11, ti_m10, ti_m9, ti_m8, ti_m7, ti_m6, ti_m5, ti_m4, ti_m3, ti_m2, ti_m1, ti_0, ti_1, ti_2, ti_3, ti_4, ti_5, ti_6, ti_7, ti_8, ti_9, ti_10, ti_11, ti_12, ti_13, ti_14, ti_15, ti_16, ti_17, ti_18, ti_19, ti_20, ti_21, ti_22, ti_23, ti_24, ti_25, ti_26, ti_27, ti_28, ti_29, ti_30, ti_31, ti_32, ti_33, ti_34, ti_35, ti_36, ti_37, ti_38, ti_39, ti_40, ti_41, ti_42, ti_43, ti_44, ti_45, ti_46, ti_47, ti_48, ti_49, ti_50, ti_51, ti_52, ti_53, ti_54, ti_55, ti_56, ti_57, ti_58, ti_59, ti_60, ti_61, ti_62, ti_63, ti_64, ti_99, ti_100, ti_120, ti_122, ti_124, ti_128, ti_130, ti_255, ti_256, ti_260, ti_360, ti_999, ti_1000, ti_9999, ti_10000] at *
        omega
      · rw [if_neg c]
    refine ⟨gi w 41 i, ?_, ?_⟩
    · unfold f_X11_trace f_X0_traced
      rw [h6, mn, if_neg (by simp only [fa_lt, fa_le, fa_eq, inb, ti_m14, ti_m13, ti_m12, ti_m11, ti_m10, ti_m9, ti_m8, ti_m7, ti_m6, ti_m5, ti_m4, ti_m3, ti_m2, ti_m1, ti_0, ti_1, ti_2, ti_3, ti_4, ti_5, ti_6, ti_7, ti_8, ti_9, ti_10, ti_11, ti_12, ti_13, ti_14, ti_15, ti_16, ti_17, ti_18, ti_19, ti_20, ti_21, ti_22, ti_23, ti_24, ti_25, ti_26, ti_27, ti_28, ti_29, ti_30, ti_31, ti_32, ti_33, ti_34, ti_35, ti_36, ti_37, ti_38, ti_39, ti_40, ti_41, ti_42, ti_43, ti_44, ti_45, ti_46, ti_47, ti_48, ti_49, ti_50, ti_51, ti_52, ti_53, ti_54, ti_55, ti_56, ti_57, ti_58, ti_59, ti_60, ti_61, ti_62, ti_63, ti_64, ti_99, ti_100, ti_120, ti_122, ti_124, ti_128, ti_130, ti_255, ti_256, ti_260, ti_360, ti_999, ti_1000, ti_9999, ti_10000]; omega), if_pos (by simp only [fa_lt, fa_le, fa_eq, inb, ti_m14, ti_m13, ti_m12, ti_m11, ti_m10, ti_m9, ti_m8, ti_m7, ti_m6, ti_m5, ti_m4, ti_m3, ti_m2, ti_m1, ti_0, ti_1, ti_2, ti_3, ti_4, ti_5, ti_6, ti_7, ti_8, ti_9, ti_10, ti_11, ti_12, ti_13, ti_14, ti_15, ti_16, ti_17, ti_18, ti_19, ti_20, ti_21, ti_22, ti_23, ti_24, ti_25, ti_26, ti_27, ti_28, ti_29, ti_30, ti_31, ti_32, ti_33, ti_34, ti_35, ti_36, ti_37, ti_38, ti_39, ti_40, ti_41, ti_42, ti_43, ti_44, ti_45, ti_46, ti_47, ti_48, ti_49, ti_50, ti_51, ti_52, ti_53, ti_54, ti_55, ti_56, ti_57, ti_58, ti_59, ti_60, ti_61, ti_62, ti_63, ti_64, ti_99, ti_100, ti_120, ti_122, ti_124, ti_128, ti_130, ti_255, ti_256, ti_260, ti_360, ti_999, ti_1000, ti_9999, ti_10000]; omega), if_neg (by simp only [fa_lt, fa_le, fa_eq, inb, ti_m14, ti_m13, ti_m12, ti_m11, ti_m10, ti_m9, ti_m8, ti_m7, ti_m6, ti_m5, ti_m4, ti_m3, ti_m2, ti_m1, ti_0, ti_1, ti_2, ti_3, ti_4, ti_5, ti_6, ti_7, ti_8, ti_9, ti_10, ti_11, ti_12, ti_13, ti_14, ti_15, ti_16, ti_17, ti_18, ti_19, ti_20, ti_21, ti_22, ti_23, ti_24, ti_25, ti_26, ti_27, ti_28, ti_29, ti_30, ti_31, ti_32, ti_33, ti_34, ti_35, ti_36, ti_37, ti_38, ti_39, ti_40, ti_41, ti_42, ti_43, ti_44, ti_45, ti_46, ti_47, ti_48, ti_49, ti_50, ti_51, ti_52, ti_53, ti_54, ti_55, ti_56, ti_57, ti_58, ti_59, ti_60, ti_61, ti_62, ti_63, ti_64, ti_99, ti_100, ti_120, ti_122, ti_124, ti_128, ti_130, ti_255, ti_256, ti_260, ti_360, ti_999, ti_1000, ti_9999, ti_10000]; omega), if_neg (by simp only [fa_lt, fa_le, fa_eq, inb, ti_m14, ti_m13, ti_m12, ti_m11, ti_m10, ti_m9, ti_m8, ti_m7, ti_m6, ti_m5, ti_m4, ti_m3, ti_m2, ti_m1, ti_0, ti_1, ti_2, ti_3, ti_4, ti_5, ti_6, ti_7, ti_8, ti_9, ti_10, ti_11, ti_12, ti_13, ti_14, ti_15, ti_16, ti_17, ti_18, ti_19, ti_20, ti_21, ti_22, ti_23, ti_24, ti_25, ti_26, ti_27, ti_28, ti_29, ti_30, ti_31, ti_32, ti_33, ti_34, ti_35, ti_36, ti_37, ti_38, ti_39, ti_40, ti_41, ti_42, ti_43, ti_44, ti_45, ti_46, ti_47, ti_48, ti_49, ti_50, ti_51, ti_52, ti_53, ti_54, ti_55, ti_56, ti_57, ti_58, ti_59, ti_60, ti_61, ti_62, ti_63, ti_64, ti_99, ti_100, ti_120, ti_122, ti_124, ti_128, ti_130, ti_255, ti_256, ti_260, ti_360, ti_999, ti_1000, ti_9999, ti_10000]; omega), ldI_d (inb_nI (by omega) (by decide)), ix_nI (by omega), bR_s]
    · unfold f_X12_trace
      rw [h7, if_neg (by simp only [fa_lt, fa_le, fa_eq, inb, ti_m14, ti_m13, ti_m12, ti_m11, ti_m10, ti_m9, ti_m8, ti_m7, ti_m6, ti_m5, ti_m4, ti_m3, ti_m2, ti_m1, ti_0, ti_1, ti_2, ti_3, ti_4, ti_5, ti_6, ti_7, ti_8, ti_9, ti_10, ti_11, ti_12, ti_13, ti_14, ti_15, ti_16, ti_17, ti_18, ti_19, ti_20, ti_21, ti_22, ti_23, ti_24, ti_25, ti_26, ti_27, ti_28, ti_29, ti_30, ti_31, ti_32, ti_33, ti_34, ti_35, ti_36, ti_37, ti_38, ti_39, ti_40, ti_41, ti_42, ti_43, ti_44, ti_45, ti_46, ti_47, ti_48, ti_49, ti_50, ti_51, ti_52, ti_53, ti_54, ti_55, ti_56, ti_57, ti_58, ti_59, ti_60, ti_61, ti_62, ti_63, ti_64, ti_99, ti_100, ti_120, ti_122, ti_124, ti_128, ti_130, ti_255, ti_256, ti_260, ti_360, ti_999, ti_1000, ti_9999, ti_10000]; omega), if_neg (by simp only [fa_lt, fa_le, fa_eq, inb, ti_m14, ti_m13, ti_m12, ti_m11, ti_m10, ti_m9, ti_m8, ti_m7, ti_m6, ti_m5, ti_m4, ti_m3, ti_m2, ti_m1, ti_0, ti_1, ti_2, ti_3, ti_4, ti_5, ti_6, ti_7, ti_8, ti_9, ti_10, ti_11, ti_12, ti_13, ti_14, ti_15, ti_16, ti_17, ti_18, ti_19, ti_20, ti_21, ti_22, ti_23, ti_24, ti_25, ti_26, ti_27, ti_28, ti_29, ti_30, ti_31, ti_32, ti_33, ti_34, ti_35, ti_36, ti_37, ti_38, ti_39, ti_40, ti_41, ti_42, ti_43, ti_44, ti_45, ti_46, ti_47, ti_48, ti_49, ti_50, ti_51, ti_52, ti_53, ti_54, ti_55, ti_56, ti_57, ti_58, ti_59, ti_60, ti_61, ti_62, ti_63, ti_64, ti_99, ti_100, ti_120, ti_122, ti_124, ti_128, ti_130, ti_255, ti_256, ti_260, ti_360, ti_999, ti_1000, ti_9999, ti_10000]; omega), if_neg (by simp only [fa_lt, fa_le, fa_eq, inb, ti_m14, ti_m13, ti_m12, ti_m11, ti_m10, ti_m9, ti_m8, ti_m7, ti_m6, ti_m5, ti_m4, ti_m3, ti_m2, ti_m1, ti_0, ti_1, ti_2, ti_3, ti_4, ti_5, ti_6, ti_7, ti_8, ti_9, ti_10, ti_11, ti_12, ti_13, ti_14, ti_15, ti_16, ti_17, ti_18, ti_19, ti_20, ti_21, ti_22, ti_23, ti_24, ti_25, ti_26, ti_27, ti_28, ti_29, ti_30, ti_31, ti_32, ti_33, ti_34, ti_35, ti_36, ti_37, ti_38, ti_39, ti_40, ti_41, ti_42, ti_43, ti_44, ti_45, ti_46, ti_47, ti_48, ti_49, ti_50, ti_51, ti_52, ti_53, ti_54, ti_55, ti_56, ti_57, ti_58, ti_59, ti_60, ti_61, ti_62, ti_63, ti_64, ti_99, ti_100, ti_120, ti_122, ti_124, ti_128, ti_130, ti_255, ti_256, ti_260, ti_360, ti_999, ti_1000, ti_9999, ti_10000]; omega), ldI_d (inb_nI (by omega) (by decide)), ix_nI (by omega), h8 i hi]
  · refine ⟨-1, ?_, ?_⟩
    · unfold f_X11_trace
      rw [h6]
      by_cases c : a < 0
      · rw [if_pos c]
      · rw [if_neg c, if_neg]
        unfold imin
        by_cases c2 : (24 : Int32) < nI tr
        · exfalso
          simp only [fa_lt, fa_le, fa_eq, inb, ti_m14, ti_m13, ti_m12, ti_m11, ti_m10, ti_m9, ti_m8, ti_m7, ti_m6, ti_m5, ti_m4, ti_m3, ti_m2, ti_m1, ti_0, ti_1, ti_2, ti_3, ti_4, ti_5, ti_6, ti_7, ti_8, ti_9, ti_10, ti_11, ti_12, ti_13, ti_14, ti_15, ti_16, ti_17, ti_18, ti_19, ti_20, ti_21, ti_22, ti_23, ti_24, ti_25, ti_26, ti_27, ti_28, ti_29, ti_30, ti_31, ti_32, ti_33, ti_34, ti_35, ti_36, ti_37, ti_38, ti_39, ti_40, ti_41, ti_42, ti_43, ti_44, ti_45, ti_46, ti_47, ti_48, ti_49, ti_50, ti_51, ti_52, ti_53, ti_54, ti_55, ti_56, ti_57, ti_58, ti_59, ti_60, ti_61, ti_62, ti_63, ti_64, ti_99, ti_100, ti_120, ti_122, ti_124, ti_128, ti_130, ti_255, ti_256, ti_260, ti_360, ti_999, ti_1000, ti_9999, ti_10000] at *
          omega
        · rw [if_neg c2]
          simp only [fa_lt, fa_le, fa_eq, inb, ti_m14, ti_m13, ti_m12, ti_m11, ti_m10, ti_m9, ti_m8, ti_m7, ti_m6, ti_m5, ti_m4, ti_m3, ti_m2, ti_m1, ti_0, ti_1, ti_2, ti_3, ti_4, ti_5, ti_6, ti_7, ti_8, ti_9, ti_10, ti_11, ti_12, ti_13, ti_14, ti_15, ti_16, ti_17, ti_18, ti_19, ti_20, ti_21, ti_22, ti_23, ti_24, ti_25, ti_26, ti_27, ti_28, ti_29, ti_30, ti_31, ti_32, ti_33, ti_34, ti_35, ti_36, ti_37, ti_38, ti_39, ti_40, ti_41, ti_42, ti_43, ti_44, ti_45, ti_46, ti_47, ti_48, ti_49, ti_50, ti_51, ti_52, ti_53, ti_54, ti_55, ti_56, ti_57, ti_58, ti_59, ti_60, ti_61, ti_62, ti_63, ti_64, ti_99, ti_100, ti_120, ti_122, ti_124, ti_128, ti_130, ti_255, ti_256, ti_260, ti_360, ti_999, ti_1000, ti_9999, ti_10000] at *
          omega
    · unfold f_X12_trace
      rw [h7]
      by_cases c : a < 0
      · rw [if_pos c]
      · rw [if_neg c, if_pos (by simp only [fa_lt, fa_le, fa_eq, inb, ti_m14, ti_m13, ti_m12, ti_m11, ti_m10, ti_m9, ti_m8, ti_m7, ti_m6, ti_m5, ti_m4, ti_m3, ti_m2, ti_m1, ti_0, ti_1, ti_2, ti_3, ti_4, ti_5, ti_6, ti_7, ti_8, ti_9, ti_10, ti_11, ti_12, ti_13, ti_14, ti_15, ti_16, ti_17, ti_18, ti_19, ti_20, ti_21, ti_22, ti_23, ti_24, ti_25, ti_26, ti_27, ti_28, ti_29, ti_30, ti_31, ti_32, ti_33, ti_34, ti_35, ti_36, ti_37, ti_38, ti_39, ti_40, ti_41, ti_42, ti_43, ti_44, ti_45, ti_46, ti_47, ti_48, ti_49, ti_50, ti_51, ti_52, ti_53, ti_54, ti_55, ti_56, ti_57, ti_58, ti_59, ti_60, ti_61, ti_62, ti_63, ti_64, ti_99, ti_100, ti_120, ti_122, ti_124, ti_128, ti_130, ti_255, ti_256, ti_260, ti_360, ti_999, ti_1000, ti_9999, ti_10000] at *; omega)]
theorem und (k j : Nat) (hk : k < 8) (hj : j < 8) (w : Wd) : ∃ v, f_X0_isUnder (nI k) (nI j) w = some v ∧ f_X12_isUnder (nI k) (nI j) = some v ∧ (v = 0 ∨ v = 1) := by
  have kk : k = 0 ∨ k = 1 ∨ k = 2 ∨ k = 3 ∨ k = 4 ∨ k = 5 ∨ k = 6 ∨ k = 7 := by omega
  have kj : j = 0 ∨ j = 1 ∨ j = 2 ∨ j = 3 ∨ j = 4 ∨ j = 5 ∨ j = 6 ∨ j = 7 := by omega
  rcases kk with rfl | rfl | rfl | rfl | rfl | rfl | rfl | rfl <;> rcases kj with rfl | rfl | rfl | rfl | rfl | rfl | rfl | rfl
  all_goals first | exact ⟨0, rfl, rfl, Or.inl rfl⟩ | exact ⟨1, rfl, rfl, Or.inr rfl⟩
theorem B_taken {w : Wd} {nb : Nat} (hB : BR nb w) (hS : SR nb w) (a1 a2 : Int32) : ∃ r, f_X11_taken a1 a2 w = some r ∧ f_X12_taken a1 a2 w = some r := by
  obtain ⟨h1, h2, h3, h4, tr, h5, h6, h7, h8⟩ := id hB
  by_cases hs : inb a1 6
  · obtain ⟨s, hs6, rfl, es⟩ := sh_arg hs
    have ib : inb (nI s) 6 := inb_nI hs6 (by decide)
    by_cases ha : inb a2 8
    · have hm : (0 : Int32).toInt ≤ a2.toInt ∧ a2.toInt ≤ (7 : Int32).toInt := by
        simp only [fa_lt, fa_le, fa_eq, inb, ti_m14, ti_m13, ti_m12, ti_m11, ti_m10, ti_m9, ti_m8, ti_m7, ti_m6, ti_m5, ti_m4, ti_m3, ti_m2, ti_m1, ti_0, ti_1, ti_2, ti_3, ti_4, ti_5, ti_6, ti_7, ti_8, ti_9, ti_10, ti_11, ti_12, ti_13, ti_14, ti_15, ti_16, ti_17, ti_18, ti_19, ti_20, ti_21, ti_22, ti_23, ti_24, ti_25, ti_26, ti_27, ti_28, ti_29, ti_30, ti_31, ti_32, ti_33, ti_34, ti_35, ti_36, ti_37, ti_38, ti_39, ti_40, ti_41, ti_42, ti_43, ti_44, ti_45, ti_46, ti_47, ti_48, ti_49, ti_50, ti_51, ti_52, ti_53, ti_54, ti_55, ti_56, ti_57, ti_58, ti_59, ti_60, ti_61, ti_62, ti_63, ti_64, ti_99, ti_100, ti_120, ti_122, ti_124, ti_128, ti_130, ti_255, ti_256, ti_260, ti_360, ti_999, ti_1000, ti_9999, ti_10000] at *
        omega
      have eX : f_X11_taken (nI s) a2 w = (if gi w (42 + 2 * s) 0 = 0 then some (-11) else if gi w (42 + 2 * s) 0 = 2 then some (-12) else bR (f_X0_kindOf (gi w (42 + 2 * s) 1) w) fun r6 => bR (f_X0_isUnder r6 a2 w) fun r7 => if r7 = 0 then some (-12) else some r6) := by
        unfold f_X11_taken
        rw [X_isShelf, bR_s, ite_b2i, if_pos hs, X_isKind, bR_s, ite_b2i, if_pos ha, ldR_d hs, es]
        simp only [X_isEmpty, X_isRow, bR_s, ite_b2i]
      rcases X_kinds (hS.2 s hs6) with ⟨hE, q⟩ | ⟨b, hb, hB', q0, q⟩ | ⟨t, n, hR, q⟩
      · refine ⟨-11, by rw [eX, if_pos hE.1], ?_⟩
        unfold f_X12_taken
        rw [M_isShelf, bR_s, ite_b2i, if_pos hs, M_in, bR_s, ite_b2i, if_pos hm, ldI_d ib, ix_nI (by omega), hE.2, if_pos rfl]
      · obtain ⟨k, hk, k1, k2⟩ := h4 b hb
        obtain ⟨j, hj, rfl⟩ := of_inb ha
        obtain ⟨v, v1, v2, v3⟩ := und k j hk hj w
        obtain ⟨z1, z2, z3, z4⟩ := nb_ne (b := b) (by omega)
        have ib2 : inb (nI b) 50 := inb_nI (by omega) (by decide)
        refine ⟨if v = 0 then -12 else nI k, ?_, ?_⟩
        · rw [eX, if_neg q0, if_neg q, hB'.2.1]
          unfold f_X0_kindOf
          rw [X_has h2 h1, bR_s, ite_b2i, if_pos (inb_nI hb (by omega)), ldI_d ib2, ix_nI (by omega), k1, bR_s, v1, bR_s]
          by_cases c : v = 0
          · rw [if_pos c, if_pos c]
          · rw [if_neg c, if_neg c]
        · unfold f_X12_taken
          rw [M_isShelf, bR_s, ite_b2i, if_pos hs, M_in, bR_s, ite_b2i, if_pos hm]
          simp only [ldI_d ib, ix_nI (show s < 2 ^ 31 by omega), hB'.2.2, ldI_d ib2, ix_nI (show b < 2 ^ 31 by omega), k2, v2, bR_s]
          rw [if_neg z1]
          first | rw [if_pos z4] | rw [if_neg z2]
          by_cases c : v = 0
          · rw [if_pos c, if_pos c]
          · rw [if_neg c, if_neg c]
      · obtain ⟨y1, y2, y3⟩ := m2_row hR.2.2.2.2.2.1
        refine ⟨-12, by rw [eX, if_neg q, if_pos hR.1], ?_⟩
        unfold f_X12_taken
        rw [M_isShelf, bR_s, ite_b2i, if_pos hs, M_in, bR_s, ite_b2i, if_pos hm]
        simp only [ldI_d ib, ix_nI (show s < 2 ^ 31 by omega), hR.2.2.2.1]
        rw [if_neg y1]
        first | rw [if_neg y3] | rw [if_pos y2]
    · refine ⟨-1, ?_, ?_⟩
      · unfold f_X11_taken; rw [X_isShelf, bR_s, ite_b2i, if_pos hs, X_isKind, bR_s, ite_b2i, if_neg ha]
      · unfold f_X12_taken; rw [M_isShelf, bR_s, ite_b2i, if_pos hs, M_in, bR_s, ite_b2i, if_neg (by simp only [fa_lt, fa_le, fa_eq, inb, ti_m14, ti_m13, ti_m12, ti_m11, ti_m10, ti_m9, ti_m8, ti_m7, ti_m6, ti_m5, ti_m4, ti_m3, ti_m2, ti_m1, ti_0, ti_1, ti_2, ti_3, ti_4, ti_5, ti_6, ti_7, ti_8, ti_9, ti_10, ti_11, ti_12, ti_13, ti_14, ti_15, ti_16, ti_17, ti_18, ti_19, ti_20, ti_21, ti_22, ti_23, ti_24, ti_25, ti_26, ti_27, ti_28, ti_29, ti_30, ti_31, ti_32, ti_33, ti_34, ti_35, ti_36, ti_37, ti_38, ti_39, ti_40, ti_41, ti_42, ti_43, ti_44, ti_45, ti_46, ti_47, ti_48, ti_49, ti_50, ti_51, ti_52, ti_53, ti_54, ti_55, ti_56, ti_57, ti_58, ti_59, ti_60, ti_61, ti_62, ti_63, ti_64, ti_99, ti_100, ti_120, ti_122, ti_124, ti_128, ti_130, ti_255, ti_256, ti_260, ti_360, ti_999, ti_1000, ti_9999, ti_10000] at *; omega)]
  · refine ⟨-1, ?_, ?_⟩
    · unfold f_X11_taken; rw [X_isShelf, bR_s, ite_b2i, if_neg hs]
    · unfold f_X12_taken; rw [M_isShelf, bR_s, ite_b2i, if_neg hs]
