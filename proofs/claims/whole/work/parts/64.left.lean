/-! LOOKS IN THOUGHT: left, mean -/
theorem X_tn {a1 a2 : Int32} {w : Wd} (h : ¬ (inb a1 6 ∧ inb a2 4)) : f_X11_isThinkable a1 a2 w = some 0 := by
  unfold f_X11_isThinkable
  rw [X_isShelf, bR_s, ite_b2i]
  by_cases h1 : inb a1 6
  · rw [if_pos h1, X_isBag, bR_s, ite_b2i, if_neg (fun z => h ⟨h1, z⟩)]
  · rw [if_neg h1]
theorem X_tb {s : Nat} {a2 : Int32} {w : Wd} {x : Int32} (hs : s < 6) (hb : inb a2 4) (hx : x = 0 ∨ x = 1) (h : f_X9_isBytes (42 + 2 * s) w = some x) : f_X11_isThinkable (nI s) a2 w = some x := by
  unfold f_X11_isThinkable
  rw [X_isShelf, bR_s, ite_b2i, if_pos (inb_nI hs (by omega)), X_isBag, bR_s, ite_b2i, if_pos hb, ldR_d (inb_nI hs (by omega)), ix_nI (by omega), h, bR_s]
  rcases hx with q | q <;> subst q <;> rfl
theorem lN_t {n : Nat} (h : n < 2 ^ 63) : -2 ^ 63 < (lN n).toInt := by
  rw [pk_lT h]
  omega
abbrev NONE : Int64 := -9223372036854775808
theorem T_left {A : Ab} {nb : Nat} {w : Wd} (hX : VX A w) (hM : VM A w) (hS : SR nb w) (a1 a2 a3 a4 : Int32) : ∃ r w1 w2, f_X11_left a1 a2 a3 a4 w = some (r, w1) ∧ f_X12_left a1 a2 a3 a4 w1 = some (r, w2) ∧ eqo scr w w2 := by
  have h3iff : inb a3 4 ↔ ((0 : Int32).toInt ≤ a3.toInt ∧ a3.toInt ≤ (3 : Int32).toInt) := by
    unfold inb
    have e1 : (0 : Int32).toInt = 0 := rfl
    have e2 : (3 : Int32).toInt = 3 := rfl
    omega
  by_cases h12 : inb a1 6 ∧ inb a2 4
  · obtain ⟨h1, h2⟩ := h12
    obtain ⟨s, hs, rfl⟩ := of_inb h1
    obtain ⟨b, hb, rfl⟩ := of_inb h2
    rcases shelf_or hS hs with ⟨sz, e, hRX, hRM, hB, _, hRF⟩ | ⟨r, hr, hB, _, hRF⟩
    · by_cases h34 : inb a3 4 ∧ inb a4 2
      · obtain ⟨h3, h4⟩ := h34
        obtain ⟨j, hj, rfl⟩ := of_inb h3
        have tj := nI_toInt (n := j) (by omega)
        obtain ⟨w1, p1, p2, p3, p4⟩ := X_think hX hs hb hRX
        obtain ⟨w2, q1, q2, q3⟩ := M_goLooks (b := b) (VM_s hM p4) hs hb (RM_s hRM p4)
        have hmle := (lkn_le (L := A.L) (n := sz) (e := e) (any := false) 4 0).2.1
        generalize hm : lkn A.L sz e false 4 0 = m at p1 p2 q1 q2 hmle
        obtain ⟨b1, b2, b3⟩ := lad_b hX.1 (e := e) hb (d := m) (by omega)
        have bj := b1 j hj
        have ez : (lN (sumN (lad A e b m)) = 0) ↔ sumN (lad A e b m) = 0 := lN_z (by omega)
        have h2' := hRF w1 (RM_s hRM p4)
        have X1 : f_X11_left (nI s) (nI b) (nI j) a4 w = if sumN (lad A e b m) = 0 then some (-2, w1) else some (low (lN (lad A e b m j)) (sumN (lad A e b m)) a4, w1) := by
          unfold f_X11_left
          rw [X_tb hs h2 (Or.inr rfl) hB, bR_s, if_neg (by decide), if_neg (by rw [fa_lt, tj, ti_0]; omega), if_neg (by rw [fa_lt, tj]; show ¬ (3 : Int) < (j : Int); omega), X_isPart, bR_s, ite_b2i, if_pos h4, p1, bW_s, X_all (c0 := 16) (by omega) p2, bR_s]
          by_cases z : sumN (lad A e b m) = 0
          · rw [if_pos (ez.mpr z), if_pos z]
          · rw [if_neg (fun q => z (ez.mp q)), if_neg z, X_at (c0 := 16) (by omega) hj p2, bR_s, inLowest_low (lN_t (by omega)) (by omega) (by omega), bR_s]
        have M1 : f_X12_left (nI s) (nI b) (nI j) a4 w1 = if sumN (lad A e b m) = 0 then some (-2, w2) else some (low (lN (lad A e b m j)) (sumN (lad A e b m)) a4, w2) := by
          unfold f_X12_left
          have ed : ((4 : Int32) * nI m) = nI (4 * m) := by rw [show (4 : Int32) = nI 4 from rfl, pk_mul]
          rw [M_isShelf, bR_s, ite_b2i, if_pos h1, M_isBag, bR_s, ite_b2i, if_pos h2, M_in, bR_s, ite_b2i, if_pos (h3iff.mp h3), M_isPart, bR_s, ite_b2i, if_pos h4, h2', bR_s, if_pos (by decide), q1, bW_s, M_all (by omega) q2, bR_s]
          by_cases z : sumN (lad A e b m) = 0
          · rw [if_pos (ez.mpr z), if_pos z]
          · rw [if_neg (fun q => z (ez.mp q)), if_neg z, ed, nI_add, ldL_d (inb_nI (by omega) (by omega)), ix_nI (by omega), q2 j hj, bR_s, asPart_low (lN_t (by omega)) (by omega) (by omega), bR_s]
        by_cases z : sumN (lad A e b m) = 0
        · rw [if_pos z] at X1 M1
          exact ⟨_, _, _, X1, M1, eqo_tr p4 q3⟩
        · rw [if_neg z] at X1 M1
          exact ⟨_, _, _, X1, M1, eqo_tr p4 q3⟩
      · refine ⟨NONE, w, w, ?_, ?_, eqo_rf w⟩
        · unfold f_X11_left
          rw [X_tb hs h2 (Or.inr rfl) hB, bR_s, if_neg (by decide), X_isPart, bR_s, ite_b2i]
          have t0 : (0 : Int32).toInt = 0 := rfl
          have t3 : (3 : Int32).toInt = 3 := rfl
          by_cases c1 : a3 < 0
          · rw [if_pos c1]
          · rw [if_neg c1]
            by_cases c2 : 3 < a3
            · rw [if_pos c2]
            · rw [if_neg c2, if_neg]
              intro z
              rw [fa_lt] at c1 c2
              exact h34 ⟨⟨by omega, by omega⟩, z⟩
        · unfold f_X12_left
          rw [M_isShelf, bR_s, ite_b2i, if_pos h1, M_isBag, bR_s, ite_b2i, if_pos h2, M_in, bR_s, ite_b2i]
          by_cases c1 : inb a3 4
          · rw [if_pos (h3iff.mp c1), M_isPart, bR_s, ite_b2i, if_neg (fun z => h34 ⟨c1, z⟩)]
          · rw [if_neg (fun z => c1 (h3iff.mpr z))]
    · refine ⟨NONE, w, w, ?_, ?_, eqo_rf w⟩
      · unfold f_X11_left
        rw [X_tb hs h2 (Or.inl rfl) hB, bR_s, if_pos rfl]
      · unfold f_X12_left
        rw [M_isShelf, bR_s, ite_b2i, if_pos h1, M_isBag, bR_s, ite_b2i, if_pos h2, M_in, bR_s, ite_b2i]
        by_cases c1 : inb a3 4
        · rw [if_pos (h3iff.mp c1), M_isPart, bR_s, ite_b2i]
          by_cases c2 : inb a4 2
          · rw [if_pos c2, hRF, bR_s, if_neg]
            rcases hr with q | q <;> subst q <;> decide
          · rw [if_neg c2]
        · rw [if_neg (fun z => c1 (h3iff.mpr z))]
  · refine ⟨NONE, w, w, ?_, ?_, eqo_rf w⟩
    · unfold f_X11_left
      rw [X_tn h12, bR_s, if_pos rfl]
    · unfold f_X12_left
      rw [M_isShelf, bR_s, ite_b2i]
      by_cases c1 : inb a1 6
      · rw [if_pos c1, M_isBag, bR_s, ite_b2i, if_neg (fun z => h12 ⟨c1, z⟩)]
      · rw [if_neg c1]
theorem T_mean {A : Ab} {nb : Nat} {w : Wd} (hX : VX A w) (hM : VM A w) (hS : SR nb w) (a1 a2 a3 a4 : Int32) : ∃ r w1 w2, f_X11_mean a1 a2 a3 a4 w = some (r, w1) ∧ f_X12_mean a1 a2 a3 a4 w1 = some (r, w2) ∧ eqo scr w w2 := by
  have h3iff : inb a3 3 ↔ ((0 : Int32).toInt ≤ a3.toInt ∧ a3.toInt ≤ (2 : Int32).toInt) := by
    unfold inb
    have e1 : (0 : Int32).toInt = 0 := rfl
    have e2 : (2 : Int32).toInt = 2 := rfl
    omega
  by_cases h12 : inb a1 6 ∧ inb a2 4
  · obtain ⟨h1, h2⟩ := h12
    obtain ⟨s, hs, rfl⟩ := of_inb h1
    obtain ⟨b, hb, rfl⟩ := of_inb h2
    rcases shelf_or hS hs with ⟨sz, e, hRX, hRM, hB, _, hRF⟩ | ⟨r, hr, hB, _, hRF⟩
    · by_cases h34 : inb a3 3 ∧ inb a4 2
      · obtain ⟨h3, h4⟩ := h34
        obtain ⟨j, hj, rfl⟩ := of_inb h3
        have tj := nI_toInt (n := j) (by omega)
        obtain ⟨w1, p1, p2, p3, p4⟩ := X_think hX hs hb hRX
        obtain ⟨w2, q1, q2, q3⟩ := M_goLooks (b := b) (VM_s hM p4) hs hb (RM_s hRM p4)
        have hmle := (lkn_le (L := A.L) (n := sz) (e := e) (any := false) 4 0).2.1
        generalize hm : lkn A.L sz e false 4 0 = m at p1 p2 q1 q2 hmle
        obtain ⟨b1, b2, b3⟩ := lad_b hX.1 (e := e) hb (d := m) (by omega)
        have ez : (lN (sumN (lad A e b m)) = 0) ↔ sumN (lad A e b m) = 0 := lN_z (by omega)
        have h2' := hRF w1 (RM_s hRM p4)
        have ps := p0_sum hX.1 hb
        have pw := pw4 (d := m) (by omega)
        have ple := allW_le hX.1 hb
        have pb : 0 < sumN (p0 A b) ∧ sumN (p0 A b) ≤ 36 := by
          rw [ps]
          by_cases z : allW A b = 0
          · rw [if_pos z]; omega
          · rw [if_neg z]; omega
        have pwp : 0 < 1728 ^ m := Nat.pow_pos (by omega)
        have pall : 0 < sumN (p0 A b) * 1728 ^ m ∧ sumN (p0 A b) * 1728 ^ m ≤ 36 * 8916100448256 := ⟨Nat.mul_pos pb.1 pwp, Nat.mul_le_mul pb.2 pw⟩
        have b0 := b1 0 (by omega)
        have X1 : f_X11_mean (nI s) (nI b) (nI j) a4 w = if j = 2 then some (low (lN (sumN (lad A e b m))) (sumN (p0 A b) * 1728 ^ m) a4, w1) else if sumN (lad A e b m) = 0 then some (-2, w1) else if j = 0 then some (low (lN (stoN (lad A e b m))) (sumN (lad A e b m)) a4, w1) else some (low (lN (lad A e b m 0)) (sumN (lad A e b m)) a4, w1) := by
          unfold f_X11_mean f_X11_mean_b108
          rw [X_tb hs h2 (Or.inr rfl) hB, bR_s, if_neg (by decide), if_neg (by rw [fa_lt, tj, ti_0]; omega), if_neg (by rw [fa_lt, tj]; show ¬ (2 : Int) < (j : Int); omega), X_isPart, bR_s, ite_b2i, if_pos h4, p1, bW_s, X_all (c0 := 16) (by omega) p2, bR_s]
          by_cases z2 : j = 2
          · subst z2
            rw [if_pos (show nI 2 = (2 : Int32) from rfl), if_pos rfl, X_ahead (c0 := 16) (by omega) p3, bR_s, inLowest_low (lN_t (by omega)) (by omega) (by omega), bR_s]
          · rw [if_neg (by rw [show (2 : Int32) = nI 2 from rfl, nI_eq (by omega) (by omega)]; exact z2), if_neg z2]
            by_cases z : sumN (lad A e b m) = 0
            · rw [if_pos (ez.mpr z), if_pos z]
            · rw [if_neg (fun q => z (ez.mp q)), if_neg z]
              by_cases z0 : j = 0
              · subst z0
                rw [if_pos (show nI 0 = (0 : Int32) from rfl), if_pos rfl, X_stones (c0 := 16) (by omega) p2, bR_s, inLowest_low (lN_t (by omega)) (by omega) (by omega), bR_s]
              · have xa := X_at (c0 := 16) (j := 0) (d := m) (by omega) (by omega) p2
                rw [show nI 0 = (0 : Int32) from rfl] at xa
                rw [if_neg (by rw [show (0 : Int32) = nI 0 from rfl, nI_eq (by omega) (by omega)]; exact z0), if_neg z0, xa, bR_s, inLowest_low (lN_t (by omega)) (by omega) (by omega), bR_s]
        have M1 : f_X12_mean (nI s) (nI b) (nI j) a4 w1 = if j = 2 then some (low (lN (sumN (lad A e b m))) (sumN (p0 A b) * 1728 ^ m) a4, w2) else if sumN (lad A e b m) = 0 then some (-2, w2) else if j = 0 then some (low (lN (stoN (lad A e b m))) (sumN (lad A e b m)) a4, w2) else some (low (lN (lad A e b m 0)) (sumN (lad A e b m)) a4, w2) := by
          unfold f_X12_mean f_X12_mean_b120
          have ed : ((4 : Int32) * nI m) = nI (4 * m) := by rw [show (4 : Int32) = nI 4 from rfl, pk_mul]
          rw [M_isShelf, bR_s, ite_b2i, if_pos h1, M_isBag, bR_s, ite_b2i, if_pos h2, M_in, bR_s, ite_b2i, if_pos (h3iff.mp h3), M_isPart, bR_s, ite_b2i, if_pos h4, h2', bR_s, if_pos (by decide), q1, bW_s, M_all (by omega) q2, bR_s]
          by_cases z2 : j = 2
          · subst z2
            have hme := M_measure (VM_s (VM_s hM p4) q3) hb
            rw [if_pos (show nI 2 = (2 : Int32) from rfl), if_pos rfl, hme, bR_s, show (1728 : Int64) = lN 1728 from rfl, M_pow (by omega), bR_s, nI_l (by omega), lN_mul, asPart_low (lN_t (by omega)) (by omega) (by omega), bR_s]
          · rw [if_neg (by rw [show (2 : Int32) = nI 2 from rfl, nI_eq (by omega) (by omega)]; exact z2), if_neg z2, bR_s]
            by_cases z : sumN (lad A e b m) = 0
            · rw [if_pos (ez.mpr z), if_pos z]
            · rw [if_neg (fun q => z (ez.mp q)), if_neg z]
              by_cases z0 : j = 0
              · subst z0
                rw [if_pos (show nI 0 = (0 : Int32) from rfl), if_pos rfl, M_stones (by omega) q2, bR_s, bR_s, asPart_low (lN_t (by omega)) (by omega) (by omega), bR_s]
              · have g0 : gl w2 71 (4 * m) = lN (lad A e b m 0) := q2 0 (by omega)
                rw [if_neg (by rw [show (0 : Int32) = nI 0 from rfl, nI_eq (by omega) (by omega)]; exact z0), if_neg z0, ed, ldL_d (inb_nI (by omega) (by omega)), ix_nI (by omega), g0, bR_s, asPart_low (lN_t (by omega)) (by omega) (by omega), bR_s]
        by_cases z2 : j = 2
        · rw [if_pos z2] at X1 M1
          exact ⟨_, _, _, X1, M1, eqo_tr p4 q3⟩
        rw [if_neg z2] at X1 M1
        by_cases z : sumN (lad A e b m) = 0
        · rw [if_pos z] at X1 M1
          exact ⟨_, _, _, X1, M1, eqo_tr p4 q3⟩
        rw [if_neg z] at X1 M1
        by_cases z0 : j = 0
        · rw [if_pos z0] at X1 M1
          exact ⟨_, _, _, X1, M1, eqo_tr p4 q3⟩
        · rw [if_neg z0] at X1 M1
          exact ⟨_, _, _, X1, M1, eqo_tr p4 q3⟩
      · refine ⟨NONE, w, w, ?_, ?_, eqo_rf w⟩
        · unfold f_X11_mean
          rw [X_tb hs h2 (Or.inr rfl) hB, bR_s, if_neg (by decide), X_isPart, bR_s, ite_b2i]
          have t0 : (0 : Int32).toInt = 0 := rfl
          have t3 : (2 : Int32).toInt = 2 := rfl
          by_cases c1 : a3 < 0
          · rw [if_pos c1]
          · rw [if_neg c1]
            by_cases c2 : 2 < a3
            · rw [if_pos c2]
            · rw [if_neg c2, if_neg]
              intro z
              rw [fa_lt] at c1 c2
              exact h34 ⟨⟨by omega, by omega⟩, z⟩
        · unfold f_X12_mean
          rw [M_isShelf, bR_s, ite_b2i, if_pos h1, M_isBag, bR_s, ite_b2i, if_pos h2, M_in, bR_s, ite_b2i]
          by_cases c1 : inb a3 3
          · rw [if_pos (h3iff.mp c1), M_isPart, bR_s, ite_b2i, if_neg (fun z => h34 ⟨c1, z⟩)]
          · rw [if_neg (fun z => c1 (h3iff.mpr z))]
    · refine ⟨NONE, w, w, ?_, ?_, eqo_rf w⟩
      · unfold f_X11_mean
        rw [X_tb hs h2 (Or.inl rfl) hB, bR_s, if_pos rfl]
      · unfold f_X12_mean
        rw [M_isShelf, bR_s, ite_b2i, if_pos h1, M_isBag, bR_s, ite_b2i, if_pos h2, M_in, bR_s, ite_b2i]
        by_cases c1 : inb a3 3
        · rw [if_pos (h3iff.mp c1), M_isPart, bR_s, ite_b2i]
          by_cases c2 : inb a4 2
          · rw [if_pos c2, hRF, bR_s, if_neg]
            rcases hr with q | q <;> subst q <;> decide
          · rw [if_neg c2]
        · rw [if_neg (fun z => c1 (h3iff.mpr z))]
  · refine ⟨NONE, w, w, ?_, ?_, eqo_rf w⟩
    · unfold f_X11_mean
      rw [X_tn h12, bR_s, if_pos rfl]
    · unfold f_X12_mean
      rw [M_isShelf, bR_s, ite_b2i]
      by_cases c1 : inb a1 6
      · rw [if_pos c1, M_isBag, bR_s, ite_b2i, if_neg (fun z => h12 ⟨c1, z⟩)]
      · rw [if_neg c1]
