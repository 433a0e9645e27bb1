/-! THE LAW: a line, for the model -/
theorem i2s_256 : ∀ c : Nat, c < 256 → i2s (i2s (nI c)) = nI c := by decide +kernel
theorem pM_si {p q o c k : Nat} {v : Int32} {ss : List (Nat × Nat)} {w : Wd} (h1 : ¬ c = 54) (h2 : ¬ c = 64) (h3 : ¬ c = 65) : pM p q o ss (si w c k v) = si (pM p q o ss w) c k v := by
  refine wd_ext (fun a b => ?_) (fun _ _ => rfl)
  rw [gi_pM, gi_si, gi_si, gi_pM]
  by_cases z : a = c ∧ b = k
  · rw [if_pos z, if_pos z, if_neg (by omega), if_neg (by omega), if_neg (by omega), if_neg (by omega), if_neg (by omega)]
  · rw [if_neg z, if_neg z]
theorem si_si (w : Wd) (c k : Nat) (a b : Int32) : si (si w c k a) c k b = si w c k b := by
  refine wd_ext (fun x y => ?_) (fun _ _ => rfl)
  rw [gi_si, gi_si, gi_si]
  by_cases z : x = c ∧ y = k
  · rw [if_pos z, if_pos z]
  · rw [if_neg z, if_neg z, if_neg z]
theorem MS_si {t : Nat → Nat} {tp p q o c k : Nat} {v : Int32} {w : Wd} (h : MS t tp p q o w) (h1 : ¬ c = 54) (h2 : ¬ c = 63) : MS t tp p q o (si w c k v) := by
  obtain ⟨⟨a1, a2, a3⟩, a4, a5, a6, a7, a8, a9⟩ := h
  have g : ∀ x y, ¬ x = c → gi (si w c k v) x y = gi w x y := fun x y hx => by rw [gi_si, if_neg (fun z => hx z.1)]
  refine ⟨⟨a1, by rw [g 54 18 (by omega)]; exact a2, fun i hi => by rw [g 63 i (by omega)]; exact a3 i hi⟩, by rw [g 54 19 (by omega)]; exact a4, a5, by rw [g 54 20 (by omega)]; exact a6, by rw [g 54 21 (by omega)]; exact a7, by rw [g 54 22 (by omega)]; exact a8, a9⟩
/-- what a line leaves in the model's cells -/
def lineW (p q j : Nat) (l : LN) (w : Wd) : Wd := si (si (si (pM p q 0 (l.1 ++ l.2) w) 67 (61 + j) (nI (q + l.1.length))) 68 (61 + j) (nI (q + l.1.length + l.2.length))) 66 1 (nI (j + 1))
def sTM (c k : Nat) : Bool := sLM c k || (c == 66 && k == 1) || ((c == 67 || c == 68) && decide (61 ≤ k))
theorem sLM_TM : ∀ c k, sLM c k = true → sTM c k = true := by
  intro c k h
  unfold sTM
  rw [h]
  rfl
theorem M_b66 {j q : Nat} {w : Wd} (hj : gi w 66 1 = nI j) (hj2 : j ≤ 60) (hq : gi w 54 22 = nI q) (hq2 : q < 256) : f_X12_line_b66 (nI (61 + j)) w = some (si (si w 68 (61 + j) (nI q)) 66 1 (nI (j + 1))) := by
  unfold f_X12_line_b66
  have x1 : ix 1 = 1 := rfl
  rw [saI_d (inb_nI (by omega) (by decide)), ix_nI (by omega), hq, i2s_256 q hq2, ldI_d (by decide), x1, gi_si, if_neg (by omega), hj, saI_d (by decide), x1, nI_1]
theorem M_line {t : Nat → Nat} {tp p q j : Nat} {w : Wd} (hM : MS t tp p q 0 w) (hj : gi w 66 1 = nI j) (hj2 : j ≤ 60) :
    ((pLn (LT t tp) p).1 = true ∧ f_X12_line w = some (lineW (pLn (LT t tp) p).2.1 q j (pLn (LT t tp) p).2.2 w)) ∨
    ((pLn (LT t tp) p).1 = false ∧ ∃ w', f_X12_line w = some w' ∧ gi w' 54 19 = nI (pLn (LT t tp) p).2.1 ∧ gi w' 54 20 = nI (pLn (LT t tp) p).2.1 ∧ eqo sTM w w') := by
  have h3 := hM.2.2.1
  have h7 := hM.2.2.2.2.2.2
  have htp := hM.1.1
  have x1 : ix 1 = 1 := rfl
  have y2 : (61 : Int32) + nI j = nI (61 + j) := by rw [show (61 : Int32) = nI 61 from rfl, nI_add]
  obtain ⟨r, hr⟩ := pLv_tot (L := LT t tp) 80 0 0 p (by omega) (by omega) (by omega)
  obtain ⟨b1, b2, b3⟩ := pLv_pos LT_end 80 0 0 p r h3 hr
  have hM3 : MS t tp p q 0 (si w 67 (61 + j) (nI q)) := MS_si hM (by omega) (by omega)
  have he3 : eqo sTM w (si w 67 (61 + j) (nI q)) := eqo_si (eqo_rf w) (by simp [sTM])
  have hj3 : gi (si w 67 (61 + j) (nI q)) 66 1 = nI j := by rw [gi_si, if_neg (by omega)]; exact hj
  have hI : rM (si w 67 (61 + j) (nI q)) p q 0 r (f_X12_either rf (si w 67 (61 + j) (nI q))) := M_pL 80 rf 0 0 p q _ r (by decide) (by omega) hM3 hr
  unfold f_X12_line pLn
  rw [hr, ldI_d (by decide), x1, hj, lt_d, y2, saI_d (inb_nI (by omega) (by decide)), ix_nI (by omega), hM.2.2.2.2.2.1, i2s_256 q (by omega)]
  rcases hI with ⟨k1, k2⟩ | ⟨k1, w', k2, k3, k4, k5, q', k6, k7⟩
  · obtain ⟨b4, b5⟩ := b3 k1
    have hM4 := MS_pM (p' := r.2.1) (o' := 0) (ss := r.2.2) hM3 b2 (by omega)
    have ok := MS_ok hM4 r.2.1
    simp only [k1, if_true]
    rw [k2, bV_s, hM4.2.2.2.1, if_neg (show ¬ (0 : Int32) ≤ -1 by decide), MS_on hM4, bR_s]
    by_cases c63 : LT t tp r.2.1 = 63
    · have hp' : r.2.1 < tp := by
        rcases Nat.lt_or_ge r.2.1 tp with y | y
        · exact y
        · rw [LT_end _ y] at c63; omega
      obtain ⟨s, hs⟩ := pLv_tot (L := LT t tp) 80 0 0 (r.2.1 + 1) (by omega) (by omega) (by omega)
      obtain ⟨d1, d2, d3⟩ := pLv_pos LT_end 80 0 0 (r.2.1 + 1) s (by omega) hs
      rw [if_pos c63, hs, if_pos ((lm_is ok (d := 63) (by omega) 63 rfl).mpr c63), stI_d, hM4.2.1, nI_1, M_move hM4 (r.2.1 + 1), pM_app, List.append_nil, saI_d (inb_nI (by omega) (by decide)), ix_nI (by omega), g22_pM, i2s_256 _ (by omega), pM_si (by omega) (by omega) (by omega), si_si]
      have hM5 := MS_pM (p' := r.2.1 + 1) (o' := 0) (ss := r.2.2) hM (by omega) (by omega)
      have hM6 : MS t tp (r.2.1 + 1) (q + r.2.2.length) 0 (si (pM (r.2.1 + 1) q 0 r.2.2 w) 67 (61 + j) (nI (q + r.2.2.length))) := MS_si hM5 (by omega) (by omega)
      have he6 : eqo sTM w (si (pM (r.2.1 + 1) q 0 r.2.2 w) 67 (61 + j) (nI (q + r.2.2.length))) := eqo_si (eqo_mono (pM_eqo _ _ _ _ _) sLM_TM) (by simp [sTM])
      have hJ : rM _ _ _ _ s (f_X12_either rf (si (pM (r.2.1 + 1) q 0 r.2.2 w) 67 (61 + j) (nI (q + r.2.2.length)))) := M_pL 80 rf 0 0 (r.2.1 + 1) _ _ s (by decide) (by omega) hM6 hs
      have hj6 : gi (si (pM (r.2.1 + 1) q 0 r.2.2 w) 67 (61 + j) (nI (q + r.2.2.length))) 66 1 = nI j := by
        rw [gi_si, if_neg (by omega), (pM_eqo _ _ _ _ w 66 1 (by decide)).1]; exact hj
      rcases hJ with ⟨j1, j2⟩ | ⟨j1, w', j2, j3, j4, j5, q', j6, j7⟩
      · obtain ⟨d4, d5⟩ := d3 j1
        have hlen : (r.2.2 ++ s.2.2).length = r.2.2.length + s.2.2.length := List.length_append
        refine Or.inl ⟨by simp only [j1, if_true], ?_⟩
        rw [j2, bV_s, pM_si (by omega) (by omega) (by omega), pM_app, M_b66 (j := j) (q := q + (r.2.2.length + s.2.2.length)) (by rw [gi_si, if_neg (by omega), (pM_eqo _ _ _ _ w 66 1 (by decide)).1]; exact hj) hj2 (by rw [gi_si, if_neg (by omega), g22_pM, hlen]) (by omega)]
        simp only [j1, if_true]
        unfold lineW
        rw [show q + (r.2.2.length + s.2.2.length) = q + r.2.2.length + s.2.2.length by omega]
      · have j1' : s.1 = false := j1
        refine Or.inr ⟨by simp only [j1', Bool.false_eq_true, if_false], ?_⟩
        simp only [j1', Bool.false_eq_true, if_false]
        rw [j2, bV_s, M_b66 (j := j) (q := q') (by rw [(j5 66 1 (by decide)).1]; exact hj6) hj2 j6 (by omega)]
        refine ⟨_, rfl, ?_, ?_, eqo_si (eqo_si (eqo_tr he6 (eqo_mono j5 sLM_TM)) (by simp [sTM])) (by simp [sTM])⟩
        · rw [gi_si, if_neg (by omega), gi_si, if_neg (by omega)]; exact j3
        · rw [gi_si, if_neg (by omega), gi_si, if_neg (by omega)]; exact j4
    · rw [if_neg c63, if_neg (fun z => c63 ((lm_is ok (d := 63) (by omega) 63 rfl).mp z)), pM_si (by omega) (by omega) (by omega), M_b66 (j := j) (q := q + r.2.2.length) (by rw [gi_si, if_neg (by omega), (pM_eqo _ _ _ _ w 66 1 (by decide)).1]; exact hj) hj2 (by rw [gi_si, if_neg (by omega), g22_pM]) (by omega)]
      exact Or.inl ⟨rfl, rfl⟩
  · refine Or.inr ⟨by simp only [k1, Bool.false_eq_true, if_false], ?_⟩
    simp only [k1, Bool.false_eq_true, if_false]
    rw [k2, bV_s, if_pos (by rw [k4]; exact nI_pos' (by omega)), M_b66 (j := j) (q := q') (by rw [(k5 66 1 (by decide)).1]; exact hj3) hj2 k6 (by omega)]
    refine ⟨_, rfl, ?_, ?_, eqo_si (eqo_si (eqo_tr he3 (eqo_mono k5 sLM_TM)) (by simp [sTM])) (by simp [sTM])⟩
    · rw [gi_si, if_neg (by omega), gi_si, if_neg (by omega)]; exact k3
    · rw [gi_si, if_neg (by omega), gi_si, if_neg (by omega)]; exact k4
