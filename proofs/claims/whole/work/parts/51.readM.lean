/-! THE LAW: the model reads its tape -/
def sRF (c k : Nat) : Bool := sTM c k || (c == 54 && k == 18)
def sRM (c k : Nat) : Bool := sRF c k || (c == 64 || c == 65 || c == 66 || c == 67 || c == 68)
theorem sTM_RF : ∀ c k, sTM c k = true → sRF c k = true := fun c k h => by unfold sRF; rw [h]; rfl
theorem sRF_RM : ∀ c k, sRF c k = true → sRM c k = true := fun c k h => by unfold sRM; rw [h]; rfl
theorem sC1_RM : ∀ c k, sC1 c k = true → sRM c k = true := by
  intro c k h
  have : c = 64 ∨ c = 65 := by
    simp only [sC1, Bool.and_eq_true, Bool.or_eq_true, beq_iff_eq] at h
    exact h.1
  rcases this with rfl | rfl <;> simp [sRM]
theorem sC2_RM : ∀ c k, sC2 c k = true → sRM c k = true := by
  intro c k h
  have : c = 67 ∨ c = 68 := by
    simp only [sC2, Bool.and_eq_true, Bool.or_eq_true, beq_iff_eq] at h
    exact h.1
  rcases this with rfl | rfl <;> simp [sRM]
theorem pLs_pos {L : Nat → Nat} {tp : Nat} (hL : ∀ p, tp ≤ p → L p = 999) : ∀ (n p : Nat), p ≤ tp → (pLs L tp n p).2.1 ≤ tp
  | 0, p, h => h
  | n + 1, p, h => by
    obtain ⟨b1, b2, b3⟩ := pLn_pos hL h
    unfold pLs
    by_cases c1 : (pLn L p).1 = true
    · rw [if_pos c1]
      by_cases c59 : L (pLn L p).2.1 = 59
      · have hp' : (pLn L p).2.1 < tp := by
          rcases Nat.lt_or_ge (pLn L p).2.1 tp with y | y
          · exact y
          · rw [hL _ y] at c59; omega
        rw [if_pos c59]
        exact pLs_pos hL n _ hp'
      · rw [if_neg c59]
        by_cases ce : (pLn L p).2.1 = tp
        · rw [if_pos ce]; exact Nat.le_refl _
        · rw [if_neg ce]; exact b2
    · rw [if_neg c1]; exact b2
theorem M_read {t : Nat → Nat} {tp : Nat} {w : Wd} (hP : PM t tp w) :
    ((pLs (LT t tp) tp 121 0).1 = true ∧ ∃ w', f_X12_readText 0 w = some (-1, w') ∧ gi w' 54 18 = 0 ∧ LK 0 0 (pLs (LT t tp) tp 121 0).2.2 w' ∧ gi w' 66 0 = nI (pLs (LT t tp) tp 121 0).2.2.length ∧ (pLs (LT t tp) tp 121 0).2.2.length ≤ 61 ∧ (flat (pLs (LT t tp) tp 121 0).2.2).length ≤ 127 ∧ eqo sRM w w') ∨
    ((pLs (LT t tp) tp 121 0).1 = false ∧ ∃ w', f_X12_readText 0 w = some (nI (pLs (LT t tp) tp 121 0).2.1, w') ∧ gi w' 54 18 = 0 ∧ eqo sRF w w') := by
  obtain ⟨p1, p2, p3⟩ := hP
  have x1 : ix 1 = 1 := rfl
  unfold f_X12_readText
  rw [stI_d, stI_d, stI_d, stI_d, saI_d (by decide), x1]
  have he : eqo sTM w (si (si (si (si (si w 54 19 0) 54 20 (-1)) 54 21 0) 54 22 0) 66 1 0) := eqo_si (eqo_si (eqo_si (eqo_si (eqo_si (eqo_rf w) (by decide)) (by decide)) (by decide)) (by decide)) (by decide)
  have hM : MS t tp 0 0 0 (si (si (si (si (si w 54 19 0) 54 20 (-1)) 54 21 0) 54 22 0) 66 1 0) := by
    refine ⟨⟨p1, ?_, fun i hi => ?_⟩, ?_, by omega, ?_, ?_, ?_, by omega⟩
    · rw [(he 54 18 (by decide)).1]; exact p2
    · rw [(he 63 i (by simp [sTM, sLM])).1]; exact p3 i hi
    · rw [gi_si, if_neg (by omega), gi_si, if_neg (by omega), gi_si, if_neg (by omega), gi_si, if_neg (by omega), gi_si, if_pos ⟨rfl, rfl⟩]; rfl
    · rw [gi_si, if_neg (by omega), gi_si, if_neg (by omega), gi_si, if_neg (by omega), gi_si, if_pos ⟨rfl, rfl⟩]
    · rw [gi_si, if_neg (by omega), gi_si, if_neg (by omega), gi_si, if_pos ⟨rfl, rfl⟩]; rfl
    · rw [gi_si, if_neg (by omega), gi_si, if_pos ⟨rfl, rfl⟩]; rfl
  have hR := M_lines 121 fu 0 0 0 _ (by omega) (by decide) (by omega) hM (by rw [gi_si, if_pos ⟨rfl, rfl⟩]; rfl)
  have hv := pLs_v (L := LT t tp) (tp := tp) 121 0
  have hpl := pLs_pos (L := LT t tp) (tp := tp) LT_end 121 0 (by omega)
  generalize pLs (LT t tp) tp 121 0 = A at hR hv hpl
  rcases hR with ⟨j1, w', j2, j3, j4, j5, j6, j7, j8, j9, j10, j11⟩ | ⟨j1, w', j2, j3, j4⟩
  · refine Or.inl ⟨j1, ?_⟩
    rw [Nat.zero_add] at j4 j5 j6 j7
    rw [j2]
    unfold f_X12_readText_b86
    have g : ∀ x y, ¬ (x = 54 ∧ y = 18) → gi (si w' 54 18 0) x y = gi w' x y := fun x y h => by rw [gi_si, if_neg h]
    rw [stI_d, g 54 20 (by omega), j3, if_pos (show (-1 : Int32) < 0 by decide)]
    obtain ⟨w1, k1, k2, k3, k4⟩ := M_c105 (Q := (flat A.2.2).length) j5 (flat A.2.2).length fu 0 (si w' 54 18 0) (by omega) (by unfold fu; omega) (by rw [g 54 22 (by omega)]; exact j4) (fun k hk => by rw [g 64 _ (by omega)]; exact LI_i2b A.2.2 0 0 j8 hv k (by omega) (by omega))
    have k1' : f_X12_readText_b105 fu 0 0 (si w' 54 18 0) = f_X12_readText_b177 fu 0 0 (si w1 66 0 (gi w1 66 1)) := k1
    rw [k1']
    have f1 : ∀ x y, sC1 x y = false → ¬ (x = 66 ∧ y = 0) → ¬ (x = 54 ∧ y = 18) → gi (si w1 66 0 (gi w1 66 1)) x y = gi w' x y := by
      intro x y h1 h2 h3
      rw [gi_si, if_neg h2, (k4 x y h1).1, g x y h3]
    have g66 : gi (si w1 66 0 (gi w1 66 1)) 66 0 = nI A.2.2.length := by
      rw [gi_si, if_pos ⟨rfl, rfl⟩, (k4 66 1 (by decide)).1, g 66 1 (by omega)]; exact j6
    obtain ⟨w2, m1, m2, m3, m4⟩ := M_c177 (J := A.2.2.length) j7 A.2.2.length fu 0 (si w1 66 0 (gi w1 66 1)) (by omega) (by unfold fu; omega) g66 (fun k hk => by rw [f1 67 _ (by simp [sC1]) (by omega) (by omega), f1 68 _ (by simp [sC1]) (by omega) (by omega)]; exact LI_i2s A.2.2 0 0 j8 (by omega) k (by omega) (by omega))
    have m1' : f_X12_readText_b177 fu 0 0 (si w1 66 0 (gi w1 66 1)) = some (-1, w2) := m1
    refine ⟨w2, m1', ?_, ?_, ?_, j7, j5, ?_⟩
    · rw [(m4 54 18 (by decide)).1, gi_si, if_neg (by omega), (k4 54 18 (by decide)).1, gi_si, if_pos ⟨rfl, rfl⟩]
    · refine LI_LK (Q := (flat A.2.2).length) (J := A.2.2.length) (fun k hk => ?_) (fun i hi => ?_) A.2.2 0 0 j8 (by omega) (by omega)
      · rw [(m4 64 k (by simp [sC2])).1, (m4 65 k (by simp [sC2])).1, gi_si, if_neg (by omega), gi_si, if_neg (by omega), (k2 k (by omega) hk).1, (k2 k (by omega) hk).2, g 64 _ (by omega), g 65 _ (by omega)]
        exact ⟨rfl, rfl⟩
      · rw [(m2 i (by omega) hi).1, (m2 i (by omega) hi).2, f1 67 _ (by simp [sC1]) (by omega) (by omega), f1 68 _ (by simp [sC1]) (by omega) (by omega)]
        exact ⟨rfl, rfl⟩
    · rw [(m4 66 0 (by decide)).1]; exact g66
    · have q1 : eqo sRM w (si w' 54 18 0) := eqo_si (eqo_mono (eqo_tr he j11) (fun c k h => sRF_RM c k (sTM_RF c k h))) (by decide)
      exact eqo_tr (eqo_si (eqo_tr q1 (eqo_mono k4 sC1_RM)) (by decide)) (eqo_mono m4 sC2_RM)
  · refine Or.inr ⟨j1, ?_⟩
    rw [j2]
    unfold f_X12_readText_b86
    have hA : gi (si w' 54 18 0) 54 20 = nI A.2.1 := by rw [gi_si, if_neg (by omega)]; exact j3
    rw [stI_d, hA, if_neg (nI_pos (by omega))]
    exact ⟨_, rfl, by rw [gi_si, if_pos ⟨rfl, rfl⟩], eqo_si (eqo_mono (eqo_tr he j4) sTM_RF) (by decide)⟩
