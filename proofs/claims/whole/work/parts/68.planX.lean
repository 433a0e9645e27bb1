/-! PLANS: the class's planner -/
def VPl (A : Ab) (w : Wd) : Prop := gi w 18 3 = nI A.L ∧ gi w 18 4 = nI (A.nv 10 0) ∧ (∀ k, k < A.L → ∀ d, d < 4 → gi w 21 (4 * k + d) = nI (shp A k d)) ∧ ∀ k, k < A.L → gi w 22 k = nI (A.nv 6 k)
def sPB (d c k : Nat) : Bool := c == 20 && decide (4 * (d + 1) ≤ k)
def sPL (d c k : Nat) : Bool := (c == 20 && decide (4 * (d + 1) ≤ k)) || (c == 18 && (k == 5 && d == 0))
theorem VPl_cg {A : Ab} {w w' : Wd} (h : VPl A w) (h1 : gi w' 18 3 = gi w 18 3) (h2 : gi w' 18 4 = gi w 18 4) (h3 : ∀ k, gi w' 21 k = gi w 21 k) (h4 : ∀ k, gi w' 22 k = gi w 22 k) : VPl A w' := ⟨h1.trans h.1, h2.trans h.2.1, fun k hk d hd => (h3 _).trans (h.2.2.1 k hk d hd), fun k hk => (h4 k).trans (h.2.2.2 k hk)⟩
theorem sPB_18 {d k : Nat} : sPB d 18 k = false := rfl
theorem VPl_B {A : Ab} {d : Nat} {w w' : Wd} (h : VPl A w) (he : eqo (sPB d) w w') : VPl A w' := VPl_cg h (he 18 3 rfl).1 (he 18 4 rfl).1 (fun k => (he 21 k rfl).1) (fun k => (he 22 k rfl).1)
theorem VPl_L {A : Ab} {d : Nat} {w w' : Wd} (h : VPl A w) (he : eqo (sPL d) w w') : VPl A w' := VPl_cg h (he 18 3 rfl).1 (he 18 4 rfl).1 (fun k => (he 21 k rfl).1) (fun k => (he 22 k rfl).1)
theorem sPB_L {d : Nat} : ∀ c k, sPB d c k = true → sPL d c k = true := fun c k h => by unfold sPB at h; unfold sPL; rw [h]; rfl
theorem sPL_B {d : Nat} : ∀ c k, sPL (d + 1) c k = true → sPB d c k = true := by
  intro c k h
  simp only [sPL, sPB, Bool.or_eq_true, Bool.and_eq_true, beq_iff_eq, decide_eq_true_eq] at h ⊢
  omega
theorem sPT_B {d : Nat} : ∀ c k, sPT 20 (d + 1) c k = true → sPB d c k = true := by
  intro c k h
  simp only [sPT, sPB, Bool.or_eq_true, Bool.and_eq_true, beq_iff_eq, decide_eq_true_eq] at h ⊢
  omega
theorem PT_B {d : Nat} {p : Nat → Nat} {w w' : Wd} (h : PT 20 d p w) (he : eqo (sPB d) w w') : PT 20 d p w' := eqo_PT h he (fun j hj => by simp [sPB]; omega)
theorem tb3_c : ∀ m, m < 4 → tb3 m = lN (1728 ^ m) := by decide
/-- the planner's least, at m looks and depth d, as a promise -/
def LST (A : Ab) (m d n : Nat) : Prop := ∀ (p : Nat → Nat) (w : Wd), VPl A w → PT 20 d p w → pB d p → (d = 0 → gi w 18 5 = -2) → ∃ w', f_X8_least n (nI d) (nI m) w = some (lN (PLv A m d p).1, w') ∧ (d = 0 → gi w' 18 5 = (PLv A m d p).2) ∧ eqo (sPL d) w w'
theorem X_lby {A : Ab} (hA : Aok A) {m d n k : Nat} {p : Nat → Nat} (IH : LST A m (d + 1) n) (hd : d + (m + 1) ≤ 3) (hk : k < A.L) {w : Wd} (hV : VPl A w) (hP : PT 20 d p w) (hB : pB d p) : ∃ w', f_X8_leastBy (n + 1) (nI k) (nI d) (nI (m + 1)) w = some (lN (isM A m d p k), w') ∧ eqo (sPB d) w w' := by
  have h6 := hA.1
  have hsh := shp_le A k d
  have hc : A.nv 6 k ≤ 99 := hA.2.1 6 k (okL (Or.inr rfl) (by omega))
  have n10 := nv10 hA
  show ∃ w', f_X8_leastBy_y (f_X8_least n) (f_X8_leastBy n) (nI k) (nI d) (nI (m + 1)) w = _ ∧ _
  unfold f_X8_leastBy_y
  have e1 : (nI k * 4 + nI d : Int32) = nI (4 * k + d) := by rw [show (4 : Int32) = nI 4 from rfl, pk_mul, nI_add, Nat.mul_comm]
  rw [e1, ldI_d (inb_nI (by omega) (by omega)), ix_nI (by omega), hV.2.2.1 k hk d (by omega), ldI_d (inb_nI (by omega) (by omega)), ix_nI (by omega), hV.2.2.2 k hk, X_all (c0 := 19) (by omega) hP, bR_s, ltL_d (inb_nI (by omega) (by omega)), ix_nI (by omega), tb3_c _ (by omega), lt_d, nI_l (by omega), lN_mul, lN_mul]
  by_cases hm : m = 0
  · subst hm
    have e12 : (12 : Int32) - nI (shp A k d) = nI (12 - shp A k d) := by rw [show (12 : Int32) = nI 12 from rfl, pk_sub hsh]
    rw [if_pos (show nI (0 + 1) = (1 : Int32) from rfl), X_stones (c0 := 19) (by omega) hP, bR_s, lt_d, e12, nI_l (by omega), hV.2.1, nI_l (by omega), lN_mul, show (144 : Int64) = lN 144 from rfl, lN_mul, lN_mul, lN_add, isM_0]
    exact ⟨w, rfl, eqo_rf w⟩
  · have n1 : ¬ nI (m + 1) = (1 : Int32) := by rw [show (1 : Int32) = nI 1 from rfl, nI_eq (by omega) (by omega)]; omega
    rw [if_neg n1]
    have hz : ∀ f n' acc w, f < 4 → VPl A w → PT 20 d p w → ∃ w', f_X8_leastBy_b77 (f_X8_least n) (f_X8_leastBy n) (n' + 1) (nI d) (nI (m + 1)) (nI (shp A k d)) (lN acc) (nI f) w = f_X8_leastBy_b77 (f_X8_least n) (f_X8_leastBy n) n' (nI d) (nI (m + 1)) (nI (shp A k d)) (lN (acc + (if stoN (stepN p (shp A k d) f) = 0 then 0 else (PLv A m (d + 1) (stepN p (shp A k d) f)).1))) (nI (f + 1)) w' ∧ VPl A w' ∧ PT 20 d p w' ∧ eqo (sPB d) w w' := by
      intro f n' acc w hf hV hP
      obtain ⟨w1, p1, p2, p3⟩ := C_step (c0 := 19) (f := f) (p := p) (by omega) hsh (by omega) hP
      have hs1 := eqo_mono p3 (sPT_B (d := d))
      have hB1 := pB_step (f := f) hB hsh
      have hst := (pB_b hB1).2
      have hpw := pwb (d := d + 1) (m := 0) (by omega)
      rw [Nat.pow_zero, Nat.mul_one] at hpw
      have t := nI_toInt (n := f) (by omega)
      have iffz : (lN (stoN (stepN p (shp A k d) f)) ≤ (0 : Int64)) ↔ stoN (stepN p (shp A k d) f) = 0 := by
        rw [show (0 : Int64) = lN 0 from rfl, pk_lLE (by omega) (by omega)]
        omega
      have X0 : f_X8_leastBy_b77 (f_X8_least n) (f_X8_leastBy n) (n' + 1) (nI d) (nI (m + 1)) (nI (shp A k d)) (lN acc) (nI f) w = f_X8_leastBy_b77_y (f_X8_least n) (f_X8_leastBy n) (f_X8_leastBy_b77 (f_X8_least n) (f_X8_leastBy n) n') (nI d) (nI (m + 1)) (nI (shp A k d)) (lN acc) (nI f) w := rfl
      rw [X0]
      unfold f_X8_leastBy_b77_y f_X8_leastBy_b125
      rw [if_neg (by rw [fa_lt, t]; show ¬ (3 : Int) < (f : Int); omega), p1, bV_s, nI_1, X_stones (c0 := 19) (by omega) p2, bR_s, nI_1]
      by_cases z : stoN (stepN p (shp A k d) f) = 0
      · rw [if_pos (iffz.mpr z), if_pos z]
        exact ⟨w1, rfl, VPl_B hV hs1, PT_B hP hs1, hs1⟩
      · obtain ⟨w2, q1, _, q3⟩ := IH (stepN p (shp A k d) f) w1 (VPl_B hV hs1) p2 hB1 (fun z => absurd z (by omega))
        have hs2 := eqo_tr hs1 (eqo_mono q3 (sPL_B (d := d)))
        rw [if_neg (fun q => z (iffz.mp q)), if_neg z, nI_pred, q1, bW_s, lt_d, lN_add]
        exact ⟨w2, rfl, VPl_B hV hs2, PT_B hP hs2, hs2⟩
    rw [show fu = 295 + 1 + 1 + 1 + 1 + 1 from rfl]
    obtain ⟨w1, a1, a2, a3, a4⟩ := hz 0 (295 + 1 + 1 + 1 + 1) (A.nv 6 k * sumN p * 1728 ^ (m + 1)) w (by omega) hV hP
    obtain ⟨w2, b1, b2, b3, b4⟩ := hz 1 (295 + 1 + 1 + 1) _ w1 (by omega) a2 a3
    obtain ⟨w3, c1, c2, c3, c4⟩ := hz 2 (295 + 1 + 1) _ w2 (by omega) b2 b3
    obtain ⟨w4, d1, d2, d3, d4⟩ := hz 3 (295 + 1) _ w3 (by omega) c2 c3
    refine ⟨w4, ?_, eqo_tr a4 (eqo_tr b4 (eqo_tr c4 d4))⟩
    refine Eq.trans a1 (Eq.trans b1 (Eq.trans c1 (Eq.trans d1 ?_)))
    show f_X8_leastBy_b77_y (f_X8_least n) (f_X8_leastBy n) (f_X8_leastBy_b77 (f_X8_least n) (f_X8_leastBy n) 295) (nI d) (nI (m + 1)) (nI (shp A k d)) _ (nI 4) w4 = _
    unfold f_X8_leastBy_b77_y
    rw [if_pos (by decide), isM_s]
    simp only [Nat.add_assoc]
theorem X_lk {A : Ab} (hA : Aok A) {m d n : Nat} {p : Nat → Nat} (IH : LST A m (d + 1) n) (hd : d + (m + 1) ≤ 3) (hB : pB d p) : ∀ (f n' k best : Nat) (first : Int32) (w : Wd), k + f = A.L → f < n' → best < 2 ^ 63 → VPl A w → PT 20 d p w → (d = 0 → gi w 18 5 = first) → ∃ w', f_X8_least_b46 (f_X8_least (n + 1)) (f_X8_leastBy (n + 1)) n' (nI d) (nI (m + 1)) (lN best) (nI k) w = some (lN (plk (isM A m d p) f k best first).1, w') ∧ (d = 0 → gi w' 18 5 = (plk (isM A m d p) f k best first).2) ∧ eqo (sPL d) w w'
  | 0, 0, _, _, _, _, _, h, _, _, _, _ => absurd h (by omega)
  | 0, n' + 1, k, best, first, w, hk, _, _, hV, hP, hf => by
    have h6 := hA.1
    refine ⟨w, ?_, hf, eqo_rf w⟩
    show f_X8_least_b46_y (f_X8_least (n + 1)) (f_X8_leastBy (n + 1)) (f_X8_least_b46 (f_X8_least (n + 1)) (f_X8_leastBy (n + 1)) n') (nI d) (nI (m + 1)) (lN best) (nI k) w = _
    unfold f_X8_least_b46_y
    rw [hV.1, if_pos (by rw [nI_leI (by omega) (by omega)]; omega)]
    rfl
  | f + 1, 0, _, _, _, _, _, h, _, _, _, _ => absurd h (by omega)
  | f + 1, n' + 1, k, best, first, w, hk, hn, hb, hV, hP, hf => by
    have h6 := hA.1
    obtain ⟨w1, p1, p2⟩ := X_lby hA IH hd (k := k) (by omega) hV hP hB
    have hib := is_b hA hB hd (k := k) (by omega)
    show ∃ w', f_X8_least_b46_y (f_X8_least (n + 1)) (f_X8_leastBy (n + 1)) (f_X8_least_b46 (f_X8_least (n + 1)) (f_X8_leastBy (n + 1)) n') (nI d) (nI (m + 1)) (lN best) (nI k) w = some (lN (if isM A m d p k < best then plk (isM A m d p) f (k + 1) (isM A m d p k) (nI k) else plk (isM A m d p) f (k + 1) best first).1, w') ∧ (d = 0 → gi w' 18 5 = (if isM A m d p k < best then plk (isM A m d p) f (k + 1) (isM A m d p k) (nI k) else plk (isM A m d p) f (k + 1) best first).2) ∧ _
    unfold f_X8_least_b46_y f_X8_least_b92
    have iffc : (lN best ≤ lN (isM A m d p k)) ↔ best ≤ isM A m d p k := pk_lLE (by omega) (by omega)
    have iffd : (nI d = (0 : Int32)) ↔ d = 0 := by rw [show (0 : Int32) = nI 0 from rfl, nI_eq (by omega) (by omega)]
    rw [hV.1, if_neg (by rw [nI_leI (by omega) (by omega)]; omega), if_neg (by rw [show (6 : Int32) = nI 6 from rfl, nI_leI (by omega) (by omega)]; omega), p1, bW_s, nI_1]
    by_cases c : isM A m d p k < best
    · have nc : ¬ lN best ≤ lN (isM A m d p k) := fun q => by have := iffc.mp q; omega
      rw [if_neg nc, if_pos c]
      by_cases z : d = 0
      · have g5 : gi (si w1 18 5 (nI k)) 18 5 = nI k := by rw [gi_si, if_pos ⟨rfl, rfl⟩]
        have hs2 : eqo (sPL d) w (si w1 18 5 (nI k)) := eqo_si (eqo_mono p2 sPB_L) (by simp [sPL, z])
        have hP2 : PT 20 d p (si w1 18 5 (nI k)) := fun j hj => PT_B hP p2 j hj
        rw [if_pos (iffd.mpr z), stI_d]
        obtain ⟨w2, q1, q2, q3⟩ := X_lk hA IH hd hB f n' (k + 1) (isM A m d p k) (nI k) _ (by omega) (by omega) (by omega) (VPl_L hV hs2) hP2 (fun _ => g5)
        exact ⟨w2, q1, q2, eqo_tr hs2 q3⟩
      · rw [if_neg (fun q => z (iffd.mp q))]
        obtain ⟨w2, q1, q2, q3⟩ := X_lk hA IH hd hB f n' (k + 1) (isM A m d p k) (nI k) w1 (by omega) (by omega) (by omega) (VPl_B hV p2) (PT_B hP p2) (fun y => absurd y z)
        exact ⟨w2, q1, q2, eqo_tr (eqo_mono p2 sPB_L) q3⟩
    · rw [if_pos (iffc.mpr (by omega)), if_neg c]
      obtain ⟨w2, q1, q2, q3⟩ := X_lk hA IH hd hB f n' (k + 1) best first w1 (by omega) (by omega) hb (VPl_B hV p2) (PT_B hP p2) (fun y => by rw [(p2 18 5 rfl).1]; exact hf y)
      exact ⟨w2, q1, q2, eqo_tr (eqo_mono p2 sPB_L) q3⟩
theorem X_least {A : Ab} (hA : Aok A) : ∀ m d n, d + m ≤ 3 → 2 * m < n → LST A m d n
  | 0, d, 0, _, h => absurd h (by omega)
  | 0, d, n + 1, hd, _ => by
    intro p w hV hP hB h5
    have h6 := hA.1
    have n10 := nv10 hA
    refine ⟨w, ?_, h5, eqo_rf w⟩
    show f_X8_least_y (f_X8_least n) (f_X8_leastBy n) (nI d) (nI 0) w = _
    unfold f_X8_least_y
    rw [if_neg (by decide), if_pos (by decide), X_stones (c0 := 19) (by omega) hP, bR_s, ltL_d (by decide), show ix (nI 0) = 0 from rfl, tb3_c 0 (by omega), lt_d, if_pos (show nI 0 = (0 : Int32) from rfl), hV.2.1, nI_l (by omega), lN_mul, lN_mul, Nat.pow_zero, Nat.mul_one]
    rfl
  | m + 1, d, 0, _, h => absurd h (by omega)
  | m + 1, d, 1, _, h => absurd h (by omega)
  | m + 1, d, n + 2, hd, hn => by
    intro p w hV hP hB h5
    have h6 := hA.1
    have n10 := nv10 hA
    have IH := X_least hA m (d + 1) n (by omega) (by omega)
    have hbb := best_b hA (m := m + 1) hB hd
    obtain ⟨w', q1, q2, q3⟩ := X_lk hA IH hd hB A.L fu 0 (A.nv 10 0 * stoN p * 1728 ^ (m + 1)) (-2) w (by omega) (by show _ < 300; omega) (by omega) hV hP h5
    refine ⟨w', ?_, q2, q3⟩
    show f_X8_least_y (f_X8_least (n + 1)) (f_X8_leastBy (n + 1)) (nI d) (nI (m + 1)) w = _
    unfold f_X8_least_y
    have t := nI_toInt (n := m + 1) (by omega)
    have td := nI_toInt (n := d) (by omega)
    have nz : ¬ nI (m + 1) = (0 : Int32) := by rw [show (0 : Int32) = nI 0 from rfl, nI_eq (by omega) (by omega)]; omega
    rw [if_neg (by rw [fa_lt, t, ti_0]; omega), if_pos (by rw [fa_le, t]; show ((m + 1 : Nat) : Int) ≤ 3; omega), X_stones (c0 := 19) (by omega) hP, bR_s, ltL_d (inb_nI (by omega) (by omega)), ix_nI (by omega), tb3_c _ (by omega), lt_d, if_neg nz, if_pos (by rw [fa_lt, td]; show (d : Int) < 3; omega), hV.2.1, nI_l (by omega), lN_mul, lN_mul]
    exact q1
