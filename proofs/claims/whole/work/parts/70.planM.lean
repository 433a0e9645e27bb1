/-! PLANS: the model's; plan -/
def sMP (d c k : Nat) : Bool := c == 69 || c == 70 || (c == 71 && decide (4 * (d + 1) ≤ k)) || (c == 54 && k == 34)
theorem sMP_s {d : Nat} : ∀ c k, sMP d c k = true → scr c k = true := by
  intro c k h
  simp only [sMP, scr, Bool.or_eq_true, Bool.and_eq_true, beq_iff_eq, decide_eq_true_eq] at h ⊢
  omega
theorem sMP_up {d : Nat} : ∀ c k, sMP (d + 1) c k = true → sMP d c k = true := by
  intro c k h
  simp only [sMP, Bool.or_eq_true, Bool.and_eq_true, beq_iff_eq, decide_eq_true_eq] at h ⊢
  omega
theorem sEZ_MP {d : Nat} : ∀ c k, sEZ c k = true → sMP d c k = true := by
  intro c k h
  simp only [sEZ, sMP, Bool.or_eq_true, Bool.and_eq_true, beq_iff_eq, decide_eq_true_eq] at h ⊢
  omega
theorem sPT_MP {d : Nat} : ∀ c k, sPT 71 (d + 1) c k = true → sMP d c k = true := by
  intro c k h
  simp only [sPT, sMP, Bool.or_eq_true, Bool.and_eq_true, beq_iff_eq, decide_eq_true_eq] at h ⊢
  omega
theorem PT_MP {d : Nat} {p : Nat → Nat} {w w' : Wd} (h : PT 71 d p w) (he : eqo (sMP d) w w') : PT 71 d p w' := eqo_PT h he (fun j hj => by simp [sMP]; omega)
def PLM (A : Ab) (m d n : Nat) : Prop := ∀ (p : Nat → Nat) (w : Wd), VM A w → PT 71 d p w → pB d p → ∃ w', f_X12_planFrom n (nI d) (nI m) w = some (lN (PLv A m d p).1, w') ∧ gi w' 54 34 = (PLv A m d p).2 ∧ eqo (sMP d) w w'
theorem M_pk {A : Ab} (hA : Aok A) {m d n k : Nat} {p : Nat → Nat} (IH : PLM A m (d + 1) n) (hd : d + (m + 1) ≤ 3) (hk : k < A.L) (k27 : Int32 → Int32 → Int64 → Int32 → Int32 → Wd → Option (Int64 × Wd)) {best : Nat} {first : Int32} {w : Wd} (hb : best < 2 ^ 63) (hV : VM A w) (hP : PT 71 d p w) (hB : pB d p) : ∃ w', f_X12_planFrom_b67 (f_X12_planFrom n) k27 fu (nI d) (nI (m + 1)) (lN best) first (nI k) (lN (A.nv 6 k * sumN p * 1728 ^ (m + 1))) (nI 0) w = (if isM A m d p k < best then k27 (nI d) (nI (m + 1)) (lN (isM A m d p k)) (nI k) (nI (k + 1)) w' else k27 (nI d) (nI (m + 1)) (lN best) first (nI (k + 1)) w') ∧ eqo (sMP d) w w' := by
  have h6 := hA.1
  have hsh := shp_le A k d
  have hz : ∀ f n' acc w, f < 4 → VM A w → PT 71 d p w → ∃ w', f_X12_planFrom_b67 (f_X12_planFrom n) k27 (n' + 1) (nI d) (nI (m + 1)) (lN best) first (nI k) (lN acc) (nI f) w = f_X12_planFrom_b67 (f_X12_planFrom n) k27 n' (nI d) (nI (m + 1)) (lN best) first (nI k) (lN (acc + (if sumN (stepN p (shp A k d) f) = 0 then 0 else (PLv A m (d + 1) (stepN p (shp A k d) f)).1))) (nI (f + 1)) w' ∧ VM A w' ∧ PT 71 d p w' ∧ eqo (sMP d) w w' := by
    intro f n' acc w hf hV hP
    have g9 : gi w 54 8 = thk A := hV.2.2.1 9 0 ok9
    obtain ⟨w0, t1, t2⟩ := M_tw hV hk (nI d) (thk A)
    have t1' : f_X12_findsBy (nI k) (nI d) (thk A) w = some (nI (shp A k d), w0) := t1
    have hs0 := eqo_mono t2 (sEZ_MP (d := d))
    obtain ⟨w1, p1, p2, p3⟩ := M_look (f := f) (p := p) (d := d) (by omega) hsh (by omega) (PT_MP hP hs0)
    have hs1 := eqo_tr hs0 (eqo_mono p3 (sPT_MP (d := d)))
    have hB1 := pB_step (f := f) hB hsh
    have hst := (pB_b hB1).1
    have hpw := pwb (d := d + 1) (m := 0) (by omega)
    rw [Nat.pow_zero, Nat.mul_one] at hpw
    have t := nI_toInt (n := f) (by omega)
    have iffz : (lN (sumN (stepN p (shp A k d) f)) ≤ (0 : Int64)) ↔ sumN (stepN p (shp A k d) f) = 0 := by
      rw [show (0 : Int64) = lN 0 from rfl, pk_lLE (by omega) (by omega)]
      omega
    have X0 : f_X12_planFrom_b67 (f_X12_planFrom n) k27 (n' + 1) (nI d) (nI (m + 1)) (lN best) first (nI k) (lN acc) (nI f) w = f_X12_planFrom_b67_y (f_X12_planFrom n) k27 (f_X12_planFrom_b67 (f_X12_planFrom n) k27 n') (nI d) (nI (m + 1)) (lN best) first (nI k) (lN acc) (nI f) w := rfl
    rw [X0]
    unfold f_X12_planFrom_b67_y f_X12_planFrom_b118
    rw [if_neg (by rw [fa_lt, t]; show ¬ (3 : Int) < (f : Int); omega), g9, t1', bW_s, p1, bV_s, nI_1, M_all (by omega) p2, bR_s, nI_1]
    by_cases z : sumN (stepN p (shp A k d) f) = 0
    · rw [if_pos (iffz.mpr z), if_pos z]
      exact ⟨w1, rfl, VM_s hV (eqo_mono hs1 sMP_s), PT_MP hP hs1, hs1⟩
    · obtain ⟨w2, q1, _, q3⟩ := IH (stepN p (shp A k d) f) w1 (VM_s hV (eqo_mono hs1 sMP_s)) p2 hB1
      have hs2 := eqo_tr hs1 (eqo_mono q3 (sMP_up (d := d)))
      rw [if_neg (fun q => z (iffz.mp q)), if_neg z, nI_pred, q1, bW_s, lt_d, lN_add]
      exact ⟨w2, rfl, VM_s hV (eqo_mono hs2 sMP_s), PT_MP hP hs2, hs2⟩
  rw [show fu = 295 + 1 + 1 + 1 + 1 + 1 from rfl]
  obtain ⟨w1, a1, a2, a3, a4⟩ := hz 0 (295 + 1 + 1 + 1 + 1) (A.nv 6 k * sumN p * 1728 ^ (m + 1)) w (by omega) hV hP
  obtain ⟨w2, b1, b2, b3, b4⟩ := hz 1 (295 + 1 + 1 + 1) _ w1 (by omega) a2 a3
  obtain ⟨w3, c1, c2, c3, c4⟩ := hz 2 (295 + 1 + 1) _ w2 (by omega) b2 b3
  obtain ⟨w4, d1, d2, d3, d4⟩ := hz 3 (295 + 1) _ w3 (by omega) c2 c3
  refine ⟨w4, ?_, eqo_tr a4 (eqo_tr b4 (eqo_tr c4 d4))⟩
  refine Eq.trans a1 (Eq.trans b1 (Eq.trans c1 (Eq.trans d1 ?_)))
  have hib := is_b hA hB hd (k := k) (by omega)
  show f_X12_planFrom_b67_y (f_X12_planFrom n) k27 (f_X12_planFrom_b67 (f_X12_planFrom n) k27 295) (nI d) (nI (m + 1)) (lN best) first (nI k) _ (nI 4) w4 = _
  unfold f_X12_planFrom_b67_y f_X12_planFrom_b141
  have ei : A.nv 6 k * sumN p * 1728 ^ (m + 1) + (if sumN (stepN p (shp A k d) 0) = 0 then 0 else (PLv A m (d + 1) (stepN p (shp A k d) 0)).1) + (if sumN (stepN p (shp A k d) 1) = 0 then 0 else (PLv A m (d + 1) (stepN p (shp A k d) 1)).1) + (if sumN (stepN p (shp A k d) 2) = 0 then 0 else (PLv A m (d + 1) (stepN p (shp A k d) 2)).1) + (if sumN (stepN p (shp A k d) 3) = 0 then 0 else (PLv A m (d + 1) (stepN p (shp A k d) 3)).1) = isM A m d p k := by
    unfold isM
    simp only [Nat.add_assoc]
  rw [if_pos (by decide), ei, nI_1]
  have iffc : (lN (isM A m d p k) < lN best) ↔ isM A m d p k < best := pk_lLT (by omega) (by omega)
  by_cases c : isM A m d p k < best
  · rw [if_pos (iffc.mpr c), if_pos c]
  · rw [if_neg (fun q => c (iffc.mp q)), if_neg c]
theorem M_p27 {A : Ab} (hA : Aok A) {m d n : Nat} {p : Nat → Nat} (IH : PLM A m (d + 1) n) (hd : d + (m + 1) ≤ 3) (hB : pB d p) : ∀ (f n' k best : Nat) (first : Int32) (w : Wd), k + f = A.L → f < n' → best < 2 ^ 63 → VM A w → PT 71 d p w → ∃ w', f_X12_planFrom_b27 (f_X12_planFrom n) n' (nI d) (nI (m + 1)) (lN best) first (nI k) w = some (lN (plk (isM A m d p) f k best first).1, w') ∧ gi w' 54 34 = (plk (isM A m d p) f k best first).2 ∧ eqo (sMP d) w w'
  | 0, 0, _, _, _, _, _, h, _, _, _ => absurd h (by omega)
  | 0, n' + 1, k, best, first, w, hk, _, _, hV, hP => by
    have h6 := hA.1
    show ∃ w', f_X12_planFrom_b27_y (f_X12_planFrom n) (f_X12_planFrom_b27 (f_X12_planFrom n) n') (nI d) (nI (m + 1)) (lN best) first (nI k) w = _ ∧ _
    unfold f_X12_planFrom_b27_y f_X12_planFrom_b147
    rw [hV.2.1, if_pos (by rw [nI_leI (by omega) (by omega)]; omega), stI_d]
    refine ⟨_, rfl, ?_, eqo_si (eqo_rf w) rfl⟩
    rw [gi_si, if_pos ⟨rfl, rfl⟩]
    rfl
  | f + 1, 0, _, _, _, _, _, h, _, _, _ => absurd h (by omega)
  | f + 1, n' + 1, k, best, first, w, hk, hn, hb, hV, hP => by
    have h6 := hA.1
    have g6 : gi w 58 k = nI (A.nv 6 k) := hV.2.2.1 6 k (okL (Or.inr rfl) (by omega))
    have hc : A.nv 6 k ≤ 99 := hA.2.1 6 k (okL (Or.inr rfl) (by omega))
    obtain ⟨w1, p1, p2⟩ := M_pk hA IH hd (k := k) (by omega) (f_X12_planFrom_b27 (f_X12_planFrom n) n') (best := best) (first := first) hb hV hP hB
    have hib := is_b hA hB hd (k := k) (by omega)
    show ∃ w', f_X12_planFrom_b27_y (f_X12_planFrom n) (f_X12_planFrom_b27 (f_X12_planFrom n) n') (nI d) (nI (m + 1)) (lN best) first (nI k) w = some (lN (if isM A m d p k < best then plk (isM A m d p) f (k + 1) (isM A m d p k) (nI k) else plk (isM A m d p) f (k + 1) best first).1, w') ∧ gi w' 54 34 = (if isM A m d p k < best then plk (isM A m d p) f (k + 1) (isM A m d p k) (nI k) else plk (isM A m d p) f (k + 1) best first).2 ∧ _
    unfold f_X12_planFrom_b27_y
    have tm := nI_toInt (n := m + 1) (by omega)
    rw [hV.2.1, if_neg (by rw [nI_leI (by omega) (by omega)]; omega), if_neg (by rw [fa_le, tm, ti_0]; omega), ldI_d (inb_nI (by omega) (by omega)), ix_nI (by omega), g6, M_all (by omega) hP, bR_s, show (1728 : Int64) = lN 1728 from rfl, M_pow (by omega), bR_s, lt_d, nI_l (by omega), lN_mul, lN_mul]
    have p1' := p1
    rw [show nI 0 = (0 : Int32) from rfl] at p1'
    rw [p1']
    by_cases c : isM A m d p k < best
    · rw [if_pos c, if_pos c]
      obtain ⟨w2, q1, q2, q3⟩ := M_p27 hA IH hd hB f n' (k + 1) (isM A m d p k) (nI k) w1 (by omega) (by omega) (by omega) (VM_s hV (eqo_mono p2 sMP_s)) (PT_MP hP p2)
      exact ⟨w2, q1, q2, eqo_tr p2 q3⟩
    · rw [if_neg c, if_neg c]
      obtain ⟨w2, q1, q2, q3⟩ := M_p27 hA IH hd hB f n' (k + 1) best first w1 (by omega) (by omega) hb (VM_s hV (eqo_mono p2 sMP_s)) (PT_MP hP p2)
      exact ⟨w2, q1, q2, eqo_tr p2 q3⟩
theorem M_plan {A : Ab} (hA : Aok A) : ∀ m d n, d + m ≤ 3 → m < n → PLM A m d n
  | 0, d, 0, _, h => absurd h (by omega)
  | 0, d, n + 1, hd, _ => by
    intro p w hV hP hB
    have h6 := hA.1
    have n10 := nv10 hA
    have g10 : gi w 54 9 = nI (A.nv 10 0) := hV.2.2.1 10 0 (ok0 (by omega) (by omega))
    show ∃ w', f_X12_planFrom_y (f_X12_planFrom n) (nI d) (nI 0) w = _ ∧ _
    unfold f_X12_planFrom_y
    rw [M_stones (by omega) hP, bR_s, show (1728 : Int64) = lN 1728 from rfl, M_pow (by omega), bR_s, lt_d, g10, nI_l (by omega), lN_mul, lN_mul, Nat.pow_zero, Nat.mul_one]
    show ∃ w', f_X12_planFrom_b27_y (f_X12_planFrom n) (f_X12_planFrom_b27 (f_X12_planFrom n) 299) (nI d) (nI 0) (lN (A.nv 10 0 * stoN p)) (-2) 0 w = some (lN (A.nv 10 0 * stoN p), w') ∧ gi w' 54 34 = -2 ∧ eqo (sMP d) w w'
    unfold f_X12_planFrom_b27_y f_X12_planFrom_b147
    rw [stI_d]
    have fin : ∃ w', some (lN (A.nv 10 0 * stoN p), si w 54 34 (-2)) = some (lN (A.nv 10 0 * stoN p), w') ∧ gi w' 54 34 = -2 ∧ eqo (sMP d) w w' := ⟨_, rfl, by rw [gi_si, if_pos ⟨rfl, rfl⟩], eqo_si (eqo_rf w) rfl⟩
    by_cases c : gi w 54 3 ≤ 0
    · rw [if_pos c]; exact fin
    · rw [if_neg c, if_pos (by decide)]; exact fin
  | m + 1, d, 0, _, h => absurd h (by omega)
  | m + 1, d, n + 1, hd, hn => by
    intro p w hV hP hB
    have h6 := hA.1
    have n10 := nv10 hA
    have g10 : gi w 54 9 = nI (A.nv 10 0) := hV.2.2.1 10 0 (ok0 (by omega) (by omega))
    have IH := M_plan hA m (d + 1) n (by omega) (by omega)
    have hbb := best_b hA (m := m + 1) hB hd
    obtain ⟨w', q1, q2, q3⟩ := M_p27 hA IH hd hB A.L fu 0 (A.nv 10 0 * stoN p * 1728 ^ (m + 1)) (-2) w (by omega) (by show _ < 300; omega) (by omega) hV hP
    refine ⟨w', ?_, q2, q3⟩
    show f_X12_planFrom_y (f_X12_planFrom n) (nI d) (nI (m + 1)) w = _
    unfold f_X12_planFrom_y
    rw [M_stones (by omega) hP, bR_s, show (1728 : Int64) = lN 1728 from rfl, M_pow (by omega), bR_s, lt_d, g10, nI_l (by omega), lN_mul, lN_mul]
    exact q1
theorem M_planOf {A : Ab} {b m : Nat} {w : Wd} (hV : VM A w) (hb : b < 4) (hm : m ≤ 3) : ∃ w', f_X12_planOf (nI b) (nI m) w = some (lN (PLv A m 0 (p0 A b)).1, w') ∧ gi w' 54 34 = (PLv A m 0 (p0 A b)).2 ∧ eqo scr w w' := by
  unfold f_X12_planOf
  obtain ⟨w1, p1, p2, p3⟩ := M_begin (d := 0) hV hb (by omega)
  have hs1 := eqo_mono p3 (sPT_s (c := 71) (d := 0) (Or.inr rfl))
  obtain ⟨w2, q1, q2, q3⟩ := M_plan hV.1 m 0 rf (by omega) (by show _ < 80; omega) (p0 A b) w1 (VM_s hV hs1) p2 (pB_0 hV.1 hb)
  refine ⟨w2, ?_, q2, eqo_tr hs1 (eqo_mono q3 sMP_s)⟩
  have p1' : f_X12_beginParts (nI b) 0 w = some w1 := p1
  have q1' : f_X12_planFrom rf 0 (nI m) w1 = some (lN (PLv A m 0 (p0 A b)).1, w2) := q1
  rw [p1', bV_s, q1', bW_s]
theorem T_plan {A : Ab} {w : Wd} (hX : VX A w) (hM : VM A w) (a1 a2 a3 : Int32) : ∃ r w1 w2, f_X11_plan a1 a2 a3 w = some (r, w1) ∧ f_X12_plan a1 a2 a3 w1 = some (r, w2) ∧ eqo scr w w2 := by
  have t0 : (0 : Int32).toInt = 0 := rfl
  have t2 : (2 : Int32).toInt = 2 := rfl
  have t3 : (3 : Int32).toInt = 3 := rfl
  by_cases h : inb a1 4 ∧ inb a2 4 ∧ inb a3 3
  · obtain ⟨h1, h2, h3⟩ := h
    obtain ⟨b, hb, rfl⟩ := of_inb h1
    obtain ⟨m, hm, rfl⟩ := of_inb h2
    have tm := nI_toInt (n := m) (by omega)
    obtain ⟨w1, p1, p2, p3, p4⟩ := X_tell hX
    obtain ⟨w2, q1, q2, q3, q4, q5, q6⟩ := X_for (b := b) (m := m) p3 p2 hb (by omega)
    have hs2 := eqo_tr p4 q6
    obtain ⟨w3, r1, r2, r3⟩ := M_planOf (b := b) (m := m) (VM_s hM hs2) hb (by omega)
    have hs3 := eqo_tr hs2 r3
    have hplb := PL_b hX.1 (pB_0 hX.1 hb) (m := m) (d := 0) (by omega)
    have hsb := p0_sum hX.1 hb
    have ple := allW_le hX.1 hb
    have pb : 0 < sumN (p0 A b) ∧ sumN (p0 A b) ≤ 36 := by
      rw [hsb]
      by_cases z : allW A b = 0
      · rw [if_pos z]; omega
      · rw [if_neg z]; omega
    have pw := pw4 (d := m) (by omega)
    have pwp : 0 < 1728 ^ m := Nat.pow_pos (by omega)
    have pall : 0 < sumN (p0 A b) * 1728 ^ m ∧ sumN (p0 A b) * 1728 ^ m ≤ 36 * 8916100448256 := ⟨Nat.mul_pos pb.1 pwp, Nat.mul_le_mul pb.2 pw⟩
    have X1 : f_X11_plan (nI b) (nI m) a3 w = if a3 = 2 then some (Int32.toInt64 (PLv A m 0 (p0 A b)).2, w2) else some (low (lN (PLv A m 0 (p0 A b)).1) (sumN (p0 A b) * 1728 ^ m) a3, w2) := by
      unfold f_X11_plan
      rw [X_isBag, bR_s, ite_b2i, if_pos h1, if_neg (by rw [fa_lt, tm, t0]; omega), if_neg (by rw [fa_lt, tm, t3]; omega), if_neg (by rw [fa_lt, t0]; have := h3.1; omega), if_pos (by rw [fa_le, t2]; have := h3.2; omega), p1, bV_s, q1, bW_s, q2, X_ahead (c0 := 19) (by omega) q3, bR_s, inLowest_low (lN_t (by omega)) (by omega) (by omega), bR_s]
    have M1 : f_X12_plan (nI b) (nI m) a3 w2 = if a3 = 2 then some (Int32.toInt64 (PLv A m 0 (p0 A b)).2, w3) else some (low (lN (PLv A m 0 (p0 A b)).1) (sumN (p0 A b) * 1728 ^ m) a3, w3) := by
      unfold f_X12_plan
      rw [M_isBag, bR_s, ite_b2i, if_pos h1, M_in, bR_s, ite_b2i, if_pos (by rw [tm, t0, t3]; omega), M_in, bR_s, ite_b2i, if_pos (by rw [t0, t2]; have := h3.1; have := h3.2; omega), r1, bW_s, r2, M_measure (VM_s hM hs3) hb, bR_s, show (1728 : Int64) = lN 1728 from rfl, M_pow (by omega), bR_s, nI_l (by omega), lN_mul, asPart_low (lN_t (by omega)) (by omega) (by omega), bR_s]
    by_cases z : a3 = 2
    · rw [if_pos z] at X1 M1
      exact ⟨_, _, _, X1, M1, hs3⟩
    · rw [if_neg z] at X1 M1
      exact ⟨_, _, _, X1, M1, hs3⟩
  · refine ⟨NONE, w, w, ?_, ?_, eqo_rf w⟩
    · unfold f_X11_plan
      rw [X_isBag, bR_s, ite_b2i]
      by_cases c1 : inb a1 4
      · rw [if_pos c1]
        by_cases c2 : a2 < 0
        · rw [if_pos c2]
        rw [if_neg c2]
        by_cases c3 : 3 < a2
        · rw [if_pos c3]
        rw [if_neg c3]
        by_cases c4 : a3 < 0
        · rw [if_pos c4]
        rw [if_neg c4, if_neg]
        intro c5
        rw [fa_lt] at c2 c3 c4
        rw [fa_le] at c5
        exact h ⟨c1, ⟨by omega, by omega⟩, ⟨by omega, by omega⟩⟩
      · rw [if_neg c1]
    · unfold f_X12_plan
      rw [M_isBag, bR_s, ite_b2i]
      by_cases c1 : inb a1 4
      · rw [if_pos c1, M_in, bR_s, ite_b2i]
        by_cases c2 : (0 : Int32).toInt ≤ a2.toInt ∧ a2.toInt ≤ (3 : Int32).toInt
        · rw [if_pos c2, M_in, bR_s, ite_b2i, if_neg]
          intro c3
          exact h ⟨c1, ⟨by omega, by omega⟩, ⟨by omega, by omega⟩⟩
        · rw [if_neg c2]
      · rw [if_neg c1]
