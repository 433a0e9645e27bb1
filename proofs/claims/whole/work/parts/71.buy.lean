/-! WHICH BAG TO BUY -/
theorem plk_dv {isf : Nat → Nat} {q : Nat} (h : ∀ k, q ∣ isf k) : ∀ f k best first, q ∣ best → q ∣ (plk isf f k best first).1
  | 0, _, _, _, hb => hb
  | f + 1, k, best, first, hb => by
    unfold plk
    by_cases c : isf k < best
    · rw [if_pos c]; exact plk_dv h f (k + 1) (isf k) (nI k) (h k)
    · rw [if_neg c]; exact plk_dv h f (k + 1) best first hb
theorem dv1728 (m : Nat) : 144 ∣ 1728 ^ (m + 1) := by
  rw [Nat.pow_succ]
  exact Nat.dvd_trans (by decide) (Nat.dvd_mul_left 1728 (1728 ^ m))
theorem PL_144 {A : Ab} : ∀ m d p, 144 ∣ (PLv A (m + 1) d p).1
  | 0, d, p => by
    rw [PLv_s]
    refine plk_dv (fun k => ?_) _ _ _ _ (Nat.dvd_trans (dv1728 0) (Nat.dvd_mul_left _ _))
    rw [isM_0]
    refine Nat.dvd_add (Nat.dvd_trans (by decide) (Nat.dvd_mul_left 1728 _)) ?_
    rw [← Nat.mul_assoc]
    exact Nat.dvd_mul_left 144 _
  | m + 1, d, p => by
    rw [PLv_s]
    refine plk_dv (fun k => ?_) _ _ _ _ (Nat.dvd_trans (dv1728 (m + 1)) (Nat.dvd_mul_left _ _))
    have key : ∀ q : Nat → Nat, 144 ∣ (if sumN q = 0 then 0 else (PLv A (m + 1) (d + 1) q).1) := by
      intro q
      by_cases z : sumN q = 0
      · rw [if_pos z]; exact ⟨0, rfl⟩
      · rw [if_neg z]; exact PL_144 m (d + 1) q
    unfold isM
    exact Nat.dvd_add (Nat.dvd_trans (dv1728 (m + 1)) (Nat.dvd_mul_left _ _)) (Nat.dvd_add (Nat.dvd_add (Nat.dvd_add (key _) (key _)) (key _)) (key _))
/-- what buying a bag comes to, and by what it is measured -/
def bS (A : Ab) (b : Nat) : Nat := sumN (p0 A b)
def bI (A : Ab) (b : Nat) : Nat := (PLv A 2 0 (p0 A b)).1 + A.nv 4 b * (bS A b * 2985984)
theorem bS_b {A : Ab} (hA : Aok A) {b : Nat} (hb : b < 4) : 0 < bS A b ∧ bS A b ≤ 36 := by
  have hsb := p0_sum hA hb
  have ple := allW_le hA hb
  unfold bS
  rw [hsb]
  by_cases z : allW A b = 0
  · rw [if_pos z]; omega
  · rw [if_neg z]; omega
theorem nv4 {A : Ab} (hA : Aok A) {b : Nat} (hb : b < 4) : A.nv 4 b ≤ 99 := hA.2.1 4 b (okb (by omega) hb)
theorem bI_b {A : Ab} (hA : Aok A) {b : Nat} (hb : b < 4) : bI A b ≤ 144 * 1200000000 ∧ 144 ∣ bI A b := by
  have h1 := PLv_le (A := A) 2 0 (p0 A b)
  have n10 := nv10 hA
  have h2 := (pB_b (pB_0 hA hb)).2
  rw [Nat.pow_zero, Nat.mul_one] at h2
  have e1 : A.nv 10 0 * stoN (p0 A b) ≤ 999 * 54 := Nat.mul_le_mul n10 h2
  have h3 : (1728 : Nat) ^ 2 = 2985984 := by decide
  rw [h3] at h1
  have h4 : A.nv 4 b * (bS A b * 2985984) ≤ 99 * (36 * 2985984) := Nat.mul_le_mul (nv4 hA hb) (Nat.mul_le_mul_right _ (bS_b hA hb).2)
  refine ⟨?_, ?_⟩
  · unfold bI
    have e2 : A.nv 10 0 * stoN (p0 A b) * 2985984 ≤ 999 * 54 * 2985984 := Nat.mul_le_mul_right _ e1
    omega
  · unfold bI
    refine Nat.dvd_add (PL_144 1 0 _) ?_
    rw [← Nat.mul_assoc]
    exact Nat.dvd_trans (by decide) (Nat.dvd_mul_left 2985984 _)
def bl (A : Ab) : Nat → Nat → Nat → Nat → Nat → Nat × Nat × Nat
  | 0, _, which, least, W => (which, least, W)
  | f + 1, b, which, least, W => if bI A b * W < least * bS A b then bl A f (b + 1) b (bI A b) (bS A b) else bl A f (b + 1) which least W
def okT (least W : Nat) : Prop := least ≤ 144 * 1200000000 ∧ 144 ∣ least ∧ 0 < W ∧ W ≤ 36
theorem bl_ok {A : Ab} (hA : Aok A) : ∀ f b which least W, b + f = 4 → okT least W → which < 4 → okT (bl A f b which least W).2.1 (bl A f b which least W).2.2 ∧ (bl A f b which least W).1 < 4
  | 0, _, _, _, _, _, h, hw => ⟨h, hw⟩
  | f + 1, b, which, least, W, hb, h, hw => by
    unfold bl
    by_cases c : bI A b * W < least * bS A b
    · rw [if_pos c]
      exact bl_ok hA f (b + 1) b (bI A b) (bS A b) (by omega) ⟨(bI_b hA (by omega)).1, (bI_b hA (by omega)).2, bS_b hA (by omega)⟩ (by omega)
    · rw [if_neg c]
      exact bl_ok hA f (b + 1) which least W (by omega) h hw
theorem X_bl {A : Ab} (a1 : Int32) : ∀ (f n b which least W : Nat) (w : Wd), b + f = 4 → f < n → 0 < b → okT least W → VX A w → VPl A w → ∃ w', f_X11_buy_b27 n a1 (nI which) (lN least) (lN W) (nI b) w = (if a1 = 2 then some (Int32.toInt64 (nI (bl A f b which least W).1), w') else some (low (lN (bl A f b which least W).2.1) ((bl A f b which least W).2.2 * 2985984) a1, w')) ∧ eqo scr w w'
  | 0, 0, _, _, _, _, _, _, h, _, _, _, _ => absurd h (by omega)
  | 0, n + 1, b, which, least, W, w, hb, _, _, hT, _, _ => by
    obtain ⟨t1, t2, t3, t4⟩ := hT
    refine ⟨w, ?_, eqo_rf w⟩
    show f_X11_buy_b27_y (f_X11_buy_b27 n) a1 (nI which) (lN least) (lN W) (nI b) w = _
    unfold f_X11_buy_b27_y
    rw [if_pos (by rw [show (4 : Int32) = nI 4 from rfl, nI_leI (by omega) (by omega)]; omega), show (1728 : Int64) = lN 1728 from rfl, lN_mul, lN_mul, inLowest_low (lN_t (by omega)) (by omega) (by omega), bR_s, Nat.mul_assoc]
    rfl
  | f + 1, 0, _, _, _, _, _, _, h, _, _, _, _ => absurd h (by omega)
  | f + 1, n + 1, b, which, least, W, w, hb, hn, hb0, hT, hV, hP => by
    obtain ⟨t1, t2, t3, t4⟩ := id hT
    have hb4 : b < 4 := by omega
    obtain ⟨w1, p1, _, p3, p4, p5, p6⟩ := X_for (b := b) (m := 2) hV hP hb4 (by omega)
    have p1' : f_X11_leastFor (nI b) 2 w = some (lN (PLv A 2 0 (p0 A b)).1, w1) := p1
    have hg4 : f_X6_get (nI b) 4 w1 = some (nI (A.nv 4 b)) := VX_get (q := 4) p5 (okb (by omega) hb4) (by omega)
    have hal := X_all (c0 := 19) (d := 0) (by omega) p3
    have hal' : f_X1_all 19 0 w1 = some (lN (bS A b)) := hal
    have hah := X_ahead (c0 := 19) (d := 2) (by omega) p3
    have hah' : f_X1_allAhead 19 2 w1 = some (lN (bS A b * 2985984)) := hah
    have n4 := nv4 hV.1 hb4
    have hib := bI_b hV.1 hb4
    have hsb := bS_b hV.1 hb4
    have e0 : f_X11_buy_b27 (n + 1) a1 (nI which) (lN least) (lN W) (nI b) w = f_X11_buy_b27_y (f_X11_buy_b27 n) a1 (nI which) (lN least) (lN W) (nI b) w := rfl
    have nb0 : ¬ nI b = (0 : Int32) := by rw [show (0 : Int32) = nI 0 from rfl, nI_eq (by omega) (by omega)]; omega
    have eI : (PLv A 2 0 (p0 A b)).1 + A.nv 4 b * (bS A b * 2985984) = bI A b := rfl
    have b1 : least * bS A b ≤ 144 * 1200000000 * 36 := Nat.mul_le_mul t1 hsb.2
    have b2 : bI A b * W ≤ 144 * 1200000000 * 36 := Nat.mul_le_mul hib.1 t4
    rw [e0]
    unfold f_X11_buy_b27_y f_X11_buy_b101 f_X11_buy_b111
    rw [if_neg (by rw [show (4 : Int32) = nI 4 from rfl, nI_leI (by omega) (by omega)]; omega), p1', bW_s, hal', bR_s, hg4, bR_s, hah', bR_s, lt_d, nI_l (by omega), lN_mul, lN_add, eI, if_neg nb0, lN_mul, lN_mul, nI_1]
    unfold bl
    have iffc : (lN (least * bS A b) ≤ lN (bI A b * W)) ↔ least * bS A b ≤ bI A b * W := pk_lLE (by omega) (by omega)
    by_cases c : bI A b * W < least * bS A b
    · have nc : ¬ lN (least * bS A b) ≤ lN (bI A b * W) := fun q => by have := iffc.mp q; omega
      rw [if_neg nc, if_pos c]
      obtain ⟨w2, q1, q2⟩ := X_bl a1 f n (b + 1) b (bI A b) (bS A b) w1 (by omega) (by omega) (by omega) ⟨hib.1, hib.2, hsb⟩ p5 p4
      exact ⟨w2, q1, eqo_tr p6 q2⟩
    · have hc : lN (least * bS A b) ≤ lN (bI A b * W) := iffc.mpr (by omega)
      rw [if_pos hc, if_neg c]
      obtain ⟨w2, q1, q2⟩ := X_bl a1 f n (b + 1) which least W w1 (by omega) (by omega) (by omega) hT p5 p4
      exact ⟨w2, q1, eqo_tr p6 q2⟩
theorem M_one {A : Ab} {b : Nat} {w : Wd} (hV : VM A w) (hb : b < 4) (a1 : Int32) (x2 : Int32) (x3 x5 : Int64) (n : Nat) : ∃ w', f_X12_buy_b23 (n + 1) a1 x2 x3 x5 (nI b) w = (if x2 < 0 then f_X12_buy_b102 (f_X12_buy_b23 n) a1 (nI b) (lN (bS A b * 2985984)) (lN (bI A b)) (lN (Nat.gcd (bI A b) (bS A b * 2985984))) w' else dvL (lN (bI A b)) (lN (Nat.gcd (bI A b) (bS A b * 2985984))) fun v13 => dvL (lN (bS A b * 2985984)) (lN (Nat.gcd (bI A b) (bS A b * 2985984))) fun v14 => if (v13 * x5) < (x3 * v14) then f_X12_buy_b102 (f_X12_buy_b23 n) a1 (nI b) (lN (bS A b * 2985984)) (lN (bI A b)) (lN (Nat.gcd (bI A b) (bS A b * 2985984))) w' else f_X12_buy_b118 (f_X12_buy_b23 n) a1 x2 x3 x5 (nI b) w') ∧ eqo scr w w' := by
  obtain ⟨w1, p1, _, p3⟩ := M_planOf (b := b) (m := 2) hV hb (by omega)
  have p1' : f_X12_planOf (nI b) 2 w = some (lN (PLv A 2 0 (p0 A b)).1, w1) := p1
  have hV1 := VM_s hV p3
  have g4 : gi w1 56 b = nI (A.nv 4 b) := hV1.2.2.1 4 b (okb (by omega) hb)
  have n4 := nv4 hV.1 hb
  have hib := bI_b hV.1 hb
  have hsb := bS_b hV.1 hb
  have hpw : f_X12_power (lN 1728) 2 = some (lN 2985984) := by
    have := M_pow (b := 1728) (e := 2) (by omega)
    rw [show (1728 : Nat) ^ 2 = 2985984 from by decide, show nI 2 = (2 : Int32) from rfl] at this
    exact this
  have eI : (PLv A 2 0 (p0 A b)).1 + A.nv 4 b * (bS A b * 2985984) = bI A b := rfl
  refine ⟨w1, ?_, p3⟩
  show f_X12_buy_b23_y (f_X12_buy_b23 n) a1 x2 x3 x5 (nI b) w = _
  unfold f_X12_buy_b23_y
  rw [if_neg (by rw [show (4 : Int32) = nI 4 from rfl, nI_leI (by omega) (by omega)]; omega), M_measure hV hb, bR_s, show (1728 : Int64) = lN 1728 from rfl, hpw, bR_s, lt_d, p1', bW_s, ldI_d (inb_nI (by omega) (by omega)), ix_nI (by omega), g4, lt_d, nI_l (show sumN (p0 A b) < 2 ^ 31 by unfold bS at hsb; omega), nI_l (by omega), lN_mul, show sumN (p0 A b) = bS A b from rfl, lN_mul, lN_add, eI, asBy_gcd (by omega) (by omega), bR_s]
theorem gd {A : Ab} (hA : Aok A) {least W : Nat} (hT : okT least W) : 0 < Nat.gcd least (W * 2985984) ∧ least = Nat.gcd least (W * 2985984) * (least / Nat.gcd least (W * 2985984)) ∧ W * 2985984 = Nat.gcd least (W * 2985984) * (W * 2985984 / Nat.gcd least (W * 2985984)) ∧ 0 < W * 2985984 / Nat.gcd least (W * 2985984) ∧ least / Nat.gcd least (W * 2985984) ≤ 1200000000 ∧ W * 2985984 / Nat.gcd least (W * 2985984) ≤ 746496 ∧ Nat.gcd least (W * 2985984) ≤ 36 * 2985984 := by
  obtain ⟨t1, t2, t3, t4⟩ := hT
  have hpos : 0 < W * 2985984 := by omega
  obtain ⟨g0, g1, g2, g3⟩ := gcd_split (a := least) (b := W * 2985984) hpos
  have d144 : 144 ∣ W * 2985984 := Nat.dvd_trans (by decide) (Nat.dvd_mul_left 2985984 W)
  have hg : 144 ≤ Nat.gcd least (W * 2985984) := Nat.le_of_dvd g0 (Nat.dvd_gcd t2 d144)
  have hgle : Nat.gcd least (W * 2985984) ≤ W * 2985984 := Nat.le_of_dvd hpos (Nat.gcd_dvd_right _ _)
  generalize Nat.gcd least (W * 2985984) = g at *
  refine ⟨g0, g1, g2, g3, ?_, ?_, Nat.le_trans hgle (Nat.mul_le_mul_right _ t4)⟩
  · have : least / g ≤ least / 144 := Nat.div_le_div_left hg (by omega)
    omega
  · have : W * 2985984 / g ≤ W * 2985984 / 144 := Nat.div_le_div_left hg (by omega)
    omega
theorem cmp_iff {I S L' W C g gb i' s' l' w' : Nat} (hC : 0 < C) (hg : 0 < g) (hgb : 0 < gb) (e1 : I = gb * i') (e2 : S * C = gb * s') (e3 : L' = g * l') (e4 : W * C = g * w') : i' * w' < l' * s' ↔ I * W < L' * S := by
  have h1 : (gb * g) * (i' * w') = (I * W) * C := by
    rw [e1, Nat.mul_assoc (gb * i'), e4, Nat.mul_mul_mul_comm]
  have h2 : (gb * g) * (l' * s') = (L' * S) * C := by
    rw [e3, Nat.mul_assoc (g * l'), e2, Nat.mul_mul_mul_comm g l' gb s', Nat.mul_comm g gb]
  have hgg : 0 < gb * g := Nat.mul_pos hgb hg
  constructor
  · intro h
    have := Nat.mul_lt_mul_of_pos_left h hgg
    rw [h1, h2] at this
    exact Nat.lt_of_mul_lt_mul_right this
  · intro h
    have := Nat.mul_lt_mul_of_pos_right h hC
    rw [← h1, ← h2] at this
    exact Nat.lt_of_mul_lt_mul_left this
theorem M_bl {A : Ab} (hA : Aok A) (a1 : Int32) : ∀ (f n b which least W : Nat) (w : Wd), b + f = 4 → f < n → okT least W → which < 4 → VM A w → ∃ w', f_X12_buy_b23 n a1 (nI which) (lN (least / Nat.gcd least (W * 2985984))) (lN (W * 2985984 / Nat.gcd least (W * 2985984))) (nI b) w = (if a1 = 2 then some (Int32.toInt64 (nI (bl A f b which least W).1), w') else some (low (lN (bl A f b which least W).2.1) ((bl A f b which least W).2.2 * 2985984) a1, w')) ∧ eqo scr w w'
  | 0, 0, _, _, _, _, _, _, h, _, _, _ => absurd h (by omega)
  | 0, n + 1, b, which, least, W, w, hb, _, hT, _, _ => by
    obtain ⟨g0, g1, g2, g3, g4, g5, g6⟩ := gd hA hT
    obtain ⟨t1, t2, t3, t4⟩ := hT
    refine ⟨w, ?_, eqo_rf w⟩
    show f_X12_buy_b23_y (f_X12_buy_b23 n) a1 (nI which) _ _ (nI b) w = if a1 = 2 then some (Int32.toInt64 (nI which), w) else some (low (lN least) (W * 2985984) a1, w)
    generalize hgg : Nat.gcd least (W * 2985984) = g at *
    generalize hl' : least / g = l' at *
    generalize hw' : W * 2985984 / g = w' at *
    unfold f_X12_buy_b23_y
    have hlow : low (lN least) (W * 2985984) a1 = low (lN l') w' a1 := by
      have hlt : g * w' < 2 ^ 63 := by rw [← g2]; omega
      rw [g2]
      refine low_sc g0 g3 hlt ?_
      rw [pk_lT (by omega), pk_lT (by omega), g1, Int.natCast_mul]
    rw [if_pos (by rw [show (4 : Int32) = nI 4 from rfl, nI_leI (by omega) (by omega)]; omega), asPart_low (lN_t (by omega)) g3 (by omega), bR_s, hlow]
  | f + 1, 0, _, _, _, _, _, _, h, _, _, _ => absurd h (by omega)
  | f + 1, n + 1, b, which, least, W, w, hb, hn, hT, hw, hV => by
    have hb4 : b < 4 := by omega
    have hib := bI_b hA hb4
    have hsb := bS_b hA hb4
    obtain ⟨w1, p1, p2⟩ := M_one hV hb4 a1 (nI which) (lN (least / Nat.gcd least (W * 2985984))) (lN (W * 2985984 / Nat.gcd least (W * 2985984))) n
    have hV1 := VM_s hV p2
    obtain ⟨g0, g1, g2, g3, g4, g5, g6⟩ := gd hA hT
    obtain ⟨k0, k1, k2, k3, k4, k5, k6⟩ := gd hA (least := bI A b) (W := bS A b) ⟨hib.1, hib.2, hsb⟩
    have IH1 := M_bl hA a1 f n (b + 1) b (bI A b) (bS A b) w1 (by omega) (by omega) ⟨hib.1, hib.2, hsb⟩ hb4 hV1
    have IH2 := M_bl hA a1 f n (b + 1) which least W w1 (by omega) (by omega) hT hw hV1
    have ci := cmp_iff (I := bI A b) (S := bS A b) (L' := least) (W := W) (C := 2985984) (by omega) g0 k0 k1 k2 g1 g2
    rw [p1]
    unfold bl
    have tw := nI_toInt (n := which) (by omega)
    rw [if_neg (by rw [fa_lt, tw, ti_0]; omega)]
    have kz : ¬ lN (Nat.gcd (bI A b) (bS A b * 2985984)) = 0 := fun z => by
      have := (lN_z (by omega)).mp z
      omega
    unfold f_X12_buy_b102 f_X12_buy_b118
    rw [dvL_d kz, dvL_d kz, dvL_d kz, dvL_d kz, pk_lDiv (by omega) k0 (by omega), pk_lDiv (by omega) k0 (by omega), lN_mul, lN_mul, nI_1]
    have b1 : bI A b / Nat.gcd (bI A b) (bS A b * 2985984) * (W * 2985984 / Nat.gcd least (W * 2985984)) ≤ 1200000000 * 746496 := Nat.mul_le_mul k4 g5
    have b2 : least / Nat.gcd least (W * 2985984) * (bS A b * 2985984 / Nat.gcd (bI A b) (bS A b * 2985984)) ≤ 1200000000 * 746496 := Nat.mul_le_mul g4 k5
    have iffc := pk_lLT (a := bI A b / Nat.gcd (bI A b) (bS A b * 2985984) * (W * 2985984 / Nat.gcd least (W * 2985984))) (b := least / Nat.gcd least (W * 2985984) * (bS A b * 2985984 / Nat.gcd (bI A b) (bS A b * 2985984))) (by omega) (by omega)
    by_cases c : bI A b * W < least * bS A b
    · rw [if_pos (iffc.mpr (ci.mpr c)), if_pos c]
      obtain ⟨w2, q1, q2⟩ := IH1
      exact ⟨w2, q1, eqo_tr p2 q2⟩
    · rw [if_neg (fun q => c (ci.mp (iffc.mp q))), if_neg c]
      obtain ⟨w2, q1, q2⟩ := IH2
      exact ⟨w2, q1, eqo_tr p2 q2⟩
theorem T_buy {A : Ab} {w : Wd} (hX : VX A w) (hM : VM A w) (a1 : Int32) : ∃ r w1 w2, f_X11_buy a1 w = some (r, w1) ∧ f_X12_buy a1 w1 = some (r, w2) ∧ eqo scr w w2 := by
  have hA := hX.1
  have t0 : (0 : Int32).toInt = 0 := rfl
  have t2 : (2 : Int32).toInt = 2 := rfl
  by_cases h : inb a1 3
  · have h' := h
    unfold inb at h'
    obtain ⟨w1, p1, p2, p3, p4⟩ := X_tell hX
    obtain ⟨w2, q1, _, q3, q4, q5, q6⟩ := X_for (b := 0) (m := 2) p3 p2 (by omega) (by omega)
    have q1' : f_X11_leastFor 0 2 w1 = some (lN (PLv A 2 0 (p0 A 0)).1, w2) := q1
    have hg4 : f_X6_get 0 4 w2 = some (nI (A.nv 4 0)) := VX_get (q := 4) (r := 0) q5 (okb (by omega) (by omega)) (by omega)
    have hal' : f_X1_all 19 0 w2 = some (lN (bS A 0)) := X_all (c0 := 19) (d := 0) (by omega) q3
    have hah' : f_X1_allAhead 19 2 w2 = some (lN (bS A 0 * 2985984)) := X_ahead (c0 := 19) (d := 2) (by omega) q3
    have n4 := nv4 hA (b := 0) (by omega)
    have hib := bI_b hA (b := 0) (by omega)
    have hsb := bS_b hA (b := 0) (by omega)
    have hT : okT (bI A 0) (bS A 0) := ⟨hib.1, hib.2, hsb⟩
    have eI : (PLv A 2 0 (p0 A 0)).1 + A.nv 4 0 * (bS A 0 * 2985984) = bI A 0 := rfl
    have hs2 := eqo_tr p4 q6
    obtain ⟨w3, r1, r2⟩ := X_bl a1 3 299 1 0 (bI A 0) (bS A 0) w2 (by omega) (by omega) (by omega) hT q5 q4
    have hs3 := eqo_tr hs2 r2
    have X1 : f_X11_buy a1 w = f_X11_buy_b27 299 a1 (nI 0) (lN (bI A 0)) (lN (bS A 0)) (nI 1) w2 := by
      unfold f_X11_buy
      rw [if_neg (by rw [fa_lt]; omega), if_pos (by rw [fa_le]; omega), p1, bV_s]
      show f_X11_buy_b27_y (f_X11_buy_b27 299) a1 0 0 1 0 w1 = _
      unfold f_X11_buy_b27_y f_X11_buy_b101 f_X11_buy_b111
      rw [if_neg (by decide), q1', bW_s, hal', bR_s, hg4, bR_s, hah', bR_s, lt_d, nI_l (by omega), lN_mul, lN_add, eI, if_pos rfl]
      rfl
    have hM3 := VM_s hM hs3
    obtain ⟨w4, s1, s2⟩ := M_one hM3 (b := 0) (by omega) a1 (-1) 0 1 299
    obtain ⟨k0, k1, k2, k3, k4, k5, k6⟩ := gd hA hT
    have kz : ¬ lN (Nat.gcd (bI A 0) (bS A 0 * 2985984)) = 0 := fun z => by
      have := (lN_z (by omega)).mp z
      omega
    obtain ⟨w5, u1, u2⟩ := M_bl hA a1 3 299 1 0 (bI A 0) (bS A 0) w4 (by omega) (by omega) hT (by omega) (VM_s hM3 s2)
    have M1 : f_X12_buy a1 w3 = f_X12_buy_b23 299 a1 (nI 0) (lN (bI A 0 / Nat.gcd (bI A 0) (bS A 0 * 2985984))) (lN (bS A 0 * 2985984 / Nat.gcd (bI A 0) (bS A 0 * 2985984))) (nI 1) w4 := by
      unfold f_X12_buy
      rw [M_in, bR_s, ite_b2i, if_pos (by omega)]
      refine Eq.trans s1 ?_
      rw [if_pos (by decide)]
      unfold f_X12_buy_b102 f_X12_buy_b118
      rw [dvL_d kz, dvL_d kz, pk_lDiv (by omega) k0 (by omega), pk_lDiv (by omega) k0 (by omega)]
      rfl
    rw [r1] at X1
    rw [u1] at M1
    by_cases z : a1 = 2
    · rw [if_pos z] at X1 M1
      exact ⟨_, _, _, X1, M1, eqo_tr hs3 (eqo_tr s2 u2)⟩
    · rw [if_neg z] at X1 M1
      exact ⟨_, _, _, X1, M1, eqo_tr hs3 (eqo_tr s2 u2)⟩
  · unfold inb at h
    refine ⟨NONE, w, w, ?_, ?_, eqo_rf w⟩
    · unfold f_X11_buy
      by_cases c1 : a1 < 0
      · rw [if_pos c1]
      · rw [if_neg c1, if_neg]
        intro c2
        rw [fa_lt] at c1
        rw [fa_le] at c2
        omega
    · unfold f_X12_buy
      rw [M_in, bR_s, ite_b2i, if_neg (by omega)]
