/-! LOOKS IN THOUGHT: worth, next -/
theorem lN_o (n : Nat) : lN n = Int64.ofInt n := (Int64.ofInt_eq_ofNat ..).symm
theorem lN_subI (a b : Nat) : lN a - lN b = Int64.ofInt ((a : Int) - b) := by rw [lN_o, lN_o, Int64.ofInt_sub]
theorem oL_b {z : Int} (h1 : -9223372036854775808 ≤ z) (h2 : z < 9223372036854775808) : (Int64.ofInt z).toInt = z := Int64.toInt_ofInt_of_le (by omega) (by omega)
theorem low_sc {g b' : Nat} {x x' : Int64} {p : Int32} (hg : 0 < g) (hb' : 0 < b') (hb : g * b' < 2 ^ 63) (hx : x.toInt = g * x'.toInt) : low x (g * b') p = low x' b' p := by
  unfold low lowE
  have e1 : Nat.gcd x.toInt.natAbs (g * b') = g * Nat.gcd x'.toInt.natAbs b' := by
    rw [hx, Int.natAbs_mul, Int.natAbs_natCast, Nat.gcd_mul_left]
  rw [e1]
  generalize hk : Nat.gcd x'.toInt.natAbs b' = k
  have hk0 : 0 < k := by rw [← hk]; exact Nat.gcd_pos_of_pos_right _ hb'
  have hkb : k ≤ b' := by rw [← hk]; exact Nat.le_of_dvd hb' (Nat.gcd_dvd_right _ _)
  have hgk : g * k ≤ g * b' := Nat.mul_le_mul_left g hkb
  have hb2 : b' ≤ g * b' := Nat.le_mul_of_pos_left b' hg
  have hgi : (0 : Int) < (g : Int) := by omega
  by_cases hp : p = 0
  · rw [if_pos hp, if_pos hp]
    apply Int64.toInt_inj.mp
    rw [Int64.toInt_div, Int64.toInt_div, pk_lT (by omega), pk_lT (by omega), hx, Int.natCast_mul, Int.mul_tdiv_mul_of_pos _ _ hgi]
  · rw [if_neg hp, if_neg hp, pk_lDiv hb (Nat.mul_pos hg hk0) (by omega), pk_lDiv (by omega) hk0 (by omega), Nat.mul_div_mul_left _ _ hg]
def shr (A : Ab) (who m : Nat) : Nat := if who = 6 then A.nv 11 0 else twv A who (nI m) (thk A)
def cst (A : Ab) (who : Nat) : Nat := if who = 6 then 1 else A.nv 6 who
def gnI (A : Ab) (who m sto sum : Nat) : Int := ((A.nv 10 0 * shr A who m * sto : Nat) : Int) - ((12 * cst A who * sum : Nat) : Int)
theorem nv10 {A : Ab} (h : Aok A) : A.nv 10 0 ≤ 999 := h.2.1 10 0 (ok0 (by omega) (by omega))
theorem shr_le {A : Ab} (h : Aok A) (who m : Nat) : shr A who m ≤ 12 := by
  unfold shr
  by_cases z : who = 6
  · rw [if_pos z]; exact h.2.1 11 0 (ok0 (by omega) (by omega))
  · rw [if_neg z]; exact (tw_I A who (nI m) (thk A)).2
theorem cst_le {A : Ab} (h : Aok A) {who : Nat} (hw : who ≤ 6) : cst A who ≤ 99 := by
  unfold cst
  by_cases z : who = 6
  · rw [if_pos z]; omega
  · rw [if_neg z]; exact h.2.1 6 who (okL (Or.inr rfl) (by omega))
theorem X_gain {A : Ab} {who m : Nat} {p : Nat → Nat} {w : Wd} (hX : VX A w) (hm : m ≤ 4) (hw : who = 6 ∨ who < A.L) (hP : PT 17 m p w) : ∃ w', f_X11_gain (nI who) (nI m) w = some (Int64.ofInt (gnI A who m (stoN p) (sumN p)), w') ∧ eqo sEY w w' := by
  have h6 := hX.1.1
  have n10 := nv10 hX.1
  have hsh := shr_le hX.1 who m
  have hc := cst_le hX.1 (who := who) (by omega)
  have hts : A.nv 10 0 * shr A who m ≤ 999 * 12 := Nat.mul_le_mul n10 hsh
  have b46 : ∀ w', VX A w' → PT 17 m p w' → f_X11_gain_b46 (nI m) (nI (shr A who m)) (nI (cst A who)) w' = some (Int64.ofInt (gnI A who m (stoN p) (sumN p)), w') := by
    intro w' hV hP'
    unfold f_X11_gain_b46
    rw [VX_10 hV, bR_s, X_stones (c0 := 16) hm hP', bR_s, X_all (c0 := 16) hm hP', bR_s, pk_mul, nI_l (by omega), show (12 : Int32) = nI 12 from rfl, pk_mul, nI_l (by omega), lN_mul, lN_mul, lN_subI]
    rfl
  unfold f_X11_gain f_X11_gain_b25
  by_cases z : who = 6
  · subst z
    have b := b46 w hX hP
    unfold shr cst at b
    rw [if_pos rfl, if_pos rfl] at b
    rw [if_pos (show nI 6 = (6 : Int32) from rfl), VX_11 hX, bR_s, if_pos (show nI 6 = (6 : Int32) from rfl)]
    exact ⟨w, b, eqo_rf w⟩
  · have hl : who < A.L := by omega
    have nz : ¬ nI who = (6 : Int32) := by rw [show (6 : Int32) = nI 6 from rfl, nI_eq (by omega) (by omega)]; exact z
    obtain ⟨w1, p1, p2⟩ := X_tw hX hl (nI m)
    have hX1 := VX_s hX (eqo_mono p2 sEY_s)
    have b := b46 w1 hX1 (eqo_PT hP p2 (fun _ _ => rfl))
    unfold shr cst at b
    rw [if_neg z, if_neg z] at b
    rw [if_neg nz, p1, bW_s, if_neg nz, VX_6 hX1 hl, bR_s]
    exact ⟨w1, b, p2⟩
theorem M_fw {A : Ab} {who m : Nat} {p : Nat → Nat} {w : Wd} (hM : VM A w) (hm : m ≤ 4) (hw : who = 6 ∨ who < A.L) (hP : PT 71 m p w) (h0 : 0 < sumN p) (hb1 : sumN p < 2 ^ 63) (hb2 : stoN p < 2 ^ 63) : ∃ w', f_X12_findWorth (nI m) (nI who) w = some w' ∧ gl w' 54 32 = Int64.ofInt (gnI A who m (stoN p / Nat.gcd (stoN p) (sumN p)) (sumN p / Nat.gcd (stoN p) (sumN p))) ∧ gl w' 54 33 = lN (12 * (sumN p / Nat.gcd (stoN p) (sumN p))) ∧ PT 71 m p w' ∧ eqo scr w w' := by
  have h6 := hM.1.1
  have hg0 : 0 < Nat.gcd (stoN p) (sumN p) := Nat.gcd_pos_of_pos_right _ h0
  have hg1 : Nat.gcd (stoN p) (sumN p) < 2 ^ 63 := Nat.lt_of_le_of_lt (Nat.le_of_dvd h0 (Nat.gcd_dvd_right _ _)) hb1
  have hgz : ¬ lN (Nat.gcd (stoN p) (sumN p)) = 0 := fun z => by
    have := (lN_z hg1).mp z
    omega
  have hsh := shr_le hM.1 who m
  have hc := cst_le hM.1 (who := who) (by omega)
  have n10 := nv10 hM.1
  have b40 : ∀ w', VM A w' → PT 71 m p w' → ∃ w'', f_X12_findWorth_b40 (nI m) (nI (shr A who m)) (nI (cst A who)) w' = some w'' ∧ gl w'' 54 32 = Int64.ofInt (gnI A who m (stoN p / Nat.gcd (stoN p) (sumN p)) (sumN p / Nat.gcd (stoN p) (sumN p))) ∧ gl w'' 54 33 = lN (12 * (sumN p / Nat.gcd (stoN p) (sumN p))) ∧ PT 71 m p w'' ∧ eqo scr w' w'' := by
    intro w' hV hP'
    have g10 : gi w' 54 9 = nI (A.nv 10 0) := hV.2.2.1 10 0 (ok0 (by omega) (by omega))
    unfold f_X12_findWorth_b40
    rw [M_stones (by omega) hP', bR_s, M_all (by omega) hP', bR_s, asBy_gcd hb2 hb1, bR_s, dvL_d hgz, dvL_d hgz, pk_lDiv hb2 hg0 hg1, pk_lDiv hb1 hg0 hg1, g10, stL_d, dvL_d hgz, stL_d, nI_l (by omega), nI_l (by omega), nI_l (by omega), lN_mul, lN_mul, lN_mul, show (12 : Int64) = lN 12 from rfl, lN_mul, lN_subI, pk_lDiv hb1 hg0 hg1, lN_mul]
    refine ⟨_, rfl, ?_, ?_, fun j hj => ?_, eqo_sl (eqo_sl (eqo_rf w') rfl) rfl⟩
    · rw [gl_sl_n (by omega), gl_sl_s]
      unfold gnI
      generalize stoN p / Nat.gcd (stoN p) (sumN p) = x
      generalize sumN p / Nat.gcd (stoN p) (sumN p) = y
      rw [show A.nv 10 0 * x * shr A who m = A.nv 10 0 * shr A who m * x by rw [Nat.mul_assoc, Nat.mul_comm x, Nat.mul_assoc], show cst A who * y * 12 = 12 * cst A who * y by rw [Nat.mul_comm _ 12, Nat.mul_assoc]]
    · rw [gl_sl_s, Nat.mul_comm]
    · rw [gl_sl_n (by omega), gl_sl_n (by omega)]; exact hP' j hj
  unfold f_X12_findWorth f_X12_findWorth_b23
  by_cases z : who = 6
  · subst z
    have g11 : gi w 54 10 = nI (A.nv 11 0) := hM.2.2.1 11 0 (ok0 (by omega) (by omega))
    have b := b40 w hM hP
    unfold shr cst at b
    rw [if_pos rfl, if_pos rfl] at b
    rw [if_pos (show nI 6 = (6 : Int32) from rfl), g11, if_pos (show nI 6 = (6 : Int32) from rfl)]
    exact b
  · have hl : who < A.L := by omega
    have nz : ¬ nI who = (6 : Int32) := by rw [show (6 : Int32) = nI 6 from rfl, nI_eq (by omega) (by omega)]; exact z
    have g9 : gi w 54 8 = thk A := hM.2.2.1 9 0 ok9
    obtain ⟨w1, p1, p2⟩ := M_tw hM hl (nI m) (thk A)
    have hs1 := eqo_mono p2 sEZ_s
    have hM1 := VM_s hM hs1
    have g6 : gi w1 58 who = nI (A.nv 6 who) := hM1.2.2.1 6 who (okL (Or.inr rfl) (by omega))
    obtain ⟨w2, b1, b2, b3, b4, b5⟩ := b40 w1 hM1 (eqo_PT hP p2 (fun _ _ => rfl))
    unfold shr cst at b1
    rw [if_neg z, if_neg z] at b1
    rw [if_neg nz, g9, p1, bW_s, if_neg nz, ldI_d (inb_nI (by omega) (by omega)), ix_nI (by omega), g6]
    exact ⟨w2, b1, b2, b3, b4, eqo_tr hs1 b5⟩
theorem gnI_g {A : Ab} {who m sto sum g : Nat} : gnI A who m (g * sto) (g * sum) = g * gnI A who m sto sum := by
  unfold gnI
  rw [Int.mul_sub, ← Int.natCast_mul, ← Int.natCast_mul]
  rw [show A.nv 10 0 * shr A who m * (g * sto) = g * (A.nv 10 0 * shr A who m * sto) by rw [Nat.mul_left_comm], show 12 * cst A who * (g * sum) = g * (12 * cst A who * sum) by rw [Nat.mul_left_comm]]
theorem gnI_b {A : Ab} (h : Aok A) {who m sto sum : Nat} (hw : who ≤ 6) (h1 : sto ≤ 54 * 8916100448256) (h2 : sum ≤ 36 * 8916100448256) : -9223372036854775808 < gnI A who m sto sum ∧ gnI A who m sto sum < 9223372036854775808 := by
  have hsh := shr_le h who m
  have hc := cst_le h hw
  have n10 := nv10 h
  have e1 : A.nv 10 0 * shr A who m * sto ≤ 999 * 12 * (54 * 8916100448256) := Nat.mul_le_mul (Nat.mul_le_mul n10 hsh) h1
  have e2 : 12 * cst A who * sum ≤ 12 * 99 * (36 * 8916100448256) := Nat.mul_le_mul (Nat.mul_le_mul_left 12 hc) h2
  unfold gnI
  omega
theorem gcd_split {a b : Nat} (h : 0 < b) : 0 < Nat.gcd a b ∧ a = Nat.gcd a b * (a / Nat.gcd a b) ∧ b = Nat.gcd a b * (b / Nat.gcd a b) ∧ 0 < b / Nat.gcd a b := by
  have h0 : 0 < Nat.gcd a b := Nat.gcd_pos_of_pos_right _ h
  refine ⟨h0, (Nat.mul_div_cancel' (Nat.gcd_dvd_left a b)).symm, (Nat.mul_div_cancel' (Nat.gcd_dvd_right a b)).symm, Nat.div_pos (Nat.le_of_dvd h (Nat.gcd_dvd_right a b)) h0⟩
theorem T_worth {A : Ab} {nb : Nat} {w : Wd} (hX : VX A w) (hM : VM A w) (hS : SR nb w) (a1 a2 a3 : Int32) : ∃ r w1 w2, f_X11_worth a1 a2 a3 w = some (r, w1) ∧ f_X12_worth a1 a2 a3 w1 = some (r, w2) ∧ eqo scr w w2 := by
  have h6 := hX.1.1
  by_cases hneg : a2 < 0
  · refine ⟨NONE, w, w, ?_, ?_, eqo_rf w⟩
    · unfold f_X11_worth; rw [if_pos hneg]
    · unfold f_X12_worth
      rw [M_isShelf, bR_s, ite_b2i]
      by_cases c1 : inb a1 6
      · rw [if_pos c1, if_pos hneg]
      · rw [if_neg c1]
  obtain ⟨n, hn, rfl⟩ := nI_of hneg
  have ed : nI n / 10 = nI (n / 10) := by rw [show (10 : Int32) = nI 10 from rfl, pk_div hn (by omega) (by omega)]
  have er : ire (nI n) 10 = nI (n % 10) := by unfold ire; rw [show (10 : Int32) = nI 10 from rfl, pk_rem hn (by omega) (by omega)]
  have iff6 : (nI (n % 10) = (6 : Int32)) ↔ n % 10 = 6 := by rw [show (6 : Int32) = nI 6 from rfl, nI_eq (by omega) (by omega)]
  have iffL : inb (nI (n % 10)) A.L ↔ n % 10 < A.L := by
    have t := nI_toInt (n := n % 10) (by omega)
    unfold inb
    rw [t]
    omega
  by_cases h12 : inb a1 6 ∧ inb (nI (n / 10)) 4
  · obtain ⟨h1, h2⟩ := h12
    obtain ⟨s, hs, rfl⟩ := of_inb h1
    have hb : n / 10 < 4 := by
      have t := nI_toInt (n := n / 10) (by omega)
      have := h2.2
      rw [t] at this
      omega
    rcases shelf_or hS hs with ⟨sz, e, hRX, hRM, hB, _, hRF⟩ | ⟨r, hr, hB, _, hRF⟩
    · by_cases h34 : inb a3 2 ∧ (n % 10 = 6 ∨ n % 10 < A.L)
      · obtain ⟨h3, h4⟩ := h34
        obtain ⟨w1, p1, p2, p3, p4⟩ := X_think hX hs hb hRX
        have hmle := (lkn_le (L := A.L) (n := sz) (e := e) (any := false) 4 0).2.1
        have hX1 := VX_s hX p4
        have MG := fun w' (hV : VM A w') (hR : RM s sz e w') => M_goLooks (b := n / 10) hV hs hb hR
        generalize hm : lkn A.L sz e false 4 0 = m at p1 p2 MG hmle
        obtain ⟨b1, b2, b3⟩ := lad_b hX.1 (e := e) hb (d := m) (by omega)
        have ez : (lN (sumN (lad A e (n / 10) m)) = 0) ↔ sumN (lad A e (n / 10) m) = 0 := lN_z (by omega)
        obtain ⟨w2, q1, q2⟩ := X_gain hX1 (by omega) h4 p2
        have hs2 := eqo_tr p4 (eqo_mono q2 sEY_s)
        have X56 : f_X11_worth (nI s) (nI n) a3 w = f_X11_worth_b56 (nI s) (nI n) a3 (nI (n % 10)) w := by
          unfold f_X11_worth
          rw [if_neg hneg, ed, X_tb hs h2 (Or.inr rfl) hB, bR_s, if_neg (by decide), X_isPart, bR_s, ite_b2i, if_pos h3, lt_d, er]
          by_cases z : n % 10 = 6
          · rw [if_pos (iff6.mpr z)]
          · rw [if_neg (fun q => z (iff6.mp q)), X_isLooker hX.2.1 h6, bR_s, ite_b2i, if_pos (iffL.mpr (by omega))]
        have M41 : ∀ w', VM A w' → f_X12_worth (nI s) (nI n) a3 w' = f_X12_worth_b41 (nI s) (nI n) a3 w' := by
          intro w' hV
          unfold f_X12_worth
          rw [M_isShelf, bR_s, ite_b2i, if_pos h1, if_neg hneg, ed, M_isBag, bR_s, ite_b2i, if_pos h2, er]
          by_cases z : n % 10 = 6
          · rw [if_pos (iff6.mpr z)]
          · rw [if_neg (fun q => z (iff6.mp q)), M_isLooker hV.2.1 h6, bR_s, ite_b2i, if_pos (iffL.mpr (by omega))]
        by_cases z : sumN (lad A e (n / 10) m) = 0
        · obtain ⟨w3, r1, r2, r3⟩ := MG w1 (VM_s hM p4) (RM_s hRM p4)
          refine ⟨-2, w1, w3, ?_, ?_, eqo_tr p4 r3⟩
          · rw [X56]
            unfold f_X11_worth_b56
            rw [ed, p1, bW_s, X_all (c0 := 16) (by omega) p2, bR_s, if_pos (ez.mpr z)]
          · rw [M41 w1 (VM_s hM p4)]
            unfold f_X12_worth_b41
            rw [M_isPart, bR_s, ite_b2i, if_pos h3, hRF w1 (RM_s hRM p4), bR_s, if_pos (by decide), ed, r1, bW_s, M_all (by omega) r2, bR_s, if_pos (ez.mpr z)]
        · obtain ⟨w3, r1, r2, r3⟩ := MG w2 (VM_s hM hs2) (RM_s hRM hs2)
          obtain ⟨w4, s1, s2, s3, s4, s5⟩ := M_fw (who := n % 10) (VM_s hM (eqo_tr hs2 r3)) (by omega) h4 r2 (by omega) (by omega) (by omega)
          refine ⟨low (Int64.ofInt (gnI A (n % 10) m (stoN (lad A e (n / 10) m)) (sumN (lad A e (n / 10) m)))) (12 * sumN (lad A e (n / 10) m)) a3, w2, w4, ?_, ?_, eqo_tr hs2 (eqo_tr r3 s5)⟩
          · rw [X56]
            unfold f_X11_worth_b56
            have gb := gnI_b hX.1 (m := m) (who := n % 10) (by omega) b3 b2
            rw [ed, p1, bW_s, X_all (c0 := 16) (by omega) p2, bR_s, if_neg (fun q => z (ez.mp q)), q1, bW_s, show (12 : Int64) = lN 12 from rfl, lN_mul, inLowest_low (by rw [oL_b (by omega) (by omega)]; omega) (by omega) (by omega), bR_s]
          · rw [M41 w2 (VM_s hM hs2)]
            unfold f_X12_worth_b41
            rw [M_isPart, bR_s, ite_b2i, if_pos h3, hRF w2 (RM_s hRM hs2), bR_s, if_pos (by decide), ed, r1, bW_s, M_all (by omega) r2, bR_s, if_neg (fun q => z (ez.mp q)), er, s1, bV_s, s2, s3]
            obtain ⟨g0, g1, g2, g3⟩ := gcd_split (a := stoN (lad A e (n / 10) m)) (b := sumN (lad A e (n / 10) m)) (by omega)
            generalize hst : stoN (lad A e (n / 10) m) = st at *
            generalize hsu : sumN (lad A e (n / 10) m) = su at *
            generalize hgg : Nat.gcd st su = g at *
            generalize hst' : st / g = st' at *
            generalize hsu' : su / g = su' at *
            have gs1 : st' ≤ st := by rw [g1]; exact Nat.le_mul_of_pos_left _ g0
            have gs2 : su' ≤ su := by rw [g2]; exact Nat.le_mul_of_pos_left _ g0
            have gb := gnI_b hX.1 (m := m) (who := n % 10) (by omega) b3 b2
            have gb' := gnI_b hX.1 (m := m) (who := n % 10) (sto := st') (sum := su') (by omega) (by omega) (by omega)
            rw [asPart_low (by rw [oL_b (by omega) (by omega)]; omega) (by omega) (by omega), bR_s]
            have e12 : 12 * su = g * (12 * su') := by rw [g2, Nat.mul_left_comm]
            rw [e12, low_sc g0 (by omega) (by omega) (x' := Int64.ofInt (gnI A (n % 10) m st' su')) ?_]
            rw [oL_b (by omega) (by omega), oL_b (by omega) (by omega), ← gnI_g, ← g1, ← g2]
      · refine ⟨NONE, w, w, ?_, ?_, eqo_rf w⟩
        · unfold f_X11_worth
          rw [if_neg hneg, ed, X_tb hs h2 (Or.inr rfl) hB, bR_s, if_neg (by decide), X_isPart, bR_s, ite_b2i]
          by_cases c3 : inb a3 2
          · rw [if_pos c3, lt_d, er, if_neg (fun q => h34 ⟨c3, Or.inl (iff6.mp q)⟩), X_isLooker hX.2.1 h6, bR_s, ite_b2i, if_neg (fun q => h34 ⟨c3, Or.inr (iffL.mp q)⟩)]
          · rw [if_neg c3]
        · unfold f_X12_worth f_X12_worth_b41
          rw [M_isShelf, bR_s, ite_b2i, if_pos h1, if_neg hneg, ed, M_isBag, bR_s, ite_b2i, if_pos h2, er, M_isLooker hM.2.1 h6, bR_s, ite_b2i, M_isPart, bR_s, ite_b2i]
          by_cases c3 : inb a3 2
          · rw [if_neg (fun q => h34 ⟨c3, Or.inl (iff6.mp q)⟩), if_neg (fun q => h34 ⟨c3, Or.inr (iffL.mp q)⟩)]
          · rw [if_neg c3]
            by_cases z : n % 10 = 6
            · rw [if_pos (iff6.mpr z)]
            · rw [if_neg (fun q => z (iff6.mp q))]
              by_cases zl : inb (nI (n % 10)) A.L
              · rw [if_pos zl]
              · rw [if_neg zl]
    · refine ⟨NONE, w, w, ?_, ?_, eqo_rf w⟩
      · unfold f_X11_worth
        rw [if_neg hneg, ed, X_tb hs h2 (Or.inl rfl) hB, bR_s, if_pos rfl]
      · unfold f_X12_worth f_X12_worth_b41
        rw [M_isShelf, bR_s, ite_b2i, if_pos h1, if_neg hneg, ed, M_isBag, bR_s, ite_b2i, if_pos h2, er, M_isLooker hM.2.1 h6, bR_s, ite_b2i, M_isPart, bR_s, ite_b2i, hRF, bR_s]
        rw [if_neg (show ¬ (0 : Int32) ≤ r by rcases hr with q | q <;> subst q <;> decide)]
        repeat' split
        all_goals rfl
  · refine ⟨NONE, w, w, ?_, ?_, eqo_rf w⟩
    · unfold f_X11_worth
      rw [if_neg hneg, ed, X_tn h12, bR_s, if_pos rfl]
    · unfold f_X12_worth
      rw [M_isShelf, bR_s, ite_b2i]
      by_cases c1 : inb a1 6
      · rw [if_pos c1, if_neg hneg, ed, M_isBag, bR_s, ite_b2i, if_neg (fun z => h12 ⟨c1, z⟩)]
      · rw [if_neg c1]
