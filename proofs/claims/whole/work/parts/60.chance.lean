/-! CHANCES: weights behind looks, on both sides -/
def chs (j f : Nat) : Nat := if f = 0 ∨ f = j then 1 else if j = 2 then 2 else 3
def stepN (p : Nat → Nat) (sh f j : Nat) : Nat := if j + f ≤ 3 then p (j + f) * (chs (j + f) f * sh ^ f * (12 - sh) ^ j) * 12 ^ (3 - (j + f)) else 0
def PT (c d : Nat) (p : Nat → Nat) (w : Wd) : Prop := ∀ j, j < 4 → gl w c (4 * d + j) = lN (p j)
def sPT (c d : Nat) (c' k : Nat) : Bool := c' == c && (decide (4 * d ≤ k) && decide (k < 4 * d + 4))
theorem eqo_PT {S : Nat → Nat → Bool} {c d : Nat} {p : Nat → Nat} {w w' : Wd} (h : PT c d p w) (he : eqo S w w') (hs : ∀ j, j < 4 → S c (4 * d + j) = false) : PT c d p w' := fun j hj => by rw [(he c _ (hs j hj)).2]; exact h j hj
theorem X_powL {b : Nat} (hb : b < 2 ^ 31) {e : Nat} (he : e < 2 ^ 31) : ∀ (m n i v : Nat), i + m = e → m < n → f_X1_power_b5 n (nI b) (nI e) (lN v) (nI i) = some (lN (v * b ^ m))
  | 0, 0, _, _, _, h => absurd h (by omega)
  | 0, n + 1, i, v, hi, _ => by
    show f_X1_power_b5_y (f_X1_power_b5 n) (nI b) (nI e) (lN v) (nI i) = _
    unfold f_X1_power_b5_y
    rw [if_pos (by rw [nI_leI (by omega) (by omega)]; omega), Nat.pow_zero, Nat.mul_one]
  | m + 1, 0, _, _, _, h => absurd h (by omega)
  | m + 1, n + 1, i, v, hi, hn => by
    show f_X1_power_b5_y (f_X1_power_b5 n) (nI b) (nI e) (lN v) (nI i) = _
    unfold f_X1_power_b5_y
    rw [if_neg (by rw [nI_leI (by omega) (by omega)]; omega), lt_d, nI_l hb, lN_mul, nI_1, X_powL hb he m n (i + 1) (v * b) (by omega) (by omega)]
    rw [Nat.pow_succ, Nat.mul_assoc, Nat.mul_comm b]
theorem X_pow {b e : Nat} (hb : b < 2 ^ 31) (he : e < 300) : f_X1_power (nI b) (nI e) = some (lN (b ^ e)) := by
  unfold f_X1_power
  rw [show (1 : Int64) = lN 1 from rfl, show (0 : Int32) = nI 0 from rfl, X_powL hb (by omega) e fu 0 1 (by omega) (by show e < 300; exact he), Nat.one_mul]
theorem M_powL {b : Nat} {e : Nat} (he : e < 2 ^ 31) : ∀ (m n i v : Nat), i + m = e → m < n → f_X12_power_b5 n (lN b) (nI e) (lN v) (nI i) = some (lN (v * b ^ m))
  | 0, 0, _, _, _, h => absurd h (by omega)
  | 0, n + 1, i, v, hi, _ => by
    show f_X12_power_b5_y (f_X12_power_b5 n) (lN b) (nI e) (lN v) (nI i) = _
    unfold f_X12_power_b5_y
    rw [if_pos (by rw [nI_leI (by omega) (by omega)]; omega), Nat.pow_zero, Nat.mul_one]
  | m + 1, 0, _, _, _, h => absurd h (by omega)
  | m + 1, n + 1, i, v, hi, hn => by
    show f_X12_power_b5_y (f_X12_power_b5 n) (lN b) (nI e) (lN v) (nI i) = _
    unfold f_X12_power_b5_y
    rw [if_neg (by rw [nI_leI (by omega) (by omega)]; omega), lt_d, lN_mul, nI_1, M_powL he m n (i + 1) (v * b) (by omega) (by omega)]
    rw [Nat.pow_succ, Nat.mul_assoc, Nat.mul_comm b]
theorem M_pow {b e : Nat} (he : e < 300) : f_X12_power (lN b) (nI e) = some (lN (b ^ e)) := by
  unfold f_X12_power
  rw [show (1 : Int64) = lN 1 from rfl, show (0 : Int32) = nI 0 from rfl, M_powL (by omega) e fu 0 1 (by omega) (by show e < 300; exact he), Nat.one_mul]
theorem tb2_c : ∀ a, a < 4 → ∀ b, b < 4 → b ≤ a → tb2 (4 * a + b) = nI (chs a b) := by decide
theorem M_choose : ∀ a, a < 4 → ∀ b, b < 4 → b ≤ a → f_X12_choose (nI a) (nI b) = some (nI (chs a b)) := by decide
theorem chs_lt (a b : Nat) : chs a b ≤ 3 := by
  unfold chs
  repeat' split
  all_goals omega
theorem gl_sl_s (w : Wd) (c k : Nat) (v : Int64) : gl (sl w c k v) c k = v := by rw [gl_sl, if_pos ⟨rfl, rfl⟩]
theorem gl_sl_n {w : Wd} {c k a b : Nat} {v : Int64} (h : ¬ (a = c ∧ b = k)) : gl (sl w c k v) a b = gl w a b := by rw [gl_sl, if_neg h]
/-- four places are made 0 -/
def zz (c o : Nat) (w : Wd) : Wd := sl (sl (sl (sl w c o 0) c (o + 1) 0) c (o + 2) 0) c (o + 3) 0
theorem zz_eqo {c d : Nat} (w : Wd) : eqo (sPT c d) w (zz c (4 * d) w) := by
  unfold zz
  refine eqo_sl (eqo_sl (eqo_sl (eqo_sl (eqo_rf w) ?_) ?_) ?_) ?_ <;> simp [sPT] <;> omega
theorem zz_0 {c o j : Nat} (hj : j < 4) (w : Wd) : gl (zz c o w) c (o + j) = 0 := by
  unfold zz
  simp only [gl_sl]
  have : j = 0 ∨ j = 1 ∨ j = 2 ∨ j = 3 := by omega
  rcases this with z | z | z | z <;> subst z <;> simp
theorem X_step55 {c0 d sh f : Nat} {p : Nat → Nat} (hd : d < 4) (hsh : sh ≤ 12) (hf : f ≤ 3) : ∀ (m n i : Nat) (w : Wd), i + m + f = 4 → m < n → PT (c0 + 1) d p w → (∀ j, j < i → gl w (c0 + 1) (4 * (d + 1) + j) = lN (stepN p sh f j)) → (∀ j, i ≤ j → j < 4 → gl w (c0 + 1) (4 * (d + 1) + j) = 0) →
    ∃ w', f_X1_step_b55 n c0 (nI sh) (nI f) (nI (4 * d)) (nI (4 * (d + 1))) (nI i) w = some w' ∧ PT (c0 + 1) (d + 1) (stepN p sh f) w' ∧ eqo (sPT (c0 + 1) (d + 1)) w w'
  | 0, 0, _, _, _, h, _, _, _ => absurd h (by omega)
  | 0, n + 1, i, w, hi, _, hP, h1, h2 => by
    refine ⟨w, ?_, fun j hj => ?_, eqo_rf w⟩
    · show f_X1_step_b55_y (f_X1_step_b55 n) c0 (nI sh) (nI f) (nI (4 * d)) (nI (4 * (d + 1))) (nI i) w = _
      unfold f_X1_step_b55_y
      rw [nI_add, if_pos (by rw [show (4 : Int32) = nI 4 from rfl, nI_leI (by omega) (by omega)]; omega)]
    · by_cases c : j < i
      · exact h1 j c
      · rw [h2 j (by omega) hj]
        unfold stepN
        rw [if_neg (by omega)]
        rfl
  | m + 1, 0, _, _, _, h, _, _, _ => absurd h (by omega)
  | m + 1, n + 1, i, w, hi, hn, hP, h1, h2 => by
    have hv : gl w (c0 + 1) (4 * d + (i + f)) = lN (p (i + f)) := hP (i + f) (by omega)
    have hval : lN (p (i + f)) * (lN (chs (i + f) f) * lN (sh ^ f) * lN ((12 - sh) ^ i)) * lN (12 ^ (3 - (i + f))) = lN (stepN p sh f i) := by
      rw [lN_mul, lN_mul, lN_mul, lN_mul]
      unfold stepN
      rw [if_pos (by omega)]
    obtain ⟨w', r1, r2, r3⟩ := X_step55 hd hsh hf m n (i + 1) (sl w (c0 + 1) (4 * (d + 1) + i) (lN (stepN p sh f i))) (by omega) (by omega) (fun j hj => by rw [gl_sl_n (by omega)]; exact hP j hj) (fun j hj => by
      by_cases c : j = i
      · subst c; rw [gl_sl_s]
      · rw [gl_sl_n (by omega)]; exact h1 j (by omega)) (fun j hj hj4 => by rw [gl_sl_n (by omega)]; exact h2 j (by omega) hj4)
    refine ⟨w', ?_, r2, eqo_tr (eqo_sl (eqo_rf w) ?_) r3⟩
    · show f_X1_step_b55_y (f_X1_step_b55 n) c0 (nI sh) (nI f) (nI (4 * d)) (nI (4 * (d + 1))) (nI i) w = _
      unfold f_X1_step_b55_y
      have ea : (nI (i + f) * 4 + nI f : Int32) = nI (4 * (i + f) + f) := by
        rw [show (4 : Int32) = nI 4 from rfl, pk_mul, nI_add]
        exact congrArg nI (by omega)
      have e12 : (12 : Int32) - nI sh = nI (12 - sh) := by rw [show (12 : Int32) = nI 12 from rfl, pk_sub hsh]
      have e3 : (3 : Int32) - nI (i + f) = nI (3 - (i + f)) := by rw [show (3 : Int32) = nI 3 from rfl, pk_sub (by omega)]
      rw [nI_add, if_neg (by rw [show (4 : Int32) = nI 4 from rfl, nI_leI (by omega) (by omega)]; omega), lt_d, ea, ltI_d (inb_nI (by omega) (by omega)), ix_nI (by omega), tb2_c _ (by omega) _ (by omega) (by omega), X_pow (by omega) (by omega), bR_s, e12, X_pow (by omega) (by omega), bR_s, lt_d, nI_add, ldL_d (inb_nI (by omega) (by omega)), ix_nI (by omega), hv, e3, show (12 : Int32) = nI 12 from rfl, X_pow (by omega) (by omega), bR_s, nI_add, saL_d (inb_nI (by omega) (by omega)), ix_nI (by omega), nI_l (by have := chs_lt (i + f) f; omega), hval, nI_1]
      exact r1
    · simp [sPT]; omega
theorem C_step {c0 d sh f : Nat} {p : Nat → Nat} {w : Wd} (hd : d < 4) (hsh : sh ≤ 12) (hf : f ≤ 3) (hP : PT (c0 + 1) d p w) : ∃ w', f_X1_step c0 (nI d) (nI sh) (nI f) w = some w' ∧ PT (c0 + 1) (d + 1) (stepN p sh f) w' ∧ eqo (sPT (c0 + 1) (d + 1)) w w' := by
  unfold f_X1_step
  have t := nI_toInt (n := d) (by omega)
  rw [if_neg (by rw [fa_lt, t, ti_0]; omega), if_pos (by rw [fa_lt, t]; show (d : Int) < 4; omega), lt_d, lt_d]
  have e4 : (nI d * 4 : Int32) = nI (4 * d) := by rw [show (4 : Int32) = nI 4 from rfl, pk_mul, Nat.mul_comm]
  have e44 : (nI (4 * d) + 4 : Int32) = nI (4 * (d + 1)) := by rw [show (4 : Int32) = nI 4 from rfl, nI_add]; exact congrArg nI (by omega)
  rw [e4, e44]
  obtain ⟨w', r1, r2, r3⟩ := X_step55 (c0 := c0) (p := p) hd hsh hf (4 - f) fu 0 (zz (c0 + 1) (4 * (d + 1)) w) (by omega) (by show _ < 300; omega) (eqo_PT hP (zz_eqo w) (fun j hj => by simp [sPT]; omega)) (fun j hj => absurd hj (by omega)) (fun j _ hj => zz_0 hj w)
  refine ⟨w', ?_, r2, eqo_tr (zz_eqo w) r3⟩
  have tf := nI_toInt (n := f) (by omega)
  have hz : ∀ i n, i < 4 → ∀ w, f_X1_step_b24 (n + 1) c0 (nI sh) (nI f) (nI (4 * d)) (nI (4 * (d + 1))) (nI i) w = f_X1_step_b24 n c0 (nI sh) (nI f) (nI (4 * d)) (nI (4 * (d + 1))) (nI (i + 1)) (sl w (c0 + 1) (4 * (d + 1) + i) 0) := by
    intro i n hi w
    show f_X1_step_b24_y (f_X1_step_b24 n) c0 (nI sh) (nI f) (nI (4 * d)) (nI (4 * (d + 1))) (nI i) w = _
    unfold f_X1_step_b24_y
    rw [if_neg (by rw [show (4 : Int32) = nI 4 from rfl, nI_leI (by omega) (by omega)]; omega), nI_add, saL_d (inb_nI (by omega) (by omega)), ix_nI (by omega), nI_1]
  rw [show fu = 295 + 1 + 1 + 1 + 1 + 1 from rfl, show (0 : Int32) = nI 0 from rfl, hz 0 _ (by omega), hz 1 _ (by omega), hz 2 _ (by omega), hz 3 _ (by omega)]
  show f_X1_step_b24_y (f_X1_step_b24 295) c0 (nI sh) (nI f) (nI (4 * d)) (nI (4 * (d + 1))) (nI 4) _ = _
  unfold f_X1_step_b24_y
  rw [if_pos (by decide), if_pos (by rw [fa_le, tf, ti_0]; omega)]
  exact r1
theorem M_look32 {d sh f : Nat} {p : Nat → Nat} (hd : d < 7) (hsh : sh ≤ 12) (hf : f ≤ 3) : ∀ (m n i : Nat) (w : Wd), i + m + f = 4 → m < n → PT 71 d p w → (∀ j, j < i → gl w 71 (4 * (d + 1) + j) = lN (stepN p sh f j)) → (∀ j, i ≤ j → j < 4 → gl w 71 (4 * (d + 1) + j) = 0) →
    ∃ w', f_X12_lookTo_b32 n (nI d) (nI sh) (nI f) (nI (i + f)) w = some w' ∧ PT 71 (d + 1) (stepN p sh f) w' ∧ eqo (sPT 71 (d + 1)) w w'
  | 0, 0, _, _, _, h, _, _, _ => absurd h (by omega)
  | 0, n + 1, i, w, hi, _, hP, h1, h2 => by
    refine ⟨w, ?_, fun j hj => ?_, eqo_rf w⟩
    · show f_X12_lookTo_b32_y (f_X12_lookTo_b32 n) (nI d) (nI sh) (nI f) (nI (i + f)) w = _
      unfold f_X12_lookTo_b32_y
      have t := nI_toInt (n := i + f) (by omega)
      rw [if_pos (by rw [fa_lt, t]; show (3 : Int) < ((i + f : Nat) : Int); omega)]
    · by_cases c : j < i
      · exact h1 j c
      · rw [h2 j (by omega) hj]
        unfold stepN
        rw [if_neg (by omega)]
        rfl
  | m + 1, 0, _, _, _, h, _, _, _ => absurd h (by omega)
  | m + 1, n + 1, i, w, hi, hn, hP, h1, h2 => by
    have hv : gl w 71 (4 * d + (i + f)) = lN (p (i + f)) := hP (i + f) (by omega)
    have hval : lN (p (i + f)) * lN (chs (i + f) f) * lN (sh ^ f) * lN ((12 - sh) ^ i) * lN (12 ^ (3 - (i + f))) = lN (stepN p sh f i) := by
      rw [lN_mul, lN_mul, lN_mul, lN_mul]
      unfold stepN
      rw [if_pos (by omega)]
      simp only [Nat.mul_assoc]
    obtain ⟨w', r1, r2, r3⟩ := M_look32 hd hsh hf m n (i + 1) (sl w 71 (4 * (d + 1) + i) (lN (stepN p sh f i))) (by omega) (by omega) (fun j hj => by rw [gl_sl_n (by omega)]; exact hP j hj) (fun j hj => by
      by_cases c : j = i
      · subst c; rw [gl_sl_s]
      · rw [gl_sl_n (by omega)]; exact h1 j (by omega)) (fun j hj hj4 => by rw [gl_sl_n (by omega)]; exact h2 j (by omega) hj4)
    refine ⟨w', ?_, r2, eqo_tr (eqo_sl (eqo_rf w) ?_) r3⟩
    · show f_X12_lookTo_b32_y (f_X12_lookTo_b32 n) (nI d) (nI sh) (nI f) (nI (i + f)) w = _
      unfold f_X12_lookTo_b32_y
      have t := nI_toInt (n := i + f) (by omega)
      have e12 : (12 : Int32) - nI sh = nI (12 - sh) := by rw [show (12 : Int32) = nI 12 from rfl, pk_sub hsh]
      have e3 : (3 : Int32) - nI (i + f) = nI (3 - (i + f)) := by rw [show (3 : Int32) = nI 3 from rfl, pk_sub (by omega)]
      have ei : nI (i + f) - nI f = nI i := by rw [pk_sub (by omega)]; exact congrArg nI (by omega)
      have ed : ((4 : Int32) * nI d) = nI (4 * d) := by rw [show (4 : Int32) = nI 4 from rfl, pk_mul]
      have ed4 : (nI (4 * d) + (4 : Int32)) = nI (4 * (d + 1)) := by rw [show (4 : Int32) = nI 4 from rfl, nI_add]; exact congrArg nI (by omega)
      have edi : nI (4 * (d + 1) + (i + f)) - nI f = nI (4 * (d + 1) + i) := by rw [pk_sub (by omega)]; exact congrArg nI (by omega)
      rw [if_neg (by rw [fa_lt, t]; show ¬ (3 : Int) < ((i + f : Nat) : Int); omega), ed, nI_add, ldL_d (inb_nI (by omega) (by omega)), ix_nI (by omega), hv, M_choose _ (by omega) _ (by omega) (by omega), bR_s, nI_l (by omega), M_pow (by omega), bR_s, e12, nI_l (by omega), ei, M_pow (by omega), bR_s, show (12 : Int64) = lN 12 from rfl, e3, M_pow (by omega), bR_s, ed4, nI_add, edi, saL_d (inb_nI (by omega) (by omega)), ix_nI (by omega), nI_l (by have := chs_lt (i + f) f; omega), hval, nI_1, show i + f + 1 = i + 1 + f by omega]
      exact r1
    · simp [sPT]; omega
theorem M_look {d sh f : Nat} {p : Nat → Nat} {w : Wd} (hd : d < 7) (hsh : sh ≤ 12) (hf : f ≤ 3) (hP : PT 71 d p w) : ∃ w', f_X12_lookTo (nI d) (nI sh) (nI f) w = some w' ∧ PT 71 (d + 1) (stepN p sh f) w' ∧ eqo (sPT 71 (d + 1)) w w' := by
  unfold f_X12_lookTo
  obtain ⟨w', r1, r2, r3⟩ := M_look32 (p := p) hd hsh hf (4 - f) fu 0 (zz 71 (4 * (d + 1)) w) (by omega) (by show _ < 300; omega) (eqo_PT hP (zz_eqo w) (fun j hj => by simp [sPT]; omega)) (fun j hj => absurd hj (by omega)) (fun j _ hj => zz_0 hj w)
  refine ⟨w', ?_, r2, eqo_tr (zz_eqo w) r3⟩
  have ed : ((4 : Int32) * nI d) = nI (4 * d) := by rw [show (4 : Int32) = nI 4 from rfl, pk_mul]
  have ed4 : (nI (4 * d) + (4 : Int32)) = nI (4 * (d + 1)) := by rw [show (4 : Int32) = nI 4 from rfl, nI_add]; exact congrArg nI (by omega)
  have hz : ∀ i n, i < 4 → ∀ w, f_X12_lookTo_b3 (n + 1) (nI d) (nI sh) (nI f) (nI i) w = f_X12_lookTo_b3 n (nI d) (nI sh) (nI f) (nI (i + 1)) (sl w 71 (4 * (d + 1) + i) 0) := by
    intro i n hi w
    show f_X12_lookTo_b3_y (f_X12_lookTo_b3 n) (nI d) (nI sh) (nI f) (nI i) w = _
    unfold f_X12_lookTo_b3_y
    have t := nI_toInt (n := i) (by omega)
    rw [if_neg (by rw [fa_lt, t]; show ¬ (3 : Int) < (i : Int); omega), ed, ed4, nI_add, saL_d (inb_nI (by omega) (by omega)), ix_nI (by omega), nI_1]
  rw [show fu = 295 + 1 + 1 + 1 + 1 + 1 from rfl, show (0 : Int32) = nI 0 from rfl, hz 0 _ (by omega), hz 1 _ (by omega), hz 2 _ (by omega), hz 3 _ (by omega)]
  show f_X12_lookTo_b3_y (f_X12_lookTo_b3 295) (nI d) (nI sh) (nI f) (nI 4) _ = _
  unfold f_X12_lookTo_b3_y
  rw [if_pos (by decide)]
  rw [Nat.zero_add] at r1
  exact r1
/-- sums -/
def sumN (p : Nat → Nat) : Nat := p 0 + p 1 + p 2 + p 3
def stoN (p : Nat → Nat) : Nat := p 1 + 2 * p 2 + 3 * p 3
theorem X_lev {d : Nat} (hd : d ≤ 4) : f_X1_isLevel (nI d) = some 1 := by
  unfold f_X1_isLevel
  have t := nI_toInt (n := d) (by omega)
  rw [if_neg (by rw [fa_lt, t, ti_0]; omega), if_neg (by rw [fa_lt, t]; show ¬ (4 : Int) < (d : Int); omega)]
theorem X_all {c0 d : Nat} {p : Nat → Nat} {w : Wd} (hd : d ≤ 4) (hP : PT (c0 + 1) d p w) : f_X1_all c0 (nI d) w = some (lN (sumN p)) := by
  unfold f_X1_all
  have e4 : (nI d * 4 : Int32) = nI (4 * d) := by rw [show (4 : Int32) = nI 4 from rfl, pk_mul, Nat.mul_comm]
  have h0 : gl w (c0 + 1) (4 * d) = lN (p 0) := hP 0 (by omega)
  rw [X_lev hd, bR_s, if_neg (by decide), lt_d, e4, ldL_d (inb_nI (by omega) (by omega)), ix_nI (by omega), h0, show (1 : Int32) = nI 1 from rfl, show (2 : Int32) = nI 2 from rfl, show (3 : Int32) = nI 3 from rfl, nI_add, nI_add, nI_add, ldL_d (inb_nI (by omega) (by omega)), ix_nI (by omega), hP 1 (by omega), ldL_d (inb_nI (by omega) (by omega)), ix_nI (by omega), hP 2 (by omega), ldL_d (inb_nI (by omega) (by omega)), ix_nI (by omega), hP 3 (by omega), lN_add, lN_add, lN_add]
  rfl
theorem X_stones {c0 d : Nat} {p : Nat → Nat} {w : Wd} (hd : d ≤ 4) (hP : PT (c0 + 1) d p w) : f_X1_stones c0 (nI d) w = some (lN (stoN p)) := by
  unfold f_X1_stones
  have e4 : (nI d * 4 : Int32) = nI (4 * d) := by rw [show (4 : Int32) = nI 4 from rfl, pk_mul, Nat.mul_comm]
  rw [X_lev hd, bR_s, if_neg (by decide), lt_d, e4, show (1 : Int32) = nI 1 from rfl, show (2 : Int32) = nI 2 from rfl, show (3 : Int32) = nI 3 from rfl, nI_add, nI_add, nI_add, ldL_d (inb_nI (by omega) (by omega)), ix_nI (by omega), hP 1 (by omega), ldL_d (inb_nI (by omega) (by omega)), ix_nI (by omega), hP 2 (by omega), ldL_d (inb_nI (by omega) (by omega)), ix_nI (by omega), hP 3 (by omega), show (2 : Int64) = lN 2 from rfl, show (3 : Int64) = lN 3 from rfl, lN_mul, lN_mul, lN_add, lN_add]
  rfl
theorem X_at {c0 d j : Nat} {p : Nat → Nat} {w : Wd} (hd : d ≤ 4) (hj : j < 4) (hP : PT (c0 + 1) d p w) : f_X1_at c0 (nI d) (nI j) w = some (lN (p j)) := by
  unfold f_X1_at
  have t := nI_toInt (n := j) (by omega)
  have e4 : (nI d * 4 : Int32) = nI (4 * d) := by rw [show (4 : Int32) = nI 4 from rfl, pk_mul, Nat.mul_comm]
  rw [X_lev hd, bR_s, if_neg (by decide), if_neg (by rw [fa_lt, t, ti_0]; omega), if_neg (by rw [fa_le, t]; show ¬ (4 : Int) ≤ (j : Int); omega), e4, nI_add, ldL_d (inb_nI (by omega) (by omega)), ix_nI (by omega), hP j hj]
theorem X_ahL {w : Wd} {e : Nat} (he : e < 2 ^ 31) : ∀ (m n i v : Nat), i + m = e → m < n → f_X1_allAhead_b9 w n (nI e) (lN v) (nI i) = some (lN (v * 1728 ^ m))
  | 0, 0, _, _, _, h => absurd h (by omega)
  | 0, n + 1, i, v, hi, _ => by
    show f_X1_allAhead_b9_y w (f_X1_allAhead_b9 w n) (nI e) (lN v) (nI i) = _
    unfold f_X1_allAhead_b9_y
    rw [if_pos (by rw [nI_leI (by omega) (by omega)]; omega), Nat.pow_zero, Nat.mul_one]
  | m + 1, 0, _, _, _, h => absurd h (by omega)
  | m + 1, n + 1, i, v, hi, hn => by
    show f_X1_allAhead_b9_y w (f_X1_allAhead_b9 w n) (nI e) (lN v) (nI i) = _
    unfold f_X1_allAhead_b9_y
    rw [if_neg (by rw [nI_leI (by omega) (by omega)]; omega), lt_d, show (1728 : Int64) = lN 1728 from rfl, lN_mul, nI_1, X_ahL he m n (i + 1) (v * 1728) (by omega) (by omega)]
    rw [Nat.pow_succ, Nat.mul_assoc, Nat.mul_comm 1728]
theorem X_ahead {c0 d : Nat} {p : Nat → Nat} {w : Wd} (hd : d ≤ 4) (hP : PT (c0 + 1) 0 p w) : f_X1_allAhead c0 (nI d) w = some (lN (sumN p * 1728 ^ d)) := by
  unfold f_X1_allAhead
  have := X_all (c0 := c0) (d := 0) (by omega) hP
  rw [show (nI 0) = (0 : Int32) from rfl] at this
  rw [this, bR_s, show (0 : Int32) = nI 0 from rfl, X_ahL (by omega) d fu 0 _ (by omega) (by show d < 300; omega)]
theorem M_all {d : Nat} {p : Nat → Nat} {w : Wd} (hd : d ≤ 7) (hP : PT 71 d p w) : f_X12_allParts (nI d) w = some (lN (sumN p)) := by
  unfold f_X12_allParts
  have ed : ((4 : Int32) * nI d) = nI (4 * d) := by rw [show (4 : Int32) = nI 4 from rfl, pk_mul]
  have h0 : gl w 71 (4 * d) = lN (p 0) := hP 0 (by omega)
  rw [ed, ldL_d (inb_nI (by omega) (by omega)), ix_nI (by omega), h0, show (1 : Int32) = nI 1 from rfl, show (2 : Int32) = nI 2 from rfl, show (3 : Int32) = nI 3 from rfl, nI_add, nI_add, nI_add, ldL_d (inb_nI (by omega) (by omega)), ix_nI (by omega), hP 1 (by omega), ldL_d (inb_nI (by omega) (by omega)), ix_nI (by omega), hP 2 (by omega), ldL_d (inb_nI (by omega) (by omega)), ix_nI (by omega), hP 3 (by omega), lN_add, lN_add, lN_add]
  rfl
theorem M_stones {d : Nat} {p : Nat → Nat} {w : Wd} (hd : d ≤ 7) (hP : PT 71 d p w) : f_X12_stonesIn (nI d) w = some (lN (stoN p)) := by
  unfold f_X12_stonesIn
  have ed : ((4 : Int32) * nI d) = nI (4 * d) := by rw [show (4 : Int32) = nI 4 from rfl, pk_mul]
  rw [ed, show (1 : Int32) = nI 1 from rfl, show (2 : Int32) = nI 2 from rfl, show (3 : Int32) = nI 3 from rfl, nI_add, nI_add, nI_add, ldL_d (inb_nI (by omega) (by omega)), ix_nI (by omega), hP 1 (by omega), ldL_d (inb_nI (by omega) (by omega)), ix_nI (by omega), hP 2 (by omega), ldL_d (inb_nI (by omega) (by omega)), ix_nI (by omega), hP 3 (by omega), show (2 : Int64) = lN 2 from rfl, show (3 : Int64) = lN 3 from rfl, lN_mul, lN_mul, lN_add, lN_add]
  rfl
