/-! STONES PUT IN -/
def prN (p f : Nat) : Nat → Nat
  | 0 => 1
  | i + 1 => prN p f i * (if i < f then p else 12 - p)
theorem prN_le {p f : Nat} (hp : p ≤ 12) : ∀ i, prN p f i ≤ 12 ^ i
  | 0 => Nat.le_refl _
  | i + 1 => by
    unfold prN
    rw [Nat.pow_succ]
    refine Nat.mul_le_mul (prN_le hp i) ?_
    split <;> omega
theorem prN_b {p f i : Nat} (hp : p ≤ 12) (hi : i ≤ 20) : prN p f i ≤ 3833759992447475122176 := by
  have h1 := prN_le (f := f) hp i
  have h2 := Nat.pow_le_pow_right (n := 12) (by omega) hi
  have e : 12 ^ 20 = 3833759992447475122176 := by decide
  omega
theorem mul_dm (N y B : Nat) (hB : 0 < B) : N / B * y + N % B * y / B = N * y / B ∧ N % B * y % B = N * y % B := by
  have e : N * y = B * (N / B * y) + N % B * y := by
    have := Nat.div_add_mod N B
    rw [← Nat.mul_assoc, ← Nat.add_mul, this]
  refine ⟨?_, ?_⟩
  · rw [e, Nat.mul_add_div hB]
  · rw [e, Nat.mul_add_mod]
theorem X_limb {p m f : Nat} {x3 : Int32} (hp : p ≤ 12) (hm : m ≤ 20) (hf : f ≤ 20) : ∀ (k n i : Nat), i + k = m → k < n → f_X11_limbOf_b14 n (nI p) (nI m) (nI f) x3 (lN 1099511627776) (lN (prN p f i / 1099511627776)) (lN (prN p f i % 1099511627776)) (nI i) = some (if x3 = 0 then lN (prN p f m % 1099511627776) else lN (prN p f m / 1099511627776))
  | 0, 0, _, _, h => absurd h (by omega)
  | 0, n + 1, i, hi, _ => by
    have him : i = m := hi
    subst him
    show f_X11_limbOf_b14_y (f_X11_limbOf_b14 n) (nI p) (nI i) (nI f) x3 (lN 1099511627776) (lN (prN p f i / 1099511627776)) (lN (prN p f i % 1099511627776)) (nI i) = _
    unfold f_X11_limbOf_b14_y
    rw [if_pos (by rw [nI_leI (by omega) (by omega)]; omega)]
    by_cases z : x3 = 0
    · rw [if_pos z, if_pos z]
    · rw [if_neg z, if_neg z]
  | k + 1, 0, _, _, h => absurd h (by omega)
  | k + 1, n + 1, i, hi, hn => by
    have hb := prN_b (p := p) (f := f) (i := i) hp (by omega)
    have go : ∀ y, y ≤ 12 → prN p f (i + 1) = prN p f i * y → f_X11_limbOf_b34 (f_X11_limbOf_b14 n) (nI p) (nI m) (nI f) x3 (lN 1099511627776) (lN (prN p f i / 1099511627776)) (lN (prN p f i % 1099511627776)) (nI i) (nI y) = some (if x3 = 0 then lN (prN p f m % 1099511627776) else lN (prN p f m / 1099511627776)) := by
      intro y hy hpr
      have IH := X_limb (x3 := x3) hp hm hf k n (i + 1) (by omega) (by omega)
      obtain ⟨d1, d2⟩ := mul_dm (prN p f i) y 1099511627776 (by omega)
      rw [hpr, ← d1, ← d2] at IH
      unfold f_X11_limbOf_b34
      have hr : prN p f i % 1099511627776 * y ≤ 1099511627776 * 12 := Nat.mul_le_mul (by omega) hy
      have bz : ¬ lN 1099511627776 = 0 := fun z => by
        have := (lN_z (b := 1099511627776) (by omega)).mp z
        omega
      rw [lt_d, nI_l (by omega), lN_mul, dvL_d bz, pk_lDiv (by omega) (by omega) (by omega), lt_d, lN_mul, lN_add, rmL_d bz, lre_lN (by omega) (by omega) (by omega), nI_1]
      exact IH
    show f_X11_limbOf_b14_y (f_X11_limbOf_b14 n) (nI p) (nI m) (nI f) x3 (lN 1099511627776) (lN (prN p f i / 1099511627776)) (lN (prN p f i % 1099511627776)) (nI i) = _
    unfold f_X11_limbOf_b14_y
    have e12 : (12 : Int32) - nI p = nI (12 - p) := by rw [show (12 : Int32) = nI 12 from rfl, pk_sub hp]
    rw [if_neg (by rw [nI_leI (by omega) (by omega)]; omega), e12]
    by_cases c : i < f
    · rw [if_neg (by rw [nI_leI (by omega) (by omega)]; omega)]
      refine go p hp ?_
      show prN p f i * (if i < f then p else 12 - p) = _
      rw [if_pos c]
    · rw [if_pos (by rw [nI_leI (by omega) (by omega)]; omega)]
      refine go (12 - p) (by omega) ?_
      show prN p f i * (if i < f then p else 12 - p) = _
      rw [if_neg c]
theorem X_limbOf {p m f : Nat} (x3 : Int32) (hp : p ≤ 12) (hm : m ≤ 20) (hf : f ≤ 20) : f_X11_limbOf (nI p) (nI m) (nI f) x3 = some (if x3 = 0 then lN (prN p f m % 1099511627776) else lN (prN p f m / 1099511627776)) := by
  unfold f_X11_limbOf
  have h := X_limb (x3 := x3) hp hm hf m fu 0 (by omega) (by show _ < 300; omega)
  rw [show prN p f 0 = 1 from rfl, show (1 : Nat) / 1099511627776 = 0 from by decide, show (1 : Nat) % 1099511627776 = 1 from by decide] at h
  exact h
theorem X_limbH {p m f : Nat} (hp : p ≤ 12) (hm : m ≤ 20) (hf : f ≤ 20) : f_X11_limbOf (nI p) (nI m) (nI f) 1 = some (lN (prN p f m / 1099511627776)) := by
  rw [X_limbOf 1 hp hm hf, if_neg (show ¬ (1 : Int32) = 0 by decide)]
theorem X_limbL {p m f : Nat} (hp : p ≤ 12) (hm : m ≤ 20) (hf : f ≤ 20) : f_X11_limbOf (nI p) (nI m) (nI f) 0 = some (lN (prN p f m % 1099511627776)) := by
  rw [X_limbOf 0 hp hm hf, if_pos rfl]
theorem X_likelier {p q m f : Nat} (hp : p ≤ 12) (hq : q ≤ 12) (hm : m ≤ 20) (hf : f ≤ 20) : f_X11_isLikelier (nI p) (nI q) (nI m) (nI f) = some (b2i (prN q f m < prN p f m)) := by
  have bp := prN_b (f := f) (i := m) hp hm
  have bq := prN_b (f := f) (i := m) hq hm
  unfold f_X11_isLikelier b2i
  rw [X_limbH hp hm hf, X_limbH hq hm hf, bR_s, bR_s, X_limbL hp hm hf, X_limbL hq hm hf, bR_s, bR_s]
  generalize prN p f m = P at *
  generalize prN q f m = Q at *
  have i1 := pk_lLT (a := Q / 1099511627776) (b := P / 1099511627776) (by omega) (by omega)
  have i2 := pk_lEQ (a := P / 1099511627776) (b := Q / 1099511627776) (by omega) (by omega)
  have i3 := pk_lLE (a := P % 1099511627776) (b := Q % 1099511627776) (by omega) (by omega)
  by_cases c1 : Q / 1099511627776 < P / 1099511627776
  · rw [if_pos (i1.mpr c1), if_pos (by omega)]
  · rw [if_neg (fun z => c1 (i1.mp z))]
    by_cases c2 : P / 1099511627776 = Q / 1099511627776
    · rw [if_pos (i2.mpr c2)]
      by_cases c3 : P % 1099511627776 ≤ Q % 1099511627776
      · rw [if_pos (i3.mpr c3), if_neg (by omega)]
      · rw [if_neg (fun z => c3 (i3.mp z)), if_pos (by omega)]
    · rw [if_neg (fun z => c2 (i2.mp z)), if_neg (by omega)]
def lsN (m f : Nat) : Nat → Nat → Nat → Nat
  | 0, _, best => best
  | k + 1, p, best => if prN best f m < prN p f m then lsN m f k (p + 1) p else lsN m f k (p + 1) best
theorem lsN_le {m f : Nat} : ∀ k p best, p + k = 13 → best ≤ 12 → lsN m f k p best ≤ 12
  | 0, _, _, _, h => h
  | k + 1, p, best, hk, h => by
    unfold lsN
    split
    · exact lsN_le k (p + 1) p (by omega) (by omega)
    · exact lsN_le k (p + 1) best (by omega) h
theorem X_ltw {m f : Nat} (hm : m ≤ 20) (hf : f ≤ 20) : ∀ (k n p best : Nat), p + k = 13 → k < n → best ≤ 12 → f_X11_likeliestTwelfths_b4 n (nI m) (nI f) (nI best) (nI p) = some (nI (lsN m f k p best))
  | 0, 0, _, _, _, h, _ => absurd h (by omega)
  | 0, n + 1, p, best, hk, _, _ => by
    show f_X11_likeliestTwelfths_b4_y (f_X11_likeliestTwelfths_b4 n) (nI m) (nI f) (nI best) (nI p) = _
    unfold f_X11_likeliestTwelfths_b4_y
    have t := nI_toInt (n := p) (by omega)
    rw [if_pos (by rw [fa_lt, t]; show (12 : Int) < (p : Int); omega)]
    rfl
  | k + 1, 0, _, _, _, h, _ => absurd h (by omega)
  | k + 1, n + 1, p, best, hk, hn, hb => by
    show f_X11_likeliestTwelfths_b4_y (f_X11_likeliestTwelfths_b4 n) (nI m) (nI f) (nI best) (nI p) = _
    unfold f_X11_likeliestTwelfths_b4_y f_X11_likeliestTwelfths_b22
    have t := nI_toInt (n := p) (by omega)
    rw [if_neg (by rw [fa_lt, t]; show ¬ (12 : Int) < (p : Int); omega), X_likelier (by omega) hb hm hf, bR_s, ite_b2i, nI_1]
    unfold lsN
    by_cases c : prN best f m < prN p f m
    · rw [if_pos c, if_pos c]
      exact X_ltw hm hf k n (p + 1) p (by omega) (by omega) (by omega)
    · rw [if_neg c, if_neg c]
      exact X_ltw hm hf k n (p + 1) best (by omega) (by omega) hb
/-- the model's limbs -/
def LB (o N : Nat) (w : Wd) : Prop := gl w 72 o = lN (N % 1000000000) ∧ gl w 72 (o + 1) = lN (N / 1000000000 % 1000000000) ∧ gl w 72 (o + 2) = lN (N / 1000000000 / 1000000000 % 1000000000)
def sLB (o c k : Nat) : Bool := c == 72 && (decide (o ≤ k) && decide (k < o + 3))
theorem LB_mul {o N y : Nat} (ho : o = 0 ∨ o = 3) (hN : N ≤ 3833759992447475122176) (hy : y ≤ 12) (k28 : Int32 → Int32 → Int32 → Int32 → Int32 → Wd → Option Wd) (x2 x3 x4 x5 : Int32) {w : Wd} (h : LB o N w) : ∃ w', f_X12_layProduct_b49 k28 (nI o) x2 x3 x4 x5 (nI y) w = k28 (nI o) x2 x3 x4 (x5 + 1) w' ∧ LB o (N * y) w' ∧ eqo (sLB o) w w' := by
  obtain ⟨h0, h1, h2⟩ := h
  have z0 : ∀ i n c v (w : Wd), i < 3 → gl w 72 (o + i) = lN v → v < 1000000000 → c < 1000 → f_X12_layProduct_b57 k28 (n + 1) (nI o) x2 x3 x4 x5 (nI y) (lN c) (nI i) w = f_X12_layProduct_b57 k28 n (nI o) x2 x3 x4 x5 (nI y) (lN ((v * y + c) / 1000000000)) (nI (i + 1)) (sl w 72 (o + i) (lN ((v * y + c) % 1000000000))) := by
    intro i n c v w hi hv hv2 hc
    have hvy : v * y ≤ 1000000000 * 12 := Nat.mul_le_mul (by omega) hy
    show f_X12_layProduct_b57_y k28 (f_X12_layProduct_b57 k28 n) (nI o) x2 x3 x4 x5 (nI y) (lN c) (nI i) w = _
    unfold f_X12_layProduct_b57_y
    rw [if_neg (by rw [show (3 : Int32) = nI 3 from rfl, nI_leI (by omega) (by omega)]; omega), nI_add, ldL_d (inb_nI (by omega) (by omega)), ix_nI (by omega), hv, lt_d, nI_l (by omega), lN_mul, lN_add, saL_d (inb_nI (by omega) (by omega)), ix_nI (by omega), lt_d, show (1000000000 : Int64) = lN 1000000000 from rfl, lre_lN (by omega) (by omega) (by omega), pk_lDiv (by omega) (by omega) (by omega), nI_1]
  obtain ⟨m1, m2⟩ := mul_dm N y 1000000000 (by omega)
  have hN1 : N / 1000000000 / 1000000000 % 1000000000 = N / 1000000000 / 1000000000 := Nat.mod_eq_of_lt (by omega)
  rw [hN1] at h2
  generalize hd0 : N % 1000000000 = d0 at *
  generalize hq : N / 1000000000 = q at *
  generalize hd1 : q % 1000000000 = d1 at *
  generalize hd2 : q / 1000000000 = d2 at *
  have d0b : d0 < 1000000000 := by omega
  have d1b : d1 < 1000000000 := by omega
  have d2b : d2 < 1000000000 := by omega
  have v0 : d0 * y ≤ 1000000000 * 12 := Nat.mul_le_mul (by omega) hy
  have v1 : d1 * y ≤ 1000000000 * 12 := Nat.mul_le_mul (by omega) hy
  have v2 : d2 * y ≤ 1000000000 * 12 := Nat.mul_le_mul (by omega) hy
  have eq1 : q * y = 1000000000 * (d2 * y) + d1 * y := by
    rw [← Nat.mul_assoc, ← Nat.add_mul, show 1000000000 * d2 + d1 = q by omega]
  have g1 : gl (sl w 72 (o + 0) (lN ((d0 * y + 0) % 1000000000))) 72 (o + 1) = lN d1 := by rw [gl_sl_n (by omega)]; exact h1
  have g2 : gl (sl (sl w 72 (o + 0) (lN ((d0 * y + 0) % 1000000000))) 72 (o + 1) (lN ((d1 * y + (d0 * y + 0) / 1000000000) % 1000000000))) 72 (o + 2) = lN d2 := by rw [gl_sl_n (by omega), gl_sl_n (by omega)]; exact h2
  unfold f_X12_layProduct_b49
  rw [show fu = 296 + 1 + 1 + 1 + 1 from rfl, show (0 : Int64) = lN 0 from rfl, show (0 : Int32) = nI 0 from rfl, z0 0 _ 0 d0 w (by omega) h0 d0b (by omega), z0 1 _ _ d1 _ (by omega) g1 d1b (by omega), z0 2 _ _ d2 _ (by omega) g2 d2b (by omega)]
  refine ⟨sl (sl (sl w 72 (o + 0) (lN ((d0 * y + 0) % 1000000000))) 72 (o + 1) (lN ((d1 * y + (d0 * y + 0) / 1000000000) % 1000000000))) 72 (o + 2) (lN ((d2 * y + (d1 * y + (d0 * y + 0) / 1000000000) / 1000000000) % 1000000000)), ?_, ⟨?_, ?_, ?_⟩, ?_⟩
  · show f_X12_layProduct_b57_y k28 (f_X12_layProduct_b57 k28 296) (nI o) x2 x3 x4 x5 (nI y) _ (nI 3) _ = _
    unfold f_X12_layProduct_b57_y
    rw [if_pos (by decide)]
  · rw [gl_sl_n (by omega), gl_sl_n (by omega), gl_sl, if_pos ⟨rfl, rfl⟩, Nat.add_zero, m2]
  · rw [gl_sl_n (by omega), gl_sl_s, ← m1]
    exact congrArg lN (by omega)
  · rw [gl_sl_s, ← m1]
    exact congrArg lN (by omega)
  · refine eqo_sl (eqo_sl (eqo_sl (eqo_rf w) ?_) ?_) ?_ <;> simp [sLB]
theorem M_lay {o p m f : Nat} (ho : o = 0 ∨ o = 3) (hp : p ≤ 12) (hm : m ≤ 20) (hf : f ≤ 20) : ∀ (k n i : Nat) (w : Wd), i + k = m → k < n → LB o (prN p f i) w → ∃ w', f_X12_layProduct_b28 n (nI o) (nI p) (nI f) (nI m) (nI i) w = some w' ∧ LB o (prN p f m) w' ∧ eqo (sLB o) w w'
  | 0, 0, _, _, _, h, _ => absurd h (by omega)
  | 0, n + 1, i, w, hi, _, hL => by
    have him : i = m := hi
    subst him
    refine ⟨w, ?_, hL, eqo_rf w⟩
    show f_X12_layProduct_b28_y (f_X12_layProduct_b28 n) (nI o) (nI p) (nI f) (nI i) (nI i) w = _
    unfold f_X12_layProduct_b28_y
    rw [if_pos (by rw [nI_leI (by omega) (by omega)]; omega)]
  | k + 1, 0, _, _, _, h, _ => absurd h (by omega)
  | k + 1, n + 1, i, w, hi, hn, hL => by
    have hb := prN_b (p := p) (f := f) (i := i) hp (by omega)
    have e12 : (12 : Int32) - nI p = nI (12 - p) := by rw [show (12 : Int32) = nI 12 from rfl, pk_sub hp]
    show ∃ w', f_X12_layProduct_b28_y (f_X12_layProduct_b28 n) (nI o) (nI p) (nI f) (nI m) (nI i) w = some w' ∧ _
    unfold f_X12_layProduct_b28_y
    rw [if_neg (by rw [nI_leI (by omega) (by omega)]; omega), e12]
    by_cases c : i < f
    · obtain ⟨w1, p1, p2, p3⟩ := LB_mul ho hb hp (f_X12_layProduct_b28 n) (nI p) (nI f) (nI m) (nI i) hL
      have p2' : LB o (prN p f (i + 1)) w1 := by
        show LB o (prN p f i * (if i < f then p else 12 - p)) w1
        rw [if_pos c]; exact p2
      obtain ⟨w2, q1, q2, q3⟩ := M_lay ho hp hm hf k n (i + 1) w1 (by omega) (by omega) p2'
      rw [if_neg (by rw [nI_leI (by omega) (by omega)]; omega), p1, nI_1]
      exact ⟨w2, q1, q2, eqo_tr p3 q3⟩
    · obtain ⟨w1, p1, p2, p3⟩ := LB_mul ho hb (y := 12 - p) (by omega) (f_X12_layProduct_b28 n) (nI p) (nI f) (nI m) (nI i) hL
      have p2' : LB o (prN p f (i + 1)) w1 := by
        show LB o (prN p f i * (if i < f then p else 12 - p)) w1
        rw [if_neg c]; exact p2
      obtain ⟨w2, q1, q2, q3⟩ := M_lay ho hp hm hf k n (i + 1) w1 (by omega) (by omega) p2'
      rw [if_pos (by rw [nI_leI (by omega) (by omega)]; omega), p1, nI_1]
      exact ⟨w2, q1, q2, eqo_tr p3 q3⟩
theorem M_layP {o p m f : Nat} (ho : o = 0 ∨ o = 3) (hp : p ≤ 12) (hm : m ≤ 20) (hf : f ≤ 20) (w : Wd) : ∃ w', f_X12_layProduct (nI o) (nI p) (nI f) (nI m) w = some w' ∧ LB o (prN p f m) w' ∧ eqo (sLB o) w w' := by
  unfold f_X12_layProduct
  have E : eqo (sLB o) w (sl (sl (sl w 72 o 1) 72 (o + 1) 0) 72 (o + 2) 0) := by
    refine eqo_sl (eqo_sl (eqo_sl (eqo_rf w) ?_) ?_) ?_ <;> simp [sLB]
  have hL : LB o (prN p f 0) (sl (sl (sl w 72 o 1) 72 (o + 1) 0) 72 (o + 2) 0) := by
    refine ⟨?_, ?_, ?_⟩
    · rw [gl_sl_n (by omega), gl_sl_n (by omega), gl_sl_s, show prN p f 0 = 1 from rfl, show (1 : Nat) % 1000000000 = 1 from by decide]; rfl
    · rw [gl_sl_n (by omega), gl_sl_s, show prN p f 0 = 1 from rfl, show (1 : Nat) / 1000000000 % 1000000000 = 0 from by decide]; rfl
    · rw [gl_sl_s, show prN p f 0 = 1 from rfl, show (1 : Nat) / 1000000000 / 1000000000 % 1000000000 = 0 from by decide]; rfl
  obtain ⟨w1, q1, q2, q3⟩ := M_lay ho hp hm hf m fu 0 _ (by omega) (by show _ < 300; omega) hL
  rw [saL_d (inb_nI (by omega) (by omega)), ix_nI (by omega), nI_1, saL_d (inb_nI (by omega) (by omega)), ix_nI (by omega), show (2 : Int32) = nI 2 from rfl, nI_add, saL_d (inb_nI (by omega) (by omega)), ix_nI (by omega)]
  exact ⟨w1, q1, q2, eqo_tr E q3⟩
theorem M_more {N N' : Nat} {w : Wd} (hN : N ≤ 3833759992447475122176) (hN' : N' ≤ 3833759992447475122176) (h0 : LB 0 N w) (h3 : LB 3 N' w) : f_X12_isMore w = some (b2i (N' < N)) := by
  obtain ⟨a0, a1, a2⟩ := h0
  obtain ⟨b0, b1, b2⟩ := h3
  have st : ∀ i n u v, i < 3 → gl w 72 i = lN u → gl w 72 (3 + i) = lN v → u < 1000000000 → v < 1000000000 → f_X12_isMore_b2 w (n + 1) (nI i) = if u = v then f_X12_isMore_b2 w n (nI i + (-1)) else if u ≤ v then some 0 else some 1 := by
    intro i n u v hi hu hv hub hvb
    show f_X12_isMore_b2_y w (f_X12_isMore_b2 w n) (nI i) = _
    unfold f_X12_isMore_b2_y
    have t := nI_toInt (n := i) (by omega)
    have i1 := pk_lEQ (a := u) (b := v) (by omega) (by omega)
    have i2 := pk_lLE (a := u) (b := v) (by omega) (by omega)
    rw [if_neg (by rw [fa_lt, t, ti_0]; omega), ldL_d (inb_nI (by omega) (by omega)), ix_nI (by omega), hu, show (3 : Int32) = nI 3 from rfl, nI_add, ldL_d (inb_nI (by omega) (by omega)), ix_nI (by omega), hv, ldL_d (inb_nI (by omega) (by omega)), ix_nI (by omega), hu, ldL_d (inb_nI (by omega) (by omega)), ix_nI (by omega), hv]
    by_cases c : u = v
    · rw [if_pos (i1.mpr c), if_pos c]
    · rw [if_neg (fun z => c (i1.mp z)), if_neg c]
      by_cases d : u ≤ v
      · rw [if_pos (i2.mpr d), if_pos d]
      · rw [if_neg (fun z => d (i2.mp z)), if_neg d]
  have s2 := st 2 299 _ _ (by omega) a2 b2 (by omega) (by omega)
  have s1 := st 1 298 _ _ (by omega) a1 b1 (by omega) (by omega)
  have s0 := st 0 297 _ _ (by omega) a0 b0 (by omega) (by omega)
  have e2 : nI 2 + (-1 : Int32) = nI 1 := by decide
  have e1 : nI 1 + (-1 : Int32) = nI 0 := by decide
  rw [e2, s1, e1, s0] at s2
  have fin : f_X12_isMore_b2 w 297 (nI 0 + (-1)) = some 0 := by
    show f_X12_isMore_b2_y w (f_X12_isMore_b2 w 296) (nI 0 + (-1)) = _
    unfold f_X12_isMore_b2_y
    rw [if_pos (by decide)]
  rw [fin] at s2
  have hX : f_X12_isMore w = f_X12_isMore_b2 w (299 + 1) (nI 2) := rfl
  rw [hX, s2]
  unfold b2i
  by_cases c2 : N / 1000000000 / 1000000000 % 1000000000 = N' / 1000000000 / 1000000000 % 1000000000
  · rw [if_pos c2]
    by_cases c1 : N / 1000000000 % 1000000000 = N' / 1000000000 % 1000000000
    · rw [if_pos c1]
      by_cases c0 : N % 1000000000 = N' % 1000000000
      · rw [if_pos c0, if_neg (by omega)]
      · rw [if_neg c0]
        by_cases d : N % 1000000000 ≤ N' % 1000000000
        · rw [if_pos d, if_neg (by omega)]
        · rw [if_neg d, if_pos (by omega)]
    · rw [if_neg c1]
      by_cases d : N / 1000000000 % 1000000000 ≤ N' / 1000000000 % 1000000000
      · rw [if_pos d, if_neg (by omega)]
      · rw [if_neg d, if_pos (by omega)]
  · rw [if_neg c2]
    by_cases d : N / 1000000000 / 1000000000 % 1000000000 ≤ N' / 1000000000 / 1000000000 % 1000000000
    · rw [if_pos d, if_neg (by omega)]
    · rw [if_neg d, if_pos (by omega)]
def s72 (c _k : Nat) : Bool := c == 72
theorem sLB_72 {o : Nat} : ∀ c k, sLB o c k = true → s72 c k = true := by
  intro c k h
  simp only [sLB, s72, Bool.and_eq_true, beq_iff_eq, decide_eq_true_eq] at h ⊢
  exact h.1
theorem M_lsees {x m f : Nat} (hm : x / 100 = m) (hf : x % 100 = f) (hx : x < 2 ^ 31) (hm20 : m ≤ 20) (hf20 : f ≤ 20) : ∀ (k n p best : Nat) (w : Wd), p + k = 13 → k < n → best ≤ 12 → LB 3 (prN best f m) w → ∃ w', f_X12_likeliestSees_b18 n (nI x) (nI best) (nI p) w = some (nI (lsN m f k p best), w') ∧ eqo s72 w w'
  | 0, 0, _, _, _, _, h, _, _ => absurd h (by omega)
  | 0, n + 1, p, best, w, hk, _, _, _ => by
    refine ⟨w, ?_, eqo_rf w⟩
    show f_X12_likeliestSees_b18_y (f_X12_likeliestSees_b18 n) (nI x) (nI best) (nI p) w = _
    unfold f_X12_likeliestSees_b18_y
    have t := nI_toInt (n := p) (by omega)
    rw [if_pos (by rw [fa_lt, t]; show (12 : Int) < (p : Int); omega)]
    rfl
  | k + 1, 0, _, _, _, _, h, _, _ => absurd h (by omega)
  | k + 1, n + 1, p, best, w, hk, hn, hb, hL => by
    have e100 : nI x / 100 = nI m := by rw [show (100 : Int32) = nI 100 from rfl, pk_div hx (by omega) (by omega), hm]
    have er : ire (nI x) 100 = nI f := by unfold ire; rw [show (100 : Int32) = nI 100 from rfl, pk_rem hx (by omega) (by omega), hf]
    have t := nI_toInt (n := p) (by omega)
    obtain ⟨w1, p1, p2, p3⟩ := M_layP (o := 0) (p := p) (m := m) (f := f) (Or.inl rfl) (by omega) hm20 hf20 w
    have p1' : f_X12_layProduct 0 (nI p) (nI f) (nI m) w = some w1 := p1
    have hL1 : LB 3 (prN best f m) w1 := by
      obtain ⟨l0, l1, l2⟩ := hL
      exact ⟨by rw [(p3 72 3 rfl).2]; exact l0, by rw [(p3 72 4 rfl).2]; exact l1, by rw [(p3 72 5 rfl).2]; exact l2⟩
    have hs1 := eqo_mono p3 (sLB_72 (o := 0))
    have hmo := M_more (prN_b (f := f) (i := m) (p := p) (by omega) hm20) (prN_b (f := f) (i := m) hb hm20) p2 hL1
    show ∃ w', f_X12_likeliestSees_b18_y (f_X12_likeliestSees_b18 n) (nI x) (nI best) (nI p) w = some (nI (if prN best f m < prN p f m then lsN m f k (p + 1) p else lsN m f k (p + 1) best), w') ∧ eqo s72 w w'
    unfold f_X12_likeliestSees_b18_y f_X12_likeliestSees_b81
    rw [if_neg (by rw [fa_lt, t]; show ¬ (12 : Int) < (p : Int); omega), er, e100, p1', bV_s, hmo, bR_s, ite_b2i]
    by_cases c : prN best f m < prN p f m
    · rw [if_pos c, if_pos c]
      obtain ⟨l0, l1, l2⟩ := p2
      have cp : ∀ i n' v w, i < 3 → gl w 72 i = lN v → f_X12_likeliestSees_b53 (f_X12_likeliestSees_b18 n) (n' + 1) (nI x) (nI p) (nI p) (nI i) w = f_X12_likeliestSees_b53 (f_X12_likeliestSees_b18 n) n' (nI x) (nI p) (nI p) (nI (i + 1)) (sl w 72 (3 + i) (lN v)) := by
        intro i n' v w hi hv
        show f_X12_likeliestSees_b53_y (f_X12_likeliestSees_b18 n) (f_X12_likeliestSees_b53 (f_X12_likeliestSees_b18 n) n') (nI x) (nI p) (nI p) (nI i) w = _
        unfold f_X12_likeliestSees_b53_y
        rw [if_neg (by rw [show (3 : Int32) = nI 3 from rfl, nI_leI (by omega) (by omega)]; omega), ldL_d (inb_nI (by omega) (by omega)), ix_nI (by omega), hv, show (3 : Int32) = nI 3 from rfl, nI_add, saL_d (inb_nI (by omega) (by omega)), ix_nI (by omega), nI_1]
      rw [show fu = 296 + 1 + 1 + 1 + 1 from rfl, show (0 : Int32) = nI 0 from rfl, cp 0 _ _ _ (by omega) l0, cp 1 _ _ _ (by omega) (by rw [gl_sl_n (by omega)]; exact l1), cp 2 _ _ _ (by omega) (by rw [gl_sl_n (by omega), gl_sl_n (by omega)]; exact l2)]
      have hL4 : LB 3 (prN p f m) (sl (sl (sl w1 72 (3 + 0) (lN (prN p f m % 1000000000))) 72 (3 + 1) (lN (prN p f m / 1000000000 % 1000000000))) 72 (3 + 2) (lN (prN p f m / 1000000000 / 1000000000 % 1000000000))) := by
        refine ⟨?_, ?_, ?_⟩
        · rw [gl_sl_n (by omega), gl_sl_n (by omega), gl_sl_s]
        · rw [gl_sl_n (by omega), gl_sl_s]
        · rw [gl_sl_s]
      have hs4 : eqo s72 w (sl (sl (sl w1 72 (3 + 0) (lN (prN p f m % 1000000000))) 72 (3 + 1) (lN (prN p f m / 1000000000 % 1000000000))) 72 (3 + 2) (lN (prN p f m / 1000000000 / 1000000000 % 1000000000))) := eqo_sl (eqo_sl (eqo_sl hs1 rfl) rfl) rfl
      obtain ⟨w5, q1, q2⟩ := M_lsees hm hf hx hm20 hf20 k n (p + 1) p _ (by omega) (by omega) (by omega) hL4
      refine ⟨w5, ?_, eqo_tr hs4 q2⟩
      show f_X12_likeliestSees_b53_y (f_X12_likeliestSees_b18 n) (f_X12_likeliestSees_b53 (f_X12_likeliestSees_b18 n) 296) (nI x) (nI p) (nI p) (nI 3) _ = _
      unfold f_X12_likeliestSees_b53_y f_X12_likeliestSees_b81
      rw [if_pos (by decide), nI_1]
      exact q1
    · rw [if_neg c, if_neg c, nI_1]
      obtain ⟨w5, q1, q2⟩ := M_lsees hm hf hx hm20 hf20 k n (p + 1) best w1 (by omega) (by omega) hb hL1
      exact ⟨w5, q1, eqo_tr hs1 q2⟩
theorem s72_s : ∀ c k, s72 c k = true → scr c k = true := by
  intro c k h
  simp only [s72, beq_iff_eq] at h
  subst h
  rfl
abbrev piOK (n : Nat) : Prop := 1 ≤ n / 100 ∧ n / 100 ≤ 20 ∧ n % 100 ≤ n / 100
theorem X_putIn {n : Nat} (hn : n < 2 ^ 31) : f_X11_isPutIn (nI n) = some (b2i (piOK n)) := by
  obtain ⟨_, _, e3, e4⟩ := ls_div hn
  have t := nI_toInt hn
  have t2 := nI_toInt (n := n / 100) (by omega)
  have t3 := nI_toInt (n := n % 100) (by omega)
  have t20 : (20 : Int32).toInt = 20 := rfl
  have t100 : (100 : Int32).toInt = 100 := rfl
  unfold f_X11_isPutIn b2i
  rw [e3, e4]
  by_cases c1 : n < 100
  · rw [if_pos (by rw [fa_lt, t, t100]; omega), if_neg (fun z => by have := z.1; omega)]
  rw [if_neg (by rw [fa_lt, t, t100]; omega)]
  by_cases c2 : 20 < n / 100
  · rw [if_pos (by rw [fa_lt, t2, t20]; omega), if_neg (fun z => by have := z.2.1; omega)]
  rw [if_neg (by rw [fa_lt, t2, t20]; omega)]
  by_cases c3 : n / 100 < n % 100
  · rw [if_pos (by rw [fa_lt, t2, t3]; omega), if_neg (fun z => by have := z.2.2; omega)]
  · rw [if_neg (by rw [fa_lt, t2, t3]; omega), if_pos ⟨by omega, by omega, by omega⟩]
theorem M_putIn {n : Nat} (hn : n < 2 ^ 31) : f_X12_isPutIn (nI n) = some (b2i (piOK n)) := by
  obtain ⟨_, _, e3, e4⟩ := ls_div hn
  have t := nI_toInt hn
  have t2 := nI_toInt (n := n / 100) (by omega)
  have t3 := nI_toInt (n := n % 100) (by omega)
  have t20 : (20 : Int32).toInt = 20 := rfl
  have t1 : (1 : Int32).toInt = 1 := rfl
  unfold f_X12_isPutIn
  rw [if_neg (by rw [fa_lt, t, ti_0]; omega), e3, e4, M_in, bR_s, ite_b2i, t2, t20, t1]
  unfold b2i
  by_cases c1 : (1 : Int) ≤ ((n / 100 : Nat) : Int) ∧ ((n / 100 : Nat) : Int) ≤ 20
  · rw [if_pos c1]
    by_cases c3 : n / 100 < n % 100
    · rw [if_pos (by rw [fa_lt, t2, t3]; omega), if_neg (fun z => by have := z.2.2; omega)]
    · rw [if_neg (by rw [fa_lt, t2, t3]; omega), if_pos ⟨by omega, by omega, by omega⟩]
  · rw [if_neg c1, if_neg (fun z => by have := z.1; have := z.2.1; omega)]
theorem neg_putIn {a : Int32} (h : a < 0) : f_X11_isPutIn a = some 0 ∧ f_X12_isPutIn a = some 0 := by
  unfold f_X11_isPutIn f_X12_isPutIn
  have t0 : (0 : Int32).toInt = 0 := rfl
  have t100 : (100 : Int32).toInt = 100 := rfl
  have h' := h
  rw [fa_lt, t0] at h'
  rw [if_pos (show a < 100 by rw [fa_lt, t100]; omega), if_pos h]
  exact ⟨rfl, rfl⟩
theorem S_both {n : Nat} (hn : n < 2 ^ 31) (h : piOK n) (w : Wd) : f_X11_likeliestTwelfths (nI (n / 100)) (nI (n % 100)) = some (nI (lsN (n / 100) (n % 100) 12 1 0)) ∧ ∃ w', f_X12_likeliestSees (nI n) w = some (nI (lsN (n / 100) (n % 100) 12 1 0), w') ∧ eqo scr w w' := by
  obtain ⟨h1, h2, h3⟩ := h
  obtain ⟨_, _, e3, e4⟩ := ls_div hn
  refine ⟨X_ltw h2 (by omega) 12 fu 1 0 (by omega) (by show 12 < 300; omega) (by omega), ?_⟩
  obtain ⟨w1, p1, p2, p3⟩ := M_layP (o := 3) (p := 0) (m := n / 100) (f := n % 100) (Or.inr rfl) (by omega) h2 (by omega) w
  have p1' : f_X12_layProduct 3 0 (nI (n % 100)) (nI (n / 100)) w = some w1 := p1
  obtain ⟨w2, q1, q2⟩ := M_lsees (x := n) rfl rfl hn h2 (by omega) 12 fu 1 0 w1 (by omega) (by show 12 < 300; omega) (by omega) p2
  refine ⟨w2, ?_, eqo_tr (eqo_mono p3 (fun c k z => s72_s c k (sLB_72 c k z))) (eqo_mono q2 s72_s)⟩
  unfold f_X12_likeliestSees
  rw [e3, e4, p1', bV_s]
  exact q1
theorem T_seesFor (a1 : Int32) (w : Wd) : ∃ r w2, f_X11_seesFor a1 = some r ∧ f_X12_seesFor a1 w = some (r, w2) ∧ eqo scr w w2 := by
  by_cases hneg : a1 < 0
  · obtain ⟨k1, k2⟩ := neg_putIn hneg
    refine ⟨-1, w, ?_, ?_, eqo_rf w⟩
    · unfold f_X11_seesFor
      rw [k1, bR_s, if_pos rfl]
    · unfold f_X12_seesFor
      rw [k2, bR_s, if_pos rfl]
  obtain ⟨n, hn, rfl⟩ := nI_of hneg
  obtain ⟨_, _, e3, e4⟩ := ls_div hn
  by_cases h : piOK n
  · obtain ⟨s1, w2, s2, s3⟩ := S_both hn h w
    refine ⟨nI (lsN (n / 100) (n % 100) 12 1 0), w2, ?_, ?_, s3⟩
    · unfold f_X11_seesFor
      rw [X_putIn hn, bR_s, ite_b2i, if_pos h, e3, e4, s1, bR_s]
    · unfold f_X12_seesFor
      rw [M_putIn hn, bR_s, ite_b2i, if_pos h, s2, bW_s]
  · refine ⟨-1, w, ?_, ?_, eqo_rf w⟩
    · unfold f_X11_seesFor
      rw [X_putIn hn, bR_s, ite_b2i, if_neg h]
    · unfold f_X12_seesFor
      rw [M_putIn hn, bR_s, ite_b2i, if_neg h]
theorem T_besides (a1 a2 a3 : Int32) (w : Wd) : ∃ r w2, f_X11_besides a1 a2 a3 = some r ∧ f_X12_besides a1 a2 a3 w = some (r, w2) ∧ eqo scr w w2 := by
  have t0 : (0 : Int32).toInt = 0 := rfl
  have t99 : (99 : Int32).toInt = 99 := rfl
  by_cases hneg : a1 < 0
  · obtain ⟨k1, k2⟩ := neg_putIn hneg
    refine ⟨NONE, w, ?_, ?_, eqo_rf w⟩
    · unfold f_X11_besides
      rw [k1, bR_s, if_pos rfl]
    · unfold f_X12_besides
      rw [k2, bR_s, if_pos rfl]
  obtain ⟨n, hn, rfl⟩ := nI_of hneg
  obtain ⟨_, _, e3, e4⟩ := ls_div hn
  by_cases h : piOK n ∧ inb a2 100 ∧ inb a3 2
  · obtain ⟨h1, h2, h3⟩ := h
    obtain ⟨g, hg, rfl⟩ := of_inb h2
    have tg := nI_toInt (n := g) (by omega)
    obtain ⟨s1, w2, s2, s3⟩ := S_both hn h1 w
    have hle := lsN_le (m := n / 100) (f := n % 100) 12 1 0 (by omega) (by omega)
    have X0 : f_X11_besides (nI n) (nI g) a3 = if nI (lsN (n / 100) (n % 100) 12 1 0) = (0 : Int32) then some (-2) else (bR (f_X11_inLowest (Int32.toInt64 (nI g * 12)) (Int32.toInt64 (nI (lsN (n / 100) (n % 100) 12 1 0))) a3) fun r4 => some r4) := by
      unfold f_X11_besides
      rw [X_putIn hn, bR_s, ite_b2i, if_pos h1, if_neg (by rw [fa_lt, tg, t0]; omega), if_neg (by rw [fa_lt, tg, t99]; omega), X_isPart, bR_s, ite_b2i, if_pos h3, e3, e4, s1, bR_s]
    have M0 : f_X12_besides (nI n) (nI g) a3 w = if nI (lsN (n / 100) (n % 100) 12 1 0) = (0 : Int32) then some (-2, w2) else (bR (f_X12_asPart (Int32.toInt64 (nI g * 12)) (Int32.toInt64 (nI (lsN (n / 100) (n % 100) 12 1 0))) a3) fun r6 => some (r6, w2)) := by
      unfold f_X12_besides
      rw [M_putIn hn, bR_s, ite_b2i, if_pos h1, M_in, bR_s, ite_b2i, if_pos (by rw [tg, t0, t99]; omega), M_isPart, bR_s, ite_b2i, if_pos h3, s2, bW_s]
    rw [X0, M0]
    generalize lsN (n / 100) (n % 100) 12 1 0 = q at *
    by_cases z : q = 0
    · subst z
      rw [if_pos (show nI 0 = (0 : Int32) from rfl)]
      exact ⟨_, w2, rfl, rfl, s3⟩
    · have nz : ¬ nI q = (0 : Int32) := by rw [show (0 : Int32) = nI 0 from rfl, nI_eq (by omega) (by omega)]; exact z
      rw [if_neg nz, if_neg nz, show (12 : Int32) = nI 12 from rfl, pk_mul, nI_l (by omega), nI_l (by omega), inLowest_low (lN_t (by omega)) (by omega) (by omega), asPart_low (lN_t (by omega)) (by omega) (by omega), bR_s, bR_s]
      exact ⟨_, w2, rfl, rfl, s3⟩
  · refine ⟨NONE, w, ?_, ?_, eqo_rf w⟩
    · unfold f_X11_besides
      rw [X_putIn hn, bR_s, ite_b2i]
      by_cases c1 : piOK n
      · rw [if_pos c1]
        by_cases c2 : a2 < 0
        · rw [if_pos c2]
        rw [if_neg c2]
        by_cases c3 : 99 < a2
        · rw [if_pos c3]
        rw [if_neg c3, X_isPart, bR_s, ite_b2i, if_neg]
        intro c4
        rw [fa_lt] at c2 c3
        exact h ⟨c1, ⟨by omega, by omega⟩, c4⟩
      · rw [if_neg c1]
    · unfold f_X12_besides
      rw [M_putIn hn, bR_s, ite_b2i]
      by_cases c1 : piOK n
      · rw [if_pos c1, M_in, bR_s, ite_b2i]
        by_cases c2 : (0 : Int32).toInt ≤ a2.toInt ∧ a2.toInt ≤ (99 : Int32).toInt
        · rw [if_pos c2, M_isPart, bR_s, ite_b2i, if_neg]
          intro c4
          exact h ⟨c1, ⟨by omega, by omega⟩, c4⟩
        · rw [if_neg c2]
      · rw [if_neg c1]
