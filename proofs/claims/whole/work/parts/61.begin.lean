/-! CHANCES: at first -/
def allW (A : Ab) (b : Nat) : Nat := A.nv 0 b + A.nv 1 b + A.nv 2 b + A.nv 3 b
def p0 (A : Ab) (b j : Nat) : Nat := if allW A b = 0 then (if j = 0 then 1 else 0) else A.nv j b
theorem nv_bag {A : Ab} (h : Aok A) {b j : Nat} (hb : b < 4) (hj : j < 4) : A.nv j b ≤ 9 := by
  have := h.2.1 j b (okb (by omega) hb)
  unfold nhi at this
  rw [if_pos (by omega)] at this
  exact this
theorem allW_le {A : Ab} (h : Aok A) {b : Nat} (hb : b < 4) : allW A b ≤ 36 := by
  have h0 := nv_bag h hb (j := 0) (by omega)
  have h1 := nv_bag h hb (j := 1) (by omega)
  have h2 := nv_bag h hb (j := 2) (by omega)
  have h3 := nv_bag h hb (j := 3) (by omega)
  unfold allW
  omega
theorem p0_le {A : Ab} (h : Aok A) {b j : Nat} (hb : b < 4) (hj : j < 4) : p0 A b j ≤ 9 := by
  have := nv_bag h hb hj
  unfold p0
  repeat' split
  all_goals omega
theorem p0_sum {A : Ab} (h : Aok A) {b : Nat} (hb : b < 4) : sumN (p0 A b) = if allW A b = 0 then 1 else allW A b := by
  unfold sumN p0
  by_cases z : allW A b = 0
  · rw [if_pos z, if_pos z, if_pos z, if_pos z, if_pos z]; rfl
  · rw [if_neg z, if_neg z, if_neg z, if_neg z, if_neg z]; rfl
theorem VX_sl {A : Ab} {w : Wd} (h : VX A w) (c k : Nat) (v : Int64) : VX A (sl w c k v) := VX_cg h (fun _ _ _ => rfl)
theorem VM_sl {A : Ab} {w : Wd} (h : VM A w) (c k : Nat) (v : Int64) : VM A (sl w c k v) := VM_cg h (fun _ _ _ => rfl)
theorem X_begin {A : Ab} {c0 b : Nat} {w : Wd} (h : VX A w) (hb : b < 4) : ∃ w', f_X1_begin c0 (nI b) w = some w' ∧ PT (c0 + 1) 0 (p0 A b) w' ∧ eqo (sPT (c0 + 1) 0) w w' := by
  have hz : ∀ i n, i < 4 → ∀ w, VX A w → f_X1_begin_b2 (n + 1) c0 (nI b) (nI i) w = f_X1_begin_b2 n c0 (nI b) (nI (i + 1)) (sl w (c0 + 1) i (lN (A.nv i b))) := by
    intro i n hi w hw
    show f_X1_begin_b2_y (f_X1_begin_b2 n) c0 (nI b) (nI i) w = _
    unfold f_X1_begin_b2_y
    have := nv_bag h.1 hb hi
    rw [if_neg (by rw [show (4 : Int32) = nI 4 from rfl, nI_leI (by omega) (by omega)]; omega), VX_get hw (okb (by omega) hb) (by omega), bR_s, saL_d (inb_nI (by omega) (by omega)), ix_nI (by omega), nI_1, nI_l (by omega)]
  unfold f_X1_begin
  rw [show fu = 295 + 1 + 1 + 1 + 1 + 1 from rfl, show (0 : Int32) = nI 0 from rfl, hz 0 _ (by omega) w h, hz 1 _ (by omega) _ (VX_sl h _ _ _), hz 2 _ (by omega) _ (VX_sl (VX_sl h _ _ _) _ _ _), hz 3 _ (by omega) _ (VX_sl (VX_sl (VX_sl h _ _ _) _ _ _) _ _ _)]
  have E : eqo (sPT (c0 + 1) 0) w (sl (sl (sl (sl w (c0 + 1) 0 (lN (A.nv 0 b))) (c0 + 1) (0 + 1) (lN (A.nv (0 + 1) b))) (c0 + 1) (1 + 1) (lN (A.nv (1 + 1) b))) (c0 + 1) (2 + 1) (lN (A.nv (2 + 1) b))) := by
    refine eqo_sl (eqo_sl (eqo_sl (eqo_sl (eqo_rf w) ?_) ?_) ?_) ?_ <;> simp [sPT]
  have P : PT (c0 + 1) 0 (fun j => A.nv j b) (sl (sl (sl (sl w (c0 + 1) 0 (lN (A.nv 0 b))) (c0 + 1) (0 + 1) (lN (A.nv (0 + 1) b))) (c0 + 1) (1 + 1) (lN (A.nv (1 + 1) b))) (c0 + 1) (2 + 1) (lN (A.nv (2 + 1) b))) := by
    intro j hj
    simp only [gl_sl]
    have : j = 0 ∨ j = 1 ∨ j = 2 ∨ j = 3 := by omega
    rcases this with z | z | z | z <;> subst z <;> simp
  generalize sl (sl (sl (sl w (c0 + 1) 0 (lN (A.nv 0 b))) (c0 + 1) (0 + 1) (lN (A.nv (0 + 1) b))) (c0 + 1) (1 + 1) (lN (A.nv (1 + 1) b))) (c0 + 1) (2 + 1) (lN (A.nv (2 + 1) b)) = w1 at E P
  show ∃ w', f_X1_begin_b2_y (f_X1_begin_b2 295) c0 (nI b) (nI 4) w1 = some w' ∧ _
  unfold f_X1_begin_b2_y
  have hs : sumN (fun j => A.nv j b) = allW A b := rfl
  have hal := X_all (c0 := c0) (d := 0) (by omega) P
  rw [hs, show (nI 0) = (0 : Int32) from rfl] at hal
  have hle := allW_le h.1 hb
  rw [if_pos (by decide), hal, bR_s]
  by_cases z : allW A b = 0
  · rw [if_pos ((lN_z (by omega)).mpr z), saL_d (by decide), show ix 0 = 0 from rfl]
    refine ⟨_, rfl, fun j hj => ?_, eqo_sl E (by simp [sPT])⟩
    unfold p0
    rw [if_pos z, gl_sl]
    by_cases zj : j = 0
    · subst zj; rw [if_pos ⟨rfl, rfl⟩, if_pos rfl]; rfl
    · rw [if_neg (by omega), if_neg zj, P j hj]
      have : A.nv j b = 0 := by
        unfold allW at z
        have : j = 1 ∨ j = 2 ∨ j = 3 := by omega
        rcases this with y | y | y <;> subst y <;> omega
      show lN (A.nv j b) = _
      rw [this]
  · rw [if_neg (fun q => z ((lN_z (by omega)).mp q))]
    refine ⟨_, rfl, fun j hj => ?_, E⟩
    unfold p0
    rw [if_neg z]
    exact P j hj
theorem VM_w {A : Ab} {w : Wd} (h : VM A w) {b j : Nat} (hb : b < 4) (hj : j < 4) : gi w 55 (4 * b + j) = nI (A.nv j b) := by
  have := h.2.2.1 j b (okb (by omega) hb)
  unfold mc mi at this
  rw [if_pos hj, if_pos hj] at this
  exact this
theorem M_allW {A : Ab} {b : Nat} {w : Wd} (h : VM A w) (hb : b < 4) : f_X12_allWeights (nI b) w = some (nI (allW A b)) := by
  unfold f_X12_allWeights
  have ed : ((4 : Int32) * nI b) = nI (4 * b) := by rw [show (4 : Int32) = nI 4 from rfl, pk_mul]
  have h0 : gi w 55 (4 * b) = nI (A.nv 0 b) := VM_w h hb (j := 0) (by omega)
  rw [ed, ldI_d (inb_nI (by omega) (by omega)), ix_nI (by omega), h0, show (1 : Int32) = nI 1 from rfl, show (2 : Int32) = nI 2 from rfl, show (3 : Int32) = nI 3 from rfl, nI_add, nI_add, nI_add, ldI_d (inb_nI (by omega) (by omega)), ix_nI (by omega), VM_w h hb (by omega), ldI_d (inb_nI (by omega) (by omega)), ix_nI (by omega), VM_w h hb (by omega), ldI_d (inb_nI (by omega) (by omega)), ix_nI (by omega), VM_w h hb (by omega), nI_add, nI_add, nI_add]
  rfl
theorem M_weightAt {A : Ab} {b j : Nat} {w : Wd} (h : VM A w) (hb : b < 4) (hj : j < 4) : f_X12_weightAt (nI b) (nI j) w = some (nI (p0 A b j)) := by
  have hle := allW_le h.1 hb
  unfold f_X12_weightAt p0
  rw [M_allW h hb, bR_s]
  have iff0 : (nI (allW A b) = (0 : Int32)) ↔ allW A b = 0 := by rw [show (0 : Int32) = nI 0 from rfl, nI_eq (by omega) (by omega)]
  have iffj : (nI j = (0 : Int32)) ↔ j = 0 := by rw [show (0 : Int32) = nI 0 from rfl, nI_eq (by omega) (by omega)]
  by_cases z : allW A b = 0
  · rw [if_pos (iff0.mpr z), if_pos z]
    by_cases zj : j = 0
    · rw [if_pos (iffj.mpr zj), if_pos zj]; rfl
    · rw [if_neg (fun q => zj (iffj.mp q)), if_neg zj]; rfl
  · have ed : ((4 : Int32) * nI b) = nI (4 * b) := by rw [show (4 : Int32) = nI 4 from rfl, pk_mul]
    rw [if_neg (fun q => z (iff0.mp q)), if_neg z, ed, nI_add, ldI_d (inb_nI (by omega) (by omega)), ix_nI (by omega), VM_w h hb hj]
theorem M_measure {A : Ab} {b : Nat} {w : Wd} (h : VM A w) (hb : b < 4) : f_X12_measureOf (nI b) w = some (nI (sumN (p0 A b))) := by
  have hle := allW_le h.1 hb
  unfold f_X12_measureOf
  rw [M_allW h hb, bR_s, p0_sum h.1 hb]
  have iff0 : (nI (allW A b) = (0 : Int32)) ↔ allW A b = 0 := by rw [show (0 : Int32) = nI 0 from rfl, nI_eq (by omega) (by omega)]
  by_cases z : allW A b = 0
  · rw [if_pos (iff0.mpr z), if_pos z]; rfl
  · rw [if_neg (fun q => z (iff0.mp q)), if_neg z, bR_s]
theorem M_begin {A : Ab} {b d : Nat} {w : Wd} (h : VM A w) (hb : b < 4) (hd : d < 7) : ∃ w', f_X12_beginParts (nI b) (nI d) w = some w' ∧ PT 71 d (p0 A b) w' ∧ eqo (sPT 71 d) w w' := by
  have ed : ((4 : Int32) * nI d) = nI (4 * d) := by rw [show (4 : Int32) = nI 4 from rfl, pk_mul]
  have hz : ∀ i n, i < 4 → ∀ w, VM A w → f_X12_beginParts_b2 (n + 1) (nI b) (nI d) (nI i) w = f_X12_beginParts_b2 n (nI b) (nI d) (nI (i + 1)) (sl w 71 (4 * d + i) (lN (p0 A b i))) := by
    intro i n hi w hw
    show f_X12_beginParts_b2_y (f_X12_beginParts_b2 n) (nI b) (nI d) (nI i) w = _
    unfold f_X12_beginParts_b2_y
    have := p0_le h.1 hb hi
    have t := nI_toInt (n := i) (by omega)
    rw [if_neg (by rw [fa_lt, t]; show ¬ (3 : Int) < (i : Int); omega), M_weightAt hw hb hi, bR_s, ed, nI_add, saL_d (inb_nI (by omega) (by omega)), ix_nI (by omega), nI_1, nI_l (by omega)]
  unfold f_X12_beginParts
  rw [show fu = 295 + 1 + 1 + 1 + 1 + 1 from rfl, show (0 : Int32) = nI 0 from rfl, hz 0 _ (by omega) w h, hz 1 _ (by omega) _ (VM_sl h _ _ _), hz 2 _ (by omega) _ (VM_sl (VM_sl h _ _ _) _ _ _), hz 3 _ (by omega) _ (VM_sl (VM_sl (VM_sl h _ _ _) _ _ _) _ _ _)]
  refine ⟨sl (sl (sl (sl w 71 (4 * d + 0) (lN (p0 A b 0))) 71 (4 * d + (0 + 1)) (lN (p0 A b (0 + 1)))) 71 (4 * d + (1 + 1)) (lN (p0 A b (1 + 1)))) 71 (4 * d + (2 + 1)) (lN (p0 A b (2 + 1))), ?_, ?_, ?_⟩
  · show f_X12_beginParts_b2_y (f_X12_beginParts_b2 295) (nI b) (nI d) (nI 4) _ = _
    unfold f_X12_beginParts_b2_y
    rw [if_pos (by decide)]
  · intro j hj
    simp only [gl_sl]
    have : j = 0 ∨ j = 1 ∨ j = 2 ∨ j = 3 := by omega
    rcases this with z | z | z | z <;> subst z <;> simp
  · refine eqo_sl (eqo_sl (eqo_sl (eqo_sl (eqo_rf w) ?_) ?_) ?_) ?_ <;> simp [sPT]
