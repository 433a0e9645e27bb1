/-! DRAWS -/
def dz (z : Int32) : Int32 := z * (1103515245 : Int32) + (12345 : Int32)
def du (z : Int32) : Nat := (iushr z 8).toBitVec.toNat
theorem du_ok (z : Int32) : iushr z 8 = nI (du z) ∧ du z < 16777216 := by
  have h := pk_ushr z 8 8 (by decide)
  have h2 : (iushr z 8).toBitVec.toNat = z.toBitVec.toNat / 2 ^ 8 := h
  have hz := z.toBitVec.isLt
  refine ⟨?_, ?_⟩
  · apply Int32.toBitVec_inj.mp
    show (iushr z 8).toBitVec = BitVec.ofNat 32 (iushr z 8).toBitVec.toNat
    rw [BitVec.ofNat_toNat, BitVec.setWidth_eq]
  · unfold du
    rw [h2]
    omega
theorem X_draw {n : Nat} {z : Int32} {w : Wd} (hz : gi w 36 0 = z) (h0 : 0 < n) (hn : n < 2 ^ 31) : f_X3_draw (nI n) w = some (nI (du (dz z) % n), si w 36 0 (dz z)) := by
  unfold f_X3_draw
  obtain ⟨e1, e2⟩ := du_ok (dz z)
  have t := nI_toInt hn
  have g : gi (si w 36 0 (dz z)) 36 0 = dz z := by rw [gi_si, if_pos ⟨rfl, rfl⟩]
  have nz : ¬ nI n = 0 := by rw [show (0 : Int32) = nI 0 from rfl, nI_eq hn (by omega)]; omega
  rw [hz, stI_d, show z * (1103515245 : Int32) + (12345 : Int32) = dz z from rfl, if_pos (by rw [fa_lt, t, ti_0]; omega), g, e1, rmI_d nz]
  unfold ire
  rw [pk_rem (by omega) h0 hn]
theorem M_draw {n : Nat} {z : Int32} {w : Wd} (hz : gi w 54 44 = z) (h0 : 0 < n) (hn : n < 2 ^ 31) : f_X12_draw (nI n) w = some (nI (du (dz z) % n), si w 54 44 (dz z)) := by
  unfold f_X12_draw
  obtain ⟨e1, e2⟩ := du_ok (dz z)
  have g : gi (si w 54 44 (dz z)) 54 44 = dz z := by rw [gi_si, if_pos ⟨rfl, rfl⟩]
  have nz : ¬ nI n = 0 := by rw [show (0 : Int32) = nI 0 from rfl, nI_eq hn (by omega)]; omega
  rw [hz, stI_d, show z * (1103515245 : Int32) + (12345 : Int32) = dz z from rfl, g, e1, rmI_d nz]
  unfold ire
  rw [pk_rem (by omega) h0 hn]
/-- how many stones are drawn -/
def stW (g : Nat → Nat) : Nat → Nat → Nat → Nat
  | 0, j, _ => j
  | f + 1, j, a => if a < g j then j else stW g f (j + 1) (a - g j)
def stV (A : Ab) (b : Nat) (z : Int32) : Nat := if allW A b = 0 then 0 else stW (fun j => A.nv j b) 3 0 (du (dz z) % allW A b)
def stZ' (A : Ab) (b : Nat) (z : Int32) : Int32 := if allW A b = 0 then z else dz z
theorem stW_le {g : Nat → Nat} : ∀ f j a, stW g f j a ≤ j + f
  | 0, _, _ => Nat.le_refl _
  | f + 1, j, a => by
    unfold stW
    split
    · omega
    · have := stW_le (g := g) f (j + 1) (a - g j)
      omega
theorem stV_le (A : Ab) (b : Nat) (z : Int32) : stV A b z ≤ 3 := by
  unfold stV
  split
  · omega
  · have := stW_le (g := fun j => A.nv j b) 3 0 (du (dz z) % allW A b)
    omega
theorem X_stw {A : Ab} {b : Nat} {w : Wd} (hX : VX A w) (hb : b < 4) : ∀ (f n j a : Nat), j + f = 3 → f < n → a < 1000 → f_X3_stones_b43 n (nI b) (nI a) (nI j) w = some (nI (stW (fun j => A.nv j b) f j a), w)
  | 0, 0, _, _, _, h, _ => absurd h (by omega)
  | 0, n + 1, j, a, hj, _, _ => by
    have hj3 : j = 3 := hj
    subst hj3
    show f_X3_stones_b43_y (f_X3_stones_b43 n) (nI b) (nI a) (nI 3) w = _
    unfold f_X3_stones_b43_y
    rw [if_pos (by decide)]
    rfl
  | f + 1, 0, _, _, _, h, _ => absurd h (by omega)
  | f + 1, n + 1, j, a, hj, hn, ha => by
    have wj := nv_bag hX.1 hb (j := j) (by omega)
    show f_X3_stones_b43_y (f_X3_stones_b43 n) (nI b) (nI a) (nI j) w = _
    unfold f_X3_stones_b43_y
    have s1 : (nI a - nI (A.nv j b)).toInt = (a : Int) - A.nv j b := pk_sub_toInt (by omega) (by omega)
    rw [if_neg (by rw [show (3 : Int32) = nI 3 from rfl, nI_leI (by omega) (by omega)]; omega), VX_get hX (okb (by omega) hb) (by omega), bR_s, lt_d]
    unfold stW
    by_cases c : a < A.nv j b
    · rw [if_neg (by rw [fa_le, s1, ti_0]; omega), if_pos c]
    · rw [if_pos (by rw [fa_le, s1, ti_0]; omega), if_neg c, pk_sub (by omega), nI_1]
      exact X_stw hX hb f n (j + 1) (a - A.nv j b) (by omega) (by omega) (by omega)
theorem X_stones3 {A : Ab} {b : Nat} {z : Int32} {w : Wd} (hX : VX A w) (hb : b < 4) (hz : gi w 36 0 = z) : ∃ w', f_X3_stones (nI b) w = some (nI (stV A b z), w') ∧ gi w' 36 0 = stZ' A b z ∧ (∀ c k, ¬ (c = 36 ∧ k = 0) → gi w' c k = gi w c k) ∧ ∀ c k, gl w' c k = gl w c k := by
  have hle := allW_le hX.1 hb
  have st : ∀ i n a, i < 4 → f_X3_stones_b5 (n + 1) (nI b) (nI a) (nI i) w = f_X3_stones_b5 n (nI b) (nI (a + A.nv i b)) (nI (i + 1)) w := by
    intro i n a hi
    have t := nI_toInt (n := i) (by omega)
    show f_X3_stones_b5_y (f_X3_stones_b5 n) (nI b) (nI a) (nI i) w = _
    unfold f_X3_stones_b5_y
    rw [if_neg (by rw [fa_lt, t]; show ¬ (3 : Int) < (i : Int); omega), VX_get hX (okb (by omega) hb) (by omega), bR_s, lt_d, nI_add, nI_1]
  unfold f_X3_stones
  rw [show fu = 295 + 1 + 1 + 1 + 1 + 1 from rfl, show (0 : Int32) = nI 0 from rfl, st 0 _ _ (by omega), st 1 _ _ (by omega), st 2 _ _ (by omega), st 3 _ _ (by omega)]
  have eW : 0 + A.nv 0 b + A.nv 1 b + A.nv 2 b + A.nv 3 b = allW A b := by unfold allW; omega
  rw [eW]
  show ∃ w', f_X3_stones_b5_y (f_X3_stones_b5 295) (nI b) (nI (allW A b)) (nI 4) w = _ ∧ _
  unfold f_X3_stones_b5_y stV stZ'
  rw [if_pos (by decide)]
  have iff0 : (nI (allW A b) = (0 : Int32)) ↔ allW A b = 0 := by rw [show (0 : Int32) = nI 0 from rfl, nI_eq (by omega) (by omega)]
  by_cases c : allW A b = 0
  · rw [if_pos (iff0.mpr c), if_pos c, if_pos c]
    exact ⟨w, rfl, hz, fun _ _ _ => rfl, fun _ _ => rfl⟩
  · rw [if_neg (fun q => c (iff0.mp q)), if_neg c, if_neg c, X_draw hz (by omega) (by omega), bW_s]
    have hX' : VX A (si w 36 0 (dz z)) := VX_cg hX (fun c k h => by
      rw [gi_si, if_neg]
      intro q
      rw [q.1] at h
      revert h
      unfold aVX
      simp)
    have hlt : du (dz z) % allW A b < allW A b := Nat.mod_lt _ (by omega)
    refine ⟨si w 36 0 (dz z), X_stw hX' hb 3 fu 0 _ (by omega) (by show 3 < 300; omega) (by omega), by rw [gi_si, if_pos ⟨rfl, rfl⟩], fun c k h => by rw [gi_si, if_neg h], fun c k => rfl⟩
def sWt (A : Ab) (b : Nat) : Nat → Nat
  | 0 => A.nv 3 b
  | f + 1 => A.nv (2 - f) b + sWt A b f
theorem M_stw {A : Ab} {b : Nat} {w : Wd} (hM : VM A w) (hb : b < 4) : ∀ (f n j a : Nat), j + f = 3 → f < n → a < sWt A b f → a < 1000 → f_X12_drawStones_b22 n (nI b) (nI a) (nI j) w = some (nI (stW (fun j => A.nv j b) f j a), w)
  | 0, 0, _, _, _, h, _, _ => absurd h (by omega)
  | 0, n + 1, j, a, hj, _, ha, ha2 => by
    have hj3 : j = 3 := hj
    subst hj3
    have w3 := nv_bag hM.1 hb (j := 3) (by omega)
    have ha' : a < A.nv 3 b := ha
    show f_X12_drawStones_b22_y (f_X12_drawStones_b22 n) (nI b) (nI a) (nI 3) w = _
    unfold f_X12_drawStones_b22_y
    have ta := nI_toInt (n := a) (by omega)
    have tw := nI_toInt (n := A.nv 3 b) (by omega)
    rw [show (4 : Int32) = nI 4 from rfl, pk_mul, nI_add, ldI_d (inb_nI (by omega) (by omega)), ix_nI (by omega), VM_w hM hb (by omega), if_pos (by rw [fa_lt, ta, tw]; omega)]
    rfl
  | f + 1, 0, _, _, _, h, _, _ => absurd h (by omega)
  | f + 1, n + 1, j, a, hj, hn, ha, ha2 => by
    have wj := nv_bag hM.1 hb (j := j) (by omega)
    have hjf : 2 - f = j := by omega
    have ha' : a < A.nv (2 - f) b + sWt A b f := ha
    rw [hjf] at ha'
    show f_X12_drawStones_b22_y (f_X12_drawStones_b22 n) (nI b) (nI a) (nI j) w = _
    unfold f_X12_drawStones_b22_y
    have ta := nI_toInt (n := a) (by omega)
    have tw := nI_toInt (n := A.nv j b) (by omega)
    rw [show (4 : Int32) = nI 4 from rfl, pk_mul, nI_add, ldI_d (inb_nI (by omega) (by omega)), ix_nI (by omega), VM_w hM hb (by omega), ldI_d (inb_nI (by omega) (by omega)), ix_nI (by omega), VM_w hM hb (by omega), lt_d]
    unfold stW
    by_cases c : a < A.nv j b
    · rw [if_pos (by rw [fa_lt, ta, tw]; omega), if_pos c]
    · rw [if_neg (by rw [fa_lt, ta, tw]; omega), if_neg c, pk_sub (by omega), nI_1]
      exact M_stw hM hb f n (j + 1) (a - A.nv j b) (by omega) (by omega) (by omega) (by omega)
theorem M_stones4 {A : Ab} {b : Nat} {z : Int32} {w : Wd} (hM : VM A w) (hb : b < 4) (hz : gi w 54 44 = z) : ∃ w', f_X12_drawStones (nI b) w = some (nI (stV A b z), w') ∧ gi w' 54 44 = stZ' A b z ∧ (∀ c k, ¬ (c = 54 ∧ k = 44) → gi w' c k = gi w c k) ∧ ∀ c k, gl w' c k = gl w c k := by
  have hle := allW_le hM.1 hb
  unfold f_X12_drawStones stV stZ'
  rw [M_allW hM hb, bR_s]
  have iff0 : (nI (allW A b) = (0 : Int32)) ↔ allW A b = 0 := by rw [show (0 : Int32) = nI 0 from rfl, nI_eq (by omega) (by omega)]
  by_cases c : allW A b = 0
  · rw [if_pos (iff0.mpr c), if_pos c, if_pos c]
    exact ⟨w, rfl, hz, fun _ _ _ => rfl, fun _ _ => rfl⟩
  · rw [if_neg (fun q => c (iff0.mp q)), if_neg c, if_neg c, bR_s, M_draw hz (by omega) (by omega), bW_s]
    have hM' : VM A (si w 54 44 (dz z)) := VM_cg hM (fun c k h => by
      rw [gi_si, if_neg]
      intro q
      rw [q.1, q.2] at h
      exact absurd h (by decide))
    have hlt : du (dz z) % allW A b < allW A b := Nat.mod_lt _ (by omega)
    have hsw : sWt A b 3 = allW A b := by
      show A.nv 0 b + (A.nv 1 b + (A.nv 2 b + A.nv 3 b)) = _
      unfold allW
      omega
    refine ⟨si w 54 44 (dz z), M_stw hM' hb 3 fu 0 _ (by omega) (by show 3 < 300; omega) (by omega) (by omega), by rw [gi_si, if_pos ⟨rfl, rfl⟩], fun c k h => by rw [gi_si, if_neg h], fun c k => rfl⟩
/-- how many are found -/
def fdN (sh : Nat) : Nat → Nat → Int32 → Nat × Int32
  | 0, acc, z => (acc, z)
  | k + 1, acc, z => if sh ≤ du (dz z) % 12 then fdN sh k acc (dz z) else fdN sh k (acc + 1) (dz z)
theorem fdN_le {sh : Nat} : ∀ k acc z, acc ≤ (fdN sh k acc z).1 ∧ (fdN sh k acc z).1 ≤ acc + k
  | 0, acc, z => ⟨Nat.le_refl _, Nat.le_refl _⟩
  | k + 1, acc, z => by
    unfold fdN
    split
    · have := fdN_le (sh := sh) k acc (dz z)
      omega
    · have := fdN_le (sh := sh) k (acc + 1) (dz z)
      omega
theorem X_fdL {s sh : Nat} (hs : s ≤ 3) (hsh : sh ≤ 12) : ∀ (k n i acc : Nat) (z : Int32) (w : Wd), i + k = s → k < n → acc ≤ i → gi w 36 0 = z → ∃ w', f_X3_found_b5 n (nI s) (nI sh) (nI acc) (nI i) w = some (nI (fdN sh k acc z).1, w') ∧ gi w' 36 0 = (fdN sh k acc z).2 ∧ (∀ c k, ¬ (c = 36 ∧ k = 0) → gi w' c k = gi w c k) ∧ ∀ c k, gl w' c k = gl w c k
  | 0, 0, _, _, _, _, _, h, _, _ => absurd h (by omega)
  | 0, n + 1, i, acc, z, w, hi, _, _, hz => by
    refine ⟨w, ?_, hz, fun _ _ _ => rfl, fun _ _ => rfl⟩
    show f_X3_found_b5_y (f_X3_found_b5 n) (nI s) (nI sh) (nI acc) (nI i) w = _
    unfold f_X3_found_b5_y
    rw [if_pos (by rw [nI_leI (by omega) (by omega)]; omega)]
    rfl
  | k + 1, 0, _, _, _, _, _, h, _, _ => absurd h (by omega)
  | k + 1, n + 1, i, acc, z, w, hi, hn, ha, hz => by
    have e0 : f_X3_found_b5 (n + 1) (nI s) (nI sh) (nI acc) (nI i) w = f_X3_found_b5_y (f_X3_found_b5 n) (nI s) (nI sh) (nI acc) (nI i) w := rfl
    have hd := X_draw (n := 12) hz (by omega) (by omega)
    have hd' : f_X3_draw 12 w = some (nI (du (dz z) % 12), si w 36 0 (dz z)) := hd
    have iffc : (nI sh ≤ nI (du (dz z) % 12)) ↔ sh ≤ du (dz z) % 12 := nI_leI (by omega) (by omega)
    have g : gi (si w 36 0 (dz z)) 36 0 = dz z := by rw [gi_si, if_pos ⟨rfl, rfl⟩]
    rw [e0]
    unfold f_X3_found_b5_y f_X3_found_b24 fdN
    rw [if_neg (by rw [nI_leI (by omega) (by omega)]; omega), hd', bW_s, nI_1, nI_1]
    by_cases c : sh ≤ du (dz z) % 12
    · rw [if_pos (iffc.mpr c), if_pos c]
      obtain ⟨w', q1, q2, q3, q4⟩ := X_fdL hs hsh k n (i + 1) acc (dz z) _ (by omega) (by omega) (by omega) g
      exact ⟨w', q1, q2, fun c k h => by rw [q3 c k h, gi_si, if_neg h], fun c k => by rw [q4 c k]; rfl⟩
    · rw [if_neg (fun q => c (iffc.mp q)), if_neg c]
      obtain ⟨w', q1, q2, q3, q4⟩ := X_fdL hs hsh k n (i + 1) (acc + 1) (dz z) _ (by omega) (by omega) (by omega) g
      exact ⟨w', q1, q2, fun c k h => by rw [q3 c k h, gi_si, if_neg h], fun c k => by rw [q4 c k]; rfl⟩
theorem X_fd {s sh : Nat} {z : Int32} {w : Wd} (hs : s ≤ 3) (hsh : sh ≤ 12) (hz : gi w 36 0 = z) : ∃ w', f_X3_found (nI s) (nI sh) w = some (nI (fdN sh s 0 z).1, w') ∧ gi w' 36 0 = (fdN sh s 0 z).2 ∧ (∀ c k, ¬ (c = 36 ∧ k = 0) → gi w' c k = gi w c k) ∧ ∀ c k, gl w' c k = gl w c k := by
  unfold f_X3_found
  exact X_fdL hs hsh s fu 0 0 z w (by omega) (by show s < 300; omega) (by omega) hz
theorem M_fdL {s sh : Nat} (hs : s ≤ 3) (hsh : sh ≤ 12) : ∀ (k n i acc : Nat) (z : Int32) (w : Wd), i + k = s → k < n → acc ≤ i → gi w 54 44 = z → ∃ w', f_X12_drawFound_b5 n (nI s) (nI sh) (nI acc) (nI i) w = some (nI (fdN sh k acc z).1, w') ∧ gi w' 54 44 = (fdN sh k acc z).2 ∧ (∀ c k, ¬ (c = 54 ∧ k = 44) → gi w' c k = gi w c k) ∧ ∀ c k, gl w' c k = gl w c k
  | 0, 0, _, _, _, _, _, h, _, _ => absurd h (by omega)
  | 0, n + 1, i, acc, z, w, hi, _, _, hz => by
    refine ⟨w, ?_, hz, fun _ _ _ => rfl, fun _ _ => rfl⟩
    show f_X12_drawFound_b5_y (f_X12_drawFound_b5 n) (nI s) (nI sh) (nI acc) (nI i) w = _
    unfold f_X12_drawFound_b5_y
    rw [if_pos (by rw [nI_leI (by omega) (by omega)]; omega)]
    rfl
  | k + 1, 0, _, _, _, _, _, h, _, _ => absurd h (by omega)
  | k + 1, n + 1, i, acc, z, w, hi, hn, ha, hz => by
    have e0 : f_X12_drawFound_b5 (n + 1) (nI s) (nI sh) (nI acc) (nI i) w = f_X12_drawFound_b5_y (f_X12_drawFound_b5 n) (nI s) (nI sh) (nI acc) (nI i) w := rfl
    have hd := M_draw (n := 12) hz (by omega) (by omega)
    have hd' : f_X12_draw 12 w = some (nI (du (dz z) % 12), si w 54 44 (dz z)) := hd
    have iffc : (nI sh ≤ nI (du (dz z) % 12)) ↔ sh ≤ du (dz z) % 12 := nI_leI (by omega) (by omega)
    have g : gi (si w 54 44 (dz z)) 54 44 = dz z := by rw [gi_si, if_pos ⟨rfl, rfl⟩]
    rw [e0]
    unfold f_X12_drawFound_b5_y f_X12_drawFound_b24 fdN
    rw [if_neg (by rw [nI_leI (by omega) (by omega)]; omega), hd', bW_s, nI_1, nI_1]
    by_cases c : sh ≤ du (dz z) % 12
    · rw [if_pos (iffc.mpr c), if_pos c]
      obtain ⟨w', q1, q2, q3, q4⟩ := M_fdL hs hsh k n (i + 1) acc (dz z) _ (by omega) (by omega) (by omega) g
      exact ⟨w', q1, q2, fun c k h => by rw [q3 c k h, gi_si, if_neg h], fun c k => by rw [q4 c k]; rfl⟩
    · rw [if_neg (fun q => c (iffc.mp q)), if_neg c]
      obtain ⟨w', q1, q2, q3, q4⟩ := M_fdL hs hsh k n (i + 1) (acc + 1) (dz z) _ (by omega) (by omega) (by omega) g
      exact ⟨w', q1, q2, fun c k h => by rw [q3 c k h, gi_si, if_neg h], fun c k => by rw [q4 c k]; rfl⟩
theorem M_fd {s sh : Nat} {z : Int32} {w : Wd} (hs : s ≤ 3) (hsh : sh ≤ 12) (hz : gi w 54 44 = z) : ∃ w', f_X12_drawFound (nI s) (nI sh) w = some (nI (fdN sh s 0 z).1, w') ∧ gi w' 54 44 = (fdN sh s 0 z).2 ∧ (∀ c k, ¬ (c = 54 ∧ k = 44) → gi w' c k = gi w c k) ∧ ∀ c k, gl w' c k = gl w c k := by
  unfold f_X12_drawFound
  exact M_fdL hs hsh s fu 0 0 z w (by omega) (by show s < 300; omega) (by omega) hz
