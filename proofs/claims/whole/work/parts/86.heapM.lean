/-! HEAPS: the model; heaps -/
def FM (A : Ab) (k : Nat) (w : Wd) : Prop := ∀ j, j < k → ∀ h, h ≤ 40 → gi w 73 (41 * j + h) = nI (lkd A j h)
def sFM (k lo c j : Nat) : Bool := sEZ c j || (c == 73 && (decide (41 * k + lo ≤ j) && decide (j < 41 * k + 41)))
theorem sFM_s {k lo : Nat} : ∀ c j, sFM k lo c j = true → scr c j = true := by
  intro c j h
  simp only [sFM, sEZ, scr, Bool.or_eq_true, Bool.and_eq_true, beq_iff_eq, decide_eq_true_eq] at h ⊢
  omega
theorem M_fp {A : Ab} {k : Nat} (hk : k < A.L) (hk3 : k < 3) (k56 : Int32 → Int32 → Int32 → Int32 → Wd → Option (Int32 × Wd)) (x1 x2 x3 : Int32) : ∀ (f n' h : Nat) (w : Wd), h + f = 41 → f < n' → VM A w → ∃ w', f_X12_heaps_b68 k56 n' x1 x2 x3 (nI k) (nI h) w = k56 x1 x2 x3 (nI (k + 1)) w' ∧ (∀ h', h ≤ h' → h' ≤ 40 → gi w' 73 (41 * k + h') = nI (lkd A k h')) ∧ eqo (sFM k h) w w'
  | 0, 0, _, _, _, h, _ => absurd h (by omega)
  | 0, n' + 1, h, w, hh, _, _ => by
    have th := nI_toInt (n := h) (by omega)
    have t40 : (40 : Int32).toInt = 40 := rfl
    refine ⟨w, ?_, fun h' h1 h2 => absurd h2 (by omega), eqo_rf w⟩
    show f_X12_heaps_b68_y k56 (f_X12_heaps_b68 k56 n') x1 x2 x3 (nI k) (nI h) w = _
    unfold f_X12_heaps_b68_y
    rw [if_pos (by rw [fa_lt, t40, th]; omega), nI_1]
  | f + 1, 0, _, _, _, h, _ => absurd h (by omega)
  | f + 1, n' + 1, h, w, hh, hf, hV => by
    have th := nI_toInt (n := h) (by omega)
    have t40 : (40 : Int32).toInt = 40 := rfl
    have d5 : nI h / 5 = nI (h / 5) := by rw [show (5 : Int32) = nI 5 from rfl, pk_div (by omega) (by omega) (by omega)]
    have g9 : gi w 54 8 = nI (A.nv 9 0) := hV.2.2.1 9 0 ok9
    obtain ⟨w1, p1, p2⟩ := M_tw hV hk 0 (nI (A.nv 9 0 + h / 5))
    have hlk : h * twv A k 0 (nI (A.nv 9 0 + h / 5)) = lkd A k h := by unfold lkd; rw [if_pos hk]
    have E2 : eqo (sFM k h) w (si w1 73 (41 * k + h) (nI (lkd A k h))) := eqo_si (eqo_mono p2 (fun c j z => by unfold sFM; rw [z]; rfl)) (by
      unfold sFM
      simp only [Bool.or_eq_true, Bool.and_eq_true, beq_iff_eq, decide_eq_true_eq]
      exact Or.inr ⟨trivial, by omega, by omega⟩)
    obtain ⟨w2, q1, q2, q3⟩ := M_fp hk hk3 k56 x1 x2 x3 f n' (h + 1) (si w1 73 (41 * k + h) (nI (lkd A k h))) (by omega) (by omega) (VM_s hV (eqo_mono E2 sFM_s))
    refine ⟨w2, ?_, fun h' h1 h2 => ?_, eqo_tr E2 (eqo_mono q3 ?_)⟩
    · show f_X12_heaps_b68_y k56 (f_X12_heaps_b68 k56 n') x1 x2 x3 (nI k) (nI h) w = _
      unfold f_X12_heaps_b68_y
      rw [if_neg (by rw [fa_lt, t40, th]; omega), g9, d5, nI_add, p1, bW_s, show (41 : Int32) = nI 41 from rfl, pk_mul, nI_add, pk_mul, hlk, saI_d (inb_nI (by omega) (by omega)), ix_nI (by omega), nI_1]
      exact q1
    · by_cases z : h' = h
      · subst z
        rw [(q3 73 _ (by unfold sFM; simp [sEZ]; omega)).1, gi_si, if_pos ⟨rfl, rfl⟩]
      · exact q2 h' (by omega) h2
    · intro c j z
      simp only [sFM, Bool.or_eq_true, Bool.and_eq_true, beq_iff_eq, decide_eq_true_eq] at z ⊢
      rcases z with z | z
      · exact Or.inl z
      · exact Or.inr (by omega)
theorem M_hp {A : Ab} (hL : A.L ≤ 3) (x1 x2 x3 : Int32) : ∀ (f n' k : Nat) (w : Wd), k + f = A.L → f < n' → VM A w → FM A k w → ∃ w', f_X12_heaps_b56 n' x1 x2 x3 (nI k) w = f_X12_heaps_b137 fu x1 x2 x3 (-1) 0 0 0 0 0 w' ∧ VM A w' ∧ FM A A.L w' ∧ eqo scr w w'
  | 0, 0, _, _, _, h, _, _ => absurd h (by omega)
  | 0, n' + 1, k, w, hk, _, hV, hF => by
    have hkL : k = A.L := hk
    refine ⟨w, ?_, hV, by rw [← hkL]; exact hF, eqo_rf w⟩
    show f_X12_heaps_b56_y (f_X12_heaps_b56 n') x1 x2 x3 (nI k) w = _
    unfold f_X12_heaps_b56_y
    rw [hV.2.1, if_pos (by rw [nI_leI (by omega) (by omega)]; omega)]
  | f + 1, 0, _, _, _, h, _, _ => absurd h (by omega)
  | f + 1, n' + 1, k, w, hk, hf, hV, hF => by
    obtain ⟨w1, p1, p2, p3⟩ := M_fp (k := k) (A := A) (by omega) (by omega) (f_X12_heaps_b56 n') x1 x2 x3 41 fu 0 w (by omega) (by show 41 < 300; omega) hV
    have E1 := eqo_mono p3 (sFM_s (k := k) (lo := 0))
    obtain ⟨w2, q1, q2, q3, q4⟩ := M_hp hL x1 x2 x3 f n' (k + 1) w1 (by omega) (by omega) (VM_s hV E1) (fun j hj h hh => by
      by_cases z : j = k
      · subst z; exact p2 h (by omega) hh
      · rw [(p3 73 _ (by unfold sFM; simp [sEZ]; omega)).1]; exact hF j (by omega) h hh)
    refine ⟨w2, ?_, q2, q3, eqo_tr E1 q4⟩
    show f_X12_heaps_b56_y (f_X12_heaps_b56 n') x1 x2 x3 (nI k) w = _
    unfold f_X12_heaps_b56_y
    rw [hV.2.1, if_neg (by rw [nI_leI (by omega) (by omega)]; omega)]
    exact p1.trans q1
theorem ub_le (A : Ab) (k n : Nat) : ub A k n ≤ n ∧ (A.L ≤ k → ub A k n = 0) := by
  unfold ub
  by_cases z : k < A.L
  · rw [if_pos z]; exact ⟨Nat.le_refl _, fun q => absurd q (by omega)⟩
  · rw [if_neg z]; exact ⟨by omega, fun _ => rfl⟩
theorem M_sel {A : Ab} {k h : Nat} {w : Wd} (hF : FM A A.L w) (hh : h ≤ 40) : gi w 73 (41 * k + h) * (if A.L ≤ k then 0 else 1) = nI (lkd A k h) := by
  by_cases z : A.L ≤ k
  · rw [if_pos z]
    unfold lkd
    rw [if_neg (by omega)]
    exact Int32.mul_zero
  · rw [if_neg z, hF k (by omega) h hh]
    exact Int32.mul_one _
theorem M_wg {A : Ab} (hA : Aok A) (hL : A.L ≤ 3) {n m a b c : Nat} {S : HS} {w : Wd} (k137 : Int32 → Int32 → Int32 → Int32 → Int32 → Int32 → Int32 → Int32 → Int32 → Wd → Option (Int32 × Wd)) (k157 : Int32 → Int32 → Int32 → Int32 → Int32 → Int32 → Int32 → Int32 → Int32 → Int32 → Wd → Option (Int32 × Wd)) (k181 : Int32 → Int32 → Int32 → Int32 → Int32 → Int32 → Int32 → Int32 → Int32 → Int32 → Int32 → Wd → Option (Int32 × Wd)) (x3 : Int32) (hn : n ≤ 40) (hm : m ≤ 999) (hV : VM A w) (hF : FM A A.L w) (hB : hsB S) (ha : a ≤ ub A 0 n) (hb : b ≤ ub A 1 (n - a)) (hc : c ≤ ub A 2 (n - a - b)) (han : a ≤ n) (hbn : b ≤ n - a) : f_X12_heaps_b181_y k137 k157 k181 (nI n) (nI m) x3 (nI S.T - 1) (nI S.c) (nI S.x) (nI S.y) (nI S.z) (nI a) (nI b) (nI c) w = k181 (nI n) (nI m) x3 (nI (hst A m a b c S).T - 1) (nI (hst A m a b c S).c) (nI (hst A m a b c S).x) (nI (hst A m a b c S).y) (nI (hst A m a b c S).z) (nI a) (nI b) (nI (c + 1)) w := by
  have u0 := ub_le A 0 n
  have u1 := ub_le A 1 (n - a)
  have u2 := ub_le A 2 (n - a - b)
  have c0 : gi w 58 0 = nI (A.nv 6 0) := hV.2.2.1 6 0 (okL (Or.inr rfl) (by omega))
  have c1 : gi w 58 1 = nI (A.nv 6 1) := hV.2.2.1 6 1 (okL (Or.inr rfl) (by omega))
  have c2 : gi w 58 2 = nI (A.nv 6 2) := hV.2.2.1 6 2 (okL (Or.inr rfl) (by omega))
  have py : ∀ k h, (A.L ≤ k → h = 0) → nI (A.nv 6 k) * nI h = nI (h * cN A k) := by
    intro k h hh
    rw [pk_mul, Nat.mul_comm]
    unfold cN
    by_cases z : k < A.L
    · rw [if_pos z]
    · rw [if_neg z, hh (by omega), Nat.zero_mul, Nat.zero_mul]
  have e0 := py 0 a (fun z => by have := u0.2 z; omega)
  have e1 := py 1 b (fun z => by have := u1.2 z; omega)
  have e2 := py 2 c (fun z => by have := u2.2 z; omega)
  have s0 := M_sel (k := 0) (h := a) hF (by omega)
  have s1 := M_sel (k := 1) (h := b) hF (by omega)
  have s2 := M_sel (k := 2) (h := c) hF (by omega)
  rw [show 41 * 0 + a = a by omega] at s0
  have l0 := lkd_le (A := A) (k := 0) (h := a) (by omega)
  have l1 := lkd_le (A := A) (k := 1) (h := b) (by omega)
  have l2 := lkd_le (A := A) (k := 2) (h := c) (by omega)
  have p0 := Nat.mul_le_mul (show a ≤ 40 by omega) (cN_le hA 0)
  have p1 := Nat.mul_le_mul (show b ≤ 40 by omega) (cN_le hA 1)
  have p2 := Nat.mul_le_mul (show c ≤ 40 by omega) (cN_le hA 2)
  obtain ⟨b1, b2, b3, b4, b5⟩ := hB
  have tT : (nI S.T - 1).toInt = (S.T : Int) - 1 := pk_sub_toInt (a := S.T) (b := 1) (by omega) (by omega)
  have tcc := nI_toInt (n := c) (by omega)
  -- the last choice
  have fin : ∀ (s0v s1v s2v : Int32), s2v + s1v * s0v = nI (lkd A 0 a + lkd A 1 b + lkd A 2 c) → f_X12_heaps_b304 k137 k157 k181 (nI n) (nI m) x3 (nI S.T - 1) (nI S.c) (nI S.x) (nI S.y) (nI S.z) (nI a) (nI b) (nI c) (nI (a * cN A 0 + b * cN A 1 + c * cN A 2)) s0v s1v s2v w = k181 (nI n) (nI m) x3 (nI (hst A m a b c S).T - 1) (nI (hst A m a b c S).c) (nI (hst A m a b c S).x) (nI (hst A m a b c S).y) (nI (hst A m a b c S).z) (nI a) (nI b) (nI (c + 1)) w := by
    intro s0v s1v s2v hs
    unfold f_X12_heaps_b304 f_X12_heaps_b338 f_X12_heaps_b358 hst
    rw [lt_d, hs, nI_1]
    generalize hpd : a * cN A 0 + b * cN A 1 + c * cN A 2 = pd at *
    generalize hsn : lkd A 0 a + lkd A 1 b + lkd A 2 c = sn at *
    have tp := nI_toInt (n := pd) (by omega)
    have tc := nI_toInt (n := S.c) (by omega)
    have ts := nI_toInt (n := sn) (by omega)
    have tm := nI_toInt (n := m) (by omega)
    have iffe : (nI sn = nI S.T - 1) ↔ sn + 1 = S.T := by
      rw [← Int32.toInt_inj, ts, tT]
      omega
    by_cases d1 : m < pd
    · rw [if_pos (by rw [fa_lt, tm, tp]; omega), if_pos d1]
    rw [if_neg (by rw [fa_lt, tm, tp]; omega), if_neg d1]
    by_cases d2 : sn + 1 < S.T
    · rw [if_pos (by rw [fa_lt, ts, tT]; omega), if_pos d2]
    rw [if_neg (by rw [fa_lt, ts, tT]; omega), if_neg d2]
    by_cases d3 : sn + 1 = S.T
    · rw [if_pos (iffe.mpr d3)]
      by_cases d4 : pd < S.c
      · rw [if_pos (by rw [fa_lt, tp, tc]; omega), if_neg (fun q => q.2 d4), nI_pred]
      · rw [if_neg (by rw [fa_lt, tp, tc]; omega), if_pos ⟨d3, d4⟩]
    · rw [if_neg (fun q => d3 (iffe.mp q)), if_neg (fun q => d3 q.1), nI_pred]
  have st3 : ∀ (s0v s1v s2v : Int32), s2v + s1v * s0v = nI (lkd A 0 a + lkd A 1 b) → f_X12_heaps_b279 k137 k157 k181 (nI n) (nI m) x3 (nI S.T - 1) (nI S.c) (nI S.x) (nI S.y) (nI S.z) (nI a) (nI b) (nI c) (nI (a * cN A 0 + b * cN A 1 + c * cN A 2)) s0v s1v s2v w = k181 (nI n) (nI m) x3 (nI (hst A m a b c S).T - 1) (nI (hst A m a b c S).c) (nI (hst A m a b c S).x) (nI (hst A m a b c S).y) (nI (hst A m a b c S).z) (nI a) (nI b) (nI (c + 1)) w := by
    intro s0v s1v s2v hs
    unfold f_X12_heaps_b279
    rw [show (82 : Int32) = nI 82 from rfl, nI_add, ldI_d (inb_nI (by omega) (by omega)), ix_nI (by omega), hV.2.1, hs]
    by_cases z : A.L ≤ 2
    · rw [if_pos z] at s2
      rw [if_pos (by rw [show (2 : Int32) = nI 2 from rfl, nI_leI (by omega) (by omega)]; exact z)]
      exact fin _ _ _ (by rw [s2, nI_add])
    · rw [if_neg z] at s2
      rw [if_neg (by rw [show (2 : Int32) = nI 2 from rfl, nI_leI (by omega) (by omega)]; exact z)]
      exact fin _ _ _ (by rw [s2, nI_add])
  have st2 : ∀ (s0v s1v : Int32), s1v * s0v = nI (lkd A 0 a) → f_X12_heaps_b255 k137 k157 k181 (nI n) (nI m) x3 (nI S.T - 1) (nI S.c) (nI S.x) (nI S.y) (nI S.z) (nI a) (nI b) (nI c) (nI (a * cN A 0 + b * cN A 1 + c * cN A 2)) s0v s1v w = k181 (nI n) (nI m) x3 (nI (hst A m a b c S).T - 1) (nI (hst A m a b c S).c) (nI (hst A m a b c S).x) (nI (hst A m a b c S).y) (nI (hst A m a b c S).z) (nI a) (nI b) (nI (c + 1)) w := by
    intro s0v s1v hs
    unfold f_X12_heaps_b255
    rw [show (41 : Int32) = nI 41 from rfl, nI_add, ldI_d (inb_nI (by omega) (by omega)), ix_nI (by omega), hV.2.1, hs]
    by_cases z : A.L ≤ 1
    · rw [if_pos z] at s1
      rw [if_pos (by rw [show (1 : Int32) = nI 1 from rfl, nI_leI (by omega) (by omega)]; exact z)]
      exact st3 _ _ _ (by rw [s1, nI_add])
    · rw [if_neg z] at s1
      rw [if_neg (by rw [show (1 : Int32) = nI 1 from rfl, nI_leI (by omega) (by omega)]; exact z)]
      exact st3 _ _ _ (by rw [s1, nI_add])
  have st1 : ∀ (lim : Nat), c ≤ lim → lim ≤ 40 → f_X12_heaps_b202 k137 k157 k181 (nI n) (nI m) x3 (nI S.T - 1) (nI S.c) (nI S.x) (nI S.y) (nI S.z) (nI a) (nI b) (nI c) (nI lim) (nI c) w = k181 (nI n) (nI m) x3 (nI (hst A m a b c S).T - 1) (nI (hst A m a b c S).c) (nI (hst A m a b c S).x) (nI (hst A m a b c S).y) (nI (hst A m a b c S).z) (nI a) (nI b) (nI (c + 1)) w := by
    intro lim h1 h2
    have tl := nI_toInt (n := lim) (by omega)
    unfold f_X12_heaps_b202
    rw [if_neg (by rw [fa_lt, tl, tcc]; omega), ldI_d (by decide), show ix 0 = 0 from rfl, ldI_d (by decide), show ix 1 = 1 from rfl, ldI_d (by decide), show ix 2 = 2 from rfl, c0, c1, c2, lt_d, e0, e1, e2, nI_add, nI_add, ldI_d (inb_nI (by omega) (by omega)), ix_nI (by omega), hV.2.1]
    by_cases z : A.L ≤ 0
    · rw [if_pos z] at s0
      rw [if_pos (by rw [show (0 : Int32) = nI 0 from rfl, nI_leI (by omega) (by omega)]; exact z)]
      exact st2 _ _ s0
    · rw [if_neg z] at s0
      rw [if_neg (by rw [show (0 : Int32) = nI 0 from rfl, nI_leI (by omega) (by omega)]; exact z)]
      exact st2 _ _ s0
  unfold f_X12_heaps_b181_y
  rw [hV.2.1]
  by_cases z : A.L ≤ 2
  · have := u2.2 z
    rw [if_pos (by rw [show (2 : Int32) = nI 2 from rfl, nI_leI (by omega) (by omega)]; exact z)]
    exact st1 0 (by omega) (by omega)
  · rw [if_neg (by rw [show (2 : Int32) = nI 2 from rfl, nI_leI (by omega) (by omega)]; exact z), pk_sub han, pk_sub hbn]
    exact st1 (n - a - b) (by omega) (by omega)
theorem M_h3 {A : Ab} (hA : Aok A) (hL : A.L ≤ 3) {n m a b : Nat} (k137 : Int32 → Int32 → Int32 → Int32 → Int32 → Int32 → Int32 → Int32 → Int32 → Wd → Option (Int32 × Wd)) (k157 : Int32 → Int32 → Int32 → Int32 → Int32 → Int32 → Int32 → Int32 → Int32 → Int32 → Wd → Option (Int32 × Wd)) (x3 : Int32) (hn : n ≤ 40) (hm : m ≤ 999) (ha : a ≤ ub A 0 n) (hb : b ≤ ub A 1 (n - a)) (han : a ≤ n) (hbn : b ≤ n - a) {w : Wd} (hV : VM A w) (hF : FM A A.L w) : ∀ (f n' c : Nat) (S : HS), c + f = ub A 2 (n - a - b) + 1 → f < n' → hsB S → f_X12_heaps_b181 k137 k157 n' (nI n) (nI m) x3 (nI S.T - 1) (nI S.c) (nI S.x) (nI S.y) (nI S.z) (nI a) (nI b) (nI c) w = k157 (nI n) (nI m) x3 (nI (h3 A m a b f c S).T - 1) (nI (h3 A m a b f c S).c) (nI (h3 A m a b f c S).x) (nI (h3 A m a b f c S).y) (nI (h3 A m a b f c S).z) (nI a) (nI (b + 1)) w ∧ hsB (h3 A m a b f c S)
  | 0, 0, _, _, _, h, _ => absurd h (by omega)
  | 0, n' + 1, c, S, hc, _, hB => by
    refine ⟨?_, hB⟩
    show f_X12_heaps_b181_y k137 k157 (f_X12_heaps_b181 k137 k157 n') (nI n) (nI m) x3 (nI S.T - 1) (nI S.c) (nI S.x) (nI S.y) (nI S.z) (nI a) (nI b) (nI c) w = k157 (nI n) (nI m) x3 (nI S.T - 1) (nI S.c) (nI S.x) (nI S.y) (nI S.z) (nI a) (nI (b + 1)) w
    have u2 := ub_le A 2 (n - a - b)
    have tcc := nI_toInt (n := c) (by omega)
    have t0 := nI_toInt (n := n - a - b) (by omega)
    unfold f_X12_heaps_b181_y f_X12_heaps_b202
    rw [hV.2.1]
    by_cases z : A.L ≤ 2
    · have := u2.2 z
      rw [if_pos (by rw [show (2 : Int32) = nI 2 from rfl, nI_leI (by omega) (by omega)]; exact z), if_pos (by rw [fa_lt, tcc, ti_0]; omega), nI_1]
    · have e : ub A 2 (n - a - b) = n - a - b := by unfold ub; rw [if_pos (by omega)]
      rw [if_neg (by rw [show (2 : Int32) = nI 2 from rfl, nI_leI (by omega) (by omega)]; exact z), pk_sub han, pk_sub hbn, if_pos (by rw [fa_lt, tcc, t0]; omega), nI_1]
  | f + 1, 0, _, _, _, h, _ => absurd h (by omega)
  | f + 1, n' + 1, c, S, hc, hf, hB => by
    have u0 := ub_le A 0 n
    have u1 := ub_le A 1 (n - a)
    have u2 := ub_le A 2 (n - a - b)
    have h := M_wg hA hL (n := n) (m := m) (a := a) (b := b) (c := c) k137 k157 (f_X12_heaps_b181 k137 k157 n') x3 hn hm hV hF hB ha hb (by omega) han hbn
    have hB1 := hst_B hA (m := m) (a := a) (b := b) (c := c) hB (by omega) (by omega) (by omega)
    obtain ⟨q1, q2⟩ := M_h3 hA hL k137 k157 x3 hn hm ha hb han hbn hV hF f n' (c + 1) (hst A m a b c S) (by omega) (by omega) hB1
    exact ⟨h.trans q1, q2⟩
theorem M_h2 {A : Ab} (hA : Aok A) (hL : A.L ≤ 3) {n m a : Nat} (k137 : Int32 → Int32 → Int32 → Int32 → Int32 → Int32 → Int32 → Int32 → Int32 → Wd → Option (Int32 × Wd)) (x3 : Int32) (hn : n ≤ 40) (hm : m ≤ 999) (ha : a ≤ ub A 0 n) (han : a ≤ n) {w : Wd} (hV : VM A w) (hF : FM A A.L w) : ∀ (f n' b : Nat) (S : HS), b + f = ub A 1 (n - a) + 1 → f < n' → hsB S → f_X12_heaps_b157 k137 n' (nI n) (nI m) x3 (nI S.T - 1) (nI S.c) (nI S.x) (nI S.y) (nI S.z) (nI a) (nI b) w = k137 (nI n) (nI m) x3 (nI (h2 A n m a f b S).T - 1) (nI (h2 A n m a f b S).c) (nI (h2 A n m a f b S).x) (nI (h2 A n m a f b S).y) (nI (h2 A n m a f b S).z) (nI (a + 1)) w ∧ hsB (h2 A n m a f b S)
  | 0, 0, _, _, _, h, _ => absurd h (by omega)
  | 0, n' + 1, b, S, hb, _, hB => by
    refine ⟨?_, hB⟩
    show f_X12_heaps_b157_y k137 (f_X12_heaps_b157 k137 n') (nI n) (nI m) x3 (nI S.T - 1) (nI S.c) (nI S.x) (nI S.y) (nI S.z) (nI a) (nI b) w = k137 (nI n) (nI m) x3 (nI S.T - 1) (nI S.c) (nI S.x) (nI S.y) (nI S.z) (nI (a + 1)) w
    have u1 := ub_le A 1 (n - a)
    have tb := nI_toInt (n := b) (by omega)
    have t0 := nI_toInt (n := n - a) (by omega)
    unfold f_X12_heaps_b157_y f_X12_heaps_b175
    rw [hV.2.1]
    by_cases z : A.L ≤ 1
    · have := u1.2 z
      rw [if_pos (by rw [show (1 : Int32) = nI 1 from rfl, nI_leI (by omega) (by omega)]; exact z), if_pos (by rw [fa_lt, tb, ti_0]; omega), nI_1]
    · have e : ub A 1 (n - a) = n - a := by unfold ub; rw [if_pos (by omega)]
      rw [if_neg (by rw [show (1 : Int32) = nI 1 from rfl, nI_leI (by omega) (by omega)]; exact z), pk_sub han, if_pos (by rw [fa_lt, tb, t0]; omega), nI_1]
  | f + 1, 0, _, _, _, h, _ => absurd h (by omega)
  | f + 1, n' + 1, b, S, hb, hf, hB => by
    have u1 := ub_le A 1 (n - a)
    have u2 := ub_le A 2 (n - a - b)
    have tb := nI_toInt (n := b) (by omega)
    have t0 := nI_toInt (n := n - a) (by omega)
    obtain ⟨p1, p2⟩ := M_h3 hA hL k137 (f_X12_heaps_b157 k137 n') x3 hn hm ha (b := b) (by omega) han (by omega) hV hF (ub A 2 (n - a - b) + 1) fu 0 S (by omega) (by show _ < 300; omega) hB
    obtain ⟨q1, q2⟩ := M_h2 hA hL k137 x3 hn hm ha han hV hF f n' (b + 1) _ (by omega) (by omega) p2
    refine ⟨?_, q2⟩
    show f_X12_heaps_b157_y k137 (f_X12_heaps_b157 k137 n') (nI n) (nI m) x3 (nI S.T - 1) (nI S.c) (nI S.x) (nI S.y) (nI S.z) (nI a) (nI b) w = _
    unfold f_X12_heaps_b157_y f_X12_heaps_b175
    rw [hV.2.1]
    by_cases z : A.L ≤ 1
    · have := u1.2 z
      rw [if_pos (by rw [show (1 : Int32) = nI 1 from rfl, nI_leI (by omega) (by omega)]; exact z), if_neg (by rw [fa_lt, tb, ti_0]; omega)]
      exact p1.trans q1
    · have e : ub A 1 (n - a) = n - a := by unfold ub; rw [if_pos (by omega)]
      rw [if_neg (by rw [show (1 : Int32) = nI 1 from rfl, nI_leI (by omega) (by omega)]; exact z), pk_sub han, if_neg (by rw [fa_lt, tb, t0]; omega)]
      exact p1.trans q1
theorem M_h1 {A : Ab} (hA : Aok A) (hL : A.L ≤ 3) {n m v : Nat} (hn : n ≤ 40) (hm : m ≤ 999) (hv : v ≤ 4) {w : Wd} (hV : VM A w) (hF : FM A A.L w) : ∀ (f n' a : Nat) (S : HS), a + f = ub A 0 n + 1 → f < n' → hsB S → f_X12_heaps_b137 n' (nI n) (nI m) (nI v) (nI S.T - 1) (nI S.c) (nI S.x) (nI S.y) (nI S.z) (nI a) w = some (hpA (h1 A n m f a S) v, w)
  | 0, 0, _, _, _, h, _ => absurd h (by omega)
  | 0, n' + 1, a, S, ha, _, hB => by
    have u0 := ub_le A 0 n
    have ta := nI_toInt (n := a) (by omega)
    have tn := nI_toInt (n := n) (by omega)
    have fin : (if nI v = (0 : Int32) then some (nI S.T - 1, w) else if nI v = (1 : Int32) then some (nI S.c, w) else if nI v = (2 : Int32) then some (nI S.x, w) else if nI v = (3 : Int32) then some (nI S.y, w) else some (nI S.z, w)) = some (hpA S v, w) := by
      unfold hpA
      have c : v = 0 ∨ v = 1 ∨ v = 2 ∨ v = 3 ∨ v = 4 := by omega
      rcases c with z | z | z | z | z
      · subst z; rw [if_pos (show nI 0 = (0 : Int32) from rfl), if_pos rfl]
      · subst z; rw [if_neg (by decide), if_pos (show nI 1 = (1 : Int32) from rfl), if_neg (by omega), if_pos rfl]
      · subst z; rw [if_neg (by decide), if_neg (by decide), if_pos (show nI 2 = (2 : Int32) from rfl), if_neg (by omega), if_neg (by omega), if_pos rfl]
      · subst z; rw [if_neg (by decide), if_neg (by decide), if_neg (by decide), if_pos (show nI 3 = (3 : Int32) from rfl), if_neg (by omega), if_neg (by omega), if_neg (by omega), if_pos rfl]
      · subst z; rw [if_neg (by decide), if_neg (by decide), if_neg (by decide), if_neg (by decide), if_neg (by omega), if_neg (by omega), if_neg (by omega), if_neg (by omega)]
    show f_X12_heaps_b137_y (f_X12_heaps_b137 n') (nI n) (nI m) (nI v) (nI S.T - 1) (nI S.c) (nI S.x) (nI S.y) (nI S.z) (nI a) w = some (hpA S v, w)
    unfold f_X12_heaps_b137_y f_X12_heaps_b151
    rw [hV.2.1]
    by_cases z : A.L ≤ 0
    · have := u0.2 z
      rw [if_pos (by rw [show (0 : Int32) = nI 0 from rfl, nI_leI (by omega) (by omega)]; exact z), if_pos (by rw [fa_lt, ta, ti_0]; omega)]
      exact fin
    · have e : ub A 0 n = n := by unfold ub; rw [if_pos (by omega)]
      rw [if_neg (by rw [show (0 : Int32) = nI 0 from rfl, nI_leI (by omega) (by omega)]; exact z), if_pos (by rw [fa_lt, ta, tn]; omega)]
      exact fin
  | f + 1, 0, _, _, _, h, _ => absurd h (by omega)
  | f + 1, n' + 1, a, S, ha, hf, hB => by
    have u0 := ub_le A 0 n
    have u1 := ub_le A 1 (n - a)
    have ta := nI_toInt (n := a) (by omega)
    have tn := nI_toInt (n := n) (by omega)
    obtain ⟨p1, p2⟩ := M_h2 hA hL (f_X12_heaps_b137 n') (nI v) hn hm (a := a) (by omega) (by omega) hV hF (ub A 1 (n - a) + 1) fu 0 S (by omega) (by show _ < 300; omega) hB
    have q1 := M_h1 hA hL hn hm hv hV hF f n' (a + 1) _ (by omega) (by omega) p2
    show f_X12_heaps_b137_y (f_X12_heaps_b137 n') (nI n) (nI m) (nI v) (nI S.T - 1) (nI S.c) (nI S.x) (nI S.y) (nI S.z) (nI a) w = _
    unfold f_X12_heaps_b137_y f_X12_heaps_b151
    rw [hV.2.1]
    by_cases z : A.L ≤ 0
    · have := u0.2 z
      rw [if_pos (by rw [show (0 : Int32) = nI 0 from rfl, nI_leI (by omega) (by omega)]; exact z), if_neg (by rw [fa_lt, ta, ti_0]; omega)]
      exact p1.trans q1
    · have e : ub A 0 n = n := by unfold ub; rw [if_pos (by omega)]
      rw [if_neg (by rw [show (0 : Int32) = nI 0 from rfl, nI_leI (by omega) (by omega)]; exact z), if_neg (by rw [fa_lt, ta, tn]; omega)]
      exact p1.trans q1
theorem M_heaps42 {A : Ab} {n m v : Nat} {w : Wd} (hV : VM A w) (hL : A.L ≤ 3) (hn : n ≤ 40) (hm : m ≤ 999) (hv : v ≤ 4) : ∃ w', f_X12_heaps_b42 (nI n) (nI m) (nI v) w = some (hpA (hEnd A n m) v, w') ∧ eqo scr w w' := by
  obtain ⟨w1, p1, p2, p3, p4⟩ := M_hp hL (nI n) (nI m) (nI v) A.L fu 0 w (by omega) (by show _ < 300; omega) hV (fun j hj => absurd hj (by omega))
  have p1' : f_X12_heaps_b56 fu (nI n) (nI m) (nI v) 0 w = f_X12_heaps_b137 fu (nI n) (nI m) (nI v) (-1) 0 0 0 0 0 w1 := p1
  have u0 := ub_le A 0 n
  have q := M_h1 hV.1 hL hn hm hv p2 p3 (ub A 0 n + 1) fu 0 ⟨0, 0, 0, 0, 0⟩ (by omega) (by show _ < 300; omega) ⟨Nat.zero_le _, Nat.zero_le _, Nat.zero_le _, Nat.zero_le _, Nat.zero_le _⟩
  refine ⟨w1, ?_, p4⟩
  unfold f_X12_heaps_b42
  rw [hV.2.1, if_pos (by rw [show (3 : Int32) = nI 3 from rfl, nI_leI (by omega) (by omega)]; exact hL), p1']
  exact q
theorem sub2_neg {L : Nat} (hL : L ≤ 6) {a : Int32} (h : a < 0) : ¬ inb (a - 2) L := by
  have t2 : (2 : Int32).toInt = 2 := rfl
  have hr := i_rng a
  rw [fa_lt, ti_0] at h
  intro z
  unfold inb at z
  rw [Int32.toInt_sub, t2] at z
  by_cases c : -2147483648 ≤ a.toInt - 2
  · rw [Int.bmod_eq_of_le (by omega) (by omega)] at z
    omega
  · have e : (a.toInt - 2).bmod (2 ^ 32) = a.toInt - 2 + 4294967296 := by
      have := Int.add_bmod_right (a.toInt - 2) 4294967296
      rw [show ((4294967296 : Nat) : Int) = 4294967296 from rfl] at this
      show (a.toInt - 2).bmod 4294967296 = _
      rw [← this]
      apply Int.bmod_eq_of_le <;> omega
    rw [e] at z
    omega
theorem T_heaps {A : Ab} {w : Wd} (hX : VX A w) (hM : VM A w) (hP : PRt A.L w) (a1 a2 a3 : Int32) : ∃ r w1 w2, f_X11_heaps a1 a2 a3 w = some (r, w1) ∧ f_X12_heaps a1 a2 a3 w1 = some (r, w2) ∧ PRt A.L w2 ∧ eqo sHX w w2 := by
  have h6 := hX.1.1
  have t0 : (0 : Int32).toInt = 0 := rfl
  have t1 : (1 : Int32).toInt = 1 := rfl
  have t2 : (2 : Int32).toInt = 2 := rfl
  have t40 : (40 : Int32).toInt = 40 := rfl
  have t999 : (999 : Int32).toInt = 999 := rfl
  have hge2 : ∀ b : Int32, 1 < b.toInt → (b - 2).toInt = b.toInt - 2 := fun b hb => by
    have := i_rng b
    rw [i_sub (by rw [t2]; omega) (by rw [t2]; omega), t2]
  by_cases h : (1 ≤ a1.toInt ∧ a1.toInt ≤ 40) ∧ (0 ≤ a2.toInt ∧ a2.toInt ≤ 999) ∧ 0 ≤ a3.toInt ∧ (a3.toInt ≤ 1 ∨ inb (a3 - 2) A.L)
  · obtain ⟨h1, h2, h3, h4⟩ := h
    have X48 : f_X11_heaps a1 a2 a3 w = f_X11_heaps_b48 a1 a2 a3 w := by
      unfold f_X11_heaps
      rw [if_neg (by rw [fa_lt]; omega), if_neg (by rw [fa_lt]; omega), if_neg (by rw [fa_lt]; omega), if_pos (by rw [fa_le]; omega), if_neg (by rw [fa_lt]; omega), X_isLooker hX.2.1 h6, bR_s, ite_b2i]
      by_cases c : a3.toInt ≤ 1
      · rw [if_pos (by rw [fa_le]; omega)]
      · rw [if_neg (by rw [fa_le]; omega), if_pos (h4.resolve_left c)]
    have M42 : ∀ w', VM A w' → f_X12_heaps a1 a2 a3 w' = f_X12_heaps_b42 a1 a2 a3 w' := by
      intro w' hV
      unfold f_X12_heaps
      rw [M_in, bR_s, ite_b2i, if_pos (by omega), M_in, bR_s, ite_b2i, if_pos (by omega), M_in, bR_s, ite_b2i, M_isLooker hV.2.1 h6, bR_s, ite_b2i]
      by_cases c : a3.toInt ≤ 1
      · rw [if_pos (by omega)]
      · rw [if_neg (by omega), if_pos (h4.resolve_left c)]
    obtain ⟨n, hn, rfl⟩ := of_inb (i := a1) (N := 41) ⟨by omega, by omega⟩
    obtain ⟨m, hm, rfl⟩ := of_inb (i := a2) (N := 1000) ⟨by omega, by omega⟩
    by_cases hL : A.L ≤ 3
    · have hv5 : inb a3 5 := by
        refine ⟨h3, ?_⟩
        rcases h4 with q | q
        · omega
        · by_cases c : a3.toInt ≤ 1
          · omega
          · have := hge2 a3 (by omega)
            unfold inb at q
            omega
      obtain ⟨v, hv, rfl⟩ := of_inb hv5
      obtain ⟨w1, p1, p2, p3⟩ := X_heaps48 (n := n) (m := m) (v := v) hX hP hL (by omega) (by omega) (by omega)
      obtain ⟨w2, q1, q2⟩ := M_heaps42 (n := n) (m := m) (v := v) (VM_h hM p3) hL (by omega) (by omega) (by omega)
      have g33 : ∀ j, scr 33 j = false := fun _ => rfl
      have g32 : ∀ j, scr 32 j = false := fun _ => rfl
      refine ⟨_, w1, w2, X48.trans p1, (M42 w1 (VM_h hM p3)).trans q1, PRt_cg p2 (fun j => (q2 33 j (g33 j)).1) (fun j => (q2 32 j (g32 j)).1), eqo_tr p3 (eqo_mono q2 s_H)⟩
    · have nl : ¬ nI A.L ≤ (3 : Int32) := by rw [show (3 : Int32) = nI 3 from rfl, nI_leI (by omega) (by omega)]; exact hL
      refine ⟨-5, w, w, ?_, ?_, hP, eqo_rf w⟩
      · rw [X48]
        unfold f_X11_heaps_b48
        rw [hX.2.1, if_neg nl]
      · rw [M42 w hM]
        unfold f_X12_heaps_b42
        rw [hM.2.1, if_neg nl]
  · refine ⟨-1, w, w, ?_, ?_, hP, eqo_rf w⟩
    · unfold f_X11_heaps
      by_cases c1 : a1 < 1
      · rw [if_pos c1]
      rw [if_neg c1]
      by_cases c2 : 40 < a1
      · rw [if_pos c2]
      rw [if_neg c2]
      by_cases c3 : a2 < 0
      · rw [if_pos c3]
      rw [if_neg c3]
      by_cases c4 : a2 ≤ 999
      · rw [if_pos c4]
        by_cases c5 : a3 < 0
        · rw [if_pos c5]
        rw [if_neg c5]
        rw [fa_lt] at c1 c2 c3 c5
        rw [fa_le] at c4
        by_cases c6 : a3 ≤ 1
        · rw [fa_le] at c6
          exact absurd ⟨⟨by omega, by omega⟩, ⟨by omega, by omega⟩, by omega, Or.inl (by omega)⟩ h
        · rw [if_neg c6, X_isLooker hX.2.1 h6, bR_s, ite_b2i, if_neg]
          intro z
          exact h ⟨⟨by omega, by omega⟩, ⟨by omega, by omega⟩, by omega, Or.inr z⟩
      · rw [if_neg c4]
    · unfold f_X12_heaps
      rw [M_in, bR_s, ite_b2i]
      by_cases c1 : (1 : Int32).toInt ≤ a1.toInt ∧ a1.toInt ≤ (40 : Int32).toInt
      · rw [if_pos c1, M_in, bR_s, ite_b2i]
        by_cases c2 : (0 : Int32).toInt ≤ a2.toInt ∧ a2.toInt ≤ (999 : Int32).toInt
        · rw [if_pos c2, M_in, bR_s, ite_b2i]
          by_cases c3 : (0 : Int32).toInt ≤ a3.toInt ∧ a3.toInt ≤ (1 : Int32).toInt
          · exact absurd ⟨by omega, by omega, by omega, Or.inl (by omega)⟩ h
          · rw [if_neg c3, M_isLooker hM.2.1 h6, bR_s, ite_b2i, if_neg]
            intro z
            by_cases c5 : a3 < 0
            · exact sub2_neg h6 c5 z
            · rw [fa_lt] at c5
              exact h ⟨by omega, by omega, by omega, Or.inr z⟩
        · rw [if_neg c2]
      · rw [if_neg c1]
