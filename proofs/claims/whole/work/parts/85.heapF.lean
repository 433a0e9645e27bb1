/-! HEAPS: the class fills its parting -/
def sFP (k c j : Nat) : Bool := sEY c j || (c == 33 && j == k) || (c == 34 && j == k) || (c == 32 && (decide (41 * k ≤ j) && decide (j < 41 * k + 41)))
def sHX (c k : Nat) : Bool := scr c k || (31 ≤ c && c ≤ 35)
theorem sHX_VX : ∀ c k, aVX c k = true → sHX c k = false := by
  intro c k h
  cases hs : sHX c k with
  | false => rfl
  | true =>
    simp only [aVX, sHX, scr, Bool.or_eq_true, Bool.and_eq_true, beq_iff_eq, decide_eq_true_eq] at h hs
    omega
theorem sHX_VM : ∀ c k, aVM c k = true → sHX c k = false := by
  intro c k h
  cases hs : sHX c k with
  | false => rfl
  | true =>
    simp only [aVM, sHX, scr, Bool.or_eq_true, Bool.and_eq_true, beq_iff_eq, decide_eq_true_eq] at h hs
    omega
theorem VX_h {A : Ab} {w w' : Wd} (h : VX A w) (he : eqo sHX w w') : VX A w' := VX_cg h (fun c k z => (he c k (sHX_VX c k z)).1)
theorem VM_h {A : Ab} {w w' : Wd} (h : VM A w) (he : eqo sHX w w') : VM A w' := VM_cg h (fun c k z => (he c k (sHX_VM c k z)).1)
theorem sFP_H {k : Nat} : ∀ c j, sFP k c j = true → sHX c j = true := by
  intro c j h
  simp only [sFP, sHX, sEY, scr, Bool.or_eq_true, Bool.and_eq_true, beq_iff_eq, decide_eq_true_eq] at h ⊢
  omega
theorem sP_H : ∀ c j, sP c j = true → sHX c j = true := by
  intro c j h
  simp only [sP, sHX, scr, Bool.or_eq_true, Bool.and_eq_true, beq_iff_eq, decide_eq_true_eq] at h ⊢
  omega
theorem s_H : ∀ c k, scr c k = true → sHX c k = true := fun c k h => by unfold sHX; rw [h]; rfl
theorem X_fp {A : Ab} {k n : Nat} (hk : k < A.L) (hk3 : k < 3) (hn : n ≤ 40) : ∀ (f n' h sh : Nat) (w : Wd), h + f = n + 1 → f < n' → (h % 5 = 0 ∨ sh = twv A k 0 (nI (A.nv 9 0 + h / 5))) → sh ≤ 12 → VX A w → (∀ h', h' < h → gi w 32 (41 * k + h') = nI (lkd A k h')) → ∃ w', f_X11_fillParting_b17 n' (nI k) (nI n) (nI (A.nv 9 0)) (nI sh) (nI h) w = some w' ∧ gi w' 33 k = nI n ∧ gi w' 34 k = nI (A.nv 6 k) ∧ (∀ h', h' ≤ n → gi w' 32 (41 * k + h') = nI (lkd A k h')) ∧ eqo (sFP k) w w'
  | 0, 0, _, _, _, _, h, _, _, _, _ => absurd h (by omega)
  | 0, n' + 1, h, sh, w, hh, _, _, _, hV, hT => by
    have tn := nI_toInt (n := n) (by omega)
    have th := nI_toInt (n := h) (by omega)
    have tk := nI_toInt (n := k) (by omega)
    have t3 : (3 : Int32).toInt = 3 := rfl
    show ∃ w', f_X11_fillParting_b17_y (f_X11_fillParting_b17 n') (nI k) (nI n) (nI (A.nv 9 0)) (nI sh) (nI h) w = some w' ∧ _
    unfold f_X11_fillParting_b17_y f_X7_add
    rw [if_pos (by rw [fa_lt, tn, th]; omega), VX_6 hV hk, bR_s, if_neg (by rw [fa_lt, tk, ti_0]; omega), if_pos (by rw [fa_lt, tk, t3]; omega), show (40 : Int32) = nI 40 from rfl, imin_nI (by omega) (by omega), Nat.min_eq_left hn, saI_d (inb_nI hk3 (by omega)), saI_d (inb_nI hk3 (by omega)), ix_nI (by omega), bV_s]
    refine ⟨_, rfl, ?_, ?_, fun h' hh' => ?_, eqo_si (eqo_si (eqo_rf w) ?_) ?_⟩
    · rw [gi_si, if_neg (by omega), gi_si, if_pos ⟨rfl, rfl⟩]
    · rw [gi_si, if_pos ⟨rfl, rfl⟩]
    · rw [gi_si, if_neg (by omega), gi_si, if_neg (by omega)]; exact hT h' (by omega)
    · simp [sFP]
    · simp [sFP]
  | f + 1, 0, _, _, _, _, h, _, _, _, _ => absurd h (by omega)
  | f + 1, n' + 1, h, sh, w, hh, hf, hsh, hs12, hV, hT => by
    have tn := nI_toInt (n := n) (by omega)
    have th := nI_toInt (n := h) (by omega)
    have tk := nI_toInt (n := k) (by omega)
    have t3 : (3 : Int32).toInt = 3 := rfl
    have t40 : (40 : Int32).toInt = 40 := rfl
    have e5 : ire (nI h) 5 = nI (h % 5) := by unfold ire; rw [show (5 : Int32) = nI 5 from rfl, pk_rem (by omega) (by omega) (by omega)]
    have d5 : nI h / 5 = nI (h / 5) := by rw [show (5 : Int32) = nI 5 from rfl, pk_div (by omega) (by omega) (by omega)]
    have iff5 : (nI (h % 5) = (0 : Int32)) ↔ h % 5 = 0 := by rw [show (0 : Int32) = nI 0 from rfl, nI_eq (by omega) (by omega)]
    have go : ∀ (s2 : Nat) (w1 : Wd), s2 = twv A k 0 (nI (A.nv 9 0 + h / 5)) → eqo sEY w w1 → ∃ w', f_X11_fillParting_b44 (f_X11_fillParting_b17 n') (nI k) (nI n) (nI (A.nv 9 0)) (nI s2) (nI h) w1 = some w' ∧ gi w' 33 k = nI n ∧ gi w' 34 k = nI (A.nv 6 k) ∧ (∀ h', h' ≤ n → gi w' 32 (41 * k + h') = nI (lkd A k h')) ∧ eqo (sFP k) w w' := by
      intro s2 w1 hs2 he
      have hs12' : s2 ≤ 12 := by rw [hs2]; exact (tw_I A k 0 _).2
      have hlk : h * s2 = lkd A k h := by unfold lkd; rw [if_pos hk, hs2]
      have E1 : eqo (sFP k) w w1 := eqo_mono he (fun c j z => by unfold sFP; rw [z]; rfl)
      have E2 : eqo (sFP k) w (si w1 32 (41 * k + h) (nI (lkd A k h))) := eqo_si E1 (by
        unfold sFP
        simp only [Bool.or_eq_true, Bool.and_eq_true, beq_iff_eq, decide_eq_true_eq]
        exact Or.inr ⟨trivial, by omega, by omega⟩)
      obtain ⟨w2, q1, q2, q3, q4, q5⟩ := X_fp hk hk3 hn f n' (h + 1) s2 (si w1 32 (41 * k + h) (nI (lkd A k h))) (by omega) (by omega) (by
        by_cases z : (h + 1) % 5 = 0
        · exact Or.inl z
        · right
          rw [hs2, show (h + 1) / 5 = h / 5 by omega]) hs12' (VX_h hV (eqo_mono E2 sFP_H)) (fun h' hh' => by
        by_cases z : h' = h
        · subst z; rw [gi_si, if_pos ⟨rfl, rfl⟩]
        · rw [gi_si, if_neg (by omega), (he 32 _ rfl).1]; exact hT h' (by omega))
      refine ⟨w2, ?_, q2, q3, q4, eqo_tr E2 q5⟩
      unfold f_X11_fillParting_b44 f_X7_tell
      have ei : (nI k * 41 + nI h : Int32) = nI (41 * k + h) := by rw [show (41 : Int32) = nI 41 from rfl, pk_mul, nI_add, Nat.mul_comm]
      rw [if_neg (by rw [fa_lt, tk, ti_0]; omega), if_neg (by rw [fa_le, tk, t3]; omega), if_neg (by rw [fa_lt, th, ti_0]; omega), if_pos (by rw [fa_le, th, t40]; omega), ei, pk_mul, hlk, saI_d (inb_nI (by omega) (by omega)), ix_nI (by omega), bV_s, nI_1]
      exact q1
    have e0 : f_X11_fillParting_b17 (n' + 1) (nI k) (nI n) (nI (A.nv 9 0)) (nI sh) (nI h) w = f_X11_fillParting_b17_y (f_X11_fillParting_b17 n') (nI k) (nI n) (nI (A.nv 9 0)) (nI sh) (nI h) w := rfl
    rw [e0]
    unfold f_X11_fillParting_b17_y
    rw [if_neg (by rw [fa_lt, tn, th]; omega), e5]
    by_cases c : h % 5 = 0
    · obtain ⟨w1, p1, p2⟩ := X_twIn hV hk 0 (nI (A.nv 9 0 + h / 5))
      rw [if_pos (iff5.mpr c), d5, nI_add, p1, bW_s]
      exact go _ w1 rfl p2
    · rw [if_neg (fun q => c (iff5.mp q))]
      exact go sh w (hsh.resolve_left c) (eqo_rf w)
def FV (A : Ab) (n k : Nat) (w : Wd) : Prop := ∀ j, j < k → gi w 33 j = nI n ∧ gi w 34 j = nI (A.nv 6 j) ∧ ∀ h, h ≤ n → gi w 32 (41 * j + h) = nI (lkd A j h)
/-- who was never there has nothing told -/
def PRt (L : Nat) (w : Wd) : Prop := ∀ j, j < 3 → L ≤ j → gi w 33 j = 0 ∧ gi w 32 (41 * j) = 0
theorem PRt_le {L L' : Nat} {w : Wd} (h : PRt L w) (hl : L ≤ L') : PRt L' w := fun j hj hl' => h j hj (by omega)
theorem PRt_cg {L : Nat} {w w' : Wd} (h : PRt L w) (h1 : ∀ j, gi w' 33 j = gi w 33 j) (h2 : ∀ j, gi w' 32 j = gi w 32 j) : PRt L w' := fun j hj hl => ⟨(h1 j).trans (h j hj hl).1, (h2 _).trans (h j hj hl).2⟩
theorem X_fpar {A : Ab} {k n : Nat} {w : Wd} (hV : VX A w) (hk : k < A.L) (hk3 : k < 3) (hn : n ≤ 40) : ∃ w', f_X11_fillParting (nI k) (nI n) w = some w' ∧ gi w' 33 k = nI n ∧ gi w' 34 k = nI (A.nv 6 k) ∧ (∀ h', h' ≤ n → gi w' 32 (41 * k + h') = nI (lkd A k h')) ∧ eqo (sFP k) w w' := by
  unfold f_X11_fillParting
  rw [VX_9 hV, bR_s]
  exact X_fp hk hk3 hn (n + 1) fu 0 0 w (by omega) (by show _ < 300; omega) (Or.inl rfl) (by omega) hV (fun h' hh => absurd hh (by omega))
theorem X_hp {A : Ab} {n m : Nat} (hL : A.L ≤ 3) (hn : n ≤ 40) (a3 : Int32) : ∀ (f n' k : Nat) (w : Wd), k + f = A.L → f < n' → VX A w → FV A n k w → PRt A.L w → ∃ n2 w', f_X11_heaps_b65 n' (nI n) (nI m) a3 (nI k) w = f_X11_heaps_b65_y (f_X11_heaps_b65 n2) (nI n) (nI m) a3 (nI A.L) w' ∧ VX A w' ∧ FV A n A.L w' ∧ PRt A.L w' ∧ eqo sHX w w'
  | 0, 0, _, _, _, h, _, _, _ => absurd h (by omega)
  | 0, n' + 1, k, w, hk, _, hV, hF, hP => by
    have : k = A.L := hk
    subst this
    exact ⟨n', w, rfl, hV, hF, hP, eqo_rf w⟩
  | f + 1, 0, _, _, _, h, _, _, _ => absurd h (by omega)
  | f + 1, n' + 1, k, w, hk, hf, hV, hF, hP => by
    obtain ⟨w1, p1, p2, p3, p4, p5⟩ := X_fpar (k := k) (n := n) hV (by omega) (by omega) hn
    have E1 := eqo_mono p5 (sFP_H (k := k))
    have g33 : ∀ j, ¬ j = k → gi w1 33 j = gi w 33 j := fun j hj => (p5 33 j (by
      unfold sFP
      simp [sEY, hj])).1
    have g34 : ∀ j, ¬ j = k → gi w1 34 j = gi w 34 j := fun j hj => (p5 34 j (by
      unfold sFP
      simp [sEY, hj])).1
    have g32 : ∀ j, (j < 41 * k ∨ 41 * k + 41 ≤ j) → gi w1 32 j = gi w 32 j := fun j hj => (p5 32 j (by
      unfold sFP
      simp [sEY]
      omega)).1
    obtain ⟨n2, w2, q1, q2, q3, q4, q5⟩ := X_hp (m := m) hL hn a3 f n' (k + 1) w1 (by omega) (by omega) (VX_h hV E1) (fun j hj => by
      by_cases z : j = k
      · subst z; exact ⟨p2, p3, p4⟩
      · obtain ⟨x, y, u⟩ := hF j (by omega)
        exact ⟨by rw [g33 j z]; exact x, by rw [g34 j z]; exact y, fun h hh => by rw [g32 _ (by omega)]; exact u h hh⟩) (fun j hj hl => by
      rw [g33 j (by omega), g32 _ (by omega)]; exact hP j hj hl)
    refine ⟨n2, w2, ?_, q2, q3, q4, eqo_tr E1 q5⟩
    rw [← q1]
    show f_X11_heaps_b65_y (f_X11_heaps_b65 n') (nI n) (nI m) a3 (nI k) w = _
    unfold f_X11_heaps_b65_y
    rw [hV.2.1, if_neg (by rw [nI_leI (by omega) (by omega)]; omega), p1, bV_s, nI_1]
def hpA (S : HS) (v : Nat) : Int32 := if v = 0 then nI S.T - 1 else if v = 1 then nI S.c else if v = 2 then nI S.x else if v = 3 then nI S.y else nI S.z
theorem X_heaps48 {A : Ab} {n m v : Nat} {w : Wd} (hX : VX A w) (hP : PRt A.L w) (hL : A.L ≤ 3) (hn : n ≤ 40) (hm : m ≤ 999) (hv : v ≤ 4) : ∃ w', f_X11_heaps_b48 (nI n) (nI m) (nI v) w = some (hpA (hEnd A n m) v, w') ∧ PRt A.L w' ∧ eqo sHX w w' := by
  obtain ⟨n2, w1, p1, p2, p3, p4, p5⟩ := X_hp (n := n) (m := m) hL hn (nI v) A.L fu 0 w (by omega) (by show _ < 300; omega) hX (fun j hj => absurd hj (by omega)) hP
  have p1' : f_X11_heaps_b65 fu (nI n) (nI m) (nI v) 0 w = f_X11_heaps_b65_y (f_X11_heaps_b65 n2) (nI n) (nI m) (nI v) (nI A.L) w1 := p1
  have hPV : PVw A n w1 := by
    intro k hk
    by_cases z : k < A.L
    · obtain ⟨x, y, u⟩ := p3 k z
      refine ⟨?_, fun _ => y, fun _ => u, fun q => absurd q (by omega)⟩
      unfold ub
      rw [if_pos z]; exact x
    · obtain ⟨x, y⟩ := p4 k hk (by omega)
      refine ⟨?_, fun q => absurd q z, fun q => absurd q z, fun _ => y⟩
      unfold ub
      rw [if_neg z]; exact x
  obtain ⟨w2, q1, ⟨q2, q3, q4⟩, q5, q6⟩ := X_search hX.1 hn hm hPV
  have hT := hEnd_T A n m
  obtain ⟨b0, b1, b2⟩ := q4 hT
  have E2 := eqo_tr p5 (eqo_mono q6 sP_H)
  refine ⟨w2, ?_, PRt_cg p4 (fun j => (q6 33 j rfl).1) (fun j => (q6 32 j rfl).1), E2⟩
  unfold f_X11_heaps_b48
  rw [hX.2.1, if_pos (by rw [show (3 : Int32) = nI 3 from rfl, nI_leI (by omega) (by omega)]; exact hL), p1']
  unfold f_X11_heaps_b65_y hpA
  rw [p2.2.1, if_pos (by rw [nI_leI (by omega) (by omega)]; omega), q1, bV_s]
  have c : v = 0 ∨ v = 1 ∨ v = 2 ∨ v = 3 ∨ v = 4 := by omega
  rcases c with z | z | z | z | z
  · subst z
    rw [if_pos (show nI 0 = (0 : Int32) from rfl), if_pos rfl, q2]
  · subst z
    rw [if_neg (by decide), if_pos (show nI 1 = (1 : Int32) from rfl), if_neg (by omega), if_pos rfl, q3]
  · subst z
    rw [if_neg (by decide), if_neg (by decide), if_neg (by omega), if_neg (by omega), if_pos rfl, show nI 2 - (2 : Int32) = 0 from by decide]
    unfold f_X7_heapsOf
    rw [if_neg (by decide), if_neg (by decide), ldI_d (by decide), show ix 0 = 0 from rfl, b0, bR_s]
  · subst z
    rw [if_neg (by decide), if_neg (by decide), if_neg (by omega), if_neg (by omega), if_neg (by omega), if_pos rfl, show nI 3 - (2 : Int32) = 1 from by decide]
    unfold f_X7_heapsOf
    rw [if_neg (by decide), if_neg (by decide), ldI_d (by decide), show ix 1 = 1 from rfl, b1, bR_s]
  · subst z
    rw [if_neg (by decide), if_neg (by decide), if_neg (by omega), if_neg (by omega), if_neg (by omega), if_neg (by omega), show nI 4 - (2 : Int32) = 2 from by decide]
    unfold f_X7_heapsOf
    rw [if_neg (by decide), if_neg (by decide), ldI_d (by decide), show ix 2 = 2 from rfl, b2, bR_s]
