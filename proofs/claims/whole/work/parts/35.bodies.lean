/-! BODIES: acts that come from above -/
theorem bW_id {x : Option (Int32 × Wd)} : (bW x fun r w => some (r, w)) = x := by
  cases x with
  | none => rfl
  | some y => rfl
theorem nr_end (a : Option Wd) (k : Wd → Option (Int32 × Wd)) : (bV a fun w3 => bW (k w3) fun r w => some (r, w)) = bV a k := by
  cases a with
  | none => rfl
  | some y => exact bW_id
def tX : Nat → List Int32 → Wd → Wd
  | _, [], w => w
  | r, v :: l, w => tX (r + 1) l (si (si w 41 r v) 39 3 (nI (r + 1)))
def tM : Nat → List Int32 → Wd → Wd
  | _, [], w => w
  | r, v :: l, w => tM (r + 1) l (si (si w 81 r v) 54 50 (nI (r + 1)))
theorem tX_app : ∀ (l1 l2 : List Int32) (r : Nat) (w : Wd), tX (r + l1.length) l2 (tX r l1 w) = tX r (l1 ++ l2) w
  | [], l2, r, w => rfl
  | v :: l1, l2, r, w => by
    show tX (r + (l1.length + 1)) l2 (tX (r + 1) l1 _) = tX (r + 1) (l1 ++ l2) _
    rw [← tX_app l1 l2 (r + 1), show r + (l1.length + 1) = r + 1 + l1.length by omega]
theorem tM_app : ∀ (l1 l2 : List Int32) (r : Nat) (w : Wd), tM (r + l1.length) l2 (tM r l1 w) = tM r (l1 ++ l2) w
  | [], l2, r, w => rfl
  | v :: l1, l2, r, w => by
    show tM (r + (l1.length + 1)) l2 (tM (r + 1) l1 _) = tM (r + 1) (l1 ++ l2) _
    rw [← tM_app l1 l2 (r + 1), show r + (l1.length + 1) = r + 1 + l1.length by omega]
theorem tX_at : ∀ (l : List Int32) (r : Nat) (w : Wd) (c k : Nat), gi (tX r l w) c k = if c = 41 ∧ r ≤ k ∧ k < r + l.length then l.getD (k - r) 0 else if c = 39 ∧ k = 3 ∧ l ≠ [] then nI (r + l.length) else gi w c k
  | [], r, w, c, k => by
    show gi w c k = _
    rw [if_neg (by simp), if_neg (by simp)]
  | v :: l, r, w, c, k => by
    show gi (tX (r + 1) l _) c k = _
    rw [tX_at l (r + 1)]
    have hl : (v :: l).length = l.length + 1 := rfl
    by_cases z : c = 41 ∧ r + 1 ≤ k ∧ k < r + 1 + l.length
    · rw [if_pos z, if_pos ⟨z.1, by omega, by rw [hl]; omega⟩, show k - r = (k - (r + 1)) + 1 by omega]
      rfl
    · rw [if_neg z]
      by_cases z2 : c = 39 ∧ k = 3
      · by_cases z3 : l ≠ []
        · rw [if_pos ⟨z2.1, z2.2, z3⟩, if_neg (by omega), if_pos ⟨z2.1, z2.2, by simp⟩, hl, show r + 1 + l.length = r + (l.length + 1) by omega]
        · have : l = [] := Classical.not_not.mp z3
          subst this
          rw [if_neg (by simp), gi_si, if_pos z2, if_neg (by omega), if_pos ⟨z2.1, z2.2, by simp⟩]
          rfl
      · rw [if_neg (fun y => z2 ⟨y.1, y.2.1⟩), gi_si, if_neg z2, gi_si]
        by_cases z4 : c = 41 ∧ k = r
        · rw [if_pos z4, if_pos ⟨z4.1, by omega, by rw [hl]; omega⟩, z4.2, Nat.sub_self]
          rfl
        · rw [if_neg z4, if_neg (by rw [hl]; omega), if_neg (fun y => z2 ⟨y.1, y.2.1⟩)]
theorem tM_at : ∀ (l : List Int32) (r : Nat) (w : Wd) (c k : Nat), gi (tM r l w) c k = if c = 81 ∧ r ≤ k ∧ k < r + l.length then l.getD (k - r) 0 else if c = 54 ∧ k = 50 ∧ l ≠ [] then nI (r + l.length) else gi w c k
  | [], r, w, c, k => by
    show gi w c k = _
    rw [if_neg (by simp), if_neg (by simp)]
  | v :: l, r, w, c, k => by
    show gi (tM (r + 1) l _) c k = _
    rw [tM_at l (r + 1)]
    have hl : (v :: l).length = l.length + 1 := rfl
    by_cases z : c = 81 ∧ r + 1 ≤ k ∧ k < r + 1 + l.length
    · rw [if_pos z, if_pos ⟨z.1, by omega, by rw [hl]; omega⟩, show k - r = (k - (r + 1)) + 1 by omega]
      rfl
    · rw [if_neg z]
      by_cases z2 : c = 54 ∧ k = 50
      · by_cases z3 : l ≠ []
        · rw [if_pos ⟨z2.1, z2.2, z3⟩, if_neg (by omega), if_pos ⟨z2.1, z2.2, by simp⟩, hl, show r + 1 + l.length = r + (l.length + 1) by omega]
        · have : l = [] := Classical.not_not.mp z3
          subst this
          rw [if_neg (by simp), gi_si, if_pos z2, if_neg (by omega), if_pos ⟨z2.1, z2.2, by simp⟩]
          rfl
      · rw [if_neg (fun y => z2 ⟨y.1, y.2.1⟩), gi_si, if_neg z2, gi_si]
        by_cases z4 : c = 81 ∧ k = r
        · rw [if_pos z4, if_pos ⟨z4.1, by omega, by rw [hl]; omega⟩, z4.2, Nat.sub_self]
          rfl
        · rw [if_neg z4, if_neg (by rw [hl]; omega), if_neg (fun y => z2 ⟨y.1, y.2.1⟩)]
theorem tX_gl : ∀ (l : List Int32) (r : Nat) (w : Wd) (c k : Nat), gl (tX r l w) c k = gl w c k
  | [], _, _, _, _ => rfl
  | _ :: l, r, _, c, k => (tX_gl l (r + 1) _ c k).trans rfl
theorem tM_gl : ∀ (l : List Int32) (r : Nat) (w : Wd) (c k : Nat), gl (tM r l w) c k = gl w c k
  | [], _, _, _, _ => rfl
  | _ :: l, r, _, c, k => (tM_gl l (r + 1) _ c k).trans rfl
theorem X_note {w : Wd} {r : Nat} (h : gi w 39 3 = nI r) (hr : r < 24) (v : Int32) : f_X0_note v w = some (tX r [v] w) := by
  have t := nI_toInt (n := r) (by omega)
  unfold f_X0_note f_X0_note_b19
  rw [h, if_neg (by simp only [fa_lt, fa_le, fa_eq, inb, ti_m14, ti_m13, ti_m12, ti_m11, ti_m10, ti_m9, ti_m8, ti_m7, ti_m6, ti_m5, ti_m4, ti_m3, ti_m2, ti_m1, ti_0, ti_1, ti_2, ti_3, ti_4, ti_5, ti_6, ti_7, ti_8, ti_9, ti_10, ti_11, ti_12, ti_13, ti_14, ti_15, ti_16, ti_17, ti_18, ti_19, ti_20, ti_21, ti_22, ti_23, ti_24, ti_25, ti_26, ti_27, ti_28, ti_29, ti_30, ti_31, ti_32, ti_33, ti_34, ti_35, ti_36, ti_37, ti_38, ti_39, ti_40, ti_41, ti_42, ti_43, ti_44, ti_45, ti_46, ti_47, ti_48, ti_49, ti_50, ti_51, ti_52, ti_53, ti_54, ti_55, ti_56, ti_57, ti_58, ti_59, ti_60, ti_61, ti_62, ti_63, ti_64, ti_99, ti_100, ti_120, ti_122, ti_124, ti_128, ti_130, ti_255, ti_256, ti_260, ti_360, ti_999, ti_1000, ti_9999, ti_10000]; omega), saI_d (inb_nI hr (by decide)), ix_nI (by omega), gi_si, if_neg (by omega), h, nI_1, stI_d]
  rfl
theorem M_ran {w : Wd} {r : Nat} (h : gi w 54 50 = nI r) (hr : r < 24) (v : Int32) : f_X12_ran v w = some (tM r [v] w) := by
  have t := nI_toInt (n := r) (by omega)
  unfold f_X12_ran f_X12_ran_b19
  rw [h, if_neg (by simp only [fa_lt, fa_le, fa_eq, inb, ti_m14, ti_m13, ti_m12, ti_m11, ti_m10, ti_m9, ti_m8, ti_m7, ti_m6, ti_m5, ti_m4, ti_m3, ti_m2, ti_m1, ti_0, ti_1, ti_2, ti_3, ti_4, ti_5, ti_6, ti_7, ti_8, ti_9, ti_10, ti_11, ti_12, ti_13, ti_14, ti_15, ti_16, ti_17, ti_18, ti_19, ti_20, ti_21, ti_22, ti_23, ti_24, ti_25, ti_26, ti_27, ti_28, ti_29, ti_30, ti_31, ti_32, ti_33, ti_34, ti_35, ti_36, ti_37, ti_38, ti_39, ti_40, ti_41, ti_42, ti_43, ti_44, ti_45, ti_46, ti_47, ti_48, ti_49, ti_50, ti_51, ti_52, ti_53, ti_54, ti_55, ti_56, ti_57, ti_58, ti_59, ti_60, ti_61, ti_62, ti_63, ti_64, ti_99, ti_100, ti_120, ti_122, ti_124, ti_128, ti_130, ti_255, ti_256, ti_260, ti_360, ti_999, ti_1000, ti_9999, ti_10000]; omega), saI_d (inb_nI hr (by decide)), ix_nI (by omega), gi_si, if_neg (by omega), h, nI_1, stI_d]
  rfl
/-- the actor, its kind, where the trace stands -/
def aOK (nb b : Nat) (k : Int32) (r : Nat) (w : Wd) : Prop := nb ≤ 50 ∧ b < nb ∧ gi w 39 1 = nI nb ∧ gi w 39 4 = nI b ∧ gi w 40 b = k ∧ gi w 39 3 = nI r
def mOK (nb b : Nat) (k : Int32) (r : Nat) (w : Wd) : Prop := nb ≤ 50 ∧ b < nb ∧ gi w 80 b = k ∧ gi w 54 50 = nI r
theorem aOK_t {nb b r : Nat} {k : Int32} {w : Wd} (h : aOK nb b k r w) (l : List Int32) : aOK nb b k (r + l.length) (tX r l w) := by
  obtain ⟨h1, h2, h3, h4, h5, h6⟩ := h
  refine ⟨h1, h2, ?_, ?_, ?_, ?_⟩
  · rw [tX_at, if_neg (by omega), if_neg (by omega)]; exact h3
  · rw [tX_at, if_neg (by omega), if_neg (by omega)]; exact h4
  · rw [tX_at, if_neg (by omega), if_neg (by omega)]; exact h5
  · rw [tX_at, if_neg (by omega)]
    by_cases z : l = []
    · subst z
      rw [if_neg (fun y => y.2.2 rfl)]
      exact h6
    · rw [if_pos ⟨rfl, rfl, z⟩]
theorem mOK_t {nb b r : Nat} {k : Int32} {w : Wd} (h : mOK nb b k r w) (l : List Int32) : mOK nb b k (r + l.length) (tM r l w) := by
  obtain ⟨h1, h2, h5, h6⟩ := h
  refine ⟨h1, h2, ?_, ?_⟩
  · rw [tM_at, if_neg (by omega), if_neg (by omega)]; exact h5
  · rw [tM_at, if_neg (by omega)]
    by_cases z : l = []
    · subst z
      rw [if_neg (fun y => y.2.2 rfl)]
      exact h6
    · rw [if_pos ⟨rfl, rfl, z⟩]
/-- from a kind on, an act of the actor: what it answers, what it notes -/
def Fr (nb b : Nat) (k : Int32) (N : Nat) (j act x val : Int32) (tr : List Int32) : Prop := ∀ (n d r : Nat) (w : Wd), N ≤ n → d + N ≤ 41 → aOK nb b k r w → r + tr.length ≤ 24 → f_X0_from n j act x (nI d) w = some (val, tX r tr w)
def Ow (nb b : Nat) (k : Int32) (N : Nat) (act x val : Int32) (tr : List Int32) : Prop := ∀ (n d r : Nat) (w : Wd), N ≤ n → d + N ≤ 42 → aOK nb b k r w → r + tr.length ≤ 24 → f_X0_own n act x (nI d) w = some (val, tX r tr w)
def Mf (nb b : Nat) (k : Int32) (f : Int32 → Int32 → Wd → Option (Int32 × Wd)) (x val : Int32) (tr : List Int32) : Prop := ∀ (r : Nat) (w : Wd), mOK nb b k r w → r + tr.length ≤ 24 → f (nI b) x w = some (val, tM r tr w)
theorem own_of {nb b N : Nat} {k act x val : Int32} {tr : List Int32} (h : Fr nb b k N k act x val tr) : Ow nb b k (N + 1) act x val tr := by
  intro n d r w hn hd ha hr
  obtain ⟨m, rfl⟩ : ∃ m, n = m + 1 := ⟨n - 1, by omega⟩
  show f_X0_own_y (f_X0_own m) (f_X0_from m) (f_X0_atTop m) (f_X0_below m) act x (nI d) w = _
  unfold f_X0_own_y f_X0_kindOf
  obtain ⟨h1, h2, h3, h4, h5, h6⟩ := id ha
  rw [h4, X_has h3 h1, bR_s, ite_b2i, if_pos (inb_nI h2 (by omega)), ldI_d (inb_nI (by omega) (by decide)), ix_nI (by omega), h5, bR_s, bW_id]
  exact h m d r w (by omega) (by omega) ha hr
theorem from_1 {nb b N : Nat} {k j act x val body : Int32} {tr : List Int32} (f : Int32 → Nat → Wd → Option (Int32 × Wd)) (hnr : ∀ (m d : Nat) (w : Wd), d ≤ 40 → f_X0_from (m + 1) j act x (nI d) w = bV (f_X0_note body w) fun w3 => f (nI (d + 1)) m w3)
    (hf : ∀ (m d r : Nat) (w : Wd), N ≤ m → d + N ≤ 41 → aOK nb b k r w → r + tr.length ≤ 24 → f (nI d) m w = some (val, tX r tr w)) : Fr nb b k (N + 1) j act x val (body :: tr) := by
  intro n d r w hn hd ha hr
  obtain ⟨m, rfl⟩ : ∃ m, n = m + 1 := ⟨n - 1, by omega⟩
  have hl : (body :: tr).length = tr.length + 1 := rfl
  rw [hl] at hr
  rw [hnr m d w (by omega), X_note ha.2.2.2.2.2 (by omega), bV_s]
  exact hf m (d + 1) (r + 1) _ (by omega) (by omega) (aOK_t ha [body]) (by omega)

theorem nr_0_0 (r1 : Int32 → Int32 → Int32 → Wd → Option (Int32 × Wd)) (r2 : Int32 → Int32 → Int32 → Int32 → Wd → Option (Int32 × Wd)) (r3 : Int32 → Int32 → Int32 → Wd → Option (Int32 × Wd)) (r4 : Int32 → Int32 → Int32 → Int32 → Wd → Option (Int32 × Wd)) (x d : Int32) (w : Wd) (hd : d ≤ 40) : f_X0_from_y r1 r2 r3 r4 0 0 x d w = bV (f_X0_note 1 w) fun w3 => r3 1 x (d + 1) w3 := by
  have e : f_X0_from_y r1 r2 r3 r4 0 0 x d w = f_X0_from_b48 r1 r2 r3 r4 0 x d 0 w := rfl
  rw [e]
  unfold f_X0_from_b48
  rw [X_isKind, bR_s, ite_b2i, if_pos (by decide), if_pos hd, ltI_d (by decide)]
  exact nr_end _ _
theorem nr_0_1 (r1 : Int32 → Int32 → Int32 → Wd → Option (Int32 × Wd)) (r2 : Int32 → Int32 → Int32 → Int32 → Wd → Option (Int32 × Wd)) (r3 : Int32 → Int32 → Int32 → Wd → Option (Int32 × Wd)) (r4 : Int32 → Int32 → Int32 → Int32 → Wd → Option (Int32 × Wd)) (x d : Int32) (w : Wd) (hd : d ≤ 40) : f_X0_from_y r1 r2 r3 r4 0 1 x d w = bV (f_X0_note 10 w) fun w3 => r3 10 x (d + 1) w3 := by
  have e : f_X0_from_y r1 r2 r3 r4 0 1 x d w = f_X0_from_b48 r1 r2 r3 r4 1 x d 0 w := rfl
  rw [e]
  unfold f_X0_from_b48
  rw [X_isKind, bR_s, ite_b2i, if_pos (by decide), if_pos hd, ltI_d (by decide)]
  exact nr_end _ _
theorem nr_0_2 (r1 : Int32 → Int32 → Int32 → Wd → Option (Int32 × Wd)) (r2 : Int32 → Int32 → Int32 → Int32 → Wd → Option (Int32 × Wd)) (r3 : Int32 → Int32 → Int32 → Wd → Option (Int32 × Wd)) (r4 : Int32 → Int32 → Int32 → Int32 → Wd → Option (Int32 × Wd)) (x d : Int32) (w : Wd) (hd : d ≤ 40) : f_X0_from_y r1 r2 r3 r4 0 2 x d w = bV (f_X0_note 11 w) fun w3 => r3 11 x (d + 1) w3 := by
  have e : f_X0_from_y r1 r2 r3 r4 0 2 x d w = f_X0_from_b48 r1 r2 r3 r4 2 x d 0 w := rfl
  rw [e]
  unfold f_X0_from_b48
  rw [X_isKind, bR_s, ite_b2i, if_pos (by decide), if_pos hd, ltI_d (by decide)]
  exact nr_end _ _
theorem nr_0_3 (r1 : Int32 → Int32 → Int32 → Wd → Option (Int32 × Wd)) (r2 : Int32 → Int32 → Int32 → Int32 → Wd → Option (Int32 × Wd)) (r3 : Int32 → Int32 → Int32 → Wd → Option (Int32 × Wd)) (r4 : Int32 → Int32 → Int32 → Int32 → Wd → Option (Int32 × Wd)) (x d : Int32) (w : Wd) (hd : d ≤ 40) : f_X0_from_y r1 r2 r3 r4 0 3 x d w = bV (f_X0_note 2 w) fun w3 => r3 2 x (d + 1) w3 := by
  have e : f_X0_from_y r1 r2 r3 r4 0 3 x d w = f_X0_from_b48 r1 r2 r3 r4 3 x d 0 w := rfl
  rw [e]
  unfold f_X0_from_b48
  rw [X_isKind, bR_s, ite_b2i, if_pos (by decide), if_pos hd, ltI_d (by decide)]
  exact nr_end _ _
theorem nr_1_0 (r1 : Int32 → Int32 → Int32 → Wd → Option (Int32 × Wd)) (r2 : Int32 → Int32 → Int32 → Int32 → Wd → Option (Int32 × Wd)) (r3 : Int32 → Int32 → Int32 → Wd → Option (Int32 × Wd)) (r4 : Int32 → Int32 → Int32 → Int32 → Wd → Option (Int32 × Wd)) (x d : Int32) (w : Wd) (hd : d ≤ 40) : f_X0_from_y r1 r2 r3 r4 1 0 x d w = bV (f_X0_note 20 w) fun w3 => r4 20 0 x (d + 1) w3 := by
  have e : f_X0_from_y r1 r2 r3 r4 1 0 x d w = f_X0_from_b48 r1 r2 r3 r4 0 x d 1 w := rfl
  rw [e]
  unfold f_X0_from_b48
  rw [X_isKind, bR_s, ite_b2i, if_pos (by decide), if_pos hd, ltI_d (by decide)]
  exact nr_end _ _
theorem nr_1_1 (r1 : Int32 → Int32 → Int32 → Wd → Option (Int32 × Wd)) (r2 : Int32 → Int32 → Int32 → Int32 → Wd → Option (Int32 × Wd)) (r3 : Int32 → Int32 → Int32 → Wd → Option (Int32 × Wd)) (r4 : Int32 → Int32 → Int32 → Int32 → Wd → Option (Int32 × Wd)) (x d : Int32) (w : Wd) (hd : d ≤ 40) : f_X0_from_y r1 r2 r3 r4 1 1 x d w = bV (f_X0_note 10 w) fun w3 => r3 10 x (d + 1) w3 := by
  have e : f_X0_from_y r1 r2 r3 r4 1 1 x d w = f_X0_from_b48 r1 r2 r3 r4 1 x d 0 w := rfl
  rw [e]
  unfold f_X0_from_b48
  rw [X_isKind, bR_s, ite_b2i, if_pos (by decide), if_pos hd, ltI_d (by decide)]
  exact nr_end _ _
theorem nr_1_2 (r1 : Int32 → Int32 → Int32 → Wd → Option (Int32 × Wd)) (r2 : Int32 → Int32 → Int32 → Int32 → Wd → Option (Int32 × Wd)) (r3 : Int32 → Int32 → Int32 → Wd → Option (Int32 × Wd)) (r4 : Int32 → Int32 → Int32 → Int32 → Wd → Option (Int32 × Wd)) (x d : Int32) (w : Wd) (hd : d ≤ 40) : f_X0_from_y r1 r2 r3 r4 1 2 x d w = bV (f_X0_note 11 w) fun w3 => r3 11 x (d + 1) w3 := by
  have e : f_X0_from_y r1 r2 r3 r4 1 2 x d w = f_X0_from_b48 r1 r2 r3 r4 2 x d 0 w := rfl
  rw [e]
  unfold f_X0_from_b48
  rw [X_isKind, bR_s, ite_b2i, if_pos (by decide), if_pos hd, ltI_d (by decide)]
  exact nr_end _ _
theorem nr_1_3 (r1 : Int32 → Int32 → Int32 → Wd → Option (Int32 × Wd)) (r2 : Int32 → Int32 → Int32 → Int32 → Wd → Option (Int32 × Wd)) (r3 : Int32 → Int32 → Int32 → Wd → Option (Int32 × Wd)) (r4 : Int32 → Int32 → Int32 → Int32 → Wd → Option (Int32 × Wd)) (x d : Int32) (w : Wd) (hd : d ≤ 40) : f_X0_from_y r1 r2 r3 r4 1 3 x d w = bV (f_X0_note 2 w) fun w3 => r3 2 x (d + 1) w3 := by
  have e : f_X0_from_y r1 r2 r3 r4 1 3 x d w = f_X0_from_b48 r1 r2 r3 r4 3 x d 0 w := rfl
  rw [e]
  unfold f_X0_from_b48
  rw [X_isKind, bR_s, ite_b2i, if_pos (by decide), if_pos hd, ltI_d (by decide)]
  exact nr_end _ _
theorem nr_2_0 (r1 : Int32 → Int32 → Int32 → Wd → Option (Int32 × Wd)) (r2 : Int32 → Int32 → Int32 → Int32 → Wd → Option (Int32 × Wd)) (r3 : Int32 → Int32 → Int32 → Wd → Option (Int32 × Wd)) (r4 : Int32 → Int32 → Int32 → Int32 → Wd → Option (Int32 × Wd)) (x d : Int32) (w : Wd) (hd : d ≤ 40) : f_X0_from_y r1 r2 r3 r4 2 0 x d w = bV (f_X0_note 1 w) fun w3 => r3 1 x (d + 1) w3 := by
  have e : f_X0_from_y r1 r2 r3 r4 2 0 x d w = f_X0_from_b48 r1 r2 r3 r4 0 x d 0 w := rfl
  rw [e]
  unfold f_X0_from_b48
  rw [X_isKind, bR_s, ite_b2i, if_pos (by decide), if_pos hd, ltI_d (by decide)]
  exact nr_end _ _
theorem nr_2_1 (r1 : Int32 → Int32 → Int32 → Wd → Option (Int32 × Wd)) (r2 : Int32 → Int32 → Int32 → Int32 → Wd → Option (Int32 × Wd)) (r3 : Int32 → Int32 → Int32 → Wd → Option (Int32 × Wd)) (r4 : Int32 → Int32 → Int32 → Int32 → Wd → Option (Int32 × Wd)) (x d : Int32) (w : Wd) (hd : d ≤ 40) : f_X0_from_y r1 r2 r3 r4 2 1 x d w = bV (f_X0_note 30 w) fun w3 => r4 30 0 x (d + 1) w3 := by
  have e : f_X0_from_y r1 r2 r3 r4 2 1 x d w = f_X0_from_b48 r1 r2 r3 r4 1 x d 2 w := rfl
  rw [e]
  unfold f_X0_from_b48
  rw [X_isKind, bR_s, ite_b2i, if_pos (by decide), if_pos hd, ltI_d (by decide)]
  exact nr_end _ _
theorem nr_2_2 (r1 : Int32 → Int32 → Int32 → Wd → Option (Int32 × Wd)) (r2 : Int32 → Int32 → Int32 → Int32 → Wd → Option (Int32 × Wd)) (r3 : Int32 → Int32 → Int32 → Wd → Option (Int32 × Wd)) (r4 : Int32 → Int32 → Int32 → Int32 → Wd → Option (Int32 × Wd)) (x d : Int32) (w : Wd) (hd : d ≤ 40) : f_X0_from_y r1 r2 r3 r4 2 2 x d w = bV (f_X0_note 11 w) fun w3 => r3 11 x (d + 1) w3 := by
  have e : f_X0_from_y r1 r2 r3 r4 2 2 x d w = f_X0_from_b48 r1 r2 r3 r4 2 x d 0 w := rfl
  rw [e]
  unfold f_X0_from_b48
  rw [X_isKind, bR_s, ite_b2i, if_pos (by decide), if_pos hd, ltI_d (by decide)]
  exact nr_end _ _
theorem nr_2_3 (r1 : Int32 → Int32 → Int32 → Wd → Option (Int32 × Wd)) (r2 : Int32 → Int32 → Int32 → Int32 → Wd → Option (Int32 × Wd)) (r3 : Int32 → Int32 → Int32 → Wd → Option (Int32 × Wd)) (r4 : Int32 → Int32 → Int32 → Int32 → Wd → Option (Int32 × Wd)) (x d : Int32) (w : Wd) (hd : d ≤ 40) : f_X0_from_y r1 r2 r3 r4 2 3 x d w = bV (f_X0_note 2 w) fun w3 => r3 2 x (d + 1) w3 := by
  have e : f_X0_from_y r1 r2 r3 r4 2 3 x d w = f_X0_from_b48 r1 r2 r3 r4 3 x d 0 w := rfl
  rw [e]
  unfold f_X0_from_b48
  rw [X_isKind, bR_s, ite_b2i, if_pos (by decide), if_pos hd, ltI_d (by decide)]
  exact nr_end _ _
theorem nr_3_0 (r1 : Int32 → Int32 → Int32 → Wd → Option (Int32 × Wd)) (r2 : Int32 → Int32 → Int32 → Int32 → Wd → Option (Int32 × Wd)) (r3 : Int32 → Int32 → Int32 → Wd → Option (Int32 × Wd)) (r4 : Int32 → Int32 → Int32 → Int32 → Wd → Option (Int32 × Wd)) (x d : Int32) (w : Wd) (hd : d ≤ 40) : f_X0_from_y r1 r2 r3 r4 3 0 x d w = bV (f_X0_note 1 w) fun w3 => r3 1 x (d + 1) w3 := by
  have e : f_X0_from_y r1 r2 r3 r4 3 0 x d w = f_X0_from_b48 r1 r2 r3 r4 0 x d 0 w := rfl
  rw [e]
  unfold f_X0_from_b48
  rw [X_isKind, bR_s, ite_b2i, if_pos (by decide), if_pos hd, ltI_d (by decide)]
  exact nr_end _ _
theorem nr_3_1 (r1 : Int32 → Int32 → Int32 → Wd → Option (Int32 × Wd)) (r2 : Int32 → Int32 → Int32 → Int32 → Wd → Option (Int32 × Wd)) (r3 : Int32 → Int32 → Int32 → Wd → Option (Int32 × Wd)) (r4 : Int32 → Int32 → Int32 → Int32 → Wd → Option (Int32 × Wd)) (x d : Int32) (w : Wd) (hd : d ≤ 40) : f_X0_from_y r1 r2 r3 r4 3 1 x d w = bV (f_X0_note 41 w) fun w3 => r4 41 2 x (d + 1) w3 := by
  have e : f_X0_from_y r1 r2 r3 r4 3 1 x d w = f_X0_from_b48 r1 r2 r3 r4 1 x d 3 w := rfl
  rw [e]
  unfold f_X0_from_b48
  rw [X_isKind, bR_s, ite_b2i, if_pos (by decide), if_pos hd, ltI_d (by decide)]
  exact nr_end _ _
theorem nr_3_2 (r1 : Int32 → Int32 → Int32 → Wd → Option (Int32 × Wd)) (r2 : Int32 → Int32 → Int32 → Int32 → Wd → Option (Int32 × Wd)) (r3 : Int32 → Int32 → Int32 → Wd → Option (Int32 × Wd)) (r4 : Int32 → Int32 → Int32 → Int32 → Wd → Option (Int32 × Wd)) (x d : Int32) (w : Wd) (hd : d ≤ 40) : f_X0_from_y r1 r2 r3 r4 3 2 x d w = bV (f_X0_note 40 w) fun w3 => r4 40 2 x (d + 1) w3 := by
  have e : f_X0_from_y r1 r2 r3 r4 3 2 x d w = f_X0_from_b48 r1 r2 r3 r4 2 x d 3 w := rfl
  rw [e]
  unfold f_X0_from_b48
  rw [X_isKind, bR_s, ite_b2i, if_pos (by decide), if_pos hd, ltI_d (by decide)]
  exact nr_end _ _
theorem nr_3_3 (r1 : Int32 → Int32 → Int32 → Wd → Option (Int32 × Wd)) (r2 : Int32 → Int32 → Int32 → Int32 → Wd → Option (Int32 × Wd)) (r3 : Int32 → Int32 → Int32 → Wd → Option (Int32 × Wd)) (r4 : Int32 → Int32 → Int32 → Int32 → Wd → Option (Int32 × Wd)) (x d : Int32) (w : Wd) (hd : d ≤ 40) : f_X0_from_y r1 r2 r3 r4 3 3 x d w = bV (f_X0_note 2 w) fun w3 => r3 2 x (d + 1) w3 := by
  have e : f_X0_from_y r1 r2 r3 r4 3 3 x d w = f_X0_from_b48 r1 r2 r3 r4 3 x d 0 w := rfl
  rw [e]
  unfold f_X0_from_b48
  rw [X_isKind, bR_s, ite_b2i, if_pos (by decide), if_pos hd, ltI_d (by decide)]
  exact nr_end _ _
theorem nr_4_0 (r1 : Int32 → Int32 → Int32 → Wd → Option (Int32 × Wd)) (r2 : Int32 → Int32 → Int32 → Int32 → Wd → Option (Int32 × Wd)) (r3 : Int32 → Int32 → Int32 → Wd → Option (Int32 × Wd)) (r4 : Int32 → Int32 → Int32 → Int32 → Wd → Option (Int32 × Wd)) (x d : Int32) (w : Wd) (hd : d ≤ 40) : f_X0_from_y r1 r2 r3 r4 4 0 x d w = bV (f_X0_note 20 w) fun w3 => r4 20 0 x (d + 1) w3 := by
  have e : f_X0_from_y r1 r2 r3 r4 4 0 x d w = f_X0_from_b48 r1 r2 r3 r4 0 x d 1 w := rfl
  rw [e]
  unfold f_X0_from_b48
  rw [X_isKind, bR_s, ite_b2i, if_pos (by decide), if_pos hd, ltI_d (by decide)]
  exact nr_end _ _
theorem nr_4_1 (r1 : Int32 → Int32 → Int32 → Wd → Option (Int32 × Wd)) (r2 : Int32 → Int32 → Int32 → Int32 → Wd → Option (Int32 × Wd)) (r3 : Int32 → Int32 → Int32 → Wd → Option (Int32 × Wd)) (r4 : Int32 → Int32 → Int32 → Int32 → Wd → Option (Int32 × Wd)) (x d : Int32) (w : Wd) (hd : d ≤ 40) : f_X0_from_y r1 r2 r3 r4 4 1 x d w = bV (f_X0_note 10 w) fun w3 => r3 10 x (d + 1) w3 := by
  have e : f_X0_from_y r1 r2 r3 r4 4 1 x d w = f_X0_from_b48 r1 r2 r3 r4 1 x d 0 w := rfl
  rw [e]
  unfold f_X0_from_b48
  rw [X_isKind, bR_s, ite_b2i, if_pos (by decide), if_pos hd, ltI_d (by decide)]
  exact nr_end _ _
theorem nr_4_2 (r1 : Int32 → Int32 → Int32 → Wd → Option (Int32 × Wd)) (r2 : Int32 → Int32 → Int32 → Int32 → Wd → Option (Int32 × Wd)) (r3 : Int32 → Int32 → Int32 → Wd → Option (Int32 × Wd)) (r4 : Int32 → Int32 → Int32 → Int32 → Wd → Option (Int32 × Wd)) (x d : Int32) (w : Wd) (hd : d ≤ 40) : f_X0_from_y r1 r2 r3 r4 4 2 x d w = bV (f_X0_note 11 w) fun w3 => r3 11 x (d + 1) w3 := by
  have e : f_X0_from_y r1 r2 r3 r4 4 2 x d w = f_X0_from_b48 r1 r2 r3 r4 2 x d 0 w := rfl
  rw [e]
  unfold f_X0_from_b48
  rw [X_isKind, bR_s, ite_b2i, if_pos (by decide), if_pos hd, ltI_d (by decide)]
  exact nr_end _ _
theorem nr_4_3 (r1 : Int32 → Int32 → Int32 → Wd → Option (Int32 × Wd)) (r2 : Int32 → Int32 → Int32 → Int32 → Wd → Option (Int32 × Wd)) (r3 : Int32 → Int32 → Int32 → Wd → Option (Int32 × Wd)) (r4 : Int32 → Int32 → Int32 → Int32 → Wd → Option (Int32 × Wd)) (x d : Int32) (w : Wd) (hd : d ≤ 40) : f_X0_from_y r1 r2 r3 r4 4 3 x d w = bV (f_X0_note 50 w) fun w3 => r4 50 1 x (d + 1) w3 := by
  have e : f_X0_from_y r1 r2 r3 r4 4 3 x d w = f_X0_from_b48 r1 r2 r3 r4 3 x d 4 w := rfl
  rw [e]
  unfold f_X0_from_b48
  rw [X_isKind, bR_s, ite_b2i, if_pos (by decide), if_pos hd, ltI_d (by decide)]
  exact nr_end _ _
theorem nr_5_0 (r1 : Int32 → Int32 → Int32 → Wd → Option (Int32 × Wd)) (r2 : Int32 → Int32 → Int32 → Int32 → Wd → Option (Int32 × Wd)) (r3 : Int32 → Int32 → Int32 → Wd → Option (Int32 × Wd)) (r4 : Int32 → Int32 → Int32 → Int32 → Wd → Option (Int32 × Wd)) (x d : Int32) (w : Wd) (hd : d ≤ 40) : f_X0_from_y r1 r2 r3 r4 5 0 x d w = bV (f_X0_note 1 w) fun w3 => r3 1 x (d + 1) w3 := by
  have e : f_X0_from_y r1 r2 r3 r4 5 0 x d w = f_X0_from_b48 r1 r2 r3 r4 0 x d 0 w := rfl
  rw [e]
  unfold f_X0_from_b48
  rw [X_isKind, bR_s, ite_b2i, if_pos (by decide), if_pos hd, ltI_d (by decide)]
  exact nr_end _ _
theorem nr_5_1 (r1 : Int32 → Int32 → Int32 → Wd → Option (Int32 × Wd)) (r2 : Int32 → Int32 → Int32 → Int32 → Wd → Option (Int32 × Wd)) (r3 : Int32 → Int32 → Int32 → Wd → Option (Int32 × Wd)) (r4 : Int32 → Int32 → Int32 → Int32 → Wd → Option (Int32 × Wd)) (x d : Int32) (w : Wd) (hd : d ≤ 40) : f_X0_from_y r1 r2 r3 r4 5 1 x d w = bV (f_X0_note 41 w) fun w3 => r4 41 2 x (d + 1) w3 := by
  have e : f_X0_from_y r1 r2 r3 r4 5 1 x d w = f_X0_from_b48 r1 r2 r3 r4 1 x d 3 w := rfl
  rw [e]
  unfold f_X0_from_b48
  rw [X_isKind, bR_s, ite_b2i, if_pos (by decide), if_pos hd, ltI_d (by decide)]
  exact nr_end _ _
theorem nr_5_2 (r1 : Int32 → Int32 → Int32 → Wd → Option (Int32 × Wd)) (r2 : Int32 → Int32 → Int32 → Int32 → Wd → Option (Int32 × Wd)) (r3 : Int32 → Int32 → Int32 → Wd → Option (Int32 × Wd)) (r4 : Int32 → Int32 → Int32 → Int32 → Wd → Option (Int32 × Wd)) (x d : Int32) (w : Wd) (hd : d ≤ 40) : f_X0_from_y r1 r2 r3 r4 5 2 x d w = bV (f_X0_note 60 w) fun w3 => r4 60 3 x (d + 1) w3 := by
  have e : f_X0_from_y r1 r2 r3 r4 5 2 x d w = f_X0_from_b48 r1 r2 r3 r4 2 x d 5 w := rfl
  rw [e]
  unfold f_X0_from_b48
  rw [X_isKind, bR_s, ite_b2i, if_pos (by decide), if_pos hd, ltI_d (by decide)]
  exact nr_end _ _
theorem nr_5_3 (r1 : Int32 → Int32 → Int32 → Wd → Option (Int32 × Wd)) (r2 : Int32 → Int32 → Int32 → Int32 → Wd → Option (Int32 × Wd)) (r3 : Int32 → Int32 → Int32 → Wd → Option (Int32 × Wd)) (r4 : Int32 → Int32 → Int32 → Int32 → Wd → Option (Int32 × Wd)) (x d : Int32) (w : Wd) (hd : d ≤ 40) : f_X0_from_y r1 r2 r3 r4 5 3 x d w = bV (f_X0_note 61 w) fun w3 => r4 61 3 x (d + 1) w3 := by
  have e : f_X0_from_y r1 r2 r3 r4 5 3 x d w = f_X0_from_b48 r1 r2 r3 r4 3 x d 5 w := rfl
  rw [e]
  unfold f_X0_from_b48
  rw [X_isKind, bR_s, ite_b2i, if_pos (by decide), if_pos hd, ltI_d (by decide)]
  exact nr_end _ _
theorem nr_6_0 (r1 : Int32 → Int32 → Int32 → Wd → Option (Int32 × Wd)) (r2 : Int32 → Int32 → Int32 → Int32 → Wd → Option (Int32 × Wd)) (r3 : Int32 → Int32 → Int32 → Wd → Option (Int32 × Wd)) (r4 : Int32 → Int32 → Int32 → Int32 → Wd → Option (Int32 × Wd)) (x d : Int32) (w : Wd) (hd : d ≤ 40) : f_X0_from_y r1 r2 r3 r4 6 0 x d w = bV (f_X0_note 70 w) fun w3 => r4 70 0 x (d + 1) w3 := by
  have e : f_X0_from_y r1 r2 r3 r4 6 0 x d w = f_X0_from_b48 r1 r2 r3 r4 0 x d 6 w := rfl
  rw [e]
  unfold f_X0_from_b48
  rw [X_isKind, bR_s, ite_b2i, if_pos (by decide), if_pos hd, ltI_d (by decide)]
  exact nr_end _ _
theorem nr_6_1 (r1 : Int32 → Int32 → Int32 → Wd → Option (Int32 × Wd)) (r2 : Int32 → Int32 → Int32 → Int32 → Wd → Option (Int32 × Wd)) (r3 : Int32 → Int32 → Int32 → Wd → Option (Int32 × Wd)) (r4 : Int32 → Int32 → Int32 → Int32 → Wd → Option (Int32 × Wd)) (x d : Int32) (w : Wd) (hd : d ≤ 40) : f_X0_from_y r1 r2 r3 r4 6 1 x d w = bV (f_X0_note 10 w) fun w3 => r3 10 x (d + 1) w3 := by
  have e : f_X0_from_y r1 r2 r3 r4 6 1 x d w = f_X0_from_b48 r1 r2 r3 r4 1 x d 0 w := rfl
  rw [e]
  unfold f_X0_from_b48
  rw [X_isKind, bR_s, ite_b2i, if_pos (by decide), if_pos hd, ltI_d (by decide)]
  exact nr_end _ _
theorem nr_6_2 (r1 : Int32 → Int32 → Int32 → Wd → Option (Int32 × Wd)) (r2 : Int32 → Int32 → Int32 → Int32 → Wd → Option (Int32 × Wd)) (r3 : Int32 → Int32 → Int32 → Wd → Option (Int32 × Wd)) (r4 : Int32 → Int32 → Int32 → Int32 → Wd → Option (Int32 × Wd)) (x d : Int32) (w : Wd) (hd : d ≤ 40) : f_X0_from_y r1 r2 r3 r4 6 2 x d w = bV (f_X0_note 11 w) fun w3 => r3 11 x (d + 1) w3 := by
  have e : f_X0_from_y r1 r2 r3 r4 6 2 x d w = f_X0_from_b48 r1 r2 r3 r4 2 x d 0 w := rfl
  rw [e]
  unfold f_X0_from_b48
  rw [X_isKind, bR_s, ite_b2i, if_pos (by decide), if_pos hd, ltI_d (by decide)]
  exact nr_end _ _
theorem nr_6_3 (r1 : Int32 → Int32 → Int32 → Wd → Option (Int32 × Wd)) (r2 : Int32 → Int32 → Int32 → Int32 → Wd → Option (Int32 × Wd)) (r3 : Int32 → Int32 → Int32 → Wd → Option (Int32 × Wd)) (r4 : Int32 → Int32 → Int32 → Int32 → Wd → Option (Int32 × Wd)) (x d : Int32) (w : Wd) (hd : d ≤ 40) : f_X0_from_y r1 r2 r3 r4 6 3 x d w = bV (f_X0_note 2 w) fun w3 => r3 2 x (d + 1) w3 := by
  have e : f_X0_from_y r1 r2 r3 r4 6 3 x d w = f_X0_from_b48 r1 r2 r3 r4 3 x d 0 w := rfl
  rw [e]
  unfold f_X0_from_b48
  rw [X_isKind, bR_s, ite_b2i, if_pos (by decide), if_pos hd, ltI_d (by decide)]
  exact nr_end _ _
theorem nr_7_0 (r1 : Int32 → Int32 → Int32 → Wd → Option (Int32 × Wd)) (r2 : Int32 → Int32 → Int32 → Int32 → Wd → Option (Int32 × Wd)) (r3 : Int32 → Int32 → Int32 → Wd → Option (Int32 × Wd)) (r4 : Int32 → Int32 → Int32 → Int32 → Wd → Option (Int32 × Wd)) (x d : Int32) (w : Wd) (hd : d ≤ 40) : f_X0_from_y r1 r2 r3 r4 7 0 x d w = bV (f_X0_note 81 w) fun w3 => r4 81 6 x (d + 1) w3 := by
  have e : f_X0_from_y r1 r2 r3 r4 7 0 x d w = f_X0_from_b48 r1 r2 r3 r4 0 x d 7 w := rfl
  rw [e]
  unfold f_X0_from_b48
  rw [X_isKind, bR_s, ite_b2i, if_pos (by decide), if_pos hd, ltI_d (by decide)]
  exact nr_end _ _
theorem nr_7_1 (r1 : Int32 → Int32 → Int32 → Wd → Option (Int32 × Wd)) (r2 : Int32 → Int32 → Int32 → Int32 → Wd → Option (Int32 × Wd)) (r3 : Int32 → Int32 → Int32 → Wd → Option (Int32 × Wd)) (r4 : Int32 → Int32 → Int32 → Int32 → Wd → Option (Int32 × Wd)) (x d : Int32) (w : Wd) (hd : d ≤ 40) : f_X0_from_y r1 r2 r3 r4 7 1 x d w = bV (f_X0_note 80 w) fun w3 => r4 80 6 x (d + 1) w3 := by
  have e : f_X0_from_y r1 r2 r3 r4 7 1 x d w = f_X0_from_b48 r1 r2 r3 r4 1 x d 7 w := rfl
  rw [e]
  unfold f_X0_from_b48
  rw [X_isKind, bR_s, ite_b2i, if_pos (by decide), if_pos hd, ltI_d (by decide)]
  exact nr_end _ _
theorem nr_7_2 (r1 : Int32 → Int32 → Int32 → Wd → Option (Int32 × Wd)) (r2 : Int32 → Int32 → Int32 → Int32 → Wd → Option (Int32 × Wd)) (r3 : Int32 → Int32 → Int32 → Wd → Option (Int32 × Wd)) (r4 : Int32 → Int32 → Int32 → Int32 → Wd → Option (Int32 × Wd)) (x d : Int32) (w : Wd) (hd : d ≤ 40) : f_X0_from_y r1 r2 r3 r4 7 2 x d w = bV (f_X0_note 11 w) fun w3 => r3 11 x (d + 1) w3 := by
  have e : f_X0_from_y r1 r2 r3 r4 7 2 x d w = f_X0_from_b48 r1 r2 r3 r4 2 x d 0 w := rfl
  rw [e]
  unfold f_X0_from_b48
  rw [X_isKind, bR_s, ite_b2i, if_pos (by decide), if_pos hd, ltI_d (by decide)]
  exact nr_end _ _
theorem nr_7_3 (r1 : Int32 → Int32 → Int32 → Wd → Option (Int32 × Wd)) (r2 : Int32 → Int32 → Int32 → Int32 → Wd → Option (Int32 × Wd)) (r3 : Int32 → Int32 → Int32 → Wd → Option (Int32 × Wd)) (r4 : Int32 → Int32 → Int32 → Int32 → Wd → Option (Int32 × Wd)) (x d : Int32) (w : Wd) (hd : d ≤ 40) : f_X0_from_y r1 r2 r3 r4 7 3 x d w = bV (f_X0_note 2 w) fun w3 => r3 2 x (d + 1) w3 := by
  have e : f_X0_from_y r1 r2 r3 r4 7 3 x d w = f_X0_from_b48 r1 r2 r3 r4 3 x d 0 w := rfl
  rw [e]
  unfold f_X0_from_b48
  rw [X_isKind, bR_s, ite_b2i, if_pos (by decide), if_pos hd, ltI_d (by decide)]
  exact nr_end _ _
theorem fr_0_0_0 (nb b : Nat) (x : Int32) : Fr nb b 0 2 0 0 x (x + nI b) [1] := by
  refine from_1 (N := 1) (fun dd m w => f_X0_atTop m 1 x dd w) (fun m d w hd => by
    show f_X0_from_y (f_X0_own m) (f_X0_from m) (f_X0_atTop m) (f_X0_below m) 0 0 x (nI d) w = _
    rw [nr_0_0 _ _ _ _ _ _ _ (show nI d ≤ nI 40 from (nI_leI (by omega) (by omega)).mpr hd), nI_1]) ?_
  intro m d r w hn hd ha hr
  obtain ⟨m, rfl⟩ : ∃ q, m = q + 1 := ⟨m - 1, by omega⟩
  show f_X0_atTop_y (f_X0_own m) (f_X0_from m) (f_X0_atTop m) (f_X0_below m) 1 x (nI d) w = _
  show some (x + gi w 39 4, w) = _
  rw [ha.2.2.2.1]
  rfl
theorem fr_0_0_1 (nb b : Nat) (x : Int32) : Fr nb b 0 5 0 1 x ((x + nI b) * 2) [10, 1] := by
  refine from_1 (N := 4) (fun dd m w => f_X0_atTop m 10 x dd w) (fun m d w hd => by
    show f_X0_from_y (f_X0_own m) (f_X0_from m) (f_X0_atTop m) (f_X0_below m) 0 1 x (nI d) w = _
    rw [nr_0_1 _ _ _ _ _ _ _ (show nI d ≤ nI 40 from (nI_leI (by omega) (by omega)).mpr hd), nI_1]) ?_
  intro m d r w hn hd ha hr
  obtain ⟨m, rfl⟩ : ∃ q, m = q + 1 := ⟨m - 1, by omega⟩
  show f_X0_atTop_y (f_X0_own m) (f_X0_from m) (f_X0_atTop m) (f_X0_below m) 10 x (nI d) w = _
  show (bW (f_X0_own m 0 x (nI d) w) fun r5 w6 => some (r5 * 2, w6)) = _
  rw [(own_of (fr_0_0_0 nb b x)) m d r w (by omega) (by omega) ha hr, bW_s]
theorem fr_0_0_2 (nb b : Nat) (x : Int32) : Fr nb b 0 2 0 2 x (x ^^^ nI b) [11] := by
  refine from_1 (N := 1) (fun dd m w => f_X0_atTop m 11 x dd w) (fun m d w hd => by
    show f_X0_from_y (f_X0_own m) (f_X0_from m) (f_X0_atTop m) (f_X0_below m) 0 2 x (nI d) w = _
    rw [nr_0_2 _ _ _ _ _ _ _ (show nI d ≤ nI 40 from (nI_leI (by omega) (by omega)).mpr hd), nI_1]) ?_
  intro m d r w hn hd ha hr
  obtain ⟨m, rfl⟩ : ∃ q, m = q + 1 := ⟨m - 1, by omega⟩
  show f_X0_atTop_y (f_X0_own m) (f_X0_from m) (f_X0_atTop m) (f_X0_below m) 11 x (nI d) w = _
  show some (x ^^^ gi w 39 4, w) = _
  rw [ha.2.2.2.1]
  rfl
theorem fr_0_0_3 (nb b : Nat) (x : Int32) : Fr nb b 0 8 0 3 x (((x + nI b) * 2) - (1 ^^^ nI b)) [2, 10, 1, 11] := by
  refine from_1 (N := 7) (fun dd m w => f_X0_atTop m 2 x dd w) (fun m d w hd => by
    show f_X0_from_y (f_X0_own m) (f_X0_from m) (f_X0_atTop m) (f_X0_below m) 0 3 x (nI d) w = _
    rw [nr_0_3 _ _ _ _ _ _ _ (show nI d ≤ nI 40 from (nI_leI (by omega) (by omega)).mpr hd), nI_1]) ?_
  intro m d r w hn hd ha hr
  obtain ⟨m, rfl⟩ : ∃ q, m = q + 1 := ⟨m - 1, by omega⟩
  show f_X0_atTop_y (f_X0_own m) (f_X0_from m) (f_X0_atTop m) (f_X0_below m) 2 x (nI d) w = _
  have hl : ([10, 1, 11] : List Int32).length = 3 := rfl
  rw [hl] at hr
  show (bW (f_X0_own m 1 x (nI d) w) fun r1 w2 => bW (f_X0_own m 2 1 (nI d) w2) fun r3 w4 => some (r1 - r3, w4)) = _
  rw [(own_of (fr_0_0_1 nb b x)) m d r w (by omega) (by omega) ha (show r + 2 ≤ 24 by omega), bW_s, (own_of (fr_0_0_2 nb b 1)) m d (r + 2) _ (by omega) (by omega) (aOK_t ha [10, 1]) (show r + 2 + 1 ≤ 24 by omega), bW_s]
  exact congrArg some (congrArg (Prod.mk _) (tX_app [10, 1] [11] r w))
theorem fr_1_0_0 (nb b : Nat) (x : Int32) : Fr nb b 1 2 0 0 x (x + nI b) [1] := by
  refine from_1 (N := 1) (fun dd m w => f_X0_atTop m 1 x dd w) (fun m d w hd => by
    show f_X0_from_y (f_X0_own m) (f_X0_from m) (f_X0_atTop m) (f_X0_below m) 0 0 x (nI d) w = _
    rw [nr_0_0 _ _ _ _ _ _ _ (show nI d ≤ nI 40 from (nI_leI (by omega) (by omega)).mpr hd), nI_1]) ?_
  intro m d r w hn hd ha hr
  obtain ⟨m, rfl⟩ : ∃ q, m = q + 1 := ⟨m - 1, by omega⟩
  show f_X0_atTop_y (f_X0_own m) (f_X0_from m) (f_X0_atTop m) (f_X0_below m) 1 x (nI d) w = _
  show some (x + gi w 39 4, w) = _
  rw [ha.2.2.2.1]
  rfl
theorem fr_1_1_0 (nb b : Nat) (x : Int32) : Fr nb b 1 4 1 0 x ((x + nI b) + 3) [20, 1] := by
  refine from_1 (N := 3) (fun dd m w => f_X0_below m 20 0 x dd w) (fun m d w hd => by
    show f_X0_from_y (f_X0_own m) (f_X0_from m) (f_X0_atTop m) (f_X0_below m) 1 0 x (nI d) w = _
    rw [nr_1_0 _ _ _ _ _ _ _ (show nI d ≤ nI 40 from (nI_leI (by omega) (by omega)).mpr hd), nI_1]) ?_
  intro m d r w hn hd ha hr
  obtain ⟨m, rfl⟩ : ∃ q, m = q + 1 := ⟨m - 1, by omega⟩
  show f_X0_below_y (f_X0_own m) (f_X0_from m) (f_X0_atTop m) (f_X0_below m) 20 0 x (nI d) w = _
  show (bW (f_X0_from m 0 0 x (nI d) w) fun r1 w2 => some (r1 + 3, w2)) = _
  rw [fr_1_0_0 nb b x m d r w (by omega) (by omega) ha hr, bW_s]
theorem fr_1_1_1 (nb b : Nat) (x : Int32) : Fr nb b 1 7 1 1 x (((x + nI b) + 3) * 2) [10, 20, 1] := by
  refine from_1 (N := 6) (fun dd m w => f_X0_atTop m 10 x dd w) (fun m d w hd => by
    show f_X0_from_y (f_X0_own m) (f_X0_from m) (f_X0_atTop m) (f_X0_below m) 1 1 x (nI d) w = _
    rw [nr_1_1 _ _ _ _ _ _ _ (show nI d ≤ nI 40 from (nI_leI (by omega) (by omega)).mpr hd), nI_1]) ?_
  intro m d r w hn hd ha hr
  obtain ⟨m, rfl⟩ : ∃ q, m = q + 1 := ⟨m - 1, by omega⟩
  show f_X0_atTop_y (f_X0_own m) (f_X0_from m) (f_X0_atTop m) (f_X0_below m) 10 x (nI d) w = _
  show (bW (f_X0_own m 0 x (nI d) w) fun r5 w6 => some (r5 * 2, w6)) = _
  rw [(own_of (fr_1_1_0 nb b x)) m d r w (by omega) (by omega) ha hr, bW_s]
theorem fr_1_1_2 (nb b : Nat) (x : Int32) : Fr nb b 1 2 1 2 x (x ^^^ nI b) [11] := by
  refine from_1 (N := 1) (fun dd m w => f_X0_atTop m 11 x dd w) (fun m d w hd => by
    show f_X0_from_y (f_X0_own m) (f_X0_from m) (f_X0_atTop m) (f_X0_below m) 1 2 x (nI d) w = _
    rw [nr_1_2 _ _ _ _ _ _ _ (show nI d ≤ nI 40 from (nI_leI (by omega) (by omega)).mpr hd), nI_1]) ?_
  intro m d r w hn hd ha hr
  obtain ⟨m, rfl⟩ : ∃ q, m = q + 1 := ⟨m - 1, by omega⟩
  show f_X0_atTop_y (f_X0_own m) (f_X0_from m) (f_X0_atTop m) (f_X0_below m) 11 x (nI d) w = _
  show some (x ^^^ gi w 39 4, w) = _
  rw [ha.2.2.2.1]
  rfl
theorem fr_1_1_3 (nb b : Nat) (x : Int32) : Fr nb b 1 10 1 3 x ((((x + nI b) + 3) * 2) - (1 ^^^ nI b)) [2, 10, 20, 1, 11] := by
  refine from_1 (N := 9) (fun dd m w => f_X0_atTop m 2 x dd w) (fun m d w hd => by
    show f_X0_from_y (f_X0_own m) (f_X0_from m) (f_X0_atTop m) (f_X0_below m) 1 3 x (nI d) w = _
    rw [nr_1_3 _ _ _ _ _ _ _ (show nI d ≤ nI 40 from (nI_leI (by omega) (by omega)).mpr hd), nI_1]) ?_
  intro m d r w hn hd ha hr
  obtain ⟨m, rfl⟩ : ∃ q, m = q + 1 := ⟨m - 1, by omega⟩
  show f_X0_atTop_y (f_X0_own m) (f_X0_from m) (f_X0_atTop m) (f_X0_below m) 2 x (nI d) w = _
  have hl : ([10, 20, 1, 11] : List Int32).length = 4 := rfl
  rw [hl] at hr
  show (bW (f_X0_own m 1 x (nI d) w) fun r1 w2 => bW (f_X0_own m 2 1 (nI d) w2) fun r3 w4 => some (r1 - r3, w4)) = _
  rw [(own_of (fr_1_1_1 nb b x)) m d r w (by omega) (by omega) ha (show r + 3 ≤ 24 by omega), bW_s, (own_of (fr_1_1_2 nb b 1)) m d (r + 3) _ (by omega) (by omega) (aOK_t ha [10, 20, 1]) (show r + 3 + 1 ≤ 24 by omega), bW_s]
  exact congrArg some (congrArg (Prod.mk _) (tX_app [10, 20, 1] [11] r w))
theorem fr_2_2_0 (nb b : Nat) (x : Int32) : Fr nb b 2 2 2 0 x (x + nI b) [1] := by
  refine from_1 (N := 1) (fun dd m w => f_X0_atTop m 1 x dd w) (fun m d w hd => by
    show f_X0_from_y (f_X0_own m) (f_X0_from m) (f_X0_atTop m) (f_X0_below m) 2 0 x (nI d) w = _
    rw [nr_2_0 _ _ _ _ _ _ _ (show nI d ≤ nI 40 from (nI_leI (by omega) (by omega)).mpr hd), nI_1]) ?_
  intro m d r w hn hd ha hr
  obtain ⟨m, rfl⟩ : ∃ q, m = q + 1 := ⟨m - 1, by omega⟩
  show f_X0_atTop_y (f_X0_own m) (f_X0_from m) (f_X0_atTop m) (f_X0_below m) 1 x (nI d) w = _
  show some (x + gi w 39 4, w) = _
  rw [ha.2.2.2.1]
  rfl
theorem fr_2_0_1 (nb b : Nat) (x : Int32) : Fr nb b 2 5 0 1 x ((x + nI b) * 2) [10, 1] := by
  refine from_1 (N := 4) (fun dd m w => f_X0_atTop m 10 x dd w) (fun m d w hd => by
    show f_X0_from_y (f_X0_own m) (f_X0_from m) (f_X0_atTop m) (f_X0_below m) 0 1 x (nI d) w = _
    rw [nr_0_1 _ _ _ _ _ _ _ (show nI d ≤ nI 40 from (nI_leI (by omega) (by omega)).mpr hd), nI_1]) ?_
  intro m d r w hn hd ha hr
  obtain ⟨m, rfl⟩ : ∃ q, m = q + 1 := ⟨m - 1, by omega⟩
  show f_X0_atTop_y (f_X0_own m) (f_X0_from m) (f_X0_atTop m) (f_X0_below m) 10 x (nI d) w = _
  show (bW (f_X0_own m 0 x (nI d) w) fun r5 w6 => some (r5 * 2, w6)) = _
  rw [(own_of (fr_2_2_0 nb b x)) m d r w (by omega) (by omega) ha hr, bW_s]
theorem fr_2_2_1 (nb b : Nat) (x : Int32) : Fr nb b 2 7 2 1 x (-((x + nI b) * 2)) [30, 10, 1] := by
  refine from_1 (N := 6) (fun dd m w => f_X0_below m 30 0 x dd w) (fun m d w hd => by
    show f_X0_from_y (f_X0_own m) (f_X0_from m) (f_X0_atTop m) (f_X0_below m) 2 1 x (nI d) w = _
    rw [nr_2_1 _ _ _ _ _ _ _ (show nI d ≤ nI 40 from (nI_leI (by omega) (by omega)).mpr hd), nI_1]) ?_
  intro m d r w hn hd ha hr
  obtain ⟨m, rfl⟩ : ∃ q, m = q + 1 := ⟨m - 1, by omega⟩
  show f_X0_below_y (f_X0_own m) (f_X0_from m) (f_X0_atTop m) (f_X0_below m) 30 0 x (nI d) w = _
  show (bW (f_X0_from m 0 1 x (nI d) w) fun r1 w2 => some (-r1, w2)) = _
  rw [fr_2_0_1 nb b x m d r w (by omega) (by omega) ha hr, bW_s]
theorem fr_2_2_2 (nb b : Nat) (x : Int32) : Fr nb b 2 2 2 2 x (x ^^^ nI b) [11] := by
  refine from_1 (N := 1) (fun dd m w => f_X0_atTop m 11 x dd w) (fun m d w hd => by
    show f_X0_from_y (f_X0_own m) (f_X0_from m) (f_X0_atTop m) (f_X0_below m) 2 2 x (nI d) w = _
    rw [nr_2_2 _ _ _ _ _ _ _ (show nI d ≤ nI 40 from (nI_leI (by omega) (by omega)).mpr hd), nI_1]) ?_
  intro m d r w hn hd ha hr
  obtain ⟨m, rfl⟩ : ∃ q, m = q + 1 := ⟨m - 1, by omega⟩
  show f_X0_atTop_y (f_X0_own m) (f_X0_from m) (f_X0_atTop m) (f_X0_below m) 11 x (nI d) w = _
  show some (x ^^^ gi w 39 4, w) = _
  rw [ha.2.2.2.1]
  rfl
theorem fr_2_2_3 (nb b : Nat) (x : Int32) : Fr nb b 2 10 2 3 x ((-((x + nI b) * 2)) - (1 ^^^ nI b)) [2, 30, 10, 1, 11] := by
  refine from_1 (N := 9) (fun dd m w => f_X0_atTop m 2 x dd w) (fun m d w hd => by
    show f_X0_from_y (f_X0_own m) (f_X0_from m) (f_X0_atTop m) (f_X0_below m) 2 3 x (nI d) w = _
    rw [nr_2_3 _ _ _ _ _ _ _ (show nI d ≤ nI 40 from (nI_leI (by omega) (by omega)).mpr hd), nI_1]) ?_
  intro m d r w hn hd ha hr
  obtain ⟨m, rfl⟩ : ∃ q, m = q + 1 := ⟨m - 1, by omega⟩
  show f_X0_atTop_y (f_X0_own m) (f_X0_from m) (f_X0_atTop m) (f_X0_below m) 2 x (nI d) w = _
  have hl : ([30, 10, 1, 11] : List Int32).length = 4 := rfl
  rw [hl] at hr
  show (bW (f_X0_own m 1 x (nI d) w) fun r1 w2 => bW (f_X0_own m 2 1 (nI d) w2) fun r3 w4 => some (r1 - r3, w4)) = _
  rw [(own_of (fr_2_2_1 nb b x)) m d r w (by omega) (by omega) ha (show r + 3 ≤ 24 by omega), bW_s, (own_of (fr_2_2_2 nb b 1)) m d (r + 3) _ (by omega) (by omega) (aOK_t ha [30, 10, 1]) (show r + 3 + 1 ≤ 24 by omega), bW_s]
  exact congrArg some (congrArg (Prod.mk _) (tX_app [30, 10, 1] [11] r w))
theorem fr_3_3_0 (nb b : Nat) (x : Int32) : Fr nb b 3 2 3 0 x (x + nI b) [1] := by
  refine from_1 (N := 1) (fun dd m w => f_X0_atTop m 1 x dd w) (fun m d w hd => by
    show f_X0_from_y (f_X0_own m) (f_X0_from m) (f_X0_atTop m) (f_X0_below m) 3 0 x (nI d) w = _
    rw [nr_3_0 _ _ _ _ _ _ _ (show nI d ≤ nI 40 from (nI_leI (by omega) (by omega)).mpr hd), nI_1]) ?_
  intro m d r w hn hd ha hr
  obtain ⟨m, rfl⟩ : ∃ q, m = q + 1 := ⟨m - 1, by omega⟩
  show f_X0_atTop_y (f_X0_own m) (f_X0_from m) (f_X0_atTop m) (f_X0_below m) 1 x (nI d) w = _
  show some (x + gi w 39 4, w) = _
  rw [ha.2.2.2.1]
  rfl
theorem fr_3_0_1 (nb b : Nat) (x : Int32) : Fr nb b 3 5 0 1 x ((x + nI b) * 2) [10, 1] := by
  refine from_1 (N := 4) (fun dd m w => f_X0_atTop m 10 x dd w) (fun m d w hd => by
    show f_X0_from_y (f_X0_own m) (f_X0_from m) (f_X0_atTop m) (f_X0_below m) 0 1 x (nI d) w = _
    rw [nr_0_1 _ _ _ _ _ _ _ (show nI d ≤ nI 40 from (nI_leI (by omega) (by omega)).mpr hd), nI_1]) ?_
  intro m d r w hn hd ha hr
  obtain ⟨m, rfl⟩ : ∃ q, m = q + 1 := ⟨m - 1, by omega⟩
  show f_X0_atTop_y (f_X0_own m) (f_X0_from m) (f_X0_atTop m) (f_X0_below m) 10 x (nI d) w = _
  show (bW (f_X0_own m 0 x (nI d) w) fun r5 w6 => some (r5 * 2, w6)) = _
  rw [(own_of (fr_3_3_0 nb b x)) m d r w (by omega) (by omega) ha hr, bW_s]
theorem fr_3_2_1 (nb b : Nat) (x : Int32) : Fr nb b 3 7 2 1 x (-((x + nI b) * 2)) [30, 10, 1] := by
  refine from_1 (N := 6) (fun dd m w => f_X0_below m 30 0 x dd w) (fun m d w hd => by
    show f_X0_from_y (f_X0_own m) (f_X0_from m) (f_X0_atTop m) (f_X0_below m) 2 1 x (nI d) w = _
    rw [nr_2_1 _ _ _ _ _ _ _ (show nI d ≤ nI 40 from (nI_leI (by omega) (by omega)).mpr hd), nI_1]) ?_
  intro m d r w hn hd ha hr
  obtain ⟨m, rfl⟩ : ∃ q, m = q + 1 := ⟨m - 1, by omega⟩
  show f_X0_below_y (f_X0_own m) (f_X0_from m) (f_X0_atTop m) (f_X0_below m) 30 0 x (nI d) w = _
  show (bW (f_X0_from m 0 1 x (nI d) w) fun r1 w2 => some (-r1, w2)) = _
  rw [fr_3_0_1 nb b x m d r w (by omega) (by omega) ha hr, bW_s]
theorem fr_3_3_1 (nb b : Nat) (x : Int32) : Fr nb b 3 9 3 1 x ((-(((x + 1) + nI b) * 2))) [41, 30, 10, 1] := by
  refine from_1 (N := 8) (fun dd m w => f_X0_below m 41 2 x dd w) (fun m d w hd => by
    show f_X0_from_y (f_X0_own m) (f_X0_from m) (f_X0_atTop m) (f_X0_below m) 3 1 x (nI d) w = _
    rw [nr_3_1 _ _ _ _ _ _ _ (show nI d ≤ nI 40 from (nI_leI (by omega) (by omega)).mpr hd), nI_1]) ?_
  intro m d r w hn hd ha hr
  obtain ⟨m, rfl⟩ : ∃ q, m = q + 1 := ⟨m - 1, by omega⟩
  show f_X0_below_y (f_X0_own m) (f_X0_from m) (f_X0_atTop m) (f_X0_below m) 41 2 x (nI d) w = _
  show (bW (f_X0_from m 2 1 (x + 1) (nI d) w) fun r1 w2 => some (r1, w2)) = _
  rw [fr_3_2_1 nb b (x + 1) m d r w (by omega) (by omega) ha hr, bW_s]
theorem fr_3_2_2 (nb b : Nat) (x : Int32) : Fr nb b 3 2 2 2 x (x ^^^ nI b) [11] := by
  refine from_1 (N := 1) (fun dd m w => f_X0_atTop m 11 x dd w) (fun m d w hd => by
    show f_X0_from_y (f_X0_own m) (f_X0_from m) (f_X0_atTop m) (f_X0_below m) 2 2 x (nI d) w = _
    rw [nr_2_2 _ _ _ _ _ _ _ (show nI d ≤ nI 40 from (nI_leI (by omega) (by omega)).mpr hd), nI_1]) ?_
  intro m d r w hn hd ha hr
  obtain ⟨m, rfl⟩ : ∃ q, m = q + 1 := ⟨m - 1, by omega⟩
  show f_X0_atTop_y (f_X0_own m) (f_X0_from m) (f_X0_atTop m) (f_X0_below m) 11 x (nI d) w = _
  show some (x ^^^ gi w 39 4, w) = _
  rw [ha.2.2.2.1]
  rfl
theorem fr_3_3_2 (nb b : Nat) (x : Int32) : Fr nb b 3 4 3 2 x ((x ^^^ nI b) * 3) [40, 11] := by
  refine from_1 (N := 3) (fun dd m w => f_X0_below m 40 2 x dd w) (fun m d w hd => by
    show f_X0_from_y (f_X0_own m) (f_X0_from m) (f_X0_atTop m) (f_X0_below m) 3 2 x (nI d) w = _
    rw [nr_3_2 _ _ _ _ _ _ _ (show nI d ≤ nI 40 from (nI_leI (by omega) (by omega)).mpr hd), nI_1]) ?_
  intro m d r w hn hd ha hr
  obtain ⟨m, rfl⟩ : ∃ q, m = q + 1 := ⟨m - 1, by omega⟩
  show f_X0_below_y (f_X0_own m) (f_X0_from m) (f_X0_atTop m) (f_X0_below m) 40 2 x (nI d) w = _
  show (bW (f_X0_from m 2 2 x (nI d) w) fun r1 w2 => some (r1 * 3, w2)) = _
  rw [fr_3_2_2 nb b x m d r w (by omega) (by omega) ha hr, bW_s]
theorem fr_3_3_3 (nb b : Nat) (x : Int32) : Fr nb b 3 12 3 3 x (((-(((x + 1) + nI b) * 2))) - ((1 ^^^ nI b) * 3)) [2, 41, 30, 10, 1, 40, 11] := by
  refine from_1 (N := 11) (fun dd m w => f_X0_atTop m 2 x dd w) (fun m d w hd => by
    show f_X0_from_y (f_X0_own m) (f_X0_from m) (f_X0_atTop m) (f_X0_below m) 3 3 x (nI d) w = _
    rw [nr_3_3 _ _ _ _ _ _ _ (show nI d ≤ nI 40 from (nI_leI (by omega) (by omega)).mpr hd), nI_1]) ?_
  intro m d r w hn hd ha hr
  obtain ⟨m, rfl⟩ : ∃ q, m = q + 1 := ⟨m - 1, by omega⟩
  show f_X0_atTop_y (f_X0_own m) (f_X0_from m) (f_X0_atTop m) (f_X0_below m) 2 x (nI d) w = _
  have hl : ([41, 30, 10, 1, 40, 11] : List Int32).length = 6 := rfl
  rw [hl] at hr
  show (bW (f_X0_own m 1 x (nI d) w) fun r1 w2 => bW (f_X0_own m 2 1 (nI d) w2) fun r3 w4 => some (r1 - r3, w4)) = _
  rw [(own_of (fr_3_3_1 nb b x)) m d r w (by omega) (by omega) ha (show r + 4 ≤ 24 by omega), bW_s, (own_of (fr_3_3_2 nb b 1)) m d (r + 4) _ (by omega) (by omega) (aOK_t ha [41, 30, 10, 1]) (show r + 4 + 2 ≤ 24 by omega), bW_s]
  exact congrArg some (congrArg (Prod.mk _) (tX_app [41, 30, 10, 1] [40, 11] r w))
theorem fr_4_0_0 (nb b : Nat) (x : Int32) : Fr nb b 4 2 0 0 x (x + nI b) [1] := by
  refine from_1 (N := 1) (fun dd m w => f_X0_atTop m 1 x dd w) (fun m d w hd => by
    show f_X0_from_y (f_X0_own m) (f_X0_from m) (f_X0_atTop m) (f_X0_below m) 0 0 x (nI d) w = _
    rw [nr_0_0 _ _ _ _ _ _ _ (show nI d ≤ nI 40 from (nI_leI (by omega) (by omega)).mpr hd), nI_1]) ?_
  intro m d r w hn hd ha hr
  obtain ⟨m, rfl⟩ : ∃ q, m = q + 1 := ⟨m - 1, by omega⟩
  show f_X0_atTop_y (f_X0_own m) (f_X0_from m) (f_X0_atTop m) (f_X0_below m) 1 x (nI d) w = _
  show some (x + gi w 39 4, w) = _
  rw [ha.2.2.2.1]
  rfl
theorem fr_4_4_0 (nb b : Nat) (x : Int32) : Fr nb b 4 4 4 0 x ((x + nI b) + 3) [20, 1] := by
  refine from_1 (N := 3) (fun dd m w => f_X0_below m 20 0 x dd w) (fun m d w hd => by
    show f_X0_from_y (f_X0_own m) (f_X0_from m) (f_X0_atTop m) (f_X0_below m) 4 0 x (nI d) w = _
    rw [nr_4_0 _ _ _ _ _ _ _ (show nI d ≤ nI 40 from (nI_leI (by omega) (by omega)).mpr hd), nI_1]) ?_
  intro m d r w hn hd ha hr
  obtain ⟨m, rfl⟩ : ∃ q, m = q + 1 := ⟨m - 1, by omega⟩
  show f_X0_below_y (f_X0_own m) (f_X0_from m) (f_X0_atTop m) (f_X0_below m) 20 0 x (nI d) w = _
  show (bW (f_X0_from m 0 0 x (nI d) w) fun r1 w2 => some (r1 + 3, w2)) = _
  rw [fr_4_0_0 nb b x m d r w (by omega) (by omega) ha hr, bW_s]
theorem fr_4_4_1 (nb b : Nat) (x : Int32) : Fr nb b 4 7 4 1 x (((x + nI b) + 3) * 2) [10, 20, 1] := by
  refine from_1 (N := 6) (fun dd m w => f_X0_atTop m 10 x dd w) (fun m d w hd => by
    show f_X0_from_y (f_X0_own m) (f_X0_from m) (f_X0_atTop m) (f_X0_below m) 4 1 x (nI d) w = _
    rw [nr_4_1 _ _ _ _ _ _ _ (show nI d ≤ nI 40 from (nI_leI (by omega) (by omega)).mpr hd), nI_1]) ?_
  intro m d r w hn hd ha hr
  obtain ⟨m, rfl⟩ : ∃ q, m = q + 1 := ⟨m - 1, by omega⟩
  show f_X0_atTop_y (f_X0_own m) (f_X0_from m) (f_X0_atTop m) (f_X0_below m) 10 x (nI d) w = _
  show (bW (f_X0_own m 0 x (nI d) w) fun r5 w6 => some (r5 * 2, w6)) = _
  rw [(own_of (fr_4_4_0 nb b x)) m d r w (by omega) (by omega) ha hr, bW_s]
theorem fr_4_4_2 (nb b : Nat) (x : Int32) : Fr nb b 4 2 4 2 x (x ^^^ nI b) [11] := by
  refine from_1 (N := 1) (fun dd m w => f_X0_atTop m 11 x dd w) (fun m d w hd => by
    show f_X0_from_y (f_X0_own m) (f_X0_from m) (f_X0_atTop m) (f_X0_below m) 4 2 x (nI d) w = _
    rw [nr_4_2 _ _ _ _ _ _ _ (show nI d ≤ nI 40 from (nI_leI (by omega) (by omega)).mpr hd), nI_1]) ?_
  intro m d r w hn hd ha hr
  obtain ⟨m, rfl⟩ : ∃ q, m = q + 1 := ⟨m - 1, by omega⟩
  show f_X0_atTop_y (f_X0_own m) (f_X0_from m) (f_X0_atTop m) (f_X0_below m) 11 x (nI d) w = _
  show some (x ^^^ gi w 39 4, w) = _
  rw [ha.2.2.2.1]
  rfl
theorem fr_4_1_3 (nb b : Nat) (x : Int32) : Fr nb b 4 10 1 3 x ((((x + nI b) + 3) * 2) - (1 ^^^ nI b)) [2, 10, 20, 1, 11] := by
  refine from_1 (N := 9) (fun dd m w => f_X0_atTop m 2 x dd w) (fun m d w hd => by
    show f_X0_from_y (f_X0_own m) (f_X0_from m) (f_X0_atTop m) (f_X0_below m) 1 3 x (nI d) w = _
    rw [nr_1_3 _ _ _ _ _ _ _ (show nI d ≤ nI 40 from (nI_leI (by omega) (by omega)).mpr hd), nI_1]) ?_
  intro m d r w hn hd ha hr
  obtain ⟨m, rfl⟩ : ∃ q, m = q + 1 := ⟨m - 1, by omega⟩
  show f_X0_atTop_y (f_X0_own m) (f_X0_from m) (f_X0_atTop m) (f_X0_below m) 2 x (nI d) w = _
  have hl : ([10, 20, 1, 11] : List Int32).length = 4 := rfl
  rw [hl] at hr
  show (bW (f_X0_own m 1 x (nI d) w) fun r1 w2 => bW (f_X0_own m 2 1 (nI d) w2) fun r3 w4 => some (r1 - r3, w4)) = _
  rw [(own_of (fr_4_4_1 nb b x)) m d r w (by omega) (by omega) ha (show r + 3 ≤ 24 by omega), bW_s, (own_of (fr_4_4_2 nb b 1)) m d (r + 3) _ (by omega) (by omega) (aOK_t ha [10, 20, 1]) (show r + 3 + 1 ≤ 24 by omega), bW_s]
  exact congrArg some (congrArg (Prod.mk _) (tX_app [10, 20, 1] [11] r w))
theorem fr_4_4_3 (nb b : Nat) (x : Int32) : Fr nb b 4 12 4 3 x (((((x + nI b) + 3) * 2) - (1 ^^^ nI b)) ^^^ 5) [50, 2, 10, 20, 1, 11] := by
  refine from_1 (N := 11) (fun dd m w => f_X0_below m 50 1 x dd w) (fun m d w hd => by
    show f_X0_from_y (f_X0_own m) (f_X0_from m) (f_X0_atTop m) (f_X0_below m) 4 3 x (nI d) w = _
    rw [nr_4_3 _ _ _ _ _ _ _ (show nI d ≤ nI 40 from (nI_leI (by omega) (by omega)).mpr hd), nI_1]) ?_
  intro m d r w hn hd ha hr
  obtain ⟨m, rfl⟩ : ∃ q, m = q + 1 := ⟨m - 1, by omega⟩
  show f_X0_below_y (f_X0_own m) (f_X0_from m) (f_X0_atTop m) (f_X0_below m) 50 1 x (nI d) w = _
  show (bW (f_X0_from m 1 3 x (nI d) w) fun r1 w2 => some (r1 ^^^ 5, w2)) = _
  rw [fr_4_1_3 nb b x m d r w (by omega) (by omega) ha hr, bW_s]
theorem fr_5_5_0 (nb b : Nat) (x : Int32) : Fr nb b 5 2 5 0 x (x + nI b) [1] := by
  refine from_1 (N := 1) (fun dd m w => f_X0_atTop m 1 x dd w) (fun m d w hd => by
    show f_X0_from_y (f_X0_own m) (f_X0_from m) (f_X0_atTop m) (f_X0_below m) 5 0 x (nI d) w = _
    rw [nr_5_0 _ _ _ _ _ _ _ (show nI d ≤ nI 40 from (nI_leI (by omega) (by omega)).mpr hd), nI_1]) ?_
  intro m d r w hn hd ha hr
  obtain ⟨m, rfl⟩ : ∃ q, m = q + 1 := ⟨m - 1, by omega⟩
  show f_X0_atTop_y (f_X0_own m) (f_X0_from m) (f_X0_atTop m) (f_X0_below m) 1 x (nI d) w = _
  show some (x + gi w 39 4, w) = _
  rw [ha.2.2.2.1]
  rfl
theorem fr_5_0_1 (nb b : Nat) (x : Int32) : Fr nb b 5 5 0 1 x ((x + nI b) * 2) [10, 1] := by
  refine from_1 (N := 4) (fun dd m w => f_X0_atTop m 10 x dd w) (fun m d w hd => by
    show f_X0_from_y (f_X0_own m) (f_X0_from m) (f_X0_atTop m) (f_X0_below m) 0 1 x (nI d) w = _
    rw [nr_0_1 _ _ _ _ _ _ _ (show nI d ≤ nI 40 from (nI_leI (by omega) (by omega)).mpr hd), nI_1]) ?_
  intro m d r w hn hd ha hr
  obtain ⟨m, rfl⟩ : ∃ q, m = q + 1 := ⟨m - 1, by omega⟩
  show f_X0_atTop_y (f_X0_own m) (f_X0_from m) (f_X0_atTop m) (f_X0_below m) 10 x (nI d) w = _
  show (bW (f_X0_own m 0 x (nI d) w) fun r5 w6 => some (r5 * 2, w6)) = _
  rw [(own_of (fr_5_5_0 nb b x)) m d r w (by omega) (by omega) ha hr, bW_s]
theorem fr_5_2_1 (nb b : Nat) (x : Int32) : Fr nb b 5 7 2 1 x (-((x + nI b) * 2)) [30, 10, 1] := by
  refine from_1 (N := 6) (fun dd m w => f_X0_below m 30 0 x dd w) (fun m d w hd => by
    show f_X0_from_y (f_X0_own m) (f_X0_from m) (f_X0_atTop m) (f_X0_below m) 2 1 x (nI d) w = _
    rw [nr_2_1 _ _ _ _ _ _ _ (show nI d ≤ nI 40 from (nI_leI (by omega) (by omega)).mpr hd), nI_1]) ?_
  intro m d r w hn hd ha hr
  obtain ⟨m, rfl⟩ : ∃ q, m = q + 1 := ⟨m - 1, by omega⟩
  show f_X0_below_y (f_X0_own m) (f_X0_from m) (f_X0_atTop m) (f_X0_below m) 30 0 x (nI d) w = _
  show (bW (f_X0_from m 0 1 x (nI d) w) fun r1 w2 => some (-r1, w2)) = _
  rw [fr_5_0_1 nb b x m d r w (by omega) (by omega) ha hr, bW_s]
theorem fr_5_5_1 (nb b : Nat) (x : Int32) : Fr nb b 5 9 5 1 x ((-(((x + 1) + nI b) * 2))) [41, 30, 10, 1] := by
  refine from_1 (N := 8) (fun dd m w => f_X0_below m 41 2 x dd w) (fun m d w hd => by
    show f_X0_from_y (f_X0_own m) (f_X0_from m) (f_X0_atTop m) (f_X0_below m) 5 1 x (nI d) w = _
    rw [nr_5_1 _ _ _ _ _ _ _ (show nI d ≤ nI 40 from (nI_leI (by omega) (by omega)).mpr hd), nI_1]) ?_
  intro m d r w hn hd ha hr
  obtain ⟨m, rfl⟩ : ∃ q, m = q + 1 := ⟨m - 1, by omega⟩
  show f_X0_below_y (f_X0_own m) (f_X0_from m) (f_X0_atTop m) (f_X0_below m) 41 2 x (nI d) w = _
  show (bW (f_X0_from m 2 1 (x + 1) (nI d) w) fun r1 w2 => some (r1, w2)) = _
  rw [fr_5_2_1 nb b (x + 1) m d r w (by omega) (by omega) ha hr, bW_s]
theorem fr_5_2_2 (nb b : Nat) (x : Int32) : Fr nb b 5 2 2 2 x (x ^^^ nI b) [11] := by
  refine from_1 (N := 1) (fun dd m w => f_X0_atTop m 11 x dd w) (fun m d w hd => by
    show f_X0_from_y (f_X0_own m) (f_X0_from m) (f_X0_atTop m) (f_X0_below m) 2 2 x (nI d) w = _
    rw [nr_2_2 _ _ _ _ _ _ _ (show nI d ≤ nI 40 from (nI_leI (by omega) (by omega)).mpr hd), nI_1]) ?_
  intro m d r w hn hd ha hr
  obtain ⟨m, rfl⟩ : ∃ q, m = q + 1 := ⟨m - 1, by omega⟩
  show f_X0_atTop_y (f_X0_own m) (f_X0_from m) (f_X0_atTop m) (f_X0_below m) 11 x (nI d) w = _
  show some (x ^^^ gi w 39 4, w) = _
  rw [ha.2.2.2.1]
  rfl
theorem fr_5_3_2 (nb b : Nat) (x : Int32) : Fr nb b 5 4 3 2 x ((x ^^^ nI b) * 3) [40, 11] := by
  refine from_1 (N := 3) (fun dd m w => f_X0_below m 40 2 x dd w) (fun m d w hd => by
    show f_X0_from_y (f_X0_own m) (f_X0_from m) (f_X0_atTop m) (f_X0_below m) 3 2 x (nI d) w = _
    rw [nr_3_2 _ _ _ _ _ _ _ (show nI d ≤ nI 40 from (nI_leI (by omega) (by omega)).mpr hd), nI_1]) ?_
  intro m d r w hn hd ha hr
  obtain ⟨m, rfl⟩ : ∃ q, m = q + 1 := ⟨m - 1, by omega⟩
  show f_X0_below_y (f_X0_own m) (f_X0_from m) (f_X0_atTop m) (f_X0_below m) 40 2 x (nI d) w = _
  show (bW (f_X0_from m 2 2 x (nI d) w) fun r1 w2 => some (r1 * 3, w2)) = _
  rw [fr_5_2_2 nb b x m d r w (by omega) (by omega) ha hr, bW_s]
theorem fr_5_5_2 (nb b : Nat) (x : Int32) : Fr nb b 5 6 5 2 x (((x ^^^ nI b) * 3) - (2 + nI b)) [60, 40, 11, 1] := by
  refine from_1 (N := 5) (fun dd m w => f_X0_below m 60 3 x dd w) (fun m d w hd => by
    show f_X0_from_y (f_X0_own m) (f_X0_from m) (f_X0_atTop m) (f_X0_below m) 5 2 x (nI d) w = _
    rw [nr_5_2 _ _ _ _ _ _ _ (show nI d ≤ nI 40 from (nI_leI (by omega) (by omega)).mpr hd), nI_1]) ?_
  intro m d r w hn hd ha hr
  obtain ⟨m, rfl⟩ : ∃ q, m = q + 1 := ⟨m - 1, by omega⟩
  show f_X0_below_y (f_X0_own m) (f_X0_from m) (f_X0_atTop m) (f_X0_below m) 60 3 x (nI d) w = _
  have hl : ([40, 11, 1] : List Int32).length = 3 := rfl
  rw [hl] at hr
  show (bW (f_X0_from m 3 2 x (nI d) w) fun r1 w2 => bW (f_X0_own m 0 2 (nI d) w2) fun r3 w4 => some (r1 - r3, w4)) = _
  rw [(fr_5_3_2 nb b x) m d r w (by omega) (by omega) ha (show r + 2 ≤ 24 by omega), bW_s, (own_of (fr_5_5_0 nb b 2)) m d (r + 2) _ (by omega) (by omega) (aOK_t ha [40, 11]) (show r + 2 + 1 ≤ 24 by omega), bW_s]
  exact congrArg some (congrArg (Prod.mk _) (tX_app [40, 11] [1] r w))
theorem fr_5_3_3 (nb b : Nat) (x : Int32) : Fr nb b 5 12 3 3 x (((-(((x + 1) + nI b) * 2))) - (((1 ^^^ nI b) * 3) - (2 + nI b))) [2, 41, 30, 10, 1, 60, 40, 11, 1] := by
  refine from_1 (N := 11) (fun dd m w => f_X0_atTop m 2 x dd w) (fun m d w hd => by
    show f_X0_from_y (f_X0_own m) (f_X0_from m) (f_X0_atTop m) (f_X0_below m) 3 3 x (nI d) w = _
    rw [nr_3_3 _ _ _ _ _ _ _ (show nI d ≤ nI 40 from (nI_leI (by omega) (by omega)).mpr hd), nI_1]) ?_
  intro m d r w hn hd ha hr
  obtain ⟨m, rfl⟩ : ∃ q, m = q + 1 := ⟨m - 1, by omega⟩
  show f_X0_atTop_y (f_X0_own m) (f_X0_from m) (f_X0_atTop m) (f_X0_below m) 2 x (nI d) w = _
  have hl : ([41, 30, 10, 1, 60, 40, 11, 1] : List Int32).length = 8 := rfl
  rw [hl] at hr
  show (bW (f_X0_own m 1 x (nI d) w) fun r1 w2 => bW (f_X0_own m 2 1 (nI d) w2) fun r3 w4 => some (r1 - r3, w4)) = _
  rw [(own_of (fr_5_5_1 nb b x)) m d r w (by omega) (by omega) ha (show r + 4 ≤ 24 by omega), bW_s, (own_of (fr_5_5_2 nb b 1)) m d (r + 4) _ (by omega) (by omega) (aOK_t ha [41, 30, 10, 1]) (show r + 4 + 4 ≤ 24 by omega), bW_s]
  exact congrArg some (congrArg (Prod.mk _) (tX_app [41, 30, 10, 1] [60, 40, 11, 1] r w))
theorem fr_5_5_3 (nb b : Nat) (x : Int32) : Fr nb b 5 14 5 3 x ((((-(((x + 1) + nI b) * 2))) - (((1 ^^^ nI b) * 3) - (2 + nI b))) + 1) [61, 2, 41, 30, 10, 1, 60, 40, 11, 1] := by
  refine from_1 (N := 13) (fun dd m w => f_X0_below m 61 3 x dd w) (fun m d w hd => by
    show f_X0_from_y (f_X0_own m) (f_X0_from m) (f_X0_atTop m) (f_X0_below m) 5 3 x (nI d) w = _
    rw [nr_5_3 _ _ _ _ _ _ _ (show nI d ≤ nI 40 from (nI_leI (by omega) (by omega)).mpr hd), nI_1]) ?_
  intro m d r w hn hd ha hr
  obtain ⟨m, rfl⟩ : ∃ q, m = q + 1 := ⟨m - 1, by omega⟩
  show f_X0_below_y (f_X0_own m) (f_X0_from m) (f_X0_atTop m) (f_X0_below m) 61 3 x (nI d) w = _
  show (bW (f_X0_from m 3 3 x (nI d) w) fun r1 w2 => some (r1 + 1, w2)) = _
  rw [fr_5_3_3 nb b x m d r w (by omega) (by omega) ha hr, bW_s]
theorem fr_6_0_0 (nb b : Nat) (x : Int32) : Fr nb b 6 2 0 0 x (x + nI b) [1] := by
  refine from_1 (N := 1) (fun dd m w => f_X0_atTop m 1 x dd w) (fun m d w hd => by
    show f_X0_from_y (f_X0_own m) (f_X0_from m) (f_X0_atTop m) (f_X0_below m) 0 0 x (nI d) w = _
    rw [nr_0_0 _ _ _ _ _ _ _ (show nI d ≤ nI 40 from (nI_leI (by omega) (by omega)).mpr hd), nI_1]) ?_
  intro m d r w hn hd ha hr
  obtain ⟨m, rfl⟩ : ∃ q, m = q + 1 := ⟨m - 1, by omega⟩
  show f_X0_atTop_y (f_X0_own m) (f_X0_from m) (f_X0_atTop m) (f_X0_below m) 1 x (nI d) w = _
  show some (x + gi w 39 4, w) = _
  rw [ha.2.2.2.1]
  rfl
theorem fr_6_6_0 (nb b : Nat) (x : Int32) : Fr nb b 6 4 6 0 x ((x + nI b) * 2) [70, 1] := by
  refine from_1 (N := 3) (fun dd m w => f_X0_below m 70 0 x dd w) (fun m d w hd => by
    show f_X0_from_y (f_X0_own m) (f_X0_from m) (f_X0_atTop m) (f_X0_below m) 6 0 x (nI d) w = _
    rw [nr_6_0 _ _ _ _ _ _ _ (show nI d ≤ nI 40 from (nI_leI (by omega) (by omega)).mpr hd), nI_1]) ?_
  intro m d r w hn hd ha hr
  obtain ⟨m, rfl⟩ : ∃ q, m = q + 1 := ⟨m - 1, by omega⟩
  show f_X0_below_y (f_X0_own m) (f_X0_from m) (f_X0_atTop m) (f_X0_below m) 70 0 x (nI d) w = _
  show (bW (f_X0_from m 0 0 x (nI d) w) fun r1 w2 => some (r1 * 2, w2)) = _
  rw [fr_6_0_0 nb b x m d r w (by omega) (by omega) ha hr, bW_s]
theorem fr_6_6_1 (nb b : Nat) (x : Int32) : Fr nb b 6 7 6 1 x (((x + nI b) * 2) * 2) [10, 70, 1] := by
  refine from_1 (N := 6) (fun dd m w => f_X0_atTop m 10 x dd w) (fun m d w hd => by
    show f_X0_from_y (f_X0_own m) (f_X0_from m) (f_X0_atTop m) (f_X0_below m) 6 1 x (nI d) w = _
    rw [nr_6_1 _ _ _ _ _ _ _ (show nI d ≤ nI 40 from (nI_leI (by omega) (by omega)).mpr hd), nI_1]) ?_
  intro m d r w hn hd ha hr
  obtain ⟨m, rfl⟩ : ∃ q, m = q + 1 := ⟨m - 1, by omega⟩
  show f_X0_atTop_y (f_X0_own m) (f_X0_from m) (f_X0_atTop m) (f_X0_below m) 10 x (nI d) w = _
  show (bW (f_X0_own m 0 x (nI d) w) fun r5 w6 => some (r5 * 2, w6)) = _
  rw [(own_of (fr_6_6_0 nb b x)) m d r w (by omega) (by omega) ha hr, bW_s]
theorem fr_6_6_2 (nb b : Nat) (x : Int32) : Fr nb b 6 2 6 2 x (x ^^^ nI b) [11] := by
  refine from_1 (N := 1) (fun dd m w => f_X0_atTop m 11 x dd w) (fun m d w hd => by
    show f_X0_from_y (f_X0_own m) (f_X0_from m) (f_X0_atTop m) (f_X0_below m) 6 2 x (nI d) w = _
    rw [nr_6_2 _ _ _ _ _ _ _ (show nI d ≤ nI 40 from (nI_leI (by omega) (by omega)).mpr hd), nI_1]) ?_
  intro m d r w hn hd ha hr
  obtain ⟨m, rfl⟩ : ∃ q, m = q + 1 := ⟨m - 1, by omega⟩
  show f_X0_atTop_y (f_X0_own m) (f_X0_from m) (f_X0_atTop m) (f_X0_below m) 11 x (nI d) w = _
  show some (x ^^^ gi w 39 4, w) = _
  rw [ha.2.2.2.1]
  rfl
theorem fr_6_6_3 (nb b : Nat) (x : Int32) : Fr nb b 6 10 6 3 x ((((x + nI b) * 2) * 2) - (1 ^^^ nI b)) [2, 10, 70, 1, 11] := by
  refine from_1 (N := 9) (fun dd m w => f_X0_atTop m 2 x dd w) (fun m d w hd => by
    show f_X0_from_y (f_X0_own m) (f_X0_from m) (f_X0_atTop m) (f_X0_below m) 6 3 x (nI d) w = _
    rw [nr_6_3 _ _ _ _ _ _ _ (show nI d ≤ nI 40 from (nI_leI (by omega) (by omega)).mpr hd), nI_1]) ?_
  intro m d r w hn hd ha hr
  obtain ⟨m, rfl⟩ : ∃ q, m = q + 1 := ⟨m - 1, by omega⟩
  show f_X0_atTop_y (f_X0_own m) (f_X0_from m) (f_X0_atTop m) (f_X0_below m) 2 x (nI d) w = _
  have hl : ([10, 70, 1, 11] : List Int32).length = 4 := rfl
  rw [hl] at hr
  show (bW (f_X0_own m 1 x (nI d) w) fun r1 w2 => bW (f_X0_own m 2 1 (nI d) w2) fun r3 w4 => some (r1 - r3, w4)) = _
  rw [(own_of (fr_6_6_1 nb b x)) m d r w (by omega) (by omega) ha (show r + 3 ≤ 24 by omega), bW_s, (own_of (fr_6_6_2 nb b 1)) m d (r + 3) _ (by omega) (by omega) (aOK_t ha [10, 70, 1]) (show r + 3 + 1 ≤ 24 by omega), bW_s]
  exact congrArg some (congrArg (Prod.mk _) (tX_app [10, 70, 1] [11] r w))
theorem fr_7_0_0 (nb b : Nat) (x : Int32) : Fr nb b 7 2 0 0 x (x + nI b) [1] := by
  refine from_1 (N := 1) (fun dd m w => f_X0_atTop m 1 x dd w) (fun m d w hd => by
    show f_X0_from_y (f_X0_own m) (f_X0_from m) (f_X0_atTop m) (f_X0_below m) 0 0 x (nI d) w = _
    rw [nr_0_0 _ _ _ _ _ _ _ (show nI d ≤ nI 40 from (nI_leI (by omega) (by omega)).mpr hd), nI_1]) ?_
  intro m d r w hn hd ha hr
  obtain ⟨m, rfl⟩ : ∃ q, m = q + 1 := ⟨m - 1, by omega⟩
  show f_X0_atTop_y (f_X0_own m) (f_X0_from m) (f_X0_atTop m) (f_X0_below m) 1 x (nI d) w = _
  show some (x + gi w 39 4, w) = _
  rw [ha.2.2.2.1]
  rfl
theorem fr_7_6_0 (nb b : Nat) (x : Int32) : Fr nb b 7 4 6 0 x ((x + nI b) * 2) [70, 1] := by
  refine from_1 (N := 3) (fun dd m w => f_X0_below m 70 0 x dd w) (fun m d w hd => by
    show f_X0_from_y (f_X0_own m) (f_X0_from m) (f_X0_atTop m) (f_X0_below m) 6 0 x (nI d) w = _
    rw [nr_6_0 _ _ _ _ _ _ _ (show nI d ≤ nI 40 from (nI_leI (by omega) (by omega)).mpr hd), nI_1]) ?_
  intro m d r w hn hd ha hr
  obtain ⟨m, rfl⟩ : ∃ q, m = q + 1 := ⟨m - 1, by omega⟩
  show f_X0_below_y (f_X0_own m) (f_X0_from m) (f_X0_atTop m) (f_X0_below m) 70 0 x (nI d) w = _
  show (bW (f_X0_from m 0 0 x (nI d) w) fun r1 w2 => some (r1 * 2, w2)) = _
  rw [fr_7_0_0 nb b x m d r w (by omega) (by omega) ha hr, bW_s]
theorem fr_7_7_0 (nb b : Nat) (x : Int32) : Fr nb b 7 6 7 0 x (((x + nI b) * 2) - 1) [81, 70, 1] := by
  refine from_1 (N := 5) (fun dd m w => f_X0_below m 81 6 x dd w) (fun m d w hd => by
    show f_X0_from_y (f_X0_own m) (f_X0_from m) (f_X0_atTop m) (f_X0_below m) 7 0 x (nI d) w = _
    rw [nr_7_0 _ _ _ _ _ _ _ (show nI d ≤ nI 40 from (nI_leI (by omega) (by omega)).mpr hd), nI_1]) ?_
  intro m d r w hn hd ha hr
  obtain ⟨m, rfl⟩ : ∃ q, m = q + 1 := ⟨m - 1, by omega⟩
  show f_X0_below_y (f_X0_own m) (f_X0_from m) (f_X0_atTop m) (f_X0_below m) 81 6 x (nI d) w = _
  show (bW (f_X0_from m 6 0 x (nI d) w) fun r1 w2 => some (r1 - 1, w2)) = _
  rw [fr_7_6_0 nb b x m d r w (by omega) (by omega) ha hr, bW_s]
theorem fr_7_6_1 (nb b : Nat) (x : Int32) : Fr nb b 7 9 6 1 x ((((x + nI b) * 2) - 1) * 2) [10, 81, 70, 1] := by
  refine from_1 (N := 8) (fun dd m w => f_X0_atTop m 10 x dd w) (fun m d w hd => by
    show f_X0_from_y (f_X0_own m) (f_X0_from m) (f_X0_atTop m) (f_X0_below m) 6 1 x (nI d) w = _
    rw [nr_6_1 _ _ _ _ _ _ _ (show nI d ≤ nI 40 from (nI_leI (by omega) (by omega)).mpr hd), nI_1]) ?_
  intro m d r w hn hd ha hr
  obtain ⟨m, rfl⟩ : ∃ q, m = q + 1 := ⟨m - 1, by omega⟩
  show f_X0_atTop_y (f_X0_own m) (f_X0_from m) (f_X0_atTop m) (f_X0_below m) 10 x (nI d) w = _
  show (bW (f_X0_own m 0 x (nI d) w) fun r5 w6 => some (r5 * 2, w6)) = _
  rw [(own_of (fr_7_7_0 nb b x)) m d r w (by omega) (by omega) ha hr, bW_s]
theorem fr_7_7_2 (nb b : Nat) (x : Int32) : Fr nb b 7 2 7 2 x (x ^^^ nI b) [11] := by
  refine from_1 (N := 1) (fun dd m w => f_X0_atTop m 11 x dd w) (fun m d w hd => by
    show f_X0_from_y (f_X0_own m) (f_X0_from m) (f_X0_atTop m) (f_X0_below m) 7 2 x (nI d) w = _
    rw [nr_7_2 _ _ _ _ _ _ _ (show nI d ≤ nI 40 from (nI_leI (by omega) (by omega)).mpr hd), nI_1]) ?_
  intro m d r w hn hd ha hr
  obtain ⟨m, rfl⟩ : ∃ q, m = q + 1 := ⟨m - 1, by omega⟩
  show f_X0_atTop_y (f_X0_own m) (f_X0_from m) (f_X0_atTop m) (f_X0_below m) 11 x (nI d) w = _
  show some (x ^^^ gi w 39 4, w) = _
  rw [ha.2.2.2.1]
  rfl
theorem fr_7_7_1 (nb b : Nat) (x : Int32) : Fr nb b 7 11 7 1 x (((((x + nI b) * 2) - 1) * 2) + (2 ^^^ nI b)) [80, 10, 81, 70, 1, 11] := by
  refine from_1 (N := 10) (fun dd m w => f_X0_below m 80 6 x dd w) (fun m d w hd => by
    show f_X0_from_y (f_X0_own m) (f_X0_from m) (f_X0_atTop m) (f_X0_below m) 7 1 x (nI d) w = _
    rw [nr_7_1 _ _ _ _ _ _ _ (show nI d ≤ nI 40 from (nI_leI (by omega) (by omega)).mpr hd), nI_1]) ?_
  intro m d r w hn hd ha hr
  obtain ⟨m, rfl⟩ : ∃ q, m = q + 1 := ⟨m - 1, by omega⟩
  show f_X0_below_y (f_X0_own m) (f_X0_from m) (f_X0_atTop m) (f_X0_below m) 80 6 x (nI d) w = _
  have hl : ([10, 81, 70, 1, 11] : List Int32).length = 5 := rfl
  rw [hl] at hr
  show (bW (f_X0_from m 6 1 x (nI d) w) fun r1 w2 => bW (f_X0_own m 2 2 (nI d) w2) fun r3 w4 => some (r1 + r3, w4)) = _
  rw [(fr_7_6_1 nb b x) m d r w (by omega) (by omega) ha (show r + 4 ≤ 24 by omega), bW_s, (own_of (fr_7_7_2 nb b 2)) m d (r + 4) _ (by omega) (by omega) (aOK_t ha [10, 81, 70, 1]) (show r + 4 + 1 ≤ 24 by omega), bW_s]
  exact congrArg some (congrArg (Prod.mk _) (tX_app [10, 81, 70, 1] [11] r w))
theorem fr_7_7_3 (nb b : Nat) (x : Int32) : Fr nb b 7 14 7 3 x ((((((x + nI b) * 2) - 1) * 2) + (2 ^^^ nI b)) - (1 ^^^ nI b)) [2, 80, 10, 81, 70, 1, 11, 11] := by
  refine from_1 (N := 13) (fun dd m w => f_X0_atTop m 2 x dd w) (fun m d w hd => by
    show f_X0_from_y (f_X0_own m) (f_X0_from m) (f_X0_atTop m) (f_X0_below m) 7 3 x (nI d) w = _
    rw [nr_7_3 _ _ _ _ _ _ _ (show nI d ≤ nI 40 from (nI_leI (by omega) (by omega)).mpr hd), nI_1]) ?_
  intro m d r w hn hd ha hr
  obtain ⟨m, rfl⟩ : ∃ q, m = q + 1 := ⟨m - 1, by omega⟩
  show f_X0_atTop_y (f_X0_own m) (f_X0_from m) (f_X0_atTop m) (f_X0_below m) 2 x (nI d) w = _
  have hl : ([80, 10, 81, 70, 1, 11, 11] : List Int32).length = 7 := rfl
  rw [hl] at hr
  show (bW (f_X0_own m 1 x (nI d) w) fun r1 w2 => bW (f_X0_own m 2 1 (nI d) w2) fun r3 w4 => some (r1 - r3, w4)) = _
  rw [(own_of (fr_7_7_1 nb b x)) m d r w (by omega) (by omega) ha (show r + 6 ≤ 24 by omega), bW_s, (own_of (fr_7_7_2 nb b 1)) m d (r + 6) _ (by omega) (by omega) (aOK_t ha [80, 10, 81, 70, 1, 11]) (show r + 6 + 1 ≤ 24 by omega), bW_s]
  exact congrArg some (congrArg (Prod.mk _) (tX_app [80, 10, 81, 70, 1, 11] [11] r w))
theorem mpp_0 (nb b : Nat) (x : Int32) : Mf nb b 0 f_X12_plainPicks x (x + nI b) [1] := by
  intro r w hm hr
  have hl : ([1] : List Int32).length = 1 := rfl
  rw [hl] at hr
  have ib : inb (nI b) 50 := inb_nI (by have := hm.1; have := hm.2.1; omega) (by decide)
  have ek : gi w 80 (ix (nI b)) = 0 := by rw [ix_nI (by have := hm.1; have := hm.2.1; omega)]; exact hm.2.2.1
  unfold f_X12_plainPicks
  rw [M_ran hm.2.2.2 (by omega), bV_s]
theorem mcp_0 (nb b : Nat) (x : Int32) : Mf nb b 0 f_X12_countedPicks x ((x + nI b) * 2) [70, 1] := by
  intro r w hm hr
  have hl : ([70, 1] : List Int32).length = 2 := rfl
  rw [hl] at hr
  have ib : inb (nI b) 50 := inb_nI (by have := hm.1; have := hm.2.1; omega) (by decide)
  have ek : gi w 80 (ix (nI b)) = 0 := by rw [ix_nI (by have := hm.1; have := hm.2.1; omega)]; exact hm.2.2.1
  unfold f_X12_countedPicks
  rw [M_ran hm.2.2.2 (by omega), bV_s, mpp_0 nb b x (r + 1) _ (mOK_t hm [70]) (show r + 1 + 1 ≤ 24 by omega), bW_s]
  rfl
theorem mp_0 (nb b : Nat) (x : Int32) : Mf nb b 0 f_X12_picking x (x + nI b) [1] := by
  intro r w hm hr
  have hl : ([1] : List Int32).length = 1 := rfl
  rw [hl] at hr
  have ib : inb (nI b) 50 := inb_nI (by have := hm.1; have := hm.2.1; omega) (by decide)
  have ek : gi w 80 (ix (nI b)) = 0 := by rw [ix_nI (by have := hm.1; have := hm.2.1; omega)]; exact hm.2.2.1
  unfold f_X12_picking
  rw [ldI_d ib, ek, show f_X12_isUnder 0 1 = some 0 from rfl, bR_s, if_pos rfl, ldI_d ib, ek, if_neg (by decide), ldI_d ib, ek, if_neg (by decide), mpp_0 nb b x r w hm (show r + 1 ≤ 24 by omega), bW_s]
theorem mpf_0 (nb b : Nat) (x : Int32) : Mf nb b 0 f_X12_plainFinds x ((x + nI b) * 2) [10, 1] := by
  intro r w hm hr
  have hl : ([10, 1] : List Int32).length = 2 := rfl
  rw [hl] at hr
  have ib : inb (nI b) 50 := inb_nI (by have := hm.1; have := hm.2.1; omega) (by decide)
  have ek : gi w 80 (ix (nI b)) = 0 := by rw [ix_nI (by have := hm.1; have := hm.2.1; omega)]; exact hm.2.2.1
  unfold f_X12_plainFinds
  rw [M_ran hm.2.2.2 (by omega), bV_s, mp_0 nb b x (r + 1) _ (mOK_t hm [10]) (show r + 1 + 1 ≤ 24 by omega), bW_s]
  rfl
theorem msf_0 (nb b : Nat) (x : Int32) : Mf nb b 0 f_X12_slowFinds x (-((x + nI b) * 2)) [30, 10, 1] := by
  intro r w hm hr
  have hl : ([30, 10, 1] : List Int32).length = 3 := rfl
  rw [hl] at hr
  have ib : inb (nI b) 50 := inb_nI (by have := hm.1; have := hm.2.1; omega) (by decide)
  have ek : gi w 80 (ix (nI b)) = 0 := by rw [ix_nI (by have := hm.1; have := hm.2.1; omega)]; exact hm.2.2.1
  unfold f_X12_slowFinds
  rw [M_ran hm.2.2.2 (by omega), bV_s, mpf_0 nb b x (r + 1) _ (mOK_t hm [30]) (show r + 1 + 2 ≤ 24 by omega), bW_s]
  rfl
theorem mpl_0 (nb b : Nat) (x : Int32) : Mf nb b 0 f_X12_plainLeaves x (x ^^^ nI b) [11] := by
  intro r w hm hr
  have hl : ([11] : List Int32).length = 1 := rfl
  rw [hl] at hr
  have ib : inb (nI b) 50 := inb_nI (by have := hm.1; have := hm.2.1; omega) (by decide)
  have ek : gi w 80 (ix (nI b)) = 0 := by rw [ix_nI (by have := hm.1; have := hm.2.1; omega)]; exact hm.2.2.1
  unfold f_X12_plainLeaves
  rw [M_ran hm.2.2.2 (by omega), bV_s]
theorem mll_0 (nb b : Nat) (x : Int32) : Mf nb b 0 f_X12_lampedLeaves x ((x ^^^ nI b) * 3) [40, 11] := by
  intro r w hm hr
  have hl : ([40, 11] : List Int32).length = 2 := rfl
  rw [hl] at hr
  have ib : inb (nI b) 50 := inb_nI (by have := hm.1; have := hm.2.1; omega) (by decide)
  have ek : gi w 80 (ix (nI b)) = 0 := by rw [ix_nI (by have := hm.1; have := hm.2.1; omega)]; exact hm.2.2.1
  unfold f_X12_lampedLeaves
  rw [M_ran hm.2.2.2 (by omega), bV_s, mpl_0 nb b x (r + 1) _ (mOK_t hm [40]) (show r + 1 + 1 ≤ 24 by omega), bW_s]
  rfl
theorem ml_0 (nb b : Nat) (x : Int32) : Mf nb b 0 f_X12_leaving x (x ^^^ nI b) [11] := by
  intro r w hm hr
  have hl : ([11] : List Int32).length = 1 := rfl
  rw [hl] at hr
  have ib : inb (nI b) 50 := inb_nI (by have := hm.1; have := hm.2.1; omega) (by decide)
  have ek : gi w 80 (ix (nI b)) = 0 := by rw [ix_nI (by have := hm.1; have := hm.2.1; omega)]; exact hm.2.2.1
  unfold f_X12_leaving
  rw [ldI_d ib, ek, if_neg (by decide), ldI_d ib, ek, if_neg (by decide), mpl_0 nb b x r w hm (show r + 1 ≤ 24 by omega), bW_s]
theorem mf_0 (nb b : Nat) (x : Int32) : Mf nb b 0 f_X12_finding x ((x + nI b) * 2) [10, 1] := by
  intro r w hm hr
  have hl : ([10, 1] : List Int32).length = 2 := rfl
  rw [hl] at hr
  have ib : inb (nI b) 50 := inb_nI (by have := hm.1; have := hm.2.1; omega) (by decide)
  have ek : gi w 80 (ix (nI b)) = 0 := by rw [ix_nI (by have := hm.1; have := hm.2.1; omega)]; exact hm.2.2.1
  unfold f_X12_finding
  rw [ldI_d ib, ek, show f_X12_isUnder 0 3 = some 0 from rfl, bR_s, if_pos rfl, ldI_d ib, ek, if_neg (by decide), ldI_d ib, ek, if_neg (by decide), mpf_0 nb b x r w hm (show r + 2 ≤ 24 by omega), bW_s]
theorem mpt_0 (nb b : Nat) (x : Int32) : Mf nb b 0 f_X12_plainTells x (((x + nI b) * 2) - (1 ^^^ nI b)) [2, 10, 1, 11] := by
  intro r w hm hr
  have hl : ([2, 10, 1, 11] : List Int32).length = 4 := rfl
  rw [hl] at hr
  have ib : inb (nI b) 50 := inb_nI (by have := hm.1; have := hm.2.1; omega) (by decide)
  have ek : gi w 80 (ix (nI b)) = 0 := by rw [ix_nI (by have := hm.1; have := hm.2.1; omega)]; exact hm.2.2.1
  unfold f_X12_plainTells
  rw [M_ran hm.2.2.2 (by omega), bV_s, mf_0 nb b x (r + 1) _ (mOK_t hm [2]) (show r + 1 + 2 ≤ 24 by omega), bW_s, ml_0 nb b 1 (r + 1 + 2) (tM (r + 1) [10, 1] (tM r [2] w)) (mOK_t (mOK_t hm [2]) [10, 1]) (show r + 1 + 2 + 1 ≤ 24 by omega), bW_s]
  rfl
theorem mt_0 (nb b : Nat) (x : Int32) : Mf nb b 0 f_X12_telling x (((x + nI b) * 2) - (1 ^^^ nI b)) [2, 10, 1, 11] := by
  intro r w hm hr
  have hl : ([2, 10, 1, 11] : List Int32).length = 4 := rfl
  rw [hl] at hr
  have ib : inb (nI b) 50 := inb_nI (by have := hm.1; have := hm.2.1; omega) (by decide)
  have ek : gi w 80 (ix (nI b)) = 0 := by rw [ix_nI (by have := hm.1; have := hm.2.1; omega)]; exact hm.2.2.1
  unfold f_X12_telling
  rw [ldI_d ib, ek, if_neg (by decide), ldI_d ib, ek, if_neg (by decide), mpt_0 nb b x r w hm (show r + 4 ≤ 24 by omega), bW_s]
theorem mpp_1 (nb b : Nat) (x : Int32) : Mf nb b 1 f_X12_plainPicks x (x + nI b) [1] := by
  intro r w hm hr
  have hl : ([1] : List Int32).length = 1 := rfl
  rw [hl] at hr
  have ib : inb (nI b) 50 := inb_nI (by have := hm.1; have := hm.2.1; omega) (by decide)
  have ek : gi w 80 (ix (nI b)) = 1 := by rw [ix_nI (by have := hm.1; have := hm.2.1; omega)]; exact hm.2.2.1
  unfold f_X12_plainPicks
  rw [M_ran hm.2.2.2 (by omega), bV_s]
theorem mcp_1 (nb b : Nat) (x : Int32) : Mf nb b 1 f_X12_countedPicks x ((x + nI b) * 2) [70, 1] := by
  intro r w hm hr
  have hl : ([70, 1] : List Int32).length = 2 := rfl
  rw [hl] at hr
  have ib : inb (nI b) 50 := inb_nI (by have := hm.1; have := hm.2.1; omega) (by decide)
  have ek : gi w 80 (ix (nI b)) = 1 := by rw [ix_nI (by have := hm.1; have := hm.2.1; omega)]; exact hm.2.2.1
  unfold f_X12_countedPicks
  rw [M_ran hm.2.2.2 (by omega), bV_s, mpp_1 nb b x (r + 1) _ (mOK_t hm [70]) (show r + 1 + 1 ≤ 24 by omega), bW_s]
  rfl
theorem mp_1 (nb b : Nat) (x : Int32) : Mf nb b 1 f_X12_picking x ((x + nI b) + 3) [20, 1] := by
  intro r w hm hr
  have hl : ([20, 1] : List Int32).length = 2 := rfl
  rw [hl] at hr
  have ib : inb (nI b) 50 := inb_nI (by have := hm.1; have := hm.2.1; omega) (by decide)
  have ek : gi w 80 (ix (nI b)) = 1 := by rw [ix_nI (by have := hm.1; have := hm.2.1; omega)]; exact hm.2.2.1
  unfold f_X12_picking
  rw [ldI_d ib, ek, show f_X12_isUnder 1 1 = some 1 from rfl, bR_s, if_neg (by decide), M_ran hm.2.2.2 (by omega), bV_s, mpp_1 nb b x (r + 1) _ (mOK_t hm [20]) (show r + 1 + 1 ≤ 24 by omega), bW_s]
  rfl
theorem mpf_1 (nb b : Nat) (x : Int32) : Mf nb b 1 f_X12_plainFinds x (((x + nI b) + 3) * 2) [10, 20, 1] := by
  intro r w hm hr
  have hl : ([10, 20, 1] : List Int32).length = 3 := rfl
  rw [hl] at hr
  have ib : inb (nI b) 50 := inb_nI (by have := hm.1; have := hm.2.1; omega) (by decide)
  have ek : gi w 80 (ix (nI b)) = 1 := by rw [ix_nI (by have := hm.1; have := hm.2.1; omega)]; exact hm.2.2.1
  unfold f_X12_plainFinds
  rw [M_ran hm.2.2.2 (by omega), bV_s, mp_1 nb b x (r + 1) _ (mOK_t hm [10]) (show r + 1 + 2 ≤ 24 by omega), bW_s]
  rfl
theorem msf_1 (nb b : Nat) (x : Int32) : Mf nb b 1 f_X12_slowFinds x (-(((x + nI b) + 3) * 2)) [30, 10, 20, 1] := by
  intro r w hm hr
  have hl : ([30, 10, 20, 1] : List Int32).length = 4 := rfl
  rw [hl] at hr
  have ib : inb (nI b) 50 := inb_nI (by have := hm.1; have := hm.2.1; omega) (by decide)
  have ek : gi w 80 (ix (nI b)) = 1 := by rw [ix_nI (by have := hm.1; have := hm.2.1; omega)]; exact hm.2.2.1
  unfold f_X12_slowFinds
  rw [M_ran hm.2.2.2 (by omega), bV_s, mpf_1 nb b x (r + 1) _ (mOK_t hm [30]) (show r + 1 + 3 ≤ 24 by omega), bW_s]
  rfl
theorem mpl_1 (nb b : Nat) (x : Int32) : Mf nb b 1 f_X12_plainLeaves x (x ^^^ nI b) [11] := by
  intro r w hm hr
  have hl : ([11] : List Int32).length = 1 := rfl
  rw [hl] at hr
  have ib : inb (nI b) 50 := inb_nI (by have := hm.1; have := hm.2.1; omega) (by decide)
  have ek : gi w 80 (ix (nI b)) = 1 := by rw [ix_nI (by have := hm.1; have := hm.2.1; omega)]; exact hm.2.2.1
  unfold f_X12_plainLeaves
  rw [M_ran hm.2.2.2 (by omega), bV_s]
theorem mll_1 (nb b : Nat) (x : Int32) : Mf nb b 1 f_X12_lampedLeaves x ((x ^^^ nI b) * 3) [40, 11] := by
  intro r w hm hr
  have hl : ([40, 11] : List Int32).length = 2 := rfl
  rw [hl] at hr
  have ib : inb (nI b) 50 := inb_nI (by have := hm.1; have := hm.2.1; omega) (by decide)
  have ek : gi w 80 (ix (nI b)) = 1 := by rw [ix_nI (by have := hm.1; have := hm.2.1; omega)]; exact hm.2.2.1
  unfold f_X12_lampedLeaves
  rw [M_ran hm.2.2.2 (by omega), bV_s, mpl_1 nb b x (r + 1) _ (mOK_t hm [40]) (show r + 1 + 1 ≤ 24 by omega), bW_s]
  rfl
theorem ml_1 (nb b : Nat) (x : Int32) : Mf nb b 1 f_X12_leaving x (x ^^^ nI b) [11] := by
  intro r w hm hr
  have hl : ([11] : List Int32).length = 1 := rfl
  rw [hl] at hr
  have ib : inb (nI b) 50 := inb_nI (by have := hm.1; have := hm.2.1; omega) (by decide)
  have ek : gi w 80 (ix (nI b)) = 1 := by rw [ix_nI (by have := hm.1; have := hm.2.1; omega)]; exact hm.2.2.1
  unfold f_X12_leaving
  rw [ldI_d ib, ek, if_neg (by decide), ldI_d ib, ek, if_neg (by decide), mpl_1 nb b x r w hm (show r + 1 ≤ 24 by omega), bW_s]
theorem mf_1 (nb b : Nat) (x : Int32) : Mf nb b 1 f_X12_finding x (((x + nI b) + 3) * 2) [10, 20, 1] := by
  intro r w hm hr
  have hl : ([10, 20, 1] : List Int32).length = 3 := rfl
  rw [hl] at hr
  have ib : inb (nI b) 50 := inb_nI (by have := hm.1; have := hm.2.1; omega) (by decide)
  have ek : gi w 80 (ix (nI b)) = 1 := by rw [ix_nI (by have := hm.1; have := hm.2.1; omega)]; exact hm.2.2.1
  unfold f_X12_finding
  rw [ldI_d ib, ek, show f_X12_isUnder 1 3 = some 0 from rfl, bR_s, if_pos rfl, ldI_d ib, ek, if_neg (by decide), ldI_d ib, ek, if_neg (by decide), mpf_1 nb b x r w hm (show r + 3 ≤ 24 by omega), bW_s]
theorem mpt_1 (nb b : Nat) (x : Int32) : Mf nb b 1 f_X12_plainTells x ((((x + nI b) + 3) * 2) - (1 ^^^ nI b)) [2, 10, 20, 1, 11] := by
  intro r w hm hr
  have hl : ([2, 10, 20, 1, 11] : List Int32).length = 5 := rfl
  rw [hl] at hr
  have ib : inb (nI b) 50 := inb_nI (by have := hm.1; have := hm.2.1; omega) (by decide)
  have ek : gi w 80 (ix (nI b)) = 1 := by rw [ix_nI (by have := hm.1; have := hm.2.1; omega)]; exact hm.2.2.1
  unfold f_X12_plainTells
  rw [M_ran hm.2.2.2 (by omega), bV_s, mf_1 nb b x (r + 1) _ (mOK_t hm [2]) (show r + 1 + 3 ≤ 24 by omega), bW_s, ml_1 nb b 1 (r + 1 + 3) (tM (r + 1) [10, 20, 1] (tM r [2] w)) (mOK_t (mOK_t hm [2]) [10, 20, 1]) (show r + 1 + 3 + 1 ≤ 24 by omega), bW_s]
  rfl
theorem mt_1 (nb b : Nat) (x : Int32) : Mf nb b 1 f_X12_telling x ((((x + nI b) + 3) * 2) - (1 ^^^ nI b)) [2, 10, 20, 1, 11] := by
  intro r w hm hr
  have hl : ([2, 10, 20, 1, 11] : List Int32).length = 5 := rfl
  rw [hl] at hr
  have ib : inb (nI b) 50 := inb_nI (by have := hm.1; have := hm.2.1; omega) (by decide)
  have ek : gi w 80 (ix (nI b)) = 1 := by rw [ix_nI (by have := hm.1; have := hm.2.1; omega)]; exact hm.2.2.1
  unfold f_X12_telling
  rw [ldI_d ib, ek, if_neg (by decide), ldI_d ib, ek, if_neg (by decide), mpt_1 nb b x r w hm (show r + 5 ≤ 24 by omega), bW_s]
theorem mpp_2 (nb b : Nat) (x : Int32) : Mf nb b 2 f_X12_plainPicks x (x + nI b) [1] := by
  intro r w hm hr
  have hl : ([1] : List Int32).length = 1 := rfl
  rw [hl] at hr
  have ib : inb (nI b) 50 := inb_nI (by have := hm.1; have := hm.2.1; omega) (by decide)
  have ek : gi w 80 (ix (nI b)) = 2 := by rw [ix_nI (by have := hm.1; have := hm.2.1; omega)]; exact hm.2.2.1
  unfold f_X12_plainPicks
  rw [M_ran hm.2.2.2 (by omega), bV_s]
theorem mcp_2 (nb b : Nat) (x : Int32) : Mf nb b 2 f_X12_countedPicks x ((x + nI b) * 2) [70, 1] := by
  intro r w hm hr
  have hl : ([70, 1] : List Int32).length = 2 := rfl
  rw [hl] at hr
  have ib : inb (nI b) 50 := inb_nI (by have := hm.1; have := hm.2.1; omega) (by decide)
  have ek : gi w 80 (ix (nI b)) = 2 := by rw [ix_nI (by have := hm.1; have := hm.2.1; omega)]; exact hm.2.2.1
  unfold f_X12_countedPicks
  rw [M_ran hm.2.2.2 (by omega), bV_s, mpp_2 nb b x (r + 1) _ (mOK_t hm [70]) (show r + 1 + 1 ≤ 24 by omega), bW_s]
  rfl
theorem mp_2 (nb b : Nat) (x : Int32) : Mf nb b 2 f_X12_picking x (x + nI b) [1] := by
  intro r w hm hr
  have hl : ([1] : List Int32).length = 1 := rfl
  rw [hl] at hr
  have ib : inb (nI b) 50 := inb_nI (by have := hm.1; have := hm.2.1; omega) (by decide)
  have ek : gi w 80 (ix (nI b)) = 2 := by rw [ix_nI (by have := hm.1; have := hm.2.1; omega)]; exact hm.2.2.1
  unfold f_X12_picking
  rw [ldI_d ib, ek, show f_X12_isUnder 2 1 = some 0 from rfl, bR_s, if_pos rfl, ldI_d ib, ek, if_neg (by decide), ldI_d ib, ek, if_neg (by decide), mpp_2 nb b x r w hm (show r + 1 ≤ 24 by omega), bW_s]
theorem mpf_2 (nb b : Nat) (x : Int32) : Mf nb b 2 f_X12_plainFinds x ((x + nI b) * 2) [10, 1] := by
  intro r w hm hr
  have hl : ([10, 1] : List Int32).length = 2 := rfl
  rw [hl] at hr
  have ib : inb (nI b) 50 := inb_nI (by have := hm.1; have := hm.2.1; omega) (by decide)
  have ek : gi w 80 (ix (nI b)) = 2 := by rw [ix_nI (by have := hm.1; have := hm.2.1; omega)]; exact hm.2.2.1
  unfold f_X12_plainFinds
  rw [M_ran hm.2.2.2 (by omega), bV_s, mp_2 nb b x (r + 1) _ (mOK_t hm [10]) (show r + 1 + 1 ≤ 24 by omega), bW_s]
  rfl
theorem msf_2 (nb b : Nat) (x : Int32) : Mf nb b 2 f_X12_slowFinds x (-((x + nI b) * 2)) [30, 10, 1] := by
  intro r w hm hr
  have hl : ([30, 10, 1] : List Int32).length = 3 := rfl
  rw [hl] at hr
  have ib : inb (nI b) 50 := inb_nI (by have := hm.1; have := hm.2.1; omega) (by decide)
  have ek : gi w 80 (ix (nI b)) = 2 := by rw [ix_nI (by have := hm.1; have := hm.2.1; omega)]; exact hm.2.2.1
  unfold f_X12_slowFinds
  rw [M_ran hm.2.2.2 (by omega), bV_s, mpf_2 nb b x (r + 1) _ (mOK_t hm [30]) (show r + 1 + 2 ≤ 24 by omega), bW_s]
  rfl
theorem mpl_2 (nb b : Nat) (x : Int32) : Mf nb b 2 f_X12_plainLeaves x (x ^^^ nI b) [11] := by
  intro r w hm hr
  have hl : ([11] : List Int32).length = 1 := rfl
  rw [hl] at hr
  have ib : inb (nI b) 50 := inb_nI (by have := hm.1; have := hm.2.1; omega) (by decide)
  have ek : gi w 80 (ix (nI b)) = 2 := by rw [ix_nI (by have := hm.1; have := hm.2.1; omega)]; exact hm.2.2.1
  unfold f_X12_plainLeaves
  rw [M_ran hm.2.2.2 (by omega), bV_s]
theorem mll_2 (nb b : Nat) (x : Int32) : Mf nb b 2 f_X12_lampedLeaves x ((x ^^^ nI b) * 3) [40, 11] := by
  intro r w hm hr
  have hl : ([40, 11] : List Int32).length = 2 := rfl
  rw [hl] at hr
  have ib : inb (nI b) 50 := inb_nI (by have := hm.1; have := hm.2.1; omega) (by decide)
  have ek : gi w 80 (ix (nI b)) = 2 := by rw [ix_nI (by have := hm.1; have := hm.2.1; omega)]; exact hm.2.2.1
  unfold f_X12_lampedLeaves
  rw [M_ran hm.2.2.2 (by omega), bV_s, mpl_2 nb b x (r + 1) _ (mOK_t hm [40]) (show r + 1 + 1 ≤ 24 by omega), bW_s]
  rfl
theorem ml_2 (nb b : Nat) (x : Int32) : Mf nb b 2 f_X12_leaving x (x ^^^ nI b) [11] := by
  intro r w hm hr
  have hl : ([11] : List Int32).length = 1 := rfl
  rw [hl] at hr
  have ib : inb (nI b) 50 := inb_nI (by have := hm.1; have := hm.2.1; omega) (by decide)
  have ek : gi w 80 (ix (nI b)) = 2 := by rw [ix_nI (by have := hm.1; have := hm.2.1; omega)]; exact hm.2.2.1
  unfold f_X12_leaving
  rw [ldI_d ib, ek, if_neg (by decide), ldI_d ib, ek, if_neg (by decide), mpl_2 nb b x r w hm (show r + 1 ≤ 24 by omega), bW_s]
theorem mf_2 (nb b : Nat) (x : Int32) : Mf nb b 2 f_X12_finding x (-((x + nI b) * 2)) [30, 10, 1] := by
  intro r w hm hr
  have hl : ([30, 10, 1] : List Int32).length = 3 := rfl
  rw [hl] at hr
  have ib : inb (nI b) 50 := inb_nI (by have := hm.1; have := hm.2.1; omega) (by decide)
  have ek : gi w 80 (ix (nI b)) = 2 := by rw [ix_nI (by have := hm.1; have := hm.2.1; omega)]; exact hm.2.2.1
  unfold f_X12_finding
  rw [ldI_d ib, ek, show f_X12_isUnder 2 3 = some 0 from rfl, bR_s, if_pos rfl, ldI_d ib, ek, if_neg (by decide), ldI_d ib, ek, if_pos rfl, msf_2 nb b x r w hm (show r + 3 ≤ 24 by omega), bW_s]
theorem mpt_2 (nb b : Nat) (x : Int32) : Mf nb b 2 f_X12_plainTells x ((-((x + nI b) * 2)) - (1 ^^^ nI b)) [2, 30, 10, 1, 11] := by
  intro r w hm hr
  have hl : ([2, 30, 10, 1, 11] : List Int32).length = 5 := rfl
  rw [hl] at hr
  have ib : inb (nI b) 50 := inb_nI (by have := hm.1; have := hm.2.1; omega) (by decide)
  have ek : gi w 80 (ix (nI b)) = 2 := by rw [ix_nI (by have := hm.1; have := hm.2.1; omega)]; exact hm.2.2.1
  unfold f_X12_plainTells
  rw [M_ran hm.2.2.2 (by omega), bV_s, mf_2 nb b x (r + 1) _ (mOK_t hm [2]) (show r + 1 + 3 ≤ 24 by omega), bW_s, ml_2 nb b 1 (r + 1 + 3) (tM (r + 1) [30, 10, 1] (tM r [2] w)) (mOK_t (mOK_t hm [2]) [30, 10, 1]) (show r + 1 + 3 + 1 ≤ 24 by omega), bW_s]
  rfl
theorem mt_2 (nb b : Nat) (x : Int32) : Mf nb b 2 f_X12_telling x ((-((x + nI b) * 2)) - (1 ^^^ nI b)) [2, 30, 10, 1, 11] := by
  intro r w hm hr
  have hl : ([2, 30, 10, 1, 11] : List Int32).length = 5 := rfl
  rw [hl] at hr
  have ib : inb (nI b) 50 := inb_nI (by have := hm.1; have := hm.2.1; omega) (by decide)
  have ek : gi w 80 (ix (nI b)) = 2 := by rw [ix_nI (by have := hm.1; have := hm.2.1; omega)]; exact hm.2.2.1
  unfold f_X12_telling
  rw [ldI_d ib, ek, if_neg (by decide), ldI_d ib, ek, if_neg (by decide), mpt_2 nb b x r w hm (show r + 5 ≤ 24 by omega), bW_s]
theorem mpp_3 (nb b : Nat) (x : Int32) : Mf nb b 3 f_X12_plainPicks x (x + nI b) [1] := by
  intro r w hm hr
  have hl : ([1] : List Int32).length = 1 := rfl
  rw [hl] at hr
  have ib : inb (nI b) 50 := inb_nI (by have := hm.1; have := hm.2.1; omega) (by decide)
  have ek : gi w 80 (ix (nI b)) = 3 := by rw [ix_nI (by have := hm.1; have := hm.2.1; omega)]; exact hm.2.2.1
  unfold f_X12_plainPicks
  rw [M_ran hm.2.2.2 (by omega), bV_s]
theorem mcp_3 (nb b : Nat) (x : Int32) : Mf nb b 3 f_X12_countedPicks x ((x + nI b) * 2) [70, 1] := by
  intro r w hm hr
  have hl : ([70, 1] : List Int32).length = 2 := rfl
  rw [hl] at hr
  have ib : inb (nI b) 50 := inb_nI (by have := hm.1; have := hm.2.1; omega) (by decide)
  have ek : gi w 80 (ix (nI b)) = 3 := by rw [ix_nI (by have := hm.1; have := hm.2.1; omega)]; exact hm.2.2.1
  unfold f_X12_countedPicks
  rw [M_ran hm.2.2.2 (by omega), bV_s, mpp_3 nb b x (r + 1) _ (mOK_t hm [70]) (show r + 1 + 1 ≤ 24 by omega), bW_s]
  rfl
theorem mp_3 (nb b : Nat) (x : Int32) : Mf nb b 3 f_X12_picking x (x + nI b) [1] := by
  intro r w hm hr
  have hl : ([1] : List Int32).length = 1 := rfl
  rw [hl] at hr
  have ib : inb (nI b) 50 := inb_nI (by have := hm.1; have := hm.2.1; omega) (by decide)
  have ek : gi w 80 (ix (nI b)) = 3 := by rw [ix_nI (by have := hm.1; have := hm.2.1; omega)]; exact hm.2.2.1
  unfold f_X12_picking
  rw [ldI_d ib, ek, show f_X12_isUnder 3 1 = some 0 from rfl, bR_s, if_pos rfl, ldI_d ib, ek, if_neg (by decide), ldI_d ib, ek, if_neg (by decide), mpp_3 nb b x r w hm (show r + 1 ≤ 24 by omega), bW_s]
theorem mpf_3 (nb b : Nat) (x : Int32) : Mf nb b 3 f_X12_plainFinds x ((x + nI b) * 2) [10, 1] := by
  intro r w hm hr
  have hl : ([10, 1] : List Int32).length = 2 := rfl
  rw [hl] at hr
  have ib : inb (nI b) 50 := inb_nI (by have := hm.1; have := hm.2.1; omega) (by decide)
  have ek : gi w 80 (ix (nI b)) = 3 := by rw [ix_nI (by have := hm.1; have := hm.2.1; omega)]; exact hm.2.2.1
  unfold f_X12_plainFinds
  rw [M_ran hm.2.2.2 (by omega), bV_s, mp_3 nb b x (r + 1) _ (mOK_t hm [10]) (show r + 1 + 1 ≤ 24 by omega), bW_s]
  rfl
theorem msf_3 (nb b : Nat) (x : Int32) : Mf nb b 3 f_X12_slowFinds x (-((x + nI b) * 2)) [30, 10, 1] := by
  intro r w hm hr
  have hl : ([30, 10, 1] : List Int32).length = 3 := rfl
  rw [hl] at hr
  have ib : inb (nI b) 50 := inb_nI (by have := hm.1; have := hm.2.1; omega) (by decide)
  have ek : gi w 80 (ix (nI b)) = 3 := by rw [ix_nI (by have := hm.1; have := hm.2.1; omega)]; exact hm.2.2.1
  unfold f_X12_slowFinds
  rw [M_ran hm.2.2.2 (by omega), bV_s, mpf_3 nb b x (r + 1) _ (mOK_t hm [30]) (show r + 1 + 2 ≤ 24 by omega), bW_s]
  rfl
theorem mpl_3 (nb b : Nat) (x : Int32) : Mf nb b 3 f_X12_plainLeaves x (x ^^^ nI b) [11] := by
  intro r w hm hr
  have hl : ([11] : List Int32).length = 1 := rfl
  rw [hl] at hr
  have ib : inb (nI b) 50 := inb_nI (by have := hm.1; have := hm.2.1; omega) (by decide)
  have ek : gi w 80 (ix (nI b)) = 3 := by rw [ix_nI (by have := hm.1; have := hm.2.1; omega)]; exact hm.2.2.1
  unfold f_X12_plainLeaves
  rw [M_ran hm.2.2.2 (by omega), bV_s]
theorem mll_3 (nb b : Nat) (x : Int32) : Mf nb b 3 f_X12_lampedLeaves x ((x ^^^ nI b) * 3) [40, 11] := by
  intro r w hm hr
  have hl : ([40, 11] : List Int32).length = 2 := rfl
  rw [hl] at hr
  have ib : inb (nI b) 50 := inb_nI (by have := hm.1; have := hm.2.1; omega) (by decide)
  have ek : gi w 80 (ix (nI b)) = 3 := by rw [ix_nI (by have := hm.1; have := hm.2.1; omega)]; exact hm.2.2.1
  unfold f_X12_lampedLeaves
  rw [M_ran hm.2.2.2 (by omega), bV_s, mpl_3 nb b x (r + 1) _ (mOK_t hm [40]) (show r + 1 + 1 ≤ 24 by omega), bW_s]
  rfl
theorem ml_3 (nb b : Nat) (x : Int32) : Mf nb b 3 f_X12_leaving x ((x ^^^ nI b) * 3) [40, 11] := by
  intro r w hm hr
  have hl : ([40, 11] : List Int32).length = 2 := rfl
  rw [hl] at hr
  have ib : inb (nI b) 50 := inb_nI (by have := hm.1; have := hm.2.1; omega) (by decide)
  have ek : gi w 80 (ix (nI b)) = 3 := by rw [ix_nI (by have := hm.1; have := hm.2.1; omega)]; exact hm.2.2.1
  unfold f_X12_leaving
  rw [ldI_d ib, ek, if_neg (by decide), ldI_d ib, ek, if_pos rfl, mll_3 nb b x r w hm (show r + 2 ≤ 24 by omega), bW_s]
theorem mf_3 (nb b : Nat) (x : Int32) : Mf nb b 3 f_X12_finding x ((-(((x + 1) + nI b) * 2))) [41, 30, 10, 1] := by
  intro r w hm hr
  have hl : ([41, 30, 10, 1] : List Int32).length = 4 := rfl
  rw [hl] at hr
  have ib : inb (nI b) 50 := inb_nI (by have := hm.1; have := hm.2.1; omega) (by decide)
  have ek : gi w 80 (ix (nI b)) = 3 := by rw [ix_nI (by have := hm.1; have := hm.2.1; omega)]; exact hm.2.2.1
  unfold f_X12_finding
  rw [ldI_d ib, ek, show f_X12_isUnder 3 3 = some 1 from rfl, bR_s, if_neg (by decide), M_ran hm.2.2.2 (by omega), bV_s, msf_3 nb b (x + 1) (r + 1) _ (mOK_t hm [41]) (show r + 1 + 3 ≤ 24 by omega), bW_s]
  rfl
theorem mpt_3 (nb b : Nat) (x : Int32) : Mf nb b 3 f_X12_plainTells x (((-(((x + 1) + nI b) * 2))) - ((1 ^^^ nI b) * 3)) [2, 41, 30, 10, 1, 40, 11] := by
  intro r w hm hr
  have hl : ([2, 41, 30, 10, 1, 40, 11] : List Int32).length = 7 := rfl
  rw [hl] at hr
  have ib : inb (nI b) 50 := inb_nI (by have := hm.1; have := hm.2.1; omega) (by decide)
  have ek : gi w 80 (ix (nI b)) = 3 := by rw [ix_nI (by have := hm.1; have := hm.2.1; omega)]; exact hm.2.2.1
  unfold f_X12_plainTells
  rw [M_ran hm.2.2.2 (by omega), bV_s, mf_3 nb b x (r + 1) _ (mOK_t hm [2]) (show r + 1 + 4 ≤ 24 by omega), bW_s, ml_3 nb b 1 (r + 1 + 4) (tM (r + 1) [41, 30, 10, 1] (tM r [2] w)) (mOK_t (mOK_t hm [2]) [41, 30, 10, 1]) (show r + 1 + 4 + 2 ≤ 24 by omega), bW_s]
  rfl
theorem mt_3 (nb b : Nat) (x : Int32) : Mf nb b 3 f_X12_telling x (((-(((x + 1) + nI b) * 2))) - ((1 ^^^ nI b) * 3)) [2, 41, 30, 10, 1, 40, 11] := by
  intro r w hm hr
  have hl : ([2, 41, 30, 10, 1, 40, 11] : List Int32).length = 7 := rfl
  rw [hl] at hr
  have ib : inb (nI b) 50 := inb_nI (by have := hm.1; have := hm.2.1; omega) (by decide)
  have ek : gi w 80 (ix (nI b)) = 3 := by rw [ix_nI (by have := hm.1; have := hm.2.1; omega)]; exact hm.2.2.1
  unfold f_X12_telling
  rw [ldI_d ib, ek, if_neg (by decide), ldI_d ib, ek, if_neg (by decide), mpt_3 nb b x r w hm (show r + 7 ≤ 24 by omega), bW_s]
theorem mpp_4 (nb b : Nat) (x : Int32) : Mf nb b 4 f_X12_plainPicks x (x + nI b) [1] := by
  intro r w hm hr
  have hl : ([1] : List Int32).length = 1 := rfl
  rw [hl] at hr
  have ib : inb (nI b) 50 := inb_nI (by have := hm.1; have := hm.2.1; omega) (by decide)
  have ek : gi w 80 (ix (nI b)) = 4 := by rw [ix_nI (by have := hm.1; have := hm.2.1; omega)]; exact hm.2.2.1
  unfold f_X12_plainPicks
  rw [M_ran hm.2.2.2 (by omega), bV_s]
theorem mcp_4 (nb b : Nat) (x : Int32) : Mf nb b 4 f_X12_countedPicks x ((x + nI b) * 2) [70, 1] := by
  intro r w hm hr
  have hl : ([70, 1] : List Int32).length = 2 := rfl
  rw [hl] at hr
  have ib : inb (nI b) 50 := inb_nI (by have := hm.1; have := hm.2.1; omega) (by decide)
  have ek : gi w 80 (ix (nI b)) = 4 := by rw [ix_nI (by have := hm.1; have := hm.2.1; omega)]; exact hm.2.2.1
  unfold f_X12_countedPicks
  rw [M_ran hm.2.2.2 (by omega), bV_s, mpp_4 nb b x (r + 1) _ (mOK_t hm [70]) (show r + 1 + 1 ≤ 24 by omega), bW_s]
  rfl
theorem mp_4 (nb b : Nat) (x : Int32) : Mf nb b 4 f_X12_picking x ((x + nI b) + 3) [20, 1] := by
  intro r w hm hr
  have hl : ([20, 1] : List Int32).length = 2 := rfl
  rw [hl] at hr
  have ib : inb (nI b) 50 := inb_nI (by have := hm.1; have := hm.2.1; omega) (by decide)
  have ek : gi w 80 (ix (nI b)) = 4 := by rw [ix_nI (by have := hm.1; have := hm.2.1; omega)]; exact hm.2.2.1
  unfold f_X12_picking
  rw [ldI_d ib, ek, show f_X12_isUnder 4 1 = some 1 from rfl, bR_s, if_neg (by decide), M_ran hm.2.2.2 (by omega), bV_s, mpp_4 nb b x (r + 1) _ (mOK_t hm [20]) (show r + 1 + 1 ≤ 24 by omega), bW_s]
  rfl
theorem mpf_4 (nb b : Nat) (x : Int32) : Mf nb b 4 f_X12_plainFinds x (((x + nI b) + 3) * 2) [10, 20, 1] := by
  intro r w hm hr
  have hl : ([10, 20, 1] : List Int32).length = 3 := rfl
  rw [hl] at hr
  have ib : inb (nI b) 50 := inb_nI (by have := hm.1; have := hm.2.1; omega) (by decide)
  have ek : gi w 80 (ix (nI b)) = 4 := by rw [ix_nI (by have := hm.1; have := hm.2.1; omega)]; exact hm.2.2.1
  unfold f_X12_plainFinds
  rw [M_ran hm.2.2.2 (by omega), bV_s, mp_4 nb b x (r + 1) _ (mOK_t hm [10]) (show r + 1 + 2 ≤ 24 by omega), bW_s]
  rfl
theorem msf_4 (nb b : Nat) (x : Int32) : Mf nb b 4 f_X12_slowFinds x (-(((x + nI b) + 3) * 2)) [30, 10, 20, 1] := by
  intro r w hm hr
  have hl : ([30, 10, 20, 1] : List Int32).length = 4 := rfl
  rw [hl] at hr
  have ib : inb (nI b) 50 := inb_nI (by have := hm.1; have := hm.2.1; omega) (by decide)
  have ek : gi w 80 (ix (nI b)) = 4 := by rw [ix_nI (by have := hm.1; have := hm.2.1; omega)]; exact hm.2.2.1
  unfold f_X12_slowFinds
  rw [M_ran hm.2.2.2 (by omega), bV_s, mpf_4 nb b x (r + 1) _ (mOK_t hm [30]) (show r + 1 + 3 ≤ 24 by omega), bW_s]
  rfl
theorem mpl_4 (nb b : Nat) (x : Int32) : Mf nb b 4 f_X12_plainLeaves x (x ^^^ nI b) [11] := by
  intro r w hm hr
  have hl : ([11] : List Int32).length = 1 := rfl
  rw [hl] at hr
  have ib : inb (nI b) 50 := inb_nI (by have := hm.1; have := hm.2.1; omega) (by decide)
  have ek : gi w 80 (ix (nI b)) = 4 := by rw [ix_nI (by have := hm.1; have := hm.2.1; omega)]; exact hm.2.2.1
  unfold f_X12_plainLeaves
  rw [M_ran hm.2.2.2 (by omega), bV_s]
theorem mll_4 (nb b : Nat) (x : Int32) : Mf nb b 4 f_X12_lampedLeaves x ((x ^^^ nI b) * 3) [40, 11] := by
  intro r w hm hr
  have hl : ([40, 11] : List Int32).length = 2 := rfl
  rw [hl] at hr
  have ib : inb (nI b) 50 := inb_nI (by have := hm.1; have := hm.2.1; omega) (by decide)
  have ek : gi w 80 (ix (nI b)) = 4 := by rw [ix_nI (by have := hm.1; have := hm.2.1; omega)]; exact hm.2.2.1
  unfold f_X12_lampedLeaves
  rw [M_ran hm.2.2.2 (by omega), bV_s, mpl_4 nb b x (r + 1) _ (mOK_t hm [40]) (show r + 1 + 1 ≤ 24 by omega), bW_s]
  rfl
theorem ml_4 (nb b : Nat) (x : Int32) : Mf nb b 4 f_X12_leaving x (x ^^^ nI b) [11] := by
  intro r w hm hr
  have hl : ([11] : List Int32).length = 1 := rfl
  rw [hl] at hr
  have ib : inb (nI b) 50 := inb_nI (by have := hm.1; have := hm.2.1; omega) (by decide)
  have ek : gi w 80 (ix (nI b)) = 4 := by rw [ix_nI (by have := hm.1; have := hm.2.1; omega)]; exact hm.2.2.1
  unfold f_X12_leaving
  rw [ldI_d ib, ek, if_neg (by decide), ldI_d ib, ek, if_neg (by decide), mpl_4 nb b x r w hm (show r + 1 ≤ 24 by omega), bW_s]
theorem mf_4 (nb b : Nat) (x : Int32) : Mf nb b 4 f_X12_finding x (((x + nI b) + 3) * 2) [10, 20, 1] := by
  intro r w hm hr
  have hl : ([10, 20, 1] : List Int32).length = 3 := rfl
  rw [hl] at hr
  have ib : inb (nI b) 50 := inb_nI (by have := hm.1; have := hm.2.1; omega) (by decide)
  have ek : gi w 80 (ix (nI b)) = 4 := by rw [ix_nI (by have := hm.1; have := hm.2.1; omega)]; exact hm.2.2.1
  unfold f_X12_finding
  rw [ldI_d ib, ek, show f_X12_isUnder 4 3 = some 0 from rfl, bR_s, if_pos rfl, ldI_d ib, ek, if_neg (by decide), ldI_d ib, ek, if_neg (by decide), mpf_4 nb b x r w hm (show r + 3 ≤ 24 by omega), bW_s]
theorem mpt_4 (nb b : Nat) (x : Int32) : Mf nb b 4 f_X12_plainTells x ((((x + nI b) + 3) * 2) - (1 ^^^ nI b)) [2, 10, 20, 1, 11] := by
  intro r w hm hr
  have hl : ([2, 10, 20, 1, 11] : List Int32).length = 5 := rfl
  rw [hl] at hr
  have ib : inb (nI b) 50 := inb_nI (by have := hm.1; have := hm.2.1; omega) (by decide)
  have ek : gi w 80 (ix (nI b)) = 4 := by rw [ix_nI (by have := hm.1; have := hm.2.1; omega)]; exact hm.2.2.1
  unfold f_X12_plainTells
  rw [M_ran hm.2.2.2 (by omega), bV_s, mf_4 nb b x (r + 1) _ (mOK_t hm [2]) (show r + 1 + 3 ≤ 24 by omega), bW_s, ml_4 nb b 1 (r + 1 + 3) (tM (r + 1) [10, 20, 1] (tM r [2] w)) (mOK_t (mOK_t hm [2]) [10, 20, 1]) (show r + 1 + 3 + 1 ≤ 24 by omega), bW_s]
  rfl
theorem mt_4 (nb b : Nat) (x : Int32) : Mf nb b 4 f_X12_telling x (((((x + nI b) + 3) * 2) - (1 ^^^ nI b)) ^^^ 5) [50, 2, 10, 20, 1, 11] := by
  intro r w hm hr
  have hl : ([50, 2, 10, 20, 1, 11] : List Int32).length = 6 := rfl
  rw [hl] at hr
  have ib : inb (nI b) 50 := inb_nI (by have := hm.1; have := hm.2.1; omega) (by decide)
  have ek : gi w 80 (ix (nI b)) = 4 := by rw [ix_nI (by have := hm.1; have := hm.2.1; omega)]; exact hm.2.2.1
  unfold f_X12_telling
  rw [ldI_d ib, ek, if_pos rfl, M_ran hm.2.2.2 (by omega), bV_s, mpt_4 nb b x (r + 1) _ (mOK_t hm [50]) (show r + 1 + 5 ≤ 24 by omega), bW_s]
  rfl
theorem mpp_5 (nb b : Nat) (x : Int32) : Mf nb b 5 f_X12_plainPicks x (x + nI b) [1] := by
  intro r w hm hr
  have hl : ([1] : List Int32).length = 1 := rfl
  rw [hl] at hr
  have ib : inb (nI b) 50 := inb_nI (by have := hm.1; have := hm.2.1; omega) (by decide)
  have ek : gi w 80 (ix (nI b)) = 5 := by rw [ix_nI (by have := hm.1; have := hm.2.1; omega)]; exact hm.2.2.1
  unfold f_X12_plainPicks
  rw [M_ran hm.2.2.2 (by omega), bV_s]
theorem mcp_5 (nb b : Nat) (x : Int32) : Mf nb b 5 f_X12_countedPicks x ((x + nI b) * 2) [70, 1] := by
  intro r w hm hr
  have hl : ([70, 1] : List Int32).length = 2 := rfl
  rw [hl] at hr
  have ib : inb (nI b) 50 := inb_nI (by have := hm.1; have := hm.2.1; omega) (by decide)
  have ek : gi w 80 (ix (nI b)) = 5 := by rw [ix_nI (by have := hm.1; have := hm.2.1; omega)]; exact hm.2.2.1
  unfold f_X12_countedPicks
  rw [M_ran hm.2.2.2 (by omega), bV_s, mpp_5 nb b x (r + 1) _ (mOK_t hm [70]) (show r + 1 + 1 ≤ 24 by omega), bW_s]
  rfl
theorem mp_5 (nb b : Nat) (x : Int32) : Mf nb b 5 f_X12_picking x (x + nI b) [1] := by
  intro r w hm hr
  have hl : ([1] : List Int32).length = 1 := rfl
  rw [hl] at hr
  have ib : inb (nI b) 50 := inb_nI (by have := hm.1; have := hm.2.1; omega) (by decide)
  have ek : gi w 80 (ix (nI b)) = 5 := by rw [ix_nI (by have := hm.1; have := hm.2.1; omega)]; exact hm.2.2.1
  unfold f_X12_picking
  rw [ldI_d ib, ek, show f_X12_isUnder 5 1 = some 0 from rfl, bR_s, if_pos rfl, ldI_d ib, ek, if_neg (by decide), ldI_d ib, ek, if_neg (by decide), mpp_5 nb b x r w hm (show r + 1 ≤ 24 by omega), bW_s]
theorem mpf_5 (nb b : Nat) (x : Int32) : Mf nb b 5 f_X12_plainFinds x ((x + nI b) * 2) [10, 1] := by
  intro r w hm hr
  have hl : ([10, 1] : List Int32).length = 2 := rfl
  rw [hl] at hr
  have ib : inb (nI b) 50 := inb_nI (by have := hm.1; have := hm.2.1; omega) (by decide)
  have ek : gi w 80 (ix (nI b)) = 5 := by rw [ix_nI (by have := hm.1; have := hm.2.1; omega)]; exact hm.2.2.1
  unfold f_X12_plainFinds
  rw [M_ran hm.2.2.2 (by omega), bV_s, mp_5 nb b x (r + 1) _ (mOK_t hm [10]) (show r + 1 + 1 ≤ 24 by omega), bW_s]
  rfl
theorem msf_5 (nb b : Nat) (x : Int32) : Mf nb b 5 f_X12_slowFinds x (-((x + nI b) * 2)) [30, 10, 1] := by
  intro r w hm hr
  have hl : ([30, 10, 1] : List Int32).length = 3 := rfl
  rw [hl] at hr
  have ib : inb (nI b) 50 := inb_nI (by have := hm.1; have := hm.2.1; omega) (by decide)
  have ek : gi w 80 (ix (nI b)) = 5 := by rw [ix_nI (by have := hm.1; have := hm.2.1; omega)]; exact hm.2.2.1
  unfold f_X12_slowFinds
  rw [M_ran hm.2.2.2 (by omega), bV_s, mpf_5 nb b x (r + 1) _ (mOK_t hm [30]) (show r + 1 + 2 ≤ 24 by omega), bW_s]
  rfl
theorem mpl_5 (nb b : Nat) (x : Int32) : Mf nb b 5 f_X12_plainLeaves x (x ^^^ nI b) [11] := by
  intro r w hm hr
  have hl : ([11] : List Int32).length = 1 := rfl
  rw [hl] at hr
  have ib : inb (nI b) 50 := inb_nI (by have := hm.1; have := hm.2.1; omega) (by decide)
  have ek : gi w 80 (ix (nI b)) = 5 := by rw [ix_nI (by have := hm.1; have := hm.2.1; omega)]; exact hm.2.2.1
  unfold f_X12_plainLeaves
  rw [M_ran hm.2.2.2 (by omega), bV_s]
theorem mll_5 (nb b : Nat) (x : Int32) : Mf nb b 5 f_X12_lampedLeaves x ((x ^^^ nI b) * 3) [40, 11] := by
  intro r w hm hr
  have hl : ([40, 11] : List Int32).length = 2 := rfl
  rw [hl] at hr
  have ib : inb (nI b) 50 := inb_nI (by have := hm.1; have := hm.2.1; omega) (by decide)
  have ek : gi w 80 (ix (nI b)) = 5 := by rw [ix_nI (by have := hm.1; have := hm.2.1; omega)]; exact hm.2.2.1
  unfold f_X12_lampedLeaves
  rw [M_ran hm.2.2.2 (by omega), bV_s, mpl_5 nb b x (r + 1) _ (mOK_t hm [40]) (show r + 1 + 1 ≤ 24 by omega), bW_s]
  rfl
theorem ml_5 (nb b : Nat) (x : Int32) : Mf nb b 5 f_X12_leaving x (((x ^^^ nI b) * 3) - (2 + nI b)) [60, 40, 11, 1] := by
  intro r w hm hr
  have hl : ([60, 40, 11, 1] : List Int32).length = 4 := rfl
  rw [hl] at hr
  have ib : inb (nI b) 50 := inb_nI (by have := hm.1; have := hm.2.1; omega) (by decide)
  have ek : gi w 80 (ix (nI b)) = 5 := by rw [ix_nI (by have := hm.1; have := hm.2.1; omega)]; exact hm.2.2.1
  unfold f_X12_leaving
  rw [ldI_d ib, ek, if_pos rfl, M_ran hm.2.2.2 (by omega), bV_s, mll_5 nb b x (r + 1) _ (mOK_t hm [60]) (show r + 1 + 2 ≤ 24 by omega), bW_s, mp_5 nb b 2 (r + 1 + 2) (tM (r + 1) [40, 11] (tM r [60] w)) (mOK_t (mOK_t hm [60]) [40, 11]) (show r + 1 + 2 + 1 ≤ 24 by omega), bW_s]
  rfl
theorem mf_5 (nb b : Nat) (x : Int32) : Mf nb b 5 f_X12_finding x ((-(((x + 1) + nI b) * 2))) [41, 30, 10, 1] := by
  intro r w hm hr
  have hl : ([41, 30, 10, 1] : List Int32).length = 4 := rfl
  rw [hl] at hr
  have ib : inb (nI b) 50 := inb_nI (by have := hm.1; have := hm.2.1; omega) (by decide)
  have ek : gi w 80 (ix (nI b)) = 5 := by rw [ix_nI (by have := hm.1; have := hm.2.1; omega)]; exact hm.2.2.1
  unfold f_X12_finding
  rw [ldI_d ib, ek, show f_X12_isUnder 5 3 = some 1 from rfl, bR_s, if_neg (by decide), M_ran hm.2.2.2 (by omega), bV_s, msf_5 nb b (x + 1) (r + 1) _ (mOK_t hm [41]) (show r + 1 + 3 ≤ 24 by omega), bW_s]
  rfl
theorem mpt_5 (nb b : Nat) (x : Int32) : Mf nb b 5 f_X12_plainTells x (((-(((x + 1) + nI b) * 2))) - (((1 ^^^ nI b) * 3) - (2 + nI b))) [2, 41, 30, 10, 1, 60, 40, 11, 1] := by
  intro r w hm hr
  have hl : ([2, 41, 30, 10, 1, 60, 40, 11, 1] : List Int32).length = 9 := rfl
  rw [hl] at hr
  have ib : inb (nI b) 50 := inb_nI (by have := hm.1; have := hm.2.1; omega) (by decide)
  have ek : gi w 80 (ix (nI b)) = 5 := by rw [ix_nI (by have := hm.1; have := hm.2.1; omega)]; exact hm.2.2.1
  unfold f_X12_plainTells
  rw [M_ran hm.2.2.2 (by omega), bV_s, mf_5 nb b x (r + 1) _ (mOK_t hm [2]) (show r + 1 + 4 ≤ 24 by omega), bW_s, ml_5 nb b 1 (r + 1 + 4) (tM (r + 1) [41, 30, 10, 1] (tM r [2] w)) (mOK_t (mOK_t hm [2]) [41, 30, 10, 1]) (show r + 1 + 4 + 4 ≤ 24 by omega), bW_s]
  rfl
theorem mt_5 (nb b : Nat) (x : Int32) : Mf nb b 5 f_X12_telling x ((((-(((x + 1) + nI b) * 2))) - (((1 ^^^ nI b) * 3) - (2 + nI b))) + 1) [61, 2, 41, 30, 10, 1, 60, 40, 11, 1] := by
  intro r w hm hr
  have hl : ([61, 2, 41, 30, 10, 1, 60, 40, 11, 1] : List Int32).length = 10 := rfl
  rw [hl] at hr
  have ib : inb (nI b) 50 := inb_nI (by have := hm.1; have := hm.2.1; omega) (by decide)
  have ek : gi w 80 (ix (nI b)) = 5 := by rw [ix_nI (by have := hm.1; have := hm.2.1; omega)]; exact hm.2.2.1
  unfold f_X12_telling
  rw [ldI_d ib, ek, if_neg (by decide), ldI_d ib, ek, if_pos rfl, M_ran hm.2.2.2 (by omega), bV_s, mpt_5 nb b x (r + 1) _ (mOK_t hm [61]) (show r + 1 + 9 ≤ 24 by omega), bW_s]
  rfl
theorem mpp_6 (nb b : Nat) (x : Int32) : Mf nb b 6 f_X12_plainPicks x (x + nI b) [1] := by
  intro r w hm hr
  have hl : ([1] : List Int32).length = 1 := rfl
  rw [hl] at hr
  have ib : inb (nI b) 50 := inb_nI (by have := hm.1; have := hm.2.1; omega) (by decide)
  have ek : gi w 80 (ix (nI b)) = 6 := by rw [ix_nI (by have := hm.1; have := hm.2.1; omega)]; exact hm.2.2.1
  unfold f_X12_plainPicks
  rw [M_ran hm.2.2.2 (by omega), bV_s]
theorem mcp_6 (nb b : Nat) (x : Int32) : Mf nb b 6 f_X12_countedPicks x ((x + nI b) * 2) [70, 1] := by
  intro r w hm hr
  have hl : ([70, 1] : List Int32).length = 2 := rfl
  rw [hl] at hr
  have ib : inb (nI b) 50 := inb_nI (by have := hm.1; have := hm.2.1; omega) (by decide)
  have ek : gi w 80 (ix (nI b)) = 6 := by rw [ix_nI (by have := hm.1; have := hm.2.1; omega)]; exact hm.2.2.1
  unfold f_X12_countedPicks
  rw [M_ran hm.2.2.2 (by omega), bV_s, mpp_6 nb b x (r + 1) _ (mOK_t hm [70]) (show r + 1 + 1 ≤ 24 by omega), bW_s]
  rfl
theorem mp_6 (nb b : Nat) (x : Int32) : Mf nb b 6 f_X12_picking x ((x + nI b) * 2) [70, 1] := by
  intro r w hm hr
  have hl : ([70, 1] : List Int32).length = 2 := rfl
  rw [hl] at hr
  have ib : inb (nI b) 50 := inb_nI (by have := hm.1; have := hm.2.1; omega) (by decide)
  have ek : gi w 80 (ix (nI b)) = 6 := by rw [ix_nI (by have := hm.1; have := hm.2.1; omega)]; exact hm.2.2.1
  unfold f_X12_picking
  rw [ldI_d ib, ek, show f_X12_isUnder 6 1 = some 0 from rfl, bR_s, if_pos rfl, ldI_d ib, ek, if_neg (by decide), ldI_d ib, ek, if_pos rfl, mcp_6 nb b x r w hm (show r + 2 ≤ 24 by omega), bW_s]
theorem mpf_6 (nb b : Nat) (x : Int32) : Mf nb b 6 f_X12_plainFinds x (((x + nI b) * 2) * 2) [10, 70, 1] := by
  intro r w hm hr
  have hl : ([10, 70, 1] : List Int32).length = 3 := rfl
  rw [hl] at hr
  have ib : inb (nI b) 50 := inb_nI (by have := hm.1; have := hm.2.1; omega) (by decide)
  have ek : gi w 80 (ix (nI b)) = 6 := by rw [ix_nI (by have := hm.1; have := hm.2.1; omega)]; exact hm.2.2.1
  unfold f_X12_plainFinds
  rw [M_ran hm.2.2.2 (by omega), bV_s, mp_6 nb b x (r + 1) _ (mOK_t hm [10]) (show r + 1 + 2 ≤ 24 by omega), bW_s]
  rfl
theorem msf_6 (nb b : Nat) (x : Int32) : Mf nb b 6 f_X12_slowFinds x (-(((x + nI b) * 2) * 2)) [30, 10, 70, 1] := by
  intro r w hm hr
  have hl : ([30, 10, 70, 1] : List Int32).length = 4 := rfl
  rw [hl] at hr
  have ib : inb (nI b) 50 := inb_nI (by have := hm.1; have := hm.2.1; omega) (by decide)
  have ek : gi w 80 (ix (nI b)) = 6 := by rw [ix_nI (by have := hm.1; have := hm.2.1; omega)]; exact hm.2.2.1
  unfold f_X12_slowFinds
  rw [M_ran hm.2.2.2 (by omega), bV_s, mpf_6 nb b x (r + 1) _ (mOK_t hm [30]) (show r + 1 + 3 ≤ 24 by omega), bW_s]
  rfl
theorem mpl_6 (nb b : Nat) (x : Int32) : Mf nb b 6 f_X12_plainLeaves x (x ^^^ nI b) [11] := by
  intro r w hm hr
  have hl : ([11] : List Int32).length = 1 := rfl
  rw [hl] at hr
  have ib : inb (nI b) 50 := inb_nI (by have := hm.1; have := hm.2.1; omega) (by decide)
  have ek : gi w 80 (ix (nI b)) = 6 := by rw [ix_nI (by have := hm.1; have := hm.2.1; omega)]; exact hm.2.2.1
  unfold f_X12_plainLeaves
  rw [M_ran hm.2.2.2 (by omega), bV_s]
theorem mll_6 (nb b : Nat) (x : Int32) : Mf nb b 6 f_X12_lampedLeaves x ((x ^^^ nI b) * 3) [40, 11] := by
  intro r w hm hr
  have hl : ([40, 11] : List Int32).length = 2 := rfl
  rw [hl] at hr
  have ib : inb (nI b) 50 := inb_nI (by have := hm.1; have := hm.2.1; omega) (by decide)
  have ek : gi w 80 (ix (nI b)) = 6 := by rw [ix_nI (by have := hm.1; have := hm.2.1; omega)]; exact hm.2.2.1
  unfold f_X12_lampedLeaves
  rw [M_ran hm.2.2.2 (by omega), bV_s, mpl_6 nb b x (r + 1) _ (mOK_t hm [40]) (show r + 1 + 1 ≤ 24 by omega), bW_s]
  rfl
theorem ml_6 (nb b : Nat) (x : Int32) : Mf nb b 6 f_X12_leaving x (x ^^^ nI b) [11] := by
  intro r w hm hr
  have hl : ([11] : List Int32).length = 1 := rfl
  rw [hl] at hr
  have ib : inb (nI b) 50 := inb_nI (by have := hm.1; have := hm.2.1; omega) (by decide)
  have ek : gi w 80 (ix (nI b)) = 6 := by rw [ix_nI (by have := hm.1; have := hm.2.1; omega)]; exact hm.2.2.1
  unfold f_X12_leaving
  rw [ldI_d ib, ek, if_neg (by decide), ldI_d ib, ek, if_neg (by decide), mpl_6 nb b x r w hm (show r + 1 ≤ 24 by omega), bW_s]
theorem mf_6 (nb b : Nat) (x : Int32) : Mf nb b 6 f_X12_finding x (((x + nI b) * 2) * 2) [10, 70, 1] := by
  intro r w hm hr
  have hl : ([10, 70, 1] : List Int32).length = 3 := rfl
  rw [hl] at hr
  have ib : inb (nI b) 50 := inb_nI (by have := hm.1; have := hm.2.1; omega) (by decide)
  have ek : gi w 80 (ix (nI b)) = 6 := by rw [ix_nI (by have := hm.1; have := hm.2.1; omega)]; exact hm.2.2.1
  unfold f_X12_finding
  rw [ldI_d ib, ek, show f_X12_isUnder 6 3 = some 0 from rfl, bR_s, if_pos rfl, ldI_d ib, ek, if_neg (by decide), ldI_d ib, ek, if_neg (by decide), mpf_6 nb b x r w hm (show r + 3 ≤ 24 by omega), bW_s]
theorem mpt_6 (nb b : Nat) (x : Int32) : Mf nb b 6 f_X12_plainTells x ((((x + nI b) * 2) * 2) - (1 ^^^ nI b)) [2, 10, 70, 1, 11] := by
  intro r w hm hr
  have hl : ([2, 10, 70, 1, 11] : List Int32).length = 5 := rfl
  rw [hl] at hr
  have ib : inb (nI b) 50 := inb_nI (by have := hm.1; have := hm.2.1; omega) (by decide)
  have ek : gi w 80 (ix (nI b)) = 6 := by rw [ix_nI (by have := hm.1; have := hm.2.1; omega)]; exact hm.2.2.1
  unfold f_X12_plainTells
  rw [M_ran hm.2.2.2 (by omega), bV_s, mf_6 nb b x (r + 1) _ (mOK_t hm [2]) (show r + 1 + 3 ≤ 24 by omega), bW_s, ml_6 nb b 1 (r + 1 + 3) (tM (r + 1) [10, 70, 1] (tM r [2] w)) (mOK_t (mOK_t hm [2]) [10, 70, 1]) (show r + 1 + 3 + 1 ≤ 24 by omega), bW_s]
  rfl
theorem mt_6 (nb b : Nat) (x : Int32) : Mf nb b 6 f_X12_telling x ((((x + nI b) * 2) * 2) - (1 ^^^ nI b)) [2, 10, 70, 1, 11] := by
  intro r w hm hr
  have hl : ([2, 10, 70, 1, 11] : List Int32).length = 5 := rfl
  rw [hl] at hr
  have ib : inb (nI b) 50 := inb_nI (by have := hm.1; have := hm.2.1; omega) (by decide)
  have ek : gi w 80 (ix (nI b)) = 6 := by rw [ix_nI (by have := hm.1; have := hm.2.1; omega)]; exact hm.2.2.1
  unfold f_X12_telling
  rw [ldI_d ib, ek, if_neg (by decide), ldI_d ib, ek, if_neg (by decide), mpt_6 nb b x r w hm (show r + 5 ≤ 24 by omega), bW_s]
theorem mpp_7 (nb b : Nat) (x : Int32) : Mf nb b 7 f_X12_plainPicks x (x + nI b) [1] := by
  intro r w hm hr
  have hl : ([1] : List Int32).length = 1 := rfl
  rw [hl] at hr
  have ib : inb (nI b) 50 := inb_nI (by have := hm.1; have := hm.2.1; omega) (by decide)
  have ek : gi w 80 (ix (nI b)) = 7 := by rw [ix_nI (by have := hm.1; have := hm.2.1; omega)]; exact hm.2.2.1
  unfold f_X12_plainPicks
  rw [M_ran hm.2.2.2 (by omega), bV_s]
theorem mcp_7 (nb b : Nat) (x : Int32) : Mf nb b 7 f_X12_countedPicks x ((x + nI b) * 2) [70, 1] := by
  intro r w hm hr
  have hl : ([70, 1] : List Int32).length = 2 := rfl
  rw [hl] at hr
  have ib : inb (nI b) 50 := inb_nI (by have := hm.1; have := hm.2.1; omega) (by decide)
  have ek : gi w 80 (ix (nI b)) = 7 := by rw [ix_nI (by have := hm.1; have := hm.2.1; omega)]; exact hm.2.2.1
  unfold f_X12_countedPicks
  rw [M_ran hm.2.2.2 (by omega), bV_s, mpp_7 nb b x (r + 1) _ (mOK_t hm [70]) (show r + 1 + 1 ≤ 24 by omega), bW_s]
  rfl
theorem mp_7 (nb b : Nat) (x : Int32) : Mf nb b 7 f_X12_picking x (((x + nI b) * 2) - 1) [81, 70, 1] := by
  intro r w hm hr
  have hl : ([81, 70, 1] : List Int32).length = 3 := rfl
  rw [hl] at hr
  have ib : inb (nI b) 50 := inb_nI (by have := hm.1; have := hm.2.1; omega) (by decide)
  have ek : gi w 80 (ix (nI b)) = 7 := by rw [ix_nI (by have := hm.1; have := hm.2.1; omega)]; exact hm.2.2.1
  unfold f_X12_picking
  rw [ldI_d ib, ek, show f_X12_isUnder 7 1 = some 0 from rfl, bR_s, if_pos rfl, ldI_d ib, ek, if_pos rfl, M_ran hm.2.2.2 (by omega), bV_s, mcp_7 nb b x (r + 1) _ (mOK_t hm [81]) (show r + 1 + 2 ≤ 24 by omega), bW_s]
  rfl
theorem mpf_7 (nb b : Nat) (x : Int32) : Mf nb b 7 f_X12_plainFinds x ((((x + nI b) * 2) - 1) * 2) [10, 81, 70, 1] := by
  intro r w hm hr
  have hl : ([10, 81, 70, 1] : List Int32).length = 4 := rfl
  rw [hl] at hr
  have ib : inb (nI b) 50 := inb_nI (by have := hm.1; have := hm.2.1; omega) (by decide)
  have ek : gi w 80 (ix (nI b)) = 7 := by rw [ix_nI (by have := hm.1; have := hm.2.1; omega)]; exact hm.2.2.1
  unfold f_X12_plainFinds
  rw [M_ran hm.2.2.2 (by omega), bV_s, mp_7 nb b x (r + 1) _ (mOK_t hm [10]) (show r + 1 + 3 ≤ 24 by omega), bW_s]
  rfl
theorem msf_7 (nb b : Nat) (x : Int32) : Mf nb b 7 f_X12_slowFinds x (-((((x + nI b) * 2) - 1) * 2)) [30, 10, 81, 70, 1] := by
  intro r w hm hr
  have hl : ([30, 10, 81, 70, 1] : List Int32).length = 5 := rfl
  rw [hl] at hr
  have ib : inb (nI b) 50 := inb_nI (by have := hm.1; have := hm.2.1; omega) (by decide)
  have ek : gi w 80 (ix (nI b)) = 7 := by rw [ix_nI (by have := hm.1; have := hm.2.1; omega)]; exact hm.2.2.1
  unfold f_X12_slowFinds
  rw [M_ran hm.2.2.2 (by omega), bV_s, mpf_7 nb b x (r + 1) _ (mOK_t hm [30]) (show r + 1 + 4 ≤ 24 by omega), bW_s]
  rfl
theorem mpl_7 (nb b : Nat) (x : Int32) : Mf nb b 7 f_X12_plainLeaves x (x ^^^ nI b) [11] := by
  intro r w hm hr
  have hl : ([11] : List Int32).length = 1 := rfl
  rw [hl] at hr
  have ib : inb (nI b) 50 := inb_nI (by have := hm.1; have := hm.2.1; omega) (by decide)
  have ek : gi w 80 (ix (nI b)) = 7 := by rw [ix_nI (by have := hm.1; have := hm.2.1; omega)]; exact hm.2.2.1
  unfold f_X12_plainLeaves
  rw [M_ran hm.2.2.2 (by omega), bV_s]
theorem mll_7 (nb b : Nat) (x : Int32) : Mf nb b 7 f_X12_lampedLeaves x ((x ^^^ nI b) * 3) [40, 11] := by
  intro r w hm hr
  have hl : ([40, 11] : List Int32).length = 2 := rfl
  rw [hl] at hr
  have ib : inb (nI b) 50 := inb_nI (by have := hm.1; have := hm.2.1; omega) (by decide)
  have ek : gi w 80 (ix (nI b)) = 7 := by rw [ix_nI (by have := hm.1; have := hm.2.1; omega)]; exact hm.2.2.1
  unfold f_X12_lampedLeaves
  rw [M_ran hm.2.2.2 (by omega), bV_s, mpl_7 nb b x (r + 1) _ (mOK_t hm [40]) (show r + 1 + 1 ≤ 24 by omega), bW_s]
  rfl
theorem ml_7 (nb b : Nat) (x : Int32) : Mf nb b 7 f_X12_leaving x (x ^^^ nI b) [11] := by
  intro r w hm hr
  have hl : ([11] : List Int32).length = 1 := rfl
  rw [hl] at hr
  have ib : inb (nI b) 50 := inb_nI (by have := hm.1; have := hm.2.1; omega) (by decide)
  have ek : gi w 80 (ix (nI b)) = 7 := by rw [ix_nI (by have := hm.1; have := hm.2.1; omega)]; exact hm.2.2.1
  unfold f_X12_leaving
  rw [ldI_d ib, ek, if_neg (by decide), ldI_d ib, ek, if_neg (by decide), mpl_7 nb b x r w hm (show r + 1 ≤ 24 by omega), bW_s]
theorem mf_7 (nb b : Nat) (x : Int32) : Mf nb b 7 f_X12_finding x (((((x + nI b) * 2) - 1) * 2) + (2 ^^^ nI b)) [80, 10, 81, 70, 1, 11] := by
  intro r w hm hr
  have hl : ([80, 10, 81, 70, 1, 11] : List Int32).length = 6 := rfl
  rw [hl] at hr
  have ib : inb (nI b) 50 := inb_nI (by have := hm.1; have := hm.2.1; omega) (by decide)
  have ek : gi w 80 (ix (nI b)) = 7 := by rw [ix_nI (by have := hm.1; have := hm.2.1; omega)]; exact hm.2.2.1
  unfold f_X12_finding
  rw [ldI_d ib, ek, show f_X12_isUnder 7 3 = some 0 from rfl, bR_s, if_pos rfl, ldI_d ib, ek, if_pos rfl, M_ran hm.2.2.2 (by omega), bV_s, mpf_7 nb b x (r + 1) _ (mOK_t hm [80]) (show r + 1 + 4 ≤ 24 by omega), bW_s, ml_7 nb b 2 (r + 1 + 4) (tM (r + 1) [10, 81, 70, 1] (tM r [80] w)) (mOK_t (mOK_t hm [80]) [10, 81, 70, 1]) (show r + 1 + 4 + 1 ≤ 24 by omega), bW_s]
  rfl
theorem mpt_7 (nb b : Nat) (x : Int32) : Mf nb b 7 f_X12_plainTells x ((((((x + nI b) * 2) - 1) * 2) + (2 ^^^ nI b)) - (1 ^^^ nI b)) [2, 80, 10, 81, 70, 1, 11, 11] := by
  intro r w hm hr
  have hl : ([2, 80, 10, 81, 70, 1, 11, 11] : List Int32).length = 8 := rfl
  rw [hl] at hr
  have ib : inb (nI b) 50 := inb_nI (by have := hm.1; have := hm.2.1; omega) (by decide)
  have ek : gi w 80 (ix (nI b)) = 7 := by rw [ix_nI (by have := hm.1; have := hm.2.1; omega)]; exact hm.2.2.1
  unfold f_X12_plainTells
  rw [M_ran hm.2.2.2 (by omega), bV_s, mf_7 nb b x (r + 1) _ (mOK_t hm [2]) (show r + 1 + 6 ≤ 24 by omega), bW_s, ml_7 nb b 1 (r + 1 + 6) (tM (r + 1) [80, 10, 81, 70, 1, 11] (tM r [2] w)) (mOK_t (mOK_t hm [2]) [80, 10, 81, 70, 1, 11]) (show r + 1 + 6 + 1 ≤ 24 by omega), bW_s]
  rfl
theorem mt_7 (nb b : Nat) (x : Int32) : Mf nb b 7 f_X12_telling x ((((((x + nI b) * 2) - 1) * 2) + (2 ^^^ nI b)) - (1 ^^^ nI b)) [2, 80, 10, 81, 70, 1, 11, 11] := by
  intro r w hm hr
  have hl : ([2, 80, 10, 81, 70, 1, 11, 11] : List Int32).length = 8 := rfl
  rw [hl] at hr
  have ib : inb (nI b) 50 := inb_nI (by have := hm.1; have := hm.2.1; omega) (by decide)
  have ek : gi w 80 (ix (nI b)) = 7 := by rw [ix_nI (by have := hm.1; have := hm.2.1; omega)]; exact hm.2.2.1
  unfold f_X12_telling
  rw [ldI_d ib, ek, if_neg (by decide), ldI_d ib, ek, if_neg (by decide), mpt_7 nb b x r w hm (show r + 8 ≤ 24 by omega), bW_s]
theorem both_0 (nb b k : Nat) (hk : k < 8) (x : Int32) : ∃ (val : Int32) (tr : List Int32), tr ≠ [] ∧ tr.length ≤ 24 ∧ Ow nb b (nI k) 41 0 x val tr ∧ Mf nb b (nI k) f_X12_picking x val tr := by
  have wk : ∀ {N : Nat} {kk act y v : Int32} {l : List Int32}, N ≤ 41 → Ow nb b kk N act y v l → Ow nb b kk 41 act y v l := fun hN h n d r w hn hd ha hr => h n d r w (by omega) (by omega) ha hr
  have key : k = 0 ∨ k = 1 ∨ k = 2 ∨ k = 3 ∨ k = 4 ∨ k = 5 ∨ k = 6 ∨ k = 7 := by omega
  rcases key with rfl | rfl | rfl | rfl | rfl | rfl | rfl | rfl
  · exact ⟨_, _, by simp, by decide, wk (by omega) (own_of (fr_0_0_0 nb b x)), mp_0 nb b x⟩
  · exact ⟨_, _, by simp, by decide, wk (by omega) (own_of (fr_1_1_0 nb b x)), mp_1 nb b x⟩
  · exact ⟨_, _, by simp, by decide, wk (by omega) (own_of (fr_2_2_0 nb b x)), mp_2 nb b x⟩
  · exact ⟨_, _, by simp, by decide, wk (by omega) (own_of (fr_3_3_0 nb b x)), mp_3 nb b x⟩
  · exact ⟨_, _, by simp, by decide, wk (by omega) (own_of (fr_4_4_0 nb b x)), mp_4 nb b x⟩
  · exact ⟨_, _, by simp, by decide, wk (by omega) (own_of (fr_5_5_0 nb b x)), mp_5 nb b x⟩
  · exact ⟨_, _, by simp, by decide, wk (by omega) (own_of (fr_6_6_0 nb b x)), mp_6 nb b x⟩
  · exact ⟨_, _, by simp, by decide, wk (by omega) (own_of (fr_7_7_0 nb b x)), mp_7 nb b x⟩
theorem both_1 (nb b k : Nat) (hk : k < 8) (x : Int32) : ∃ (val : Int32) (tr : List Int32), tr ≠ [] ∧ tr.length ≤ 24 ∧ Ow nb b (nI k) 41 1 x val tr ∧ Mf nb b (nI k) f_X12_finding x val tr := by
  have wk : ∀ {N : Nat} {kk act y v : Int32} {l : List Int32}, N ≤ 41 → Ow nb b kk N act y v l → Ow nb b kk 41 act y v l := fun hN h n d r w hn hd ha hr => h n d r w (by omega) (by omega) ha hr
  have key : k = 0 ∨ k = 1 ∨ k = 2 ∨ k = 3 ∨ k = 4 ∨ k = 5 ∨ k = 6 ∨ k = 7 := by omega
  rcases key with rfl | rfl | rfl | rfl | rfl | rfl | rfl | rfl
  · exact ⟨_, _, by simp, by decide, wk (by omega) (own_of (fr_0_0_1 nb b x)), mf_0 nb b x⟩
  · exact ⟨_, _, by simp, by decide, wk (by omega) (own_of (fr_1_1_1 nb b x)), mf_1 nb b x⟩
  · exact ⟨_, _, by simp, by decide, wk (by omega) (own_of (fr_2_2_1 nb b x)), mf_2 nb b x⟩
  · exact ⟨_, _, by simp, by decide, wk (by omega) (own_of (fr_3_3_1 nb b x)), mf_3 nb b x⟩
  · exact ⟨_, _, by simp, by decide, wk (by omega) (own_of (fr_4_4_1 nb b x)), mf_4 nb b x⟩
  · exact ⟨_, _, by simp, by decide, wk (by omega) (own_of (fr_5_5_1 nb b x)), mf_5 nb b x⟩
  · exact ⟨_, _, by simp, by decide, wk (by omega) (own_of (fr_6_6_1 nb b x)), mf_6 nb b x⟩
  · exact ⟨_, _, by simp, by decide, wk (by omega) (own_of (fr_7_7_1 nb b x)), mf_7 nb b x⟩
theorem both_2 (nb b k : Nat) (hk : k < 8) (x : Int32) : ∃ (val : Int32) (tr : List Int32), tr ≠ [] ∧ tr.length ≤ 24 ∧ Ow nb b (nI k) 41 2 x val tr ∧ Mf nb b (nI k) f_X12_leaving x val tr := by
  have wk : ∀ {N : Nat} {kk act y v : Int32} {l : List Int32}, N ≤ 41 → Ow nb b kk N act y v l → Ow nb b kk 41 act y v l := fun hN h n d r w hn hd ha hr => h n d r w (by omega) (by omega) ha hr
  have key : k = 0 ∨ k = 1 ∨ k = 2 ∨ k = 3 ∨ k = 4 ∨ k = 5 ∨ k = 6 ∨ k = 7 := by omega
  rcases key with rfl | rfl | rfl | rfl | rfl | rfl | rfl | rfl
  · exact ⟨_, _, by simp, by decide, wk (by omega) (own_of (fr_0_0_2 nb b x)), ml_0 nb b x⟩
  · exact ⟨_, _, by simp, by decide, wk (by omega) (own_of (fr_1_1_2 nb b x)), ml_1 nb b x⟩
  · exact ⟨_, _, by simp, by decide, wk (by omega) (own_of (fr_2_2_2 nb b x)), ml_2 nb b x⟩
  · exact ⟨_, _, by simp, by decide, wk (by omega) (own_of (fr_3_3_2 nb b x)), ml_3 nb b x⟩
  · exact ⟨_, _, by simp, by decide, wk (by omega) (own_of (fr_4_4_2 nb b x)), ml_4 nb b x⟩
  · exact ⟨_, _, by simp, by decide, wk (by omega) (own_of (fr_5_5_2 nb b x)), ml_5 nb b x⟩
  · exact ⟨_, _, by simp, by decide, wk (by omega) (own_of (fr_6_6_2 nb b x)), ml_6 nb b x⟩
  · exact ⟨_, _, by simp, by decide, wk (by omega) (own_of (fr_7_7_2 nb b x)), ml_7 nb b x⟩
theorem both_3 (nb b k : Nat) (hk : k < 8) (x : Int32) : ∃ (val : Int32) (tr : List Int32), tr ≠ [] ∧ tr.length ≤ 24 ∧ Ow nb b (nI k) 41 3 x val tr ∧ Mf nb b (nI k) f_X12_telling x val tr := by
  have wk : ∀ {N : Nat} {kk act y v : Int32} {l : List Int32}, N ≤ 41 → Ow nb b kk N act y v l → Ow nb b kk 41 act y v l := fun hN h n d r w hn hd ha hr => h n d r w (by omega) (by omega) ha hr
  have key : k = 0 ∨ k = 1 ∨ k = 2 ∨ k = 3 ∨ k = 4 ∨ k = 5 ∨ k = 6 ∨ k = 7 := by omega
  rcases key with rfl | rfl | rfl | rfl | rfl | rfl | rfl | rfl
  · exact ⟨_, _, by simp, by decide, wk (by omega) (own_of (fr_0_0_3 nb b x)), mt_0 nb b x⟩
  · exact ⟨_, _, by simp, by decide, wk (by omega) (own_of (fr_1_1_3 nb b x)), mt_1 nb b x⟩
  · exact ⟨_, _, by simp, by decide, wk (by omega) (own_of (fr_2_2_3 nb b x)), mt_2 nb b x⟩
  · exact ⟨_, _, by simp, by decide, wk (by omega) (own_of (fr_3_3_3 nb b x)), mt_3 nb b x⟩
  · exact ⟨_, _, by simp, by decide, wk (by omega) (own_of (fr_4_4_3 nb b x)), mt_4 nb b x⟩
  · exact ⟨_, _, by simp, by decide, wk (by omega) (own_of (fr_5_5_3 nb b x)), mt_5 nb b x⟩
  · exact ⟨_, _, by simp, by decide, wk (by omega) (own_of (fr_6_6_3 nb b x)), mt_6 nb b x⟩
  · exact ⟨_, _, by simp, by decide, wk (by omega) (own_of (fr_7_7_3 nb b x)), mt_7 nb b x⟩
def BR (nb : Nat) (w : Wd) : Prop := nb ≤ 50 ∧ gi w 39 1 = nI nb ∧ gi w 54 48 = nI nb ∧ (∀ i, i < nb → ∃ k, k < 8 ∧ gi w 40 i = nI k ∧ gi w 80 i = nI k) ∧ ∃ tr, tr ≤ 24 ∧ gi w 39 3 = nI tr ∧ gi w 54 50 = nI tr ∧ ∀ i, i < tr → gi w 41 i = gi w 81 i
def aB (c k : Nat) : Bool := (39 ≤ c && c ≤ 41) || c == 80 || c == 81 || (c == 54 && (k == 48 || k == 50))
theorem BR_cg {nb : Nat} {w w' : Wd} (h : BR nb w) (he : ∀ c k, aB c k = true → gi w' c k = gi w c k) : BR nb w' := by
  obtain ⟨h1, h2, h3, h4, tr, h5, h6, h7, h8⟩ := h
  refine ⟨h1, by rw [he _ _ (by decide)]; exact h2, by rw [he _ _ (by decide)]; exact h3, fun i hi => ?_, tr, h5, by rw [he _ _ (by decide)]; exact h6, by rw [he _ _ (by decide)]; exact h7, fun i hi => ?_⟩
  · rw [he 40 _ (by simp [aB]), he 80 _ (by simp [aB])]; exact h4 i hi
  · rw [he 41 _ (by simp [aB]), he 81 _ (by simp [aB])]; exact h8 i hi

