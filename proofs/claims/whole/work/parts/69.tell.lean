/-! PLANS: the class tells its planner -/
theorem X_get0 {A : Ab} {w : Wd} (h : VX A w) {k : Nat} (hk : A.L ≤ k) (hk6 : k < 6) : f_X6_get (nI k) 6 w = some 0 := by
  have hno : ¬ vld (nI k) 6 A.L := by
    have t := nI_toInt (n := k) (by omega)
    have t6 : (6 : Int32).toInt = 6 := rfl
    unfold vld inb
    rw [t, t6]
    omega
  unfold f_X6_get
  rw [X_slot_no h.2.1 h.1.1 hno, bR_s]
  rfl
def sFS (c c' k : Nat) : Bool := sEY c' k || (c' == c && true)
def sF1 (c lo hi c' k : Nat) : Bool := sEY c' k || (c' == c && (decide (lo ≤ k) && decide (k < hi)))
theorem sF1_S {c lo hi : Nat} : ∀ c' k, sF1 c lo hi c' k = true → sFS c c' k = true := by
  intro c' k h
  simp only [sF1, sFS, Bool.or_eq_true, Bool.and_eq_true, beq_iff_eq, decide_eq_true_eq] at h ⊢
  rcases h with h | h
  · exact Or.inl h
  · exact Or.inr ⟨h.1, trivial⟩
theorem sFS_s {c : Nat} (hc : 13 ≤ c ∧ c ≤ 30) : ∀ c' k, sFS c c' k = true → scr c' k = true := by
  intro c' k h
  simp only [sFS, Bool.or_eq_true, Bool.and_eq_true, beq_iff_eq] at h
  rcases h with h | h
  · exact sEY_s c' k h
  · simp only [scr, Bool.or_eq_true, Bool.and_eq_true, beq_iff_eq, decide_eq_true_eq]
    omega
theorem sEY_c {c : Nat} (hc : 13 ≤ c ∧ c ≤ 30) (k : Nat) : sEY c k = false := by
  cases h : sEY c k with
  | false => rfl
  | true =>
    simp only [sEY, Bool.or_eq_true, Bool.and_eq_true, beq_iff_eq] at h
    omega
theorem X_fs15 {A : Ab} {c k : Nat} (hc : 13 ≤ c ∧ c ≤ 30) (hk : k < A.L) (k2 : Nat → Int32 → Wd → Option Wd) : ∀ (f n d : Nat) (w : Wd), d + f = 4 → f < n → VX A w → ∃ w', f_X11_fillShares_b15 k2 n c (nI k) (nI d) w = k2 c (nI (k + 1)) w' ∧ (∀ d', d ≤ d' → d' < 4 → gi w' c (4 * k + d') = nI (shp A k d')) ∧ eqo (sF1 c (4 * k + d) (4 * k + 4)) w w'
  | 0, 0, _, _, _, h, _ => absurd h (by omega)
  | 0, n + 1, d, w, hd, _, _ => by
    refine ⟨w, ?_, fun d' h1 h2 => absurd h1 (by omega), eqo_rf w⟩
    show f_X11_fillShares_b15_y k2 (f_X11_fillShares_b15 k2 n) c (nI k) (nI d) w = _
    unfold f_X11_fillShares_b15_y
    rw [if_pos (by rw [show (4 : Int32) = nI 4 from rfl, nI_leI (by omega) (by omega)]; omega), nI_1]
  | f + 1, 0, _, _, _, h, _ => absurd h (by omega)
  | f + 1, n + 1, d, w, hd, hn, hV => by
    have h6 := hV.1.1
    obtain ⟨w1, p1, p2⟩ := X_tw hV hk (nI d)
    have p1' : f_X11_twelfths (nI k) (nI d) w = some (nI (shp A k d), w1) := p1
    have E2 : eqo (sF1 c (4 * k + d) (4 * k + 4)) w (si w1 c (4 * k + d) (nI (shp A k d))) := by
      refine eqo_si (eqo_mono p2 ?_) ?_
      · intro c' k' h
        unfold sF1
        rw [h]
        rfl
      · simp only [sF1, Bool.or_eq_true, Bool.and_eq_true, beq_iff_eq, decide_eq_true_eq]
        exact Or.inr ⟨trivial, by omega, by omega⟩
    have hV2 := VX_s hV (eqo_mono E2 (fun c' k' h => sFS_s hc c' k' (sF1_S c' k' h)))
    obtain ⟨w2, q1, q2, q3⟩ := X_fs15 hc hk k2 f n (d + 1) _ (by omega) (by omega) hV2
    refine ⟨w2, ?_, fun d' h1 h2 => ?_, eqo_tr E2 (eqo_mono q3 ?_)⟩
    · show f_X11_fillShares_b15_y k2 (f_X11_fillShares_b15 k2 n) c (nI k) (nI d) w = _
      unfold f_X11_fillShares_b15_y f_X11_fillShares_b44
      have e1 : (nI k * 4 + nI d : Int32) = nI (4 * k + d) := by rw [show (4 : Int32) = nI 4 from rfl, pk_mul, nI_add, Nat.mul_comm]
      rw [if_neg (by rw [show (4 : Int32) = nI 4 from rfl, nI_leI (by omega) (by omega)]; omega), lt_d, e1, if_neg (by rw [show (24 : Int32) = nI 24 from rfl, nI_leI (by omega) (by omega)]; omega), p1', bW_s, saI_d (inb_nI (by omega) (by omega)), ix_nI (by omega), nI_1]
      exact q1
    · by_cases z : d' = d
      · subst z
        have hf : sF1 c (4 * k + (d' + 1)) (4 * k + 4) c (4 * k + d') = false := by
          unfold sF1
          rw [sEY_c hc]
          simp
          omega
        rw [(q3 _ _ hf).1, gi_si, if_pos ⟨rfl, rfl⟩]
      · exact q2 d' (by omega) h2
    · intro c' k' h
      simp only [sF1, Bool.or_eq_true, Bool.and_eq_true, beq_iff_eq, decide_eq_true_eq] at h ⊢
      rcases h with h | h
      · exact Or.inl h
      · exact Or.inr (by omega)
theorem X_fs2 {A : Ab} {c : Nat} (hc : 13 ≤ c ∧ c ≤ 30) : ∀ (f n k : Nat) (w : Wd), k + f = A.L → f < n → VX A w → (∀ k', k' < k → ∀ d, d < 4 → gi w c (4 * k' + d) = nI (shp A k' d)) → ∃ w', f_X11_fillShares_b2 n c (nI k) w = some w' ∧ (∀ k', k' < A.L → ∀ d, d < 4 → gi w' c (4 * k' + d) = nI (shp A k' d)) ∧ eqo (sFS c) w w'
  | 0, 0, _, _, _, h, _, _ => absurd h (by omega)
  | 0, n + 1, k, w, hk, _, hV, hF => by
    have h6 := hV.1.1
    refine ⟨w, ?_, fun k' h1 => hF k' (by omega), eqo_rf w⟩
    show f_X11_fillShares_b2_y (f_X11_fillShares_b2 n) c (nI k) w = _
    unfold f_X11_fillShares_b2_y
    rw [hV.2.1, if_pos (by rw [nI_leI (by omega) (by omega)]; omega)]
  | f + 1, 0, _, _, _, h, _, _ => absurd h (by omega)
  | f + 1, n + 1, k, w, hk, hn, hV, hF => by
    have h6 := hV.1.1
    obtain ⟨w1, p1, p2, p3⟩ := X_fs15 hc (k := k) (by omega) (f_X11_fillShares_b2 n) 4 fu 0 w (by omega) (by show 4 < 300; omega) hV
    have hS1 := eqo_mono p3 (sF1_S (c := c) (lo := 4 * k + 0) (hi := 4 * k + 4))
    obtain ⟨w2, q1, q2, q3⟩ := X_fs2 hc f n (k + 1) w1 (by omega) (by omega) (VX_s hV (eqo_mono hS1 (sFS_s hc))) (fun k' h1 d hd => by
      by_cases z : k' = k
      · subst z; exact p2 d (by omega) hd
      · have hf : sF1 c (4 * k + 0) (4 * k + 4) c (4 * k' + d) = false := by
          unfold sF1
          rw [sEY_c hc]
          simp
          omega
        rw [(p3 _ _ hf).1]
        exact hF k' (by omega) d hd)
    refine ⟨w2, ?_, q2, eqo_tr hS1 q3⟩
    show f_X11_fillShares_b2_y (f_X11_fillShares_b2 n) c (nI k) w = _
    unfold f_X11_fillShares_b2_y
    rw [hV.2.1, if_neg (by rw [nI_leI (by omega) (by omega)]; omega)]
    exact p1.trans q1
theorem X_fs {A : Ab} {c : Nat} {w : Wd} (hc : 13 ≤ c ∧ c ≤ 30) (hV : VX A w) : ∃ w', f_X11_fillShares c w = some w' ∧ (∀ k', k' < A.L → ∀ d, d < 4 → gi w' c (4 * k' + d) = nI (shp A k' d)) ∧ eqo (sFS c) w w' := by
  unfold f_X11_fillShares
  have h6 := hV.1.1
  exact X_fs2 hc A.L fu 0 w (by omega) (by show _ < 300; omega) hV (fun k' h => absurd h (by omega))
theorem X_tell {A : Ab} {w : Wd} (hV : VX A w) : ∃ w', f_X11_tellPlanner w = some w' ∧ VPl A w' ∧ VX A w' ∧ eqo scr w w' := by
  have h6 := hV.1.1
  unfold f_X11_tellPlanner
  obtain ⟨w1, p1, p2, p3⟩ := X_fs (c := 21) ⟨by omega, by omega⟩ hV
  have hs1 := eqo_mono p3 (sFS_s (c := 21) ⟨by omega, by omega⟩)
  have hV1 := VX_s hV hs1
  have E2 : eqo scr w (si w1 18 3 (nI A.L)) := eqo_si hs1 rfl
  have hV2 := VX_s hV E2
  have E4 : eqo scr w (si (si w1 18 3 (nI A.L)) 18 4 (nI (A.nv 10 0))) := eqo_si E2 rfl
  rw [p1, bV_s, hV1.2.1, stI_d, VX_10 hV2, bR_s, stI_d]
  have hz : ∀ i n, i < 6 → ∀ w, VX A w → ∃ v, (i < A.L → v = nI (A.nv 6 i)) ∧ f_X11_tellPlanner_b44 (n + 1) (nI i) w = f_X11_tellPlanner_b44 n (nI (i + 1)) (si w 22 i v) := by
    intro i n hi w hw
    have e0 : f_X11_tellPlanner_b44 (n + 1) (nI i) w = f_X11_tellPlanner_b44_y (f_X11_tellPlanner_b44 n) (nI i) w := rfl
    by_cases c : i < A.L
    · refine ⟨nI (A.nv 6 i), fun _ => rfl, ?_⟩
      rw [e0]
      unfold f_X11_tellPlanner_b44_y
      rw [if_neg (by rw [show (6 : Int32) = nI 6 from rfl, nI_leI (by omega) (by omega)]; omega), VX_6 hw c, bR_s, saI_d (inb_nI (by omega) (by omega)), ix_nI (by omega), nI_1]
    · refine ⟨0, fun z => absurd z c, ?_⟩
      rw [e0]
      unfold f_X11_tellPlanner_b44_y
      rw [if_neg (by rw [show (6 : Int32) = nI 6 from rfl, nI_leI (by omega) (by omega)]; omega), X_get0 hw (by omega) hi, bR_s, saI_d (inb_nI (by omega) (by omega)), ix_nI (by omega), nI_1]
  have key : ∀ (f n i : Nat) (w0 : Wd), i + f = 6 → f < n → VX A w0 → eqo scr w w0 → gi w0 18 3 = nI A.L → gi w0 18 4 = nI (A.nv 10 0) → (∀ k', k' < A.L → ∀ d, d < 4 → gi w0 21 (4 * k' + d) = nI (shp A k' d)) → (∀ k, k < i → k < A.L → gi w0 22 k = nI (A.nv 6 k)) → ∃ w', f_X11_tellPlanner_b44 n (nI i) w0 = some w' ∧ VPl A w' ∧ VX A w' ∧ eqo scr w w' := by
    intro f
    induction f with
    | zero =>
      intro n i w0 hi hn hw he g3 g4 g21 g22
      obtain ⟨n', rfl⟩ : ∃ n', n = n' + 1 := ⟨n - 1, by omega⟩
      refine ⟨w0, ?_, ⟨g3, g4, g21, fun k hk => g22 k (by omega) hk⟩, hw, he⟩
      show f_X11_tellPlanner_b44_y (f_X11_tellPlanner_b44 n') (nI i) w0 = _
      unfold f_X11_tellPlanner_b44_y
      rw [if_pos (by rw [show (6 : Int32) = nI 6 from rfl, nI_leI (by omega) (by omega)]; omega)]
    | succ f IH =>
      intro n i w0 hi hn hw he g3 g4 g21 g22
      obtain ⟨n', rfl⟩ : ∃ n', n = n' + 1 := ⟨n - 1, by omega⟩
      obtain ⟨v, hv, e⟩ := hz i n' (by omega) w0 hw
      rw [e]
      have he2 : eqo scr w (si w0 22 i v) := eqo_si he rfl
      refine IH n' (i + 1) _ (by omega) (by omega) (VX_s hV he2) he2 ?_ ?_ (fun k' h1 d hd => ?_) (fun k h1 h2 => ?_)
      · rw [gi_si, if_neg (by omega)]; exact g3
      · rw [gi_si, if_neg (by omega)]; exact g4
      · rw [gi_si, if_neg (by omega)]; exact g21 k' h1 d hd
      · rw [gi_si]
        by_cases z : k = i
        · rw [if_pos ⟨rfl, z⟩, z]; exact hv (by omega)
        · rw [if_neg (fun y => z y.2)]; exact g22 k (by omega) h2
  refine key 6 fu 0 _ (by omega) (by show 6 < 300; omega) (VX_s hV E4) E4 ?_ ?_ (fun k' h1 d hd => ?_) (fun k h => absurd h (by omega))
  · rw [gi_si, if_neg (by omega), gi_si, if_pos ⟨rfl, rfl⟩]
  · rw [gi_si, if_pos ⟨rfl, rfl⟩]
  · rw [gi_si, if_neg (by omega), gi_si, if_neg (by omega)]; exact p2 k' h1 d hd
theorem pB_0 {A : Ab} (hA : Aok A) {b : Nat} (hb : b < 4) : pB 0 (p0 A b) := fun j hj => by
  have := p0_le hA hb hj
  rw [Nat.pow_zero]
  omega
theorem sPL_s {d : Nat} : ∀ c k, sPL d c k = true → scr c k = true := by
  intro c k h
  simp only [sPL, scr, Bool.or_eq_true, Bool.and_eq_true, beq_iff_eq, decide_eq_true_eq] at h ⊢
  omega
theorem X_for {A : Ab} {b m : Nat} {w : Wd} (hV : VX A w) (hP : VPl A w) (hb : b < 4) (hm : m ≤ 3) : ∃ w', f_X11_leastFor (nI b) (nI m) w = some (lN (PLv A m 0 (p0 A b)).1, w') ∧ gi w' 18 5 = (PLv A m 0 (p0 A b)).2 ∧ PT 20 0 (p0 A b) w' ∧ VPl A w' ∧ VX A w' ∧ eqo scr w w' := by
  unfold f_X11_leastFor f_X8_leastOf
  obtain ⟨w1, p1, p2, p3⟩ := X_begin (c0 := 19) (b := b) hV hb
  have hs1 := eqo_mono p3 (sPT_s (c := 20) (d := 0) (Or.inl ⟨by omega, by omega⟩))
  have hP1 : VPl A w1 := VPl_cg hP (p3 18 3 rfl).1 (p3 18 4 rfl).1 (fun k => (p3 21 k rfl).1) (fun k => (p3 22 k rfl).1)
  have hs2 : eqo scr w (si w1 18 5 (-2)) := eqo_si hs1 rfl
  have hP2 : VPl A (si w1 18 5 (-2)) := VPl_cg hP1 (by rw [gi_si, if_neg (by omega)]) (by rw [gi_si, if_neg (by omega)]) (fun k => by rw [gi_si, if_neg (by omega)]) (fun k => by rw [gi_si, if_neg (by omega)])
  have e3 : imax 0 (imin 3 (nI m)) = nI m := by
    have : m = 0 ∨ m = 1 ∨ m = 2 ∨ m = 3 := by omega
    rcases this with z | z | z | z <;> subst z <;> decide
  obtain ⟨w2, q1, q2, q3⟩ := X_least hV.1 m 0 rf (by omega) (by show _ < 80; omega) (p0 A b) (si w1 18 5 (-2)) hP2 (fun j hj => p2 j hj) (pB_0 hV.1 hb) (fun _ => by rw [gi_si, if_pos ⟨rfl, rfl⟩])
  have hs3 := eqo_tr hs2 (eqo_mono q3 (sPL_s (d := 0)))
  rw [p1, bV_s, stI_d, e3]
  have q1' : f_X8_least rf 0 (nI m) (si w1 18 5 (-2)) = some (lN (PLv A m 0 (p0 A b)).1, w2) := q1
  rw [q1', bW_s, bW_s]
  refine ⟨w2, rfl, q2 rfl, fun j hj => ?_, VPl_L hP2 q3, VX_s hV hs3, hs3⟩
  rw [(q3 20 _ (by simp [sPL]; omega)).2]
  exact p2 j hj
