/-! IN DEED: open, look, eat, led, image, back -/
def dR (cX cM : Nat) (w : Wd) : Prop := gi w cX 4 = gi w cM 0 ∧ gi w cX 5 = gi w cM 1 ∧ gi w cX 6 = gi w cM 2 ∧ gi w cX 7 = gi w cM 3 ∧ gi w cX 8 = gi w cM 4 ∧ ((gi w cX 0 = 0 ∧ gi w cM 5 = -1) ∨ (gi w cX 0 = 1 ∧ ∃ s, s ≤ 3 ∧ gi w cX 1 = nI s ∧ gi w cM 5 = nI s ∧ gi w cX 3 = gi w cM 6 ∧ gi w cX 2 = gi w cM 7))
def DR (w : Wd) : Prop := dR 37 78 w ∧ ((gi w 0 11 = 0 ∧ gi w 54 47 = 0) ∨ (gi w 0 11 = 1 ∧ gi w 54 47 = 1 ∧ dR 38 79 w))
def aD (c k : Nat) : Bool := c == 37 || c == 38 || (c == 0 && k == 11) || c == 78 || c == 79 || (c == 54 && k == 47)
def sD (c k : Nat) : Bool := scr c k || aD c k
theorem dR_cg {cX cM : Nat} {w w' : Wd} (h : dR cX cM w) (h1 : ∀ k, gi w' cX k = gi w cX k) (h2 : ∀ k, gi w' cM k = gi w cM k) : dR cX cM w' := by
  unfold dR at h ⊢
  simp only [h1, h2]
  exact h
theorem DR_cg {w w' : Wd} (h : DR w) (he : ∀ c k, aD c k = true → gi w' c k = gi w c k) : DR w' := by
  obtain ⟨h1, h2⟩ := h
  refine ⟨dR_cg h1 (fun k => he 37 k rfl) (fun k => he 78 k rfl), ?_⟩
  rcases h2 with ⟨a, b⟩ | ⟨a, b, c⟩
  · exact Or.inl ⟨by rw [he 0 11 rfl]; exact a, by rw [he 54 47 rfl]; exact b⟩
  · exact Or.inr ⟨by rw [he 0 11 rfl]; exact a, by rw [he 54 47 rfl]; exact b, dR_cg c (fun k => he 38 k rfl) (fun k => he 79 k rfl)⟩
theorem scr_aD : ∀ c k, aD c k = true → scr c k = false := by
  intro c k h
  cases hs : scr c k with
  | false => rfl
  | true =>
    simp only [aD, scr, Bool.or_eq_true, Bool.and_eq_true, beq_iff_eq, decide_eq_true_eq] at h hs
    omega
theorem DR_s {w w' : Wd} (h : DR w) (he : eqo scr w w') : DR w' := DR_cg h (fun c k z => (he c k (scr_aD c k z)).1)
theorem s_sD : ∀ c k, scr c k = true → sD c k = true := fun c k h => by unfold sD; rw [h]; rfl
theorem sD_VX : ∀ c k, aVX c k = true → sD c k = false := by
  intro c k h
  cases hs : sD c k with
  | false => rfl
  | true =>
    simp only [aVX, sD, aD, scr, Bool.or_eq_true, Bool.and_eq_true, beq_iff_eq, decide_eq_true_eq] at h hs
    omega
theorem sD_VM : ∀ c k, aVM c k = true → sD c k = false := by
  intro c k h
  cases hs : sD c k with
  | false => rfl
  | true =>
    simp only [aVM, sD, aD, scr, Bool.or_eq_true, Bool.and_eq_true, beq_iff_eq, decide_eq_true_eq] at h hs
    omega
theorem VX_d {A : Ab} {w w' : Wd} (h : VX A w) (he : eqo sD w w') : VX A w' := VX_cg h (fun c k z => (he c k (sD_VX c k z)).1)
theorem VM_d {A : Ab} {w w' : Wd} (h : VM A w) (he : eqo sD w w') : VM A w' := VM_cg h (fun c k z => (he c k (sD_VM c k z)).1)
theorem eqo_one {S : Nat → Nat → Bool} {w w' : Wd} {a b : Nat} (hs : S a b = true) (h1 : ∀ c k, ¬ (c = a ∧ k = b) → gi w' c k = gi w c k) (h2 : ∀ c k, gl w' c k = gl w c k) : eqo S w w' := fun c k h => ⟨h1 c k (fun z => by rw [z.1, z.2, hs] at h; cases h), h2 c k⟩
theorem T_open {A : Ab} {w : Wd} (hX : VX A w) (hM : VM A w) (hD : DR w) (a1 a2 : Int32) : ∃ r w1 w2, f_X11_open a1 a2 w = some (r, w1) ∧ f_X12_open a1 a2 w1 = some (r, w2) ∧ DR w2 ∧ eqo sD w w2 := by
  by_cases h1 : inb a1 4
  · obtain ⟨b, hb, rfl⟩ := of_inb h1
    obtain ⟨⟨d4, d5, d6, d7, d8, dO⟩, dI⟩ := id hD
    rcases dO with ⟨o1, o2⟩ | ⟨o1, s, hs, o2, o3, o4, o5⟩
    · have E2 : eqo sD w (si w 36 0 a2) := eqo_si (eqo_rf w) rfl
      obtain ⟨w4, p1, p2, p3, p4⟩ := X_stones3 (b := b) (z := a2) (VX_d hX E2) hb (by rw [gi_si, if_pos ⟨rfl, rfl⟩])
      have MS := fun (w' : Wd) (hV : VM A w') (hz : gi w' 54 44 = a2) => M_stones4 (b := b) (z := a2) hV hb hz
      have hsv := stV_le A b a2
      generalize stV A b a2 = sv at p1 MS hsv
      generalize stZ' A b a2 = zv at p2 MS
      have E4 : eqo sD w w4 := eqo_tr E2 (eqo_one (a := 36) (b := 0) rfl p3 p4)
      have X1 : f_X11_open (nI b) a2 w = some (nI b, si (si (si (si w4 37 0 1) 37 1 (nI sv)) 37 2 zv) 37 3 0) := by
        unfold f_X11_open f_X2_begin
        rw [X_isBag, bR_s, ite_b2i, if_pos h1, if_pos o1, stI_d, p1, bW_s, p2, stZ_d (Or.inr rfl), stI_d, stI_d, stI_d, bV_s]
      have E5 : eqo sD w (si (si (si (si w4 37 0 1) 37 1 (nI sv)) 37 2 zv) 37 3 0) := eqo_si (eqo_si (eqo_si (eqo_si E4 rfl) rfl) rfl) rfl
      have F5 : ∀ c k, ¬ c = 36 → ¬ c = 37 → gi (si (si (si (si w4 37 0 1) 37 1 (nI sv)) 37 2 zv) 37 3 0) c k = gi w c k := by
        intro c k n1 n2
        rw [gi_si, if_neg (by omega), gi_si, if_neg (by omega), gi_si, if_neg (by omega), gi_si, if_neg (by omega), p3 c k (by omega), gi_si, if_neg (by omega)]
      have G0 : gi (si (si (si (si w4 37 0 1) 37 1 (nI sv)) 37 2 zv) 37 3 0) 37 0 = 1 := by rw [gi_si, if_neg (by omega), gi_si, if_neg (by omega), gi_si, if_neg (by omega), gi_si, if_pos ⟨rfl, rfl⟩]
      have G1 : gi (si (si (si (si w4 37 0 1) 37 1 (nI sv)) 37 2 zv) 37 3 0) 37 1 = nI (sv) := by rw [gi_si, if_neg (by omega), gi_si, if_neg (by omega), gi_si, if_pos ⟨rfl, rfl⟩]
      have G2 : gi (si (si (si (si w4 37 0 1) 37 1 (nI sv)) 37 2 zv) 37 3 0) 37 2 = zv := by rw [gi_si, if_neg (by omega), gi_si, if_pos ⟨rfl, rfl⟩]
      have G3 : gi (si (si (si (si w4 37 0 1) 37 1 (nI sv)) 37 2 zv) 37 3 0) 37 3 = 0 := by rw [gi_si, if_pos ⟨rfl, rfl⟩]
      have GG : ∀ k, 4 ≤ k → gi (si (si (si (si w4 37 0 1) 37 1 (nI sv)) 37 2 zv) 37 3 0) 37 k = gi w 37 k := by
        intro k hk
        rw [gi_si, if_neg (by omega), gi_si, if_neg (by omega), gi_si, if_neg (by omega), gi_si, if_neg (by omega), p3 37 k (by omega), gi_si, if_neg (by omega)]
      generalize si (si (si (si w4 37 0 1) 37 1 (nI sv)) 37 2 zv) 37 3 0 = w5 at X1 E5 F5 G0 G1 G2 G3 GG
      have E6 : eqo sD w (si w5 54 44 a2) := eqo_si E5 rfl
      obtain ⟨w6, q1, q2, q3, q4⟩ := MS _ (VM_d hM E6) (by rw [gi_si, if_pos ⟨rfl, rfl⟩])
      have E7 : eqo sD w w6 := eqo_tr E6 (eqo_one (a := 54) (b := 44) rfl q3 q4)
      have z7 : gi (si (si w6 78 5 (nI sv)) 78 6 0) 54 44 = zv := by rw [gi_si, if_neg (by omega), gi_si, if_neg (by omega)]; exact q2
      have M1 : f_X12_open (nI b) a2 w5 = some (nI b, si (si (si w6 78 5 (nI sv)) 78 6 0) 78 7 zv) := by
        unfold f_X12_open
        rw [M_isBag, bR_s, ite_b2i, if_pos h1, ldI_d (by decide), show ix 5 = 5 from rfl, F5 78 5 (by omega) (by omega), o2, if_pos (by decide), stI_d, q1, bW_s, saI_d (by decide), show ix 5 = 5 from rfl, saI_d (by decide), show ix 6 = 6 from rfl, saI_d (by decide), show ix 7 = 7 from rfl, z7]
      refine ⟨_, _, _, X1, M1, ?_, eqo_si (eqo_si (eqo_si E7 rfl) rfl) rfl⟩
      have H : ∀ c k, ¬ c = 78 → ¬ (c = 54 ∧ k = 44) → gi (si (si (si w6 78 5 (nI sv)) 78 6 0) 78 7 zv) c k = gi w5 c k := by
        intro c k n1 n2
        rw [gi_si, if_neg (by omega), gi_si, if_neg (by omega), gi_si, if_neg (by omega), q3 c k n2, gi_si, if_neg n2]
      have H5 : gi (si (si (si w6 78 5 (nI sv)) 78 6 0) 78 7 zv) 78 5 = nI (sv) := by rw [gi_si, if_neg (by omega), gi_si, if_neg (by omega), gi_si, if_pos ⟨rfl, rfl⟩]
      have H6 : gi (si (si (si w6 78 5 (nI sv)) 78 6 0) 78 7 zv) 78 6 = 0 := by rw [gi_si, if_neg (by omega), gi_si, if_pos ⟨rfl, rfl⟩]
      have H7 : gi (si (si (si w6 78 5 (nI sv)) 78 6 0) 78 7 zv) 78 7 = zv := by rw [gi_si, if_pos ⟨rfl, rfl⟩]
      have HH : ∀ k, k < 5 → gi (si (si (si w6 78 5 (nI sv)) 78 6 0) 78 7 zv) 78 k = gi w 78 k := by
        intro k hk
        rw [gi_si, if_neg (by omega), gi_si, if_neg (by omega), gi_si, if_neg (by omega), q3 78 k (by omega), gi_si, if_neg (by omega), F5 78 k (by omega) (by omega)]
      generalize si (si (si w6 78 5 (nI sv)) 78 6 0) 78 7 zv = w8 at H H5 H6 H7 HH
      refine ⟨⟨?_, ?_, ?_, ?_, ?_, Or.inr ⟨?_, sv, hsv, ?_, H5, ?_, ?_⟩⟩, ?_⟩
      · rw [H 37 4 (by omega) (by omega), GG 4 (by omega), HH 0 (by omega)]; exact d4
      · rw [H 37 5 (by omega) (by omega), GG 5 (by omega), HH 1 (by omega)]; exact d5
      · rw [H 37 6 (by omega) (by omega), GG 6 (by omega), HH 2 (by omega)]; exact d6
      · rw [H 37 7 (by omega) (by omega), GG 7 (by omega), HH 3 (by omega)]; exact d7
      · rw [H 37 8 (by omega) (by omega), GG 8 (by omega), HH 4 (by omega)]; exact d8
      · rw [H 37 0 (by omega) (by omega), G0]
      · rw [H 37 1 (by omega) (by omega), G1]
      · rw [H 37 3 (by omega) (by omega), G3, H6]
      · rw [H 37 2 (by omega) (by omega), G2, H7]
      · have k0 : ∀ c k, ¬ c = 78 → ¬ (c = 54 ∧ k = 44) → ¬ c = 36 → ¬ c = 37 → gi w8 c k = gi w c k := fun c k a b x y => by rw [H c k a b, F5 c k x y]
        rcases dI with ⟨i1, i2⟩ | ⟨i1, i2, i3⟩
        · exact Or.inl ⟨by rw [k0 0 11 (by omega) (by omega) (by omega) (by omega)]; exact i1, by rw [k0 54 47 (by omega) (by omega) (by omega) (by omega)]; exact i2⟩
        · exact Or.inr ⟨by rw [k0 0 11 (by omega) (by omega) (by omega) (by omega)]; exact i1, by rw [k0 54 47 (by omega) (by omega) (by omega) (by omega)]; exact i2, dR_cg i3 (fun k => k0 38 k (by omega) (by omega) (by omega) (by omega)) (fun k => k0 79 k (by omega) (by omega) (by omega) (by omega))⟩
    · have n1 : ¬ gi w 37 0 = 0 := by rw [o1]; decide
      have ts := nI_toInt (n := s) (by omega)
      refine ⟨-5, w, w, ?_, ?_, hD, eqo_rf w⟩
      · unfold f_X11_open
        rw [X_isBag, bR_s, ite_b2i, if_pos h1, if_neg n1]
      · unfold f_X12_open
        rw [M_isBag, bR_s, ite_b2i, if_pos h1, ldI_d (by decide), show ix 5 = 5 from rfl, o3, if_neg (by rw [fa_lt, ts, ti_0]; omega)]
  · refine ⟨-1, w, w, ?_, ?_, hD, eqo_rf w⟩
    · unfold f_X11_open
      rw [X_isBag, bR_s, ite_b2i, if_neg h1]
    · unfold f_X12_open
      rw [M_isBag, bR_s, ite_b2i, if_neg h1]
