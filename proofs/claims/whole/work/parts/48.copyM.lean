/-! THE LAW: what was read becomes the model's law -/
def sC1 (c k : Nat) : Bool := (c == 64 || c == 65) && decide (k < 130)
def sC2 (c k : Nat) : Bool := (c == 67 || c == 68) && decide (k < 61)
theorem M_c105 {Q : Nat} (hQ : Q ≤ 127) : ∀ (m n i : Nat) (w : Wd), m + i = Q → m < n → gi w 54 22 = nI Q → (∀ k, k < Q → i2b (gi w 64 (130 + k)) = gi w 64 (130 + k)) →
    ∃ w1, f_X12_readText_b105 n 0 (nI i) w = f_X12_readText_b177 fu 0 0 (si w1 66 0 (gi w1 66 1)) ∧ (∀ k, i ≤ k → k < Q → gi w1 64 k = gi w 64 (130 + k) ∧ gi w1 65 k = gi w 65 (130 + k)) ∧ (∀ k, k < i → gi w1 64 k = gi w 64 k ∧ gi w1 65 k = gi w 65 k) ∧ eqo sC1 w w1
  | m, 0, _, _, _, h, _, _ => absurd h (by omega)
  | 0, n + 1, i, w, hm, hn, hl, hb => by
    have x1 : ix 1 = 1 := rfl
    have x0 : ix 0 = 0 := rfl
    show ∃ w1, f_X12_readText_b105_y (f_X12_readText_b105 n) 0 (nI i) w = _ ∧ _
    unfold f_X12_readText_b105_y
    rw [hl, if_pos (show nI Q ≤ nI i by rw [nI_leI (by omega) (by omega)]; omega), ldI_d (by decide), saI_d (by decide), x1, x0]
    exact ⟨w, rfl, fun k h1 h2 => by omega, fun k _ => ⟨rfl, rfl⟩, eqo_rf w⟩
  | m + 1, n + 1, i, w, hm, hn, hl, hb => by
    have e1 : (130 : Int32) + nI i = nI (130 + i) := by rw [show (130 : Int32) = nI 130 from rfl, nI_add]
    have e2 : (130 : Int32) * 0 + nI i = nI i := by
      rw [show (130 : Int32) * 0 = nI 0 from rfl, nI_add, Nat.zero_add]
    have i1 : inb (nI (130 + i)) 260 := inb_nI (by omega) (by decide)
    have i2 : inb (nI i) 260 := inb_nI (by omega) (by decide)
    have e0 : f_X12_readText_b105 (n + 1) 0 (nI i) w = f_X12_readText_b105_y (f_X12_readText_b105 n) 0 (nI i) w := rfl
    have e3 : f_X12_readText_b105 (n + 1) 0 (nI i) w = f_X12_readText_b105 n 0 (nI (i + 1)) (si (si w 64 i (gi w 64 (130 + i))) 65 i (gi w 65 (130 + i))) := by
      rw [e0]
      unfold f_X12_readText_b105_y
      rw [hl, if_neg (show ¬ nI Q ≤ nI i by rw [nI_leI (by omega) (by omega)]; omega), e1, e2, ldI_d i1, saI_d i2, ldI_d i1, saI_d i2, ix_nI (by omega), ix_nI (by omega), hb i (by omega), gi_si, if_neg (by omega), nI_1]
    have g : ∀ x y, ¬ ((x = 64 ∨ x = 65) ∧ y = i) → gi (si (si w 64 i (gi w 64 (130 + i))) 65 i (gi w 65 (130 + i))) x y = gi w x y := by
      intro x y h
      rw [gi_si, if_neg (by omega), gi_si, if_neg (by omega)]
    have g64 : gi (si (si w 64 i (gi w 64 (130 + i))) 65 i (gi w 65 (130 + i))) 64 i = gi w 64 (130 + i) := by rw [gi_si, if_neg (by omega), gi_si, if_pos ⟨rfl, rfl⟩]
    have g65 : gi (si (si w 64 i (gi w 64 (130 + i))) 65 i (gi w 65 (130 + i))) 65 i = gi w 65 (130 + i) := by rw [gi_si, if_pos ⟨rfl, rfl⟩]
    obtain ⟨w1, k1, k2, k3, k4⟩ := M_c105 hQ m n (i + 1) (si (si w 64 i (gi w 64 (130 + i))) 65 i (gi w 65 (130 + i))) (by omega) (by omega) (by rw [g 54 22 (by omega)]; exact hl) (fun k hk => by rw [g 64 (130 + k) (by omega)]; exact hb k hk)
    refine ⟨w1, e3.trans k1, fun k h1 h2 => ?_, fun k h1 => ?_, ?_⟩
    · by_cases c : k = i
      · subst c
        rw [(k3 k (by omega)).1, (k3 k (by omega)).2, g64, g65]
        exact ⟨rfl, rfl⟩
      · rw [(k2 k (by omega) h2).1, (k2 k (by omega) h2).2, g 64 (130 + k) (by omega), g 65 (130 + k) (by omega)]
        exact ⟨rfl, rfl⟩
    · rw [(k3 k (by omega)).1, (k3 k (by omega)).2, g 64 k (by omega), g 65 k (by omega)]
      exact ⟨rfl, rfl⟩
    · exact eqo_tr (eqo_si (eqo_si (eqo_rf w) (by simp [sC1]; omega)) (by simp [sC1]; omega)) k4
theorem M_c177 {J : Nat} (hJ : J ≤ 61) : ∀ (m n i : Nat) (w : Wd), m + i = J → m < n → gi w 66 0 = nI J → (∀ k, k < J → i2s (gi w 67 (61 + k)) = gi w 67 (61 + k) ∧ i2s (gi w 68 (61 + k)) = gi w 68 (61 + k)) →
    ∃ w1, f_X12_readText_b177 n 0 (nI i) w = some (-1, w1) ∧ (∀ k, i ≤ k → k < J → gi w1 67 k = gi w 67 (61 + k) ∧ gi w1 68 k = gi w 68 (61 + k)) ∧ (∀ k, k < i → gi w1 67 k = gi w 67 k ∧ gi w1 68 k = gi w 68 k) ∧ eqo sC2 w w1
  | m, 0, _, _, _, h, _, _ => absurd h (by omega)
  | 0, n + 1, i, w, hm, hn, hl, hb => by
    have x0 : ix 0 = 0 := rfl
    show ∃ w1, f_X12_readText_b177_y (f_X12_readText_b177 n) 0 (nI i) w = _ ∧ _
    unfold f_X12_readText_b177_y
    rw [ldI_d (by decide), x0, hl, if_pos (show nI J ≤ nI i by rw [nI_leI (by omega) (by omega)]; omega)]
    exact ⟨w, rfl, fun k h1 h2 => by omega, fun k _ => ⟨rfl, rfl⟩, eqo_rf w⟩
  | m + 1, n + 1, i, w, hm, hn, hl, hb => by
    have x0 : ix 0 = 0 := rfl
    have e1 : (61 : Int32) + nI i = nI (61 + i) := by rw [show (61 : Int32) = nI 61 from rfl, nI_add]
    have e2 : (61 : Int32) * 0 + nI i = nI i := by
      rw [show (61 : Int32) * 0 = nI 0 from rfl, nI_add, Nat.zero_add]
    have i1 : inb (nI (61 + i)) 122 := inb_nI (by omega) (by decide)
    have i2 : inb (nI i) 122 := inb_nI (by omega) (by decide)
    have e0 : f_X12_readText_b177 (n + 1) 0 (nI i) w = f_X12_readText_b177_y (f_X12_readText_b177 n) 0 (nI i) w := rfl
    have e3 : f_X12_readText_b177 (n + 1) 0 (nI i) w = f_X12_readText_b177 n 0 (nI (i + 1)) (si (si w 67 i (gi w 67 (61 + i))) 68 i (gi w 68 (61 + i))) := by
      rw [e0]
      unfold f_X12_readText_b177_y
      rw [ldI_d (by decide), x0, hl, if_neg (show ¬ nI J ≤ nI i by rw [nI_leI (by omega) (by omega)]; omega), e1, e2, ldI_d i1, saI_d i2, ldI_d i1, saI_d i2, ix_nI (by omega), ix_nI (by omega), (hb i (by omega)).1, gi_si, if_neg (by omega), (hb i (by omega)).2, nI_1]
    have g : ∀ x y, ¬ ((x = 67 ∨ x = 68) ∧ y = i) → gi (si (si w 67 i (gi w 67 (61 + i))) 68 i (gi w 68 (61 + i))) x y = gi w x y := by
      intro x y h
      rw [gi_si, if_neg (by omega), gi_si, if_neg (by omega)]
    have g67 : gi (si (si w 67 i (gi w 67 (61 + i))) 68 i (gi w 68 (61 + i))) 67 i = gi w 67 (61 + i) := by rw [gi_si, if_neg (by omega), gi_si, if_pos ⟨rfl, rfl⟩]
    have g68 : gi (si (si w 67 i (gi w 67 (61 + i))) 68 i (gi w 68 (61 + i))) 68 i = gi w 68 (61 + i) := by rw [gi_si, if_pos ⟨rfl, rfl⟩]
    obtain ⟨w1, k1, k2, k3, k4⟩ := M_c177 hJ m n (i + 1) (si (si w 67 i (gi w 67 (61 + i))) 68 i (gi w 68 (61 + i))) (by omega) (by omega) (by rw [g 66 0 (by omega)]; exact hl) (fun k hk => by rw [g 67 (61 + k) (by omega), g 68 (61 + k) (by omega)]; exact hb k hk)
    refine ⟨w1, e3.trans k1, fun k h1 h2 => ?_, fun k h1 => ?_, ?_⟩
    · by_cases c : k = i
      · subst c
        rw [(k3 k (by omega)).1, (k3 k (by omega)).2, g67, g68]
        exact ⟨rfl, rfl⟩
      · rw [(k2 k (by omega) h2).1, (k2 k (by omega) h2).2, g 67 (61 + k) (by omega), g 68 (61 + k) (by omega)]
        exact ⟨rfl, rfl⟩
    · rw [(k3 k (by omega)).1, (k3 k (by omega)).2, g 67 k (by omega), g 68 k (by omega)]
      exact ⟨rfl, rfl⟩
    · exact eqo_tr (eqo_si (eqo_si (eqo_rf w) (by simp [sC2]; omega)) (by simp [sC2]; omega)) k4
