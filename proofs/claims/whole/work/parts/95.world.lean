/-! THE FIRST WORLD -/
def li (l : List Int32) (j : Nat) : Int32 := l.getD j 0
def w0I : List (Nat → Int32) := [li [0, 0, 0, 0, 0, 0, 0, 0, 0, 0, 0, 0, 0], li [0, 0, 0, 0, 0, 0, 0], upl [(36, 4), (35, 100), (34, 1), (33, 5), (19, 10), (18, 1), (17, 1), (16, 1), (15, 1), (14, 10), (13, 1), (12, 1), (11, 1), (10, 1), (9, 10), (8, 1), (7, 1), (6, 1), (5, 1), (4, 10), (3, 1), (2, 1), (1, 1), (0, 1)], upl [], upl [], upl [], li [0, 0, 0, 0, 0, 0, 0, 0, 0, 0], upl [], upl [], upl [], upl [], upl [], upl [], li [0, 0, 0], upl [], upl [], li [0], upl [], li [0, 0, 0, 0, 0, (-2)], li [0], upl [], upl [], upl [], li [0, 0, 0, 0, 0, 0, 0, 0, 0, 0], li [0], upl [], upl [], upl [], upl [], upl [], upl [], li [0, 0, 0, 0, 0, 0], upl [], upl [], upl [], upl [], li [0], li [0, 0, 0, 0, 0, 0, 0, 0, 0], li [0, 0, 0, 0, 0, 0, 0, 0, 0], li [0, 0, 0, 0, 0], upl [], upl [], li [0, (-1), 0, 0, 0], upl [], li [0, (-1), 0, 0, 0], upl [], li [0, (-1), 0, 0, 0], upl [], li [0, (-1), 0, 0, 0], upl [], li [0, (-1), 0, 0, 0], upl [], li [0, (-1), 0, 0, 0], upl [], li [0, 0, 0, 0, 0, 0, 0, 5, 1, 100, 4, 0, 0, 0, 0, 0, 0, 0, 0, 0, 0, 0, 0, 0, 0, 0, 0, 0, 0, 0, 0, 0, 0, 0, 0, 0, 0, 0, 0, 0, 0, 0, 0, 0, 0, 0, 0, 0, 0, 0, 0, 0, 0, 0, 0, 0], upl [(15, 1), (14, 1), (13, 1), (12, 1), (11, 1), (10, 1), (9, 1), (8, 1), (7, 1), (6, 1), (5, 1), (4, 1), (3, 1), (2, 1), (1, 1), (0, 1)], upl [(3, 10), (2, 10), (1, 10), (0, 10)], upl [], upl [], upl [], upl [], upl [], upl [], upl [], upl [], upl [], upl [], upl [], upl [], upl [], upl [], upl [], upl [], upl [], upl [], upl [], upl [], upl [], upl [(7, 0), (6, 0), (5, (-1)), (4, 0), (3, 0), (2, 0), (1, 0), (0, 0)], upl [], upl [], upl [], upl [(5, (-1)), (4, (-1)), (3, (-1)), (2, (-1)), (1, (-1)), (0, (-1))], upl [], upl [], upl []]
def w0 : Wd := (fun c => w0I.getD c (fun _ => 0), fun _ _ => 0)
abbrev XX (l : Launch) (dC : Nat → ClassId) (dI : Nat → Nat → Nat) (B : Nat) (sa : Nat → Nat) (cs : Nat → ClassId) : Xt := (l, dC, dI, fun k => if k < 86 then B + k else sa k, cs)
abbrev FF (X : Xt) (h : Nat) : List va_E := [oX11 h, oX6 (h + 1), arJ X 37 [(36, 4), (35, 100), (34, 1), (33, 5), (19, 10), (18, 1), (17, 1), (16, 1), (15, 1), (14, 10), (13, 1), (12, 1), (11, 1), (10, 1), (9, 10), (8, 1), (7, 1), (6, 1), (5, 1), (4, 10), (3, 1), (2, 1), (1, 1), (0, 1)], arI X 40, arI X 40, arI X 40, oX4 (h + 6), arI X 120, arI X 128, arI X 128, arI X 6, arI X 64, arR X 6 (va_up (va_up (va_up (va_up (va_up (va_up (fun _ => none) 0 (some (h + 42))) 1 (some (h + 44))) 2 (some (h + 46))) 3 (some (h + 48))) 4 (some (h + 50))) 5 (some (h + 52))), oX5 (h + 13), arI X 4, arI X 4, oX1 (h + 16), arL X 20, oX8 (h + 18), oX1 (h + 19), arL X 20, arI X 24, arI X 6, oX10 (h + 23), oX1 (h + 24), arL X 20, arI X 24, arI X 4, arI X 4, arI X 4, arI X 4, oX7 (h + 31), arI X 123, arI X 3, arI X 3, arI X 3, oX3 (h + 36), oX2 (h + 37), oX2 (h + 38), oX0 (h + 39), arI X 50, arI X 24, oX9 (h + 42), arL X 60, oX9 (h + 44), arL X 60, oX9 (h + 46), arL X 60, oX9 (h + 48), arL X 60, oX9 (h + 50), arL X 60, oX9 (h + 52), arL X 60, oX12 (h + 54), arJ X 16 [(15, 1), (14, 1), (13, 1), (12, 1), (11, 1), (10, 1), (9, 1), (8, 1), (7, 1), (6, 1), (5, 1), (4, 1), (3, 1), (2, 1), (1, 1), (0, 1)], arJ X 4 [(3, 10), (2, 10), (1, 10), (0, 10)], arI X 6, arI X 6, arI X 40, arI X 40, arI X 40, arI X 40, arB X 120, arB X 260, arI X 260, arI X 2, arH X 122, arH X 122, arI X 6, arI X 130, arL X 32, arL X 6, arI X 123, arI X 4, arI X 4, arI X 4, arI X 4, arJ X 8 [(7, 0), (6, 0), (5, (-1)), (4, 0), (3, 0), (2, 0), (1, 0), (0, 0)], arI X 8, arI X 50, arI X 24, arJ X 6 [(5, (-1)), (4, (-1)), (3, (-1)), (2, (-1)), (1, (-1)), (0, (-1))], arI X 6, arL X 360, arL X 60]
set_option maxRecDepth 20000 in
theorem w0_k (l : Launch) (dC : Nat → ClassId) (dI : Nat → Nat → Nat) (B : Nat) (sa : Nat → Nat) (cs : Nat → ClassId) : ∀ k, k < 86 → k ≠ 12 → (FF (XX l dC dI B sa cs) B)[k]? = some (ent (XX l dC dI B sa cs) w0 k)
  | 0, _, _ => rfl
  | 1, _, _ => rfl
  | 2, _, _ => rfl
  | 3, _, _ => rfl
  | 4, _, _ => rfl
  | 5, _, _ => rfl
  | 6, _, _ => rfl
  | 7, _, _ => rfl
  | 8, _, _ => rfl
  | 9, _, _ => rfl
  | 10, _, _ => rfl
  | 11, _, _ => rfl
  | 12, _, h => absurd rfl h
  | 13, _, _ => rfl
  | 14, _, _ => rfl
  | 15, _, _ => rfl
  | 16, _, _ => rfl
  | 17, _, _ => rfl
  | 18, _, _ => rfl
  | 19, _, _ => rfl
  | 20, _, _ => rfl
  | 21, _, _ => rfl
  | 22, _, _ => rfl
  | 23, _, _ => rfl
  | 24, _, _ => rfl
  | 25, _, _ => rfl
  | 26, _, _ => rfl
  | 27, _, _ => rfl
  | 28, _, _ => rfl
  | 29, _, _ => rfl
  | 30, _, _ => rfl
  | 31, _, _ => rfl
  | 32, _, _ => rfl
  | 33, _, _ => rfl
  | 34, _, _ => rfl
  | 35, _, _ => rfl
  | 36, _, _ => rfl
  | 37, _, _ => rfl
  | 38, _, _ => rfl
  | 39, _, _ => rfl
  | 40, _, _ => rfl
  | 41, _, _ => rfl
  | 42, _, _ => rfl
  | 43, _, _ => rfl
  | 44, _, _ => rfl
  | 45, _, _ => rfl
  | 46, _, _ => rfl
  | 47, _, _ => rfl
  | 48, _, _ => rfl
  | 49, _, _ => rfl
  | 50, _, _ => rfl
  | 51, _, _ => rfl
  | 52, _, _ => rfl
  | 53, _, _ => rfl
  | 54, _, _ => rfl
  | 55, _, _ => rfl
  | 56, _, _ => rfl
  | 57, _, _ => rfl
  | 58, _, _ => rfl
  | 59, _, _ => rfl
  | 60, _, _ => rfl
  | 61, _, _ => rfl
  | 62, _, _ => rfl
  | 63, _, _ => rfl
  | 64, _, _ => rfl
  | 65, _, _ => rfl
  | 66, _, _ => rfl
  | 67, _, _ => rfl
  | 68, _, _ => rfl
  | 69, _, _ => rfl
  | 70, _, _ => rfl
  | 71, _, _ => rfl
  | 72, _, _ => rfl
  | 73, _, _ => rfl
  | 74, _, _ => rfl
  | 75, _, _ => rfl
  | 76, _, _ => rfl
  | 77, _, _ => rfl
  | 78, _, _ => rfl
  | 79, _, _ => rfl
  | 80, _, _ => rfl
  | 81, _, _ => rfl
  | 82, _, _ => rfl
  | 83, _, _ => rfl
  | 84, _, _ => rfl
  | 85, _, _ => rfl
  | n + 86, h, _ => absurd h (by omega)
theorem w0_12 (l : Launch) (dC : Nat → ClassId) (dI : Nat → Nat → Nat) (B : Nat) (sa : Nat → Nat) (cs : Nat → ClassId) {H : Heap} (h : va_P (xD (XX l dC dI B sa cs)) vwCl (wz B (FF (XX l dC dI B sa cs) B)) H) : va_at (xD (XX l dC dI B sa cs)) vwCl (B + 12, ent (XX l dC dI B sa cs) w0 12) H := by
  have h1 := h 12 _ (wz_at (k := 12) rfl)
  have h2 : H[B + 12]? = some (vp_cell (cs 4) (6, .inr (.inr (.inr (.inr (va_up (va_up (va_up (va_up (va_up (va_up (fun _ => none) 0 (some (B + 42))) 1 (some (B + 44))) 2 (some (B + 46))) 3 (some (B + 48))) 4 (some (B + 50))) 5 (some (B + 52)))))))) := h1
  show H[B + 12]? = some (vp_cell (cs 4) (6, .inr (.inr (.inr (.inr (fun i => some (xa (XX l dC dI B sa cs) (42 + 2 * i))))))))
  rw [h2, vp_cell_q, vp_cell_q]
  congr 1
theorem w0_P (l : Launch) (dC : Nat → ClassId) (dI : Nat → Nat → Nat) (B : Nat) (sa : Nat → Nat) (cs : Nat → ClassId) {H : Heap} (h : va_P (xD (XX l dC dI B sa cs)) vwCl (wz B (FF (XX l dC dI B sa cs) B)) H) : va_P (xD (XX l dC dI B sa cs)) vwCl (cells (XX l dC dI B sa cs) w0) H := by
  intro k q hq
  have hk : k < NC := by
    have := (List.getElem?_eq_some_iff.mp hq).1
    rw [cells_len] at this
    exact this
  rw [cells_get hk] at hq
  cases hq
  have hx : xa (XX l dC dI B sa cs) k = B + k := if_pos hk
  rw [hx]
  by_cases h12 : k = 12
  · subst h12
    exact w0_12 l dC dI B sa cs h
  · exact h k _ (wz_at (w0_k l dC dI B sa cs k hk h12))
theorem w0_ok (l : Launch) (dC : Nat → ClassId) (dI : Nat → Nat → Nat) (B : Nat) (sa : Nat → Nat) (cs : Nat → ClassId) : Xok (XX l dC dI B sa cs) := by
  intro i j hi hj h
  rw [show xa (XX l dC dI B sa cs) i = B + i from if_pos hi, show xa (XX l dC dI B sa cs) j = B + j from if_pos hj] at h
  omega
theorem w0_q : ∀ q, q < 12 → ∀ r, r < 6 → (q ≤ 4 ∧ 4 ≤ r) ∨ (7 ≤ q ∧ ¬ r = 0) ∨ (gi w0 2 (slt q r) = gi w0 (mc q) (mi q r) ∧ qlo q ≤ (gi w0 2 (slt q r)).toInt ∧ (gi w0 2 (slt q r)).toInt ≤ qhi q) := by decide +kernel
theorem w0_s : ∀ s, s < 6 → gi w0 (42 + 2 * s) 0 = 0 ∧ gi w0 82 s = -1 := by decide +kernel
theorem w0_p : ∀ j, j < 3 → gi w0 33 j = 0 ∧ gi w0 32 (41 * j) = 0 := by decide +kernel
theorem Rel_w0 : Rel w0 := by
  refine ⟨0, 0, 0, 0, fun _ => 0, 0, none, ⟨by omega, by decide +kernel, by decide +kernel, by omega, by decide +kernel, by decide +kernel, by decide +kernel, by decide +kernel, ?_, ?_⟩, ⟨by omega, fun s hs => Or.inl (w0_s s hs)⟩, ⟨by omega, by decide +kernel, by decide +kernel, ?_, 0, by omega, by decide +kernel, by decide +kernel, ?_⟩, ⟨⟨by omega, by decide +kernel, ?_⟩, ⟨by omega, by decide +kernel, ?_⟩, ?_, ?_, ?_⟩, ⟨⟨by decide +kernel, by decide +kernel, by decide +kernel, by decide +kernel, by decide +kernel, Or.inl ⟨by decide +kernel, by decide +kernel⟩⟩, Or.inl ⟨by decide +kernel, by decide +kernel⟩⟩, fun j hj _ => w0_p j hj⟩
  · intro q r h
    obtain ⟨h1, h2, h3, h4⟩ := h
    rcases w0_q q (by omega) r (by omega) with g | g | g
    · omega
    · omega
    · exact g
  · intro i hi; omega
  · intro i hi; omega
  · intro i hi; omega
  · intro i hi; omega
  · intro i hi; omega
  · show gi w0 6 6 = 0
    decide +kernel
  · show gi w0 54 30 = 0
    decide +kernel
  · intro ls h; cases h
