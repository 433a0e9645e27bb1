/-! WHO LOOKED: the rows, in whole numbers -/
abbrev WS : Type := Nat × (Nat → Nat) × Nat × (Nat → Nat)
abbrev WS.rows (W : WS) : Nat := W.1
abbrev WS.sn (W : WS) : Nat → Nat := W.2.1
abbrev WS.gr (W : WS) : Nat := W.2.2.1
abbrev WS.bs (W : WS) : Nat → Nat := W.2.2.2
def lup (lk : Nat → Nat) (d v : Nat) : Nat → Nat := fun i => if i = d then v else lk i
def wnote (t : Nat) (lk : Nat → Nat) (s : Nat) (W : WS) : WS := ⟨W.rows + 1, fun i => if i < t then W.sn i ||| 2 ^ (lk i) else W.sn i, if W.gr < s then s else W.gr, if W.gr < s then (fun i => if i < t then lk i else W.bs i) else W.bs⟩
def wlp (A : Ab) (d f : Nat) (p : Nat → Nat) (R : (Nat → Nat) → (Nat → Nat) → WS → WS) : Nat → Nat → (Nat → Nat) → WS → WS
  | 0, _, _, W => W
  | k + 1, who, lk, W => wlp A d f p R k (who + 1) (lup lk d who) (if sumN (stepN p (shp A who d) f) = 0 then W else R (lup lk d who) (stepN p (shp A who d) f) W)
def wgo (A : Ab) (t : Nat) (fs : Nat → Nat) : Nat → Nat → (Nat → Nat) → (Nat → Nat) → WS → WS
  | 0, _, lk, p, W => wnote t lk (sumN p) W
  | f + 1, d, lk, p, W => wlp A d (fs d) p (wgo A t fs f (d + 1)) A.L 0 lk W
/-- what holds of the state: seen is 0 just before the first row; what is greatest is above 0 with it -/
def wok (t : Nat) (W : WS) : Prop := (∀ i, i < t → W.sn i < 64 ∧ (W.rows = 0 → W.sn i = 0) ∧ (0 < W.rows → 0 < W.sn i)) ∧ (0 < W.rows → 0 < W.gr) ∧ W.gr < 2 ^ 63 ∧ (∀ i, i < t → W.bs i < 6)
def lok (d : Nat) (lk : Nat → Nat) : Prop := ∀ i, i < d → lk i < 6
theorem or64 : ∀ s, s < 64 → ∀ l, l < 6 → s ||| 2 ^ l < 64 ∧ 0 < s ||| 2 ^ l ∧ nI s ||| ishl 1 (nI l) = nI (s ||| 2 ^ l) ∧ nI s &&& ishl 1 (nI l) = nI (s &&& 2 ^ l) := by decide +kernel
theorem wnote_ok {t s : Nat} {lk : Nat → Nat} {W : WS} (h : wok t W) (hl : lok t lk) (hs : 0 < s) (hs2 : s < 2 ^ 63) : wok t (wnote t lk s W) := by
  obtain ⟨h1, h2, h3, h4⟩ := h
  refine ⟨fun i hi => ?_, fun _ => ?_, ?_, fun i hi => ?_⟩
  · have o := or64 _ (h1 i hi).1 _ (hl i hi)
    show (if i < t then W.sn i ||| 2 ^ (lk i) else W.sn i) < 64 ∧ (W.rows + 1 = 0 → _) ∧ (0 < W.rows + 1 → 0 < (if i < t then W.sn i ||| 2 ^ (lk i) else W.sn i))
    rw [if_pos hi]
    exact ⟨o.1, fun z => absurd z (by omega), fun _ => o.2.1⟩
  · show 0 < if W.gr < s then s else W.gr
    split <;> omega
  · show (if W.gr < s then s else W.gr) < 2 ^ 63
    split <;> omega
  · show (if W.gr < s then (fun i => if i < t then lk i else W.bs i) else W.bs) i < 6
    by_cases c : W.gr < s
    · rw [if_pos c]
      show (if i < t then lk i else W.bs i) < 6
      rw [if_pos hi]; exact hl i hi
    · rw [if_neg c]; exact h4 i hi
theorem lok_upd {d who : Nat} {lk : Nat → Nat} (h : lok d lk) (hw : who < 6) : lok (d + 1) (lup lk d who) := by
  intro i hi
  unfold lup
  by_cases c : i = d
  · rw [if_pos c]; exact hw
  · rw [if_neg c]; exact h i (by omega)
theorem lok_upd' {d who : Nat} {lk : Nat → Nat} (h : lok d lk) : lok d (lup lk d who) := by
  intro i hi
  unfold lup
  rw [if_neg (by omega)]; exact h i hi
theorem pB_sum {d : Nat} {p : Nat → Nat} (h : pB d p) (hd : d ≤ 4) : sumN p ≤ 36 * 8916100448256 := by
  have h1 := (pB_b h).1
  have h2 := pw4 hd
  have h3 : 36 * 1728 ^ d ≤ 36 * 8916100448256 := Nat.mul_le_mul_left 36 h2
  omega
theorem wgo_ok {A : Ab} (hA : Aok A) {t : Nat} {fs : Nat → Nat} (ht : t ≤ 4) : ∀ (f d : Nat) (lk p : Nat → Nat) (W : WS), d + f = t → wok t W → lok d lk → pB d p → 0 < sumN p → wok t (wgo A t fs f d lk p W) ∧ (wgo A t fs f d lk p W).rows ≤ W.rows + 6 ^ f
  | 0, d, lk, p, W, hd, hW, hl, hB, hs => by
    have hdt : d = t := hd
    subst hdt
    have := pB_sum hB ht
    exact ⟨wnote_ok hW hl hs (by omega), Nat.le_refl _⟩
  | f + 1, d, lk, p, W, hd, hW, hl, hB, hs => by
    have h6 := hA.1
    have key : ∀ (k who : Nat) (lk : Nat → Nat) (W : WS), who + k = A.L → wok t W → lok d lk → wok t (wlp A d (fs d) p (wgo A t fs f (d + 1)) k who lk W) ∧ (wlp A d (fs d) p (wgo A t fs f (d + 1)) k who lk W).rows ≤ W.rows + k * 6 ^ f := by
      intro k
      induction k with
      | zero =>
        intro who lk W _ hW _
        exact ⟨hW, by show W.rows ≤ _; omega⟩
      | succ k IH =>
        intro who lk W hk hW hl
        unfold wlp
        by_cases c : sumN (stepN p (shp A who d) (fs d)) = 0
        · rw [if_pos c]
          obtain ⟨a, b⟩ := IH (who + 1) (lup lk d who) W (by omega) hW (lok_upd' hl)
          refine ⟨a, Nat.le_trans b ?_⟩
          rw [Nat.add_mul]
          omega
        · rw [if_neg c]
          obtain ⟨x, y⟩ := wgo_ok hA (fs := fs) ht f (d + 1) (lup lk d who) (stepN p (shp A who d) (fs d)) W (by omega) hW (lok_upd hl (by omega)) (pB_step hB (shp_le A who d)) (by omega)
          obtain ⟨a, b⟩ := IH (who + 1) (lup lk d who) _ (by omega) x (lok_upd' hl)
          refine ⟨a, Nat.le_trans b ?_⟩
          rw [Nat.add_mul]
          omega
    obtain ⟨a, b⟩ := key A.L 0 lk W (by omega) hW hl
    refine ⟨a, Nat.le_trans b ?_⟩
    rw [Nat.pow_succ, Nat.mul_comm (6 ^ f)]
    have := Nat.mul_le_mul_right (6 ^ f) h6
    omega
/-- what the model keeps instead of what was seen -/
abbrev isP (s : Nat) : Prop := s = 1 ∨ s = 2 ∨ s = 4 ∨ s = 8 ∨ s = 16 ∨ s = 32
def alv (L r s : Nat) : Nat := if r = 0 then 2 ^ L - 1 else if isP s then s else 0
theorem alv_1 : ∀ L, L < 7 → ∀ l, l < L → (2 ^ L - 1) &&& 2 ^ l = (if isP (0 ||| 2 ^ l) then 0 ||| 2 ^ l else 0) := by decide +kernel
theorem alv_2 : ∀ s, s < 64 → 0 < s → ∀ l, l < 6 → (if isP s then s else 0) &&& 2 ^ l = (if isP (s ||| 2 ^ l) then s ||| 2 ^ l else 0) := by decide +kernel
theorem alv_st {L r s l : Nat} (hL : L ≤ 6) (hl : l < L) (hs : s < 64) (h0 : r = 0 → s = 0) (h1 : 0 < r → 0 < s) : alv L r s &&& 2 ^ l = alv L (r + 1) (s ||| 2 ^ l) := by
  unfold alv
  rw [if_neg (show ¬ r + 1 = 0 by omega)]
  by_cases c : r = 0
  · rw [if_pos c, h0 c]
    exact alv_1 L (by omega) l hl
  · rw [if_neg c]
    exact alv_2 s hs (h1 (by omega)) l (by omega)
theorem alv_lt {L r s : Nat} (hL : L ≤ 6) (hs : s < 64) : alv L r s < 64 := by
  unfold alv
  by_cases c : r = 0
  · rw [if_pos c]
    have := Nat.pow_le_pow_right (n := 2) (by omega) hL
    have e : 2 ^ 6 = 64 := by decide
    omega
  · rw [if_neg c]
    split <;> omega
theorem bits_1 : ∀ s, s < 64 → (isP s → f_J6_bitCount_0f7a4 (nI s) = some 1) ∧ (¬ isP s → ¬ f_J6_bitCount_0f7a4 (nI s) = some 1) := by decide +kernel
theorem bits_s (x : Int32) : ∃ r, f_J6_bitCount_0f7a4 x = some r := ⟨_, rfl⟩
theorem mask_L : ∀ L, L < 7 → ishl 1 (nI L) - 1 = nI (2 ^ L - 1) := by decide +kernel
