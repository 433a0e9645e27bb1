/-! PURE BASE: worlds, guards, small numbers -/
theorem gi_si (w : Wd) (c k : Nat) (v : Int32) (a b : Nat) : gi (si w c k v) a b = if a = c ∧ b = k then v else gi w a b := rfl
theorem gl_sl (w : Wd) (c k : Nat) (v : Int64) (a b : Nat) : gl (sl w c k v) a b = if a = c ∧ b = k then v else gl w a b := rfl
theorem gl_si (w : Wd) (c k : Nat) (v : Int32) (a b : Nat) : gl (si w c k v) a b = gl w a b := rfl
theorem gi_sl (w : Wd) (c k : Nat) (v : Int64) (a b : Nat) : gi (sl w c k v) a b = gi w a b := rfl
theorem gi_cpI (w : Wd) (cs cd sp dp n a b : Nat) : gi (cpI w cs cd sp dp n) a b = if a = cd ∧ dp ≤ b ∧ b < dp + n then gi w cs (sp + (b - dp)) else gi w a b := by
  unfold gi cpI va_cpy
  by_cases h : a = cd
  · subst h
    by_cases h2 : dp ≤ b ∧ b < dp + n
    · simp [h2]
    · simp [h2]
  · simp [h]
theorem gl_cpI (w : Wd) (cs cd sp dp n a b : Nat) : gl (cpI w cs cd sp dp n) a b = gl w a b := rfl
theorem gi_cpL (w : Wd) (cs cd sp dp n a b : Nat) : gi (cpL w cs cd sp dp n) a b = gi w a b := rfl
theorem gl_cpL (w : Wd) (cs cd sp dp n a b : Nat) : gl (cpL w cs cd sp dp n) a b = if a = cd ∧ dp ≤ b ∧ b < dp + n then gl w cs (sp + (b - dp)) else gl w a b := by
  unfold gl cpL va_cpy
  by_cases h : a = cd
  · subst h
    by_cases h2 : dp ≤ b ∧ b < dp + n
    · simp [h2]
    · simp [h2]
  · simp [h]
theorem wd_ext {w w' : Wd} (h1 : ∀ c k, gi w c k = gi w' c k) (h2 : ∀ c k, gl w c k = gl w' c k) : w = w' := by
  obtain ⟨a, b⟩ := w
  obtain ⟨a', b'⟩ := w'
  have e1 : a = a' := funext fun c => funext fun k => h1 c k
  have e2 : b = b' := funext fun c => funext fun k => h2 c k
  rw [e1, e2]
section PB
variable {σ : Type}
theorem bR_s {α : Type} (a : α) (k : α → Option σ) : bR (some a) k = k a := rfl
theorem bW_s {α : Type} (a : α) (w : Wd) (k : α → Wd → Option σ) : bW (some (a, w)) k = k a w := rfl
theorem bV_s (w : Wd) (k : Wd → Option σ) : bV (some w) k = k w := rfl
theorem lt_d {α β : Type} (a : α) (k : α → β) : lt a k = k a := rfl
theorem stI_d (w : Wd) (c j : Nat) (v : Int32) (k : Wd → Option σ) : stI w c j v k = k (si w c j v) := rfl
theorem stL_d (w : Wd) (c j : Nat) (v : Int64) (k : Wd → Option σ) : stL w c j v k = k (sl w c j v) := rfl
theorem stZ_d {w : Wd} {c j : Nat} {v : Int32} {k : Wd → Option σ} (h : v = 0 ∨ v = 1) : stZ w c j v k = k (si w c j v) := if_pos h
theorem ldI_d {w : Wd} {c n : Nat} {i : Int32} {k : Int32 → Option σ} (h : inb i n) : ldI w c n i k = k (gi w c (ix i)) := if_pos h
theorem ldL_d {w : Wd} {c n : Nat} {i : Int32} {k : Int64 → Option σ} (h : inb i n) : ldL w c n i k = k (gl w c (ix i)) := if_pos h
theorem saI_d {w : Wd} {c n : Nat} {i v : Int32} {k : Wd → Option σ} (h : inb i n) : saI w c n i v k = k (si w c (ix i) v) := if_pos h
theorem saL_d {w : Wd} {c n : Nat} {i : Int32} {v : Int64} {k : Wd → Option σ} (h : inb i n) : saL w c n i v k = k (sl w c (ix i) v) := if_pos h
theorem ltI_d {t : Nat → Int32} {n : Nat} {i : Int32} {k : Int32 → Option σ} (h : inb i n) : ltI t n i k = k (t (ix i)) := if_pos h
theorem ltL_d {t : Nat → Int64} {n : Nat} {i : Int32} {k : Int64 → Option σ} (h : inb i n) : ltL t n i k = k (t (ix i)) := if_pos h
theorem ldR_d {i : Int32} {k : Nat → Option σ} (h : inb i 6) : ldR i k = k (42 + 2 * ix i) := if_pos h
theorem dvI_d {x y : Int32} {k : Int32 → Option σ} (h : ¬ y = 0) : dvI x y k = k (x / y) := if_neg h
theorem rmI_d {x y : Int32} {k : Int32 → Option σ} (h : ¬ y = 0) : rmI x y k = k (ire x y) := if_neg h
theorem dvL_d {x y : Int64} {k : Int64 → Option σ} (h : ¬ y = 0) : dvL x y k = k (x / y) := if_neg h
theorem rmL_d {x y : Int64} {k : Int64 → Option σ} (h : ¬ y = 0) : rmL x y k = k (lre x y) := if_neg h
theorem zb_d {v : Int32} {k : Option σ} (h : v = 0 ∨ v = 1) : zb v k = k := if_pos h
theorem cyI_d {w : Wd} {cs n0 cd n1 : Nat} {sp dp n : Int32} {k : Wd → Option σ} (h : cyok n0 n1 sp dp n) : cyI w cs n0 cd n1 sp dp n k = k (cpI w cs cd (ix sp) (ix dp) (ix n)) := if_pos h
theorem cyL_d {w : Wd} {cs n0 cd n1 : Nat} {sp dp n : Int32} {k : Wd → Option σ} (h : cyok n0 n1 sp dp n) : cyL w cs n0 cd n1 sp dp n k = k (cpL w cs cd (ix sp) (ix dp) (ix n)) := if_pos h
end PB
theorem ix_nI {n : Nat} (h : n < 2 ^ 31) : ix (nI n) = n := nI_clamp h
theorem inb_nI {n N : Nat} (h : n < N) (hN : N < 2 ^ 31) : inb (nI n) N := by
  have := nI_toInt (n := n) (by omega)
  exact ⟨by omega, by omega⟩
theorem of_inb {i : Int32} {N : Nat} (h : inb i N) : ∃ n, n < N ∧ i = nI n := by
  obtain ⟨h1, h2⟩ := h
  refine ⟨i.toInt.toNat, by omega, ?_⟩
  apply Int32.toInt_inj.mp
  have hr := i.toInt_lt
  rw [nI_toInt (by omega)]
  omega
def b2i (p : Prop) [Decidable p] : Int32 := if p then 1 else 0
theorem b2i_0 {p : Prop} [Decidable p] : b2i p = 0 ↔ ¬ p := by
  unfold b2i
  by_cases h : p
  · simp [h]
  · simp [h]
theorem b2i_t {p : Prop} [Decidable p] (h : p) : b2i p = 1 := if_pos h
theorem b2i_f {p : Prop} [Decidable p] (h : ¬ p) : b2i p = 0 := if_neg h
theorem b2i_01 {p : Prop} [Decidable p] : b2i p = 0 ∨ b2i p = 1 := by
  unfold b2i
  by_cases h : p
  · simp [h]
  · simp [h]
theorem ti_m14 : (-14 : Int32).toInt = -14 := by decide
theorem ti_m13 : (-13 : Int32).toInt = -13 := by decide
theorem ti_m12 : (-12 : Int32).toInt = -12 := by decide
theorem ti_m11 : (-11 : Int32).toInt = -11 := by decide
theorem ti_m10 : (-10 : Int32).toInt = -10 := by decide
theorem ti_m9 : (-9 : Int32).toInt = -9 := by decide
theorem ti_m8 : (-8 : Int32).toInt = -8 := by decide
theorem ti_m7 : (-7 : Int32).toInt = -7 := by decide
theorem ti_m6 : (-6 : Int32).toInt = -6 := by decide
theorem ti_m5 : (-5 : Int32).toInt = -5 := by decide
theorem ti_m4 : (-4 : Int32).toInt = -4 := by decide
theorem ti_m3 : (-3 : Int32).toInt = -3 := by decide
theorem ti_m2 : (-2 : Int32).toInt = -2 := by decide
theorem ti_m1 : (-1 : Int32).toInt = -1 := by decide
theorem ti_0 : (0 : Int32).toInt = 0 := by decide
theorem ti_1 : (1 : Int32).toInt = 1 := by decide
theorem ti_2 : (2 : Int32).toInt = 2 := by decide
theorem ti_3 : (3 : Int32).toInt = 3 := by decide
theorem ti_4 : (4 : Int32).toInt = 4 := by decide
theorem ti_5 : (5 : Int32).toInt = 5 := by decide
theorem ti_6 : (6 : Int32).toInt = 6 := by decide
theorem ti_7 : (7 : Int32).toInt = 7 := by decide
theorem ti_8 : (8 : Int32).toInt = 8 := by decide
theorem ti_9 : (9 : Int32).toInt = 9 := by decide
theorem ti_10 : (10 : Int32).toInt = 10 := by decide
theorem ti_11 : (11 : Int32).toInt = 11 := by decide
theorem ti_12 : (12 : Int32).toInt = 12 := by decide
theorem ti_13 : (13 : Int32).toInt = 13 := by decide
theorem ti_14 : (14 : Int32).toInt = 14 := by decide
theorem ti_15 : (15 : Int32).toInt = 15 := by decide
theorem ti_16 : (16 : Int32).toInt = 16 := by decide
theorem ti_17 : (17 : Int32).toInt = 17 := by decide
theorem ti_18 : (18 : Int32).toInt = 18 := by decide
theorem ti_19 : (19 : Int32).toInt = 19 := by decide
theorem ti_20 : (20 : Int32).toInt = 20 := by decide
theorem ti_21 : (21 : Int32).toInt = 21 := by decide
theorem ti_22 : (22 : Int32).toInt = 22 := by decide
theorem ti_23 : (23 : Int32).toInt = 23 := by decide
theorem ti_24 : (24 : Int32).toInt = 24 := by decide
theorem ti_25 : (25 : Int32).toInt = 25 := by decide
theorem ti_26 : (26 : Int32).toInt = 26 := by decide
theorem ti_27 : (27 : Int32).toInt = 27 := by decide
theorem ti_28 : (28 : Int32).toInt = 28 := by decide
theorem ti_29 : (29 : Int32).toInt = 29 := by decide
theorem ti_30 : (30 : Int32).toInt = 30 := by decide
theorem ti_31 : (31 : Int32).toInt = 31 := by decide
theorem ti_32 : (32 : Int32).toInt = 32 := by decide
theorem ti_33 : (33 : Int32).toInt = 33 := by decide
theorem ti_34 : (34 : Int32).toInt = 34 := by decide
theorem ti_35 : (35 : Int32).toInt = 35 := by decide
theorem ti_36 : (36 : Int32).toInt = 36 := by decide
theorem ti_37 : (37 : Int32).toInt = 37 := by decide
theorem ti_38 : (38 : Int32).toInt = 38 := by decide
theorem ti_39 : (39 : Int32).toInt = 39 := by decide
theorem ti_40 : (40 : Int32).toInt = 40 := by decide
theorem ti_41 : (41 : Int32).toInt = 41 := by decide
theorem ti_42 : (42 : Int32).toInt = 42 := by decide
theorem ti_43 : (43 : Int32).toInt = 43 := by decide
theorem ti_44 : (44 : Int32).toInt = 44 := by decide
theorem ti_45 : (45 : Int32).toInt = 45 := by decide
theorem ti_46 : (46 : Int32).toInt = 46 := by decide
theorem ti_47 : (47 : Int32).toInt = 47 := by decide
theorem ti_48 : (48 : Int32).toInt = 48 := by decide
theorem ti_49 : (49 : Int32).toInt = 49 := by decide
theorem ti_50 : (50 : Int32).toInt = 50 := by decide
theorem ti_51 : (51 : Int32).toInt = 51 := by decide
theorem ti_52 : (52 : Int32).toInt = 52 := by decide
theorem ti_53 : (53 : Int32).toInt = 53 := by decide
theorem ti_54 : (54 : Int32).toInt = 54 := by decide
theorem ti_55 : (55 : Int32).toInt = 55 := by decide
theorem ti_56 : (56 : Int32).toInt = 56 := by decide
theorem ti_57 : (57 : Int32).toInt = 57 := by decide
theorem ti_58 : (58 : Int32).toInt = 58 := by decide
theorem ti_59 : (59 : Int32).toInt = 59 := by decide
theorem ti_60 : (60 : Int32).toInt = 60 := by decide
theorem ti_61 : (61 : Int32).toInt = 61 := by decide
theorem ti_62 : (62 : Int32).toInt = 62 := by decide
theorem ti_63 : (63 : Int32).toInt = 63 := by decide
theorem ti_64 : (64 : Int32).toInt = 64 := by decide
theorem ti_99 : (99 : Int32).toInt = 99 := by decide
theorem ti_100 : (100 : Int32).toInt = 100 := by decide
theorem ti_120 : (120 : Int32).toInt = 120 := by decide
theorem ti_122 : (122 : Int32).toInt = 122 := by decide
theorem ti_124 : (124 : Int32).toInt = 124 := by decide
theorem ti_128 : (128 : Int32).toInt = 128 := by decide
theorem ti_130 : (130 : Int32).toInt = 130 := by decide
theorem ti_255 : (255 : Int32).toInt = 255 := by decide
theorem ti_256 : (256 : Int32).toInt = 256 := by decide
theorem ti_260 : (260 : Int32).toInt = 260 := by decide
theorem ti_360 : (360 : Int32).toInt = 360 := by decide
theorem ti_999 : (999 : Int32).toInt = 999 := by decide
theorem ti_1000 : (1000 : Int32).toInt = 1000 := by decide
theorem ti_9999 : (9999 : Int32).toInt = 9999 := by decide
theorem ti_10000 : (10000 : Int32).toInt = 10000 := by decide
theorem fa_lt (a b : Int32) : (a < b) = (a.toInt < b.toInt) := propext Int32.lt_iff_toInt_lt
theorem fa_le (a b : Int32) : (a ≤ b) = (a.toInt ≤ b.toInt) := propext Int32.le_iff_toInt_le
theorem fa_eq (a b : Int32) : (a = b) = (a.toInt = b.toInt) := propext Int32.toInt_inj.symm
theorem i_rng (x : Int32) : -2147483648 ≤ x.toInt ∧ x.toInt < 2147483648 := ⟨x.le_toInt, x.toInt_lt⟩
theorem ite_b2i {α : Type} {p : Prop} [Decidable p] {A B : α} : (if b2i p = 0 then A else B) = if p then B else A := by
  by_cases h : p
  · rw [if_pos h, if_neg (fun q => (b2i_0.mp q) h)]
  · rw [if_neg h, if_pos (b2i_0.mpr h)]
theorem zb_b2i {σ : Type} {p : Prop} [Decidable p] {k : Option σ} : zb (b2i p) k = k := zb_d b2i_01
theorem b2i_congr {p q : Prop} [Decidable p] [Decidable q] (h : p ↔ q) : b2i p = b2i q := by
  unfold b2i
  by_cases hp : p
  · rw [if_pos hp, if_pos (h.mp hp)]
  · rw [if_neg hp, if_neg (fun z => hp (h.mpr z))]
theorem i_add {x y : Int32} (h1 : -2147483648 ≤ x.toInt + y.toInt) (h2 : x.toInt + y.toInt < 2147483648) : (x + y).toInt = x.toInt + y.toInt := by
  rw [Int32.toInt_add]
  apply Int.bmod_eq_of_le <;> omega
theorem i_sub {x y : Int32} (h1 : -2147483648 ≤ x.toInt - y.toInt) (h2 : x.toInt - y.toInt < 2147483648) : (x - y).toInt = x.toInt - y.toInt := by
  rw [Int32.toInt_sub]
  apply Int.bmod_eq_of_le <;> omega
theorem i_mul {x y : Int32} (h1 : -2147483648 ≤ x.toInt * y.toInt) (h2 : x.toInt * y.toInt < 2147483648) : (x * y).toInt = x.toInt * y.toInt := by
  rw [Int32.toInt_mul]
  apply Int.bmod_eq_of_le <;> omega
/-- frames: what a step leaves as it was -/
def eqo (S : Nat → Nat → Bool) (w w' : Wd) : Prop := ∀ c k, S c k = false → gi w' c k = gi w c k ∧ gl w' c k = gl w c k
theorem eqo_rf {S : Nat → Nat → Bool} (w : Wd) : eqo S w w := fun _ _ _ => ⟨rfl, rfl⟩
theorem eqo_tr {S : Nat → Nat → Bool} {a b c : Wd} (h1 : eqo S a b) (h2 : eqo S b c) : eqo S a c := fun x k h => ⟨(h2 x k h).1.trans (h1 x k h).1, (h2 x k h).2.trans (h1 x k h).2⟩
theorem eqo_si {S : Nat → Nat → Bool} {w w' : Wd} {c k : Nat} {v : Int32} (h : eqo S w w') (hs : S c k = true) : eqo S w (si w' c k v) := by
  intro a b hb
  rw [gi_si, gl_si]
  have hne : ¬ (a = c ∧ b = k) := fun q => by rw [q.1, q.2, hs] at hb; cases hb
  rw [if_neg hne]
  exact h a b hb
theorem eqo_sl {S : Nat → Nat → Bool} {w w' : Wd} {c k : Nat} {v : Int64} (h : eqo S w w') (hs : S c k = true) : eqo S w (sl w' c k v) := by
  intro a b hb
  rw [gl_sl, gi_sl]
  have hne : ¬ (a = c ∧ b = k) := fun q => by rw [q.1, q.2, hs] at hb; cases hb
  rw [if_neg hne]
  exact h a b hb
theorem eqo_mono {S S' : Nat → Nat → Bool} {w w' : Wd} (h : eqo S w w') (hs : ∀ c k, S c k = true → S' c k = true) : eqo S' w w' := by
  intro a b hb
  refine h a b ?_
  cases q : S a b with
  | false => rfl
  | true => rw [hs a b q] at hb; cases hb
/-- small checks -/
theorem M_in (a b c : Int32) : f_X12_in a b c = some (b2i (b.toInt ≤ a.toInt ∧ a.toInt ≤ c.toInt)) := by
  unfold f_X12_in b2i
  simp only [fa_lt, fa_le, fa_eq, inb, ti_m14, ti_m13, ti_m12, ti_m11, ti_m10, ti_m9, ti_m8, ti_m7, ti_m6, ti_m5, ti_m4, ti_m3, ti_m2, ti_m1, ti_0, ti_1, ti_2, ti_3, ti_4, ti_5, ti_6, ti_7, ti_8, ti_9, ti_10, ti_11, ti_12, ti_13, ti_14, ti_15, ti_16, ti_17, ti_18, ti_19, ti_20, ti_21, ti_22, ti_23, ti_24, ti_25, ti_26, ti_27, ti_28, ti_29, ti_30, ti_31, ti_32, ti_33, ti_34, ti_35, ti_36, ti_37, ti_38, ti_39, ti_40, ti_41, ti_42, ti_43, ti_44, ti_45, ti_46, ti_47, ti_48, ti_49, ti_50, ti_51, ti_52, ti_53, ti_54, ti_55, ti_56, ti_57, ti_58, ti_59, ti_60, ti_61, ti_62, ti_63, ti_64, ti_99, ti_100, ti_120, ti_122, ti_124, ti_128, ti_130, ti_255, ti_256, ti_260, ti_360, ti_999, ti_1000, ti_9999, ti_10000]
  repeat' split
  all_goals first | rfl | (exfalso; omega)
theorem X_isBag (a : Int32) : f_X11_isBag a = some (b2i (inb a 4)) := by
  unfold f_X11_isBag b2i
  simp only [fa_lt, fa_le, fa_eq, inb, ti_m14, ti_m13, ti_m12, ti_m11, ti_m10, ti_m9, ti_m8, ti_m7, ti_m6, ti_m5, ti_m4, ti_m3, ti_m2, ti_m1, ti_0, ti_1, ti_2, ti_3, ti_4, ti_5, ti_6, ti_7, ti_8, ti_9, ti_10, ti_11, ti_12, ti_13, ti_14, ti_15, ti_16, ti_17, ti_18, ti_19, ti_20, ti_21, ti_22, ti_23, ti_24, ti_25, ti_26, ti_27, ti_28, ti_29, ti_30, ti_31, ti_32, ti_33, ti_34, ti_35, ti_36, ti_37, ti_38, ti_39, ti_40, ti_41, ti_42, ti_43, ti_44, ti_45, ti_46, ti_47, ti_48, ti_49, ti_50, ti_51, ti_52, ti_53, ti_54, ti_55, ti_56, ti_57, ti_58, ti_59, ti_60, ti_61, ti_62, ti_63, ti_64, ti_99, ti_100, ti_120, ti_122, ti_124, ti_128, ti_130, ti_255, ti_256, ti_260, ti_360, ti_999, ti_1000, ti_9999, ti_10000]
  repeat' split
  all_goals first | rfl | (exfalso; omega)
theorem X_isShelf (a : Int32) : f_X11_isShelf a = some (b2i (inb a 6)) := by
  unfold f_X11_isShelf b2i
  simp only [fa_lt, fa_le, fa_eq, inb, ti_m14, ti_m13, ti_m12, ti_m11, ti_m10, ti_m9, ti_m8, ti_m7, ti_m6, ti_m5, ti_m4, ti_m3, ti_m2, ti_m1, ti_0, ti_1, ti_2, ti_3, ti_4, ti_5, ti_6, ti_7, ti_8, ti_9, ti_10, ti_11, ti_12, ti_13, ti_14, ti_15, ti_16, ti_17, ti_18, ti_19, ti_20, ti_21, ti_22, ti_23, ti_24, ti_25, ti_26, ti_27, ti_28, ti_29, ti_30, ti_31, ti_32, ti_33, ti_34, ti_35, ti_36, ti_37, ti_38, ti_39, ti_40, ti_41, ti_42, ti_43, ti_44, ti_45, ti_46, ti_47, ti_48, ti_49, ti_50, ti_51, ti_52, ti_53, ti_54, ti_55, ti_56, ti_57, ti_58, ti_59, ti_60, ti_61, ti_62, ti_63, ti_64, ti_99, ti_100, ti_120, ti_122, ti_124, ti_128, ti_130, ti_255, ti_256, ti_260, ti_360, ti_999, ti_1000, ti_9999, ti_10000]
  repeat' split
  all_goals first | rfl | (exfalso; omega)
theorem X_isKind (a : Int32) : f_X0_isKind a = some (b2i (inb a 8)) := by
  unfold f_X0_isKind b2i
  simp only [fa_lt, fa_le, fa_eq, inb, ti_m14, ti_m13, ti_m12, ti_m11, ti_m10, ti_m9, ti_m8, ti_m7, ti_m6, ti_m5, ti_m4, ti_m3, ti_m2, ti_m1, ti_0, ti_1, ti_2, ti_3, ti_4, ti_5, ti_6, ti_7, ti_8, ti_9, ti_10, ti_11, ti_12, ti_13, ti_14, ti_15, ti_16, ti_17, ti_18, ti_19, ti_20, ti_21, ti_22, ti_23, ti_24, ti_25, ti_26, ti_27, ti_28, ti_29, ti_30, ti_31, ti_32, ti_33, ti_34, ti_35, ti_36, ti_37, ti_38, ti_39, ti_40, ti_41, ti_42, ti_43, ti_44, ti_45, ti_46, ti_47, ti_48, ti_49, ti_50, ti_51, ti_52, ti_53, ti_54, ti_55, ti_56, ti_57, ti_58, ti_59, ti_60, ti_61, ti_62, ti_63, ti_64, ti_99, ti_100, ti_120, ti_122, ti_124, ti_128, ti_130, ti_255, ti_256, ti_260, ti_360, ti_999, ti_1000, ti_9999, ti_10000]
  repeat' split
  all_goals first | rfl | (exfalso; omega)
theorem X_isPart (a : Int32) : f_X11_isPart a = some (b2i (inb a 2)) := by
  unfold f_X11_isPart b2i
  simp only [fa_lt, fa_le, fa_eq, inb, ti_m14, ti_m13, ti_m12, ti_m11, ti_m10, ti_m9, ti_m8, ti_m7, ti_m6, ti_m5, ti_m4, ti_m3, ti_m2, ti_m1, ti_0, ti_1, ti_2, ti_3, ti_4, ti_5, ti_6, ti_7, ti_8, ti_9, ti_10, ti_11, ti_12, ti_13, ti_14, ti_15, ti_16, ti_17, ti_18, ti_19, ti_20, ti_21, ti_22, ti_23, ti_24, ti_25, ti_26, ti_27, ti_28, ti_29, ti_30, ti_31, ti_32, ti_33, ti_34, ti_35, ti_36, ti_37, ti_38, ti_39, ti_40, ti_41, ti_42, ti_43, ti_44, ti_45, ti_46, ti_47, ti_48, ti_49, ti_50, ti_51, ti_52, ti_53, ti_54, ti_55, ti_56, ti_57, ti_58, ti_59, ti_60, ti_61, ti_62, ti_63, ti_64, ti_99, ti_100, ti_120, ti_122, ti_124, ti_128, ti_130, ti_255, ti_256, ti_260, ti_360, ti_999, ti_1000, ti_9999, ti_10000]
  repeat' split
  all_goals first | rfl | (exfalso; omega)
theorem M_isBag (a : Int32) : f_X12_isBag a = some (b2i (inb a 4)) := by
  unfold f_X12_isBag
  rw [M_in, bR_s, zb_b2i]
  congr 1
  apply b2i_congr
  simp only [fa_lt, fa_le, fa_eq, inb, ti_m14, ti_m13, ti_m12, ti_m11, ti_m10, ti_m9, ti_m8, ti_m7, ti_m6, ti_m5, ti_m4, ti_m3, ti_m2, ti_m1, ti_0, ti_1, ti_2, ti_3, ti_4, ti_5, ti_6, ti_7, ti_8, ti_9, ti_10, ti_11, ti_12, ti_13, ti_14, ti_15, ti_16, ti_17, ti_18, ti_19, ti_20, ti_21, ti_22, ti_23, ti_24, ti_25, ti_26, ti_27, ti_28, ti_29, ti_30, ti_31, ti_32, ti_33, ti_34, ti_35, ti_36, ti_37, ti_38, ti_39, ti_40, ti_41, ti_42, ti_43, ti_44, ti_45, ti_46, ti_47, ti_48, ti_49, ti_50, ti_51, ti_52, ti_53, ti_54, ti_55, ti_56, ti_57, ti_58, ti_59, ti_60, ti_61, ti_62, ti_63, ti_64, ti_99, ti_100, ti_120, ti_122, ti_124, ti_128, ti_130, ti_255, ti_256, ti_260, ti_360, ti_999, ti_1000, ti_9999, ti_10000]
  omega
theorem M_isShelf (a : Int32) : f_X12_isShelf a = some (b2i (inb a 6)) := by
  unfold f_X12_isShelf
  rw [M_in, bR_s, zb_b2i]
  congr 1
  apply b2i_congr
  simp only [fa_lt, fa_le, fa_eq, inb, ti_m14, ti_m13, ti_m12, ti_m11, ti_m10, ti_m9, ti_m8, ti_m7, ti_m6, ti_m5, ti_m4, ti_m3, ti_m2, ti_m1, ti_0, ti_1, ti_2, ti_3, ti_4, ti_5, ti_6, ti_7, ti_8, ti_9, ti_10, ti_11, ti_12, ti_13, ti_14, ti_15, ti_16, ti_17, ti_18, ti_19, ti_20, ti_21, ti_22, ti_23, ti_24, ti_25, ti_26, ti_27, ti_28, ti_29, ti_30, ti_31, ti_32, ti_33, ti_34, ti_35, ti_36, ti_37, ti_38, ti_39, ti_40, ti_41, ti_42, ti_43, ti_44, ti_45, ti_46, ti_47, ti_48, ti_49, ti_50, ti_51, ti_52, ti_53, ti_54, ti_55, ti_56, ti_57, ti_58, ti_59, ti_60, ti_61, ti_62, ti_63, ti_64, ti_99, ti_100, ti_120, ti_122, ti_124, ti_128, ti_130, ti_255, ti_256, ti_260, ti_360, ti_999, ti_1000, ti_9999, ti_10000]
  omega
theorem M_isPart (a : Int32) : f_X12_isPart a = some (b2i (inb a 2)) := by
  unfold f_X12_isPart
  rw [M_in, bR_s, zb_b2i]
  congr 1
  apply b2i_congr
  simp only [fa_lt, fa_le, fa_eq, inb, ti_m14, ti_m13, ti_m12, ti_m11, ti_m10, ti_m9, ti_m8, ti_m7, ti_m6, ti_m5, ti_m4, ti_m3, ti_m2, ti_m1, ti_0, ti_1, ti_2, ti_3, ti_4, ti_5, ti_6, ti_7, ti_8, ti_9, ti_10, ti_11, ti_12, ti_13, ti_14, ti_15, ti_16, ti_17, ti_18, ti_19, ti_20, ti_21, ti_22, ti_23, ti_24, ti_25, ti_26, ti_27, ti_28, ti_29, ti_30, ti_31, ti_32, ti_33, ti_34, ti_35, ti_36, ti_37, ti_38, ti_39, ti_40, ti_41, ti_42, ti_43, ti_44, ti_45, ti_46, ti_47, ti_48, ti_49, ti_50, ti_51, ti_52, ti_53, ti_54, ti_55, ti_56, ti_57, ti_58, ti_59, ti_60, ti_61, ti_62, ti_63, ti_64, ti_99, ti_100, ti_120, ti_122, ti_124, ti_128, ti_130, ti_255, ti_256, ti_260, ti_360, ti_999, ti_1000, ti_9999, ti_10000]
  omega
theorem X_isLooker {w : Wd} {L : Nat} (hL : gi w 1 1 = nI L) (h6 : L ≤ 6) (a : Int32) : f_X6_isLooker a w = some (b2i (inb a L)) := by
  unfold f_X6_isLooker b2i
  rw [hL]
  have := nI_toInt (n := L) (by omega)
  simp only [fa_lt, fa_le, fa_eq, inb, ti_m14, ti_m13, ti_m12, ti_m11, ti_m10, ti_m9, ti_m8, ti_m7, ti_m6, ti_m5, ti_m4, ti_m3, ti_m2, ti_m1, ti_0, ti_1, ti_2, ti_3, ti_4, ti_5, ti_6, ti_7, ti_8, ti_9, ti_10, ti_11, ti_12, ti_13, ti_14, ti_15, ti_16, ti_17, ti_18, ti_19, ti_20, ti_21, ti_22, ti_23, ti_24, ti_25, ti_26, ti_27, ti_28, ti_29, ti_30, ti_31, ti_32, ti_33, ti_34, ti_35, ti_36, ti_37, ti_38, ti_39, ti_40, ti_41, ti_42, ti_43, ti_44, ti_45, ti_46, ti_47, ti_48, ti_49, ti_50, ti_51, ti_52, ti_53, ti_54, ti_55, ti_56, ti_57, ti_58, ti_59, ti_60, ti_61, ti_62, ti_63, ti_64, ti_99, ti_100, ti_120, ti_122, ti_124, ti_128, ti_130, ti_255, ti_256, ti_260, ti_360, ti_999, ti_1000, ti_9999, ti_10000]
  repeat' split
  all_goals first | rfl | (exfalso; omega)
theorem M_isLooker {w : Wd} {L : Nat} (hL : gi w 54 3 = nI L) (h6 : L ≤ 6) (a : Int32) : f_X12_isLooker a w = some (b2i (inb a L)) := by
  unfold f_X12_isLooker
  rw [M_in, bR_s, zb_b2i, hL]
  congr 1
  apply b2i_congr
  have := nI_toInt (n := L) (by omega)
  have e : (nI L - 1).toInt = (L : Int) - 1 := by
    rw [i_sub] <;> simp only [fa_lt, fa_le, fa_eq, inb, ti_m14, ti_m13, ti_m12, ti_m11, ti_m10, ti_m9, ti_m8, ti_m7, ti_m6, ti_m5, ti_m4, ti_m3, ti_m2, ti_m1, ti_0, ti_1, ti_2, ti_3, ti_4, ti_5, ti_6, ti_7, ti_8, ti_9, ti_10, ti_11, ti_12, ti_13, ti_14, ti_15, ti_16, ti_17, ti_18, ti_19, ti_20, ti_21, ti_22, ti_23, ti_24, ti_25, ti_26, ti_27, ti_28, ti_29, ti_30, ti_31, ti_32, ti_33, ti_34, ti_35, ti_36, ti_37, ti_38, ti_39, ti_40, ti_41, ti_42, ti_43, ti_44, ti_45, ti_46, ti_47, ti_48, ti_49, ti_50, ti_51, ti_52, ti_53, ti_54, ti_55, ti_56, ti_57, ti_58, ti_59, ti_60, ti_61, ti_62, ti_63, ti_64, ti_99, ti_100, ti_120, ti_122, ti_124, ti_128, ti_130, ti_255, ti_256, ti_260, ti_360, ti_999, ti_1000, ti_9999, ti_10000] <;> omega
  rw [e]
  simp only [fa_lt, fa_le, fa_eq, inb, ti_m14, ti_m13, ti_m12, ti_m11, ti_m10, ti_m9, ti_m8, ti_m7, ti_m6, ti_m5, ti_m4, ti_m3, ti_m2, ti_m1, ti_0, ti_1, ti_2, ti_3, ti_4, ti_5, ti_6, ti_7, ti_8, ti_9, ti_10, ti_11, ti_12, ti_13, ti_14, ti_15, ti_16, ti_17, ti_18, ti_19, ti_20, ti_21, ti_22, ti_23, ti_24, ti_25, ti_26, ti_27, ti_28, ti_29, ti_30, ti_31, ti_32, ti_33, ti_34, ti_35, ti_36, ti_37, ti_38, ti_39, ti_40, ti_41, ti_42, ti_43, ti_44, ti_45, ti_46, ti_47, ti_48, ti_49, ti_50, ti_51, ti_52, ti_53, ti_54, ti_55, ti_56, ti_57, ti_58, ti_59, ti_60, ti_61, ti_62, ti_63, ti_64, ti_99, ti_100, ti_120, ti_122, ti_124, ti_128, ti_130, ti_255, ti_256, ti_260, ti_360, ti_999, ti_1000, ti_9999, ti_10000]
  omega
