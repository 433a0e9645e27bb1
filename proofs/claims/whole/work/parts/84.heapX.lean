/-! HEAPS: numbers; the class -/
abbrev HS : Type := Nat × Nat × Nat × Nat × Nat
abbrev HS.T (s : HS) : Nat := s.1
abbrev HS.c (s : HS) : Nat := s.2.1
abbrev HS.x (s : HS) : Nat := s.2.2.1
abbrev HS.y (s : HS) : Nat := s.2.2.2.1
abbrev HS.z (s : HS) : Nat := s.2.2.2.2
def lkd (A : Ab) (k h : Nat) : Nat := if k < A.L then h * twv A k 0 (nI (A.nv 9 0 + h / 5)) else 0
def cN (A : Ab) (k : Nat) : Nat := if k < A.L then A.nv 6 k else 0
def ub (A : Ab) (k r : Nat) : Nat := if k < A.L then r else 0
def hst (A : Ab) (m a b c : Nat) (S : HS) : HS := if m < a * cN A 0 + b * cN A 1 + c * cN A 2 then S else if lkd A 0 a + lkd A 1 b + lkd A 2 c + 1 < S.T then S else if lkd A 0 a + lkd A 1 b + lkd A 2 c + 1 = S.T ∧ ¬ a * cN A 0 + b * cN A 1 + c * cN A 2 < S.c then S else ⟨lkd A 0 a + lkd A 1 b + lkd A 2 c + 1, a * cN A 0 + b * cN A 1 + c * cN A 2, a, b, c⟩
def h3 (A : Ab) (m a b : Nat) : Nat → Nat → HS → HS
  | 0, _, S => S
  | f + 1, c, S => h3 A m a b f (c + 1) (hst A m a b c S)
def h2 (A : Ab) (n m a : Nat) : Nat → Nat → HS → HS
  | 0, _, S => S
  | f + 1, b, S => h2 A n m a f (b + 1) (h3 A m a b (ub A 2 (n - a - b) + 1) 0 S)
def h1 (A : Ab) (n m : Nat) : Nat → Nat → HS → HS
  | 0, _, S => S
  | f + 1, a, S => h1 A n m f (a + 1) (h2 A n m a (ub A 1 (n - a) + 1) 0 S)
def hEnd (A : Ab) (n m : Nat) : HS := h1 A n m (ub A 0 n + 1) 0 ⟨0, 0, 0, 0, 0⟩
theorem hst_T {A : Ab} {m a b c : Nat} {S : HS} : S.T ≤ (hst A m a b c S).T := by
  unfold hst
  repeat' split
  all_goals first | exact Nat.le_refl _ | skip
  show S.T ≤ lkd A 0 a + lkd A 1 b + lkd A 2 c + 1
  omega
theorem h3_T {A : Ab} {m a b : Nat} : ∀ f c S, S.T ≤ (h3 A m a b f c S).T
  | 0, _, _ => Nat.le_refl _
  | f + 1, c, S => Nat.le_trans hst_T (h3_T f (c + 1) _)
theorem h2_T {A : Ab} {n m a : Nat} : ∀ f b S, S.T ≤ (h2 A n m a f b S).T
  | 0, _, _ => Nat.le_refl _
  | f + 1, b, S => Nat.le_trans (h3_T _ _ _) (h2_T f (b + 1) _)
theorem h1_T {A : Ab} {n m : Nat} : ∀ f a S, S.T ≤ (h1 A n m f a S).T
  | 0, _, _ => Nat.le_refl _
  | f + 1, a, S => Nat.le_trans (h2_T _ _ _) (h1_T f (a + 1) _)
theorem hEnd_T (A : Ab) (n m : Nat) : 0 < (hEnd A n m).T := by
  have hf : 1 ≤ (hst A m 0 0 0 ⟨0, 0, 0, 0, 0⟩).T := by
    unfold hst
    rw [Nat.zero_mul, Nat.zero_mul, Nat.zero_mul, if_neg (by omega), if_neg (by show ¬ _ < 0; omega), if_neg (by show ¬ (_ = 0 ∧ _); omega)]
    show 1 ≤ _ + 1
    omega
  have e3 := h3_T (A := A) (m := m) (a := 0) (b := 0) (ub A 2 (n - 0 - 0)) (0 + 1) (hst A m 0 0 0 ⟨0, 0, 0, 0, 0⟩)
  have e2 := h2_T (A := A) (n := n) (m := m) (a := 0) (ub A 1 (n - 0)) (0 + 1) (h3 A m 0 0 (ub A 2 (n - 0 - 0) + 1) 0 ⟨0, 0, 0, 0, 0⟩)
  have e1 := h1_T (A := A) (n := n) (m := m) (ub A 0 n) (0 + 1) (h2 A n m 0 (ub A 1 (n - 0) + 1) 0 ⟨0, 0, 0, 0, 0⟩)
  exact Nat.lt_of_lt_of_le (Nat.lt_of_lt_of_le (Nat.lt_of_lt_of_le hf e3) e2) e1
def hsB (S : HS) : Prop := S.T ≤ 1441 ∧ S.c ≤ 12000 ∧ S.x ≤ 40 ∧ S.y ≤ 40 ∧ S.z ≤ 40
theorem lkd_le {A : Ab} {k h : Nat} (hh : h ≤ 40) : lkd A k h ≤ 480 := by
  unfold lkd
  by_cases c : k < A.L
  · rw [if_pos c]
    exact Nat.mul_le_mul hh (tw_I A k 0 _).2
  · rw [if_neg c]; omega
theorem cN_le {A : Ab} (hA : Aok A) (k : Nat) : cN A k ≤ 99 := by
  unfold cN
  have := hA.1
  by_cases c : k < A.L
  · rw [if_pos c]; exact hA.2.1 6 k (okL (Or.inr rfl) (by omega))
  · rw [if_neg c]; omega
theorem hst_B {A : Ab} (hA : Aok A) {m a b c : Nat} {S : HS} (h : hsB S) (ha : a ≤ 40) (hb : b ≤ 40) (hc : c ≤ 40) : hsB (hst A m a b c S) := by
  have l0 := lkd_le (A := A) (k := 0) ha
  have l1 := lkd_le (A := A) (k := 1) hb
  have l2 := lkd_le (A := A) (k := 2) hc
  have p0 := Nat.mul_le_mul ha (cN_le hA 0)
  have p1 := Nat.mul_le_mul hb (cN_le hA 1)
  have p2 := Nat.mul_le_mul hc (cN_le hA 2)
  unfold hst
  repeat' split
  all_goals first | exact h | skip
  exact ⟨by show _ + 1 ≤ 1441; omega, by show a * cN A 0 + b * cN A 1 + c * cN A 2 ≤ 12000; omega, ha, hb, hc⟩
/-- the class's view of its parting -/
def PVw (A : Ab) (n : Nat) (w : Wd) : Prop := (∀ k, k < 3 → gi w 33 k = nI (ub A k n) ∧ (k < A.L → gi w 34 k = nI (A.nv 6 k)) ∧ (k < A.L → ∀ h, h ≤ n → gi w 32 (41 * k + h) = nI (lkd A k h)) ∧ (A.L ≤ k → gi w 32 (41 * k) = 0))
def PS (S : HS) (w : Wd) : Prop := gi w 31 4 = nI S.T - 1 ∧ gi w 31 5 = nI S.c ∧ (0 < S.T → gi w 35 0 = nI S.x ∧ gi w 35 1 = nI S.y ∧ gi w 35 2 = nI S.z)
def sP (c _k : Nat) : Bool := c == 31 || c == 35
theorem PVw_P {A : Ab} {n : Nat} {w w' : Wd} (h : PVw A n w) (he : eqo sP w w') : PVw A n w' := by
  intro k hk
  obtain ⟨a, b, c, d⟩ := h k hk
  exact ⟨by rw [(he 33 k rfl).1]; exact a, fun z => by rw [(he 34 k rfl).1]; exact b z, fun z h hh => by rw [(he 32 _ rfl).1]; exact c z h hh, fun z => by rw [(he 32 _ rfl).1]; exact d z⟩
theorem pay1 {A : Ab} {k h : Nat} {v : Int32} (h1 : k < A.L → v = nI (A.nv 6 k)) (h2 : A.L ≤ k → h = 0) : nI h * v = nI (h * cN A k) := by
  unfold cN
  by_cases c : k < A.L
  · rw [if_pos c, h1 c, pk_mul]
  · rw [if_neg c, h2 (by omega), Nat.zero_mul]
    show (0 : Int32) * v = 0
    exact Int32.zero_mul
theorem X_weigh {A : Ab} (hA : Aok A) {n m a b c : Nat} {S : HS} {w : Wd} (hn : n ≤ 40) (hm : m ≤ 999) (hV : PVw A n w) (hS : PS S w) (hB : hsB S) (ha : a ≤ ub A 0 n) (hb : b ≤ ub A 1 n) (hc : c ≤ ub A 2 n) : ∃ w', f_X7_weigh (nI a) (nI b) (nI c) (nI m) w = some w' ∧ PS (hst A m a b c S) w' ∧ eqo sP w w' := by
  have un : ∀ k, ub A k n ≤ n ∧ (A.L ≤ k → ub A k n = 0) := fun k => by
    unfold ub
    by_cases z : k < A.L
    · rw [if_pos z]; exact ⟨Nat.le_refl _, fun q => absurd q (by omega)⟩
    · rw [if_neg z]; exact ⟨by omega, fun _ => rfl⟩
  have u0 := un 0
  have u1 := un 1
  have u2 := un 2
  obtain ⟨v0a, v0b, v0c, v0d⟩ := hV 0 (by omega)
  obtain ⟨v1a, v1b, v1c, v1d⟩ := hV 1 (by omega)
  obtain ⟨v2a, v2b, v2c, v2d⟩ := hV 2 (by omega)
  have e0 := pay1 (A := A) (k := 0) (h := a) (v := gi w 34 0) v0b (fun z => by have := u0.2 z; omega)
  have e1 := pay1 (A := A) (k := 1) (h := b) (v := gi w 34 1) v1b (fun z => by have := u1.2 z; omega)
  have e2 := pay1 (A := A) (k := 2) (h := c) (v := gi w 34 2) v2b (fun z => by have := u2.2 z; omega)
  have sk : ∀ k h, h ≤ ub A k n → (k < A.L → ∀ h, h ≤ n → gi w 32 (41 * k + h) = nI (lkd A k h)) → (A.L ≤ k → gi w 32 (41 * k) = 0) → gi w 32 (41 * k + h) = nI (lkd A k h) := by
    intro k h hh hc hd
    by_cases z : k < A.L
    · exact hc z h (Nat.le_trans hh (un k).1)
    · have := (un k).2 (by omega)
      have h0 : h = 0 := by omega
      rw [h0, Nat.add_zero, hd (by omega)]
      unfold lkd
      rw [if_neg z]
      rfl
  have s0 := sk 0 a ha v0c v0d
  have s1 := sk 1 b hb v1c v1d
  have s2 := sk 2 c hc v2c v2d
  have s0' : gi w 32 a = nI (lkd A 0 a) := by rw [show a = 41 * 0 + a by omega]; rw [s0]; exact congrArg nI (by rw [show 41 * 0 + a = a by omega])
  have l0 := lkd_le (A := A) (k := 0) (h := a) (by omega)
  have l1 := lkd_le (A := A) (k := 1) (h := b) (by omega)
  have l2 := lkd_le (A := A) (k := 2) (h := c) (by omega)
  have p0 := Nat.mul_le_mul (show a ≤ 40 by omega) (cN_le hA 0)
  have p1 := Nat.mul_le_mul (show b ≤ 40 by omega) (cN_le hA 1)
  have p2 := Nat.mul_le_mul (show c ≤ 40 by omega) (cN_le hA 2)
  obtain ⟨q1, q2, q3⟩ := hS
  obtain ⟨b1, b2, b3, b4, b5⟩ := hB
  have tT : (nI S.T - 1).toInt = (S.T : Int) - 1 := pk_sub_toInt (a := S.T) (b := 1) (by omega) (by omega)
  unfold f_X7_weigh f_X7_weigh_b92 hst
  rw [ldI_d (by decide), show ix 0 = 0 from rfl, ldI_d (by decide), show ix 1 = 1 from rfl, ldI_d (by decide), show ix 2 = 2 from rfl, lt_d, e0, e1, e2, nI_add, nI_add]
  generalize hpd : a * cN A 0 + b * cN A 1 + c * cN A 2 = pd at *
  have tp := nI_toInt (n := pd) (by omega)
  have tc := nI_toInt (n := S.c) (by omega)
  by_cases c1 : m < pd
  · rw [if_neg (by rw [nI_leI (by omega) (by omega)]; omega), if_pos c1]
    exact ⟨w, rfl, ⟨q1, q2, q3⟩, eqo_rf w⟩
  rw [if_pos (by rw [nI_leI (by omega) (by omega)]; omega), if_neg c1, ldI_d (inb_nI (by omega) (by omega)), ix_nI (by omega), s0', show (41 : Int32) = nI 41 from rfl, nI_add, ldI_d (inb_nI (by omega) (by omega)), ix_nI (by omega), s1, show (82 : Int32) = nI 82 from rfl, nI_add, ldI_d (inb_nI (by omega) (by omega)), ix_nI (by omega), s2, lt_d, nI_add, nI_add, q1, q2]
  generalize hsn : lkd A 0 a + lkd A 1 b + lkd A 2 c = sn at *
  have ts := nI_toInt (n := sn) (by omega)
  have acc : ∃ w', some (si (si (si (si (si w 31 4 (nI sn)) 31 5 (nI pd)) 35 0 (nI a)) 35 1 (nI b)) 35 2 (nI c)) = some w' ∧ PS ⟨sn + 1, pd, a, b, c⟩ w' ∧ eqo sP w w' := by
    refine ⟨_, rfl, ⟨?_, ?_, fun _ => ⟨?_, ?_, ?_⟩⟩, eqo_si (eqo_si (eqo_si (eqo_si (eqo_si (eqo_rf w) rfl) rfl) rfl) rfl) rfl⟩
    · rw [gi_si, if_neg (by omega), gi_si, if_neg (by omega), gi_si, if_neg (by omega), gi_si, if_neg (by omega), gi_si, if_pos ⟨rfl, rfl⟩]
      show nI sn = nI (sn + 1) - 1
      rw [nI_pred]
    · rw [gi_si, if_neg (by omega), gi_si, if_neg (by omega), gi_si, if_neg (by omega), gi_si, if_pos ⟨rfl, rfl⟩]
    · rw [gi_si, if_neg (by omega), gi_si, if_neg (by omega), gi_si, if_pos ⟨rfl, rfl⟩]
    · rw [gi_si, if_neg (by omega), gi_si, if_pos ⟨rfl, rfl⟩]
    · rw [gi_si, if_pos ⟨rfl, rfl⟩]
  rw [stI_d, stI_d, saI_d (by decide), saI_d (by decide), saI_d (by decide), show ix 0 = 0 from rfl, show ix 1 = 1 from rfl, show ix 2 = 2 from rfl]
  by_cases c2 : sn + 1 < S.T
  · rw [if_pos (by rw [fa_lt, ts, tT]; omega), if_pos c2]
    exact ⟨w, rfl, ⟨q1, q2, q3⟩, eqo_rf w⟩
  rw [if_neg (by rw [fa_lt, ts, tT]; omega), if_neg c2]
  have iffe : (nI sn = nI S.T - 1) ↔ sn + 1 = S.T := by
    rw [← Int32.toInt_inj, ts, tT]
    omega
  by_cases c3 : sn + 1 = S.T
  · rw [if_pos (iffe.mpr c3)]
    by_cases c4 : pd < S.c
    · rw [if_pos (by rw [fa_lt, tp, tc]; omega), if_neg (fun q => q.2 c4)]
      exact acc
    · rw [if_neg (by rw [fa_lt, tp, tc]; omega), if_pos ⟨c3, c4⟩]
      exact ⟨w, rfl, ⟨q1, q2, q3⟩, eqo_rf w⟩
  · rw [if_neg (fun q => c3 (iffe.mp q)), if_neg (fun q => c3 q.1)]
    exact acc
theorem X_h3 {A : Ab} (hA : Aok A) {n m a b : Nat} (k12 : Int32 → Int32 → Int32 → Wd → Option Wd) (k29 : Int32 → Int32 → Int32 → Int32 → Wd → Option Wd) (hn : n ≤ 40) (hm : m ≤ 999) (ha : a ≤ ub A 0 n) (hb : b ≤ ub A 1 (n - a)) (han : a ≤ n) (hbn : b ≤ n - a) : ∀ (f n' c : Nat) (S : HS) (w : Wd), c + f = ub A 2 (n - a - b) + 1 → f < n' → PVw A n w → PS S w → hsB S → ∃ w', f_X7_search_b49 k12 k29 n' (nI n) (nI m) (nI a) (nI b) (nI c) w = k29 (nI n) (nI m) (nI a) (nI (b + 1)) w' ∧ PS (h3 A m a b f c S) w' ∧ hsB (h3 A m a b f c S) ∧ eqo sP w w'
  | 0, 0, _, _, _, _, h, _, _, _ => absurd h (by omega)
  | 0, n' + 1, c, S, w, hc, _, hV, hS, hB => by
    refine ⟨w, ?_, hS, hB, eqo_rf w⟩
    show f_X7_search_b49_y k12 k29 (f_X7_search_b49 k12 k29 n') (nI n) (nI m) (nI a) (nI b) (nI c) w = _
    unfold f_X7_search_b49_y
    have hu : ub A 2 (n - a - b) ≤ n - a - b := by unfold ub; split <;> omega
    have hmin : min (n - a - b) (ub A 2 n) = ub A 2 (n - a - b) := by unfold ub; split <;> omega
    have hun : ub A 2 n ≤ n := by unfold ub; split <;> omega
    have t1 := nI_toInt (n := ub A 2 (n - a - b)) (by omega)
    have t2 := nI_toInt (n := c) (by omega)
    rw [ldI_d (by decide), show ix 2 = 2 from rfl, (hV 2 (by omega)).1, pk_sub han, pk_sub hbn, imin_nI (by omega) (by omega), hmin, if_pos (by rw [fa_lt, t1, t2]; omega), nI_1]
  | f + 1, 0, _, _, _, _, h, _, _, _ => absurd h (by omega)
  | f + 1, n' + 1, c, S, w, hc, hf, hV, hS, hB => by
    have hu : ub A 2 (n - a - b) ≤ n - a - b := by unfold ub; split <;> omega
    have hmin : min (n - a - b) (ub A 2 n) = ub A 2 (n - a - b) := by unfold ub; split <;> omega
    have hun : ub A 2 n ≤ n := by unfold ub; split <;> omega
    have hu1 : ub A 1 (n - a) ≤ ub A 1 n := by unfold ub; split <;> omega
    have hu2 : ub A 2 (n - a - b) ≤ ub A 2 n := by unfold ub; split <;> omega
    have hu0 : ub A 0 n ≤ n := by unfold ub; split <;> omega
    have t1 := nI_toInt (n := ub A 2 (n - a - b)) (by omega)
    have t2 := nI_toInt (n := c) (by omega)
    obtain ⟨w1, p1, p2, p3⟩ := X_weigh hA (a := a) (b := b) (c := c) hn hm hV hS hB ha (by omega) (by omega)
    have hB1 := hst_B hA (m := m) (a := a) (b := b) (c := c) hB (by omega) (by omega) (by omega)
    obtain ⟨w2, q1, q2, q3, q4⟩ := X_h3 hA k12 k29 hn hm ha hb han hbn f n' (c + 1) _ w1 (by omega) (by omega) (PVw_P hV p3) p2 hB1
    refine ⟨w2, ?_, q2, q3, eqo_tr p3 q4⟩
    show f_X7_search_b49_y k12 k29 (f_X7_search_b49 k12 k29 n') (nI n) (nI m) (nI a) (nI b) (nI c) w = _
    unfold f_X7_search_b49_y
    rw [ldI_d (by decide), show ix 2 = 2 from rfl, (hV 2 (by omega)).1, pk_sub han, pk_sub hbn, imin_nI (by omega) (by omega), hmin, if_neg (by rw [fa_lt, t1, t2]; omega), p1, bV_s, nI_1]
    exact q1
theorem X_h2 {A : Ab} (hA : Aok A) {n m a : Nat} (k12 : Int32 → Int32 → Int32 → Wd → Option Wd) (hn : n ≤ 40) (hm : m ≤ 999) (ha : a ≤ ub A 0 n) (han : a ≤ n) : ∀ (f n' b : Nat) (S : HS) (w : Wd), b + f = ub A 1 (n - a) + 1 → f < n' → PVw A n w → PS S w → hsB S → ∃ w', f_X7_search_b29 k12 n' (nI n) (nI m) (nI a) (nI b) w = k12 (nI n) (nI m) (nI (a + 1)) w' ∧ PS (h2 A n m a f b S) w' ∧ hsB (h2 A n m a f b S) ∧ eqo sP w w'
  | 0, 0, _, _, _, _, h, _, _, _ => absurd h (by omega)
  | 0, n' + 1, b, S, w, hb, _, hV, hS, hB => by
    refine ⟨w, ?_, hS, hB, eqo_rf w⟩
    show f_X7_search_b29_y k12 (f_X7_search_b29 k12 n') (nI n) (nI m) (nI a) (nI b) w = _
    unfold f_X7_search_b29_y
    have hu : ub A 1 (n - a) ≤ n - a := by unfold ub; split <;> omega
    have hmin : min (n - a) (ub A 1 n) = ub A 1 (n - a) := by unfold ub; split <;> omega
    have hun : ub A 1 n ≤ n := by unfold ub; split <;> omega
    have t1 := nI_toInt (n := ub A 1 (n - a)) (by omega)
    have t2 := nI_toInt (n := b) (by omega)
    rw [ldI_d (by decide), show ix 1 = 1 from rfl, (hV 1 (by omega)).1, pk_sub han, imin_nI (by omega) (by omega), hmin, if_pos (by rw [fa_lt, t1, t2]; omega), nI_1]
  | f + 1, 0, _, _, _, _, h, _, _, _ => absurd h (by omega)
  | f + 1, n' + 1, b, S, w, hb, hf, hV, hS, hB => by
    have hu : ub A 1 (n - a) ≤ n - a := by unfold ub; split <;> omega
    have hmin : min (n - a) (ub A 1 n) = ub A 1 (n - a) := by unfold ub; split <;> omega
    have hun : ub A 1 n ≤ n := by unfold ub; split <;> omega
    have hu2 : ub A 2 (n - a - b) ≤ n := by unfold ub; split <;> omega
    have t1 := nI_toInt (n := ub A 1 (n - a)) (by omega)
    have t2 := nI_toInt (n := b) (by omega)
    obtain ⟨w1, p1, p2, p3, p4⟩ := X_h3 hA k12 (f_X7_search_b29 k12 n') hn hm ha (b := b) (by omega) han (by omega) (ub A 2 (n - a - b) + 1) fu 0 S w (by omega) (by show _ < 300; omega) hV hS hB
    obtain ⟨w2, q1, q2, q3, q4⟩ := X_h2 hA k12 hn hm ha han f n' (b + 1) _ w1 (by omega) (by omega) (PVw_P hV p4) p2 p3
    refine ⟨w2, ?_, q2, q3, eqo_tr p4 q4⟩
    show f_X7_search_b29_y k12 (f_X7_search_b29 k12 n') (nI n) (nI m) (nI a) (nI b) w = _
    unfold f_X7_search_b29_y
    rw [ldI_d (by decide), show ix 1 = 1 from rfl, (hV 1 (by omega)).1, pk_sub han, imin_nI (by omega) (by omega), hmin, if_neg (by rw [fa_lt, t1, t2]; omega)]
    exact p1.trans q1
theorem X_h1 {A : Ab} (hA : Aok A) {n m : Nat} (hn : n ≤ 40) (hm : m ≤ 999) : ∀ (f n' a : Nat) (S : HS) (w : Wd), a + f = ub A 0 n + 1 → f < n' → PVw A n w → PS S w → hsB S → ∃ w', f_X7_search_b12 n' (nI n) (nI m) (nI a) w = some w' ∧ PS (h1 A n m f a S) w' ∧ hsB (h1 A n m f a S) ∧ eqo sP w w'
  | 0, 0, _, _, _, _, h, _, _, _ => absurd h (by omega)
  | 0, n' + 1, a, S, w, ha, _, hV, hS, hB => by
    refine ⟨w, ?_, hS, hB, eqo_rf w⟩
    show f_X7_search_b12_y (f_X7_search_b12 n') (nI n) (nI m) (nI a) w = _
    unfold f_X7_search_b12_y
    have hmin : min n (ub A 0 n) = ub A 0 n := by unfold ub; split <;> omega
    have hun : ub A 0 n ≤ n := by unfold ub; split <;> omega
    have t1 := nI_toInt (n := ub A 0 n) (by omega)
    have t2 := nI_toInt (n := a) (by omega)
    rw [ldI_d (by decide), show ix 0 = 0 from rfl, (hV 0 (by omega)).1, imin_nI (by omega) (by omega), hmin, if_pos (by rw [fa_lt, t1, t2]; omega)]
  | f + 1, 0, _, _, _, _, h, _, _, _ => absurd h (by omega)
  | f + 1, n' + 1, a, S, w, ha, hf, hV, hS, hB => by
    have hmin : min n (ub A 0 n) = ub A 0 n := by unfold ub; split <;> omega
    have hun : ub A 0 n ≤ n := by unfold ub; split <;> omega
    have hu1 : ub A 1 (n - a) ≤ n := by unfold ub; split <;> omega
    have t1 := nI_toInt (n := ub A 0 n) (by omega)
    have t2 := nI_toInt (n := a) (by omega)
    obtain ⟨w1, p1, p2, p3, p4⟩ := X_h2 hA (f_X7_search_b12 n') hn hm (a := a) (by omega) (by omega) (ub A 1 (n - a) + 1) fu 0 S w (by omega) (by show _ < 300; omega) hV hS hB
    obtain ⟨w2, q1, q2, q3, q4⟩ := X_h1 hA hn hm f n' (a + 1) _ w1 (by omega) (by omega) (PVw_P hV p4) p2 p3
    refine ⟨w2, ?_, q2, q3, eqo_tr p4 q4⟩
    show f_X7_search_b12_y (f_X7_search_b12 n') (nI n) (nI m) (nI a) w = _
    unfold f_X7_search_b12_y
    rw [ldI_d (by decide), show ix 0 = 0 from rfl, (hV 0 (by omega)).1, imin_nI (by omega) (by omega), hmin, if_neg (by rw [fa_lt, t1, t2]; omega)]
    exact p1.trans q1
theorem X_search {A : Ab} (hA : Aok A) {n m : Nat} {w : Wd} (hn : n ≤ 40) (hm : m ≤ 999) (hV : PVw A n w) : ∃ w', f_X7_search (nI n) (nI m) w = some w' ∧ PS (hEnd A n m) w' ∧ hsB (hEnd A n m) ∧ eqo sP w w' := by
  unfold f_X7_search
  rw [stI_d, stI_d]
  have E : eqo sP w (si (si w 31 4 (-1)) 31 5 0) := eqo_si (eqo_si (eqo_rf w) rfl) rfl
  have hun : ub A 0 n ≤ n := by unfold ub; split <;> omega
  obtain ⟨w1, q1, q2, q3, q4⟩ := X_h1 hA hn hm (ub A 0 n + 1) fu 0 ⟨0, 0, 0, 0, 0⟩ (si (si w 31 4 (-1)) 31 5 0) (by omega) (by show _ < 300; omega) (PVw_P hV E) ⟨by rw [gi_si, if_neg (by omega), gi_si, if_pos ⟨rfl, rfl⟩]; rfl, by rw [gi_si, if_pos ⟨rfl, rfl⟩]; rfl, fun h => absurd h (Nat.lt_irrefl 0)⟩ ⟨Nat.zero_le _, Nat.zero_le _, Nat.zero_le _, Nat.zero_le _, Nat.zero_le _⟩
  exact ⟨w1, q1, q2, q3, eqo_tr E q4⟩
