/-! EUCLID: both sides bring a fraction to lowest terms -/
def fibn : Nat → Nat
  | 0 => 0
  | 1 => 1
  | n + 2 => fibn n + fibn (n + 1)
/-- the loop on naturals, with so many steps at most: the last divisor, if it ends -/
def eul : Nat → Nat → Nat → Option Nat
  | 0, a, b => if b = 0 then some a else none
  | k + 1, a, b => if b = 0 then some a else eul k b (a % b)
theorem eul_gcd : ∀ (k a b g : Nat), eul k a b = some g → g = Nat.gcd a b
  | 0, a, b, g, h => by
    unfold eul at h
    by_cases hb : b = 0
    · rw [if_pos hb] at h
      cases h
      rw [hb, Nat.gcd_zero_right]
    · rw [if_neg hb] at h
      cases h
  | k + 1, a, b, g, h => by
    unfold eul at h
    by_cases hb : b = 0
    · rw [if_pos hb] at h
      cases h
      rw [hb, Nat.gcd_zero_right]
    · rw [if_neg hb] at h
      have := eul_gcd k b (a % b) g h
      rw [this, Nat.gcd_comm a b, Nat.gcd_rec b a, Nat.gcd_comm]
theorem eul_end : ∀ (k a b : Nat), b < a → (b < fibn (k + 1) ∨ a < fibn (k + 2)) → ∃ g, eul k a b = some g
  | 0, a, b, hab, h => by
    have hb : b = 0 := by
      simp [fibn] at h
      omega
    exact ⟨a, by simp [eul, hb]⟩
  | k + 1, a, b, hab, h => by
    by_cases hb : b = 0
    · exact ⟨a, by simp [eul, hb]⟩
    · have hr : a % b < b := Nat.mod_lt _ (by omega)
      have hf : fibn (k + 1 + 2) = fibn (k + 1) + fibn (k + 2) := rfl
      have hs : a % b ≤ a - b := by
        have e := Nat.div_add_mod a b
        have q : 1 ≤ a / b := Nat.div_pos (by omega) (by omega)
        have : b * 1 ≤ b * (a / b) := Nat.mul_le_mul_left b q
        omega
      obtain ⟨g, hg⟩ := eul_end k b (a % b) hr (by
        rcases h with h | h
        · exact Or.inr h
        · rw [hf] at h
          by_cases hq : b < fibn (k + 2)
          · exact Or.inr hq
          · left
            omega)
      exact ⟨g, by simp [eul, hb, hg]⟩
theorem fib93 : fibn 93 = 12200160415121876738 := by
  have step : ∀ n a b, fibn n = a → fibn (n + 1) = b → fibn (n + 1) = b ∧ fibn (n + 1 + 1) = a + b := fun n a b h1 h2 => ⟨h2, by rw [show fibn (n + 1 + 1) = fibn n + fibn (n + 1) from rfl, h1, h2]⟩
  have it : ∀ k n a b, fibn n = a → fibn (n + 1) = b → fibn (n + k) = (Nat.rec (motive := fun _ => Nat × Nat) (a, b) (fun _ p => (p.2, p.1 + p.2)) k).1 ∧ fibn (n + k + 1) = (Nat.rec (motive := fun _ => Nat × Nat) (a, b) (fun _ p => (p.2, p.1 + p.2)) k).2 := by
    intro k
    induction k with
    | zero => intro n a b h1 h2; exact ⟨h1, h2⟩
    | succ k ih =>
      intro n a b h1 h2
      obtain ⟨q1, q2⟩ := ih n a b h1 h2
      exact step (n + k) _ _ q1 q2
  have := (it 93 0 0 1 rfl rfl).1
  rw [Nat.zero_add] at this
  rw [this]
  decide +kernel
theorem eul_92 {a b : Nat} (ha : a < 2 ^ 63) (hb : b < 2 ^ 63) : eul 92 a b = some (Nat.gcd a b) := by
  have key : ∃ g, eul 92 a b = some g := by
    by_cases h0 : b = 0
    · exact ⟨a, by simp [eul, h0]⟩
    · have hr : a % b < b := Nat.mod_lt _ (by omega)
      obtain ⟨g, hg⟩ := eul_end 91 b (a % b) hr (Or.inr (by rw [show 91 + 2 = 93 from rfl, fib93]; omega))
      refine ⟨g, ?_⟩
      rw [show (92 : Nat) = 91 + 1 from rfl, eul, if_neg h0]
      exact hg
  obtain ⟨g, hg⟩ := key
  rw [hg, eul_gcd 92 a b g hg]
theorem lN_0 : (0 : Int64) = lN 0 := rfl
theorem lN_z {b : Nat} (hb : b < 2 ^ 63) : lN b = 0 ↔ b = 0 := by
  rw [lN_0]
  exact pk_lEQ hb (by omega)
theorem lre_lN {a b : Nat} (ha : a < 2 ^ 63) (h0 : 0 < b) (hb : b < 2 ^ 63) : lre (lN a) (lN b) = lN (a % b) := pk_lRem ha h0 hb
theorem asBy_eul : ∀ (k n a b g : Nat), k < n → a < 2 ^ 63 → b < 2 ^ 63 → eul k a b = some g → f_X12_asBy_b6 n (lN a) (lN b) = some (lN g)
  | k, 0, _, _, _, hn, _, _, _ => absurd hn (by omega)
  | 0, n + 1, a, b, g, hn, ha, hb, h => by
    show f_X12_asBy_b6_y (f_X12_asBy_b6 n) (lN a) (lN b) = _
    unfold f_X12_asBy_b6_y
    by_cases h0 : b = 0
    · rw [if_pos ((lN_z hb).mpr h0)]
      simp [eul, h0] at h
      rw [h]
    · simp [eul, h0] at h
  | k + 1, n + 1, a, b, g, hn, ha, hb, h => by
    show f_X12_asBy_b6_y (f_X12_asBy_b6 n) (lN a) (lN b) = _
    unfold f_X12_asBy_b6_y
    by_cases h0 : b = 0
    · rw [if_pos ((lN_z hb).mpr h0)]
      simp [eul, h0] at h
      rw [h]
    · have hz : ¬ lN b = 0 := fun q => h0 ((lN_z hb).mp q)
      rw [if_neg hz, rmL_d hz, lre_lN ha (by omega) hb]
      have hr : a % b < b := Nat.mod_lt _ (by omega)
      exact asBy_eul k n b (a % b) g (by omega) hb (by omega) (by simpa [eul, h0] using h)
theorem asBy_gcd {a b : Nat} (ha : a < 2 ^ 63) (hb : b < 2 ^ 63) : f_X12_asBy (lN a) (lN b) = some (lN (Nat.gcd a b)) :=
  asBy_eul 92 fu a b _ (by decide) ha hb (eul_92 ha hb)
/-- the end of both: a part of the fraction -/
def lowE (x0 x2 : Int64) (p : Int32) (g : Int64) : Int64 := if p = 0 then x0 / g else x2 / g
theorem asPart_eul (x0 x2 : Int64) (p : Int32) : ∀ (k n a b g : Nat), k < n → a < 2 ^ 63 → b < 2 ^ 63 → 0 < g → g < 2 ^ 63 → eul k a b = some g → f_X12_asPart_b17 n x0 x2 p (lN a) (lN b) = some (lowE x0 x2 p (lN g))
  | k, 0, _, _, _, hn, _, _, _, _, _ => absurd hn (by omega)
  | 0, n + 1, a, b, g, hn, ha, hb, hg, hg2, h => by
    show f_X12_asPart_b17_y (f_X12_asPart_b17 n) x0 x2 p (lN a) (lN b) = _
    unfold f_X12_asPart_b17_y lowE
    by_cases h0 : b = 0
    · rw [if_pos ((lN_z hb).mpr h0)]
      simp [eul, h0] at h
      subst h
      have hz : ¬ lN a = 0 := fun q => by have := (lN_z ha).mp q; omega
      rw [dvL_d hz, dvL_d hz]
      by_cases hp : p = 0
      · rw [if_pos hp, if_pos hp]
      · rw [if_neg hp, if_neg hp]
    · simp [eul, h0] at h
  | k + 1, n + 1, a, b, g, hn, ha, hb, hg, hg2, h => by
    show f_X12_asPart_b17_y (f_X12_asPart_b17 n) x0 x2 p (lN a) (lN b) = _
    unfold f_X12_asPart_b17_y
    by_cases h0 : b = 0
    · rw [if_pos ((lN_z hb).mpr h0)]
      simp [eul, h0] at h
      subst h
      have hz : ¬ lN a = 0 := fun q => by have := (lN_z ha).mp q; omega
      rw [dvL_d hz, dvL_d hz]
      unfold lowE
      by_cases hp : p = 0
      · rw [if_pos hp, if_pos hp]
      · rw [if_neg hp, if_neg hp]
    · have hz : ¬ lN b = 0 := fun q => h0 ((lN_z hb).mp q)
      rw [if_neg hz, rmL_d hz, lre_lN ha (by omega) hb]
      have hr : a % b < b := Nat.mod_lt _ (by omega)
      exact asPart_eul x0 x2 p k n b (a % b) g (by omega) hb (by omega) hg hg2 (by simpa [eul, h0] using h)
theorem low47 {x0 x2 : Int64} {p : Int32} {g : Nat} (hg : 0 < g) (hg2 : g < 2 ^ 63) : f_X11_inLowest_b47 x0 x2 p (lN g) = some (lowE x0 x2 p (lN g)) := by
  unfold f_X11_inLowest_b47 lowE
  have hz : ¬ lN g = 0 := fun q => by have := (lN_z hg2).mp q; omega
  rw [if_neg hz, dvL_d hz, dvL_d hz]
  by_cases hp : p = 0
  · rw [if_pos hp, if_pos hp]
  · rw [if_neg hp, if_neg hp]
theorem inLow_eul (x0 x2 : Int64) (p : Int32) : ∀ (k n a b g i : Nat), k < n → k + i ≤ 100 → a < 2 ^ 63 → b < 2 ^ 63 → 0 < g → g < 2 ^ 63 → eul k a b = some g → f_X11_inLowest_b12 n x0 x2 p (lN a) (lN b) (nI i) = some (lowE x0 x2 p (lN g))
  | k, 0, _, _, _, _, hn, _, _, _, _, _, _ => absurd hn (by omega)
  | 0, n + 1, a, b, g, i, hn, hi, ha, hb, hg, hg2, h => by
    show f_X11_inLowest_b12_y (f_X11_inLowest_b12 n) x0 x2 p (lN a) (lN b) (nI i) = _
    unfold f_X11_inLowest_b12_y
    by_cases h0 : b = 0
    · simp [eul, h0] at h
      subst h
      rw [if_pos (show lN b = 0 from (lN_z hb).mpr h0), low47 hg hg2]
      split <;> rfl
    · simp [eul, h0] at h
  | k + 1, n + 1, a, b, g, i, hn, hi, ha, hb, hg, hg2, h => by
    show f_X11_inLowest_b12_y (f_X11_inLowest_b12 n) x0 x2 p (lN a) (lN b) (nI i) = _
    unfold f_X11_inLowest_b12_y
    by_cases h0 : b = 0
    · simp [eul, h0] at h
      subst h
      rw [if_pos (show lN b = 0 from (lN_z hb).mpr h0), low47 hg hg2]
      split <;> rfl
    · have hz : ¬ lN b = 0 := fun q => h0 ((lN_z hb).mp q)
      have h100 : ¬ (100 : Int32) ≤ nI i := by
        rw [show (100 : Int32) = nI 100 from rfl, nI_leI (by omega) (by omega)]
        omega
      rw [if_neg h100, if_neg hz, rmL_d hz, lre_lN ha (by omega) hb, nI_1]
      have hr : a % b < b := Nat.mod_lt _ (by omega)
      exact inLow_eul x0 x2 p k n b (a % b) g (i + 1) (by omega) (by omega) hb (by omega) hg hg2 (by simpa [eul, h0] using h)
/-- what both answer: the fraction x over b in lowest terms, x any long but the least, b above 0 -/
def low (x : Int64) (b : Nat) (p : Int32) : Int64 := lowE x (lN b) p (lN (Nat.gcd x.toInt.natAbs b))
theorem abs_lN {x : Int64} (h : -2 ^ 63 < x.toInt) : labs x = lN x.toInt.natAbs ∧ x.toInt.natAbs < 2 ^ 63 := by
  have hr := x.toInt_lt
  have hb : x.toInt.natAbs < 2 ^ 63 := by omega
  refine ⟨?_, hb⟩
  unfold labs
  apply Int64.toInt_inj.mp
  rw [pk_lT hb]
  by_cases q : 0 < x
  · rw [if_pos q]
    have := Int64.lt_iff_toInt_lt.mp q
    simp at this
    omega
  · rw [if_neg q]
    have : ¬ (0 : Int64).toInt < x.toInt := fun z => q (Int64.lt_iff_toInt_lt.mpr z)
    simp at this
    rw [Int64.toInt_neg]
    have e : (-x.toInt).bmod (2 ^ 64) = -x.toInt := by
      apply Int.bmod_eq_of_le <;> omega
    rw [e]
    omega
theorem inLowest_low {x : Int64} {b : Nat} {p : Int32} (hx : -2 ^ 63 < x.toInt) (hb0 : 0 < b) (hb : b < 2 ^ 63) : f_X11_inLowest x (lN b) p = some (low x b p) := by
  obtain ⟨ha, hlt⟩ := abs_lN hx
  have hg : 0 < Nat.gcd x.toInt.natAbs b := Nat.gcd_pos_of_pos_right _ hb0
  have hg2 : Nat.gcd x.toInt.natAbs b < 2 ^ 63 := Nat.lt_of_le_of_lt (Nat.gcd_le_right _ hb0) hb
  unfold f_X11_inLowest low
  simp only [lt_d, ha]
  exact inLow_eul x (lN b) p 92 fu _ b _ 0 (by decide) (by decide) hlt hb hg hg2 (eul_92 hlt hb)
theorem asPart_low {x : Int64} {b : Nat} {p : Int32} (hx : -2 ^ 63 < x.toInt) (hb0 : 0 < b) (hb : b < 2 ^ 63) : f_X12_asPart x (lN b) p = some (low x b p) := by
  obtain ⟨ha, hlt⟩ := abs_lN hx
  have hg : 0 < Nat.gcd x.toInt.natAbs b := Nat.gcd_pos_of_pos_right _ hb0
  have hg2 : Nat.gcd x.toInt.natAbs b < 2 ^ 63 := Nat.lt_of_le_of_lt (Nat.gcd_le_right _ hb0) hb
  have key := asPart_eul x (lN b) p 92 fu _ b _ (by decide) hlt hb hg hg2 (eul_92 hlt hb)
  unfold f_X12_asPart f_X12_asPart_b12 low
  unfold labs at ha
  by_cases q : (0 : Int64) ≤ x
  · rw [if_pos q]
    have e : x = lN x.toInt.natAbs := by
      by_cases q2 : 0 < x
      · rw [if_pos q2] at ha; exact ha
      · have h1 := Int64.le_iff_toInt_le.mp q
        have h2 : ¬ (0 : Int64).toInt < x.toInt := fun z => q2 (Int64.lt_iff_toInt_lt.mpr z)
        simp at h1 h2
        apply Int64.toInt_inj.mp
        rw [pk_lT hlt]
        omega
    rw [← e] at key
    exact key
  · rw [if_neg q]
    have q2 : ¬ 0 < x := fun z => q (Int64.le_iff_toInt_le.mpr (by have := Int64.lt_iff_toInt_lt.mp z; omega))
    rw [if_neg q2] at ha
    rw [← ha] at key
    exact key
