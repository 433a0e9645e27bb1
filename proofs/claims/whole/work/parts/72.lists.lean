/-! TWO LISTS -/
abbrev lsOK (n : Nat) : Prop := n / 10000 ≤ 20 ∧ n / 100 % 100 ≤ 20 ∧ n % 100 ≤ n / 10000 ∧ n % 100 ≤ n / 100 % 100
theorem ls_div {n : Nat} (hn : n < 2 ^ 31) : (nI n / 10000 = nI (n / 10000)) ∧ (ire (nI n / 100) 100 = nI (n / 100 % 100)) ∧ (ire (nI n) 100 = nI (n % 100)) ∧ nI n / 100 = nI (n / 100) := by
  have e1 : nI n / 10000 = nI (n / 10000) := by rw [show (10000 : Int32) = nI 10000 from rfl, pk_div hn (by omega) (by omega)]
  have e2 : nI n / 100 = nI (n / 100) := by rw [show (100 : Int32) = nI 100 from rfl, pk_div hn (by omega) (by omega)]
  refine ⟨e1, ?_, ?_, e2⟩
  · rw [e2]
    unfold ire
    rw [show (100 : Int32) = nI 100 from rfl, pk_rem (by omega) (by omega) (by omega)]
  · unfold ire
    rw [show (100 : Int32) = nI 100 from rfl, pk_rem hn (by omega) (by omega)]
theorem imin_nI {a b : Nat} (ha : a < 2 ^ 31) (hb : b < 2 ^ 31) : imin (nI a) (nI b) = nI (min a b) := by
  have ta := nI_toInt ha
  have tb := nI_toInt hb
  unfold imin
  by_cases c : b < a
  · rw [if_pos (by rw [fa_lt, ta, tb]; omega), Nat.min_eq_right (by omega)]
  · rw [if_neg (by rw [fa_lt, ta, tb]; omega), Nat.min_eq_left (by omega)]
theorem X_areLists {n : Nat} (hn : n < 2 ^ 31) : f_X11_areLists (nI n) = some (b2i (lsOK n)) := by
  obtain ⟨e1, e2, e3, _⟩ := ls_div hn
  have t := nI_toInt hn
  have t1 := nI_toInt (n := n / 10000) (by omega)
  have t2 := nI_toInt (n := n / 100 % 100) (by omega)
  have t3 := nI_toInt (n := n % 100) (by omega)
  have t20 : (20 : Int32).toInt = 20 := rfl
  have tm := nI_toInt (n := min (n / 10000) (n / 100 % 100)) (by omega)
  unfold f_X11_areLists b2i
  rw [if_pos (by rw [fa_le, t, ti_0]; omega), lt_d, lt_d, lt_d, e1, e2, e3, imin_nI (by omega) (by omega)]
  by_cases c1 : 20 < n / 10000
  · rw [if_pos (by rw [fa_lt, t1, t20]; omega), if_neg (fun z => by have := z.1; omega)]
  rw [if_neg (by rw [fa_lt, t1, t20]; omega)]
  by_cases c2 : 20 < n / 100 % 100
  · rw [if_pos (by rw [fa_lt, t2, t20]; omega), if_neg (fun z => by have := z.2.1; omega)]
  rw [if_neg (by rw [fa_lt, t2, t20]; omega)]
  by_cases c3 : min (n / 10000) (n / 100 % 100) < n % 100
  · rw [if_pos (by rw [fa_lt, tm, t3]; omega), if_neg (fun z => by have := z.2.2; omega)]
  · rw [if_neg (by rw [fa_lt, tm, t3]; omega), if_pos ⟨by omega, by omega, by omega, by omega⟩]
theorem M_areLists {n : Nat} (hn : n < 2 ^ 31) : f_X12_areLists (nI n) = some (b2i (lsOK n)) := by
  obtain ⟨e1, e2, e3, _⟩ := ls_div hn
  have t := nI_toInt hn
  have t1 := nI_toInt (n := n / 10000) (by omega)
  have t2 := nI_toInt (n := n / 100 % 100) (by omega)
  have t3 := nI_toInt (n := n % 100) (by omega)
  have t20 : (20 : Int32).toInt = 20 := rfl
  unfold f_X12_areLists b2i
  rw [if_neg (by rw [fa_lt, t, ti_0]; omega), e1, e2, e3]
  by_cases c1 : 20 < n / 10000
  · rw [if_pos (by rw [fa_lt, t1, t20]; omega), if_neg (fun z => by have := z.1; omega)]
  rw [if_neg (by rw [fa_lt, t1, t20]; omega)]
  by_cases c2 : 20 < n / 100 % 100
  · rw [if_pos (by rw [fa_lt, t2, t20]; omega), if_neg (fun z => by have := z.2.1; omega)]
  rw [if_neg (by rw [fa_lt, t2, t20]; omega)]
  by_cases c3 : n / 10000 < n % 100
  · rw [if_pos (by rw [fa_lt, t1, t3]; omega), if_neg (fun z => by have := z.2.2.1; omega)]
  rw [if_neg (by rw [fa_lt, t1, t3]; omega)]
  by_cases c4 : n / 100 % 100 < n % 100
  · rw [if_pos (by rw [fa_lt, t2, t3]; omega), if_neg (fun z => by have := z.2.2.2; omega)]
  · rw [if_neg (by rw [fa_lt, t2, t3]; omega), if_pos ⟨by omega, by omega, by omega, by omega⟩]
theorem T_lists (a1 a2 a3 : Int32) : ∃ r, f_X11_lists a1 a2 a3 = some r ∧ f_X12_lists a1 a2 a3 = some r := by
  have t0 : (0 : Int32).toInt = 0 := rfl
  have t1 : (1 : Int32).toInt = 1 := rfl
  by_cases hneg : a1 < 0
  · refine ⟨NONE, ?_, ?_⟩
    · unfold f_X11_lists f_X11_areLists
      rw [if_neg (by rw [fa_lt] at hneg; rw [fa_le]; omega), bR_s, if_pos rfl]
    · unfold f_X12_lists f_X12_areLists
      rw [if_pos hneg, bR_s, if_pos rfl]
  obtain ⟨n, hn, rfl⟩ := nI_of hneg
  obtain ⟨e1, e2, e3, _⟩ := ls_div hn
  by_cases h : lsOK n ∧ inb a2 2 ∧ inb a3 2
  · obtain ⟨h1, h2, h3⟩ := h
    obtain ⟨j, hj, rfl⟩ := of_inb h2
    have tj := nI_toInt (n := j) (by omega)
    have X0 : f_X11_lists (nI n) (nI j) a3 = if nI (n % 100) = (0 : Int32) then some (-2) else if nI j = (0 : Int32) then (bR (f_X11_inLowest (Int32.toInt64 (nI (n / 10000) * nI (n / 100 % 100))) (Int32.toInt64 (nI (n % 100))) a3) fun r7 => some r7) else (bR (f_X11_inLowest (Int32.toInt64 ((nI (n / 10000) - nI (n % 100)) * (nI (n / 100 % 100) - nI (n % 100)))) (Int32.toInt64 (nI (n % 100))) a3) fun r6 => some r6) := by
      unfold f_X11_lists
      rw [X_areLists hn, bR_s, ite_b2i, if_pos h1, if_neg (by rw [fa_lt, tj, t0]; omega), if_neg (by rw [fa_lt, tj, t1]; omega), X_isPart, bR_s, ite_b2i, if_pos h3, lt_d, lt_d, lt_d, e1, e2, e3]
    have M0 : f_X12_lists (nI n) (nI j) a3 = if nI (n % 100) = (0 : Int32) then some (-2) else if nI j = (0 : Int32) then f_X12_lists_b89 a3 (nI (n % 100)) (Int32.toInt64 (nI (n / 10000) * nI (n / 100 % 100))) else f_X12_lists_b89 a3 (nI (n % 100)) (Int32.toInt64 ((nI (n / 10000) * nI (n / 100 % 100)) - (((nI (n / 10000) + nI (n / 100 % 100)) - nI (n % 100)) * nI (n % 100)))) := by
      unfold f_X12_lists
      rw [M_areLists hn, bR_s, ite_b2i, if_pos h1, M_in, bR_s, ite_b2i, if_pos (by rw [tj, t0, t1]; omega), M_isPart, bR_s, ite_b2i, if_pos h3, lt_d, lt_d, lt_d, e1, e2, e3]
    obtain ⟨q1, q2, q3, q4⟩ := h1
    rw [X0, M0]
    unfold f_X12_lists_b89
    generalize n / 10000 = a at *
    generalize n / 100 % 100 = b at *
    generalize n % 100 = c at *
    have hab : a * b ≤ 20 * 20 := Nat.mul_le_mul q1 q2
    by_cases z : c = 0
    · subst z
      rw [if_pos (show nI 0 = (0 : Int32) from rfl)]
      exact ⟨_, rfl, rfl⟩
    · have nz : ¬ nI c = (0 : Int32) := by rw [show (0 : Int32) = nI 0 from rfl, nI_eq (by omega) (by omega)]; exact z
      rw [if_neg nz, if_neg nz]
      by_cases zj : j = 0
      · subst zj
        rw [if_pos (show nI 0 = (0 : Int32) from rfl), if_pos (show nI 0 = (0 : Int32) from rfl), pk_mul, nI_l (by omega), nI_l (by omega), inLowest_low (lN_t (by omega)) (by omega) (by omega), asPart_low (lN_t (by omega)) (by omega) (by omega), bR_s]
        exact ⟨_, rfl, rfl⟩
      · have nj : ¬ nI j = (0 : Int32) := by rw [show (0 : Int32) = nI 0 from rfl, nI_eq (by omega) (by omega)]; exact zj
        have hcab : (a + b - c) * c ≤ a * b := by
          obtain ⟨x, rfl⟩ : ∃ x, a = c + x := ⟨a - c, by omega⟩
          obtain ⟨y, rfl⟩ : ∃ y, b = c + y := ⟨b - c, by omega⟩
          rw [show c + x + (c + y) - c = c + x + y by omega, Nat.add_mul, Nat.mul_add, Nat.mul_comm (c + x) c, Nat.mul_comm y c]
          have : c * y ≤ (c + x) * y := Nat.mul_le_mul_right y (by omega)
          omega
        have heq : (a - c) * (b - c) = a * b - (a + b - c) * c := by
          obtain ⟨x, rfl⟩ : ∃ x, a = c + x := ⟨a - c, by omega⟩
          obtain ⟨y, rfl⟩ : ∃ y, b = c + y := ⟨b - c, by omega⟩
          rw [show c + x + (c + y) - c = c + x + y by omega, show c + x - c = x by omega, show c + y - c = y by omega, Nat.mul_add, Nat.add_mul, Nat.add_mul, Nat.add_mul, Nat.add_mul, Nat.mul_comm y c]
          omega
        have hle2 : (a - c) * (b - c) ≤ 20 * 20 := Nat.mul_le_mul (by omega) (by omega)
        rw [if_neg nj, if_neg nj, pk_sub q3, pk_sub q4, pk_mul, pk_mul, nI_add, pk_sub (show c ≤ a + b by omega), pk_mul, pk_sub hcab, ← heq, nI_l (by omega), nI_l (by omega), inLowest_low (lN_t (by omega)) (by omega) (by omega), asPart_low (lN_t (by omega)) (by omega) (by omega), bR_s]
        exact ⟨_, rfl, rfl⟩
  · refine ⟨NONE, ?_, ?_⟩
    · unfold f_X11_lists
      rw [X_areLists hn, bR_s, ite_b2i]
      by_cases c1 : lsOK n
      · rw [if_pos c1]
        by_cases c2 : a2 < 0
        · rw [if_pos c2]
        rw [if_neg c2]
        by_cases c3 : 1 < a2
        · rw [if_pos c3]
        rw [if_neg c3, X_isPart, bR_s, ite_b2i, if_neg]
        intro c4
        rw [fa_lt] at c2 c3
        exact h ⟨c1, ⟨by omega, by omega⟩, c4⟩
      · rw [if_neg c1]
    · unfold f_X12_lists
      rw [M_areLists hn, bR_s, ite_b2i]
      by_cases c1 : lsOK n
      · rw [if_pos c1, M_in, bR_s, ite_b2i]
        by_cases c2 : (0 : Int32).toInt ≤ a2.toInt ∧ a2.toInt ≤ (1 : Int32).toInt
        · rw [if_pos c2, M_isPart, bR_s, ite_b2i, if_neg]
          intro c4
          exact h ⟨c1, ⟨by omega, by omega⟩, c4⟩
        · rw [if_neg c2]
      · rw [if_neg c1]
theorem lik_eq (x2 x3 x4 : Int32) : ∀ (f n k : Nat), k + f = 60 → f < n → ∃ r, f_X11_likeliest_b37 n x2 x3 x4 (nI k) = some r ∧ f_X12_likeliest_b37 n x2 x3 x4 (nI k) = some r
  | 0, 0, _, _, h => absurd h (by omega)
  | 0, n + 1, k, hk, _ => by
    show ∃ r, f_X11_likeliest_b37_y (f_X11_likeliest_b37 n) x2 x3 x4 (nI k) = some r ∧ f_X12_likeliest_b37_y (f_X12_likeliest_b37 n) x2 x3 x4 (nI k) = some r
    unfold f_X11_likeliest_b37_y f_X12_likeliest_b37_y
    have c : (60 : Int32) ≤ nI k := by rw [show (60 : Int32) = nI 60 from rfl, nI_leI (by omega) (by omega)]; omega
    rw [if_pos c, if_pos c]
    exact ⟨_, rfl, rfl⟩
  | f + 1, 0, _, _, h => absurd h (by omega)
  | f + 1, n + 1, k, hk, hn => by
    show ∃ r, f_X11_likeliest_b37_y (f_X11_likeliest_b37 n) x2 x3 x4 (nI k) = some r ∧ f_X12_likeliest_b37_y (f_X12_likeliest_b37 n) x2 x3 x4 (nI k) = some r
    unfold f_X11_likeliest_b37_y f_X12_likeliest_b37_y
    have c : ¬ (60 : Int32) ≤ nI k := by rw [show (60 : Int32) = nI 60 from rfl, nI_leI (by omega) (by omega)]; omega
    rw [if_neg c, if_neg c, Int32.mul_comm x4, nI_1]
    by_cases d : x2 * x3 ≤ nI (k + 1) * x4
    · rw [if_pos d, if_pos d]
      exact ⟨_, rfl, rfl⟩
    · rw [if_neg d, if_neg d]
      exact lik_eq x2 x3 x4 f n (k + 1) (by omega) (by omega)
theorem T_likeliest (a1 : Int32) : ∃ r, f_X11_likeliest a1 = some r ∧ f_X12_likeliest a1 = some r := by
  by_cases hneg : a1 < 0
  · refine ⟨-1, ?_, ?_⟩
    · unfold f_X11_likeliest f_X11_areLists
      rw [if_neg (by rw [fa_lt] at hneg; rw [fa_le]; have : (0 : Int32).toInt = 0 := rfl; omega), bR_s, if_pos rfl]
    · unfold f_X12_likeliest f_X12_areLists
      rw [if_pos hneg, bR_s, if_pos rfl]
  obtain ⟨n, hn, rfl⟩ := nI_of hneg
  obtain ⟨e1, e2, e3, _⟩ := ls_div hn
  unfold f_X11_likeliest f_X12_likeliest
  rw [X_areLists hn, M_areLists hn, bR_s, bR_s, ite_b2i, ite_b2i]
  by_cases h : lsOK n
  · obtain ⟨q1, q2, q3, q4⟩ := id h
    rw [if_pos h, if_pos h, lt_d, lt_d, lt_d, lt_d, lt_d, lt_d, lt_d, lt_d, e1, e2, e3, nI_add, pk_sub (by omega)]
    exact lik_eq _ _ _ (60 - (n / 10000 + n / 100 % 100 - n % 100)) fu _ (by omega) (by show _ < 300; omega)
  · rw [if_neg h, if_neg h]
    exact ⟨_, rfl, rfl⟩
