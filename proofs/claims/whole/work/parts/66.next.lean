/-! LOOKS IN THOUGHT: next -/
def nx (L : Nat) (G : Nat → Int) : Nat → Nat → Int32 → Int → Int32
  | 0, _, best, _ => best
  | f + 1, i, best, M => if (i = 6 ∨ i < L) ∧ M < G i then nx L G f (i + 1) (nI i) (G i) else nx L G f (i + 1) best M
theorem nx_0 {L : Nat} {G : Nat → Int} (h : ∀ i, G i ≤ 0) : ∀ f i best, nx L G f i best 0 = best
  | 0, _, _ => rfl
  | f + 1, i, best => by
    unfold nx
    rw [if_neg (fun z => by have := z.2; have := h i; omega)]
    exact nx_0 h f (i + 1) best
theorem nx_sc {L : Nat} {G G' : Nat → Int} {g : Nat} (hg : 0 < g) (h : ∀ i, G i = g * G' i) : ∀ f i best M', nx L G f i best (g * M') = nx L G' f i best M'
  | 0, _, _, _ => rfl
  | f + 1, i, best, M' => by
    unfold nx
    have hgi : (0 : Int) < (g : Int) := by omega
    have e : ((g : Int) * M' < G i) ↔ (M' < G' i) := by
      rw [h i]
      exact Int.mul_lt_mul_left hgi
    by_cases c : (i = 6 ∨ i < L) ∧ M' < G' i
    · rw [if_pos c, if_pos ⟨c.1, e.mpr c.2⟩, h i, nx_sc hg h f (i + 1) (nI i) (G' i)]
    · rw [if_neg c, if_neg (fun z => c ⟨z.1, e.mp z.2⟩), nx_sc hg h f (i + 1) best M']
theorem X_nx {A : Ab} {m : Nat} {p : Nat → Nat} (hA : Aok A) (hm : m ≤ 4) (hb1 : stoN p ≤ 54 * 8916100448256) (hb2 : sumN p ≤ 36 * 8916100448256) : ∀ (f n i : Nat) (best : Int32) (M : Int) (w : Wd), i + f = 7 → f < n → -9223372036854775808 < M → M < 9223372036854775808 → VX A w → PT 17 m p w → ∃ w', f_X11_next_b50 n (nI m) best (Int64.ofInt M) (nI i) w = some (nx A.L (fun who => gnI A who m (stoN p) (sumN p)) f i best M, w') ∧ eqo sEY w w'
  | 0, 0, _, _, _, _, _, h, _, _, _, _ => absurd h (by omega)
  | 0, n + 1, i, best, M, w, hi, _, _, _, _, _ => by
    refine ⟨w, ?_, eqo_rf w⟩
    show f_X11_next_b50_y (f_X11_next_b50 n) (nI m) best (Int64.ofInt M) (nI i) w = _
    unfold f_X11_next_b50_y
    have t := nI_toInt (n := i) (by omega)
    rw [if_pos (by rw [fa_lt, t]; show (6 : Int) < (i : Int); omega)]
    rfl
  | f + 1, 0, _, _, _, _, _, h, _, _, _, _ => absurd h (by omega)
  | f + 1, n + 1, i, best, M, w, hi, hn, hM1, hM2, hX, hP => by
    have h6 := hA.1
    have t := nI_toInt (n := i) (by omega)
    have iff6 : (nI i = (6 : Int32)) ↔ i = 6 := by rw [show (6 : Int32) = nI 6 from rfl, nI_eq (by omega) (by omega)]
    have iffL : inb (nI i) A.L ↔ i < A.L := by
      unfold inb
      rw [t]
      omega
    show ∃ w', f_X11_next_b50_y (f_X11_next_b50 n) (nI m) best (Int64.ofInt M) (nI i) w = some (if (i = 6 ∨ i < A.L) ∧ M < gnI A i m (stoN p) (sumN p) then nx A.L (fun who => gnI A who m (stoN p) (sumN p)) f (i + 1) (nI i) (gnI A i m (stoN p) (sumN p)) else nx A.L (fun who => gnI A who m (stoN p) (sumN p)) f (i + 1) best M, w') ∧ eqo sEY w w'
    unfold f_X11_next_b50_y f_X11_next_b79 f_X11_next_b105
    rw [if_neg (by rw [fa_lt, t]; show ¬ (6 : Int) < (i : Int); omega), X_isLooker hX.2.1 h6, bR_s, ite_b2i]
    by_cases c : i = 6 ∨ i < A.L
    · obtain ⟨w1, p1, p2⟩ := X_gain hX hm c hP
      have gb := gnI_b hA (m := m) (who := i) (by omega) hb1 hb2
      have hX1 := VX_s hX (eqo_mono p2 sEY_s)
      have hP1 := eqo_PT hP p2 (fun _ _ => rfl)
      have ec : (Int64.ofInt (gnI A i m (stoN p) (sumN p)) ≤ Int64.ofInt M) ↔ gnI A i m (stoN p) (sumN p) ≤ M := by rw [ll_le, oL_b (by omega) (by omega), oL_b (by omega) (by omega)]
      have go : ∃ w', (bW (f_X11_gain (nI i) (nI m) w) fun r7 w8 => if r7 ≤ Int64.ofInt M then f_X11_next_b50 n (nI m) best (Int64.ofInt M) (nI i + 1) w8 else f_X11_next_b50 n (nI m) (nI i) r7 (nI i + 1) w8) = some (if (i = 6 ∨ i < A.L) ∧ M < gnI A i m (stoN p) (sumN p) then nx A.L (fun who => gnI A who m (stoN p) (sumN p)) f (i + 1) (nI i) (gnI A i m (stoN p) (sumN p)) else nx A.L (fun who => gnI A who m (stoN p) (sumN p)) f (i + 1) best M, w') ∧ eqo sEY w w' := by
        rw [p1, bW_s, nI_1]
        by_cases z : M < gnI A i m (stoN p) (sumN p)
        · have cz : (i = 6 ∨ i < A.L) ∧ M < gnI A i m (stoN p) (sumN p) := ⟨c, z⟩
          have ne : ¬ Int64.ofInt (gnI A i m (stoN p) (sumN p)) ≤ Int64.ofInt M := fun q => by have := ec.mp q; omega
          rw [if_pos cz, if_neg ne]
          obtain ⟨w2, q1, q2⟩ := X_nx hA hm hb1 hb2 f n (i + 1) (nI i) (gnI A i m (stoN p) (sumN p)) w1 (by omega) (by omega) (by omega) (by omega) hX1 hP1
          exact ⟨w2, q1, eqo_tr p2 q2⟩
        · have ncz : ¬ ((i = 6 ∨ i < A.L) ∧ M < gnI A i m (stoN p) (sumN p)) := fun q => z q.2
          rw [if_neg ncz, if_pos (ec.mpr (by omega))]
          obtain ⟨w2, q1, q2⟩ := X_nx hA hm hb1 hb2 f n (i + 1) best M w1 (by omega) (by omega) hM1 hM2 hX1 hP1
          exact ⟨w2, q1, eqo_tr p2 q2⟩
      by_cases z6 : i = 6
      · rw [if_pos (iff6.mpr z6)]
        exact go
      · rw [if_neg (fun q => z6 (iff6.mp q)), if_pos (iffL.mpr (by omega))]
        exact go
    · have ncz : ¬ ((i = 6 ∨ i < A.L) ∧ M < gnI A i m (stoN p) (sumN p)) := fun q => c q.1
      have n6 : ¬ nI i = (6 : Int32) := fun q => c (Or.inl (iff6.mp q))
      have nL : ¬ inb (nI i) A.L := fun q => c (Or.inr (iffL.mp q))
      rw [if_neg ncz, if_neg n6, if_neg nL, nI_1]
      exact X_nx hA hm hb1 hb2 f n (i + 1) best M w (by omega) (by omega) hM1 hM2 hX hP
theorem M_nx {A : Ab} {m : Nat} {p : Nat → Nat} (hA : Aok A) (hm : m ≤ 4) (h0 : 0 < sumN p) (hb1 : stoN p ≤ 54 * 8916100448256) (hb2 : sumN p ≤ 36 * 8916100448256) : ∀ (f n i : Nat) (best : Int32) (M : Int) (w : Wd), i + f = 7 → f < n → -9223372036854775808 < M → M < 9223372036854775808 → VM A w → PT 71 m p w → ∃ w', f_X12_next_b60 n (nI m) best (Int64.ofInt M) (nI i) w = some (nx A.L (fun who => gnI A who m (stoN p / Nat.gcd (stoN p) (sumN p)) (sumN p / Nat.gcd (stoN p) (sumN p))) f i best M, w') ∧ eqo scr w w'
  | 0, 0, _, _, _, _, _, h, _, _, _, _ => absurd h (by omega)
  | 0, n + 1, i, best, M, w, hi, _, _, _, _, _ => by
    refine ⟨w, ?_, eqo_rf w⟩
    show f_X12_next_b60_y (f_X12_next_b60 n) (nI m) best (Int64.ofInt M) (nI i) w = _
    unfold f_X12_next_b60_y
    have t := nI_toInt (n := i) (by omega)
    rw [if_pos (by rw [fa_lt, t]; show (6 : Int) < (i : Int); omega)]
    rfl
  | f + 1, 0, _, _, _, _, _, h, _, _, _, _ => absurd h (by omega)
  | f + 1, n + 1, i, best, M, w, hi, hn, hM1, hM2, hV, hP => by
    have h6 := hA.1
    have t := nI_toInt (n := i) (by omega)
    have iff6 : (nI i = (6 : Int32)) ↔ i = 6 := by rw [show (6 : Int32) = nI 6 from rfl, nI_eq (by omega) (by omega)]
    have iffL : inb (nI i) A.L ↔ i < A.L := by
      unfold inb
      rw [t]
      omega
    obtain ⟨g0, g1, g2, g3⟩ := gcd_split (a := stoN p) (b := sumN p) h0
    have hfw := fun (c : i = 6 ∨ i < A.L) => M_fw hV hm c hP h0 (by omega) (by omega)
    have gs1 : stoN p / Nat.gcd (stoN p) (sumN p) ≤ stoN p := Nat.div_le_self _ _
    have gs2 : sumN p / Nat.gcd (stoN p) (sumN p) ≤ sumN p := Nat.div_le_self _ _
    have IH := fun best M w (h1 : -9223372036854775808 < M) (h2 : M < 9223372036854775808) (hV : VM A w) (hP : PT 71 m p w) => M_nx hA hm h0 hb1 hb2 f n (i + 1) best M w (by omega) (by omega) h1 h2 hV hP
    generalize stoN p / Nat.gcd (stoN p) (sumN p) = st' at *
    generalize sumN p / Nat.gcd (stoN p) (sumN p) = su' at *
    show ∃ w', f_X12_next_b60_y (f_X12_next_b60 n) (nI m) best (Int64.ofInt M) (nI i) w = some (if (i = 6 ∨ i < A.L) ∧ M < gnI A i m st' su' then nx A.L (fun who => gnI A who m st' su') f (i + 1) (nI i) (gnI A i m st' su') else nx A.L (fun who => gnI A who m st' su') f (i + 1) best M, w') ∧ eqo scr w w'
    unfold f_X12_next_b60_y f_X12_next_b86 f_X12_next_b116
    rw [if_neg (by rw [fa_lt, t]; show ¬ (6 : Int) < (i : Int); omega), M_isLooker hV.2.1 h6, bR_s, ite_b2i]
    by_cases c : i = 6 ∨ i < A.L
    · obtain ⟨w1, p1, p2, p3, p4, p5⟩ := hfw c
      have gb := gnI_b hA (m := m) (who := i) (sto := st') (sum := su') (by omega) (by omega) (by omega)
      have hV1 := VM_s hV p5
      have ec : (Int64.ofInt M < Int64.ofInt (gnI A i m st' su')) ↔ M < gnI A i m st' su' := by rw [ll_lt, oL_b (by omega) (by omega), oL_b (by omega) (by omega)]
      have go : ∃ w', (bV (f_X12_findWorth (nI m) (nI i) w) fun w7 => if Int64.ofInt M < gl w7 54 32 then lt (gl w7 54 32) fun y8 => f_X12_next_b60 n (nI m) (nI i) y8 (nI i + 1) w7 else f_X12_next_b60 n (nI m) best (Int64.ofInt M) (nI i + 1) w7) = some (if (i = 6 ∨ i < A.L) ∧ M < gnI A i m st' su' then nx A.L (fun who => gnI A who m st' su') f (i + 1) (nI i) (gnI A i m st' su') else nx A.L (fun who => gnI A who m st' su') f (i + 1) best M, w') ∧ eqo scr w w' := by
        rw [p1, bV_s, nI_1, p2]
        by_cases z : M < gnI A i m st' su'
        · have cz : (i = 6 ∨ i < A.L) ∧ M < gnI A i m st' su' := ⟨c, z⟩
          rw [if_pos cz, if_pos (ec.mpr z), lt_d]
          obtain ⟨w2, q1, q2⟩ := IH (nI i) (gnI A i m st' su') w1 (by omega) (by omega) hV1 p4
          exact ⟨w2, q1, eqo_tr p5 q2⟩
        · have ncz : ¬ ((i = 6 ∨ i < A.L) ∧ M < gnI A i m st' su') := fun q => z q.2
          have ne : ¬ Int64.ofInt M < Int64.ofInt (gnI A i m st' su') := fun q => z (ec.mp q)
          rw [if_neg ncz, if_neg ne]
          obtain ⟨w2, q1, q2⟩ := IH best M w1 hM1 hM2 hV1 p4
          exact ⟨w2, q1, eqo_tr p5 q2⟩
      by_cases z6 : i = 6
      · rw [if_pos (iff6.mpr z6)]
        exact go
      · rw [if_neg (fun q => z6 (iff6.mp q)), if_pos (iffL.mpr (by omega))]
        exact go
    · have ncz : ¬ ((i = 6 ∨ i < A.L) ∧ M < gnI A i m st' su') := fun q => c q.1
      have n6 : ¬ nI i = (6 : Int32) := fun q => c (Or.inl (iff6.mp q))
      have nL : ¬ inb (nI i) A.L := fun q => c (Or.inr (iffL.mp q))
      rw [if_neg ncz, if_neg n6, if_neg nL, nI_1]
      exact IH best M w hM1 hM2 hV hP
theorem T_next {A : Ab} {nb : Nat} {w : Wd} (hX : VX A w) (hM : VM A w) (hS : SR nb w) (a1 a2 : Int32) : ∃ r w1 w2, f_X11_next a1 a2 w = some (r, w1) ∧ f_X12_next a1 a2 w1 = some (r, w2) ∧ eqo scr w w2 := by
  have h6 := hX.1.1
  by_cases h1 : inb a1 6
  · by_cases h2 : inb a2 4
    · obtain ⟨s, hs, rfl⟩ := of_inb h1
      obtain ⟨b, hb, rfl⟩ := of_inb h2
      rcases shelf_or hS hs with ⟨sz, e, hRX, hRM, _, hB, hRF⟩ | ⟨r, hr, _, hB, hRF⟩
      · obtain ⟨w1, p1, p2, p3, p4⟩ := X_think hX hs hb hRX
        have hmle := (lkn_le (L := A.L) (n := sz) (e := e) (any := false) 4 0).2.1
        have hX1 := VX_s hX p4
        have MG := fun w' (hV : VM A w') (hR : RM s sz e w') => M_goLooks (b := b) hV hs hb hR
        generalize hm : lkn A.L sz e false 4 0 = m at p1 p2 MG hmle
        obtain ⟨b1, b2, b3⟩ := lad_b hX.1 (e := e) hb (d := m) (by omega)
        have ez : (lN (sumN (lad A e b m)) = 0) ↔ sumN (lad A e b m) = 0 := lN_z (by omega)
        obtain ⟨w2, q1, q2⟩ := X_nx hX.1 (by omega) b3 b2 7 fu 0 (-2) 0 w1 (by omega) (by show 7 < 300; omega) (by omega) (by omega) hX1 p2
        have hs2 := eqo_tr p4 (eqo_mono q2 sEY_s)
        obtain ⟨w3, r1, r2, r3⟩ := MG w2 (VM_s hM hs2) (RM_s hRM hs2)
        have X1 : f_X11_next (nI s) (nI b) w = some (nx A.L (fun who => gnI A who m (stoN (lad A e b m)) (sumN (lad A e b m))) 7 0 (-2) 0, w2) := by
          unfold f_X11_next
          rw [X_isShelf, bR_s, ite_b2i, if_pos h1, X_isBag, bR_s, ite_b2i, if_pos h2, ldR_d h1, ix_nI (by omega), hB, bR_s, if_pos (by decide), p1, bW_s]
          exact q1
        by_cases z : sumN (lad A e b m) = 0
        · have z2 : stoN (lad A e b m) = 0 := by
            unfold sumN at z
            unfold stoN
            omega
          refine ⟨-2, w2, w3, ?_, ?_, eqo_tr hs2 r3⟩
          · rw [X1, z, z2]
            rw [nx_0]
            intro i
            unfold gnI
            simp
          · unfold f_X12_next
            rw [M_isShelf, bR_s, ite_b2i, if_pos h1, M_isBag, bR_s, ite_b2i, if_pos h2, hRF w2 (RM_s hRM hs2), bR_s, if_pos (by decide), r1, bW_s, M_all (by omega) r2, bR_s, if_pos (ez.mpr z)]
        · have hs3 := eqo_tr hs2 r3
          obtain ⟨w4, s1, s2⟩ := M_nx hX.1 (by omega) (by omega) b3 b2 7 fu 0 (-2) 0 w3 (by omega) (by show 7 < 300; omega) (by omega) (by omega) (VM_s hM hs3) r2
          refine ⟨_, w2, w4, X1, ?_, eqo_tr hs3 s2⟩
          unfold f_X12_next
          rw [M_isShelf, bR_s, ite_b2i, if_pos h1, M_isBag, bR_s, ite_b2i, if_pos h2, hRF w2 (RM_s hRM hs2), bR_s, if_pos (by decide), r1, bW_s, M_all (by omega) r2, bR_s, if_neg (fun q => z (ez.mp q))]
          refine Eq.trans s1 ?_
          obtain ⟨g0, g1, g2, g3⟩ := gcd_split (a := stoN (lad A e b m)) (b := sumN (lad A e b m)) (by omega)
          have := nx_sc (L := A.L) (G := fun who => gnI A who m (stoN (lad A e b m)) (sumN (lad A e b m))) (G' := fun who => gnI A who m (stoN (lad A e b m) / Nat.gcd (stoN (lad A e b m)) (sumN (lad A e b m))) (sumN (lad A e b m) / Nat.gcd (stoN (lad A e b m)) (sumN (lad A e b m)))) g0 (fun i => by
            show gnI A i m (stoN (lad A e b m)) (sumN (lad A e b m)) = _ * gnI A i m _ _
            rw [← gnI_g, ← g1, ← g2]) 7 0 (-2) 0
          rw [Int.mul_zero] at this
          rw [this]
      · refine ⟨r, w, w, ?_, ?_, eqo_rf w⟩
        · unfold f_X11_next
          rw [X_isShelf, bR_s, ite_b2i, if_pos h1, X_isBag, bR_s, ite_b2i, if_pos h2, ldR_d h1, ix_nI (by omega), hB, bR_s, if_neg (by rcases hr with q | q <;> subst q <;> decide)]
        · unfold f_X12_next
          rw [M_isShelf, bR_s, ite_b2i, if_pos h1, M_isBag, bR_s, ite_b2i, if_pos h2, hRF, bR_s, if_neg (by rcases hr with q | q <;> subst q <;> decide), bR_s]
    · refine ⟨-1, w, w, ?_, ?_, eqo_rf w⟩
      · unfold f_X11_next
        rw [X_isShelf, bR_s, ite_b2i, if_pos h1, X_isBag, bR_s, ite_b2i, if_neg h2]
      · unfold f_X12_next
        rw [M_isShelf, bR_s, ite_b2i, if_pos h1, M_isBag, bR_s, ite_b2i, if_neg h2]
  · refine ⟨-1, w, w, ?_, ?_, eqo_rf w⟩
    · unfold f_X11_next
      rw [X_isShelf, bR_s, ite_b2i, if_neg h1]
    · unfold f_X12_next
      rw [M_isShelf, bR_s, ite_b2i, if_neg h1]
