/-! LOOKERS OUT OF A ROW -/
abbrev lkC (sz : Nat) (e : Nat → Int) (i L k : Nat) : Prop := L < 6 ∧ i + 2 * k + 1 < sz ∧ (0 ≤ e (i + 2 * k) ∧ e (i + 2 * k) ≤ 12) ∧ 0 ≤ e (i + 2 * k + 1) ∧ e (i + 2 * k + 1) ≤ 99
def lnN (sz : Nat) (e : Nat → Int) (i : Nat) : Nat → Nat → Nat → Nat
  | 0, k, _ => k
  | f + 1, k, L => if lkC sz e i L k then lnN sz e i f (k + 1) (L + 1) else k
def wXl (sz : Nat) (e : Nat → Int) (i : Nat) : Nat → Nat → Nat → Wd → Wd
  | 0, _, _, w => w
  | f + 1, k, L, w => if lkC sz e i L k then wXl sz e i f (k + 1) (L + 1) (addX L (Int32.ofInt (e (i + 2 * k))) (Int32.ofInt (e (i + 2 * k + 1))) w) else w
def wMl (sz : Nat) (e : Nat → Int) (i : Nat) : Nat → Nat → Nat → Wd → Wd
  | 0, _, _, w => w
  | f + 1, k, L, w => if lkC sz e i L k then wMl sz e i f (k + 1) (L + 1) (addM L (Int32.ofInt (e (i + 2 * k))) (Int32.ofInt (e (i + 2 * k + 1))) w) else w
theorem si_comm {w : Wd} {c k c' k' : Nat} {v v' : Int32} (h : ¬ (c = c' ∧ k = k')) : si (si w c k v) c' k' v' = si (si w c' k' v') c k v := by
  refine wd_ext (fun a b => ?_) (fun _ _ => rfl)
  rw [gi_si, gi_si, gi_si, gi_si]
  by_cases h1 : a = c ∧ b = k
  · by_cases h2 : a = c' ∧ b = k'
    · exact absurd ⟨h1.1.symm.trans h2.1, h1.2.symm.trans h2.2⟩ h
    · rw [if_neg h2, if_pos h1, if_pos h1]
  · by_cases h2 : a = c' ∧ b = k'
    · rw [if_pos h2, if_neg h1, if_pos h2]
    · rw [if_neg h2, if_neg h1, if_neg h1, if_neg h2]
theorem addM_addX {L L' : Nat} {s c s' c' : Int32} {w : Wd} : addM L s c (addX L' s' c' w) = addX L' s' c' (addM L s c w) := by
  refine wd_ext (fun a b => ?_) (fun _ _ => rfl)
  unfold addM addX
  simp only [gi_si]
  by_cases h2 : a = 2
  · subst h2; simp
  by_cases h1 : a = 1
  · subst h1; simp
  simp [h1, h2]
theorem addM_wX {sz : Nat} {e : Nat → Int} {i L : Nat} {s c : Int32} : ∀ f k L' w, addM L s c (wXl sz e i f k L' w) = wXl sz e i f k L' (addM L s c w)
  | 0, _, _, _ => rfl
  | f + 1, k, L', w => by
    unfold wXl
    by_cases h : lkC sz e i L' k
    · rw [if_pos h, if_pos h, addM_wX f (k + 1) (L' + 1), addM_addX]
    · rw [if_neg h, if_neg h]
theorem NR_ln {sz : Nat} {e : Nat → Int} {i dn um : Nat} (hb : bOK sz e) : ∀ f k L w, NR L dn um w → ∃ L', NR L' dn um (wMl sz e i f k L (wXl sz e i f k L w)) ∧ L ≤ L' ∧ eqo aN w (wMl sz e i f k L (wXl sz e i f k L w))
  | 0, _, L, w, h => ⟨L, h, Nat.le_refl _, eqo_rf w⟩
  | f + 1, k, L, w, h => by
    unfold wXl wMl
    by_cases c : lkC sz e i L k
    · obtain ⟨c1, c2, c3, c4⟩ := c
      obtain ⟨b1, b2⟩ := hb.2 (i + 2 * k) (by omega)
      obtain ⟨b3, b4⟩ := hb.2 (i + 2 * k + 1) c2
      have cc : lkC sz e i L k := ⟨c1, c2, c3, c4⟩
      rw [if_pos cc, if_pos cc, addM_wX]
      have h1 := NR_add h c1 (s := Int32.ofInt (e (i + 2 * k))) (c := Int32.ofInt (e (i + 2 * k + 1))) (by
        show (0 : Int) ≤ _ ∧ _ ≤ (12 : Int)
        rw [oI_t b1 b2]; exact c3) (by
        show (0 : Int) ≤ _ ∧ _ ≤ (99 : Int)
        rw [oI_t b3 b4]; exact c4)
      obtain ⟨L', q1, q2, q3⟩ := NR_ln hb f (k + 1) (L + 1) _ h1
      exact ⟨L', q1, by omega, eqo_tr (eqo_addM (eqo_addX (eqo_rf w))) q3⟩
    · rw [if_neg c, if_neg c]
      exact ⟨L, h, Nat.le_refl _, eqo_rf w⟩
theorem X_lkl {s sz i n : Nat} {e : Nat → Int} (hs : s < 6) (hi : i < sz) (hn : n ≤ 6) : ∀ (f n' k L : Nat) (w : Wd), k + f = n → f < n' → L ≤ 6 → gi w 1 1 = nI L → RX s sz e w → f_X11_lookers_b52 n' (nI i) (nI n) (42 + 2 * s) (nI k) w = some (nI (lnN sz e i f k L), wXl sz e i f k L w)
  | 0, 0, _, _, _, _, h, _, _, _ => absurd h (by omega)
  | 0, n' + 1, k, L, w, hk, _, _, _, _ => by
    show f_X11_lookers_b52_y (f_X11_lookers_b52 n') (nI i) (nI n) (42 + 2 * s) (nI k) w = _
    unfold f_X11_lookers_b52_y
    rw [if_pos (by rw [nI_leI (by omega) (by omega)]; omega)]
    rfl
  | f + 1, 0, _, _, _, _, h, _, _, _ => absurd h (by omega)
  | f + 1, n' + 1, k, L, w, hk, hf, hL, hg, hR => by
    obtain ⟨⟨r1, r2⟩, r3, r4, r5, r6⟩ := id hR
    have ti := nI_toInt (n := i) (by omega)
    have t2 : (2 : Int32).toInt = 2 := rfl
    have tik := nI_toInt (n := i + 2 * k) (by omega)
    have e2 : (2 : Int32) * nI k = nI (2 * k) := by rw [show (2 : Int32) = nI 2 from rfl, pk_mul]
    have iffL : (nI L = (6 : Int32)) ↔ L = 6 := by rw [show (6 : Int32) = nI 6 from rfl, nI_eq (by omega) (by omega)]
    have hpl : plc (nI (i + 2 * k)) 2 sz ↔ i + 2 * k + 1 < sz := by
      unfold plc
      rw [tik, t2]
      omega
    have cf : f_X11_cameFrom (42 + 2 * s) (nI i) (nI (2 * k)) w = if lkC sz e i L k then some (1, addX L (Int32.ofInt (e (i + 2 * k))) (Int32.ofInt (e (i + 2 * k + 1))) w) else some (0, w) := by
      unfold f_X11_cameFrom
      rw [hg]
      by_cases c0 : L = 6
      · rw [if_pos (iffL.mpr c0), if_neg (fun z => by have := z.1; omega)]
      rw [if_neg (fun q => c0 (iffL.mp q)), X_hasPlace r5 r1, bR_s, ite_b2i, if_pos (by unfold inb; rw [ti]; omega), lt_d, nI_add, X_hasPlaces r5 r1, bR_s, ite_b2i]
      by_cases c1 : i + 2 * k + 1 < sz
      · obtain ⟨b1, b2⟩ := r2 (i + 2 * k) (by omega)
        obtain ⟨b3, b4⟩ := r2 (i + 2 * k + 1) c1
        have m5 : f_X6_mayBe 5 (Int32.ofInt (e (i + 2 * k))) w = some (b2i (inr 5 (Int32.ofInt (e (i + 2 * k))))) := X_mayBe_ok (q := 5) (by omega) _
        have m6 : f_X6_mayBe 6 (Int32.ofInt (e (i + 2 * k + 1))) w = some (b2i (inr 6 (Int32.ofInt (e (i + 2 * k + 1))))) := X_mayBe_ok (q := 6) (by omega) _
        have i5 : inr 5 (Int32.ofInt (e (i + 2 * k))) ↔ 0 ≤ e (i + 2 * k) ∧ e (i + 2 * k) ≤ 12 := by
          show (0 : Int) ≤ _ ∧ _ ≤ (12 : Int) ↔ _
          rw [oI_t b1 b2]
        have i6 : inr 6 (Int32.ofInt (e (i + 2 * k + 1))) ↔ 0 ≤ e (i + 2 * k + 1) ∧ e (i + 2 * k + 1) ≤ 99 := by
          show (0 : Int) ≤ _ ∧ _ ≤ (99 : Int) ↔ _
          rw [oI_t b3 b4]
        rw [if_pos (hpl.mpr c1), X_read r5 r1 (by omega), bR_s, r6 _ (by omega), lt_d, nI_1, X_read r5 r1 c1, bR_s, r6 _ c1, lt_d, oL_i b1 b2, oL_i b3 b4, m5, bR_s, ite_b2i]
        by_cases c2 : inr 5 (Int32.ofInt (e (i + 2 * k)))
        · rw [if_pos c2, m6, bR_s, ite_b2i]
          by_cases c3 : inr 6 (Int32.ofInt (e (i + 2 * k + 1)))
          · rw [if_pos c3, X_add hg (by omega), bW_s, if_pos ⟨by omega, c1, i5.mp c2, i6.mp c3⟩]
          · rw [if_neg c3, if_neg (fun z => c3 (i6.mpr z.2.2.2))]
        · rw [if_neg c2, if_neg (fun z => c2 (i5.mpr z.2.2.1))]
      · rw [if_neg (fun z => c1 (hpl.mp z)), if_neg (fun z => c1 z.2.1)]
    show f_X11_lookers_b52_y (f_X11_lookers_b52 n') (nI i) (nI n) (42 + 2 * s) (nI k) w = _
    unfold f_X11_lookers_b52_y lnN wXl
    rw [if_neg (by rw [nI_leI (by omega) (by omega)]; omega), e2, cf]
    by_cases c : lkC sz e i L k
    · rw [if_pos c, if_pos c, if_pos c, bW_s, if_neg (by decide), nI_1]
      refine X_lkl hs hi hn f n' (k + 1) (L + 1) _ (by omega) (by omega) (by have := c.1; omega) ?_ ?_
      · unfold addX
        rw [gi_si, if_pos ⟨rfl, rfl⟩]
      · have g : ∀ c k, ¬ c = 1 → ¬ c = 2 → gi (addX L (Int32.ofInt (e (i + 2 * k))) (Int32.ofInt (e (i + 2 * k + 1))) w) c k = gi w c k := by
          intro c k a b
          unfold addX
          rw [gi_si, if_neg (by omega), gi_si, if_neg (by omega), gi_si, if_neg (by omega)]
        have g' : ∀ c j, ¬ c = 1 → ¬ c = 2 → gi (addX L (Int32.ofInt (e (i + 2 * k))) (Int32.ofInt (e (i + 2 * k + 1))) w) c j = gi w c j := by
          intro c j a b
          unfold addX
          rw [gi_si, if_neg (by omega), gi_si, if_neg (by omega), gi_si, if_neg (by omega)]
        exact ⟨⟨r1, r2⟩, by rw [g' _ _ (by omega) (by omega)]; exact r3, by rw [g' _ _ (by omega) (by omega)]; exact r4, by rw [g' _ _ (by omega) (by omega)]; exact r5, r6⟩
    · rw [if_neg c, if_neg c, if_neg c, bW_s, if_pos rfl]
theorem M_lkl {s sz i n : Nat} {e : Nat → Int} (hs : s < 6) (hi : i < sz) (hn : n ≤ 6) : ∀ (f n' k L : Nat) (w : Wd), k + f = n → f < n' → L ≤ 6 → gi w 54 3 = nI L → RM s sz e w → f_X12_lookers_b58 n' (nI s) (nI i) (nI n) (nI k) w = some (nI (lnN sz e i f k L), wMl sz e i f k L w)
  | 0, 0, _, _, _, _, h, _, _, _ => absurd h (by omega)
  | 0, n' + 1, k, L, w, hk, _, _, _, _ => by
    have hkn : k = n := hk
    show f_X12_lookers_b58_y (f_X12_lookers_b58 n') (nI s) (nI i) (nI n) (nI k) w = _
    unfold f_X12_lookers_b58_y
    rw [if_pos (by rw [nI_leI (by omega) (by omega)]; omega), ← hkn]
    rfl
  | f + 1, 0, _, _, _, _, h, _, _, _ => absurd h (by omega)
  | f + 1, n' + 1, k, L, w, hk, hf, hL, hg, hR => by
    obtain ⟨⟨r1, r2⟩, r3, r4, r5⟩ := id hR
    have e2 : (2 : Int32) * nI k = nI (2 * k) := by rw [show (2 : Int32) = nI 2 from rfl, pk_mul]
    have iffL : (nI L = (6 : Int32)) ↔ L = 6 := by rw [show (6 : Int32) = nI 6 from rfl, nI_eq (by omega) (by omega)]
    have n0 : ¬ lN (i + 2 * k) < 0 := by
      rw [show (0 : Int64) = lN 0 from rfl, pk_lLT (by omega) (by omega)]
      omega
    have iffs : (lN sz ≤ lN (i + 2 * k + 1)) ↔ sz ≤ i + 2 * k + 1 := pk_lLE (by omega) (by omega)
    show f_X12_lookers_b58_y (f_X12_lookers_b58 n') (nI s) (nI i) (nI n) (nI k) w = _
    unfold f_X12_lookers_b58_y lnN wMl
    rw [if_neg (by rw [nI_leI (by omega) (by omega)]; omega), e2, nI_l (by omega), nI_l (by omega), lN_add, lt_d, if_neg n0, ldI_d (inb_nI hs (by omega)), ix_nI (by omega), r4, nI_l (by omega), lN_1, hg]
    by_cases c1 : i + 2 * k + 1 < sz
    · rw [if_neg (fun q => by have := iffs.mp q; omega)]
      by_cases c0 : L = 6
      · have nc : ¬ lkC sz e i L k := fun z => by have := z.1; omega
        rw [if_pos (iffL.mpr c0), if_neg nc, if_neg nc]
      · obtain ⟨b1, b2⟩ := r2 (i + 2 * k) (by omega)
        obtain ⟨b3, b4⟩ := r2 (i + 2 * k + 1) c1
        have f1 : gl w 84 (60 * s + (i + 2 * k)) = Int64.ofInt (e (i + 2 * k)) := r5 _ (by omega)
        have f2 : gl w 84 (60 * s + (i + 2 * k) + 1) = Int64.ofInt (e (i + 2 * k + 1)) := r5 (i + 2 * k + 1) c1
        rw [if_neg (fun q => c0 (iffL.mp q)), lN_i, show (60 : Int32) = nI 60 from rfl, pk_mul, nI_add, lt_d, ldL_d (inb_nI (by omega) (by omega)), ix_nI (by omega), f1, oL_i b1 b2, M_in, bR_s, ite_b2i, oI_t b1 b2]
        by_cases c2 : (0 : Int32).toInt ≤ e (i + 2 * k) ∧ e (i + 2 * k) ≤ (12 : Int32).toInt
        · rw [if_pos c2, nI_1, ldL_d (inb_nI (by omega) (by omega)), ix_nI (by omega), f2, oL_i b3 b4, M_in, bR_s, ite_b2i, oI_t b3 b4]
          by_cases c3 : (0 : Int32).toInt ≤ e (i + 2 * k + 1) ∧ e (i + 2 * k + 1) ≤ (99 : Int32).toInt
          · have cc : lkC sz e i L k := ⟨by omega, c1, c2, c3⟩
            rw [if_pos c3, if_pos cc, if_pos cc, ldL_d (inb_nI (by omega) (by omega)), ix_nI (by omega), f1, ldL_d (inb_nI (by omega) (by omega)), ix_nI (by omega), f2, oL_i b1 b2, oL_i b3 b4, M_add hg (by omega), bW_s, nI_1]
            refine M_lkl hs hi hn f n' (k + 1) (L + 1) _ (by omega) (by omega) (by omega) ?_ ?_
            · unfold addM
              rw [gi_si, if_pos ⟨rfl, rfl⟩]
            · have g' : ∀ c j, ¬ c = 54 → ¬ c = 57 → ¬ c = 58 → gi (addM L (Int32.ofInt (e (i + 2 * k))) (Int32.ofInt (e (i + 2 * k + 1))) w) c j = gi w c j := by
                intro c j a b x
                unfold addM
                rw [gi_si, if_neg (by omega), gi_si, if_neg (by omega), gi_si, if_neg (by omega)]
              exact ⟨⟨r1, r2⟩, by rw [g' _ _ (by omega) (by omega) (by omega)]; exact r3, by rw [g' _ _ (by omega) (by omega) (by omega)]; exact r4, r5⟩
          · have nc : ¬ lkC sz e i L k := fun z => c3 z.2.2.2
            rw [if_neg c3, if_neg nc, if_neg nc]
        · have nc : ¬ lkC sz e i L k := fun z => c2 z.2.2.1
          rw [if_neg c2, if_neg nc, if_neg nc]
    · have nc : ¬ lkC sz e i L k := fun z => c1 z.2.1
      rw [if_pos (iffs.mpr (by omega)), if_neg nc, if_neg nc]
theorem wXl_eqo {sz : Nat} {e : Nat → Int} {i : Nat} : ∀ f k L w, (∀ c j, ¬ c = 1 → ¬ c = 2 → gi (wXl sz e i f k L w) c j = gi w c j) ∧ ∀ c j, gl (wXl sz e i f k L w) c j = gl w c j
  | 0, _, _, _ => ⟨fun _ _ _ _ => rfl, fun _ _ => rfl⟩
  | f + 1, k, L, w => by
    unfold wXl
    by_cases c : lkC sz e i L k
    · rw [if_pos c]
      obtain ⟨a, b⟩ := wXl_eqo (sz := sz) (e := e) (i := i) f (k + 1) (L + 1) (addX L (Int32.ofInt (e (i + 2 * k))) (Int32.ofInt (e (i + 2 * k + 1))) w)
      refine ⟨fun c j n1 n2 => ?_, fun c j => by rw [b c j]; rfl⟩
      rw [a c j n1 n2]
      unfold addX
      rw [gi_si, if_neg (by omega), gi_si, if_neg (by omega), gi_si, if_neg (by omega)]
    · rw [if_neg c]
      exact ⟨fun _ _ _ _ => rfl, fun _ _ => rfl⟩
theorem T_lookers {w : Wd} {L dn um nb : Nat} (hN : NR L dn um w) (hS : SR nb w) (a1 a2 a3 : Int32) : ∃ r w1 w2 L', f_X11_lookers a1 a2 a3 w = some (r, w1) ∧ f_X12_lookers a1 a2 a3 w1 = some (r, w2) ∧ NR L' dn um w2 ∧ L ≤ L' ∧ eqo aN w w2 := by
  have t1 : (1 : Int32).toInt = 1 := rfl
  have t6 : (6 : Int32).toInt = 6 := rfl
  obtain ⟨k1, k2, k3, _⟩ := id hN
  have neg1 : (0 : Int32) = 0 := rfl
  by_cases h : inb a1 6 ∧ 1 ≤ a3.toInt ∧ a3.toInt ≤ 6
  · obtain ⟨h1, h3, h4⟩ := h
    obtain ⟨s, hs, rfl⟩ := of_inb h1
    obtain ⟨n, hn, rfl⟩ := of_inb (i := a3) (N := 7) ⟨by omega, by omega⟩
    have X0 : f_X11_lookers (nI s) a2 (nI n) w = (bR (f_X9_isEmpty (42 + 2 * s) w) fun r3 => if r3 = (0 : Int32) then (bR (f_X9_isBytes (42 + 2 * s) w) fun r4 => if r4 = (0 : Int32) then (some ((-12 : Int32), w)) else (f_X11_lookers_b52 fu a2 (nI n) (42 + 2 * s) (0 : Int32) w)) else (some ((0 : Int32), w))) := by
      unfold f_X11_lookers
      rw [X_isShelf, bR_s, ite_b2i, if_pos h1, if_neg (by rw [fa_lt]; omega), if_pos (by rw [fa_le]; omega), ldR_d h1, ix_nI (by omega)]
    have M0 : ∀ w', f_X12_lookers (nI s) a2 (nI n) w' = (if gi w' 82 s = (-1 : Int32) then (some ((0 : Int32), w')) else if gi w' 82 s = (-2 : Int32) then f_X12_lookers_b58 fu (nI s) a2 (nI n) (0 : Int32) w' else (some ((-12 : Int32), w'))) := by
      intro w'
      unfold f_X12_lookers f_X12_lookers_b43
      rw [M_isShelf, bR_s, ite_b2i, if_pos h1, M_in, bR_s, ite_b2i, if_pos (by omega), ldI_d h1, ix_nI (by omega), ldI_d h1, ix_nI (by omega), ldI_d h1, ix_nI (by omega)]
      by_cases c : gi w' 82 s = -1
      · rw [if_pos c, if_pos c, if_pos c]
      · rw [if_neg c, if_neg c, if_neg c]
    rcases hS.2 s hs with ⟨a, b⟩ | ⟨b, hb, q1, q2, q3⟩ | ⟨t, sz, q1, q2, q3, q4, q5, q6, q7, q8, q9⟩
    · refine ⟨0, w, w, L, ?_, ?_, hN, Nat.le_refl _, eqo_rf w⟩
      · rw [X0, X_isEmpty, bR_s, ite_b2i, if_pos a]
      · rw [M0, if_pos b]
    · have hb50 := hS.1
      have tb := nI_toInt (n := b) (by omega)
      refine ⟨-12, w, w, L, ?_, ?_, hN, Nat.le_refl _, eqo_rf w⟩
      · rw [X0, X_isEmpty, bR_s, ite_b2i, if_neg (by rw [q1]; decide), X_isBytes, bR_s, ite_b2i, if_neg]
        rw [q1]; exact fun z => absurd z.1 (by decide)
      · rw [M0, q3, if_neg, if_neg]
        · intro z
          have := congrArg Int32.toInt z
          rw [tb] at this
          have e : (-2 : Int32).toInt = -2 := rfl
          omega
        · intro z
          have := congrArg Int32.toInt z
          rw [tb] at this
          have e : (-1 : Int32).toInt = -1 := rfl
          omega
    · by_cases ht : t = 0
      · subst ht
        have hRX : RX s sz (fun i => (gl w (42 + 2 * s + 1) i).toInt) w := ⟨⟨q7, q9 rfl⟩, q1, q2, q3, fun i _ => (Int64.ofInt_toInt _).symm⟩
        have hRM : RM s sz (fun i => (gl w (42 + 2 * s + 1) i).toInt) w := ⟨⟨q7, q9 rfl⟩, q4, q5, fun i hi => by rw [← q8 i hi]; exact (Int64.ofInt_toInt _).symm⟩
        generalize (fun i => (gl w (42 + 2 * s + 1) i).toInt) = e at hRX hRM
        have X1 : f_X11_lookers (nI s) a2 (nI n) w = f_X11_lookers_b52 fu a2 (nI n) (42 + 2 * s) 0 w := by
          rw [X0, X_isEmpty, bR_s, ite_b2i, if_neg (by rw [q1]; decide), X_isBytes, bR_s, ite_b2i, if_pos ⟨q1, q2⟩]
        have M1 : ∀ w', gi w' 82 s = -2 → f_X12_lookers (nI s) a2 (nI n) w' = f_X12_lookers_b58 fu (nI s) a2 (nI n) 0 w' := by
          intro w' hw
          rw [M0, hw, if_neg (by decide), if_pos rfl]
        by_cases hi : inb a2 sz
        · obtain ⟨i, hi2, rfl⟩ := of_inb hi
          have x := X_lkl (n := n) (i := i) hs hi2 (by omega) n fu 0 L w (by omega) (by show _ < 300; omega) k1 k2 hRX
          obtain ⟨g1, g2⟩ := wXl_eqo (sz := sz) (e := e) (i := i) n 0 L w
          have hRM' : RM s sz e (wXl sz e i n 0 L w) := by
            obtain ⟨z1, z2, z3, z4⟩ := hRM
            exact ⟨z1, by rw [g1 82 s (by omega) (by omega)]; exact z2, by rw [g1 83 s (by omega) (by omega)]; exact z3, fun i hi => by rw [g2]; exact z4 i hi⟩
          have y := M_lkl (n := n) (i := i) hs hi2 (by omega) n fu 0 L (wXl sz e i n 0 L w) (by omega) (by show _ < 300; omega) k1 (by rw [g1 54 3 (by omega) (by omega)]; exact k3) hRM'
          obtain ⟨L', r1, r2, r3⟩ := NR_ln (i := i) hRX.1 n 0 L w hN
          exact ⟨_, _, _, L', X1.trans x, (M1 _ hRM'.2.1).trans y, r1, r2, r3⟩
        · refine ⟨0, w, w, L, ?_, ?_, hN, Nat.le_refl _, eqo_rf w⟩
          · rw [X1]
            show f_X11_lookers_b52_y (f_X11_lookers_b52 299) a2 (nI n) (42 + 2 * s) 0 w = _
            unfold f_X11_lookers_b52_y f_X11_cameFrom
            have tn := nI_toInt (n := n) (by omega)
            rw [if_neg (by rw [fa_le, tn, ti_0]; omega), X_hasPlace q3 q7, bR_s, ite_b2i, if_neg hi]
            by_cases c : gi w 1 1 = 6
            · rw [if_pos c, bW_s, if_pos rfl]
            · rw [if_neg c, bW_s, if_pos rfl]
          · rw [M1 w q4]
            show f_X12_lookers_b58_y (f_X12_lookers_b58 299) (nI s) a2 (nI n) 0 w = _
            unfold f_X12_lookers_b58_y
            have tn := nI_toInt (n := n) (by omega)
            have e0 : Int32.toInt64 a2 + Int32.toInt64 ((2 : Int32) * 0) = Int32.toInt64 a2 := by
              show Int32.toInt64 a2 + 0 = _
              exact Int64.add_zero _
            have ta : (Int32.toInt64 a2).toInt = a2.toInt := Int32.toInt_toInt64 a2
            rw [if_neg (by rw [fa_le, tn, ti_0]; omega), e0, lt_d]
            by_cases c : a2.toInt < 0
            · rw [if_pos (by rw [ll_lt, ta]; exact c)]
            · have hge : (sz : Int) ≤ a2.toInt := Classical.byContradiction (fun q => hi ⟨by omega, by omega⟩)
              have hr := i_rng a2
              have ta1 : (Int32.toInt64 a2 + 1).toInt = a2.toInt + 1 := by
                rw [Int64.toInt_add, ta]
                show (a2.toInt + 1).bmod _ = _
                apply Int.bmod_eq_of_le <;> omega
              have n0 : ¬ Int32.toInt64 a2 < 0 := by
                rw [ll_lt, ta]
                exact c
              rw [if_neg n0, ldI_d h1, ix_nI (by omega), q5, nI_l (by omega), if_pos]
              rw [ll_le, ta1, pk_lT (by omega)]
              omega
      · have hc : t = 1 ∨ t = 2 ∨ t = 3 ∨ t = 4 := by omega
        refine ⟨-12, w, w, L, ?_, ?_, hN, Nat.le_refl _, eqo_rf w⟩
        · rw [X0, X_isEmpty, bR_s, ite_b2i, if_neg (by rw [q1]; decide), X_isBytes, bR_s, ite_b2i, if_neg]
          rw [q2]; intro z
          rcases hc with y | y | y | y <;> subst y <;> exact absurd z.2 (by decide)
        · rw [M0, q4]
          rcases hc with y | y | y | y <;> subst y <;> rfl
  · refine ⟨-1, w, w, L, ?_, ?_, hN, Nat.le_refl _, eqo_rf w⟩
    · unfold f_X11_lookers
      rw [X_isShelf, bR_s, ite_b2i]
      by_cases c1 : inb a1 6
      · rw [if_pos c1]
        by_cases c2 : a3 < 1
        · rw [if_pos c2]
        · rw [if_neg c2, if_neg]
          intro c3
          rw [fa_lt] at c2
          rw [fa_le] at c3
          exact h ⟨c1, by omega, by omega⟩
      · rw [if_neg c1]
    · unfold f_X12_lookers
      rw [M_isShelf, bR_s, ite_b2i]
      by_cases c1 : inb a1 6
      · rw [if_pos c1, M_in, bR_s, ite_b2i, if_neg]
        intro z
        exact h ⟨c1, by omega, by omega⟩
      · rw [if_neg c1]
