/-! ROWS OF BYTES: what both sides see; LOOK rows as the class reads them -/
theorem ll_lt (a b : Int64) : a < b ↔ a.toInt < b.toInt := Int64.lt_iff_toInt_lt
theorem ll_le (a b : Int64) : a ≤ b ↔ a.toInt ≤ b.toInt := Int64.le_iff_toInt_le
theorem oL_t {z : Int} (h1 : -128 ≤ z) (h2 : z ≤ 127) : (Int64.ofInt z).toInt = z := Int64.toInt_ofInt_of_le (by omega) (by omega)
theorem oI_t {z : Int} (h1 : -128 ≤ z) (h2 : z ≤ 127) : (Int32.ofInt z).toInt = z := Int32.toInt_ofInt_of_le (by omega) (by omega)
theorem oL_i {z : Int} (h1 : -128 ≤ z) (h2 : z ≤ 127) : (Int64.ofInt z).toInt32 = Int32.ofInt z := by
  apply Int32.toInt_inj.mp
  rw [Int64.toInt_toInt32, oL_t h1 h2, oI_t h1 h2]
  apply Int.bmod_eq_of_le <;> omega
theorem oI_n {z : Int} (h : 0 ≤ z) : Int32.ofInt z = nI z.toNat := by
  obtain ⟨n, rfl⟩ := Int.eq_ofNat_of_zero_le h
  rfl
def bOK (n : Nat) (e : Nat → Int) : Prop := n ≤ 60 ∧ ∀ i, i < n → -128 ≤ e i ∧ e i ≤ 127
def RX (s n : Nat) (e : Nat → Int) (w : Wd) : Prop := bOK n e ∧ gi w (42 + 2 * s) 0 = 2 ∧ gi w (42 + 2 * s) 2 = 0 ∧ gi w (42 + 2 * s) 3 = nI n ∧ ∀ i, i < n → gl w (42 + 2 * s + 1) i = Int64.ofInt (e i)
def RM (s n : Nat) (e : Nat → Int) (w : Wd) : Prop := bOK n e ∧ gi w 82 s = -2 ∧ gi w 83 s = nI n ∧ ∀ i, i < n → gl w 84 (60 * s + i) = Int64.ofInt (e i)
theorem RX_s {s n : Nat} {e : Nat → Int} {w w' : Wd} (hs : s < 6) (h : RX s n e w) (he : eqo scr w w') : RX s n e w' := by
  have k1 : ∀ k, scr (42 + 2 * s) k = false := fun k => by
    cases hq : scr (42 + 2 * s) k with
    | false => rfl
    | true =>
      simp only [scr, Bool.or_eq_true, Bool.and_eq_true, beq_iff_eq, decide_eq_true_eq] at hq
      omega
  have k2 : ∀ k, scr (42 + 2 * s + 1) k = false := fun k => by
    cases hq : scr (42 + 2 * s + 1) k with
    | false => rfl
    | true =>
      simp only [scr, Bool.or_eq_true, Bool.and_eq_true, beq_iff_eq, decide_eq_true_eq] at hq
      omega
  obtain ⟨a, b, c, d, f⟩ := h
  exact ⟨a, by rw [(he _ _ (k1 0)).1]; exact b, by rw [(he _ _ (k1 2)).1]; exact c, by rw [(he _ _ (k1 3)).1]; exact d, fun i hi => by rw [(he _ _ (k2 i)).2]; exact f i hi⟩
theorem RM_s {s n : Nat} {e : Nat → Int} {w w' : Wd} (h : RM s n e w) (he : eqo scr w w') : RM s n e w' := by
  obtain ⟨a, b, c, d⟩ := h
  exact ⟨a, by rw [(he 82 s rfl).1]; exact b, by rw [(he 83 s rfl).1]; exact c, fun i hi => by rw [(he 84 _ rfl).2]; exact d i hi⟩
/-- a shelf is a row of bytes for both, or both refuse it alike -/
theorem shelf_or {nb s : Nat} {w : Wd} (hS : SR nb w) (hs : s < 6) : (∃ n e, RX s n e w ∧ RM s n e w ∧ f_X9_isBytes (42 + 2 * s) w = some 1 ∧ f_X9_refusalAsBytes (42 + 2 * s) w = some 0 ∧ ∀ w', RM s n e w' → f_X12_rowFault (nI s) w' = some 0) ∨ (∃ r, (r = -11 ∨ r = -12) ∧ f_X9_isBytes (42 + 2 * s) w = some 0 ∧ f_X9_refusalAsBytes (42 + 2 * s) w = some r ∧ f_X12_rowFault (nI s) w = some r) := by
  have rf0 : ∀ w', f_X12_rowFault (nI s) w' = if gi w' 82 s = -1 then some (-11) else if gi w' 82 s = -2 then some 0 else some (-12) := by
    intro w'
    unfold f_X12_rowFault
    rw [ldI_d (inb_nI hs (by omega)), ldI_d (inb_nI hs (by omega)), ix_nI (by omega)]
  have rfx : f_X9_refusalAsBytes (42 + 2 * s) w = if gi w (42 + 2 * s) 0 = 0 then some (-11) else if gi w (42 + 2 * s) 0 = 2 ∧ gi w (42 + 2 * s) 2 = 0 then some 0 else some (-12) := by
    unfold f_X9_refusalAsBytes
    rw [X_isEmpty, X_isBytes, bR_s, bR_s, ite_b2i, ite_b2i]
  rcases hS.2 s hs with ⟨a, b⟩ | ⟨b, hb, a1, a2, a3⟩ | ⟨t, n, a1, a2, a3, a4, a5, a6, a7, a8, a9⟩
  · refine Or.inr ⟨-11, Or.inl rfl, ?_, ?_, ?_⟩
    · rw [X_isBytes, b2i_f]
      rw [a]; exact fun z => absurd z.1 (by decide)
    · rw [rfx, if_pos a]
    · rw [rf0, if_pos b]
  · refine Or.inr ⟨-12, Or.inr rfl, ?_, ?_, ?_⟩
    · rw [X_isBytes, b2i_f]
      rw [a1]; exact fun z => absurd z.1 (by decide)
    · rw [rfx, if_neg (by rw [a1]; decide), if_neg]
      rw [a1]; exact fun z => absurd z.1 (by decide)
    · have := hS.1
      have t := nI_toInt (n := b) (by omega)
      rw [rf0, a3, if_neg, if_neg]
      · intro z
        have := congrArg Int32.toInt z
        rw [t] at this
        have e : (-2 : Int32).toInt = -2 := rfl
        omega
      · intro z
        have := congrArg Int32.toInt z
        rw [t] at this
        have e : (-1 : Int32).toInt = -1 := rfl
        omega
  · by_cases ht : t = 0
    · subst ht
      refine Or.inl ⟨n, fun i => (gl w (42 + 2 * s + 1) i).toInt, ⟨⟨a7, a9 rfl⟩, a1, a2, a3, fun i _ => (Int64.ofInt_toInt _).symm⟩, ⟨⟨a7, a9 rfl⟩, a4, a5, fun i hi => ?_⟩, ?_, ?_, ?_⟩
      · rw [← a8 i hi]; exact (Int64.ofInt_toInt _).symm
      · rw [X_isBytes, b2i_t]; exact ⟨a1, a2⟩
      · rw [rfx, if_neg (by rw [a1]; decide), if_pos]; exact ⟨a1, a2⟩
      · intro w' h'
        rw [rf0, h'.2.1, if_neg (by decide), if_pos rfl]
    · have hc : t = 1 ∨ t = 2 ∨ t = 3 ∨ t = 4 := by omega
      refine Or.inr ⟨-12, Or.inr rfl, ?_, ?_, ?_⟩
      · rw [X_isBytes, b2i_f]
        rw [a2]; intro z
        rcases hc with q | q | q | q <;> subst q <;> exact absurd z.2 (by decide)
      · rw [rfx, if_neg (by rw [a1]; decide), if_neg]
        rw [a2]; intro z
        rcases hc with q | q | q | q <;> subst q <;> exact absurd z.2 (by decide)
      · rw [rf0, a4]
        rcases hc with q | q | q | q <;> subst q <;> rfl
/-- how many looks of a row count -/
abbrev lkc (L n : Nat) (e : Nat → Int) (any : Bool) (k : Nat) : Prop := 2 * k + 1 < n ∧ 0 ≤ e (2 * k) ∧ e (2 * k) < L ∧ (any = true ∨ (0 ≤ e (2 * k + 1) ∧ e (2 * k + 1) ≤ 3))
def lkn (L n : Nat) (e : Nat → Int) (any : Bool) : Nat → Nat → Nat
  | 0, k => k
  | f + 1, k => if lkc L n e any k then lkn L n e any f (k + 1) else k
theorem lkn_le {L n : Nat} {e : Nat → Int} {any : Bool} : ∀ f k, k ≤ lkn L n e any f k ∧ lkn L n e any f k ≤ k + f ∧ ∀ i, k ≤ i → i < lkn L n e any f k → lkc L n e any i
  | 0, k => ⟨Nat.le_refl _, Nat.le_refl _, fun i h1 h2 => by
      have : lkn L n e any 0 k = k := rfl
      omega⟩
  | f + 1, k => by
    unfold lkn
    by_cases c : lkc L n e any k
    · rw [if_pos c]
      obtain ⟨a, b, d⟩ := lkn_le (L := L) (n := n) (e := e) (any := any) f (k + 1)
      refine ⟨by omega, by omega, fun i h1 h2 => ?_⟩
      by_cases z : i = k
      · rw [z]; exact c
      · exact d i (by omega) h2
    · rw [if_neg c]
      exact ⟨Nat.le_refl _, by omega, fun i h1 h2 => by omega⟩
def LKX (m : Nat) (e : Nat → Int) (w : Wd) : Prop := gi w 13 2 = nI m ∧ ∀ i, i < m → gi w 14 i = nI (e (2 * i)).toNat ∧ gi w 15 i = Int32.ofInt (e (2 * i + 1))
def sLK (c _k : Nat) : Bool := 13 ≤ c && c ≤ 15
theorem sLK_s : ∀ c k, sLK c k = true → scr c k = true := by
  intro c k h
  simp only [sLK, scr, Bool.or_eq_true, Bool.and_eq_true, beq_iff_eq, decide_eq_true_eq] at h ⊢
  omega
theorem X_rd {L s sz : Nat} {e : Nat → Int} {any : Bool} (hL : L ≤ 6) (hs : s < 6) : ∀ (m n k : Nat) (w : Wd), k + m = 4 → m < n → RX s sz e w → LKX k e w → ∃ w', f_X5_read_b5 n (42 + 2 * s) (nI L) (if any = true then 1 else 0) w = some w' ∧ LKX (lkn L sz e any m k) e w' ∧ eqo sLK w w'
  | 0, 0, _, _, _, h, _, _ => absurd h (by omega)
  | 0, n + 1, k, w, hk, _, hR, hK => by
    refine ⟨w, ?_, hK, eqo_rf w⟩
    show f_X5_read_b5_y (f_X5_read_b5 n) (42 + 2 * s) (nI L) _ w = _
    unfold f_X5_read_b5_y
    rw [hK.1, if_pos (by rw [show (4 : Int32) = nI 4 from rfl, nI_leI (by omega) (by omega)]; omega)]
  | m + 1, 0, _, _, _, h, _, _ => absurd h (by omega)
  | m + 1, n + 1, k, w, hk, hn, hR, hK => by
    obtain ⟨⟨r1, r2⟩, r3, r4, r5, r6⟩ := id hR
    obtain ⟨k1, k2⟩ := id hK
    have e2 : (2 : Int32) * nI k = nI (2 * k) := by rw [show (2 : Int32) = nI 2 from rfl, pk_mul]
    have t2 := nI_toInt (n := 2 * k) (by omega)
    have hpl : plc (nI (2 * k)) 2 sz ↔ 2 * k + 1 < sz := by
      unfold plc
      rw [t2]
      have : (2 : Int32).toInt = 2 := rfl
      omega
    have tw : f_X5_readTwo (42 + 2 * s) (nI L) (if any = true then 1 else 0) w = if lkc L sz e any k then some (1, si (si w 14 k (nI (e (2 * k)).toNat)) 15 k (Int32.ofInt (e (2 * k + 1)))) else some (0, w) := by
      unfold f_X5_readTwo
      rw [k1, e2, X_hasPlaces r5 r1, bR_s, ite_b2i]
      by_cases c1 : 2 * k + 1 < sz
      · rw [if_pos (hpl.mpr c1), nI_1, X_read r5 r1 (by omega), bR_s, X_read r5 r1 c1, bR_s, r6 _ (by omega), r6 _ c1]
        obtain ⟨b1, b2⟩ := r2 (2 * k) (by omega)
        obtain ⟨b3, b4⟩ := r2 (2 * k + 1) c1
        have tl := nI_l (n := L) (by omega)
        have tL := pk_lT (n := L) (by omega)
        have x1 : (Int64.ofInt (e (2 * k)) < 0) ↔ e (2 * k) < 0 := by
          rw [ll_lt, oL_t b1 b2]
          exact Iff.rfl
        have x2 : ((nI L).toInt64 ≤ Int64.ofInt (e (2 * k))) ↔ (L : Int) ≤ e (2 * k) := by
          rw [tl, ll_le, tL, oL_t b1 b2]
        have b71 : f_X5_readTwo_b71 (Int64.ofInt (e (2 * k))) (Int64.ofInt (e (2 * k + 1))) w = some (1, si (si w 14 k (Int32.ofInt (e (2 * k)))) 15 k (Int32.ofInt (e (2 * k + 1)))) := by
          unfold f_X5_readTwo_b71
          have g13 : gi (si w 14 k (Int32.ofInt (e (2 * k)))) 13 2 = nI k := by rw [gi_si, if_neg (by omega)]; exact k1
          rw [k1, oL_i b1 b2, oL_i b3 b4, saI_d (inb_nI (by omega) (by omega)), ix_nI (by omega), g13, saI_d (inb_nI (by omega) (by omega)), ix_nI (by omega)]
        by_cases c2 : e (2 * k) < 0
        · rw [if_pos (x1.mpr c2), if_neg (fun z => by have := z.2.1; omega)]
        · rw [if_neg (fun z => c2 (x1.mp z))]
          by_cases c3 : (L : Int) ≤ e (2 * k)
          · rw [if_pos (x2.mpr c3), if_neg (fun z => by have := z.2.2.1; omega)]
          · rw [if_neg (fun z => c3 (x2.mp z)), b71, oI_n (by omega)]
            cases any with
            | true =>
              rw [if_neg (show ¬ (if true = true then (1 : Int32) else 0) = 0 by decide), if_pos ⟨c1, by omega, by omega, Or.inl rfl⟩]
            | false =>
              have isf : f_X5_isFound (Int64.ofInt (e (2 * k + 1))) = some (b2i (0 ≤ e (2 * k + 1) ∧ e (2 * k + 1) ≤ 3)) := by
                unfold f_X5_isFound b2i
                have y1 : (Int64.ofInt (e (2 * k + 1)) < 0) ↔ e (2 * k + 1) < 0 := by
                  rw [ll_lt, oL_t b3 b4]
                  exact Iff.rfl
                have y2 : ((3 : Int64) < Int64.ofInt (e (2 * k + 1))) ↔ 3 < e (2 * k + 1) := by
                  rw [ll_lt, oL_t b3 b4]
                  exact Iff.rfl
                by_cases z1 : e (2 * k + 1) < 0
                · rw [if_pos (y1.mpr z1), if_neg (by omega)]
                · rw [if_neg (fun z => z1 (y1.mp z))]
                  by_cases z2 : 3 < e (2 * k + 1)
                  · rw [if_pos (y2.mpr z2), if_neg (by omega)]
                  · rw [if_neg (fun z => z2 (y2.mp z)), if_pos (by omega)]
              rw [if_pos (show (if false = true then (1 : Int32) else 0) = 0 by decide), isf, bR_s, ite_b2i]
              by_cases c4 : 0 ≤ e (2 * k + 1) ∧ e (2 * k + 1) ≤ 3
              · rw [if_pos c4, if_pos ⟨c1, by omega, by omega, Or.inr c4⟩]
              · rw [if_neg c4, if_neg]
                intro z
                rcases z.2.2.2 with q | q
                · cases q
                · exact c4 q
      · rw [if_neg (fun z => c1 (hpl.mp z)), if_neg (fun z => c1 z.1)]
    show ∃ w', f_X5_read_b5_y (f_X5_read_b5 n) (42 + 2 * s) (nI L) _ w = some w' ∧ _
    unfold f_X5_read_b5_y
    rw [k1, if_neg (by rw [show (4 : Int32) = nI 4 from rfl, nI_leI (by omega) (by omega)]; omega), tw]
    unfold lkn
    by_cases c : lkc L sz e any k
    · rw [if_pos c, if_pos c, bW_s, if_neg (by decide), stI_d]
      have g13 : gi (si (si w 14 k (nI (e (2 * k)).toNat)) 15 k (Int32.ofInt (e (2 * k + 1)))) 13 2 = nI k := by rw [gi_si, if_neg (by omega), gi_si, if_neg (by omega)]; exact k1
      rw [g13, nI_1]
      have E : eqo sLK w (si (si (si w 14 k (nI (e (2 * k)).toNat)) 15 k (Int32.ofInt (e (2 * k + 1)))) 13 2 (nI (k + 1))) := eqo_si (eqo_si (eqo_si (eqo_rf w) rfl) rfl) rfl
      obtain ⟨w', q1, q2, q3⟩ := X_rd (any := any) hL hs m n (k + 1) _ (by omega) (by omega) (RX_s hs hR (eqo_mono E sLK_s)) (show LKX (k + 1) e (si (si (si w 14 k (nI (e (2 * k)).toNat)) 15 k (Int32.ofInt (e (2 * k + 1)))) 13 2 (nI (k + 1))) from by
        refine ⟨by rw [gi_si, if_pos ⟨rfl, rfl⟩], fun i hi => ?_⟩
        by_cases z : i = k
        · subst z
          refine ⟨?_, ?_⟩
          · rw [gi_si, if_neg (by omega), gi_si, if_neg (by omega), gi_si, if_pos ⟨rfl, rfl⟩]
          · rw [gi_si, if_neg (by omega), gi_si, if_pos ⟨rfl, rfl⟩]
        · refine ⟨?_, ?_⟩
          · rw [gi_si, if_neg (by omega), gi_si, if_neg (by omega), gi_si, if_neg (by omega)]; exact (k2 i (by omega)).1
          · rw [gi_si, if_neg (by omega), gi_si, if_neg (by omega), gi_si, if_neg (by omega)]; exact (k2 i (by omega)).2)
      exact ⟨w', q1, q2, eqo_tr E q3⟩
    · rw [if_neg c, if_neg c, bW_s, if_pos rfl]
      exact ⟨w, rfl, hK, eqo_rf w⟩
theorem X_looks {L s sz : Nat} {e : Nat → Int} (any : Bool) {w : Wd} (hL : L ≤ 6) (hs : s < 6) (hR : RX s sz e w) : ∃ w', f_X5_read (42 + 2 * s) (nI L) (if any = true then 1 else 0) w = some w' ∧ LKX (lkn L sz e any 4 0) e w' ∧ eqo sLK w w' := by
  unfold f_X5_read
  rw [stI_d]
  have E : eqo sLK w (si w 13 2 0) := eqo_si (eqo_rf w) rfl
  obtain ⟨w', q1, q2, q3⟩ := X_rd (any := any) hL hs 4 fu 0 (si w 13 2 0) (by omega) (by show 4 < 300; omega) (RX_s hs hR (eqo_mono E sLK_s)) ⟨by rw [gi_si, if_pos ⟨rfl, rfl⟩]; rfl, fun i hi => absurd hi (by omega)⟩
  exact ⟨w', q1, q2, eqo_tr E q3⟩
theorem X_by {m : Nat} {e : Nat → Int} {w : Wd} (h : LKX m e w) (hm : m ≤ 4) {i : Nat} (hi : i < m) : f_X5_by (nI i) w = some (nI (e (2 * i)).toNat) ∧ f_X5_found (nI i) w = some (Int32.ofInt (e (2 * i + 1))) := by
  have t := nI_toInt (n := i) (by omega)
  unfold f_X5_by f_X5_found
  rw [h.1, if_neg (by rw [fa_lt, t, ti_0]; omega), if_neg (by rw [nI_leI (by omega) (by omega)]; omega), if_neg (by rw [fa_lt, t, ti_0]; omega), if_neg (by rw [nI_leI (by omega) (by omega)]; omega), ldI_d (inb_nI (by omega) (by omega)), ldI_d (inb_nI (by omega) (by omega)), ix_nI (by omega), (h.2 i hi).1, (h.2 i hi).2]
  exact ⟨rfl, rfl⟩
