/-! WHO LOOKED: who -/
abbrev tdc (n : Nat) (e : Nat → Int) (k : Nat) : Prop := k < n ∧ 0 ≤ e k ∧ e k ≤ 3
def tdn (n : Nat) (e : Nat → Int) : Nat → Nat → Nat
  | 0, k => k
  | f + 1, k => if tdc n e k then tdn n e f (k + 1) else k
theorem tdn_le {n : Nat} {e : Nat → Int} : ∀ f k, k ≤ tdn n e f k ∧ tdn n e f k ≤ k + f ∧ ∀ i, k ≤ i → i < tdn n e f k → tdc n e i
  | 0, k => ⟨Nat.le_refl _, Nat.le_refl _, fun i h1 h2 => by
      have : tdn n e 0 k = k := rfl
      omega⟩
  | f + 1, k => by
    unfold tdn
    by_cases c : tdc n e k
    · rw [if_pos c]
      obtain ⟨a, b, d⟩ := tdn_le (n := n) (e := e) f (k + 1)
      refine ⟨by omega, by omega, fun i h1 h2 => ?_⟩
      by_cases z : i = k
      · rw [z]; exact c
      · exact d i (by omega) h2
    · rw [if_neg c]
      exact ⟨Nat.le_refl _, by omega, fun i h1 h2 => by omega⟩
def sHR (c k : Nat) : Bool := c == 27 || c == 29 || (c == 23 && k == 6)
theorem sHR_s : ∀ c k, sHR c k = true → scr c k = true := by
  intro c k h
  simp only [sHR, scr, Bool.or_eq_true, Bool.and_eq_true, beq_iff_eq, decide_eq_true_eq] at h ⊢
  omega
theorem X_hr {s sz : Nat} {e : Nat → Int} (hs : s < 6) : ∀ (f n k : Nat) (w : Wd), k + f = 4 → f < n → RX s sz e w → gi w 23 6 = nI k → (∀ i, i < k → gi w 27 i = nI (e i).toNat ∧ gi w 29 i = 0) → ∃ w', f_X10_hear_b20 n (42 + 2 * s) w = f_X10_hear_b49 w' ∧ gi w' 23 6 = nI (tdn sz e f k) ∧ (∀ i, i < tdn sz e f k → gi w' 27 i = nI (e i).toNat ∧ gi w' 29 i = 0) ∧ eqo sHR w w'
  | 0, 0, _, _, _, h, _, _, _ => absurd h (by omega)
  | 0, n + 1, k, w, hk, _, hR, h6, h27 => by
    refine ⟨w, ?_, h6, h27, eqo_rf w⟩
    show f_X10_hear_b20_y (f_X10_hear_b20 n) (42 + 2 * s) w = _
    unfold f_X10_hear_b20_y
    rw [h6, if_pos (by rw [show (4 : Int32) = nI 4 from rfl, nI_leI (by omega) (by omega)]; omega)]
  | f + 1, 0, _, _, _, h, _, _, _ => absurd h (by omega)
  | f + 1, n + 1, k, w, hk, hn, hR, h6, h27 => by
    obtain ⟨⟨r1, r2⟩, r3, r4, r5, r6⟩ := id hR
    have tk := nI_toInt (n := k) (by omega)
    have ibk : inb (nI k) sz ↔ k < sz := by
      unfold inb
      rw [tk]
      omega
    have ho : f_X10_hearOne (42 + 2 * s) w = if tdc sz e k then some (1, si (si w 27 k (nI (e k).toNat)) 29 k 0) else some (0, w) := by
      unfold f_X10_hearOne
      rw [h6, X_hasPlace r5 r1, bR_s, ite_b2i]
      by_cases c1 : k < sz
      · obtain ⟨b3, b4⟩ := r2 k c1
        have isf : f_X5_isFound (Int64.ofInt (e k)) = some (b2i (0 ≤ e k ∧ e k ≤ 3)) := by
          unfold f_X5_isFound b2i
          have y1 : (Int64.ofInt (e k) < 0) ↔ e k < 0 := by
            rw [ll_lt, oL_t b3 b4]
            exact Iff.rfl
          have y2 : ((3 : Int64) < Int64.ofInt (e k)) ↔ 3 < e k := by
            rw [ll_lt, oL_t b3 b4]
            exact Iff.rfl
          by_cases z1 : e k < 0
          · rw [if_pos (y1.mpr z1), if_neg (by omega)]
          · rw [if_neg (fun z => z1 (y1.mp z))]
            by_cases z2 : 3 < e k
            · rw [if_pos (y2.mpr z2), if_neg (by omega)]
            · rw [if_neg (fun z => z2 (y2.mp z)), if_pos (by omega)]
        rw [if_pos (ibk.mpr c1), X_read r5 r1 c1, bR_s, r6 k c1, isf, bR_s, ite_b2i, bR_s]
        by_cases c2 : 0 ≤ e k ∧ e k ≤ 3
        · have g6 : gi (si w 27 k (nI (e k).toNat)) 23 6 = nI k := by rw [gi_si, if_neg (by omega)]; exact h6
          rw [if_pos c2, if_pos ⟨c1, c2.1, c2.2⟩, oL_i b3 b4, oI_n c2.1, saI_d (inb_nI (by omega) (by omega)), ix_nI (by omega), g6, saI_d (inb_nI (by omega) (by omega)), ix_nI (by omega)]
        · rw [if_neg c2, if_neg (fun z => c2 z.2)]
      · rw [if_neg (fun z => c1 (ibk.mp z)), if_neg (fun z => c1 z.1)]
    have e0 : f_X10_hear_b20 (n + 1) (42 + 2 * s) w = f_X10_hear_b20_y (f_X10_hear_b20 n) (42 + 2 * s) w := rfl
    rw [e0]
    unfold f_X10_hear_b20_y tdn
    rw [h6, if_neg (by rw [show (4 : Int32) = nI 4 from rfl, nI_leI (by omega) (by omega)]; omega), ho]
    by_cases c : tdc sz e k
    · have g6 : gi (si (si w 27 k (nI (e k).toNat)) 29 k 0) 23 6 = nI k := by rw [gi_si, if_neg (by omega), gi_si, if_neg (by omega)]; exact h6
      rw [if_pos c, if_pos c, bW_s, if_neg (by decide), stI_d, g6, nI_1]
      have E : eqo sHR w (si (si (si w 27 k (nI (e k).toNat)) 29 k 0) 23 6 (nI (k + 1))) := eqo_si (eqo_si (eqo_si (eqo_rf w) rfl) rfl) rfl
      obtain ⟨w', q1, q2, q3, q4⟩ := X_hr hs f n (k + 1) _ (by omega) (by omega) (RX_s hs hR (eqo_mono E sHR_s)) (show gi (si (si (si w 27 k (nI (e k).toNat)) 29 k 0) 23 6 (nI (k + 1))) 23 6 = nI (k + 1) by rw [gi_si, if_pos ⟨rfl, rfl⟩]) (fun i hi => by
        by_cases z : i = k
        · subst z
          exact ⟨by rw [gi_si, if_neg (by omega), gi_si, if_neg (by omega), gi_si, if_pos ⟨rfl, rfl⟩], by rw [gi_si, if_neg (by omega), gi_si, if_pos ⟨rfl, rfl⟩]⟩
        · exact ⟨by rw [gi_si, if_neg (by omega), gi_si, if_neg (by omega), gi_si, if_neg (by omega)]; exact (h27 i (by omega)).1, by rw [gi_si, if_neg (by omega), gi_si, if_neg (by omega), gi_si, if_neg (by omega)]; exact (h27 i (by omega)).2⟩)
      exact ⟨w', q1, q2, q3, eqo_tr E q4⟩
    · rw [if_neg c, if_neg c, bW_s, if_pos rfl]
      exact ⟨w, rfl, h6, h27, eqo_rf w⟩
def W0 : WS := ⟨0, fun _ => 0, 0, fun _ => 0⟩
theorem W0_ok (t : Nat) : wok t W0 := ⟨fun i _ => ⟨by show 0 < 64; omega, fun _ => rfl, fun h => absurd h (Nat.lt_irrefl 0)⟩, fun h => absurd h (Nat.lt_irrefl 0), by show 0 < 2 ^ 63; omega, fun _ _ => by show 0 < 6; omega⟩
def fsE (e : Nat → Int) (i : Nat) : Nat := (e i).toNat
def wEnd (A : Ab) (e : Nat → Int) (b t : Nat) : WS := wgo A t (fsE e) t 0 (fun _ => 0) (p0 A b) W0
theorem wEnd_ok {A : Ab} (hA : Aok A) {e : Nat → Int} {b t : Nat} (hb : b < 4) (ht : t ≤ 4) : wok t (wEnd A e b t) ∧ (wEnd A e b t).rows ≤ 1296 := by
  obtain ⟨a, c⟩ := wgo_ok hA (fs := fsE e) ht t 0 (fun _ => 0) (p0 A b) W0 (by omega) (W0_ok t) (fun i hi => absurd hi (by omega)) (pB_0 hA hb) (bS_b hA hb).1
  refine ⟨a, ?_⟩
  have h1 := Nat.pow_le_pow_right (n := 6) (by omega) ht
  have e6 : 6 ^ 4 = 1296 := by decide
  have h0 : W0.rows = 0 := rfl
  unfold wEnd
  omega
theorem X_hear {A : Ab} {s sz b : Nat} {e : Nat → Int} {w : Wd} (hX : VX A w) (hs : s < 6) (hb : b < 4) (hR : RX s sz e w) (hsh : ∀ k, k < A.L → ∀ d, d < 4 → gi w 26 (4 * k + d) = nI (shp A k d)) (hP : PT 25 0 (p0 A b) w) : ∃ w', f_X10_hear (42 + 2 * s) (nI A.L) w = some w' ∧ gi w' 23 6 = nI (tdn sz e 4 0) ∧ WX (tdn sz e 4 0) (wEnd A e b (tdn sz e 4 0)) w' ∧ eqo scr w w' := by
  have E1 : eqo scr w (sl (si (si (si w 23 6 0) 23 7 (nI A.L)) 23 8 0) 23 9 0) := eqo_sl (eqo_si (eqo_si (eqo_si (eqo_rf w) rfl) rfl) rfl) rfl
  have g6 : gi (sl (si (si (si w 23 6 0) 23 7 (nI A.L)) 23 8 0) 23 9 0) 23 6 = nI 0 := by
    show gi (si (si (si w 23 6 0) 23 7 (nI A.L)) 23 8 0) 23 6 = nI 0
    rw [gi_si, if_neg (by omega), gi_si, if_neg (by omega), gi_si, if_pos ⟨rfl, rfl⟩]; rfl
  have g7 : gi (sl (si (si (si w 23 6 0) 23 7 (nI A.L)) 23 8 0) 23 9 0) 23 7 = nI A.L := by
    show gi (si (si (si w 23 6 0) 23 7 (nI A.L)) 23 8 0) 23 7 = nI A.L
    rw [gi_si, if_neg (by omega), gi_si, if_pos ⟨rfl, rfl⟩]
  have g8 : gi (sl (si (si (si w 23 6 0) 23 7 (nI A.L)) 23 8 0) 23 9 0) 23 8 = nI 0 := by
    show gi (si (si (si w 23 6 0) 23 7 (nI A.L)) 23 8 0) 23 8 = nI 0
    rw [gi_si, if_pos ⟨rfl, rfl⟩]; rfl
  have g9 : gl (sl (si (si (si w 23 6 0) 23 7 (nI A.L)) 23 8 0) 23 9 0) 23 9 = lN 0 := by rw [gl_sl_s]; rfl
  have g26 : ∀ c k, ¬ c = 23 → gi (sl (si (si (si w 23 6 0) 23 7 (nI A.L)) 23 8 0) 23 9 0) c k = gi w c k := by
    intro c k n
    show gi (si (si (si w 23 6 0) 23 7 (nI A.L)) 23 8 0) c k = gi w c k
    rw [gi_si, if_neg (by omega), gi_si, if_neg (by omega), gi_si, if_neg (by omega)]
  have g25 : ∀ k, gl (sl (si (si (si w 23 6 0) 23 7 (nI A.L)) 23 8 0) 23 9 0) 25 k = gl w 25 k := fun k => by rw [gl_sl_n (by omega)]; rfl
  have e0 : f_X10_hear (42 + 2 * s) (nI A.L) w = f_X10_hear_b20 fu (42 + 2 * s) (sl (si (si (si w 23 6 0) 23 7 (nI A.L)) 23 8 0) 23 9 0) := rfl
  rw [e0]
  generalize sl (si (si (si w 23 6 0) 23 7 (nI A.L)) 23 8 0) 23 9 0 = w1 at E1 g6 g7 g8 g9 g26 g25
  obtain ⟨w2, q1, q2, q3, q4⟩ := X_hr hs 4 fu 0 w1 (by omega) (by show 4 < 300; omega) (RX_s hs hR E1) g6 (fun i hi => absurd hi (by omega))
  obtain ⟨l1, l2, l3⟩ := tdn_le (n := sz) (e := e) 4 0
  generalize tdn sz e 4 0 = t at *
  have hV2 : VW A t (fsE e) w2 := ⟨q2, by rw [(q4 23 7 rfl).1]; exact g7, fun k hk d hd => by rw [(q4 26 _ rfl).1, g26 26 _ (by omega)]; exact hsh k hk d hd, fun i hi => ⟨(q3 i hi).1, by
    have := l3 i (by omega) hi
    unfold fsE
    have := this.2
    omega⟩⟩
  have hW2 : WX t W0 w2 := ⟨by rw [(q4 23 8 rfl).1]; exact g8, fun i hi => (q3 i hi).2, by rw [(q4 23 9 rfl).2]; exact g9, fun i hi h => absurd h (Nat.lt_irrefl 0)⟩
  obtain ⟨w3, r1, r2, r3⟩ := X_goOn hX.1 (fs := fsE e) (t := t) (by omega) t 0 rf (by omega) (by show _ < 80; omega) (fun _ => 0) (p0 A b) W0 w2 hV2 hW2 (W0_ok t) (fun i hi => absurd hi (by omega)) (fun i hi => absurd hi (by omega)) (fun j hj => by rw [(q4 25 _ rfl).2, g25]; exact hP j hj) (pB_0 hX.1 hb) (bS_b hX.1 hb).1
  refine ⟨w3, ?_, ?_, r2, eqo_tr E1 (eqo_tr (eqo_mono q4 sHR_s) (eqo_mono r3 sWX_s))⟩
  · rw [q1]
    unfold f_X10_hear_b49
    have r1' : f_X10_goOn rf 0 w2 = some w3 := r1
    rw [r1', bV_s]
  · rw [(r3 23 6 rfl).1]; exact q2
/-- the answer to who, by what is asked -/
def whA (W : WS) (t v k : Nat) : Int32 := if v = 0 then nI W.rows else if t ≤ k then -1 else if v = 1 then (if isP (W.sn k) then nI (W.sn k) else 0) else (if W.rows = 0 then -2 else nI (W.bs k))
theorem X_ans {t v k : Nat} {a4 : Int32} {W : WS} {w : Wd} (ht : t ≤ 4) (hv : v < 3) (hk : 0 < v → k < 4 ∧ a4 = nI k) (h6 : gi w 23 6 = nI t) (hW : WX t W w) (hok : wok t W) (hr : W.rows ≤ 1296) : (if nI v = (0 : Int32) then some (gi w 23 8, w) else if nI v = (1 : Int32) then (bR (f_X10_sureBy a4 w) fun r10 => some (r10, w)) else (bR (f_X10_most a4 w) fun r9 => some (r9, w))) = some (whA W t v k, w) := by
  obtain ⟨x1, x2, x3, x4⟩ := hW
  obtain ⟨k1, k2, k3, k4⟩ := hok
  unfold whA
  have c : v = 0 ∨ v = 1 ∨ v = 2 := by omega
  have tt := nI_toInt (n := t) (by omega)
  rcases c with z | z | z
  · subst z
    rw [if_pos (show nI 0 = (0 : Int32) from rfl), if_pos rfl, x1]
  · subst z
    obtain ⟨kk, rfl⟩ := hk (by omega)
    have tk := nI_toInt (n := k) (by omega)
    rw [if_neg (by decide), if_pos (show nI 1 = (1 : Int32) from rfl), if_neg (show ¬ 1 = 0 by omega)]
    unfold f_X10_sureBy
    rw [if_neg (by rw [fa_lt, tk, ti_0]; omega), h6]
    by_cases y : k < t
    · obtain ⟨b1, b2⟩ := bits_1 _ (k1 k y).1
      obtain ⟨r, hbs⟩ := bits_s (nI (W.sn k))
      rw [if_pos (by rw [fa_lt, tk, tt]; omega), if_neg (by omega), if_pos rfl, ldI_d (inb_nI (by omega) (by omega)), ix_nI (by omega), x2 k y, hbs, bR_s]
      by_cases p : isP (W.sn k)
      · have := b1 p
        rw [hbs] at this
        cases this
        rw [if_pos rfl, if_pos p, ldI_d (inb_nI (by omega) (by omega)), ix_nI (by omega), x2 k y, bR_s]
      · have nb := b2 p
        rw [hbs] at nb
        rw [if_neg (fun q => nb (by rw [q])), if_neg p, bR_s]
    · rw [if_neg (by rw [fa_lt, tk, tt]; omega), if_pos (by omega), bR_s]
  · subst z
    obtain ⟨kk, rfl⟩ := hk (by omega)
    have tk := nI_toInt (n := k) (by omega)
    rw [if_neg (by decide), if_neg (by decide), if_neg (show ¬ 2 = 0 by omega), if_neg (show ¬ 2 = 1 by omega)]
    unfold f_X10_most
    rw [if_neg (by rw [fa_lt, tk, ti_0]; omega), h6, x1]
    by_cases y : k < t
    · have iffr : (nI W.rows = (0 : Int32)) ↔ W.rows = 0 := by rw [show (0 : Int32) = nI 0 from rfl, nI_eq (by omega) (by omega)]
      rw [if_pos (by rw [fa_lt, tk, tt]; omega), if_neg (show ¬ t ≤ k by omega)]
      by_cases p : W.rows = 0
      · rw [if_pos (iffr.mpr p), if_pos p, bR_s]
      · rw [if_neg (fun q => p (iffr.mp q)), if_neg p, ldI_d (inb_nI (by omega) (by omega)), ix_nI (by omega), x4 k y (k2 (by omega)), bR_s]
    · rw [if_neg (by rw [fa_lt, tk, tt]; omega), if_pos (show t ≤ k by omega), bR_s]
theorem M_t62 {s sz : Nat} {e : Nat → Int} (hs : s < 6) (x2 x3 x4 : Int32) : ∀ (f n k : Nat) (w : Wd), k + f = 4 → f < n → RM s sz e w → gi w 54 38 = nI k → (∀ i, i < k → gi w 74 i = nI (e i).toNat) → ∃ w', f_X12_who_b62 n (nI s) x2 x3 x4 w = f_X12_who_b131 x2 x3 x4 w' ∧ gi w' 54 38 = nI (tdn sz e f k) ∧ (∀ i, i < tdn sz e f k → gi w' 74 i = nI (e i).toNat) ∧ eqo scr w w'
  | 0, 0, _, _, _, h, _, _, _ => absurd h (by omega)
  | 0, n + 1, k, w, hk, _, hR, h6, h27 => by
    refine ⟨w, ?_, h6, h27, eqo_rf w⟩
    show f_X12_who_b62_y (f_X12_who_b62 n) (nI s) x2 x3 x4 w = _
    unfold f_X12_who_b62_y
    rw [h6, if_pos (by rw [show (4 : Int32) = nI 4 from rfl, nI_leI (by omega) (by omega)]; omega)]
  | f + 1, 0, _, _, _, h, _, _, _ => absurd h (by omega)
  | f + 1, n + 1, k, w, hk, hn, hR, h6, h27 => by
    obtain ⟨⟨a1, a2⟩, a3, a4, a5⟩ := id hR
    have e0 : f_X12_who_b62 (n + 1) (nI s) x2 x3 x4 w = f_X12_who_b62_y (f_X12_who_b62 n) (nI s) x2 x3 x4 w := rfl
    rw [e0]
    unfold f_X12_who_b62_y tdn
    rw [h6, if_neg (by rw [show (4 : Int32) = nI 4 from rfl, nI_leI (by omega) (by omega)]; omega), ldI_d (inb_nI hs (by omega)), ix_nI (by omega), a4]
    by_cases c1 : k < sz
    · obtain ⟨b3, b4⟩ := a2 k c1
      rw [if_neg (by rw [nI_leI (by omega) (by omega)]; omega), M_byte hs hR c1, bR_s, M_in, bR_s, ite_b2i, oI_t b3 b4]
      by_cases c2 : (0 : Int32).toInt ≤ e k ∧ e k ≤ (3 : Int32).toInt
      · have c2' : 0 ≤ e k ∧ e k ≤ 3 := c2
        have hc : tdc sz e k := ⟨c1, c2'.1, c2'.2⟩
        have g6 : gi (si w 74 k (nI (e k).toNat)) 54 38 = nI k := by rw [gi_si, if_neg (by omega)]; exact h6
        rw [if_pos c2, if_pos hc, bR_s, oI_n c2'.1, saI_d (inb_nI (by omega) (by omega)), ix_nI (by omega), stI_d, g6, nI_1]
        have E : eqo scr w (si (si w 74 k (nI (e k).toNat)) 54 38 (nI (k + 1))) := eqo_si (eqo_si (eqo_rf w) rfl) rfl
        obtain ⟨w', q1, q2, q3, q4⟩ := M_t62 hs x2 x3 x4 f n (k + 1) _ (by omega) (by omega) (RM_s hR E) (show gi (si (si w 74 k (nI (e k).toNat)) 54 38 (nI (k + 1))) 54 38 = nI (k + 1) by rw [gi_si, if_pos ⟨rfl, rfl⟩]) (fun i hi => by
          by_cases z : i = k
          · subst z
            rw [gi_si, if_neg (by omega), gi_si, if_pos ⟨rfl, rfl⟩]
          · rw [gi_si, if_neg (by omega), gi_si, if_neg (by omega)]; exact h27 i (by omega))
        exact ⟨w', q1, q2, q3, eqo_tr E q4⟩
      · have hc : ¬ tdc sz e k := fun z => c2 ⟨z.2.1, z.2.2⟩
        rw [if_neg c2, if_neg hc]
        exact ⟨w, rfl, h6, h27, eqo_rf w⟩
    · have hc : ¬ tdc sz e k := fun z => c1 z.1
      rw [if_pos (by rw [nI_leI (by omega) (by omega)]; omega), if_neg hc]
      exact ⟨w, rfl, h6, h27, eqo_rf w⟩
theorem M_152 {A : Ab} {b t v k : Nat} {e : Nat → Int} {a4 : Int32} {w : Wd} (hM : VM A w) (hb : b < 4) (ht : t ≤ 4) (hv : v < 3) (hk : 0 < v → k < t ∧ a4 = nI k) (h6 : gi w 54 38 = nI t) (h74 : ∀ i, i < t → gi w 74 i = nI (fsE e i) ∧ fsE e i ≤ 3) : ∃ w', f_X12_who_b152 (nI b) (nI v) a4 w = some (whA (wEnd A e b t) t v k, w') ∧ eqo scr w w' := by
  have hL := hM.1.1
  have E1 : eqo scr w (sl (si w 54 42 0) 54 43 0) := eqo_sl (eqo_si (eqo_rf w) rfl) rfl
  have e0 : f_X12_who_b152 (nI b) (nI v) a4 w = f_X12_who_b165 fu (nI b) (nI v) a4 (nI 0) (sl (si w 54 42 0) 54 43 0) := rfl
  have g42 : gi (sl (si w 54 42 0) 54 43 0) 54 42 = 0 := by
    show gi (si w 54 42 0) 54 42 = 0
    rw [gi_si, if_pos ⟨rfl, rfl⟩]
  have g43 : gl (sl (si w 54 42 0) 54 43 0) 54 43 = 0 := by rw [gl_sl_s]
  have gg : ∀ c j, ¬ (c = 54 ∧ j = 42) → gi (sl (si w 54 42 0) 54 43 0) c j = gi w c j := by
    intro c j n
    show gi (si w 54 42 0) c j = gi w c j
    rw [gi_si, if_neg n]
  rw [e0]
  generalize sl (si w 54 42 0) 54 43 0 = w1 at E1 g42 g43 gg
  have hM1 := VM_s hM E1
  have st : ∀ i n w, i < 4 → gi w 54 3 = nI A.L → f_X12_who_b165 (n + 1) (nI b) (nI v) a4 (nI i) w = f_X12_who_b165 n (nI b) (nI v) a4 (nI (i + 1)) (si w 77 i (nI (2 ^ A.L - 1))) := by
    intro i n w hi h3
    show f_X12_who_b165_y (f_X12_who_b165 n) (nI b) (nI v) a4 (nI i) w = _
    unfold f_X12_who_b165_y
    rw [if_neg (by rw [show (4 : Int32) = nI 4 from rfl, nI_leI (by omega) (by omega)]; omega), h3, mask_L _ (by omega), saI_d (inb_nI (by omega) (by omega)), ix_nI (by omega), nI_1]
  have n3 : ∀ (w : Wd) (i : Nat) (x : Int32), gi (si w 77 i x) 54 3 = gi w 54 3 := fun w i x => by rw [gi_si, if_neg (by omega)]
  have h3 := hM1.2.1
  rw [show fu = 295 + 1 + 1 + 1 + 1 + 1 from rfl, st 0 _ _ (by omega) h3, st 1 _ _ (by omega) (by rw [n3]; exact h3), st 2 _ _ (by omega) (by rw [n3, n3]; exact h3), st 3 _ _ (by omega) (by rw [n3, n3, n3]; exact h3)]
  have E2 : eqo scr w (si (si (si (si w1 77 0 (nI (2 ^ A.L - 1))) 77 (0 + 1) (nI (2 ^ A.L - 1))) 77 (1 + 1) (nI (2 ^ A.L - 1))) 77 (2 + 1) (nI (2 ^ A.L - 1))) := eqo_si (eqo_si (eqo_si (eqo_si E1 rfl) rfl) rfl) rfl
  have g77 : ∀ i, i < 4 → gi (si (si (si (si w1 77 0 (nI (2 ^ A.L - 1))) 77 (0 + 1) (nI (2 ^ A.L - 1))) 77 (1 + 1) (nI (2 ^ A.L - 1))) 77 (2 + 1) (nI (2 ^ A.L - 1))) 77 i = nI (2 ^ A.L - 1) := by
    intro i hi
    rw [gi_si, gi_si, gi_si, gi_si]
    have : i = 0 ∨ i = 1 ∨ i = 2 ∨ i = 3 := by omega
    rcases this with z | z | z | z
    · subst z; rw [if_neg (by omega), if_neg (by omega), if_neg (by omega), if_pos ⟨rfl, rfl⟩]
    · subst z; rw [if_neg (by omega), if_neg (by omega), if_pos ⟨rfl, rfl⟩]
    · subst z; rw [if_neg (by omega), if_pos ⟨rfl, rfl⟩]
    · subst z; rw [if_pos ⟨rfl, rfl⟩]
  have gn : ∀ c j, ¬ c = 77 → gi (si (si (si (si w1 77 0 (nI (2 ^ A.L - 1))) 77 (0 + 1) (nI (2 ^ A.L - 1))) 77 (1 + 1) (nI (2 ^ A.L - 1))) 77 (2 + 1) (nI (2 ^ A.L - 1))) c j = gi w1 c j := by
    intro c j n
    rw [gi_si, if_neg (by omega), gi_si, if_neg (by omega), gi_si, if_neg (by omega), gi_si, if_neg (by omega)]
  have gln : gl (si (si (si (si w1 77 0 (nI (2 ^ A.L - 1))) 77 (0 + 1) (nI (2 ^ A.L - 1))) 77 (1 + 1) (nI (2 ^ A.L - 1))) 77 (2 + 1) (nI (2 ^ A.L - 1))) 54 43 = gl w1 54 43 := rfl
  generalize si (si (si (si w1 77 0 (nI (2 ^ A.L - 1))) 77 (0 + 1) (nI (2 ^ A.L - 1))) 77 (1 + 1) (nI (2 ^ A.L - 1))) 77 (2 + 1) (nI (2 ^ A.L - 1)) = w2 at E2 g77 gn gln
  obtain ⟨w3, p1, p2, p3⟩ := M_begin (d := 0) (VM_s hM E2) hb (by omega)
  have p1' : f_X12_beginParts (nI b) 0 w2 = some w3 := p1
  have E3 := eqo_tr E2 (eqo_mono p3 (sPT_s (c := 71) (d := 0) (Or.inr rfl)))
  have hV3 : VWM A t (fsE e) w3 := ⟨VM_s hM E3, by rw [(p3 54 38 rfl).1, gn 54 38 (by omega), gg 54 38 (by omega)]; exact h6, fun i hi => ⟨by rw [(p3 74 i rfl).1, gn 74 i (by omega), gg 74 i (by omega)]; exact (h74 i hi).1, (h74 i hi).2⟩⟩
  have hW3 : WM A.L t W0 w3 := ⟨by rw [(p3 54 42 rfl).1, gn 54 42 (by omega), g42]; rfl, fun i hi => by rw [(p3 77 i rfl).1, g77 i (by omega)]; rfl, by rw [(p3 54 43 rfl).2, gln, g43]; rfl, fun i hi h => absurd h (Nat.lt_irrefl 0)⟩
  obtain ⟨w4, r1, r2, r3⟩ := M_goRows hM.1 (fs := fsE e) ht t 0 rf (by omega) (by show _ < 80; omega) (fun _ => 0) (p0 A b) W0 w3 hV3 hW3 (W0_ok t) (fun i hi => absurd hi (by omega)) (fun i hi => absurd hi (by omega)) p2 (pB_0 hM.1 hb) (bS_b hM.1 hb).1
  have r1' : f_X12_goRows rf 0 w3 = some w4 := r1
  have r2' : WM A.L t (wEnd A e b t) w4 := r2
  obtain ⟨hok, hrw⟩ := wEnd_ok hM.1 (e := e) hb ht
  generalize wEnd A e b t = W at r2' hok hrw
  obtain ⟨y1, y2, y3, y4⟩ := r2'
  obtain ⟨k1, k2, k3, k4⟩ := hok
  have iffr : (nI W.rows = (0 : Int32)) ↔ W.rows = 0 := by rw [show (0 : Int32) = nI 0 from rfl, nI_eq (by omega) (by omega)]
  refine ⟨w4, ?_, eqo_tr E3 (eqo_mono r3 sWM_s)⟩
  show f_X12_who_b165_y (f_X12_who_b165 295) (nI b) (nI v) a4 (nI 4) w2 = _
  unfold f_X12_who_b165_y whA
  rw [if_pos (by decide), p1', bV_s, r1', bV_s, y1]
  have c : v = 0 ∨ v = 1 ∨ v = 2 := by omega
  rcases c with z | z | z
  · subst z
    rw [if_pos (show nI 0 = (0 : Int32) from rfl), if_pos rfl]
  · subst z
    obtain ⟨kk, rfl⟩ := hk (by omega)
    rw [if_neg (by decide), if_pos (show nI 1 = (1 : Int32) from rfl), if_neg (show ¬ 1 = 0 by omega), if_neg (show ¬ t ≤ k by omega), if_pos rfl]
    by_cases p : W.rows = 0
    · have hz := (k1 k kk).2.1 p
      rw [if_pos (iffr.mpr p), hz, if_neg (by decide)]
    · rw [if_neg (fun q => p (iffr.mp q)), ldI_d (inb_nI (by omega) (by omega)), ix_nI (by omega), y2 k kk]
      unfold alv
      rw [if_neg p]
      by_cases q : isP (W.sn k)
      · rw [if_pos q, if_pos q]
      · rw [if_neg q, if_neg q]; rfl
  · subst z
    obtain ⟨kk, rfl⟩ := hk (by omega)
    rw [if_neg (by decide), if_neg (by decide), if_neg (show ¬ 2 = 0 by omega), if_neg (show ¬ t ≤ k by omega), if_neg (show ¬ 2 = 1 by omega)]
    by_cases p : W.rows = 0
    · rw [if_pos (iffr.mpr p), if_pos p]
    · rw [if_neg (fun q => p (iffr.mp q)), if_neg p, ldI_d (inb_nI (by omega) (by omega)), ix_nI (by omega), y4 k kk (k2 (by omega))]
theorem T_who {A : Ab} {nb : Nat} {w : Wd} (hX : VX A w) (hM : VM A w) (hS : SR nb w) (a1 a2 a3 a4 : Int32) : ∃ r w1 w2, f_X11_who a1 a2 a3 a4 w = some (r, w1) ∧ f_X12_who a1 a2 a3 a4 w1 = some (r, w2) ∧ eqo scr w w2 := by
  have t0 : (0 : Int32).toInt = 0 := rfl
  have t2 : (2 : Int32).toInt = 2 := rfl
  have t3 : (3 : Int32).toInt = 3 := rfl
  have t4 : (4 : Int32).toInt = 4 := rfl
  by_cases h : inb a1 6 ∧ inb a2 4 ∧ inb a3 3
  · obtain ⟨h1, h2, h3⟩ := h
    obtain ⟨s, hs, rfl⟩ := of_inb h1
    obtain ⟨b, hb, rfl⟩ := of_inb h2
    obtain ⟨v, hv, rfl⟩ := of_inb h3
    have tv := nI_toInt (n := v) (by omega)
    have Mtop : ∀ w', RM s 0 (fun _ => 0) w' ∨ True → f_X12_who (nI s) (nI b) (nI v) a4 w' = bR (f_X12_rowFault (nI s) w') fun r4 => if (0 : Int32) ≤ r4 then (stI w' 54 38 (0 : Int32) fun w5 => f_X12_who_b62 fu (nI s) (nI b) (nI v) a4 w5) else (if nI v ≤ (0 : Int32) then (f_X12_who_b51 (nI s) w') else (bR (f_X12_in a4 (0 : Int32) (3 : Int32)) fun r21 => if r21 = (0 : Int32) then (some ((-1 : Int32), w')) else (f_X12_who_b51 (nI s) w'))) := by
      intro w' _
      unfold f_X12_who
      rw [M_isShelf, bR_s, ite_b2i, if_pos h1, M_isBag, bR_s, ite_b2i, if_pos h2, M_in, bR_s, ite_b2i, if_pos (by rw [tv, t0, t2]; omega)]
    by_cases hk : 0 < v ∧ ¬ inb a4 4
    · obtain ⟨hv0, hk4⟩ := hk
      have X1 : f_X11_who (nI s) (nI b) (nI v) a4 w = some (-1, w) := by
        unfold f_X11_who
        rw [X_isShelf, bR_s, ite_b2i, if_pos h1, X_isBag, bR_s, ite_b2i, if_pos h2, if_neg (by rw [fa_lt, tv, t0]; omega), if_pos (by rw [fa_le, tv, t2]; omega), if_neg (by rw [fa_le, tv, t0]; omega)]
        by_cases c : a4 < 0
        · rw [if_pos c]
        · rw [if_neg c, if_neg]
          intro c2
          rw [fa_lt] at c c2
          exact hk4 ⟨by omega, by omega⟩
      have hn3 : ¬ ((0 : Int32).toInt ≤ a4.toInt ∧ a4.toInt ≤ (3 : Int32).toInt) := fun z => hk4 ⟨by omega, by omega⟩
      rcases shelf_or hS hs with ⟨sz, e, hRX, hRM, _, hB, hRF⟩ | ⟨r, hr, _, hB, hRF⟩
      · have E1 : eqo scr w (si w 54 38 0) := eqo_si (eqo_rf w) rfl
        obtain ⟨w2, q1, q2, q3, q4⟩ := M_t62 (e := e) (sz := sz) hs (nI b) (nI v) a4 4 fu 0 (si w 54 38 0) (by omega) (by show 4 < 300; omega) (RM_s hRM E1) (by rw [gi_si, if_pos ⟨rfl, rfl⟩]; rfl) (fun i hi => absurd hi (by omega))
        have htl := (tdn_le (n := sz) (e := e) 4 0).2.1
        refine ⟨-1, w, w2, X1, ?_, eqo_tr E1 q4⟩
        rw [Mtop w (Or.inr trivial), hRF w hRM, bR_s, if_pos (by decide), stI_d, q1]
        unfold f_X12_who_b131
        have ts : (nI (tdn sz e 4 0) - 1).toInt = ((tdn sz e 4 0 : Nat) : Int) - 1 := by
          have := pk_sub_toInt (a := tdn sz e 4 0) (b := 1) (by omega) (by omega)
          exact this
        rw [if_neg (by rw [fa_le, tv, t0]; omega), q2, M_in, bR_s, ite_b2i, if_neg]
        rw [ts]
        intro z
        exact hk4 ⟨by omega, by omega⟩
      · refine ⟨-1, w, w, X1, ?_, eqo_rf w⟩
        rw [Mtop w (Or.inr trivial), hRF, bR_s, if_neg (by rcases hr with q | q <;> subst q <;> decide), if_neg (by rw [fa_le, tv, t0]; omega), M_in, bR_s, ite_b2i, if_neg hn3]
    · have hk' : ∃ k, 0 < v → k < 4 ∧ a4 = nI k := by
        by_cases z : 0 < v
        · have : inb a4 4 := Classical.byContradiction (fun q => hk ⟨z, q⟩)
          obtain ⟨k, hk1, hk2⟩ := of_inb this
          exact ⟨k, fun _ => ⟨hk1, hk2⟩⟩
        · exact ⟨0, fun q => absurd q z⟩
      obtain ⟨k, hkk⟩ := hk'
      have X42 : f_X11_who (nI s) (nI b) (nI v) a4 w = f_X11_who_b42 (nI s) (nI b) (nI v) a4 w := by
        unfold f_X11_who
        rw [X_isShelf, bR_s, ite_b2i, if_pos h1, X_isBag, bR_s, ite_b2i, if_pos h2, if_neg (by rw [fa_lt, tv, t0]; omega), if_pos (by rw [fa_le, tv, t2]; omega)]
        by_cases z : v = 0
        · rw [if_pos (by rw [fa_le, tv, t0]; omega)]
        · obtain ⟨k1, k2⟩ := hkk (by omega)
          have tk := nI_toInt (n := k) (by omega)
          rw [if_neg (by rw [fa_le, tv, t0]; omega), if_neg (by rw [k2, fa_lt, tk, t0]; omega), if_pos (by rw [k2, fa_lt, tk, t4]; omega)]
      rcases shelf_or hS hs with ⟨sz, e, hRX, hRM, _, hB, hRF⟩ | ⟨r, hr, _, hB, hRF⟩
      · obtain ⟨w1, p1, p2, p3⟩ := X_fs (c := 26) ⟨by omega, by omega⟩ hX
        have E1 := eqo_mono p3 (sFS_s (c := 26) ⟨by omega, by omega⟩)
        obtain ⟨w2, q1, q2, q3⟩ := X_begin (c0 := 24) (b := b) (VX_s hX E1) hb
        have E2 := eqo_tr E1 (eqo_mono q3 (sPT_s (c := 25) (d := 0) (Or.inl ⟨by omega, by omega⟩)))
        have hX2 := VX_s hX E2
        obtain ⟨w3, r1, r2, r3, r4⟩ := X_hear hX2 hs hb (RX_s hs hRX E2) (fun k hk d hd => by rw [(q3 26 _ rfl).1]; exact p2 k hk d hd) q2
        have E3 := eqo_tr E2 r4
        obtain ⟨l1, l2, l3⟩ := tdn_le (n := sz) (e := e) 4 0
        obtain ⟨hok, hrw⟩ := wEnd_ok hX.1 (e := e) (b := b) (t := tdn sz e 4 0) hb (by omega)
        have hans := X_ans (v := v) (k := k) (a4 := a4) (w := w3) (by omega) hv hkk r2 r3 hok hrw
        have X1 : f_X11_who (nI s) (nI b) (nI v) a4 w = some (whA (wEnd A e b (tdn sz e 4 0)) (tdn sz e 4 0) v k, w3) := by
          rw [X42]
          unfold f_X11_who_b42
          rw [ldR_d h1, ix_nI (by omega), hB, bR_s, if_pos (by decide), p1, bV_s, q1, bV_s, ldR_d h1, ix_nI (by omega), hX2.2.1, r1, bV_s]
          exact hans
        have E4 : eqo scr w (si w3 54 38 0) := eqo_si E3 rfl
        obtain ⟨w5, u1, u2, u3, u4⟩ := M_t62 (e := e) (sz := sz) hs (nI b) (nI v) a4 4 fu 0 (si w3 54 38 0) (by omega) (by show 4 < 300; omega) (RM_s hRM E4) (by rw [gi_si, if_pos ⟨rfl, rfl⟩]; rfl) (fun i hi => absurd hi (by omega))
        have E5 := eqo_tr E4 u4
        have M0 : f_X12_who (nI s) (nI b) (nI v) a4 w3 = f_X12_who_b131 (nI b) (nI v) a4 w5 := by
          rw [Mtop w3 (Or.inr trivial), hRF w3 (RM_s hRM E3), bR_s, if_pos (by decide), stI_d, u1]
        have h74 : ∀ i, i < tdn sz e 4 0 → gi w5 74 i = nI (fsE e i) ∧ fsE e i ≤ 3 := fun i hi => ⟨u3 i hi, by
          have := (l3 i (by omega) hi).2
          unfold fsE
          omega⟩
        generalize tdn sz e 4 0 = t at *
        have ts : (nI t - 1).toInt = (t : Int) - 1 := pk_sub_toInt (a := t) (b := 1) (by omega) (by omega)
        unfold f_X12_who_b131 at M0
        by_cases z : v = 0
        · obtain ⟨w6, m1, m2⟩ := M_152 (e := e) (k := k) (a4 := a4) (v := v) (t := t) (VM_s hM E5) hb (by omega) hv (fun q => absurd q (by omega)) u2 h74
          rw [if_pos (by rw [fa_le, tv, t0]; omega), m1] at M0
          exact ⟨_, _, _, X1, M0, eqo_tr E5 m2⟩
        · obtain ⟨k1, k2⟩ := hkk (by omega)
          have tk := nI_toInt (n := k) (by omega)
          rw [if_neg (by rw [fa_le, tv, t0]; omega), u2, M_in, bR_s, ite_b2i] at M0
          by_cases y : k < t
          · obtain ⟨w6, m1, m2⟩ := M_152 (e := e) (k := k) (a4 := a4) (v := v) (t := t) (VM_s hM E5) hb (by omega) hv (fun _ => ⟨y, k2⟩) u2 h74
            rw [if_pos (by rw [ts, k2, tk, t0]; omega), m1] at M0
            exact ⟨_, _, _, X1, M0, eqo_tr E5 m2⟩
          · have hw : whA (wEnd A e b t) t v k = -1 := by
              unfold whA
              rw [if_neg z, if_pos (by omega)]
            rw [if_neg (by rw [ts, k2, tk, t0]; omega)] at M0
            rw [hw] at X1
            exact ⟨_, _, _, X1, M0, E5⟩
      · refine ⟨r, w, w, ?_, ?_, eqo_rf w⟩
        · rw [X42]
          unfold f_X11_who_b42
          rw [ldR_d h1, ix_nI (by omega), hB, bR_s, if_neg (by rcases hr with q | q <;> subst q <;> decide)]
        · rw [Mtop w (Or.inr trivial), hRF, bR_s, if_neg (by rcases hr with q | q <;> subst q <;> decide)]
          unfold f_X12_who_b51
          rw [hRF, bR_s]
          by_cases z : v = 0
          · rw [if_pos (by rw [fa_le, tv, t0]; omega)]
          · obtain ⟨k1, k2⟩ := hkk (by omega)
            have tk := nI_toInt (n := k) (by omega)
            rw [if_neg (by rw [fa_le, tv, t0]; omega), M_in, bR_s, ite_b2i, if_pos (by rw [k2, tk, t0, t3]; omega)]
  · refine ⟨-1, w, w, ?_, ?_, eqo_rf w⟩
    · unfold f_X11_who
      rw [X_isShelf, bR_s, ite_b2i]
      by_cases c1 : inb a1 6
      · rw [if_pos c1, X_isBag, bR_s, ite_b2i]
        by_cases c2 : inb a2 4
        · rw [if_pos c2]
          by_cases c3 : a3 < 0
          · rw [if_pos c3]
          · rw [if_neg c3, if_neg]
            intro c4
            rw [fa_lt] at c3
            rw [fa_le] at c4
            exact h ⟨c1, c2, ⟨by omega, by omega⟩⟩
        · rw [if_neg c2]
      · rw [if_neg c1]
    · unfold f_X12_who
      rw [M_isShelf, bR_s, ite_b2i]
      by_cases c1 : inb a1 6
      · rw [if_pos c1, M_isBag, bR_s, ite_b2i]
        by_cases c2 : inb a2 4
        · rw [if_pos c2, M_in, bR_s, ite_b2i, if_neg]
          intro z
          exact h ⟨c1, c2, ⟨by omega, by omega⟩⟩
        · rw [if_neg c2]
      · rw [if_neg c1]
