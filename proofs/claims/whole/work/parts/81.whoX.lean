/-! WHO LOOKED: the class's witness -/
def VW (A : Ab) (t : Nat) (fs : Nat → Nat) (w : Wd) : Prop := gi w 23 6 = nI t ∧ gi w 23 7 = nI A.L ∧ (∀ k, k < A.L → ∀ d, d < 4 → gi w 26 (4 * k + d) = nI (shp A k d)) ∧ ∀ i, i < t → gi w 27 i = nI (fs i) ∧ fs i ≤ 3
def WX (t : Nat) (W : WS) (w : Wd) : Prop := gi w 23 8 = nI W.rows ∧ (∀ i, i < t → gi w 29 i = nI (W.sn i)) ∧ gl w 23 9 = lN W.gr ∧ ∀ i, i < t → 0 < W.gr → gi w 30 i = nI (W.bs i)
def sWX (d c k : Nat) : Bool := (c == 28 && decide (d ≤ k)) || (c == 25 && decide (4 * (d + 1) ≤ k)) || c == 29 || c == 30 || (c == 23 && (k == 8 || k == 9))
def sNX (c k : Nat) : Bool := c == 29 || c == 30 || (c == 23 && (k == 8 || k == 9))
theorem sNX_W {d : Nat} : ∀ c k, sNX c k = true → sWX d c k = true := by
  intro c k h
  simp only [sNX, sWX, Bool.or_eq_true, Bool.and_eq_true, beq_iff_eq, decide_eq_true_eq] at h ⊢
  omega
theorem sWX_up {d : Nat} : ∀ c k, sWX (d + 1) c k = true → sWX d c k = true := by
  intro c k h
  simp only [sWX, Bool.or_eq_true, Bool.and_eq_true, beq_iff_eq, decide_eq_true_eq] at h ⊢
  omega
theorem sPT_W {d : Nat} : ∀ c k, sPT 25 (d + 1) c k = true → sWX d c k = true := by
  intro c k h
  simp only [sPT, sWX, Bool.or_eq_true, Bool.and_eq_true, beq_iff_eq, decide_eq_true_eq] at h ⊢
  omega
theorem sWX_s {d : Nat} : ∀ c k, sWX d c k = true → scr c k = true := by
  intro c k h
  simp only [sWX, scr, Bool.or_eq_true, Bool.and_eq_true, beq_iff_eq, decide_eq_true_eq] at h ⊢
  omega
theorem VW_W {A : Ab} {t d : Nat} {fs : Nat → Nat} {w w' : Wd} (h : VW A t fs w) (he : eqo (sWX d) w w') : VW A t fs w' := ⟨(he 23 6 rfl).1.trans h.1, (he 23 7 rfl).1.trans h.2.1, fun k hk d hd => (he 26 _ rfl).1.trans (h.2.2.1 k hk d hd), fun i hi => ⟨(he 27 i rfl).1.trans (h.2.2.2 i hi).1, (h.2.2.2 i hi).2⟩⟩
theorem PT_W {d : Nat} {p : Nat → Nat} {w w' : Wd} (h : PT 25 d p w) (he : eqo (sWX d) w w') : PT 25 d p w' := eqo_PT h he (fun j hj => by simp [sWX]; omega)
theorem lk_W {d : Nat} {lk : Nat → Nat} {w w' : Wd} (h : ∀ i, i < d → gi w 28 i = nI (lk i)) (he : eqo (sWX d) w w') : ∀ i, i < d → gi w' 28 i = nI (lk i) := fun i hi => by rw [(he 28 i (by simp [sWX]; omega)).1]; exact h i hi
theorem X_n12 {t : Nat} {lk : Nat → Nat} {W : WS} (ht : t ≤ 4) (hl : lok t lk) (hsn : ∀ i, i < t → W.sn i < 64) : ∀ (f n i : Nat) (w : Wd), i + f = t → gi w 23 6 = nI t → (∀ j, j < t → gi w 28 j = nI (lk j)) → (∀ j, i ≤ j → j < t → gi w 29 j = nI (W.sn j)) → ∃ w', f_X10_note_b12 (n + f) (nI i) w = f_X10_note_b12 n (nI t) w' ∧ (∀ j, i ≤ j → j < t → gi w' 29 j = nI (W.sn j ||| 2 ^ (lk j))) ∧ (∀ c k, ¬ (c = 29 ∧ i ≤ k) → gi w' c k = gi w c k) ∧ ∀ c k, gl w' c k = gl w c k
  | 0, n, i, w, hi, _, _, _ => by
    have : i = t := hi
    subst this
    exact ⟨w, rfl, fun j h1 h2 => absurd h2 (by omega), fun _ _ _ => rfl, fun _ _ => rfl⟩
  | f + 1, n, i, w, hi, h6, h28, h29 => by
    have o := (or64 _ (hsn i (by omega)) _ (hl i (by omega))).2.2.1
    obtain ⟨w', q1, q2, q3, q4⟩ := X_n12 ht hl hsn f n (i + 1) (si w 29 i (nI (W.sn i ||| 2 ^ (lk i)))) (by omega) (by rw [gi_si, if_neg (by omega)]; exact h6) (fun j hj => by rw [gi_si, if_neg (by omega)]; exact h28 j hj) (fun j h1 h2 => by rw [gi_si, if_neg (by omega)]; exact h29 j (by omega) h2)
    refine ⟨w', ?_, fun j h1 h2 => ?_, fun c k h => ?_, fun c k => by rw [q4 c k]; rfl⟩
    · show f_X10_note_b12_y (f_X10_note_b12 (n + f)) (nI i) w = _
      unfold f_X10_note_b12_y
      rw [h6, if_neg (by rw [nI_leI (by omega) (by omega)]; omega), ldI_d (inb_nI (by omega) (by omega)), ix_nI (by omega), h29 i (by omega) (by omega), ldI_d (inb_nI (by omega) (by omega)), ix_nI (by omega), h28 i (by omega), o, saI_d (inb_nI (by omega) (by omega)), ix_nI (by omega), nI_1]
      exact q1
    · by_cases z : j = i
      · rw [q3 29 j (by omega), gi_si, if_pos ⟨rfl, z⟩, z]
      · exact q2 j (by omega) h2
    · rw [q3 c k (by omega), gi_si, if_neg (by omega)]
theorem Wi_note {t : Nat} {lk p : Nat → Nat} {W : WS} {w : Wd} (ht : t ≤ 4) (h6 : gi w 23 6 = nI t) (hW : WX t W w) (hok : wok t W) (hl : lok t lk) (h28 : ∀ i, i < t → gi w 28 i = nI (lk i)) (hP : PT 25 t p w) (hs : sumN p < 2 ^ 63) : ∃ w', f_X10_note w = some w' ∧ WX t (wnote t lk (sumN p) W) w' ∧ eqo sNX w w' := by
  obtain ⟨x1, x2, x3, x4⟩ := hW
  obtain ⟨k1, k2, k3, k4⟩ := hok
  have E1 : eqo sNX w (si w 23 8 (nI (W.rows + 1))) := eqo_si (eqo_rf w) rfl
  obtain ⟨w2, q1, q2, q3, q4⟩ := X_n12 (W := W) ht hl (fun i hi => (k1 i hi).1) t (300 - t) 0 (si w 23 8 (nI (W.rows + 1))) (by omega) (by rw [gi_si, if_neg (by omega)]; exact h6) (fun j hj => by rw [gi_si, if_neg (by omega)]; exact h28 j hj) (fun j _ hj => by rw [gi_si, if_neg (by omega)]; exact x2 j hj)
  have E2 : eqo sNX w w2 := eqo_tr E1 (eqo_cell (a := 29) (fun _ => rfl) (fun c k n => q3 c k (fun z => n z.1)) q4)
  have h62 : gi w2 23 6 = nI t := by rw [q3 23 6 (by omega), gi_si, if_neg (by omega)]; exact h6
  have h282 : ∀ i, i < t → gi w2 28 i = nI (lk i) := fun i hi => by rw [q3 28 i (by omega), gi_si, if_neg (by omega)]; exact h28 i hi
  have hP2 : PT 25 t p w2 := fun j hj => by rw [q4]; exact hP j hj
  have g9 : gl w2 23 9 = lN W.gr := by rw [q4]; exact x3
  have g8 : gi w2 23 8 = nI (W.rows + 1) := by rw [q3 23 8 (by omega), gi_si, if_pos ⟨rfl, rfl⟩]
  have g30 : ∀ i, gi w2 30 i = gi w 30 i := fun i => by rw [q3 30 i (by omega), gi_si, if_neg (by omega)]
  have hfu : fu = 300 - t + t := by show 300 = _; omega
  have hfin : f_X10_note w = f_X10_note_b12 (300 - t) (nI t) w2 := by
    unfold f_X10_note
    rw [x1, nI_1, stI_d, hfu]
    exact q1
  obtain ⟨m, hm⟩ : ∃ m, 300 - t = m + 1 := ⟨299 - t, by omega⟩
  rw [hm] at hfin
  have hfin2 : f_X10_note w = f_X10_note_b12_y (f_X10_note_b12 m) (nI t) w2 := hfin
  have iffc : (lN W.gr < lN (sumN p)) ↔ W.gr < sumN p := pk_lLT k3 hs
  rw [hfin2]
  unfold f_X10_note_b12_y
  rw [h62, if_pos (by rw [nI_leI (by omega) (by omega)]; omega), X_all (c0 := 24) ht hP2, bR_s, g9]
  by_cases c : W.gr < sumN p
  · have tt := nI_toInt (n := t) (by omega)
    have h63 : gi (sl w2 23 9 (lN (sumN p))) 23 6 = nI t := h62
    have ok : cyok 4 4 (0 : Int32) (0 : Int32) (nI t) := by
      refine ⟨by decide, by decide, by rw [tt]; omega, ?_, ?_⟩
      · rw [tt, ti_0]; omega
      · rw [tt, ti_0]; omega
    rw [if_pos (iffc.mpr c), stL_d, h63, cyI_d ok, ix_nI (by omega)]
    have x0 : ix 0 = 0 := rfl
    rw [x0]
    refine ⟨_, rfl, ⟨?_, fun i hi => ?_, ?_, fun i hi _ => ?_⟩, ?_⟩
    · rw [gi_cpI, if_neg (by omega)]; exact g8
    · rw [gi_cpI, if_neg (by omega)]
      show gi w2 29 i = nI (if i < t then W.sn i ||| 2 ^ (lk i) else W.sn i)
      rw [if_pos hi]; exact q2 i (by omega) hi
    · rw [gl_cpI, gl_sl_s]
      show lN (sumN p) = lN (if W.gr < sumN p then sumN p else W.gr)
      rw [if_pos c]
    · rw [gi_cpI, if_pos ⟨rfl, by omega, by omega⟩]
      show gi w2 28 (0 + (i - 0)) = nI ((if W.gr < sumN p then (fun i => if i < t then lk i else W.bs i) else W.bs) i)
      rw [if_pos c, show 0 + (i - 0) = i by omega, h282 i hi]
      show nI (lk i) = nI (if i < t then lk i else W.bs i)
      rw [if_pos hi]
    · refine eqo_tr E2 (fun c k h => ?_)
      rw [gi_cpI, gl_cpI]
      have n30 : ¬ c = 30 := fun z => by rw [z] at h; cases h
      have n9 : ¬ (c = 23 ∧ k = 9) := fun z => by rw [z.1, z.2] at h; cases h
      rw [if_neg (fun z => n30 z.1), gl_sl_n n9]
      exact ⟨rfl, rfl⟩
  · rw [if_neg (fun q => c (iffc.mp q))]
    refine ⟨w2, rfl, ⟨g8, fun i hi => ?_, ?_, fun i hi hg => ?_⟩, E2⟩
    · show gi w2 29 i = nI (if i < t then W.sn i ||| 2 ^ (lk i) else W.sn i)
      rw [if_pos hi]; exact q2 i (by omega) hi
    · rw [g9]
      show lN W.gr = lN (if W.gr < sumN p then sumN p else W.gr)
      rw [if_neg c]
    · have hg' : 0 < (if W.gr < sumN p then sumN p else W.gr) := hg
      rw [if_neg c] at hg'
      rw [g30]
      show gi w 30 i = nI ((if W.gr < sumN p then (fun i => if i < t then lk i else W.bs i) else W.bs) i)
      rw [if_neg c]; exact x4 i hi hg'
def GOX (A : Ab) (t : Nat) (fs : Nat → Nat) (f d n : Nat) : Prop := ∀ (lk p : Nat → Nat) (W : WS) (w : Wd), VW A t fs w → WX t W w → wok t W → lok d lk → (∀ i, i < d → gi w 28 i = nI (lk i)) → PT 25 d p w → pB d p → 0 < sumN p → ∃ w', f_X10_goOn n (nI d) w = some w' ∧ WX t (wgo A t fs f d lk p W) w' ∧ eqo (sWX d) w w'
theorem X_goL {A : Ab} (hA : Aok A) {t f d n : Nat} {fs p : Nat → Nat} (ht : t ≤ 4) (hd : d + (f + 1) = t) (IH : GOX A t fs f (d + 1) n) (hB : pB d p) : ∀ (k n' who : Nat) (lk : Nat → Nat) (W : WS) (w : Wd), who + k = A.L → k < n' → VW A t fs w → WX t W w → wok t W → lok d lk → (∀ i, i < d → gi w 28 i = nI (lk i)) → PT 25 d p w → ∃ w', f_X10_goOn_b15 (f_X10_goOn n) n' (nI d) (nI who) w = some w' ∧ WX t (wlp A d (fs d) p (wgo A t fs f (d + 1)) k who lk W) w' ∧ eqo (sWX d) w w'
  | 0, 0, _, _, _, _, _, h, _, _, _, _, _, _ => absurd h (by omega)
  | 0, n' + 1, who, lk, W, w, hk, _, hV, hW, _, _, _, _ => by
    have h6 := hA.1
    refine ⟨w, ?_, hW, eqo_rf w⟩
    show f_X10_goOn_b15_y (f_X10_goOn n) (f_X10_goOn_b15 (f_X10_goOn n) n') (nI d) (nI who) w = _
    unfold f_X10_goOn_b15_y
    rw [hV.2.1, if_pos (by rw [nI_leI (by omega) (by omega)]; omega)]
  | k + 1, 0, _, _, _, _, _, h, _, _, _, _, _, _ => absurd h (by omega)
  | k + 1, n' + 1, who, lk, W, w, hk, hn, hV, hW, hok, hl, h28, hP => by
    have h6 := hA.1
    have hsh := shp_le A who d
    have hfs := (hV.2.2.2 d (by omega)).2
    have E1 : eqo (sWX d) w (si w 28 d (nI who)) := eqo_si (eqo_rf w) (by simp [sWX])
    have hV1 := VW_W hV E1
    have hP1 := PT_W hP E1
    obtain ⟨w2, p1, p2, p3⟩ := C_step (c0 := 24) (d := d) (sh := shp A who d) (f := fs d) (p := p) (by omega) hsh hfs hP1
    have E2 := eqo_tr E1 (eqo_mono p3 (sPT_W (d := d)))
    have hB2 := pB_step (f := fs d) hB hsh
    have hsum := pB_sum hB2 (by omega)
    have hW2 : WX t W w2 := by
      obtain ⟨x1, x2, x3, x4⟩ := hW
      have g : ∀ c k, ¬ c = 25 → ¬ (c = 28 ∧ k = d) → gi w2 c k = gi w c k := fun c k a b => by rw [(p3 c k (by simp [sPT]; omega)).1, gi_si, if_neg b]
      have gl2 : gl w2 23 9 = gl w 23 9 := by rw [(p3 23 9 rfl).2]; rfl
      exact ⟨by rw [g 23 8 (by omega) (by omega)]; exact x1, fun i hi => by rw [g 29 i (by omega) (by omega)]; exact x2 i hi, by rw [gl2]; exact x3, fun i hi hg => by rw [g 30 i (by omega) (by omega)]; exact x4 i hi hg⟩
    have h282 : ∀ i, i < d + 1 → gi w2 28 i = nI (lup lk d who i) := fun i hi => by
      rw [(p3 28 i rfl).1, gi_si]
      unfold lup
      by_cases z : i = d
      · rw [if_pos ⟨rfl, z⟩, if_pos z]
      · rw [if_neg (fun y => z y.2), if_neg z]; exact h28 i (by omega)
    have hl2 := lok_upd hl (who := who) (by omega)
    have iffz : (lN (sumN (stepN p (shp A who d) (fs d))) ≤ (0 : Int64)) ↔ sumN (stepN p (shp A who d) (fs d)) = 0 := by
      rw [show (0 : Int64) = lN 0 from rfl, pk_lLE (by omega) (by omega)]
      omega
    have e1 : (nI who * 4 + nI d : Int32) = nI (4 * who + d) := by rw [show (4 : Int32) = nI 4 from rfl, pk_mul, nI_add, Nat.mul_comm]
    have hcan : f_X10_canHaveFound (nI who) (nI d) (si w 28 d (nI who)) = if sumN (stepN p (shp A who d) (fs d)) = 0 then some (0, w2) else some (1, w2) := by
      unfold f_X10_canHaveFound
      rw [e1, ldI_d (inb_nI (by omega) (by omega)), ix_nI (by omega), hV1.2.2.1 who (by omega) d (by omega), ldI_d (inb_nI (by omega) (by omega)), ix_nI (by omega), (hV1.2.2.2 d (by omega)).1, p1, bV_s, nI_1, X_all (c0 := 24) (by omega) p2, bR_s]
      by_cases z : sumN (stepN p (shp A who d) (fs d)) = 0
      · rw [if_pos (iffz.mpr z), if_pos z]
      · rw [if_neg (fun q => z (iffz.mp q)), if_neg z]
    have e0 : f_X10_goOn_b15 (f_X10_goOn n) (n' + 1) (nI d) (nI who) w = f_X10_goOn_b15_y (f_X10_goOn n) (f_X10_goOn_b15 (f_X10_goOn n) n') (nI d) (nI who) w := rfl
    rw [e0]
    unfold f_X10_goOn_b15_y f_X10_goOn_b52 wlp
    rw [hV.2.1, if_neg (by rw [nI_leI (by omega) (by omega)]; omega), if_neg (by rw [show (6 : Int32) = nI 6 from rfl, nI_leI (by omega) (by omega)]; omega), saI_d (inb_nI (by omega) (by omega)), ix_nI (by omega), hcan]
    by_cases z : sumN (stepN p (shp A who d) (fs d)) = 0
    · rw [if_pos z, if_pos z, bW_s, if_pos rfl, nI_1]
      obtain ⟨w3, q1, q2, q3⟩ := X_goL hA ht hd IH hB k n' (who + 1) (lup lk d who) W w2 (by omega) (by omega) (VW_W hV E2) hW2 hok (lok_upd' hl) (fun i hi => h282 i (by omega)) (PT_W hP E2)
      exact ⟨w3, q1, q2, eqo_tr E2 q3⟩
    · rw [if_neg z, if_neg z, bW_s, if_neg (by decide), nI_1]
      obtain ⟨w3, r1, r2, r3⟩ := IH (lup lk d who) (stepN p (shp A who d) (fs d)) W w2 (VW_W hV E2) hW2 hok hl2 h282 p2 hB2 (by omega)
      have E3 := eqo_tr E2 (eqo_mono r3 (sWX_up (d := d)))
      have hok3 := (wgo_ok hA (fs := fs) ht f (d + 1) (lup lk d who) (stepN p (shp A who d) (fs d)) W (by omega) hok hl2 hB2 (by omega)).1
      rw [r1, bV_s, nI_1]
      obtain ⟨w4, q1, q2, q3⟩ := X_goL hA ht hd IH hB k n' (who + 1) (lup lk d who) _ w3 (by omega) (by omega) (VW_W hV E3) r2 hok3 (lok_upd' hl) (fun i hi => by rw [(r3 28 i (by simp [sWX]; omega)).1]; exact h282 i (by omega)) (PT_W hP E3)
      exact ⟨w4, q1, q2, eqo_tr E3 q3⟩
theorem X_goOn {A : Ab} (hA : Aok A) {t : Nat} {fs : Nat → Nat} (ht : t ≤ 4) : ∀ f d n, d + f = t → f < n → GOX A t fs f d n
  | 0, d, 0, _, h => absurd h (by omega)
  | 0, d, n + 1, hd, _ => by
    intro lk p W w hV hW hok hl h28 hP hB hs
    have hdt : d = t := hd
    subst hdt
    have hsum := pB_sum hB ht
    have td := nI_toInt (n := d) (by omega)
    obtain ⟨w', q1, q2, q3⟩ := Wi_note ht hV.1 hW hok hl h28 hP (by omega)
    refine ⟨w', ?_, q2, eqo_mono q3 sNX_W⟩
    show f_X10_goOn_y (f_X10_goOn n) (nI d) w = _
    unfold f_X10_goOn_y
    rw [hV.1, if_neg (by rw [fa_lt]; omega), q1, bV_s]
  | f + 1, d, 0, _, h => absurd h (by omega)
  | f + 1, d, n + 1, hd, hn => by
    intro lk p W w hV hW hok hl h28 hP hB hs
    have h6 := hA.1
    have IH := X_goOn hA (fs := fs) ht f (d + 1) n (by omega) (by omega)
    have td := nI_toInt (n := d) (by omega)
    have tt := nI_toInt (n := t) (by omega)
    obtain ⟨w', q1, q2, q3⟩ := X_goL hA ht hd IH hB A.L fu 0 lk W w (by omega) (by show _ < 300; omega) hV hW hok hl h28 hP
    refine ⟨w', ?_, q2, q3⟩
    show f_X10_goOn_y (f_X10_goOn n) (nI d) w = _
    unfold f_X10_goOn_y
    rw [hV.1, if_pos (by rw [fa_lt, td, tt]; omega)]
    exact q1
