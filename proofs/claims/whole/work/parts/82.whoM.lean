/-! WHO LOOKED: the model's rows -/
def VWM (A : Ab) (t : Nat) (fs : Nat → Nat) (w : Wd) : Prop := VM A w ∧ gi w 54 38 = nI t ∧ ∀ i, i < t → gi w 74 i = nI (fs i) ∧ fs i ≤ 3
def WM (L t : Nat) (W : WS) (w : Wd) : Prop := gi w 54 42 = nI W.rows ∧ (∀ i, i < t → gi w 77 i = nI (alv L W.rows (W.sn i))) ∧ gl w 54 43 = lN W.gr ∧ ∀ i, i < t → 0 < W.gr → gi w 76 i = nI (W.bs i)
def sWM (d c k : Nat) : Bool := (c == 75 && decide (d ≤ k)) || (c == 71 && decide (4 * (d + 1) ≤ k)) || c == 76 || c == 77 || (c == 54 && (k == 42 || k == 43)) || c == 69 || c == 70
def sNM (c k : Nat) : Bool := c == 76 || c == 77 || (c == 54 && (k == 42 || k == 43))
theorem sNM_W {d : Nat} : ∀ c k, sNM c k = true → sWM d c k = true := by
  intro c k h
  simp only [sNM, sWM, Bool.or_eq_true, Bool.and_eq_true, beq_iff_eq, decide_eq_true_eq] at h ⊢
  omega
theorem sWM_up {d : Nat} : ∀ c k, sWM (d + 1) c k = true → sWM d c k = true := by
  intro c k h
  simp only [sWM, Bool.or_eq_true, Bool.and_eq_true, beq_iff_eq, decide_eq_true_eq] at h ⊢
  omega
theorem sPT_WM {d : Nat} : ∀ c k, sPT 71 (d + 1) c k = true → sWM d c k = true := by
  intro c k h
  simp only [sPT, sWM, Bool.or_eq_true, Bool.and_eq_true, beq_iff_eq, decide_eq_true_eq] at h ⊢
  omega
theorem sEZ_WM {d : Nat} : ∀ c k, sEZ c k = true → sWM d c k = true := by
  intro c k h
  simp only [sEZ, sWM, Bool.or_eq_true, Bool.and_eq_true, beq_iff_eq, decide_eq_true_eq] at h ⊢
  omega
theorem sWM_s {d : Nat} : ∀ c k, sWM d c k = true → scr c k = true := by
  intro c k h
  simp only [sWM, scr, Bool.or_eq_true, Bool.and_eq_true, beq_iff_eq, decide_eq_true_eq] at h ⊢
  omega
theorem VWM_W {A : Ab} {t d : Nat} {fs : Nat → Nat} {w w' : Wd} (h : VWM A t fs w) (he : eqo (sWM d) w w') : VWM A t fs w' := ⟨VM_s h.1 (eqo_mono he sWM_s), (he 54 38 rfl).1.trans h.2.1, fun i hi => ⟨(he 74 i rfl).1.trans (h.2.2 i hi).1, (h.2.2 i hi).2⟩⟩
theorem PT_WM {d : Nat} {p : Nat → Nat} {w w' : Wd} (h : PT 71 d p w) (he : eqo (sWM d) w w') : PT 71 d p w' := eqo_PT h he (fun j hj => by simp [sWM]; omega)
theorem M_n20 {L t : Nat} {lk : Nat → Nat} {W : WS} (r : Int32 → Wd → Option Wd) (x1 : Int32) (hL : L ≤ 6) (ht : t ≤ 4) (hl : ∀ i, i < t → lk i < L) (hsn : ∀ i, i < t → W.sn i < 64 ∧ (W.rows = 0 → W.sn i = 0) ∧ (0 < W.rows → 0 < W.sn i)) : ∀ (f n i : Nat) (w : Wd), i + f = t → gi w 54 38 = nI t → (∀ j, j < t → gi w 75 j = nI (lk j)) → (∀ j, i ≤ j → j < t → gi w 77 j = nI (alv L W.rows (W.sn j))) → ∃ w', f_X12_goRows_b20 r (n + f) x1 (nI i) w = f_X12_goRows_b20 r n x1 (nI t) w' ∧ (∀ j, i ≤ j → j < t → gi w' 77 j = nI (alv L (W.rows + 1) (W.sn j ||| 2 ^ (lk j)))) ∧ (∀ c k, ¬ (c = 77 ∧ i ≤ k) → gi w' c k = gi w c k) ∧ ∀ c k, gl w' c k = gl w c k
  | 0, n, i, w, hi, _, _, _ => by
    have : i = t := hi
    subst this
    exact ⟨w, rfl, fun j h1 h2 => absurd h2 (by omega), fun _ _ _ => rfl, fun _ _ => rfl⟩
  | f + 1, n, i, w, hi, h6, h28, h29 => by
    obtain ⟨s1, s2, s3⟩ := hsn i (by omega)
    have hli := hl i (by omega)
    have o := (or64 _ (alv_lt (r := W.rows) hL s1) (lk i) (by omega)).2.2.2
    rw [alv_st hL hli s1 s2 s3] at o
    obtain ⟨w', q1, q2, q3, q4⟩ := M_n20 (W := W) r x1 hL ht hl hsn f n (i + 1) (si w 77 i (nI (alv L (W.rows + 1) (W.sn i ||| 2 ^ (lk i))))) (by omega) (by rw [gi_si, if_neg (by omega)]; exact h6) (fun j hj => by rw [gi_si, if_neg (by omega)]; exact h28 j hj) (fun j h1 h2 => by rw [gi_si, if_neg (by omega)]; exact h29 j (by omega) h2)
    refine ⟨w', ?_, fun j h1 h2 => ?_, fun c k h => ?_, fun c k => by rw [q4 c k]; rfl⟩
    · show f_X12_goRows_b20_y r (f_X12_goRows_b20 r (n + f)) x1 (nI i) w = _
      unfold f_X12_goRows_b20_y
      rw [h6, if_neg (by rw [nI_leI (by omega) (by omega)]; omega), ldI_d (inb_nI (by omega) (by omega)), ix_nI (by omega), h29 i (by omega) (by omega), ldI_d (inb_nI (by omega) (by omega)), ix_nI (by omega), h28 i (by omega), o, saI_d (inb_nI (by omega) (by omega)), ix_nI (by omega), nI_1]
      exact q1
    · by_cases z : j = i
      · rw [q3 77 j (by omega), gi_si, if_pos ⟨rfl, z⟩, z]
      · exact q2 j (by omega) h2
    · rw [q3 c k (by omega), gi_si, if_neg (by omega)]
theorem M_n76 {t : Nat} {lk : Nat → Nat} (r : Int32 → Wd → Option Wd) (ht : t ≤ 4) : ∀ (f n i : Nat) (w : Wd), i + f = t → f < n → gi w 54 38 = nI t → (∀ j, j < t → gi w 75 j = nI (lk j)) → ∃ w', f_X12_goRows_b76 r n (nI i) w = some w' ∧ (∀ j, i ≤ j → j < t → gi w' 76 j = nI (lk j)) ∧ (∀ c k, ¬ (c = 76 ∧ i ≤ k) → gi w' c k = gi w c k) ∧ ∀ c k, gl w' c k = gl w c k
  | 0, 0, _, _, _, h, _, _ => absurd h (by omega)
  | 0, n + 1, i, w, hi, _, h6, _ => by
    refine ⟨w, ?_, fun j h1 h2 => absurd h2 (by omega), fun _ _ _ => rfl, fun _ _ => rfl⟩
    show f_X12_goRows_b76_y r (f_X12_goRows_b76 r n) (nI i) w = _
    unfold f_X12_goRows_b76_y
    rw [h6, if_pos (by rw [nI_leI (by omega) (by omega)]; omega)]
  | f + 1, 0, _, _, _, h, _, _ => absurd h (by omega)
  | f + 1, n + 1, i, w, hi, hn, h6, h28 => by
    obtain ⟨w', q1, q2, q3, q4⟩ := M_n76 r ht f n (i + 1) (si w 76 i (nI (lk i))) (by omega) (by omega) (by rw [gi_si, if_neg (by omega)]; exact h6) (fun j hj => by rw [gi_si, if_neg (by omega)]; exact h28 j hj)
    refine ⟨w', ?_, fun j h1 h2 => ?_, fun c k h => ?_, fun c k => by rw [q4 c k]; rfl⟩
    · show f_X12_goRows_b76_y r (f_X12_goRows_b76 r n) (nI i) w = _
      unfold f_X12_goRows_b76_y
      rw [h6, if_neg (by rw [nI_leI (by omega) (by omega)]; omega), ldI_d (inb_nI (by omega) (by omega)), ix_nI (by omega), h28 i (by omega), saI_d (inb_nI (by omega) (by omega)), ix_nI (by omega), nI_1]
      exact q1
    · by_cases z : j = i
      · rw [q3 76 j (by omega), gi_si, if_pos ⟨rfl, z⟩, z]
      · exact q2 j (by omega) h2
    · rw [q3 c k (by omega), gi_si, if_neg (by omega)]
theorem Wm_note {L t : Nat} {lk p : Nat → Nat} {W : WS} {w : Wd} (r : Int32 → Wd → Option Wd) (hL : L ≤ 6) (ht : t ≤ 4) (h6 : gi w 54 38 = nI t) (hW : WM L t W w) (hok : wok t W) (hl : ∀ i, i < t → lk i < L) (h28 : ∀ i, i < t → gi w 75 i = nI (lk i)) (hP : PT 71 t p w) (hs : sumN p < 2 ^ 63) : ∃ w', f_X12_goRows_y r (nI t) w = some w' ∧ WM L t (wnote t lk (sumN p) W) w' ∧ eqo sNM w w' := by
  obtain ⟨x1, x2, x3, x4⟩ := hW
  obtain ⟨k1, k2, k3, k4⟩ := hok
  have E1 : eqo sNM w (si w 54 42 (nI (W.rows + 1))) := eqo_si (eqo_rf w) rfl
  obtain ⟨w2, q1, q2, q3, q4⟩ := M_n20 (W := W) r (nI t) hL ht hl k1 t (300 - t) 0 (si w 54 42 (nI (W.rows + 1))) (by omega) (by rw [gi_si, if_neg (by omega)]; exact h6) (fun j hj => by rw [gi_si, if_neg (by omega)]; exact h28 j hj) (fun j _ hj => by rw [gi_si, if_neg (by omega)]; exact x2 j hj)
  have E2 : eqo sNM w w2 := eqo_tr E1 (eqo_cell (a := 77) (fun _ => rfl) (fun c k n => q3 c k (fun z => n z.1)) q4)
  have h62 : gi w2 54 38 = nI t := by rw [q3 54 38 (by omega), gi_si, if_neg (by omega)]; exact h6
  have h282 : ∀ i, i < t → gi w2 75 i = nI (lk i) := fun i hi => by rw [q3 75 i (by omega), gi_si, if_neg (by omega)]; exact h28 i hi
  have hP2 : PT 71 t p w2 := fun j hj => by rw [q4]; exact hP j hj
  have g9 : gl w2 54 43 = lN W.gr := by rw [q4]; exact x3
  have g8 : gi w2 54 42 = nI (W.rows + 1) := by rw [q3 54 42 (by omega), gi_si, if_pos ⟨rfl, rfl⟩]
  have g30 : ∀ i, gi w2 76 i = gi w 76 i := fun i => by rw [q3 76 i (by omega), gi_si, if_neg (by omega)]
  have hfu : fu = 300 - t + t := by show 300 = _; omega
  have hfin : f_X12_goRows_y r (nI t) w = f_X12_goRows_b20 r (300 - t) (nI t) (nI t) w2 := by
    unfold f_X12_goRows_y
    rw [h6, if_pos rfl, x1, nI_1, stI_d, hfu]
    exact q1
  obtain ⟨m, hm⟩ : ∃ m, 300 - t = m + 1 := ⟨299 - t, by omega⟩
  rw [hm] at hfin
  have hfin2 : f_X12_goRows_y r (nI t) w = f_X12_goRows_b20_y r (f_X12_goRows_b20 r m) (nI t) (nI t) w2 := hfin
  have iffc : (lN W.gr < lN (sumN p)) ↔ W.gr < sumN p := pk_lLT k3 hs
  rw [hfin2]
  unfold f_X12_goRows_b20_y
  rw [h62, if_pos (by rw [nI_leI (by omega) (by omega)]; omega), M_all (by omega) hP2, bR_s, bR_s, g9]
  by_cases c : W.gr < sumN p
  · rw [if_pos (iffc.mpr c), stL_d]
    obtain ⟨w3, r1, r2, r3, r4⟩ := M_n76 (lk := lk) r ht t fu 0 (sl w2 54 43 (lN (sumN p))) (by omega) (by show _ < 300; omega) h62 h282
    have r1' : f_X12_goRows_b76 r fu 0 (sl w2 54 43 (lN (sumN p))) = some w3 := r1
    refine ⟨w3, r1', ⟨?_, fun i hi => ?_, ?_, fun i hi _ => ?_⟩, ?_⟩
    · rw [r3 54 42 (by omega)]; exact g8
    · rw [r3 77 i (by omega)]
      show gi w2 77 i = nI (alv L (W.rows + 1) (if i < t then W.sn i ||| 2 ^ (lk i) else W.sn i))
      rw [if_pos hi]; exact q2 i (by omega) hi
    · rw [r4, gl_sl_s]
      show lN (sumN p) = lN (if W.gr < sumN p then sumN p else W.gr)
      rw [if_pos c]
    · rw [r2 i (by omega) hi]
      show nI (lk i) = nI ((if W.gr < sumN p then (fun i => if i < t then lk i else W.bs i) else W.bs) i)
      rw [if_pos c]
      show nI (lk i) = nI (if i < t then lk i else W.bs i)
      rw [if_pos hi]
    · refine eqo_tr E2 (fun c k h => ?_)
      have n30 : ¬ c = 76 := fun z => by rw [z] at h; cases h
      have n9 : ¬ (c = 54 ∧ k = 43) := fun z => by rw [z.1, z.2] at h; cases h
      rw [r3 c k (fun z => n30 z.1), r4, gl_sl_n n9]
      exact ⟨rfl, rfl⟩
  · rw [if_neg (fun q => c (iffc.mp q))]
    refine ⟨w2, rfl, ⟨g8, fun i hi => ?_, ?_, fun i hi hg => ?_⟩, E2⟩
    · show gi w2 77 i = nI (alv L (W.rows + 1) (if i < t then W.sn i ||| 2 ^ (lk i) else W.sn i))
      rw [if_pos hi]; exact q2 i (by omega) hi
    · rw [g9]
      show lN W.gr = lN (if W.gr < sumN p then sumN p else W.gr)
      rw [if_neg c]
    · have hg' : 0 < (if W.gr < sumN p then sumN p else W.gr) := hg
      rw [if_neg c] at hg'
      rw [g30]
      show gi w 76 i = nI ((if W.gr < sumN p then (fun i => if i < t then lk i else W.bs i) else W.bs) i)
      rw [if_neg c]; exact x4 i hi hg'
def GOM (A : Ab) (t : Nat) (fs : Nat → Nat) (f d n : Nat) : Prop := ∀ (lk p : Nat → Nat) (W : WS) (w : Wd), VWM A t fs w → WM A.L t W w → wok t W → (∀ i, i < d → lk i < A.L) → (∀ i, i < d → gi w 75 i = nI (lk i)) → PT 71 d p w → pB d p → 0 < sumN p → ∃ w', f_X12_goRows n (nI d) w = some w' ∧ WM A.L t (wgo A t fs f d lk p W) w' ∧ eqo (sWM d) w w'
theorem M_goL {A : Ab} (hA : Aok A) {t f d n : Nat} {fs p : Nat → Nat} (ht : t ≤ 4) (hd : d + (f + 1) = t) (IH : GOM A t fs f (d + 1) n) (hB : pB d p) : ∀ (k n' who : Nat) (lk : Nat → Nat) (W : WS) (w : Wd), who + k = A.L → k < n' → VWM A t fs w → WM A.L t W w → wok t W → (∀ i, i < d → lk i < A.L) → (∀ i, i < d → gi w 75 i = nI (lk i)) → PT 71 d p w → ∃ w', f_X12_goRows_b105 (f_X12_goRows n) n' (nI d) (nI who) w = some w' ∧ WM A.L t (wlp A d (fs d) p (wgo A t fs f (d + 1)) k who lk W) w' ∧ eqo (sWM d) w w'
  | 0, 0, _, _, _, _, _, h, _, _, _, _, _, _ => absurd h (by omega)
  | 0, n' + 1, who, lk, W, w, hk, _, hV, hW, _, _, _, _ => by
    have h6 := hA.1
    refine ⟨w, ?_, hW, eqo_rf w⟩
    show f_X12_goRows_b105_y (f_X12_goRows n) (f_X12_goRows_b105 (f_X12_goRows n) n') (nI d) (nI who) w = _
    unfold f_X12_goRows_b105_y
    rw [hV.1.2.1, if_pos (by rw [nI_leI (by omega) (by omega)]; omega)]
  | k + 1, 0, _, _, _, _, _, h, _, _, _, _, _, _ => absurd h (by omega)
  | k + 1, n' + 1, who, lk, W, w, hk, hn, hV, hW, hok, hl, h28, hP => by
    have h6 := hA.1
    have hsh := shp_le A who d
    have hfs := (hV.2.2 d (by omega)).2
    have E1 : eqo (sWM d) w (si w 75 d (nI who)) := eqo_si (eqo_rf w) (by simp [sWM])
    have hV1 := VWM_W hV E1
    have g9 : gi (si w 75 d (nI who)) 54 8 = thk A := hV1.1.2.2.1 9 0 ok9
    obtain ⟨w1, t1, t2⟩ := M_tw hV1.1 (k := who) (by omega) (nI d) (thk A)
    have t1' : f_X12_findsBy (nI who) (nI d) (thk A) (si w 75 d (nI who)) = some (nI (shp A who d), w1) := t1
    have E1' := eqo_tr E1 (eqo_mono t2 (sEZ_WM (d := d)))
    have hV1' := VWM_W hV E1'
    obtain ⟨w2, p1, p2, p3⟩ := M_look (d := d) (sh := shp A who d) (f := fs d) (p := p) (by omega) hsh hfs (PT_WM hP E1')
    have E2 := eqo_tr E1' (eqo_mono p3 (sPT_WM (d := d)))
    have hB2 := pB_step (f := fs d) hB hsh
    have hsum := pB_sum hB2 (by omega)
    have hW2 : WM A.L t W w2 := by
      obtain ⟨x1, x2, x3, x4⟩ := hW
      have g : ∀ c k, ¬ c = 71 → ¬ c = 69 → ¬ c = 70 → ¬ (c = 75 ∧ k = d) → gi w2 c k = gi w c k := fun c k a b x y => by rw [(p3 c k (by simp [sPT]; omega)).1, (t2 c k (by simp [sEZ]; omega)).1, gi_si, if_neg y]
      have gl2 : gl w2 54 43 = gl w 54 43 := by rw [(p3 54 43 rfl).2, (t2 54 43 rfl).2]; rfl
      exact ⟨by rw [g 54 42 (by omega) (by omega) (by omega) (by omega)]; exact x1, fun i hi => by rw [g 77 i (by omega) (by omega) (by omega) (by omega)]; exact x2 i hi, by rw [gl2]; exact x3, fun i hi hg => by rw [g 76 i (by omega) (by omega) (by omega) (by omega)]; exact x4 i hi hg⟩
    have h282 : ∀ i, i < d + 1 → gi w2 75 i = nI (lup lk d who i) := fun i hi => by
      rw [(p3 75 i rfl).1, (t2 75 i rfl).1, gi_si]
      unfold lup
      by_cases z : i = d
      · rw [if_pos ⟨rfl, z⟩, if_pos z]
      · rw [if_neg (fun y => z y.2), if_neg z]; exact h28 i (by omega)
    have hl2 : ∀ i, i < d + 1 → lup lk d who i < A.L := fun i hi => by
      unfold lup
      by_cases z : i = d
      · rw [if_pos z]; omega
      · rw [if_neg z]; exact hl i (by omega)
    have hl3 : ∀ i, i < d → lup lk d who i < A.L := fun i hi => hl2 i (by omega)
    have iffz : (lN (sumN (stepN p (shp A who d) (fs d))) ≤ (0 : Int64)) ↔ sumN (stepN p (shp A who d) (fs d)) = 0 := by
      rw [show (0 : Int64) = lN 0 from rfl, pk_lLE (by omega) (by omega)]
      omega
    have e0 : f_X12_goRows_b105 (f_X12_goRows n) (n' + 1) (nI d) (nI who) w = f_X12_goRows_b105_y (f_X12_goRows n) (f_X12_goRows_b105 (f_X12_goRows n) n') (nI d) (nI who) w := rfl
    rw [e0]
    unfold f_X12_goRows_b105_y f_X12_goRows_b160 wlp
    rw [hV.1.2.1, if_neg (by rw [nI_leI (by omega) (by omega)]; omega), saI_d (inb_nI (by omega) (by omega)), ix_nI (by omega), g9, t1', bW_s, ldI_d (inb_nI (by omega) (by omega)), ix_nI (by omega), (hV1'.2.2 d (by omega)).1, p1, bV_s, nI_1, M_all (by omega) p2, bR_s, nI_1]
    by_cases z : sumN (stepN p (shp A who d) (fs d)) = 0
    · rw [if_pos (iffz.mpr z), if_pos z]
      obtain ⟨w3, q1, q2, q3⟩ := M_goL hA ht hd IH hB k n' (who + 1) (lup lk d who) W w2 (by omega) (by omega) (VWM_W hV E2) hW2 hok hl3 (fun i hi => h282 i (by omega)) (PT_WM hP E2)
      exact ⟨w3, q1, q2, eqo_tr E2 q3⟩
    · rw [if_neg (fun q => z (iffz.mp q)), if_neg z]
      obtain ⟨w3, r1, r2, r3⟩ := IH (lup lk d who) (stepN p (shp A who d) (fs d)) W w2 (VWM_W hV E2) hW2 hok hl2 h282 p2 hB2 (by omega)
      have E3 := eqo_tr E2 (eqo_mono r3 (sWM_up (d := d)))
      have hok3 := (wgo_ok hA (fs := fs) ht f (d + 1) (lup lk d who) (stepN p (shp A who d) (fs d)) W (by omega) hok (fun i hi => Nat.lt_of_lt_of_le (hl2 i hi) h6) hB2 (by omega)).1
      rw [r1, bV_s]
      obtain ⟨w4, q1, q2, q3⟩ := M_goL hA ht hd IH hB k n' (who + 1) (lup lk d who) _ w3 (by omega) (by omega) (VWM_W hV E3) r2 hok3 hl3 (fun i hi => by rw [(r3 75 i (by simp [sWM]; omega)).1]; exact h282 i (by omega)) (PT_WM hP E3)
      exact ⟨w4, q1, q2, eqo_tr E3 q3⟩
theorem M_goRows {A : Ab} (hA : Aok A) {t : Nat} {fs : Nat → Nat} (ht : t ≤ 4) : ∀ f d n, d + f = t → f < n → GOM A t fs f d n
  | 0, d, 0, _, h => absurd h (by omega)
  | 0, d, n + 1, hd, _ => by
    intro lk p W w hV hW hok hl h28 hP hB hs
    have hdt : d = t := hd
    subst hdt
    have hsum := pB_sum hB ht
    obtain ⟨w', q1, q2, q3⟩ := Wm_note (f_X12_goRows n) hA.1 ht hV.2.1 hW hok hl h28 hP (by omega)
    exact ⟨w', q1, q2, eqo_mono q3 sNM_W⟩
  | f + 1, d, 0, _, h => absurd h (by omega)
  | f + 1, d, n + 1, hd, hn => by
    intro lk p W w hV hW hok hl h28 hP hB hs
    have h6 := hA.1
    have IH := M_goRows hA (fs := fs) ht f (d + 1) n (by omega) (by omega)
    obtain ⟨w', q1, q2, q3⟩ := M_goL hA ht hd IH hB A.L fu 0 lk W w (by omega) (by show _ < 300; omega) hV hW hok hl h28 hP
    refine ⟨w', ?_, q2, q3⟩
    show f_X12_goRows_y (f_X12_goRows n) (nI d) w = _
    unfold f_X12_goRows_y
    rw [hV.2.1, if_neg (by rw [nI_eq (by omega) (by omega)]; omega)]
    exact q1
