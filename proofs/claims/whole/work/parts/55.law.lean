/-! THE LAW: the relation, feed, law -/
def LXo (o : Option (List LN)) (w : Wd) : Prop := match o with
  | none => gi w 6 6 = 0
  | some ls => gi w 6 6 = nI (encs 0 ls).length ∧ (encs 0 ls).length ≤ 127 ∧ ∀ i, i < (encs 0 ls).length → gi w 9 i = eX ((encs 0 ls).getD i (0, 0))
def LMo (o : Option (List LN)) (w : Wd) : Prop := match o with
  | none => gi w 54 30 = 0
  | some ls => gi w 54 30 = 1 ∧ LK 0 0 ls w ∧ gi w 66 0 = nI ls.length ∧ ls.length ≤ 61 ∧ (flat ls).length ≤ 127
def okO (o : Option (List LN)) : Prop := ∀ ls, o = some ls → ¬ ls = [] ∧ ∀ l, l ∈ ls → okN l
def LR (t : Nat → Nat) (tp : Nat) (o : Option (List LN)) (w : Wd) : Prop := PX t tp w ∧ PM t tp w ∧ LXo o w ∧ LMo o w ∧ okO o
/-- the cells that the relation speaks of -/
def aLr (c k : Nat) : Bool := (c == 6 && (k == 1 || k == 6)) || c == 7 || c == 9 || (c == 54 && (k == 18 || k == 30)) || c == 63 || ((c == 64 || c == 65) && decide (k < 130)) || (c == 66 && k == 0) || ((c == 67 || c == 68) && decide (k < 61))
/-- the cells that feed and law write -/
def aL (c k : Nat) : Bool := (c == 6 && (k == 1 || k == 2 || k == 4 || k == 6)) || (7 ≤ c && c ≤ 9) || (c == 54 && (k == 18 || k == 19 || k == 20 || k == 21 || k == 22 || k == 30)) || (63 ≤ c && c ≤ 68)
theorem LK_cg {w w' : Wd} (h1 : ∀ k, k < 127 → gi w' 64 k = gi w 64 k ∧ gi w' 65 k = gi w 65 k) (h2 : ∀ i, i < 61 → gi w' 67 i = gi w 67 i ∧ gi w' 68 i = gi w 68 i) : ∀ (ls : List LN) (q j : Nat), LK q j ls w → q + (flat ls).length ≤ 127 → j + ls.length ≤ 61 → LK q j ls w'
  | [], _, _, _, _, _ => trivial
  | l :: ls, q, j, h, hq, hj => by
    obtain ⟨a1, a2, a3, a4⟩ := h
    rw [flat_len] at hq
    have hj' : j + (ls.length + 1) ≤ 61 := hj
    refine ⟨?_, ?_, fun k hk => ?_, LK_cg h1 h2 ls _ _ a4 (by omega) (by omega)⟩
    · rw [(h2 j (by omega)).1]; exact a1
    · rw [(h2 j (by omega)).2]; exact a2
    · rw [(h1 (q + k) (by omega)).1, (h1 (q + k) (by omega)).2]; exact a3 k hk
theorem PX_cg {t : Nat → Nat} {tp : Nat} {w w' : Wd} (h : PX t tp w) (h1 : gi w' 6 1 = gi w 6 1) (h2 : ∀ i, gi w' 7 i = gi w 7 i) : PX t tp w' := ⟨h.1, by rw [h1]; exact h.2.1, fun i hi => by rw [h2]; exact h.2.2 i hi⟩
theorem PM_cg {t : Nat → Nat} {tp : Nat} {w w' : Wd} (h : PM t tp w) (h1 : gi w' 54 18 = gi w 54 18) (h2 : ∀ i, gi w' 63 i = gi w 63 i) : PM t tp w' := ⟨h.1, by rw [h1]; exact h.2.1, fun i hi => by rw [h2]; exact h.2.2 i hi⟩
theorem LXo_cg {o : Option (List LN)} {w w' : Wd} (h : LXo o w) (h1 : gi w' 6 6 = gi w 6 6) (h2 : ∀ i, gi w' 9 i = gi w 9 i) : LXo o w' := by
  cases o with
  | none => exact h1.trans h
  | some ls =>
    obtain ⟨a, b, c⟩ := h
    exact ⟨h1.trans a, b, fun i hi => (h2 i).trans (c i hi)⟩
theorem LMo_cg {o : Option (List LN)} {w w' : Wd} (h : LMo o w) (h1 : gi w' 54 30 = gi w 54 30) (h2 : gi w' 66 0 = gi w 66 0) (h3 : ∀ k, k < 127 → gi w' 64 k = gi w 64 k ∧ gi w' 65 k = gi w 65 k) (h4 : ∀ i, i < 61 → gi w' 67 i = gi w 67 i ∧ gi w' 68 i = gi w 68 i) : LMo o w' := by
  cases o with
  | none => exact h1.trans h
  | some ls =>
    obtain ⟨a, b, c, d, e⟩ := h
    exact ⟨h1.trans a, LK_cg h3 h4 ls 0 0 b (by omega) (by omega), h2.trans c, d, e⟩
theorem LR_cg {t : Nat → Nat} {tp : Nat} {o : Option (List LN)} {w w' : Wd} (h : LR t tp o w) (he : ∀ c k, aLr c k = true → gi w' c k = gi w c k) : LR t tp o w' := by
  obtain ⟨a1, a2, a3, a4, a5⟩ := h
  refine ⟨PX_cg a1 (he 6 1 rfl) (fun i => he 7 i rfl), PM_cg a2 (he 54 18 rfl) (fun i => he 63 i rfl), LXo_cg a3 (he 6 6 rfl) (fun i => he 9 i rfl), LMo_cg a4 (he 54 30 rfl) (he 66 0 rfl) (fun k hk => ⟨he 64 k ?_, he 65 k ?_⟩) (fun k hk => ⟨he 67 k ?_, he 68 k ?_⟩), a5⟩
  · simp [aLr]; omega
  · simp [aLr]; omega
  · simp [aLr]; omega
  · simp [aLr]; omega
theorem L_feed {t : Nat → Nat} {tp : Nat} {o : Option (List LN)} {w : Wd} (hL : LR t tp o w) (a : Int32) : ∃ r w1 w2 t' tp', f_X11_feed a w = some (r, w1) ∧ f_X12_feed a w1 = some (r, w2) ∧ LR t' tp' o w2 ∧ eqo aL w w2 := by
  obtain ⟨⟨x1, x2, x3⟩, ⟨m1, m2, m3⟩, a3, a4, a5⟩ := hL
  unfold f_X11_feed
  by_cases hin : inb a 256
  · obtain ⟨c, hc, rfl⟩ := of_inb hin
    have tc := nI_toInt (n := c) (by omega)
    have h0 : ¬ nI c < (0 : Int32) := by rw [fa_lt, tc, ti_0]; omega
    have h255 : nI c ≤ (255 : Int32) := by rw [fa_le, tc, show (255 : Int32).toInt = 255 from rfl]; omega
    have hMf : ∀ w', f_X12_feed (nI c) w' = if gi w' 54 18 = (120 : Int32) then some ((-3 : Int32), w') else saI w' 63 120 (gi w' 54 18) (i2b (i2b (nI c))) fun w2 => stI w2 54 18 ((gi w2 54 18) + (1 : Int32)) fun w3 => some ((gi w3 54 18), w3) := by
      intro w'
      unfold f_X12_feed
      rw [M_in, bR_s, ite_b2i, if_pos (by rw [tc, ti_0, show (255 : Int32).toInt = 255 from rfl]; omega)]
    rw [if_neg h0, if_pos h255]
    unfold f_X4_isFull
    by_cases hf : tp = 120
    · subst hf
      rw [if_pos (show gi w 6 1 = (120 : Int32) from x2), bR_s, if_neg (show ¬ (1 : Int32) = 0 by decide)]
      refine ⟨_, _, _, t, 120, rfl, ?_, ⟨⟨x1, x2, x3⟩, ⟨m1, m2, m3⟩, a3, a4, a5⟩, eqo_rf w⟩
      rw [hMf, if_pos (show gi w 54 18 = (120 : Int32) from m2)]
    · have n1 : ¬ gi w 6 1 = (120 : Int32) := by rw [x2, show (120 : Int32) = nI 120 from rfl, nI_eq (by omega) (by omega)]; exact hf
      have n2 : ¬ (120 : Int32) ≤ gi w 6 1 := by rw [x2, show (120 : Int32) = nI 120 from rfl, nI_leI (by omega) (by omega)]; omega
      rw [if_neg n1, bR_s, if_pos rfl]
      unfold f_X4_add
      rw [if_neg n2, x2, saI_d (inb_nI (by omega) (by omega)), stI_d, ix_nI (by omega), bW_s]
      have g1 : gi (si w 7 tp (nI c)) 6 1 = nI tp := by rw [gi_si, if_neg (by omega)]; exact x2
      rw [g1, nI_1]
      have g2 : gi (si (si w 7 tp (nI c)) 6 1 (nI (tp + 1))) 6 1 = nI (tp + 1) := by rw [gi_si, if_pos ⟨rfl, rfl⟩]
      have g3 : gi (si (si w 7 tp (nI c)) 6 1 (nI (tp + 1))) 54 18 = nI tp := by rw [gi_si, if_neg (by omega), gi_si, if_neg (by omega)]; exact m2
      rw [g2]
      refine ⟨_, _, si (si (si (si w 7 tp (nI c)) 6 1 (nI (tp + 1))) 63 tp (i2b (nI c))) 54 18 (nI (tp + 1)), (fun i => if i = tp then c else t i), tp + 1, rfl, ?_, ?_, ?_⟩
      · rw [hMf, g3, if_neg (by rw [show (120 : Int32) = nI 120 from rfl, nI_eq (by omega) (by omega)]; exact hf), saI_d (inb_nI (by omega) (by omega)), stI_d, ix_nI (by omega), (i2b_256 c (by omega)).2]
        have g4 : gi (si (si (si w 7 tp (nI c)) 6 1 (nI (tp + 1))) 63 tp (i2b (nI c))) 54 18 = nI tp := by rw [gi_si, if_neg (by omega)]; exact g3
        rw [g4, nI_1, gi_si, if_pos ⟨rfl, rfl⟩]
      · refine ⟨⟨by omega, ?_, fun i hi => ?_⟩, ⟨by omega, ?_, fun i hi => ?_⟩, LXo_cg a3 ?_ (fun i => ?_), LMo_cg a4 ?_ ?_ (fun k hk => ⟨?_, ?_⟩) (fun k hk => ⟨?_, ?_⟩), a5⟩
        · rw [gi_si, if_neg (by omega), gi_si, if_neg (by omega)]; exact g2
        · rw [gi_si, if_neg (by omega), gi_si, if_neg (by omega), gi_si, if_neg (by omega), gi_si]
          show (if 7 = 7 ∧ i = tp then nI c else gi w 7 i) = nI (if i = tp then c else t i) ∧ (if i = tp then c else t i) < 256
          by_cases z : i = tp
          · rw [if_pos ⟨rfl, z⟩, if_pos z]; exact ⟨rfl, by omega⟩
          · rw [if_neg (fun y => z y.2), if_neg z]; exact x3 i (by omega)
        · rw [gi_si, if_pos ⟨rfl, rfl⟩]
        · rw [gi_si, if_neg (by omega), gi_si]
          show (if 63 = 63 ∧ i = tp then i2b (nI c) else gi (si (si w 7 tp (nI c)) 6 1 (nI (tp + 1))) 63 i) = i2b (nI (if i = tp then c else t i)) ∧ (if i = tp then c else t i) < 256
          by_cases z : i = tp
          · rw [if_pos ⟨rfl, z⟩, if_pos z]; exact ⟨rfl, by omega⟩
          · rw [if_neg (fun y => z y.2), if_neg z, gi_si, if_neg (by omega), gi_si, if_neg (by omega)]; exact m3 i (by omega)
        all_goals (rw [gi_si, if_neg (by omega), gi_si, if_neg (by omega), gi_si, if_neg (by omega), gi_si, if_neg (by omega)])
      · exact eqo_si (eqo_si (eqo_si (eqo_si (eqo_rf w) rfl) rfl) rfl) rfl
  · have hin' : ¬ (0 ≤ a.toInt ∧ a.toInt ≤ 255) := fun z => hin ⟨z.1, by omega⟩
    refine ⟨-1, w, w, t, tp, ?_, ?_, ⟨⟨x1, x2, x3⟩, ⟨m1, m2, m3⟩, a3, a4, a5⟩, eqo_rf w⟩
    · by_cases h0 : a < (0 : Int32)
      · rw [if_pos h0]
      · rw [if_neg h0, if_neg ?_]
        rw [fa_lt, ti_0] at h0
        rw [fa_le, show (255 : Int32).toInt = 255 from rfl]
        omega
    · unfold f_X12_feed
      rw [M_in, bR_s, ite_b2i, if_neg (by rw [ti_0, show (255 : Int32).toInt = 255 from rfl]; exact hin')]
theorem L_law {t : Nat → Nat} {tp : Nat} {o : Option (List LN)} {w : Wd} (hL : LR t tp o w) : ∃ r w1 w2 t' tp' o', f_X11_law w = some (r, w1) ∧ f_X12_law w1 = some (r, w2) ∧ LR t' tp' o' w2 ∧ eqo aL w w2 := by
  obtain ⟨hX, hM, a3, a4, a5⟩ := hL
  unfold f_X11_law
  have mTX : ∀ c k, sTX c k = true → aL c k = true := by
    intro c k h
    simp only [sTX, aL, Bool.or_eq_true, Bool.and_eq_true, beq_iff_eq, decide_eq_true_eq] at h ⊢
    omega
  have mTF : ∀ c k, sTF c k = true → aL c k = true := fun c k h => mTX c k (sTF_TX c k h)
  have mRM : ∀ c k, sRM c k = true → aL c k = true := by
    intro c k h
    simp only [sRM, sRF, sTM, sLM, aL, Bool.or_eq_true, Bool.and_eq_true, beq_iff_eq, decide_eq_true_eq] at h ⊢
    omega
  have mRF : ∀ c k, sRF c k = true → aL c k = true := fun c k h => mRM c k (sRF_RM c k h)
  have hpos := pLs_pos (L := LT t tp) (tp := tp) LT_end 121 0 (by omega)
  have hok := pLs_ok (L := LT t tp) (tp := tp) LT_end hX.1 121 0 (by omega)
  have ht := hX.1
  have H1 := X_take hX
  rcases H1 with ⟨j1, w', j2, j3, j4, j5, j6, j7⟩ | ⟨j1, w', j2, j3, j7⟩
  · have hM' : PM t tp w' := PM_cg hM (j7 54 18 rfl).1 (fun i => (j7 63 i rfl).1)
    rcases M_read hM' with ⟨k1, w2, k2, k3, k4, k5, k6, k7, k8⟩ | ⟨k1, _⟩
    · rw [j2, bW_s, if_neg (show ¬ (0 : Int32) ≤ -1 by decide)]
      obtain ⟨o1, o2⟩ := hok j1
      refine ⟨_, _, si w2 54 30 1, t, 0, some (pLs (LT t tp) tp 121 0).2.2, rfl, ?_, ?_, ?_⟩
      · unfold f_X12_law
        rw [k2, bW_s, if_pos (show (-1 : Int32) < 0 by decide), stZ_d (Or.inr rfl)]
      · generalize (pLs (LT t tp) tp 121 0).2.2 = ls at j4 j5 j6 k4 k5 k6 k7 o1 o2
        refine ⟨⟨by omega, ?_, fun i hi => absurd hi (by omega)⟩, ⟨by omega, ?_, fun i hi => absurd hi (by omega)⟩, LXo_cg (o := some ls) (w := w') ⟨j4, j5, j6⟩ ?_ (fun i => ?_), ?_, ?_⟩
        · rw [gi_si, if_neg (by omega), (k8 6 1 rfl).1]; exact j3
        · rw [gi_si, if_neg (by omega)]; exact k3
        · rw [gi_si, if_neg (by omega), (k8 6 6 rfl).1]
        · rw [gi_si, if_neg (by omega), (k8 9 i rfl).1]
        · refine ⟨?_, LK_cg (w := w2) (fun k hk => ⟨?_, ?_⟩) (fun k hk => ⟨?_, ?_⟩) ls 0 0 k4 (by omega) (by omega), ?_, k6, k7⟩
          · rw [gi_si, if_pos ⟨rfl, rfl⟩]
          · rw [gi_si, if_neg (by omega)]
          · rw [gi_si, if_neg (by omega)]
          · rw [gi_si, if_neg (by omega)]
          · rw [gi_si, if_neg (by omega)]
          · rw [gi_si, if_neg (by omega)]; exact k5
        · intro ls' e
          cases e
          exact ⟨o1, o2⟩
      · exact eqo_si (eqo_tr (eqo_mono j7 mTX) (eqo_mono k8 mRM)) rfl
    · rw [j1] at k1; cases k1
  · have hM' : PM t tp w' := PM_cg hM (j7 54 18 rfl).1 (fun i => (j7 63 i rfl).1)
    rcases M_read hM' with ⟨k1, _⟩ | ⟨k1, w2, k2, k3, k8⟩
    · rw [j1] at k1; cases k1
    · have tn := nI_toInt (n := (pLs (LT t tp) tp 121 0).2.1) (by omega)
      have p0 : (0 : Int32) ≤ nI (pLs (LT t tp) tp 121 0).2.1 := by rw [fa_le, tn, ti_0]; omega
      have p1 : ¬ nI (pLs (LT t tp) tp 121 0).2.1 < (0 : Int32) := by rw [fa_lt, tn, ti_0]; omega
      rw [j2, bW_s, if_pos p0]
      refine ⟨_, _, w2, t, 0, o, rfl, ?_, ?_, ?_⟩
      · unfold f_X12_law
        rw [k2, bW_s, if_neg p1]
      · refine ⟨⟨by omega, ?_, fun i hi => absurd hi (by omega)⟩, ⟨by omega, k3, fun i hi => absurd hi (by omega)⟩, LXo_cg a3 ?_ (fun i => ?_), LMo_cg a4 ?_ ?_ (fun k hk => ⟨?_, ?_⟩) (fun k hk => ⟨?_, ?_⟩), a5⟩
        · rw [(k8 6 1 rfl).1]; exact j3
        · rw [(k8 6 6 rfl).1, (j7 6 6 rfl).1]
        · rw [(k8 9 i rfl).1, (j7 9 i rfl).1]
        · rw [(k8 54 30 rfl).1, (j7 54 30 rfl).1]
        · rw [(k8 66 0 rfl).1, (j7 66 0 rfl).1]
        · rw [(k8 64 k (by simp [sRF, sTM, sLM]; omega)).1, (j7 64 k rfl).1]
        · rw [(k8 65 k (by simp [sRF, sTM, sLM]; omega)).1, (j7 65 k rfl).1]
        · rw [(k8 67 k (by simp [sRF, sTM, sLM]; omega)).1, (j7 67 k rfl).1]
        · rw [(k8 68 k (by simp [sRF, sTM, sLM]; omega)).1, (j7 68 k rfl).1]
      · exact eqo_tr (eqo_mono j7 mTF) (eqo_mono k8 mRF)
