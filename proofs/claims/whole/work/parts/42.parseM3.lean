/-! THE LAW: the model's reader, whole -/
theorem LF4 {t : Nat → Nat} {tp : Nat} (a0 a1 a2 a3 a4 a5 : Wd → Option Wd) : loopF t tp 4 a0 (f_X12_product_b4 a0 a1 a2 a3 a4 a5) := by
  refine ⟨fun n w h => ?_, fun n p q o w h => ?_⟩
  · show f_X12_product_b4_y a0 a1 a2 a3 a4 a5 (f_X12_product_b4 a0 a1 a2 a3 a4 a5 n) w = _
    unfold f_X12_product_b4_y
    rw [if_pos h]
  · have ok := MS_ok h p
    show f_X12_product_b4_y a0 a1 a2 a3 a4 a5 (f_X12_product_b4 a0 a1 a2 a3 a4 a5 n) w = _
    unfold f_X12_product_b4_y f_X12_product_b38
    rw [h.2.2.2.1, if_neg (by decide)]
    simp only [MS_on h, bR_s, stI_d, h.2.1, nI_1]
    by_cases c42 : LT t tp p = 42
    · rw [if_pos ((lm_is ok (d := 42) (by omega) 42 rfl).mpr c42), if_pos (show lvo (LT t tp p) = 4 by rw [c42]; rfl)]
      rw [lm_nI (by omega)]
    rw [if_neg (fun z => c42 ((lm_is ok (d := 42) (by omega) 42 rfl).mp z))]
    by_cases c47 : LT t tp p = 47
    · rw [if_pos ((lm_is ok (d := 47) (by omega) 47 rfl).mpr c47), if_pos (show lvo (LT t tp p) = 4 by rw [c47]; rfl)]
      rw [lm_nI (by omega)]
    rw [if_neg (fun z => c47 ((lm_is ok (d := 47) (by omega) 47 rfl).mp z))]
    by_cases c37 : LT t tp p = 37
    · rw [if_pos ((lm_is ok (d := 37) (by omega) 37 rfl).mpr c37), if_pos (show lvo (LT t tp p) = 4 by rw [c37]; rfl)]
      rw [lm_nI (by omega)]
    rw [if_neg (fun z => c37 ((lm_is ok (d := 37) (by omega) 37 rfl).mp z))]
    rw [if_neg]
    unfold lvo
    repeat' split
    all_goals omega
theorem LF3 {t : Nat → Nat} {tp : Nat} (a0 a1 a2 a3 a4 a5 : Wd → Option Wd) : loopF t tp 3 a1 (f_X12_sum_b4 a0 a1 a2 a3 a4 a5) := by
  refine ⟨fun n w h => ?_, fun n p q o w h => ?_⟩
  · show f_X12_sum_b4_y a0 a1 a2 a3 a4 a5 (f_X12_sum_b4 a0 a1 a2 a3 a4 a5 n) w = _
    unfold f_X12_sum_b4_y
    rw [if_pos h]
  · have ok := MS_ok h p
    show f_X12_sum_b4_y a0 a1 a2 a3 a4 a5 (f_X12_sum_b4 a0 a1 a2 a3 a4 a5 n) w = _
    unfold f_X12_sum_b4_y f_X12_sum_b29
    rw [h.2.2.2.1, if_neg (by decide)]
    simp only [MS_on h, bR_s, stI_d, h.2.1, nI_1]
    by_cases c43 : LT t tp p = 43
    · rw [if_pos ((lm_is ok (d := 43) (by omega) 43 rfl).mpr c43), if_pos (show lvo (LT t tp p) = 3 by rw [c43]; rfl)]
      rw [lm_nI (by omega)]
    rw [if_neg (fun z => c43 ((lm_is ok (d := 43) (by omega) 43 rfl).mp z))]
    by_cases c45 : LT t tp p = 45
    · rw [if_pos ((lm_is ok (d := 45) (by omega) 45 rfl).mpr c45), if_pos (show lvo (LT t tp p) = 3 by rw [c45]; rfl)]
      rw [lm_nI (by omega)]
    rw [if_neg (fun z => c45 ((lm_is ok (d := 45) (by omega) 45 rfl).mp z))]
    rw [if_neg]
    unfold lvo
    repeat' split
    all_goals omega
theorem LF1 {t : Nat → Nat} {tp : Nat} (a0 a1 a2 a3 a4 a5 : Wd → Option Wd) : loopF t tp 1 a3 (f_X12_both_b4 a0 a1 a2 a3 a4 a5) := by
  refine ⟨fun n w h => ?_, fun n p q o w h => ?_⟩
  · show f_X12_both_b4_y a0 a1 a2 a3 a4 a5 (f_X12_both_b4 a0 a1 a2 a3 a4 a5 n) w = _
    unfold f_X12_both_b4_y
    rw [if_pos h]
  · have ok := MS_ok h p
    show f_X12_both_b4_y a0 a1 a2 a3 a4 a5 (f_X12_both_b4 a0 a1 a2 a3 a4 a5 n) w = _
    unfold f_X12_both_b4_y
    rw [h.2.2.2.1, if_neg (by decide)]
    simp only [MS_on h, bR_s, stI_d, h.2.1, nI_1]
    by_cases c38 : LT t tp p = 38
    · rw [if_pos ((lm_is ok (d := 38) (by omega) 38 rfl).mpr c38), if_pos (show lvo (LT t tp p) = 1 by rw [c38]; rfl)]
      rw [c38]; rfl
    rw [if_neg (fun z => c38 ((lm_is ok (d := 38) (by omega) 38 rfl).mp z))]
    rw [if_neg]
    unfold lvo
    repeat' split
    all_goals omega
theorem LF0 {t : Nat → Nat} {tp : Nat} (a0 a1 a2 a3 a4 a5 : Wd → Option Wd) : loopF t tp 0 a4 (f_X12_either_b4 a0 a1 a2 a3 a4 a5) := by
  refine ⟨fun n w h => ?_, fun n p q o w h => ?_⟩
  · show f_X12_either_b4_y a0 a1 a2 a3 a4 a5 (f_X12_either_b4 a0 a1 a2 a3 a4 a5 n) w = _
    unfold f_X12_either_b4_y
    rw [if_pos h]
  · have ok := MS_ok h p
    show f_X12_either_b4_y a0 a1 a2 a3 a4 a5 (f_X12_either_b4 a0 a1 a2 a3 a4 a5 n) w = _
    unfold f_X12_either_b4_y
    rw [h.2.2.2.1, if_neg (by decide)]
    simp only [MS_on h, bR_s, stI_d, h.2.1, nI_1]
    by_cases c124 : LT t tp p = 124
    · rw [if_pos ((lm_is ok (d := 124) (by omega) 124 rfl).mpr c124), if_pos (show lvo (LT t tp p) = 0 by rw [c124]; rfl)]
      rw [c124]; rfl
    rw [if_neg (fun z => c124 ((lm_is ok (d := 124) (by omega) 124 rfl).mp z))]
    rw [if_neg]
    unfold lvo
    repeat' split
    all_goals omega
theorem M_cmp {t : Nat → Nat} {tp o p q : Nat} {w : Wd} {r : PR} {qf : Nat → Option PR} {a0 a1 a2 a3 a4 a5 : Wd → Option Wd} (hpos : ∀ p r, p ≤ tp → qf p = some r → posOK tp p r) (IH : ∀ p q w r, MS t tp p q o w → qf p = some r → rM w p q o r (a2 w)) (hM : MS t tp p q o w)
    (e : (match qf p with
      | none => none
      | some r => if r.1 = true then (match rst qf (LT t tp) 2 1 r.2.1 with
        | none => none
        | some s => some (s.1, s.2.1, r.2.2 ++ s.2.2)) else some r) = some r) : rM w p q o r (f_X12_compared_y a0 a1 a2 a3 a4 a5 w) := by
  have h3 := hM.2.2.1
  have h7 := hM.2.2.2.2.2.2
  have htp := hM.1.1
  unfold f_X12_compared_y
  cases h1 : qf p with
  | none => rw [h1] at e; cases e
  | some r1 =>
    rw [h1] at e
    obtain ⟨b1, b2, b3⟩ := hpos p r1 h3 h1
    rcases IH p q w r1 hM h1 with ⟨k1, k2⟩ | ⟨k1, w', k2, k3, k4, k5, q', k6, k7⟩
    · simp only [k1, if_true] at e
      obtain ⟨b4, b5⟩ := b3 k1
      have hM1 := MS_pM (p' := r1.2.1) (o' := o) (ss := r1.2.2) hM b2 (by omega)
      have ok := MS_ok hM1 r1.2.1
      rw [k2, bV_s, MS_on hM1, bR_s, hM1.2.2.2.1, if_neg (by decide)]
      unfold rst at e
      by_cases c : lvo (LT t tp r1.2.1) = 2
      · rw [if_pos c] at e
        obtain ⟨am1, am2⟩ := lvo_am (by omega) c
        have hc : LT t tp r1.2.1 = 60 ∨ LT t tp r1.2.1 = 61 ∨ LT t tp r1.2.1 = 62 := by
          unfold lvo at c
          repeat' split at c
          all_goals omega
        have hp' : r1.2.1 < tp := by
          rcases Nat.lt_or_ge r1.2.1 tp with y | y
          · exact y
          · rw [LT_end _ y] at hc; omega
        have key : rM w p q o r (f_X12_compared_b35 a0 a1 a2 a3 a4 a5 (lm (LT t tp r1.2.1)) (pM r1.2.1 q o r1.2.2 w)) := by
          unfold f_X12_compared_b35
          rw [stI_d, hM1.2.1, nI_1, M_move hM1 (r1.2.1 + 1), pM_app, List.append_nil, lm_nI am2]
          have hM2 := MS_pM (p' := r1.2.1 + 1) (o' := o) (ss := r1.2.2) hM (by omega) (by omega)
          cases h2 : qf (r1.2.1 + 1) with
          | none => rw [h2] at e; cases e
          | some r2 =>
            rw [h2] at e
            obtain ⟨d1, d2, d3⟩ := hpos (r1.2.1 + 1) r2 (by omega) h2
            rcases IH (r1.2.1 + 1) _ _ r2 hM2 h2 with ⟨j1, j2⟩ | ⟨j1, w', j2, j3, j4, j5, q', j6, j7⟩
            · obtain ⟨d4, d5⟩ := d3 j1
              simp only [j1, if_true] at e
              unfold rst at e
              cases e
              have hlen : (r1.2.2 ++ r2.2.2).length = r1.2.2.length + r2.2.2.length := List.length_append
              have hM3 := MS_pM (p' := r2.2.1) (o' := o) (ss := r1.2.2 ++ r2.2.2) hM d2 (by rw [hlen]; omega)
              rw [j2, bV_s, pM_app, M_step (v := 0) hM3 (LT t tp r1.2.1, 0) (by rw [am1]; exact am2) (by rw [am1]) rfl (by rw [hlen]; omega), bV_s, pM_app, List.append_assoc]
              exact Or.inl ⟨rfl, rfl⟩
            · have j1' : ¬ r2.1 = true := by rw [j1]; decide
              simp only [j1', if_false] at e
              cases e
              rw [j2, bV_s]
              obtain ⟨w2, v1, v2, v3, v4, v5⟩ := M_stepAny j6 (by omega) (nI (LT t tp r1.2.1)) 0
              rw [v1, bV_s]
              exact Or.inr ⟨j1, w2, rfl, v3.trans j3, v4.trans j4, eqo_tr (eqo_tr (pM_eqo _ _ _ _ _) j5) v2, q' + 1, v5, by show q' + 1 ≤ q + (r2.2.1 - p) + 1; omega⟩
        by_cases c60 : LT t tp r1.2.1 = 60
        · rw [if_pos ((lm_is ok (d := 60) (by omega) 60 rfl).mpr c60)]; exact key
        rw [if_neg (fun z => c60 ((lm_is ok (d := 60) (by omega) 60 rfl).mp z))]
        by_cases c61 : LT t tp r1.2.1 = 61
        · rw [if_pos ((lm_is ok (d := 61) (by omega) 61 rfl).mpr c61)]; exact key
        rw [if_neg (fun z => c61 ((lm_is ok (d := 61) (by omega) 61 rfl).mp z))]
        rw [if_pos ((lm_is ok (d := 62) (by omega) 62 rfl).mpr (by omega))]; exact key
      · rw [if_neg c] at e
        cases e
        have n60 : ¬ LT t tp r1.2.1 = 60 := by intro z; rw [z] at c; exact c rfl
        have n61 : ¬ LT t tp r1.2.1 = 61 := by intro z; rw [z] at c; exact c rfl
        have n62 : ¬ LT t tp r1.2.1 = 62 := by intro z; rw [z] at c; exact c rfl
        rw [if_neg (fun z => n60 ((lm_is ok (d := 60) (by omega) 60 rfl).mp z)), if_neg (fun z => n61 ((lm_is ok (d := 61) (by omega) 61 rfl).mp z)), if_neg (fun z => n62 ((lm_is ok (d := 62) (by omega) 62 rfl).mp z))]
        exact Or.inl ⟨rfl, by rw [List.append_nil]⟩
    · have k1' : ¬ r1.1 = true := by rw [k1]; decide
      simp only [k1', if_false] at e
      cases e
      rw [k2, bV_s, M_on (PM_eqo hM.1 k5) k3 b2, bR_s, if_pos (by rw [k4]; exact nI_pos' (by omega))]
      exact Or.inr ⟨k1, w', rfl, k3, k4, k5, q', k6, k7⟩
theorem M_opens {t : Nat → Nat} {tp p q o : Nat} {w : Wd} (h : MS t tp p q o w) (ho : o < 6) : f_X12_opens w = some (1, pM (p + 1) q (o + 1) [] w) := by
  unfold f_X12_opens
  rw [h.2.2.2.2.1, if_neg (by rw [show (6 : Int32) = nI 6 from rfl, nI_eq (by omega) (by omega)]; omega), stI_d, nI_1, M_open h (o + 1), stI_d, g19_pM, nI_1, M_move' (g21_pM _ _ _ _ _) (g22_pM _ _ _ _ _), pM_app]
  rfl
theorem M_opens6 {t : Nat → Nat} {tp p q : Nat} {w : Wd} (h : MS t tp p q 6 w) : f_X12_opens w = some (0, si w 54 20 (nI p)) := by
  unfold f_X12_opens
  rw [h.2.2.2.2.1, if_pos (show nI 6 = (6 : Int32) from rfl), M_faulty h.2.1 h.2.2.2.1, bV_s]
theorem rM_fault {t : Nat → Nat} {tp p q o : Nat} {w : Wd} (h : MS t tp p q o w) : rM w p q o (false, p, []) (some (si w 54 20 (nI p))) :=
  Or.inr ⟨rfl, _, rfl, by rw [gi_si, if_neg (by omega)]; exact h.2.1, by rw [gi_si, if_pos ⟨rfl, rfl⟩], eqo_si (eqo_rf w) (by decide), q, by rw [gi_si, if_neg (by omega)]; exact h.2.2.2.2.2.1, by omega⟩
def ML (m l : Nat) : Wd → Option Wd := if l = 0 then f_X12_either m else if l = 1 then f_X12_both m else if l = 2 then f_X12_compared m else if l = 3 then f_X12_sum m else if l = 4 then f_X12_product m else f_X12_operand m
theorem ML_op {m l : Nat} (h : 4 < l) : ML m l = f_X12_operand m := by
  unfold ML
  rw [if_neg (by omega), if_neg (by omega), if_neg (by omega), if_neg (by omega), if_neg (by omega)]
theorem M_pL {t : Nat → Nat} {tp : Nat} : ∀ (n m l o p q : Nat) (w : Wd) (r : PR), n ≤ m → o ≤ 6 → MS t tp p q o w → pLv (LT t tp) n l o p = some r → rM w p q o r (ML m l w)
  | 0, _, _, _, _, _, _, _, _, _, _, e => by unfold pLv at e; cases e
  | n + 1, 0, _, _, _, _, _, _, h, _, _, _ => absurd h (by omega)
  | n + 1, m + 1, l, o, p, q, w, r, hnm, ho, hM, e => by
    have h3 := hM.2.2.1
    have h7 := hM.2.2.2.2.2.2
    have htp := hM.1.1
    unfold pLv at e
    by_cases c4 : l ≤ 4
    · rw [if_pos c4] at e
      have IH : ∀ (l p q : Nat) (w : Wd) (r : PR), MS t tp p q o w → pLv (LT t tp) n l o p = some r → rM w p q o r (ML m l w) := fun l p q w r z1 z2 => M_pL n m l o p q w r (by omega) ho z1 z2
      have hpp : ∀ (l p : Nat) (r : PR), p ≤ tp → pLv (LT t tp) n l o p = some r → posOK tp p r := fun l p r => pLv_pos LT_end n l o p r
      rcases (by omega : l = 0 ∨ l = 1 ∨ l = 2 ∨ l = 3 ∨ l = 4) with rfl | rfl | rfl | rfl | rfl
      · rw [if_neg (show ¬ (0 : Nat) = 2 by omega)] at e
        exact M_lev (Q := f_X12_both m) (F := f_X12_either_b4 (f_X12_operand m) (f_X12_product m) (f_X12_sum m) (f_X12_compared m) (f_X12_both m) (f_X12_either m)) (by omega) (LF0 _ _ _ _ _ _) (hpp 1) (IH 1) hM e
      · rw [if_neg (show ¬ (1 : Nat) = 2 by omega)] at e
        exact M_lev (Q := f_X12_compared m) (F := f_X12_both_b4 (f_X12_operand m) (f_X12_product m) (f_X12_sum m) (f_X12_compared m) (f_X12_both m) (f_X12_either m)) (by omega) (LF1 _ _ _ _ _ _) (hpp 2) (IH 2) hM e
      · rw [if_pos rfl] at e
        exact M_cmp (a0 := f_X12_operand m) (a1 := f_X12_product m) (a2 := f_X12_sum m) (a3 := f_X12_compared m) (a4 := f_X12_both m) (a5 := f_X12_either m) (hpp 3) (IH 3) hM e
      · rw [if_neg (show ¬ (3 : Nat) = 2 by omega)] at e
        exact M_lev (Q := f_X12_product m) (F := f_X12_sum_b4 (f_X12_operand m) (f_X12_product m) (f_X12_sum m) (f_X12_compared m) (f_X12_both m) (f_X12_either m)) (by omega) (LF3 _ _ _ _ _ _) (hpp 4) (IH 4) hM e
      · rw [if_neg (show ¬ (4 : Nat) = 2 by omega)] at e
        exact M_lev (Q := f_X12_operand m) (F := f_X12_product_b4 (f_X12_operand m) (f_X12_product m) (f_X12_sum m) (f_X12_compared m) (f_X12_both m) (f_X12_either m)) (by omega) (LF4 _ _ _ _ _ _) (hpp 5) (IH 5) hM e
    · rw [if_neg c4] at e
      rw [ML_op (by omega)]
      by_cases c5 : l = 5
      · rw [if_pos c5] at e
        have := M_pL n (m + 1) 6 o p q w r (by omega) ho hM e
        rw [ML_op (by omega)] at this
        exact this
      · rw [if_neg c5] at e
        have ok := MS_ok hM p
        have K : ∀ (d : Nat) (v : Int32), v = nI d → d < 128 → ((lm (LT t tp p) = v) ↔ LT t tp p = d) := fun d v hv hd => lm_is ok hd v hv
        show rM w p q o r (f_X12_operand_y (f_X12_operand m) (f_X12_product m) (f_X12_sum m) (f_X12_compared m) (f_X12_both m) (f_X12_either m) w)
        unfold f_X12_operand_y
        rw [MS_on hM, bR_s, M_name ok, bR_s]
        have key46 : ∀ (d : Nat), LT t tp p = d → (d = 33 ∨ d = 45) → rM w p q o r (f_X12_operand_b46 (f_X12_operand m) (f_X12_product m) (f_X12_sum m) (f_X12_compared m) (f_X12_both m) (f_X12_either m) (lm (LT t tp p)) w) := by
          intro d hd hd2
          have nn : nmo (LT t tp p) = 9 := by
            rw [hd]
            rcases hd2 with rfl | rfl <;> rfl
          rw [if_neg (by omega), if_neg (by omega)] at e
          unfold f_X12_operand_b46
          by_cases c6 : o = 6
          · subst c6
            rw [if_neg (by omega)] at e
            cases e
            rw [M_opens6 hM, bW_s, if_pos rfl]
            exact rM_fault hM
          · rw [if_pos ⟨by omega, by omega⟩, if_neg (by omega)] at e
            have hp' : p < tp := by
              rcases Nat.lt_or_ge p tp with y | y
              · exact y
              · rw [LT_end p y] at hd; omega
            rw [M_opens hM (by omega), bW_s, if_neg (show ¬ (1 : Int32) = 0 by decide)]
            have hM' := MS_pM (p' := p + 1) (o' := o + 1) (ss := []) hM (by omega) (by rw [List.length_nil]; omega)
            have hw : ∀ w2, (if lm (LT t tp p) = (33 : Int32) then f_X12_operand_b80 (f_X12_operand m) (f_X12_product m) (f_X12_sum m) (f_X12_compared m) (f_X12_both m) (f_X12_either m) 3 w2 else f_X12_operand_b80 (f_X12_operand m) (f_X12_product m) (f_X12_sum m) (f_X12_compared m) (f_X12_both m) (f_X12_either m) 4 w2) = bV (f_X12_addStep (nI (am (if LT t tp p = 33 then 33 else 126))) 0 w2) fun w7 => some w7 := by
              intro w2
              by_cases c33 : LT t tp p = 33
              · rw [if_pos ((K 33 33 rfl (by omega)).mpr c33), if_pos c33]; rfl
              · rw [if_neg (fun z => c33 ((K 33 33 rfl (by omega)).mp z)), if_neg c33]; rfl
            have ham : am (if LT t tp p = 33 then 33 else 126) < 128 := by
              by_cases c33 : LT t tp p = 33
              · rw [if_pos c33]; decide
              · rw [if_neg c33]; decide
            cases h1 : pLv (LT t tp) n 6 (o + 1) (p + 1) with
            | none => rw [h1] at e; cases e
            | some r1 =>
              rw [h1] at e
              obtain ⟨b1, b2, b3⟩ := pLv_pos LT_end n 6 (o + 1) (p + 1) r1 (by omega) h1
              have hI := M_pL n m 6 (o + 1) (p + 1) _ _ r1 (by omega) (by omega) hM' h1
              rw [ML_op (by omega)] at hI
              rcases hI with ⟨k1, k2⟩ | ⟨k1, w', k2, k3, k4, k5, q', k6, k7⟩
              · simp only [k1, if_true] at e
                obtain ⟨b4, b5⟩ := b3 k1
                cases e
                have hM1 := MS_pM (p' := r1.2.1) (o' := o) (ss := r1.2.2) hM b2 (by omega)
                rw [k2, bV_s, pM_app, List.nil_append, stI_d, g21_pM, nI_pred, M_open' (g19_pM _ _ _ _ _) (g22_pM _ _ _ _ _), pM_app, List.append_nil, hw, M_step (v := 0) hM1 (if LT t tp p = 33 then 33 else 126, 0) ham rfl rfl (by omega), bV_s, pM_app]
                exact Or.inl ⟨rfl, rfl⟩
              · have k1' : ¬ r1.1 = true := by rw [k1]; decide
                simp only [k1', if_false] at e
                cases e
                rw [k2, bV_s, stI_d, hw]
                obtain ⟨w2, v1, v2, v3, v4, v5⟩ := M_stepAny (w := si w' 54 21 (gi w' 54 21 - 1)) (q := q') (by rw [gi_si, if_neg (by omega)]; exact k6) (by rw [List.length_nil] at k7; omega) (nI (am (if LT t tp p = 33 then 33 else 126))) 0
                rw [v1, bV_s]
                refine Or.inr ⟨k1, w2, rfl, ?_, ?_, eqo_tr (eqo_tr (eqo_tr (pM_eqo _ _ _ _ _) k5) (eqo_si (eqo_rf w') (by decide))) v2, q' + 1, v5, by rw [List.length_nil] at k7; omega⟩
                · rw [v3, gi_si, if_neg (by omega)]; exact k3
                · rw [v4, gi_si, if_neg (by omega)]; exact k4
        by_cases cn : nmo (LT t tp p) ≤ 5
        · have nd : ¬ dgt (LT t tp p) := by
            intro z
            unfold nmo at cn
            repeat' split at cn
            all_goals omega
          rw [if_neg nd, if_pos cn] at e
          cases e
          have hp' : p < tp := by
            rcases Nat.lt_or_ge p tp with y | y
            · exact y
            · rw [LT_end p y] at cn; exact absurd cn (by decide)
          rw [if_pos cn, if_neg (nI_pos (by omega)), bR_s, M_step (a := 2) (v := nI (nmo (LT t tp p))) hM (36, nmo (LT t tp p)) (show am 36 < 128 by decide) rfl rfl (by omega), bV_s, stI_d, g19_pM, nI_1, M_move' (g21_pM _ _ _ _ _) (g22_pM _ _ _ _ _), pM_app, List.append_nil]
          exact Or.inl ⟨rfl, rfl⟩
        · rw [if_neg cn, if_pos (show (-1 : Int32) < 0 by decide)]
          by_cases c33 : LT t tp p = 33
          · rw [if_pos ((K 33 33 rfl (by omega)).mpr c33)]
            exact key46 33 c33 (Or.inl rfl)
          rw [if_neg (fun z => c33 ((K 33 33 rfl (by omega)).mp z))]
          by_cases c45 : LT t tp p = 45
          · rw [if_pos ((K 45 45 rfl (by omega)).mpr c45)]
            exact key46 45 c45 (Or.inr rfl)
          rw [if_neg (fun z => c45 ((K 45 45 rfl (by omega)).mp z))]
          by_cases c40 : LT t tp p = 40
          · rw [if_pos ((K 40 40 rfl (by omega)).mpr c40)]
            rw [if_neg (by omega), if_neg cn] at e
            by_cases c6 : o = 6
            · subst c6
              rw [if_neg (by omega)] at e
              cases e
              rw [M_opens6 hM, bW_s, if_pos rfl]
              exact rM_fault hM
            · rw [if_pos ⟨by omega, by omega⟩, if_pos c40] at e
              have hp' : p < tp := by
                rcases Nat.lt_or_ge p tp with y | y
                · exact y
                · rw [LT_end p y] at c40; omega
              rw [M_opens hM (by omega), bW_s, if_neg (show ¬ (1 : Int32) = 0 by decide)]
              have hM' := MS_pM (p' := p + 1) (o' := o + 1) (ss := []) hM (by omega) (by rw [List.length_nil]; omega)
              cases h1 : pLv (LT t tp) n 0 (o + 1) (p + 1) with
              | none => rw [h1] at e; cases e
              | some r1 =>
                rw [h1] at e
                obtain ⟨b1, b2, b3⟩ := pLv_pos LT_end n 0 (o + 1) (p + 1) r1 (by omega) h1
                have hI : rM _ _ _ _ _ (f_X12_either m _) := M_pL n m 0 (o + 1) (p + 1) _ _ r1 (by omega) (by omega) hM' h1
                rcases hI with ⟨k1, k2⟩ | ⟨k1, w', k2, k3, k4, k5, q', k6, k7⟩
                · simp only [k1, if_true] at e
                  obtain ⟨b4, b5⟩ := b3 k1
                  have hM1 := MS_pM (p' := r1.2.1) (o' := o + 1) (ss := r1.2.2) hM b2 (by omega)
                  have ok1 := MS_ok hM1 r1.2.1
                  rw [k2, bV_s, pM_app, List.nil_append, hM1.2.2.2.1, if_pos (show (-1 : Int32) < 0 by decide), MS_on hM1, bR_s]
                  by_cases c41 : LT t tp r1.2.1 = 41
                  · rw [if_pos c41] at e
                    cases e
                    rw [if_pos ((lm_is ok1 (d := 41) (by omega) 41 rfl).mpr c41), stI_d, g19_pM, nI_1, M_move' (g21_pM _ _ _ _ _) (g22_pM _ _ _ _ _), pM_app, List.append_nil, stI_d, g21_pM, nI_pred, M_open' (g19_pM _ _ _ _ _) (g22_pM _ _ _ _ _), pM_app, List.append_nil]
                    exact Or.inl ⟨rfl, rfl⟩
                  · rw [if_neg c41] at e
                    cases e
                    rw [if_neg (fun z => c41 ((lm_is ok1 (d := 41) (by omega) 41 rfl).mp z)), M_faulty hM1.2.1 hM1.2.2.2.1, bV_s]
                    refine Or.inr ⟨rfl, _, rfl, ?_, ?_, eqo_si (pM_eqo _ _ _ _ _) (by decide), q + r1.2.2.length, ?_, by show q + r1.2.2.length ≤ q + (r1.2.1 - p) + 1; omega⟩
                    · rw [gi_si, if_neg (by omega)]; exact hM1.2.1
                    · rw [gi_si, if_pos ⟨rfl, rfl⟩]
                    · rw [gi_si, if_neg (by omega)]; exact g22_pM _ _ _ _ _
                · have k1' : ¬ r1.1 = true := by rw [k1]; decide
                  simp only [k1', if_false] at e
                  cases e
                  rw [k2, bV_s, if_neg (by rw [k4]; exact nI_pos (by omega))]
                  exact Or.inr ⟨k1, w', rfl, k3, k4, eqo_tr (pM_eqo _ _ _ _ _) k5, q', k6, by rw [List.length_nil] at k7; omega⟩
          rw [if_neg (fun z => c40 ((K 40 40 rfl (by omega)).mp z))]
          have e' : (if dgt (LT t tp p) then (if dgt (LT t tp (dgs (LT t tp) 4 p 0).1) then some (false, (dgs (LT t tp) 4 p 0).1, []) else some (true, (dgs (LT t tp) 4 p 0).1, [(35, (dgs (LT t tp) 4 p 0).2)])) else some (false, p, [])) = some r := by
            by_cases cd : dgt (LT t tp p)
            · rw [if_pos cd] at e ⊢; exact e
            · rw [if_neg cd, if_neg cn, if_neg (by omega)] at e
              rw [if_neg cd]; exact e
          have hf := M_figure hM e'
          rcases hf with ⟨k1, k2⟩ | ⟨k1, w', k2, k3⟩
          · rw [k2, bV_s]; exact Or.inl ⟨k1, rfl⟩
          · rw [k2, bV_s]; exact Or.inr ⟨k1, w', rfl, k3⟩
