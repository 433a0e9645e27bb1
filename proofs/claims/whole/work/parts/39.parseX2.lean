/-! THE LAW: the class's reader, level by level -/
theorem rX_01 {L : Nat → Nat} {w : Wd} {q : Nat} {r : PR} {x : Option (Int32 × Wd)} (h : rX L w q r x) : ∃ b w', x = some (b, w') ∧ (b = 0 ∨ b = 1) := by
  rcases h with ⟨_, e⟩ | ⟨_, b, w', e, _, _, hb, _⟩
  · exact ⟨1, _, e, Or.inr rfl⟩
  · refine ⟨b, w', e, ?_⟩
    rcases hb with rfl | ⟨rfl, _⟩
    · exact Or.inl rfl
    · exact Or.inr rfl
theorem g2_pX (p q : Nat) (ss : List (Nat × Nat)) (w : Wd) : gi (pX p q ss w) 6 2 = nI p := by rw [gi_pX, if_pos ⟨rfl, rfl⟩]
theorem g4_pX (p q : Nat) (ss : List (Nat × Nat)) (w : Wd) : gi (pX p q ss w) 6 4 = nI (q + ss.length) := by rw [gi_pX, if_neg (by omega), if_pos ⟨rfl, rfl⟩]
theorem pX_nil (p p' q : Nat) (ss : List (Nat × Nat)) (w : Wd) : pX p' q ss (pX p q [] w) = pX p' q ss w := pX_app p p' q [] ss w
/-- a reading at p+1 is one at p that failed -/
theorem rX_up {L : Nat → Nat} {w : Wd} {p q : Nat} {r : PR} {x : Option (Int32 × Wd)} (h : rX L (pX p q [] w) q r x) : rX L w q r x := by
  rcases h with ⟨h1, h2⟩ | ⟨h1, b, w', h2, h3, h4, h5⟩
  · exact Or.inl ⟨h1, by rw [h2, pX_nil]⟩
  · exact Or.inr ⟨h1, b, w', h2, h3, eqo_tr (pX_eqo _ _ _ _) h4, h5⟩
theorem X_pL {t : Nat → Nat} {tp : Nat} : ∀ (n m l o p q : Nat) (w : Wd) (r : PR), n ≤ m → o ≤ 6 → PX t tp w → gi w 6 2 = nI p → p ≤ tp → gi w 6 4 = nI q → q + (tp - p) ≤ 127 → pLv (LT t tp) n l o p = some r → (l ≤ 5 → rX (LT t tp) w q r (f_X4_readLevel m (nI l) (nI o) w)) ∧ (l = 6 → rX (LT t tp) w q r (f_X4_readOperand m (nI o) w))
  | 0, _, _, _, _, _, _, _, _, _, _, _, _, _, _, e => by unfold pLv at e; cases e
  | n + 1, 0, _, _, _, _, _, _, h, _, _, _, _, _, _, _ => absurd h (by omega)
  | n + 1, m + 1, l, o, p, q, w, r, hnm, ho, hP, hp, hb, hq, hq2, e => by
    have hokc := LT_ok (fun i hi => (hP.2.2 i hi).2) p
    have ht := hP.1
    have hpp : ∀ (l p : Nat) (r : PR), p ≤ tp → pLv (LT t tp) n l o p = some r → posOK tp p r := fun l p r => pLv_pos LT_end n l o p r
    unfold pLv at e
    by_cases c4 : l ≤ 4
    · rw [if_pos c4] at e
      refine ⟨fun _ => ?_, fun z => by omega⟩
      show rX _ _ _ _ (f_X4_readLevel_y (f_X4_readLevel m) (f_X4_readOperand m) (nI l) (nI o) w)
      unfold f_X4_readLevel_y
      rw [if_neg (by rw [show (5 : Int32) = nI 5 from rfl, nI_eq (by omega) (by omega)]; omega), nI_1]
      cases h1 : pLv (LT t tp) n (l + 1) o p with
      | none => rw [h1] at e; cases e
      | some r1 =>
        rw [h1] at e
        have hI := (X_pL n m (l + 1) o p q w r1 (by omega) ho hP hp hb hq hq2 h1).1 (by omega)
        obtain ⟨b1, b2, b3⟩ := hpp (l + 1) p r1 hb h1
        have hlim : ∀ (x : Option (Int32 × Wd)) (w2 : Wd), (x = if nI l = (2 : Int32) then f_X4_readLevel_b35 (f_X4_readLevel m) (f_X4_readOperand m) (nI l) (nI o) 1 w2 else f_X4_readLevel_b35 (f_X4_readLevel m) (f_X4_readOperand m) (nI l) (nI o) 120 w2) → x = f_X4_readLevel_b39 (f_X4_readLevel m) (f_X4_readOperand m) fu (nI l) (nI o) (nI (if l = 2 then 1 else 120)) (nI 0) w2 := by
          intro x w2 hx
          rw [hx]
          by_cases c2 : l = 2
          · subst c2
            rw [if_pos (show nI 2 = (2 : Int32) from rfl), if_pos (rfl : (2 : Nat) = 2)]
            rfl
          · rw [if_neg (by rw [show (2 : Int32) = nI 2 from rfl, nI_eq (by omega) (by omega)]; exact c2), if_neg c2]
            rfl
        rcases hI with ⟨k1, k2⟩ | ⟨k1, b, w', k2, k3, k4, k5, q', k6, k7⟩
        · simp only [k1, if_true] at e
          obtain ⟨b4, b5⟩ := b3 k1
          rw [k2, bW_s, if_neg (by decide), hlim _ _ rfl]
          cases h2 : rst (pLv (LT t tp) n (l + 1) o) (LT t tp) l (if l = 2 then 1 else 120) r1.2.1 with
          | none => rw [h2] at e; cases e
          | some s =>
            rw [h2] at e
            cases e
            have hP2 := PX_eqo hP (pX_eqo r1.2.1 q r1.2.2 w)
            have hR := X_rst (RL := f_X4_readLevel m) (RO := f_X4_readOperand m) (o := o) c4 (hpp (l + 1)) (fun p q w r z1 z2 z3 z4 z5 z6 => (X_pL n m (l + 1) o p q w r (by omega) ho z1 z2 z3 z4 z5 z6).1 (by omega)) (if l = 2 then 1 else 120) fu 0 (if l = 2 then 1 else 120) r1.2.1 (q + r1.2.2.length) _ s (by omega) (by split <;> omega) (by unfold fu; split <;> omega) hP2 (g2_pX _ _ _ _) b2 (g4_pX _ _ _ _) (by omega) h2
            rcases hR with ⟨k3, k4⟩ | ⟨k3, b, w', k4, k5, k6, k7⟩
            · exact Or.inl ⟨k3, by rw [k4, pX_app]⟩
            · exact Or.inr ⟨k3, b, w', k4, k5, eqo_tr (pX_eqo _ _ _ _) k6, k7⟩
        · have k1' : ¬ r1.1 = true := by rw [k1]; decide
          simp only [k1', if_false] at e
          cases e
          rw [k2, bW_s]
          rcases k5 with rfl | ⟨rfl, k5⟩
          · rw [if_pos rfl]
            exact Or.inr ⟨k1, 0, w', rfl, k3, k4, Or.inl rfl, q', k6, k7⟩
          · rw [if_neg (by decide), hlim _ _ rfl, X_stuck c4 (by decide) (PX_eqo hP k4) k3 b2 k5]
            exact Or.inr ⟨k1, 1, w', rfl, k3, k4, Or.inr ⟨rfl, k5⟩, q', k6, k7⟩
    · rw [if_neg c4] at e
      by_cases c5 : l = 5
      · rw [if_pos c5] at e
        refine ⟨fun _ => ?_, fun z => by omega⟩
        subst c5
        have hI := (X_pL n m 6 o p q w r (by omega) ho hP hp hb hq hq2 e).2 rfl
        show rX _ _ _ _ (f_X4_readLevel_y (f_X4_readLevel m) (f_X4_readOperand m) (nI 5) (nI o) w)
        unfold f_X4_readLevel_y
        rw [if_pos (show nI 5 = (5 : Int32) from rfl)]
        obtain ⟨b, w', z1, z2⟩ := rX_01 hI
        rw [z1, bW_s, zb_d z2, ← z1]
        exact hI
      · rw [if_neg c5] at e
        refine ⟨fun z => by omega, fun _ => ?_⟩
        have L40 : (lx (LT t tp p) = (40 : Int32)) ↔ LT t tp p = 40 := lx_eq (d := 40) hokc (by omega)
        have L33 : (lx (LT t tp p) = (33 : Int32)) ↔ LT t tp p = 33 := lx_eq (d := 33) hokc (by omega)
        have L45 : (lx (LT t tp p) = (45 : Int32)) ↔ LT t tp p = 45 := lx_eq (d := 45) hokc (by omega)
        show rX _ _ _ _ (f_X4_readOperand_y (f_X4_readLevel m) (f_X4_readOperand m) (nI o) w)
        unfold f_X4_readOperand_y
        rw [X_letter hP hp hb, bR_s, X_digit hokc, bR_s, ite_b2i]
        by_cases cd : dgt (LT t tp p)
        · rw [if_pos cd] at e ⊢
          have en : f_X4_readNumber w = some (1, pX (dgs (LT t tp) 4 p 0).1 q [(35, (dgs (LT t tp) 4 p 0).2)] w) := X_number 4 fu 0 p q 0 w (by omega) (by decide) hP hp hb hq (by omega) (by omega)
          rw [en, bW_s, zb_d (Or.inr rfl)]
          by_cases c2 : dgt (LT t tp (dgs (LT t tp) 4 p 0).1)
          · rw [if_pos c2] at e
            cases e
            exact Or.inr ⟨rfl, 1, _, rfl, g2_pX _ _ _ _, pX_eqo _ _ _ _, Or.inr ⟨rfl, c2⟩, q + 1, g4_pX _ _ _ _, by omega⟩
          · rw [if_neg c2] at e
            cases e
            exact Or.inl ⟨rfl, rfl⟩
        · rw [if_neg cd] at e ⊢
          rw [X_name hokc, bR_s]
          by_cases cn : nmo (LT t tp p) ≤ 5
          · rw [if_pos cn] at e ⊢
            cases e
            rw [if_neg (nI_pos (by omega)), hp, nI_1, stI_d, bR_s, X_move (p := p) hq (p + 1), X_write (a := 36) (v := nI (nmo (LT t tp p))) (q := q) (g2_pX _ _ _ _) (g4_pX _ _ _ _) (by omega) (36, nmo (LT t tp p)) rfl rfl, bV_s, pX_nil]
            exact Or.inl ⟨rfl, rfl⟩
          · rw [if_neg cn] at e ⊢
            rw [if_pos (by decide)]
            have fail : some (false, p, []) = some r → rX (LT t tp) w q r (some (0, w)) := by
              intro z
              cases z
              exact Or.inr ⟨rfl, 0, w, rfl, hp, eqo_rf w, Or.inl rfl, q, hq, by omega⟩
            -- the three that open
            have opens : (LT t tp p = 40 ∨ LT t tp p = 33 ∨ LT t tp p = 45) → rX (LT t tp) w q r (f_X4_readOperand_b64 (f_X4_readLevel m) (f_X4_readOperand m) (nI o) (lx (LT t tp p)) w) := by
              intro cu
              unfold f_X4_readOperand_b64
              by_cases c6 : o = 6
              · subst c6
                rw [if_neg (by omega)] at e
                rw [if_pos (show nI 6 = (6 : Int32) from rfl)]
                exact fail e
              · rw [if_pos ⟨cu, by omega⟩] at e
                have hp' : p < tp := by
                  rcases Nat.lt_or_ge p tp with y | y
                  · exact y
                  · rw [LT_end p y] at cu; omega
                rw [if_neg (by rw [show (6 : Int32) = nI 6 from rfl, nI_eq (by omega) (by omega)]; exact c6), hp, nI_1, nI_1, stI_d, X_move (p := p) hq (p + 1)]
                have hP' := PX_eqo hP (pX_eqo (p + 1) q [] w)
                by_cases c40 : LT t tp p = 40
                · rw [if_pos (L40.mpr c40)]
                  rw [if_pos c40] at e
                  cases h1 : pLv (LT t tp) n 0 (o + 1) (p + 1) with
                  | none => rw [h1] at e; cases e
                  | some r1 =>
                    rw [h1] at e
                    have hI : rX (LT t tp) w q r1 (f_X4_readLevel m 0 (nI (o + 1)) (pX (p + 1) q [] w)) := rX_up ((X_pL n m 0 (o + 1) (p + 1) q _ r1 (by omega) (by omega) hP' (g2_pX _ _ _ _) (by omega) (g4_pX _ _ _ _) (by omega) h1).1 (by omega))
                    obtain ⟨b1, b2, b3⟩ := pLv_pos LT_end n 0 (o + 1) (p + 1) r1 (by omega) h1
                    rcases hI with ⟨k1, k2⟩ | ⟨k1, b, w', k2, k3, k4, k5, q', k6, k7⟩
                    · simp only [k1, if_true] at e
                      have hP2 := PX_eqo hP (pX_eqo r1.2.1 q r1.2.2 w)
                      rw [k2, bW_s, if_neg (by decide), show (41 : Int32) = nI 41 from rfl, X_passed hP2 (g2_pX _ _ _ _) b2 (by omega)]
                      by_cases c41 : LT t tp r1.2.1 = 41
                      · rw [if_pos c41] at e ⊢
                        cases e
                        rw [bW_s, if_neg (by decide), X_move (p := r1.2.1) (g4_pX _ _ _ _) (r1.2.1 + 1), pX_app, List.append_nil]
                        exact Or.inl ⟨rfl, rfl⟩
                      · rw [if_neg c41] at e ⊢
                        cases e
                        rw [bW_s, if_pos rfl]
                        obtain ⟨b4, b5⟩ := b3 k1
                        exact Or.inr ⟨rfl, 0, _, rfl, g2_pX _ _ _ _, pX_eqo _ _ _ _, Or.inl rfl, q + r1.2.2.length, g4_pX _ _ _ _, by omega⟩
                    · have k1' : ¬ r1.1 = true := by rw [k1]; decide
                      simp only [k1', if_false] at e
                      cases e
                      rw [k2, bW_s]
                      rcases k5 with rfl | ⟨rfl, k5⟩
                      · rw [if_pos rfl]
                        exact Or.inr ⟨k1, 0, w', rfl, k3, k4, Or.inl rfl, q', k6, k7⟩
                      · rw [if_neg (by decide), show (41 : Int32) = nI 41 from rfl, X_passed (PX_eqo hP k4) k3 b2 (by omega), if_neg (by omega), bW_s, if_pos rfl]
                        exact Or.inr ⟨k1, 0, w', rfl, k3, k4, Or.inl rfl, q', k6, k7⟩
                · rw [if_neg (fun z => c40 (L40.mp z))]
                  rw [if_neg c40] at e
                  cases h1 : pLv (LT t tp) n 6 (o + 1) (p + 1) with
                  | none => rw [h1] at e; cases e
                  | some r1 =>
                    rw [h1] at e
                    have hI : rX (LT t tp) w q r1 (f_X4_readOperand m (nI (o + 1)) (pX (p + 1) q [] w)) := rX_up ((X_pL n m 6 (o + 1) (p + 1) q _ r1 (by omega) (by omega) hP' (g2_pX _ _ _ _) (by omega) (g4_pX _ _ _ _) (by omega) h1).2 rfl)
                    obtain ⟨b1, b2, b3⟩ := pLv_pos LT_end n 6 (o + 1) (p + 1) r1 (by omega) h1
                    have hw : ∀ (k : Int32 → Option (Int32 × Wd)), (if lx (LT t tp p) = (33 : Int32) then k 33 else k 126) = k (nI (if LT t tp p = 33 then 33 else 126)) := by
                      intro k
                      by_cases c33 : LT t tp p = 33
                      · rw [if_pos (L33.mpr c33), if_pos c33]; rfl
                      · rw [if_neg (fun z => c33 (L33.mp z)), if_neg c33]; rfl
                    have hw' := fun w2 => hw (fun x => f_X4_readOperand_b140 (f_X4_readLevel m) (f_X4_readOperand m) x w2)
                    rcases hI with ⟨k1, k2⟩ | ⟨k1, b, w', k2, k3, k4, k5, q', k6, k7⟩
                    · simp only [k1, if_true] at e
                      obtain ⟨b4, b5⟩ := b3 k1
                      cases e
                      rw [k2, bW_s, if_neg (show ¬ (1 : Int32) = 0 by decide), hw']
                      unfold f_X4_readOperand_b140
                      rw [X_write (a := nI (if LT t tp p = 33 then 33 else 126)) (v := 0) (g2_pX _ _ _ _) (g4_pX _ _ _ _) (by omega) (if LT t tp p = 33 then 33 else 126, 0) rfl rfl, bV_s, pX_app]
                      exact Or.inl ⟨rfl, rfl⟩
                    · have k1' : ¬ r1.1 = true := by rw [k1]; decide
                      simp only [k1', if_false] at e
                      cases e
                      rw [k2, bW_s]
                      rcases k5 with rfl | ⟨rfl, k5⟩
                      · rw [if_pos rfl]
                        exact Or.inr ⟨k1, 0, w', rfl, k3, k4, Or.inl rfl, q', k6, k7⟩
                      · rw [if_neg (by decide), hw']
                        unfold f_X4_readOperand_b140
                        obtain ⟨w2, v1, v2, v3, q2, v4, v5⟩ := X_writeAny k6 k7 (nI (if LT t tp p = 33 then 33 else 126)) 0
                        rw [v1, bV_s]
                        exact Or.inr ⟨k1, 1, w2, rfl, v3.trans k3, eqo_tr k4 v2, Or.inr ⟨rfl, k5⟩, q2, v4, v5⟩
            by_cases c40 : LT t tp p = 40
            · rw [if_pos (L40.mpr c40)]
              exact opens (Or.inl c40)
            · rw [if_neg (fun z => c40 (L40.mp z))]
              by_cases c33 : LT t tp p = 33
              · rw [if_pos (L33.mpr c33)]
                exact opens (Or.inr (Or.inl c33))
              · rw [if_neg (fun z => c33 (L33.mp z))]
                by_cases c45 : LT t tp p = 45
                · rw [if_pos (L45.mpr c45)]
                  exact opens (Or.inr (Or.inr c45))
                · rw [if_neg (fun z => c45 (L45.mp z))]
                  rw [if_neg (by omega)] at e
                  exact fail e
theorem rst_tot {q : Nat → Option PR} {L : Nat → Nat} {l : Nat} (hq : ∀ p, ∃ r, q p = some r) : ∀ (m p : Nat), ∃ r, rst q L l m p = some r
  | 0, p => ⟨_, rfl⟩
  | m + 1, p => by
    unfold rst
    by_cases c : lvo (L p) = l
    · rw [if_pos c]
      obtain ⟨r, hr⟩ := hq (p + 1)
      rw [hr]
      by_cases c1 : r.1 = true
      · obtain ⟨s, hs⟩ := rst_tot (L := L) (l := l) hq m r.2.1
        simp only [c1, if_true, hs]
        exact ⟨_, rfl⟩
      · simp only [c1, if_false]
        exact ⟨_, rfl⟩
    · rw [if_neg c]
      exact ⟨_, rfl⟩
theorem pLv_tot {L : Nat → Nat} : ∀ (n l o p : Nat), l ≤ 6 → o ≤ 6 → (6 - o) * 7 + 7 - l ≤ n → ∃ r, pLv L n l o p = some r
  | 0, l, o, p, h1, h2, h => by omega
  | n + 1, l, o, p, h1, h2, h => by
    unfold pLv
    by_cases c4 : l ≤ 4
    · rw [if_pos c4]
      obtain ⟨r, hr⟩ := pLv_tot (L := L) n (l + 1) o p (by omega) h2 (by omega)
      rw [hr]
      by_cases c1 : r.1 = true
      · obtain ⟨s, hs⟩ := rst_tot (L := L) (l := l) (fun p => pLv_tot (L := L) n (l + 1) o p (by omega) h2 (by omega)) (if l = 2 then 1 else 120) r.2.1
        simp only [c1, if_true, hs]
        exact ⟨_, rfl⟩
      · simp only [c1, if_false]
        exact ⟨_, rfl⟩
    · rw [if_neg c4]
      by_cases c5 : l = 5
      · rw [if_pos c5]
        exact pLv_tot n 6 o p (by omega) h2 (by omega)
      · rw [if_neg c5]
        by_cases cd : dgt (L p)
        · rw [if_pos cd]
          by_cases c2 : dgt (L (dgs L 4 p 0).1)
          · rw [if_pos c2]; exact ⟨_, rfl⟩
          · rw [if_neg c2]; exact ⟨_, rfl⟩
        · rw [if_neg cd]
          by_cases cn : nmo (L p) ≤ 5
          · rw [if_pos cn]; exact ⟨_, rfl⟩
          · rw [if_neg cn]
            by_cases cu : (L p = 40 ∨ L p = 33 ∨ L p = 45) ∧ o < 6
            · rw [if_pos cu]
              by_cases c40 : L p = 40
              · rw [if_pos c40]
                obtain ⟨r, hr⟩ := pLv_tot (L := L) n 0 (o + 1) (p + 1) (by omega) (by omega) (by omega)
                rw [hr]
                by_cases c1 : r.1 = true
                · by_cases c41 : L r.2.1 = 41
                  · simp only [c1, if_true, c41]; exact ⟨_, rfl⟩
                  · simp only [c1, if_true, c41, if_false]; exact ⟨_, rfl⟩
                · simp only [c1, if_false]; exact ⟨_, rfl⟩
              · rw [if_neg c40]
                obtain ⟨r, hr⟩ := pLv_tot (L := L) n 6 (o + 1) (p + 1) (by omega) (by omega) (by omega)
                rw [hr]
                by_cases c1 : r.1 = true
                · simp only [c1, if_true]; exact ⟨_, rfl⟩
                · simp only [c1, if_false]; exact ⟨_, rfl⟩
            · rw [if_neg cu]; exact ⟨_, rfl⟩
