/-! THE LAW: all lines, for the class -/
def pLs (L : Nat → Nat) (tp : Nat) : Nat → Nat → Bool × Nat × List LN
  | 0, p => (false, p, [])
  | n + 1, p => if (pLn L p).1 = true then (if L (pLn L p).2.1 = 59 then ((pLs L tp n ((pLn L p).2.1 + 1)).1, (pLs L tp n ((pLn L p).2.1 + 1)).2.1, (pLn L p).2.2 :: (pLs L tp n ((pLn L p).2.1 + 1)).2.2) else if (pLn L p).2.1 = tp then (true, tp, [(pLn L p).2.2]) else (false, (pLn L p).2.1, [])) else (false, (pLn L p).2.1, [])
def encs : Nat → List LN → List (Nat × Nat)
  | _, [] => []
  | q, l :: ls => enc q l ++ encs (q + (enc q l).length) ls
theorem enc_len (q : Nat) (l : LN) : (enc q l).length ≤ l.1.length + l.2.length + 2 ∧ (l.1 = [] → (enc q l).length = l.2.length + 1) := by
  unfold enc
  by_cases c : l.1 = []
  · rw [if_pos c, List.length_append]
    exact ⟨by show l.2.length + 1 ≤ _; omega, fun _ => rfl⟩
  · rw [if_neg c, List.length_append, List.length_append, List.length_cons]
    exact ⟨by show l.1.length + (l.2.length + 1) + 1 ≤ _; omega, fun z => absurd z c⟩
theorem pLn_pos {L : Nat → Nat} {tp p : Nat} (hL : ∀ p, tp ≤ p → L p = 999) (hp : p ≤ tp) : p ≤ (pLn L p).2.1 ∧ (pLn L p).2.1 ≤ tp ∧ ((pLn L p).1 = true → p < (pLn L p).2.1 ∧ ∀ q, (enc q (pLn L p).2.2).length ≤ (pLn L p).2.1 - p + 1) := by
  obtain ⟨r, hr⟩ := pLv_tot (L := L) 80 0 0 p (by omega) (by omega) (by omega)
  obtain ⟨b1, b2, b3⟩ := pLv_pos hL 80 0 0 p r hp hr
  unfold pLn
  rw [hr]
  by_cases c1 : r.1 = true
  · obtain ⟨b4, b5⟩ := b3 c1
    simp only [c1, if_true]
    by_cases c63 : L r.2.1 = 63
    · have hp' : r.2.1 < tp := by
        rcases Nat.lt_or_ge r.2.1 tp with y | y
        · exact y
        · rw [hL _ y] at c63; omega
      obtain ⟨s, hs⟩ := pLv_tot (L := L) 80 0 0 (r.2.1 + 1) (by omega) (by omega) (by omega)
      obtain ⟨d1, d2, d3⟩ := pLv_pos hL 80 0 0 (r.2.1 + 1) s (by omega) hs
      rw [if_pos c63, hs]
      by_cases c2 : s.1 = true
      · obtain ⟨d4, d5⟩ := d3 c2
        simp only [c2, if_true]
        refine ⟨by omega, d2, fun _ => ⟨by omega, fun q => ?_⟩⟩
        have := (enc_len q (r.2.2, s.2.2)).1
        simp only at this
        omega
      · have c2' : s.1 = false := by cases h : s.1 with
          | false => rfl
          | true => exact absurd h c2
        simp only [c2', Bool.false_eq_true, if_false]
        exact ⟨by omega, d2, fun z => z.elim⟩
    · rw [if_neg c63]
      refine ⟨b1, b2, fun _ => ⟨b4, fun q => ?_⟩⟩
      have := (enc_len q ([], r.2.2)).2 rfl
      simp only at this
      show (enc q ([], r.2.2)).length ≤ r.2.1 - p + 1
      omega
  · have c1' : r.1 = false := by cases h : r.1 with
      | false => rfl
      | true => exact absurd h c1
    simp only [c1', Bool.false_eq_true, if_false]
    exact ⟨b1, b2, fun z => z.elim⟩
theorem X_lines {t : Nat → Nat} {tp : Nat} : ∀ (k n i p q : Nat) (w : Wd), tp - p < k → k < n → i ≤ p → PX t tp w → gi w 6 2 = nI p → p ≤ tp → gi w 6 4 = nI q → q + (tp - p) ≤ 126 →
    ((pLs (LT t tp) tp k p).1 = true ∧ f_X4_readLines_b2 n (nI i) w = some (1, pX tp q (encs q (pLs (LT t tp) tp k p).2.2) w) ∧ q + (encs q (pLs (LT t tp) tp k p).2.2).length ≤ 127) ∨ ((pLs (LT t tp) tp k p).1 = false ∧ ∃ w', f_X4_readLines_b2 n (nI i) w = some (0, w') ∧ gi w' 6 2 = nI (pLs (LT t tp) tp k p).2.1 ∧ eqo sLX w w')
  | 0, _, _, _, _, _, h, _, _, _, _, _, _, _ => absurd h (by omega)
  | k + 1, 0, _, _, _, _, _, h, _, _, _, _, _, _ => absurd h (by omega)
  | k + 1, n + 1, i, p, q, w, hk, hn, hi, hP, hp, hb, hq, hq2 => by
    have ht := hP.1
    have hln := X_line hP hp hb hq hq2
    obtain ⟨b1, b2, b3⟩ := pLn_pos (L := LT t tp) LT_end hb
    unfold pLs
    generalize hA : pLn (LT t tp) p = A at hln b1 b2 b3
    have e0 : f_X4_readLines_b2 (n + 1) (nI i) w = f_X4_readLines_b2_y (f_X4_readLines_b2 n) (nI i) w := rfl
    rw [e0]
    unfold f_X4_readLines_b2_y
    have n120 : ¬ (120 : Int32) < nI i := by
      rw [show (120 : Int32) = nI 120 from rfl]
      exact nI_nlt (by omega) (by omega)
    rw [if_neg n120]
    rcases hln with ⟨k1, k2⟩ | ⟨k1, b, w', k2, k3, k4, k5, q', k6, k7⟩
    · have k1' : A.1 = true := k1
      obtain ⟨b4, b5⟩ := b3 k1'
      have b6 := b5 q
      rw [if_pos k1', k2, bW_s, if_neg (show ¬ (1 : Int32) = 0 by decide)]
      simp only
      have hP1 := PX_eqo hP (pX_eqo A.2.1 q (enc q A.2.2) w)
      rw [g2_pX, hP1.2.1]
      by_cases ce : A.2.1 = tp
      · have n59 : ¬ LT t tp A.2.1 = 59 := by rw [LT_end A.2.1 (by omega)]; omega
        rw [if_pos (show nI A.2.1 = nI tp by rw [ce]), if_neg n59, if_pos ce]
        refine Or.inl ⟨rfl, ?_, ?_⟩
        · rw [ce]
          show _ = some (1, pX tp q (enc q A.2.2 ++ []) w)
          rw [List.append_nil]
        · show q + (enc q A.2.2 ++ []).length ≤ 127
          rw [List.append_nil]
          omega
      · have nce : ¬ nI A.2.1 = nI tp := by
          rw [nI_eq (by omega) (by omega)]
          exact ce
        rw [if_neg nce, show (59 : Int32) = nI 59 from rfl, X_passed hP1 (g2_pX _ _ _ _) b2 (by omega)]
        by_cases c59 : LT t tp A.2.1 = 59
        · rw [if_pos c59, if_pos c59, bW_s, if_neg (show ¬ (1 : Int32) = 0 by decide), X_move (p := A.2.1) (g4_pX _ _ _ _) (A.2.1 + 1), pX_app, List.append_nil, nI_1]
          have hP2 := PX_eqo hP (pX_eqo (A.2.1 + 1) q (enc q A.2.2) w)
          have hR := X_lines k n (i + 1) (A.2.1 + 1) (q + (enc q A.2.2).length) _ (by omega) (by omega) (by omega) hP2 (g2_pX _ _ _ _) (by omega) (g4_pX _ _ _ _) (by omega)
          rcases hR with ⟨j1, j2, j3⟩ | ⟨j1, w', j2, j3, j4⟩
          · refine Or.inl ⟨j1, ?_, ?_⟩
            · rw [j2, pX_app]
              rfl
            · show q + (enc q A.2.2 ++ encs (q + (enc q A.2.2).length) (pLs (LT t tp) tp k (A.2.1 + 1)).2.2).length ≤ 127
              rw [List.length_append]
              omega
          · exact Or.inr ⟨j1, w', j2, j3, eqo_tr (pX_eqo _ _ _ _) j4⟩
        · rw [if_neg c59, if_neg c59, bW_s, if_pos rfl, if_neg ce]
          exact Or.inr ⟨rfl, _, rfl, g2_pX _ _ _ _, pX_eqo _ _ _ _⟩
    · have k1' : A.1 = false := k1
      have k1n : ¬ A.1 = true := by rw [k1']; decide
      have k3' : gi w' 6 2 = nI A.2.1 := k3
      rw [if_neg k1n, k2, bW_s]
      rcases k5 with rfl | ⟨rfl, k5⟩
      · rw [if_pos rfl]
        exact Or.inr ⟨rfl, w', rfl, k3, k4⟩
      · have k5' : dgt (LT t tp A.2.1) := k5
        have hP1 := PX_eqo hP k4
        have hlt : A.2.1 < tp := by
          rcases Nat.lt_or_ge A.2.1 tp with y | y
          · exact y
          · rw [LT_end _ y] at k5'; omega
        have nce : ¬ nI A.2.1 = nI tp := by
          rw [nI_eq (by omega) (by omega)]
          omega
        rw [if_neg (show ¬ (1 : Int32) = 0 by decide), k3', hP1.2.1, if_neg nce, show (59 : Int32) = nI 59 from rfl, X_passed hP1 k3' b2 (by omega), if_neg (show ¬ LT t tp A.2.1 = 59 by omega), bW_s, if_pos rfl]
        exact Or.inr ⟨rfl, w', rfl, k3', k4⟩
