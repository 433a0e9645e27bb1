/-! THE LAW: all lines, for the model -/
def flat : List LN → List (Nat × Nat)
  | [] => []
  | l :: ls => (l.1 ++ l.2) ++ flat ls
/-- the lines as they lie in the model's cells, from step q and line j on -/
def LI : Nat → Nat → List LN → Wd → Prop
  | _, _, [], _ => True
  | q, j, l :: ls, w => gi w 67 (61 + j) = nI (q + l.1.length) ∧ gi w 68 (61 + j) = nI (q + l.1.length + l.2.length) ∧ (∀ k, k < (l.1 ++ l.2).length → gi w 64 (130 + (q + k)) = nI (am ((l.1 ++ l.2).getD k (0, 0)).1) ∧ gi w 65 (130 + (q + k)) = nI ((l.1 ++ l.2).getD k (0, 0)).2) ∧ LI (q + (l.1 ++ l.2).length) (j + 1) ls w
theorem enc_ge (q : Nat) (l : LN) : l.1.length + l.2.length + 1 ≤ (enc q l).length := by
  unfold enc
  by_cases c : l.1 = []
  · rw [if_pos c, List.length_append, c]
    show 0 + l.2.length + 1 ≤ l.2.length + 1
    omega
  · rw [if_neg c, List.length_append, List.length_append, List.length_cons]
    show _ ≤ l.1.length + (l.2.length + 1) + 1
    omega
theorem M_b64 {t : Nat → Nat} {tp p q : Nat} {w : Wd} (x : Int32) (hM : MS t tp p q 0 w) : f_X12_readText_b64 x w = if p = tp then f_X12_readText_b86 x w else f_X12_readText_b86 x (si w 54 20 (nI p)) := by
  unfold f_X12_readText_b64
  have h3 := hM.2.2.1
  have htp := hM.1.1
  rw [hM.2.2.2.1, if_neg (show ¬ (0 : Int32) ≤ -1 by decide), hM.1.2.1, hM.2.1]
  by_cases c : p = tp
  · rw [if_pos (show nI tp ≤ nI p by rw [nI_leI (by omega) (by omega)]; omega), if_pos c]
  · rw [if_neg (show ¬ nI tp ≤ nI p by rw [nI_leI (by omega) (by omega)]; omega), if_neg c, M_faulty hM.2.1 hM.2.2.2.1, bV_s]
theorem M_lines {t : Nat → Nat} {tp : Nat} : ∀ (k n p q j : Nat) (w : Wd), tp - p < k → k < n → 2 * j ≤ p → MS t tp p q 0 w → gi w 66 1 = nI j →
    ((pLs (LT t tp) tp k p).1 = true ∧ ∃ w', (bV (f_X12_line w) fun w22 => f_X12_readText_b31 n 0 w22) = f_X12_readText_b86 0 w' ∧ gi w' 54 20 = -1 ∧ gi w' 54 22 = nI (q + (flat (pLs (LT t tp) tp k p).2.2).length) ∧ q + (flat (pLs (LT t tp) tp k p).2.2).length ≤ 127 ∧ gi w' 66 1 = nI (j + (pLs (LT t tp) tp k p).2.2.length) ∧ j + (pLs (LT t tp) tp k p).2.2.length ≤ 61 ∧ LI q j (pLs (LT t tp) tp k p).2.2 w' ∧ (∀ i, i < q → gi w' 64 (130 + i) = gi w 64 (130 + i) ∧ gi w' 65 (130 + i) = gi w 65 (130 + i)) ∧ (∀ i, i < j → gi w' 67 (61 + i) = gi w 67 (61 + i) ∧ gi w' 68 (61 + i) = gi w 68 (61 + i)) ∧ eqo sTM w w') ∨
    ((pLs (LT t tp) tp k p).1 = false ∧ ∃ w', (bV (f_X12_line w) fun w22 => f_X12_readText_b31 n 0 w22) = f_X12_readText_b86 0 w' ∧ gi w' 54 20 = nI (pLs (LT t tp) tp k p).2.1 ∧ eqo sTM w w')
  | 0, _, _, _, _, _, h, _, _, _, _ => absurd h (by omega)
  | k + 1, 0, _, _, _, _, _, h, _, _, _ => absurd h (by omega)
  | k + 1, n + 1, p, q, j, w, hk, hn, hj, hM, hj1 => by
    have h3 := hM.2.2.1
    have h7 := hM.2.2.2.2.2.2
    have htp := hM.1.1
    have hln := M_line hM hj1 (by omega)
    obtain ⟨b1, b2, b3⟩ := pLn_pos (L := LT t tp) LT_end h3
    unfold pLs
    generalize hA : pLn (LT t tp) p = A at hln b1 b2 b3
    rcases hln with ⟨k1, k2⟩ | ⟨k1, w', k2, k3, k4, k5⟩
    · obtain ⟨b4, b5⟩ := b3 k1
      have b6 := b5 0
      have b7 := enc_ge 0 A.2.2
      have hlen : (A.2.2.1 ++ A.2.2.2).length = A.2.2.1.length + A.2.2.2.length := List.length_append
      have hMp := MS_pM (p' := A.2.1) (o' := 0) (ss := A.2.2.1 ++ A.2.2.2) hM b2 (by rw [hlen]; omega)
      have hMl : MS t tp A.2.1 (q + (A.2.2.1 ++ A.2.2.2).length) 0 (lineW A.2.1 q j A.2.2 w) := MS_si (MS_si (MS_si hMp (by omega) (by omega)) (by omega) (by omega)) (by omega) (by omega)
      have ok := MS_ok hMl A.2.1
      have hel : eqo sTM w (lineW A.2.1 q j A.2.2 w) := eqo_si (eqo_si (eqo_si (eqo_mono (pM_eqo _ _ _ _ _) sLM_TM) (by simp [sTM])) (by simp [sTM])) (by decide)
      have g66 : gi (lineW A.2.1 q j A.2.2 w) 66 1 = nI (j + 1) := by unfold lineW; rw [gi_si, if_pos ⟨rfl, rfl⟩]
      have g67 : gi (lineW A.2.1 q j A.2.2 w) 67 (61 + j) = nI (q + A.2.2.1.length) := by unfold lineW; rw [gi_si, if_neg (by omega), gi_si, if_neg (by omega), gi_si, if_pos ⟨rfl, rfl⟩]
      have g68 : gi (lineW A.2.1 q j A.2.2 w) 68 (61 + j) = nI (q + A.2.2.1.length + A.2.2.2.length) := by unfold lineW; rw [gi_si, if_neg (by omega), gi_si, if_pos ⟨rfl, rfl⟩]
      have g6x : ∀ i, i < j → gi (lineW A.2.1 q j A.2.2 w) 67 (61 + i) = gi w 67 (61 + i) ∧ gi (lineW A.2.1 q j A.2.2 w) 68 (61 + i) = gi w 68 (61 + i) := by
        intro i hi
        unfold lineW
        refine ⟨?_, ?_⟩
        · rw [gi_si, if_neg (by omega), gi_si, if_neg (by omega), gi_si, if_neg (by omega), (pM_eqo _ _ _ _ w 67 (61 + i) (by simp [sLM])).1]
        · rw [gi_si, if_neg (by omega), gi_si, if_neg (by omega), gi_si, if_neg (by omega), (pM_eqo _ _ _ _ w 68 (61 + i) (by simp [sLM])).1]
      have gp : ∀ x y, (x = 64 ∨ x = 65) → gi (lineW A.2.1 q j A.2.2 w) x y = gi (pM A.2.1 q 0 (A.2.2.1 ++ A.2.2.2) w) x y := by
        intro x y hx
        unfold lineW
        rw [gi_si, if_neg (by omega), gi_si, if_neg (by omega), gi_si, if_neg (by omega)]
      have gst : ∀ i, i < (A.2.2.1 ++ A.2.2.2).length → gi (lineW A.2.1 q j A.2.2 w) 64 (130 + (q + i)) = nI (am ((A.2.2.1 ++ A.2.2.2).getD i (0, 0)).1) ∧ gi (lineW A.2.1 q j A.2.2 w) 65 (130 + (q + i)) = nI ((A.2.2.1 ++ A.2.2.2).getD i (0, 0)).2 := by
        intro i hi
        rw [gp 64 _ (Or.inl rfl), gp 65 _ (Or.inr rfl), gi_pM, gi_pM]
        refine ⟨?_, ?_⟩
        · rw [if_neg (by omega), if_neg (by omega), if_neg (by omega), if_pos ⟨rfl, by omega, by omega⟩, show 130 + (q + i) - (130 + q) = i by omega]
        · rw [if_neg (by omega), if_neg (by omega), if_neg (by omega), if_neg (by omega), if_pos ⟨rfl, by omega, by omega⟩, show 130 + (q + i) - (130 + q) = i by omega]
      have gol : ∀ i, i < q → gi (lineW A.2.1 q j A.2.2 w) 64 (130 + i) = gi w 64 (130 + i) ∧ gi (lineW A.2.1 q j A.2.2 w) 65 (130 + i) = gi w 65 (130 + i) := by
        intro i hi
        rw [gp 64 _ (Or.inl rfl), gp 65 _ (Or.inr rfl), gi_pM, gi_pM]
        refine ⟨?_, ?_⟩
        · rw [if_neg (by omega), if_neg (by omega), if_neg (by omega), if_neg (by omega), if_neg (by omega)]
        · rw [if_neg (by omega), if_neg (by omega), if_neg (by omega), if_neg (by omega), if_neg (by omega)]
      have e0 : ∀ w2, f_X12_readText_b31 (n + 1) 0 w2 = f_X12_readText_b31_y (f_X12_readText_b31 n) 0 w2 := fun _ => rfl
      rw [if_pos k1, k2, bV_s, e0]
      unfold f_X12_readText_b31_y
      rw [hMl.2.2.2.1, if_neg (show ¬ (0 : Int32) ≤ -1 by decide), MS_on hMl, bR_s]
      by_cases c59 : LT t tp A.2.1 = 59
      · have hp' : A.2.1 < tp := by
          rcases Nat.lt_or_ge A.2.1 tp with y | y
          · exact y
          · rw [LT_end _ y] at c59; omega
        rw [if_pos c59, if_pos ((lm_is ok (d := 59) (by omega) 59 rfl).mpr c59), stI_d, hMl.2.1, nI_1, M_move hMl (A.2.1 + 1)]
        have hM2 := MS_pM (p' := A.2.1 + 1) (o' := 0) (ss := []) hMl (by omega) (by rw [List.length_nil]; omega)
        rw [List.length_nil, Nat.add_zero] at hM2
        have gq : ∀ x y, ¬ x = 54 → gi (pM (A.2.1 + 1) (q + (A.2.2.1 ++ A.2.2.2).length) 0 [] (lineW A.2.1 q j A.2.2 w)) x y = gi (lineW A.2.1 q j A.2.2 w) x y := by
          intro x y hx
          rw [gi_pM, List.length_nil, if_neg (by omega), if_neg (by omega), if_neg (by omega), if_neg (by omega), if_neg (by omega)]
        have hR := M_lines k n (A.2.1 + 1) _ (j + 1) _ (by omega) (by omega) (by omega) hM2 (by rw [gq 66 1 (by omega)]; exact g66)
        rcases hR with ⟨j1, w', j2, j3, j4, j5, j6, j7, j8, j9, j10, j11⟩ | ⟨j1, w', j2, j3, j4⟩
        · refine Or.inl ⟨j1, w', j2, j3, ?_, ?_, ?_, ?_, ⟨?_, ?_, ?_, j8⟩, ?_, ?_, ?_⟩
          · rw [j4]
            show _ = nI (q + ((A.2.2.1 ++ A.2.2.2) ++ flat (pLs (LT t tp) tp k (A.2.1 + 1)).2.2).length)
            rw [List.length_append (as := A.2.2.1 ++ A.2.2.2)]
            exact congrArg nI (by omega)
          · show q + ((A.2.2.1 ++ A.2.2.2) ++ flat (pLs (LT t tp) tp k (A.2.1 + 1)).2.2).length ≤ 127
            rw [List.length_append (as := A.2.2.1 ++ A.2.2.2)]
            omega
          · rw [j6]
            show _ = nI (j + ((pLs (LT t tp) tp k (A.2.1 + 1)).2.2.length + 1))
            rw [show j + 1 + (pLs (LT t tp) tp k (A.2.1 + 1)).2.2.length = j + ((pLs (LT t tp) tp k (A.2.1 + 1)).2.2.length + 1) by omega]
          · show j + ((pLs (LT t tp) tp k (A.2.1 + 1)).2.2.length + 1) ≤ 61
            omega
          · rw [(j10 j (by omega)).1, gq 67 _ (by omega)]; exact g67
          · rw [(j10 j (by omega)).2, gq 68 _ (by omega)]; exact g68
          · intro i hi
            rw [(j9 (q + i) (by omega)).1, (j9 (q + i) (by omega)).2, gq 64 _ (by omega), gq 65 _ (by omega)]
            exact gst i hi
          · intro i hi
            rw [(j9 i (by omega)).1, (j9 i (by omega)).2, gq 64 _ (by omega), gq 65 _ (by omega)]
            exact gol i hi
          · intro i hi
            rw [(j10 i (by omega)).1, (j10 i (by omega)).2, gq 67 _ (by omega), gq 68 _ (by omega)]
            exact g6x i hi
          · exact eqo_tr (eqo_tr hel (eqo_mono (pM_eqo _ _ _ _ _) sLM_TM)) j11
        · exact Or.inr ⟨j1, w', j2, j3, eqo_tr (eqo_tr hel (eqo_mono (pM_eqo _ _ _ _ _) sLM_TM)) j4⟩
      · rw [if_neg c59, if_neg (fun z => c59 ((lm_is ok (d := 59) (by omega) 59 rfl).mp z)), M_b64 0 hMl]
        by_cases ce : A.2.1 = tp
        · rw [if_pos ce, if_pos ce]
          have hfl : flat [A.2.2] = A.2.2.1 ++ A.2.2.2 := List.append_nil _
          refine Or.inl ⟨rfl, _, rfl, hMl.2.2.2.1, ?_, ?_, g66, ?_, ⟨g67, g68, gst, trivial⟩, gol, g6x, hel⟩
          · show _ = nI (q + (flat [A.2.2]).length)
            rw [hfl]; exact hMl.2.2.2.2.2.1
          · show q + (flat [A.2.2]).length ≤ 127
            rw [hfl, hlen]; omega
          · show j + 1 ≤ 61
            omega
        · rw [if_neg ce, if_neg ce]
          exact Or.inr ⟨rfl, _, rfl, by rw [gi_si, if_pos ⟨rfl, rfl⟩], eqo_si hel (by decide)⟩
    · have k1n : ¬ A.1 = true := by rw [k1]; decide
      have e0 : ∀ w2, f_X12_readText_b31 (n + 1) 0 w2 = f_X12_readText_b31_y (f_X12_readText_b31 n) 0 w2 := fun _ => rfl
      have hge : (0 : Int32) ≤ gi w' 54 20 := by rw [k4]; exact nI_pos' (by omega)
      rw [if_neg k1n, k2, bV_s, e0]
      unfold f_X12_readText_b31_y f_X12_readText_b64
      rw [if_pos hge, if_pos hge]
      exact Or.inr ⟨rfl, w', rfl, k4, k5⟩
