/-! THE LAW: lines at rest -/
def LK : Nat → Nat → List LN → Wd → Prop
  | _, _, [], _ => True
  | q, j, l :: ls, w => gi w 67 j = nI (q + l.1.length) ∧ gi w 68 j = nI (q + l.1.length + l.2.length) ∧ (∀ k, k < (l.1 ++ l.2).length → gi w 64 (q + k) = nI (am ((l.1 ++ l.2).getD k (0, 0)).1) ∧ gi w 65 (q + k) = nI ((l.1 ++ l.2).getD k (0, 0)).2) ∧ LK (q + (l.1 ++ l.2).length) (j + 1) ls w
theorem flat_len (l : LN) (ls : List LN) : (flat (l :: ls)).length = (l.1 ++ l.2).length + (flat ls).length := by
  show ((l.1 ++ l.2) ++ flat ls).length = _
  rw [List.length_append (as := l.1 ++ l.2)]
theorem LI_LK {Q J : Nat} {w w' : Wd} (h1 : ∀ k, k < Q → gi w' 64 k = gi w 64 (130 + k) ∧ gi w' 65 k = gi w 65 (130 + k)) (h2 : ∀ i, i < J → gi w' 67 i = gi w 67 (61 + i) ∧ gi w' 68 i = gi w 68 (61 + i)) : ∀ (ls : List LN) (q j : Nat), LI q j ls w → q + (flat ls).length ≤ Q → j + ls.length ≤ J → LK q j ls w'
  | [], _, _, _, _, _ => trivial
  | l :: ls, q, j, h, hq, hj => by
    obtain ⟨a1, a2, a3, a4⟩ := h
    rw [flat_len] at hq
    have hj' : j + (ls.length + 1) ≤ J := hj
    refine ⟨?_, ?_, fun k hk => ?_, LI_LK h1 h2 ls _ _ a4 (by omega) (by omega)⟩
    · rw [(h2 j (by omega)).1]; exact a1
    · rw [(h2 j (by omega)).2]; exact a2
    · rw [(h1 (q + k) (by omega)).1, (h1 (q + k) (by omega)).2]; exact a3 k hk
theorem i2s_one : ∀ c : Nat, c < 256 → i2s (nI c) = nI c := by decide +kernel
theorem getD_mem {α : Type} {d : α} : ∀ (l : List α) (k : Nat), k < l.length → l.getD k d ∈ l
  | [], k, h => absurd h (by simp)
  | a :: l, 0, _ => by simp
  | a :: l, k + 1, h => List.mem_cons_of_mem a (getD_mem l k (by simp at h; omega))
theorem LI_i2b {w : Wd} : ∀ (ls : List LN) (q j : Nat), LI q j ls w → (∀ l, l ∈ ls → ∀ s, s ∈ l.1 ++ l.2 → vstep s) → ∀ k, q ≤ k → k < q + (flat ls).length → i2b (gi w 64 (130 + k)) = gi w 64 (130 + k)
  | [], q, _, _, _, k, h1, h2 => by
    have : (flat []).length = 0 := rfl
    omega
  | l :: ls, q, j, h, hv, k, h1, h2 => by
    obtain ⟨a1, a2, a3, a4⟩ := h
    rw [flat_len] at h2
    by_cases c : k < q + (l.1 ++ l.2).length
    · have e := (a3 (k - q) (by omega)).1
      rw [show q + (k - q) = k by omega] at e
      rw [e]
      exact i2b_nI (vstep_am (hv l List.mem_cons_self _ (getD_mem _ _ (by omega))))
    · exact LI_i2b ls _ _ a4 (fun l' hl' => hv l' (List.mem_cons_of_mem _ hl')) k (by omega) (by omega)
theorem LI_i2s {w : Wd} : ∀ (ls : List LN) (q j : Nat), LI q j ls w → q + (flat ls).length ≤ 127 → ∀ i, j ≤ i → i < j + ls.length → i2s (gi w 67 (61 + i)) = gi w 67 (61 + i) ∧ i2s (gi w 68 (61 + i)) = gi w 68 (61 + i)
  | [], _, _, _, _, i, h1, h2 => by
    have : ([] : List LN).length = 0 := rfl
    omega
  | l :: ls, q, j, h, hq, i, h1, h2 => by
    obtain ⟨a1, a2, a3, a4⟩ := h
    rw [flat_len] at hq
    have hlen : (l.1 ++ l.2).length = l.1.length + l.2.length := List.length_append
    have h2' : i < j + (ls.length + 1) := h2
    by_cases c : i = j
    · subst c
      rw [a1, a2]
      exact ⟨i2s_one _ (by omega), i2s_one _ (by omega)⟩
    · exact LI_i2s ls _ _ a4 (by omega) i (by omega) (by omega)
theorem pLn_v {L : Nat → Nat} (p : Nat) : ∀ s, s ∈ (pLn L p).2.2.1 ++ (pLn L p).2.2.2 → vstep s := by
  intro s hs
  unfold pLn at hs
  cases h1 : pLv L 80 0 0 p with
  | none => rw [h1] at hs; cases hs
  | some r =>
    rw [h1] at hs
    by_cases c1 : r.1 = true
    · simp only [c1, if_true] at hs
      by_cases c63 : L r.2.1 = 63
      · rw [if_pos c63] at hs
        cases h2 : pLv L 80 0 0 (r.2.1 + 1) with
        | none => rw [h2] at hs; cases hs
        | some r2 =>
          rw [h2] at hs
          by_cases c2 : r2.1 = true
          · simp only [c2, if_true] at hs
            rcases List.mem_append.mp hs with h | h
            · exact pLv_v 80 0 0 p r h1 s h
            · exact pLv_v 80 0 0 _ r2 h2 s h
          · have c2' : r2.1 = false := by cases h : r2.1 with
              | false => rfl
              | true => exact absurd h c2
            simp only [c2', Bool.false_eq_true, if_false] at hs
            cases hs
      · rw [if_neg c63] at hs
        exact pLv_v 80 0 0 p r h1 s hs
    · have c1' : r.1 = false := by cases h : r.1 with
        | false => rfl
        | true => exact absurd h c1
      simp only [c1', Bool.false_eq_true, if_false] at hs
      cases hs
theorem pLs_v {L : Nat → Nat} {tp : Nat} : ∀ (n p : Nat) (l : LN), l ∈ (pLs L tp n p).2.2 → ∀ s, s ∈ l.1 ++ l.2 → vstep s
  | 0, _, l, h, _, _ => by cases h
  | n + 1, p, l, h, s, hs => by
    unfold pLs at h
    by_cases c1 : (pLn L p).1 = true
    · rw [if_pos c1] at h
      by_cases c59 : L (pLn L p).2.1 = 59
      · rw [if_pos c59] at h
        rcases List.mem_cons.mp h with h | h
        · rw [h] at hs; exact pLn_v p s hs
        · exact pLs_v n _ l h s hs
      · rw [if_neg c59] at h
        by_cases ce : (pLn L p).2.1 = tp
        · rw [if_pos ce] at h
          rw [List.mem_singleton.mp h] at hs
          exact pLn_v p s hs
        · rw [if_neg ce] at h; cases h
    · rw [if_neg c1] at h; cases h
