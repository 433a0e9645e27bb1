/-! THE LAW: what steps there are -/
def vstep (s : Nat × Nat) : Prop := (s.1 = 35 ∧ s.2 < 10000) ∨ (s.1 = 36 ∧ s.2 ≤ 5) ∨ (s.1 = 33 ∧ s.2 = 0) ∨ (s.1 = 126 ∧ s.2 = 0) ∨ (lvo s.1 ≤ 4 ∧ s.2 = 0)
theorem vstep_am {s : Nat × Nat} (h : vstep s) : am s.1 < 128 := by
  rcases h with h | h | h | h | h
  · rw [h.1]; decide
  · rw [h.1]; decide
  · rw [h.1]; decide
  · rw [h.1]; decide
  · have := lvo_am h.1 rfl
    rw [this.1]; exact this.2
theorem rst_v {q : Nat → Option PR} {L : Nat → Nat} {l : Nat} (hl : l ≤ 4) (hq : ∀ p r, q p = some r → ∀ s, s ∈ r.2.2 → vstep s) : ∀ (m p : Nat) (r : PR), rst q L l m p = some r → ∀ s, s ∈ r.2.2 → vstep s
  | 0, p, r, e, s, hs => by
    unfold rst at e
    cases e
    cases hs
  | m + 1, p, r, e, s, hs => by
    unfold rst at e
    by_cases c : lvo (L p) = l
    · rw [if_pos c] at e
      cases h1 : q (p + 1) with
      | none => rw [h1] at e; cases e
      | some r1 =>
        rw [h1] at e
        by_cases c1 : r1.1 = true
        · simp only [c1, if_true] at e
          cases h2 : rst q L l m r1.2.1 with
          | none => rw [h2] at e; cases e
          | some r2 =>
            rw [h2] at e
            cases e
            rcases List.mem_append.mp hs with h | h
            · exact hq (p + 1) r1 h1 s h
            · rcases List.mem_cons.mp h with h | h
              · rw [h]
                exact Or.inr (Or.inr (Or.inr (Or.inr ⟨by show lvo (L p) ≤ 4; omega, rfl⟩)))
              · exact rst_v hl hq m r1.2.1 r2 h2 s h
        · simp only [c1, if_false] at e
          cases e
          exact hq (p + 1) _ h1 s hs
    · rw [if_neg c] at e
      cases e
      cases hs
theorem pLv_v {L : Nat → Nat} : ∀ (n l o p : Nat) (r : PR), pLv L n l o p = some r → ∀ s, s ∈ r.2.2 → vstep s
  | 0, _, _, _, _, e, _, _ => by unfold pLv at e; cases e
  | n + 1, l, o, p, r, e, s, hs => by
    unfold pLv at e
    by_cases c4 : l ≤ 4
    · rw [if_pos c4] at e
      cases h1 : pLv L n (l + 1) o p with
      | none => rw [h1] at e; cases e
      | some r1 =>
        rw [h1] at e
        by_cases c1 : r1.1 = true
        · simp only [c1, if_true] at e
          cases h2 : rst (pLv L n (l + 1) o) L l (if l = 2 then 1 else 120) r1.2.1 with
          | none => rw [h2] at e; cases e
          | some r2 =>
            rw [h2] at e
            cases e
            rcases List.mem_append.mp hs with h | h
            · exact pLv_v n (l + 1) o p r1 h1 s h
            · exact rst_v c4 (fun p r hr => pLv_v n (l + 1) o p r hr) _ r1.2.1 r2 h2 s h
        · simp only [c1, if_false] at e
          cases e
          exact pLv_v n (l + 1) o p _ h1 s hs
    · rw [if_neg c4] at e
      by_cases c5 : l = 5
      · rw [if_pos c5] at e
        exact pLv_v n 6 o p r e s hs
      · rw [if_neg c5] at e
        by_cases cd : dgt (L p)
        · rw [if_pos cd] at e
          by_cases c2 : dgt (L (dgs L 4 p 0).1)
          · rw [if_pos c2] at e; cases e; cases hs
          · rw [if_neg c2] at e
            cases e
            have hv := dgs_val (L := L) 4 p 0
            rw [List.mem_singleton.mp hs]
            exact Or.inl ⟨rfl, by show (dgs L 4 p 0).2 < 10000; omega⟩
        · rw [if_neg cd] at e
          by_cases cn : nmo (L p) ≤ 5
          · rw [if_pos cn] at e
            cases e
            rw [List.mem_singleton.mp hs]
            exact Or.inr (Or.inl ⟨rfl, cn⟩)
          · rw [if_neg cn] at e
            by_cases cu : (L p = 40 ∨ L p = 33 ∨ L p = 45) ∧ o < 6
            · rw [if_pos cu] at e
              by_cases c40 : L p = 40
              · rw [if_pos c40] at e
                cases h1 : pLv L n 0 (o + 1) (p + 1) with
                | none => rw [h1] at e; cases e
                | some r1 =>
                  rw [h1] at e
                  by_cases c1 : r1.1 = true
                  · simp only [c1, if_true] at e
                    by_cases c41 : L r1.2.1 = 41
                    · rw [if_pos c41] at e; cases e; exact pLv_v n 0 (o + 1) (p + 1) r1 h1 s hs
                    · rw [if_neg c41] at e; cases e; cases hs
                  · simp only [c1, if_false] at e
                    cases e
                    exact pLv_v n 0 (o + 1) (p + 1) _ h1 s hs
              · rw [if_neg c40] at e
                cases h1 : pLv L n 6 (o + 1) (p + 1) with
                | none => rw [h1] at e; cases e
                | some r1 =>
                  rw [h1] at e
                  by_cases c1 : r1.1 = true
                  · simp only [c1, if_true] at e
                    cases e
                    rcases List.mem_append.mp hs with h | h
                    · exact pLv_v n 6 (o + 1) (p + 1) r1 h1 s h
                    · rw [List.mem_singleton.mp h]
                      by_cases c33 : L p = 33
                      · rw [if_pos c33]
                        exact Or.inr (Or.inr (Or.inl ⟨rfl, rfl⟩))
                      · rw [if_neg c33]
                        exact Or.inr (Or.inr (Or.inr (Or.inl ⟨rfl, rfl⟩)))
                  · simp only [c1, if_false] at e
                    cases e
                    exact pLv_v n 6 (o + 1) (p + 1) _ h1 s hs
            · rw [if_neg cu] at e; cases e; cases hs
