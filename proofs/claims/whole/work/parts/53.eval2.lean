/-! THE LAW: what is read pushes one value -/
theorem pLv_run (J : Nat → Int32 → Int32 → Int32) (U : Nat → Int32 → Int32) (F : Nat → Int32) {L : Nat → Nat} : ∀ (n l o p : Nat) (r : PR), pLv L n l o p = some r → r.1 = true → ∃ v, ∀ st, runs J U F r.2.2 st = some (v :: st)
  | 0, _, _, _, _, e, _ => by unfold pLv at e; cases e
  | n + 1, l, o, p, r, e, hr => by
    unfold pLv at e
    by_cases c4 : l ≤ 4
    · rw [if_pos c4] at e
      cases h1 : pLv L n (l + 1) o p with
      | none => rw [h1] at e; cases e
      | some r1 =>
        rw [h1] at e
        by_cases c1 : r1.1 = true
        · simp only [c1, if_true] at e
          cases h2 : rst (pLv L n (l + 1) o) L l (if l = 2 then 1 else 120) r1.2.1 with
          | none => rw [h2] at e; cases e
          | some r2 =>
            rw [h2] at e
            cases e
            obtain ⟨v1, hv1⟩ := pLv_run J U F n (l + 1) o p r1 h1 c1
            obtain ⟨v2, hv2⟩ := rst_run J U F c4 (fun p r z1 z2 => pLv_run J U F n (l + 1) o p r z1 z2) _ r1.2.1 r2 h2 hr v1
            refine ⟨v2, fun st => ?_⟩
            show runs J U F (r1.2.2 ++ r2.2.2) st = _
            rw [runs_app, hv1]
            exact hv2 st
        · simp only [c1, if_false] at e
          cases e
          exact absurd hr c1
    · rw [if_neg c4] at e
      by_cases c5 : l = 5
      · rw [if_pos c5] at e
        exact pLv_run J U F n 6 o p r e hr
      · rw [if_neg c5] at e
        by_cases cd : dgt (L p)
        · rw [if_pos cd] at e
          by_cases c2 : dgt (L (dgs L 4 p 0).1)
          · rw [if_pos c2] at e; cases e; cases hr
          · rw [if_neg c2] at e
            cases e
            exact ⟨nI (dgs L 4 p 0).2, fun _ => rfl⟩
        · rw [if_neg cd] at e
          by_cases cn : nmo (L p) ≤ 5
          · rw [if_pos cn] at e
            cases e
            exact ⟨F (nmo (L p)), fun _ => rfl⟩
          · rw [if_neg cn] at e
            by_cases cu : (L p = 40 ∨ L p = 33 ∨ L p = 45) ∧ o < 6
            · rw [if_pos cu] at e
              by_cases c40 : L p = 40
              · rw [if_pos c40] at e
                cases h1 : pLv L n 0 (o + 1) (p + 1) with
                | none => rw [h1] at e; cases e
                | some r1 =>
                  rw [h1] at e
                  by_cases c1 : r1.1 = true
                  · simp only [c1, if_true] at e
                    by_cases c41 : L r1.2.1 = 41
                    · rw [if_pos c41] at e; cases e; exact pLv_run J U F n 0 (o + 1) (p + 1) r1 h1 c1
                    · rw [if_neg c41] at e; cases e; cases hr
                  · simp only [c1, if_false] at e
                    cases e
                    exact absurd hr c1
              · rw [if_neg c40] at e
                cases h1 : pLv L n 6 (o + 1) (p + 1) with
                | none => rw [h1] at e; cases e
                | some r1 =>
                  rw [h1] at e
                  by_cases c1 : r1.1 = true
                  · simp only [c1, if_true] at e
                    cases e
                    obtain ⟨v1, hv1⟩ := pLv_run J U F n 6 (o + 1) (p + 1) r1 h1 c1
                    refine ⟨U (if L p = 33 then 33 else 126) v1, fun st => ?_⟩
                    show runs J U F (r1.2.2 ++ [(if L p = 33 then 33 else 126, 0)]) st = _
                    rw [runs_app, hv1]
                    by_cases c33 : L p = 33
                    · rw [if_pos c33]; rfl
                    · rw [if_neg c33]; rfl
                  · simp only [c1, if_false] at e
                    cases e
                    exact absurd hr c1
            · rw [if_neg cu] at e; cases e; cases hr
