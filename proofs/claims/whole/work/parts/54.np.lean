/-! THE LAW: how many values are pushed -/
def np : List (Nat × Nat) → Nat
  | [] => 0
  | s :: ss => (if s.1 = 35 ∨ s.1 = 36 then 1 else 0) + np ss
theorem np_app : ∀ a b : List (Nat × Nat), np (a ++ b) = np a + np b
  | [], b => by show np b = 0 + np b; omega
  | s :: a, b => by
    show _ + np (a ++ b) = (_ + np a) + np b
    rw [np_app a b]
    omega
theorem lvo_np {c l : Nat} (hl : l ≤ 4) (h : lvo c = l) : ¬ (c = 35 ∨ c = 36) := by
  intro z
  unfold lvo at h
  rcases z with z | z
  · subst z; simp at h; omega
  · subst z; simp at h; omega
theorem np_bin {c l : Nat} (hl : l ≤ 4) (h : lvo c = l) (ss : List (Nat × Nat)) : np ((c, 0) :: ss) = np ss := by
  show (if c = 35 ∨ c = 36 then 1 else 0) + np ss = np ss
  rw [if_neg (lvo_np hl h)]
  omega
theorem rst_np {q : Nat → Option PR} {L : Nat → Nat} {l : Nat} (hl : l ≤ 4) (hq : ∀ p r, q p = some r → r.1 = true → p ≤ r.2.1 ∧ 2 * np r.2.2 ≤ r.2.1 - p + 1) : ∀ (m p : Nat) (r : PR), rst q L l m p = some r → r.1 = true → p ≤ r.2.1 ∧ 2 * np r.2.2 ≤ r.2.1 - p
  | 0, p, r, e, _ => by
    unfold rst at e
    cases e
    exact ⟨Nat.le_refl _, by show 2 * 0 ≤ _; omega⟩
  | m + 1, p, r, e, hr => by
    unfold rst at e
    by_cases c : lvo (L p) = l
    · rw [if_pos c] at e
      cases h1 : q (p + 1) with
      | none => rw [h1] at e; cases e
      | some r1 =>
        rw [h1] at e
        by_cases c1 : r1.1 = true
        · simp only [c1, if_true] at e
          cases h2 : rst q L l m r1.2.1 with
          | none => rw [h2] at e; cases e
          | some r2 =>
            rw [h2] at e
            cases e
            obtain ⟨a1, a2⟩ := hq (p + 1) r1 h1 c1
            obtain ⟨b1, b2⟩ := rst_np hl hq m r1.2.1 r2 h2 hr
            show p ≤ r2.2.1 ∧ 2 * np (r1.2.2 ++ (L p, 0) :: r2.2.2) ≤ r2.2.1 - p
            rw [np_app, np_bin hl c]
            exact ⟨by omega, by omega⟩
        · simp only [c1, if_false] at e
          cases e
          exact absurd hr c1
    · rw [if_neg c] at e
      cases e
      exact ⟨Nat.le_refl _, by show 2 * 0 ≤ _; omega⟩
theorem dgs_ge {L : Nat → Nat} : ∀ (m p v : Nat), p ≤ (dgs L m p v).1
  | 0, p, v => Nat.le_refl _
  | m + 1, p, v => by
    unfold dgs
    by_cases c : dgt (L p)
    · rw [if_pos c]
      have := dgs_ge (L := L) m (p + 1) (10 * v + (L p - 48))
      omega
    · rw [if_neg c]
      exact Nat.le_refl _
theorem pLv_np {L : Nat → Nat} : ∀ (n l o p : Nat) (r : PR), pLv L n l o p = some r → r.1 = true → p ≤ r.2.1 ∧ 2 * np r.2.2 ≤ r.2.1 - p + 1
  | 0, _, _, _, _, e, _ => by unfold pLv at e; cases e
  | n + 1, l, o, p, r, e, hr => by
    unfold pLv at e
    by_cases c4 : l ≤ 4
    · rw [if_pos c4] at e
      cases h1 : pLv L n (l + 1) o p with
      | none => rw [h1] at e; cases e
      | some r1 =>
        rw [h1] at e
        by_cases c1 : r1.1 = true
        · simp only [c1, if_true] at e
          cases h2 : rst (pLv L n (l + 1) o) L l (if l = 2 then 1 else 120) r1.2.1 with
          | none => rw [h2] at e; cases e
          | some r2 =>
            rw [h2] at e
            cases e
            obtain ⟨a1, a2⟩ := pLv_np n (l + 1) o p r1 h1 c1
            obtain ⟨b1, b2⟩ := rst_np c4 (fun p r hr h => pLv_np n (l + 1) o p r hr h) _ r1.2.1 r2 h2 hr
            show p ≤ r2.2.1 ∧ 2 * np (r1.2.2 ++ r2.2.2) ≤ r2.2.1 - p + 1
            rw [np_app]
            exact ⟨by omega, by omega⟩
        · simp only [c1, if_false] at e
          cases e
          exact absurd hr c1
    · rw [if_neg c4] at e
      by_cases c5 : l = 5
      · rw [if_pos c5] at e
        exact pLv_np n 6 o p r e hr
      · rw [if_neg c5] at e
        by_cases cd : dgt (L p)
        · rw [if_pos cd] at e
          by_cases c2 : dgt (L (dgs L 4 p 0).1)
          · rw [if_pos c2] at e; cases e; cases hr
          · rw [if_neg c2] at e
            cases e
            have e4 : dgs L 4 p 0 = dgs L 3 (p + 1) (10 * 0 + (L p - 48)) := by
              show (if dgt (L p) then _ else _) = _
              rw [if_pos cd]
            have := dgs_ge (L := L) 3 (p + 1) (10 * 0 + (L p - 48))
            rw [← e4] at this
            show p ≤ (dgs L 4 p 0).1 ∧ 2 * 1 ≤ (dgs L 4 p 0).1 - p + 1
            exact ⟨by omega, by omega⟩
        · rw [if_neg cd] at e
          by_cases cn : nmo (L p) ≤ 5
          · rw [if_pos cn] at e
            cases e
            show p ≤ p + 1 ∧ 2 * 1 ≤ p + 1 - p + 1
            exact ⟨by omega, by omega⟩
          · rw [if_neg cn] at e
            by_cases cu : (L p = 40 ∨ L p = 33 ∨ L p = 45) ∧ o < 6
            · rw [if_pos cu] at e
              by_cases c40 : L p = 40
              · rw [if_pos c40] at e
                cases h1 : pLv L n 0 (o + 1) (p + 1) with
                | none => rw [h1] at e; cases e
                | some r1 =>
                  rw [h1] at e
                  by_cases c1 : r1.1 = true
                  · simp only [c1, if_true] at e
                    obtain ⟨a1, a2⟩ := pLv_np n 0 (o + 1) (p + 1) r1 h1 c1
                    by_cases c41 : L r1.2.1 = 41
                    · rw [if_pos c41] at e
                      cases e
                      show p ≤ r1.2.1 + 1 ∧ 2 * np r1.2.2 ≤ r1.2.1 + 1 - p + 1
                      exact ⟨by omega, by omega⟩
                    · rw [if_neg c41] at e; cases e; cases hr
                  · simp only [c1, if_false] at e
                    cases e
                    exact absurd hr c1
              · rw [if_neg c40] at e
                cases h1 : pLv L n 6 (o + 1) (p + 1) with
                | none => rw [h1] at e; cases e
                | some r1 =>
                  rw [h1] at e
                  by_cases c1 : r1.1 = true
                  · simp only [c1, if_true] at e
                    obtain ⟨a1, a2⟩ := pLv_np n 6 (o + 1) (p + 1) r1 h1 c1
                    cases e
                    show p ≤ r1.2.1 ∧ 2 * np (r1.2.2 ++ [(if L p = 33 then 33 else 126, 0)]) ≤ r1.2.1 - p + 1
                    rw [np_app]
                    have z : np [((if L p = 33 then 33 else 126 : Nat), (0 : Nat))] = 0 := by
                      by_cases c33 : L p = 33
                      · rw [if_pos c33]; rfl
                      · rw [if_neg c33]; rfl
                    rw [z]
                    exact ⟨by omega, by omega⟩
                  · simp only [c1, if_false] at e
                    cases e
                    exact absurd hr c1
            · rw [if_neg cu] at e; cases e; cases hr
/-- a block of steps that pushes one value, and not too high -/
def okB (ss : List (Nat × Nat)) : Prop := np ss ≤ 61 ∧ (∀ s, s ∈ ss → vstep s) ∧ ∀ J U F, ∃ v, ∀ st, runs J U F ss st = some (v :: st)
def okN (l : LN) : Prop := (l.1 = [] ∨ okB l.1) ∧ okB l.2
theorem pLv_okB {L : Nat → Nat} {tp p : Nat} {r : PR} (hL : ∀ p, tp ≤ p → L p = 999) (ht : tp ≤ 120) (hp : p ≤ tp) (e : pLv L 80 0 0 p = some r) (hr : r.1 = true) : okB r.2.2 := by
  obtain ⟨a1, a2⟩ := pLv_np 80 0 0 p r e hr
  obtain ⟨b1, b2, b3⟩ := pLv_pos hL 80 0 0 p r hp e
  exact ⟨by omega, pLv_v 80 0 0 p r e, fun J U F => pLv_run J U F 80 0 0 p r e hr⟩
theorem pLn_ok {L : Nat → Nat} {tp p : Nat} (hL : ∀ p, tp ≤ p → L p = 999) (ht : tp ≤ 120) (hp : p ≤ tp) (h : (pLn L p).1 = true) : okN (pLn L p).2.2 := by
  obtain ⟨r, hr⟩ := pLv_tot (L := L) 80 0 0 p (by omega) (by omega) (by omega)
  obtain ⟨b1, b2, b3⟩ := pLv_pos hL 80 0 0 p r hp hr
  unfold pLn at h ⊢
  rw [hr] at h ⊢
  by_cases c1 : r.1 = true
  · have k1 := pLv_okB hL ht hp hr c1
    simp only [c1, if_true] at h ⊢
    by_cases c63 : L r.2.1 = 63
    · have hp' : r.2.1 < tp := by
        rcases Nat.lt_or_ge r.2.1 tp with y | y
        · exact y
        · rw [hL _ y] at c63; omega
      obtain ⟨s, hs⟩ := pLv_tot (L := L) 80 0 0 (r.2.1 + 1) (by omega) (by omega) (by omega)
      rw [if_pos c63, hs] at h ⊢
      by_cases c2 : s.1 = true
      · simp only [c2, if_true]
        exact ⟨Or.inr k1, pLv_okB hL ht hp' hs c2⟩
      · have c2' : s.1 = false := by cases h : s.1 with
          | false => rfl
          | true => exact absurd h c2
        simp only [c2', Bool.false_eq_true, if_false] at h
    · rw [if_neg c63]
      exact ⟨Or.inl rfl, k1⟩
  · have c1' : r.1 = false := by cases h : r.1 with
      | false => rfl
      | true => exact absurd h c1
    simp only [c1', Bool.false_eq_true, if_false] at h
theorem pLs_ok {L : Nat → Nat} {tp : Nat} (hL : ∀ p, tp ≤ p → L p = 999) (ht : tp ≤ 120) : ∀ (n p : Nat), p ≤ tp → (pLs L tp n p).1 = true → ¬ (pLs L tp n p).2.2 = [] ∧ ∀ l, l ∈ (pLs L tp n p).2.2 → okN l
  | 0, _, _, h => by unfold pLs at h; cases h
  | n + 1, p, hp, h => by
    have hn := pLn_ok (p := p) hL ht hp
    obtain ⟨b1, b2, b3⟩ := pLn_pos hL hp
    unfold pLs at h ⊢
    generalize pLn L p = A at h hn b1 b2 b3 ⊢
    by_cases c1 : A.1 = true
    · rw [if_pos c1] at h ⊢
      by_cases c59 : L A.2.1 = 59
      · rw [if_pos c59] at h ⊢
        have hp' : A.2.1 < tp := by
          rcases Nat.lt_or_ge A.2.1 tp with y | y
          · exact y
          · rw [hL _ y] at c59; omega
        obtain ⟨i1, i2⟩ := pLs_ok hL ht n (A.2.1 + 1) hp' h
        refine ⟨List.cons_ne_nil _ _, fun l hl => ?_⟩
        rcases List.mem_cons.mp hl with z | z
        · rw [z]; exact hn c1
        · exact i2 l z
      · rw [if_neg c59] at h ⊢
        by_cases ct : A.2.1 = tp
        · rw [if_pos ct]
          refine ⟨List.cons_ne_nil _ _, fun l hl => ?_⟩
          rw [List.mem_singleton.mp hl]
          exact hn c1
        · rw [if_neg ct] at h; cases h
    · rw [if_neg c1] at h; cases h
