/-! THE LAW: the text, read by one pure reader; the class reads as it does -/
abbrev PR : Type := Bool × Nat × List (Nat × Nat)
def nmo (c : Nat) : Nat := if c = 115 then 0 else if c = 116 then 1 else if c = 108 then 2 else if c = 104 then 3 else if c = 110 then 4 else if c = 107 then 5 else 9
def lvo (c : Nat) : Nat := if c = 124 then 0 else if c = 38 then 1 else if c = 60 ∨ c = 61 ∨ c = 62 then 2 else if c = 43 ∨ c = 45 then 3 else if c = 42 ∨ c = 47 ∨ c = 37 then 4 else 9
abbrev dgt (c : Nat) : Prop := 48 ≤ c ∧ c ≤ 57
def dgs (L : Nat → Nat) : Nat → Nat → Nat → Nat × Nat
  | 0, p, v => (p, v)
  | m + 1, p, v => if dgt (L p) then dgs L m (p + 1) (10 * v + (L p - 48)) else (p, v)
def rst (q : Nat → Option PR) (L : Nat → Nat) (l : Nat) : Nat → Nat → Option PR
  | 0, p => some (true, p, [])
  | m + 1, p => if lvo (L p) = l then (match q (p + 1) with
    | none => none
    | some r => if r.1 = true then (match rst q L l m r.2.1 with
      | none => none
      | some s => some (s.1, s.2.1, r.2.2 ++ (L p, 0) :: s.2.2)) else some r) else some (true, p, [])
def pLv (L : Nat → Nat) : Nat → Nat → Nat → Nat → Option PR
  | 0, _, _, _ => none
  | f + 1, l, o, p =>
    if l ≤ 4 then (match pLv L f (l + 1) o p with
      | none => none
      | some r => if r.1 = true then (match rst (pLv L f (l + 1) o) L l (if l = 2 then 1 else 120) r.2.1 with
        | none => none
        | some s => some (s.1, s.2.1, r.2.2 ++ s.2.2)) else some r)
    else if l = 5 then pLv L f 6 o p
    else if dgt (L p) then (if dgt (L (dgs L 4 p 0).1) then some (false, (dgs L 4 p 0).1, []) else some (true, (dgs L 4 p 0).1, [(35, (dgs L 4 p 0).2)]))
    else if nmo (L p) ≤ 5 then some (true, p + 1, [(36, nmo (L p))])
    else if (L p = 40 ∨ L p = 33 ∨ L p = 45) ∧ o < 6 then
      (if L p = 40 then (match pLv L f 0 (o + 1) (p + 1) with
        | none => none
        | some r => if r.1 = true then (if L r.2.1 = 41 then some (true, r.2.1 + 1, r.2.2) else some (false, r.2.1, [])) else some r)
      else (match pLv L f 6 (o + 1) (p + 1) with
        | none => none
        | some r => if r.1 = true then some (true, r.2.1, r.2.2 ++ [(if L p = 33 then 33 else 126, 0)]) else some r))
    else some (false, p, [])
def LT (t : Nat → Nat) (tp p : Nat) : Nat := if p < tp then t p else 999
/-- where the reader may stand, how much it wrote -/
def posOK (tp p : Nat) (r : PR) : Prop := p ≤ r.2.1 ∧ r.2.1 ≤ tp ∧ (r.1 = true → p < r.2.1 ∧ r.2.2.length ≤ r.2.1 - p)
theorem dgs_pos {L : Nat → Nat} {tp : Nat} (hL : ∀ p, tp ≤ p → L p = 999) : ∀ (m p v : Nat), p ≤ tp → p ≤ (dgs L m p v).1 ∧ (dgs L m p v).1 ≤ tp ∧ (dgs L m p v).1 ≤ p + m
  | 0, p, v, h => ⟨Nat.le_refl _, h, by simp [dgs]⟩
  | m + 1, p, v, h => by
    unfold dgs
    by_cases c : dgt (L p)
    · rw [if_pos c]
      have hp : p < tp := by
        rcases Nat.lt_or_ge p tp with q | q
        · exact q
        · have := hL p q; omega
      obtain ⟨a1, a2, a3⟩ := dgs_pos hL m (p + 1) (10 * v + (L p - 48)) (by omega)
      exact ⟨by omega, a2, by omega⟩
    · rw [if_neg c]
      exact ⟨Nat.le_refl _, h, by omega⟩
theorem dgs_val {L : Nat → Nat} : ∀ (m p v : Nat), (dgs L m p v).2 < (v + 1) * 10 ^ m
  | 0, p, v => by simp [dgs]
  | m + 1, p, v => by
    unfold dgs
    by_cases c : dgt (L p)
    · rw [if_pos c]
      have h := dgs_val (L := L) m (p + 1) (10 * v + (L p - 48))
      have h2 : (10 * v + (L p - 48) + 1) * 10 ^ m ≤ ((v + 1) * 10) * 10 ^ m := Nat.mul_le_mul_right _ (by omega)
      have h3 : (v + 1) * 10 ^ (m + 1) = ((v + 1) * 10) * 10 ^ m := by rw [Nat.pow_succ]; rw [Nat.mul_assoc, Nat.mul_comm (10 ^ m) 10]
      omega
    · rw [if_neg c]
      have h1 : 1 ≤ 10 ^ (m + 1) := Nat.le_trans Nat.one_le_two_pow (Nat.pow_le_pow_left (by omega) _)
      have : (v + 1) * 1 ≤ (v + 1) * 10 ^ (m + 1) := Nat.mul_le_mul_left _ h1
      show v < _
      omega
theorem rst_pos {L : Nat → Nat} {tp l : Nat} {q : Nat → Option PR} (hL : ∀ p, tp ≤ p → L p = 999) (hl : l ≤ 4) (hq : ∀ p r, p ≤ tp → q p = some r → posOK tp p r) : ∀ (m p : Nat) (r : PR), p ≤ tp → rst q L l m p = some r → p ≤ r.2.1 ∧ r.2.1 ≤ tp ∧ (r.1 = true → r.2.2.length ≤ r.2.1 - p)
  | 0, p, r, h, e => by
    unfold rst at e
    cases e
    exact ⟨Nat.le_refl _, h, fun _ => by simp⟩
  | m + 1, p, r, h, e => by
    unfold rst at e
    by_cases c : lvo (L p) = l
    · rw [if_pos c] at e
      have hp : p < tp := by
        rcases Nat.lt_or_ge p tp with z | z
        · exact z
        · have := hL p z
          rw [this] at c
          have : lvo 999 = 9 := rfl
          omega
      cases h1 : q (p + 1) with
      | none => rw [h1] at e; cases e
      | some r1 =>
        rw [h1] at e
        obtain ⟨a1, a2, a3⟩ := hq (p + 1) r1 (by omega) h1
        by_cases c1 : r1.1 = true
        · simp only [c1, if_true] at e
          cases h2 : rst q L l m r1.2.1 with
          | none => rw [h2] at e; cases e
          | some s =>
            rw [h2] at e
            cases e
            obtain ⟨b1, b2, b3⟩ := rst_pos hL hl hq m r1.2.1 s a2 h2
            obtain ⟨a4, a5⟩ := a3 c1
            refine ⟨by show p ≤ s.2.1; omega, b2, fun hs => ?_⟩
            have := b3 hs
            simp only [List.length_append, List.length_cons]
            omega
        · simp only [c1, if_false] at e
          cases e
          exact ⟨by omega, a2, fun z => absurd z c1⟩
    · rw [if_neg c] at e
      cases e
      exact ⟨Nat.le_refl _, h, fun _ => by simp⟩
theorem pLv_pos {L : Nat → Nat} {tp : Nat} (hL : ∀ p, tp ≤ p → L p = 999) : ∀ (n l o p : Nat) (r : PR), p ≤ tp → pLv L n l o p = some r → posOK tp p r
  | 0, _, _, _, _, _, e => by unfold pLv at e; cases e
  | n + 1, l, o, p, r, h, e => by
    unfold pLv at e
    by_cases c4 : l ≤ 4
    · rw [if_pos c4] at e
      cases h1 : pLv L n (l + 1) o p with
      | none => rw [h1] at e; cases e
      | some r1 =>
        rw [h1] at e
        obtain ⟨a1, a2, a3⟩ := pLv_pos hL n (l + 1) o p r1 h h1
        by_cases c1 : r1.1 = true
        · simp only [c1, if_true] at e
          cases h2 : rst (pLv L n (l + 1) o) L l (if l = 2 then 1 else 120) r1.2.1 with
          | none => rw [h2] at e; cases e
          | some s =>
            rw [h2] at e
            cases e
            obtain ⟨b1, b2, b3⟩ := rst_pos hL c4 (fun p r hp hr => pLv_pos hL n (l + 1) o p r hp hr) _ r1.2.1 s a2 h2
            obtain ⟨a4, a5⟩ := a3 c1
            refine ⟨by show p ≤ s.2.1; omega, b2, fun hs => ?_⟩
            have := b3 hs
            simp only [List.length_append]
            omega
        · simp only [c1, if_false] at e
          cases e
          exact ⟨a1, a2, fun z => absurd z c1⟩
    · rw [if_neg c4] at e
      by_cases c5 : l = 5
      · rw [if_pos c5] at e
        exact pLv_pos hL n 6 o p r h e
      · rw [if_neg c5] at e
        have inside : L p ≠ 999 → p < tp := by
          intro z
          rcases Nat.lt_or_ge p tp with y | y
          · exact y
          · exact absurd (hL p y) z
        by_cases cd : dgt (L p)
        · rw [if_pos cd] at e
          obtain ⟨a1, a2, a3⟩ := dgs_pos hL 4 p 0 h
          have hp := inside (by omega)
          have h1 : p + 1 ≤ (dgs L 4 p 0).1 := by
            have e4 : dgs L 4 p 0 = dgs L 3 (p + 1) (10 * 0 + (L p - 48)) := by
              show (if dgt (L p) then _ else _) = _
              rw [if_pos cd]
            rw [e4]
            exact (dgs_pos hL 3 (p + 1) _ (by omega)).1
          by_cases c2 : dgt (L (dgs L 4 p 0).1)
          · rw [if_pos c2] at e
            cases e
            exact ⟨a1, a2, fun z => by cases z⟩
          · rw [if_neg c2] at e
            cases e
            exact ⟨a1, a2, fun _ => ⟨h1, by simp; omega⟩⟩
        · rw [if_neg cd] at e
          by_cases cn : nmo (L p) ≤ 5
          · rw [if_pos cn] at e
            have hp := inside (by intro z; rw [z] at cn; exact absurd cn (by decide))
            cases e
            exact ⟨by show p ≤ p + 1; omega, hp, fun _ => ⟨by show p < p + 1; omega, by show 1 ≤ p + 1 - p; omega⟩⟩
          · rw [if_neg cn] at e
            by_cases cu : (L p = 40 ∨ L p = 33 ∨ L p = 45) ∧ o < 6
            · rw [if_pos cu] at e
              have hp := inside (by omega)
              by_cases c40 : L p = 40
              · rw [if_pos c40] at e
                cases h1 : pLv L n 0 (o + 1) (p + 1) with
                | none => rw [h1] at e; cases e
                | some r1 =>
                  rw [h1] at e
                  obtain ⟨a1, a2, a3⟩ := pLv_pos hL n 0 (o + 1) (p + 1) r1 (by omega) h1
                  by_cases c1 : r1.1 = true
                  · simp only [c1, if_true] at e
                    obtain ⟨a4, a5⟩ := a3 c1
                    by_cases c41 : L r1.2.1 = 41
                    · rw [if_pos c41] at e
                      have : r1.2.1 < tp := by
                        rcases Nat.lt_or_ge r1.2.1 tp with y | y
                        · exact y
                        · rw [hL _ y] at c41; cases c41
                      cases e
                      exact ⟨by show p ≤ r1.2.1 + 1; omega, this, fun _ => ⟨by show p < r1.2.1 + 1; omega, by show r1.2.2.length ≤ r1.2.1 + 1 - p; omega⟩⟩
                    · rw [if_neg c41] at e
                      cases e
                      exact ⟨by show p ≤ r1.2.1; omega, a2, fun z => by cases z⟩
                  · simp only [c1, if_false] at e
                    cases e
                    exact ⟨by omega, a2, fun z => absurd z c1⟩
              · rw [if_neg c40] at e
                cases h1 : pLv L n 6 (o + 1) (p + 1) with
                | none => rw [h1] at e; cases e
                | some r1 =>
                  rw [h1] at e
                  obtain ⟨a1, a2, a3⟩ := pLv_pos hL n 6 (o + 1) (p + 1) r1 (by omega) h1
                  by_cases c1 : r1.1 = true
                  · simp only [c1, if_true] at e
                    obtain ⟨a4, a5⟩ := a3 c1
                    cases e
                    exact ⟨by show p ≤ r1.2.1; omega, a2, fun _ => ⟨by show p < r1.2.1; omega, by simp; omega⟩⟩
                  · simp only [c1, if_false] at e
                    cases e
                    exact ⟨by omega, a2, fun z => absurd z c1⟩
            · rw [if_neg cu] at e
              cases e
              exact ⟨Nat.le_refl _, h, fun z => by cases z⟩
