/-! THE LAW: worked out on a list -/
section EV
variable (J : Nat → Int32 → Int32 → Int32) (U : Nat → Int32 → Int32) (F : Nat → Int32)
def stp (s : Nat × Nat) (st : List Int32) : Option (List Int32) :=
  if s.1 = 35 then some (nI s.2 :: st) else if s.1 = 36 then some (F s.2 :: st) else if s.1 = 33 ∨ s.1 = 126 then (match st with
    | x :: r => some (U s.1 x :: r)
    | [] => none) else (match st with
    | y :: x :: r => some (J s.1 x y :: r)
    | _ => none)
def runs : List (Nat × Nat) → List Int32 → Option (List Int32)
  | [], st => some st
  | s :: ss, st => (stp J U F s st).bind (runs ss)
theorem runs_app : ∀ (a b : List (Nat × Nat)) (st : List Int32), runs J U F (a ++ b) st = (runs J U F a st).bind (runs J U F b)
  | [], b, st => rfl
  | s :: a, b, st => by
    show (stp J U F s st).bind (runs J U F (a ++ b)) = ((stp J U F s st).bind (runs J U F a)).bind (runs J U F b)
    cases stp J U F s st with
    | none => rfl
    | some st' => exact runs_app a b st'
theorem stp_bin {c : Nat} (h : lvo c ≤ 4) (x y : Int32) (st : List Int32) : stp J U F (c, 0) (y :: x :: st) = some (J c x y :: st) := by
  have hc : c = 124 ∨ c = 38 ∨ c = 60 ∨ c = 61 ∨ c = 62 ∨ c = 43 ∨ c = 45 ∨ c = 42 ∨ c = 47 ∨ c = 37 := by
    unfold lvo at h
    repeat' split at h
    all_goals omega
  unfold stp
  show (if c = 35 then _ else if c = 36 then _ else if c = 33 ∨ c = 126 then _ else _) = _
  rw [if_neg (by omega), if_neg (by omega), if_neg (by omega)]
theorem rst_run {q : Nat → Option PR} {L : Nat → Nat} {l : Nat} (hl : l ≤ 4) (hq : ∀ p r, q p = some r → r.1 = true → ∃ v, ∀ st, runs J U F r.2.2 st = some (v :: st)) : ∀ (m p : Nat) (r : PR), rst q L l m p = some r → r.1 = true → ∀ v, ∃ v', ∀ st, runs J U F r.2.2 (v :: st) = some (v' :: st)
  | 0, p, r, e, _, v => by
    unfold rst at e
    cases e
    exact ⟨v, fun _ => rfl⟩
  | m + 1, p, r, e, hr, v => by
    unfold rst at e
    by_cases c : lvo (L p) = l
    · rw [if_pos c] at e
      cases h1 : q (p + 1) with
      | none => rw [h1] at e; cases e
      | some r1 =>
        rw [h1] at e
        by_cases c1 : r1.1 = true
        · simp only [c1, if_true] at e
          cases h2 : rst q L l m r1.2.1 with
          | none => rw [h2] at e; cases e
          | some r2 =>
            rw [h2] at e
            cases e
            obtain ⟨v1, hv1⟩ := hq (p + 1) r1 h1 c1
            obtain ⟨v2, hv2⟩ := rst_run hl hq m r1.2.1 r2 h2 hr (J (L p) v v1)
            refine ⟨v2, fun st => ?_⟩
            show runs J U F (r1.2.2 ++ (L p, 0) :: r2.2.2) (v :: st) = _
            rw [runs_app, hv1]
            show (stp J U F (L p, 0) (v1 :: v :: st)).bind (runs J U F r2.2.2) = _
            rw [stp_bin J U F (by omega)]
            exact hv2 st
        · simp only [c1, if_false] at e
          cases e
          exact absurd hr c1
    · rw [if_neg c] at e
      cases e
      exact ⟨v, fun _ => rfl⟩
end EV
