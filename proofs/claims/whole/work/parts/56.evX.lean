/-! THE LAW: worked out by the class's stack -/
theorem idiv1 (a : Int32) : a / (-1 : Int32) = -a := by
  apply Int32.toInt_inj.mp
  rw [Int32.toInt_div]
  show (a.toInt.tdiv (-1)).bmod _ = _
  rw [Int.tdiv_neg, Int.tdiv_one]
  exact (Int32.toInt_neg a).symm
theorem irem1 (a : Int32) : ire a (-1 : Int32) = 0 := by
  unfold ire
  rw [idiv1]
  have : -a * (-1 : Int32) = a := by
    rw [Int32.mul_neg, Int32.mul_one, Int32.neg_neg]
  rw [this, Int32.sub_self]
def jn (c : Nat) (a b : Int32) : Int32 := (f_X4_joined (nI c) a b).getD 0
def un (c : Nat) (x : Int32) : Int32 := if c = 33 then (if x = 0 then 1 else 0) else -x
theorem lvo_cs {c : Nat} (h : lvo c ≤ 4) : c = 124 ∨ c = 38 ∨ c = 60 ∨ c = 61 ∨ c = 62 ∨ c = 43 ∨ c = 45 ∨ c = 42 ∨ c = 47 ∨ c = 37 := by
  unfold lvo at h
  repeat' split at h
  all_goals omega
theorem J_both {c : Nat} (h : lvo c ≤ 4) (a b : Int32) : ∃ v, f_X4_joined (nI c) a b = some v ∧ f_X12_twoOf (nI c) a b = some v := by
  have hb1 : ∀ k : Option Int32, b = -1 → ¬ b = 0 := fun _ e z => by rw [e] at z; exact absurd z (by decide)
  rcases lvo_cs h with e | e | e | e | e | e | e | e | e | e
  · subst e
    rw [show nI 124 = (124 : Int32) from rfl]
    unfold f_X4_joined f_X12_twoOf f_X12_twoOf_b218
    rw [if_neg (by decide), if_neg (by decide), if_neg (by decide), if_neg (by decide), if_neg (by decide), if_neg (by decide), if_neg (by decide), if_neg (by decide), if_neg (by decide), if_pos rfl]
    rw [if_neg (show ¬ (124 : Int32) = 37 by decide), if_neg (show ¬ (124 : Int32) = 38 by decide), if_neg (show ¬ (124 : Int32) = 42 by decide), if_neg (show ¬ (124 : Int32) = 43 by decide), if_neg (show ¬ (124 : Int32) = 45 by decide), if_neg (show ¬ (124 : Int32) = 47 by decide), if_neg (show ¬ (124 : Int32) = 60 by decide), if_neg (show ¬ (124 : Int32) = 61 by decide), if_neg (show ¬ (124 : Int32) = 62 by decide)]
    by_cases ha : a = 0
    · rw [if_pos ha]
      by_cases hb : b = 0
      · rw [if_pos hb]; exact ⟨_, rfl, rfl⟩
      · rw [if_neg hb]; exact ⟨_, rfl, rfl⟩
    · rw [if_neg ha]; exact ⟨_, rfl, rfl⟩
  · subst e
    have e1 : f_X4_joined (nI 38) a b = if a = 0 then some 0 else if b = 0 then some 0 else some 1 := rfl
    have e2 : f_X12_twoOf (nI 38) a b = if a = 0 then some 0 else if b = 0 then some 0 else some 1 := rfl
    rw [e1, e2]
    by_cases ha : a = 0
    · rw [if_pos ha]; exact ⟨_, rfl, rfl⟩
    · rw [if_neg ha]
      by_cases hb : b = 0
      · rw [if_pos hb]; exact ⟨_, rfl, rfl⟩
      · rw [if_neg hb]; exact ⟨_, rfl, rfl⟩
  · subst e
    have e1 : f_X4_joined (nI 60) a b = if b ≤ a then some 0 else some 1 := rfl
    have e2 : f_X12_twoOf (nI 60) a b = if b ≤ a then some 0 else some 1 := rfl
    rw [e1, e2]
    by_cases ha : b ≤ a
    · rw [if_pos ha]; exact ⟨_, rfl, rfl⟩
    · rw [if_neg ha]; exact ⟨_, rfl, rfl⟩
  · subst e
    have e1 : f_X4_joined (nI 61) a b = if a = b then some 1 else some 0 := rfl
    have e2 : f_X12_twoOf (nI 61) a b = if a = b then some 1 else some 0 := rfl
    rw [e1, e2]
    by_cases ha : a = b
    · rw [if_pos ha]; exact ⟨_, rfl, rfl⟩
    · rw [if_neg ha]; exact ⟨_, rfl, rfl⟩
  · subst e
    have e1 : f_X4_joined (nI 62) a b = if a ≤ b then some 0 else some 1 := rfl
    have e2 : f_X12_twoOf (nI 62) a b = if a ≤ b then some 0 else some 1 := rfl
    rw [e1, e2]
    by_cases ha : a ≤ b
    · rw [if_pos ha]; exact ⟨_, rfl, rfl⟩
    · rw [if_neg ha]; exact ⟨_, rfl, rfl⟩
  · subst e; exact ⟨_, rfl, rfl⟩
  · subst e; exact ⟨_, rfl, rfl⟩
  · subst e; exact ⟨_, rfl, rfl⟩
  · subst e
    have e1 : f_X4_joined (nI 47) a b = if b = 0 then some 0 else dvI a b fun v2 => some v2 := rfl
    have e2 : f_X12_twoOf (nI 47) a b = if b = 0 then some 0 else if b = -1 then some (-a) else dvI a b fun v2 => some v2 := rfl
    rw [e1, e2]
    by_cases hb : b = 0
    · rw [if_pos hb, if_pos hb]; exact ⟨_, rfl, rfl⟩
    · rw [if_neg hb, if_neg hb, dvI_d hb]
      by_cases h1 : b = -1
      · rw [if_pos h1, h1, idiv1]; exact ⟨_, rfl, rfl⟩
      · rw [if_neg h1]; exact ⟨_, rfl, rfl⟩
  · subst e
    have e1 : f_X4_joined (nI 37) a b = if b = 0 then some 0 else rmI a b fun v2 => some v2 := rfl
    have e2 : f_X12_twoOf (nI 37) a b = if b = 0 then some 0 else if b = -1 then some 0 else rmI a b fun v2 => some v2 := rfl
    rw [e1, e2]
    by_cases hb : b = 0
    · rw [if_pos hb, if_pos hb]; exact ⟨_, rfl, rfl⟩
    · rw [if_neg hb, if_neg hb, rmI_d hb]
      by_cases h1 : b = -1
      · rw [if_pos h1, h1, irem1]; exact ⟨_, rfl, rfl⟩
      · rw [if_neg h1]; exact ⟨_, rfl, rfl⟩
theorem X_joined {c : Nat} (h : lvo c ≤ 4) (a b : Int32) : f_X4_joined (nI c) a b = some (jn c a b) := by
  obtain ⟨v, h1, _⟩ := J_both h a b
  unfold jn
  rw [h1]
  rfl
theorem M_twoOf {c : Nat} (h : lvo c ≤ 4) (a b : Int32) : f_X12_twoOf (nI c) a b = some (jn c a b) := by
  obtain ⟨v, h1, h2⟩ := J_both h a b
  unfold jn
  rw [h1, h2]
  rfl
def SX (st : List Int32) (w : Wd) : Prop := gi w 6 9 = nI st.length ∧ ∀ i, i < st.length → gi w 11 i = st.getD (st.length - 1 - i) 0
def sEX (c k : Nat) : Bool := c == 11 || (c == 6 && k == 9)
theorem X_push {st : List Int32} {w : Wd} (h : SX st w) (hl : st.length < 64) (v : Int32) : ∃ w', f_X4_push v w = some w' ∧ SX (v :: st) w' ∧ eqo sEX w w' := by
  obtain ⟨h1, h2⟩ := h
  unfold f_X4_push
  have n1 : ¬ (64 : Int32) ≤ gi w 6 9 := by rw [h1, show (64 : Int32) = nI 64 from rfl, nI_leI (by omega) (by omega)]; omega
  rw [if_neg n1, h1, saI_d (inb_nI hl (by omega)), stI_d, ix_nI (by omega)]
  have g1 : gi (si w 11 st.length v) 6 9 = nI st.length := by rw [gi_si, if_neg (by omega)]; exact h1
  rw [g1, nI_1]
  refine ⟨_, rfl, ⟨?_, fun i hi => ?_⟩, eqo_si (eqo_si (eqo_rf w) rfl) rfl⟩
  · rw [gi_si, if_pos ⟨rfl, rfl⟩]; rfl
  · rw [gi_si, if_neg (by omega), gi_si]
    have hi' : i < st.length + 1 := hi
    show (if 11 = 11 ∧ i = st.length then v else gi w 11 i) = (v :: st).getD (st.length + 1 - 1 - i) 0
    by_cases z : i = st.length
    · rw [if_pos ⟨rfl, z⟩, show st.length + 1 - 1 - i = 0 by omega]
      rfl
    · rw [if_neg (fun y => z y.2), h2 i (by omega), show st.length + 1 - 1 - i = (st.length - 1 - i) + 1 by omega]
      rfl
theorem X_pop {st : List Int32} {v : Int32} {w : Wd} (h : SX (v :: st) w) (hl : st.length < 64) : ∃ w', f_X4_pop w = some (v, w') ∧ SX st w' ∧ eqo sEX w w' := by
  obtain ⟨h1, h2⟩ := h
  have h1' : gi w 6 9 = nI (st.length + 1) := h1
  unfold f_X4_pop
  have n1 : ¬ gi w 6 9 = (0 : Int32) := by rw [h1', show (0 : Int32) = nI 0 from rfl, nI_eq (by omega) (by omega)]; omega
  rw [if_neg n1, h1', nI_pred, stI_d]
  have g1 : gi (si w 6 9 (nI st.length)) 6 9 = nI st.length := by rw [gi_si, if_pos ⟨rfl, rfl⟩]
  rw [g1, ldI_d (inb_nI hl (by omega)), ix_nI (by omega), gi_si, if_neg (by omega)]
  have h3 := h2 st.length (by show st.length < st.length + 1; omega)
  have e0 : (v :: st).length - 1 - st.length = 0 := by show st.length + 1 - 1 - st.length = 0; omega
  rw [e0] at h3
  rw [h3]
  refine ⟨_, rfl, ⟨g1, fun i hi => ?_⟩, eqo_si (eqo_rf w) rfl⟩
  rw [gi_si, if_neg (by omega), h2 i (by show i < st.length + 1; omega)]
  have e1 : (v :: st).length - 1 - i = (st.length - 1 - i) + 1 := by show st.length + 1 - 1 - i = _; omega
  rw [e1]
  rfl
theorem X_step {F : Nat → Int32} {s : Nat × Nat} {st st' : List Int32} {w : Wd} (hF : ∀ i, i < 6 → gi w 10 i = F i) (hv : vstep s) (hS : SX st w) (hl : st.length + np [s] ≤ 64) (e : stp jn un F s st = some st') : ∃ w', f_X4_run (nI s.1) (nI s.2) w = some w' ∧ SX st' w' ∧ eqo sEX w w' := by
  unfold f_X4_run
  unfold stp at e
  have hnp : np [s] = if s.1 = 35 ∨ s.1 = 36 then 1 else 0 := rfl
  rw [hnp] at hl
  by_cases c35 : s.1 = 35
  · rw [if_pos c35] at e
    rw [if_pos (Or.inl c35)] at hl
    cases e
    obtain ⟨w', p1, p2, p3⟩ := X_push hS (by omega) (nI s.2)
    rw [c35, if_pos (show nI 35 = (35 : Int32) from rfl), p1, bV_s]
    exact ⟨w', rfl, p2, p3⟩
  rw [if_neg c35] at e
  by_cases c36 : s.1 = 36
  · rw [if_pos c36] at e
    rw [if_pos (Or.inr c36)] at hl
    cases e
    have h5 : s.2 ≤ 5 := by
      rcases hv with h | h | h | h | h
      · omega
      · exact h.2
      · omega
      · omega
      · have := h.1; rw [c36] at this; exact absurd this (by decide)
    obtain ⟨w', p1, p2, p3⟩ := X_push hS (by omega) (F s.2)
    have n6 : ¬ (6 : Int32) ≤ nI s.2 := by rw [show (6 : Int32) = nI 6 from rfl, nI_leI (by omega) (by omega)]; omega
    rw [c36, if_neg (show ¬ nI 36 = (35 : Int32) by decide), if_pos (show nI 36 = (36 : Int32) from rfl), if_neg n6, ldI_d (inb_nI (by omega) (by omega)), ix_nI (by omega), hF _ (by omega)]
    unfold f_X4_run_b40
    rw [p1, bV_s]
    exact ⟨w', rfl, p2, p3⟩
  rw [if_neg c36] at e
  by_cases c33 : s.1 = 33
  · rw [if_pos (Or.inl c33)] at e
    cases st with
    | nil => cases e
    | cons x r =>
      cases e
      have hl' : r.length + 1 ≤ 64 := by
        have : (x :: r).length = r.length + 1 := rfl
        omega
      obtain ⟨w1, p1, p2, p3⟩ := X_pop hS (by omega)
      obtain ⟨w2, q1, q2, q3⟩ := X_push p2 (by omega) (un 33 x)
      rw [c33, if_neg (show ¬ nI 33 = (35 : Int32) by decide), if_neg (show ¬ nI 33 = (36 : Int32) by decide), if_neg (show ¬ nI 33 = (126 : Int32) by decide), if_pos (show nI 33 = (33 : Int32) from rfl), p1, bW_s]
      unfold f_X4_run_b83
      have hu : un 33 x = if x = 0 then 1 else 0 := rfl
      rw [hu] at q1
      by_cases hx : x = 0
      · rw [if_pos hx] at q1 ⊢
        rw [q1, bV_s]
        exact ⟨w2, rfl, q2, eqo_tr p3 q3⟩
      · rw [if_neg hx] at q1 ⊢
        rw [q1, bV_s]
        exact ⟨w2, rfl, q2, eqo_tr p3 q3⟩
  by_cases c126 : s.1 = 126
  · rw [if_pos (Or.inr c126)] at e
    cases st with
    | nil => cases e
    | cons x r =>
      cases e
      have hl' : r.length + 1 ≤ 64 := by
        have : (x :: r).length = r.length + 1 := rfl
        omega
      obtain ⟨w1, p1, p2, p3⟩ := X_pop hS (by omega)
      obtain ⟨w2, q1, q2, q3⟩ := X_push p2 (by omega) (un 126 x)
      rw [c126, if_neg (show ¬ nI 126 = (35 : Int32) by decide), if_neg (show ¬ nI 126 = (36 : Int32) by decide), if_pos (show nI 126 = (126 : Int32) from rfl), p1, bW_s]
      have hu : un 126 x = -x := rfl
      rw [hu] at q1
      rw [q1, bV_s]
      exact ⟨w2, rfl, q2, eqo_tr p3 q3⟩
  rw [if_neg (by omega)] at e
  have hlv : lvo s.1 ≤ 4 := by
    rcases hv with h | h | h | h | h
    · omega
    · omega
    · omega
    · omega
    · exact h.1
  have hlt : s.1 < 128 := (lvo_am hlv rfl).2
  match st, e with
  | y :: x :: r, e =>
    cases e
    have hl' : r.length + 1 + 1 ≤ 64 := by
      have : (y :: x :: r).length = r.length + 1 + 1 := rfl
      omega
    obtain ⟨w1, p1, p2, p3⟩ := X_pop hS (by show r.length + 1 < 64; omega)
    obtain ⟨w2, q1, q2, q3⟩ := X_pop p2 (by omega)
    obtain ⟨w3, r1, r2, r3⟩ := X_push q2 (by omega) (jn s.1 x y)
    have k : ∀ (v : Int32) (d : Nat), v = nI d → d < 256 → s.1 ≠ d → ¬ nI s.1 = v := fun v d hv hd hne y => hne ((nI_eq (by omega) (by omega)).mp (y.trans hv))
    rw [if_neg (k 35 35 rfl (by omega) c35), if_neg (k 36 36 rfl (by omega) c36), if_neg (k 126 126 rfl (by omega) c126), if_neg (k 33 33 rfl (by omega) c33), p1, bW_s, q1, bW_s, X_joined hlv, bR_s, r1, bV_s]
    exact ⟨w3, rfl, r2, eqo_tr p3 (eqo_tr q3 r3)⟩
/-- a block of steps, run by the class -/
theorem X_blk {F : Nat → Int32} {S : Nat} (hS127 : S ≤ 127) : ∀ (ss : List (Nat × Nat)) (n a i : Nat) (st st' : List Int32) (w : Wd), (∀ s, s ∈ ss → vstep s) → gi w 6 6 = nI S → a + ss.length ≤ S → i ≤ a → (∀ j, j < ss.length → gi w 9 (a + j) = eX (ss.getD j (0, 0))) → (∀ i, i < 6 → gi w 10 i = F i) → SX st w → st.length + np ss ≤ 64 → runs jn un F ss st = some st' →
    ∃ w', f_X4_workOut_b56 (n + ss.length) (nI a) (nI i) w = f_X4_workOut_b56 n (nI (a + ss.length)) (nI (i + ss.length)) w' ∧ SX st' w' ∧ eqo sEX w w'
  | [], n, a, i, st, st', w, _, _, _, _, _, _, hS, _, e => by
    cases e
    exact ⟨w, rfl, hS, eqo_rf w⟩
  | s :: ss, n, a, i, st, st', w, hv, h6, hS6, hi, h9, hF, hS, hl, e => by
    have e' : (stp jn un F s st).bind (runs jn un F ss) = some st' := e
    cases h1 : stp jn un F s st with
    | none => rw [h1] at e'; cases e'
    | some st1 =>
      rw [h1] at e'
      have hlen : (s :: ss).length = ss.length + 1 := rfl
      rw [hlen] at hS6 h9 ⊢
      have hnp : np (s :: ss) = np [s] + np ss := np_app [s] ss
      have hvs := hv s (List.mem_cons_self ..)
      obtain ⟨w1, p1, p2, p3⟩ := X_step hF hvs hS (by omega) h1
      have hst1 : st1.length + np ss ≤ 64 := by
        have : st1.length ≤ st.length + np [s] := by
          have hnp1 : np [s] = if s.1 = 35 ∨ s.1 = 36 then 1 else 0 := rfl
          unfold stp at h1
          by_cases c35 : s.1 = 35
          · rw [if_pos c35] at h1; cases h1; rw [hnp1, if_pos (Or.inl c35)]; exact Nat.le_refl _
          rw [if_neg c35] at h1
          by_cases c36 : s.1 = 36
          · rw [if_pos c36] at h1; cases h1; rw [hnp1, if_pos (Or.inr c36)]; exact Nat.le_refl _
          rw [if_neg c36] at h1
          by_cases cu : s.1 = 33 ∨ s.1 = 126
          · rw [if_pos cu] at h1
            cases st with
            | nil => cases h1
            | cons x r => cases h1; exact Nat.le_add_right _ _
          rw [if_neg cu] at h1
          match st, h1 with
          | y :: x :: r, h1 => cases h1; show r.length + 1 ≤ r.length + 1 + 1 + _; omega
        omega
      obtain ⟨w2, q1, q2, q3⟩ := X_blk hS127 ss n (a + 1) (i + 1) st1 st' w1 (fun s' h => hv s' (List.mem_cons_of_mem s h)) (by rw [(p3 6 6 rfl).1]; exact h6) (by omega) (by omega) (fun j hj => by
        rw [(p3 9 _ rfl).1, show a + 1 + j = a + (j + 1) by omega, h9 (j + 1) (by omega)]; rfl) (fun i hi => by rw [(p3 10 i rfl).1]; exact hF i hi) p2 hst1 e'
      refine ⟨w2, ?_, q2, eqo_tr p3 q3⟩
      have hs1 : s.1 < 128 ∧ s.2 < 10000 ∧ ¬ s.1 = 59 ∧ ¬ s.1 = 63 := by
        rcases hvs with h | h | h | h | h
        · omega
        · omega
        · omega
        · omega
        · have := lvo_cs h.1
          omega
      show f_X4_workOut_b56_y (f_X4_workOut_b56 (n + ss.length)) (nI a) (nI i) w = _
      unfold f_X4_workOut_b56_y
      have n1 : ¬ nI S ≤ nI i := by rw [nI_leI (by omega) (by omega)]; omega
      have n2 : ¬ nI S ≤ nI a := by rw [nI_leI (by omega) (by omega)]; omega
      have g9 : gi w 9 a = eX s := h9 0 (by omega)
      rw [h6, if_neg n1, if_neg n2, ldI_d (inb_nI (by omega) (by omega)), ix_nI (by omega), g9, lt_d, ldI_d (inb_nI (by omega) (by omega)), ix_nI (by omega), g9, lt_d]
      have er : ire (eX s) 256 = nI s.1 := by
        unfold ire eX
        rw [show (256 : Int32) = nI 256 from rfl, pk_rem (by omega) (by omega) (by omega)]
        exact congrArg nI (by omega)
      have ed : eX s / 256 = nI s.2 := by
        unfold eX
        rw [show (256 : Int32) = nI 256 from rfl, pk_div (by omega) (by omega) (by omega)]
        exact congrArg nI (by omega)
      have k : ∀ (v : Int32) (d : Nat), v = nI d → d < 256 → s.1 ≠ d → ¬ nI s.1 = v := fun v d hv hd hne y => hne ((nI_eq (by omega) (by omega)).mp (y.trans hv))
      rw [er, ed, if_neg (k 59 59 rfl (by omega) hs1.2.2.1), if_neg (k 63 63 rfl (by omega) hs1.2.2.2), p1, bV_s]
      unfold f_X4_workOut_b144
      rw [nI_1, nI_1, q1, show a + 1 + ss.length = a + (ss.length + 1) by omega, show i + 1 + ss.length = i + (ss.length + 1) by omega]
