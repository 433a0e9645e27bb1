/-! THE LAW: the model's reader -/
def lm (c : Nat) : Int32 := if c = 999 then -1 else i2b (nI c)
theorem i2b_256 : ∀ c : Nat, c < 256 → (i2b (nI c)).toInt = (if c < 128 then (c : Int) else (c : Int) - 256) ∧ i2b (i2b (nI c)) = i2b (nI c) := by decide +kernel
theorem i2b_nI {c : Nat} (h : c < 128) : i2b (nI c) = nI c := by
  apply Int32.toInt_inj.mp
  rw [(i2b_256 c (by omega)).1, if_pos h, nI_toInt (by omega)]
theorem lm_t {c : Nat} (h : okc c) : (lm c).toInt = if c < 128 then (c : Int) else if c = 999 then (-1 : Int) else (c : Int) - 256 := by
  unfold lm
  by_cases e : c = 999
  · rw [if_pos e, if_neg (by omega), if_pos e]; rfl
  · rw [if_neg e, (i2b_256 c (by rcases h with q | q <;> omega)).1, if_neg e]
theorem lm_eq {c d : Nat} (h : okc c) (hd : d < 128) : (lm c = nI d) ↔ c = d := by
  have t := nI_toInt (n := d) (by omega)
  rw [← Int32.toInt_inj, lm_t h, t]
  have hc : c < 256 ∨ c = 999 := h
  repeat' split
  all_goals omega
theorem lm_is {c d : Nat} (h : okc c) (hd : d < 128) (v : Int32) (hv : v = nI d) : (lm c = v) ↔ c = d := by rw [hv]; exact lm_eq h hd
theorem lm_nI {c : Nat} (h : c < 128) : lm c = nI c := by
  unfold lm
  rw [if_neg (by omega), i2b_nI h]
theorem M_name {c : Nat} (h : okc c) : f_X12_nameOf (lm c) = some (if nmo c ≤ 5 then nI (nmo c) else -1) := by
  by_cases e115 : c = 115
  · subst e115; rfl
  by_cases e116 : c = 116
  · subst e116; rfl
  by_cases e108 : c = 108
  · subst e108; rfl
  by_cases e104 : c = 104
  · subst e104; rfl
  by_cases e110 : c = 110
  · subst e110; rfl
  by_cases e107 : c = 107
  · subst e107; rfl
  have k : ∀ (v : Int32) (d : Nat), v = nI d → d < 128 → c ≠ d → ¬ lm c = v := fun v d hv hd hne y => hne ((lm_is h hd v hv).mp y)
  unfold f_X12_nameOf
  rw [if_neg (k 104 104 rfl (by omega) e104), if_neg (k 107 107 rfl (by omega) e107), if_neg (k 108 108 rfl (by omega) e108), if_neg (k 110 110 rfl (by omega) e110), if_neg (k 115 115 rfl (by omega) e115), if_neg (k 116 116 rfl (by omega) e116)]
  have z : nmo c = 9 := by
    unfold nmo
    rw [if_neg e115, if_neg e116, if_neg e108, if_neg e104, if_neg e110, if_neg e107]
  rw [z]
  rfl
theorem M_digit {c : Nat} (h : okc c) : f_X12_in (lm c) 48 57 = some (b2i (dgt c)) := by
  rw [M_in, lm_t h, ti_48, ti_57]
  refine congrArg some (b2i_congr ?_)
  have hc : c < 256 ∨ c = 999 := h
  repeat' split
  all_goals omega
/-- the tape, for the model -/
def PM (t : Nat → Nat) (tp : Nat) (w : Wd) : Prop := tp ≤ 120 ∧ gi w 54 18 = nI tp ∧ ∀ i, i < tp → gi w 63 i = i2b (nI (t i)) ∧ t i < 256
def sLM (c k : Nat) : Bool := ((c == 64 || c == 65) && decide (130 ≤ k)) || (c == 54 && (k == 19 || k == 20 || k == 21 || k == 22))
theorem PM_eqo {t : Nat → Nat} {tp : Nat} {w w' : Wd} (h : PM t tp w) (he : eqo sLM w w') : PM t tp w' := by
  obtain ⟨h1, h2, h3⟩ := h
  refine ⟨h1, ?_, fun i hi => ?_⟩
  · rw [(he 54 18 (by decide)).1]; exact h2
  · rw [(he 63 i (by simp [sLM])).1]; exact h3 i hi
theorem M_on {t : Nat → Nat} {tp p : Nat} {w : Wd} (h : PM t tp w) (hp : gi w 54 19 = nI p) (hb : p ≤ tp) : f_X12_looksOn w = some (lm (LT t tp p)) := by
  obtain ⟨h1, h2, h3⟩ := h
  unfold f_X12_looksOn LT
  rw [h2, hp]
  by_cases c : p < tp
  · rw [if_neg (by rw [nI_leI (by omega) (by omega)]; omega), if_pos c, ldI_d (inb_nI (by omega) (by decide)), ix_nI (by omega), (h3 p c).1]
    unfold lm
    rw [if_neg (by have := (h3 p c).2; omega)]
  · rw [if_pos (by rw [nI_leI (by omega) (by omega)]; omega), if_neg c]
    rfl
def am (c : Nat) : Nat := if c = 35 then 1 else if c = 36 then 2 else if c = 33 then 3 else if c = 126 then 4 else c
def pM (p q o : Nat) (ss : List (Nat × Nat)) (w : Wd) : Wd := (fun c k => if c = 54 ∧ k = 19 then nI p else if c = 54 ∧ k = 21 then nI o else if c = 54 ∧ k = 22 then nI (q + ss.length) else if c = 64 ∧ 130 + q ≤ k ∧ k < 130 + (q + ss.length) then nI (am (ss.getD (k - (130 + q)) (0, 0)).1) else if c = 65 ∧ 130 + q ≤ k ∧ k < 130 + (q + ss.length) then nI (ss.getD (k - (130 + q)) (0, 0)).2 else w.1 c k, w.2)
theorem gi_pM (p q o : Nat) (ss : List (Nat × Nat)) (w : Wd) (c k : Nat) : gi (pM p q o ss w) c k = if c = 54 ∧ k = 19 then nI p else if c = 54 ∧ k = 21 then nI o else if c = 54 ∧ k = 22 then nI (q + ss.length) else if c = 64 ∧ 130 + q ≤ k ∧ k < 130 + (q + ss.length) then nI (am (ss.getD (k - (130 + q)) (0, 0)).1) else if c = 65 ∧ 130 + q ≤ k ∧ k < 130 + (q + ss.length) then nI (ss.getD (k - (130 + q)) (0, 0)).2 else gi w c k := rfl
theorem pM_out {p q o : Nat} {ss : List (Nat × Nat)} {w : Wd} {c k : Nat} (h : sLM c k = false) : gi (pM p q o ss w) c k = gi w c k := by
  have z1 : ¬ (c = 54 ∧ k = 19) := by intro y; rw [y.1, y.2] at h; cases h
  have z2 : ¬ (c = 54 ∧ k = 21) := by intro y; rw [y.1, y.2] at h; cases h
  have z3 : ¬ (c = 54 ∧ k = 22) := by intro y; rw [y.1, y.2] at h; cases h
  have z4 : ¬ (c = 64 ∧ 130 + q ≤ k ∧ k < 130 + (q + ss.length)) := by
    intro y
    have : 130 ≤ k := by omega
    rw [y.1] at h
    simp [sLM, this] at h
  have z5 : ¬ (c = 65 ∧ 130 + q ≤ k ∧ k < 130 + (q + ss.length)) := by
    intro y
    have : 130 ≤ k := by omega
    rw [y.1] at h
    simp [sLM, this] at h
  rw [gi_pM, if_neg z1, if_neg z2, if_neg z3, if_neg z4, if_neg z5]
theorem pM_eqo (p q o : Nat) (ss : List (Nat × Nat)) (w : Wd) : eqo sLM w (pM p q o ss w) := fun _ _ h => ⟨pM_out h, rfl⟩
theorem g19_pM (p q o : Nat) (ss : List (Nat × Nat)) (w : Wd) : gi (pM p q o ss w) 54 19 = nI p := by rw [gi_pM, if_pos ⟨rfl, rfl⟩]
theorem g20_pM (p q o : Nat) (ss : List (Nat × Nat)) (w : Wd) : gi (pM p q o ss w) 54 20 = gi w 54 20 := by rw [gi_pM, if_neg (by omega), if_neg (by omega), if_neg (by omega), if_neg (by omega), if_neg (by omega)]
theorem g21_pM (p q o : Nat) (ss : List (Nat × Nat)) (w : Wd) : gi (pM p q o ss w) 54 21 = nI o := by rw [gi_pM, if_neg (by omega), if_pos ⟨rfl, rfl⟩]
theorem g22_pM (p q o : Nat) (ss : List (Nat × Nat)) (w : Wd) : gi (pM p q o ss w) 54 22 = nI (q + ss.length) := by rw [gi_pM, if_neg (by omega), if_neg (by omega), if_pos ⟨rfl, rfl⟩]
theorem pM_app (p p' q o o' : Nat) (ss1 ss2 : List (Nat × Nat)) (w : Wd) : pM p' (q + ss1.length) o' ss2 (pM p q o ss1 w) = pM p' q o' (ss1 ++ ss2) w := by
  refine wd_ext (fun c k => ?_) (fun _ _ => rfl)
  rw [gi_pM, gi_pM, gi_pM]
  have hl : (ss1 ++ ss2).length = ss1.length + ss2.length := List.length_append
  by_cases z1 : c = 54 ∧ k = 19
  · rw [if_pos z1, if_pos z1]
  rw [if_neg z1, if_neg z1, if_neg z1]
  by_cases z2 : c = 54 ∧ k = 21
  · rw [if_pos z2, if_pos z2]
  rw [if_neg z2, if_neg z2, if_neg z2]
  by_cases z3 : c = 54 ∧ k = 22
  · rw [if_pos z3, if_pos z3, hl, Nat.add_assoc]
  rw [if_neg z3, if_neg z3, if_neg z3, hl]
  by_cases z4 : c = 64
  · subst z4
    rw [if_neg (show ¬ (64 = 65 ∧ _) by omega), if_neg (show ¬ (64 = 65 ∧ 130 + q ≤ k ∧ _) by omega), if_neg (show ¬ (64 = 65 ∧ 130 + q ≤ k ∧ _) by omega)]
    by_cases y1 : 130 + (q + ss1.length) ≤ k ∧ k < 130 + (q + ss1.length + ss2.length)
    · rw [if_pos ⟨rfl, y1⟩, if_pos ⟨rfl, by omega, by omega⟩, getD_app, if_neg (by omega), show k - (130 + q) - ss1.length = k - (130 + (q + ss1.length)) by omega]
    · rw [if_neg (fun z => y1 z.2)]
      by_cases y2 : 130 + q ≤ k ∧ k < 130 + (q + ss1.length)
      · rw [if_pos ⟨rfl, y2⟩, if_pos ⟨rfl, by omega, by omega⟩, getD_app, if_pos (by omega)]
      · rw [if_neg (fun z => y2 z.2), if_neg (by omega)]
  · simp only [z4, false_and, if_false]
    by_cases z5 : c = 65
    · subst z5
      by_cases y1 : 130 + (q + ss1.length) ≤ k ∧ k < 130 + (q + ss1.length + ss2.length)
      · rw [if_pos ⟨rfl, y1⟩, if_pos ⟨rfl, by omega, by omega⟩, getD_app, if_neg (by omega), show k - (130 + q) - ss1.length = k - (130 + (q + ss1.length)) by omega]
      · rw [if_neg (fun z => y1 z.2)]
        by_cases y2 : 130 + q ≤ k ∧ k < 130 + (q + ss1.length)
        · rw [if_pos ⟨rfl, y2⟩, if_pos ⟨rfl, by omega, by omega⟩, getD_app, if_pos (by omega)]
        · rw [if_neg (fun z => y2 z.2), if_neg (by omega)]
    · simp only [z5, false_and, if_false]
/-- where the model's reader stands -/
def MS (t : Nat → Nat) (tp p q o : Nat) (w : Wd) : Prop := PM t tp w ∧ gi w 54 19 = nI p ∧ p ≤ tp ∧ gi w 54 20 = -1 ∧ gi w 54 21 = nI o ∧ gi w 54 22 = nI q ∧ q + (tp - p) ≤ 127
theorem MS_pM {t : Nat → Nat} {tp p q o p' o' : Nat} {ss : List (Nat × Nat)} {w : Wd} (h : MS t tp p q o w) (hp : p' ≤ tp) (hq : q + ss.length + (tp - p') ≤ 127) : MS t tp p' (q + ss.length) o' (pM p' q o' ss w) := by
  obtain ⟨h1, h2, h3, h4, h5, h6, h7⟩ := h
  exact ⟨PM_eqo h1 (pM_eqo _ _ _ _ _), g19_pM _ _ _ _ _, hp, by rw [g20_pM]; exact h4, g21_pM _ _ _ _ _, g22_pM _ _ _ _ _, hq⟩
theorem pM_0 {t : Nat → Nat} {tp p q o : Nat} {w : Wd} (h : MS t tp p q o w) : pM p q o [] w = w := by
  obtain ⟨h1, h2, h3, h4, h5, h6, h7⟩ := h
  refine wd_ext (fun c k => ?_) (fun _ _ => rfl)
  rw [gi_pM]
  by_cases z1 : c = 54 ∧ k = 19
  · rw [if_pos z1, z1.1, z1.2, h2]
  rw [if_neg z1]
  by_cases z2 : c = 54 ∧ k = 21
  · rw [if_pos z2, z2.1, z2.2, h5]
  rw [if_neg z2]
  by_cases z3 : c = 54 ∧ k = 22
  · rw [if_pos z3, z3.1, z3.2, h6]; rfl
  rw [if_neg z3, if_neg (by rw [List.length_nil]; omega), if_neg (by rw [List.length_nil]; omega)]
theorem M_move {t : Nat → Nat} {tp p q o : Nat} {w : Wd} (h : MS t tp p q o w) (p' : Nat) : si w 54 19 (nI p') = pM p' q o [] w := by
  obtain ⟨h1, h2, h3, h4, h5, h6, h7⟩ := h
  refine wd_ext (fun c k => ?_) (fun _ _ => rfl)
  rw [gi_pM, gi_si]
  by_cases z1 : c = 54 ∧ k = 19
  · rw [if_pos z1, if_pos z1]
  rw [if_neg z1, if_neg z1]
  by_cases z2 : c = 54 ∧ k = 21
  · rw [if_pos z2, z2.1, z2.2, h5]
  rw [if_neg z2]
  by_cases z3 : c = 54 ∧ k = 22
  · rw [if_pos z3, z3.1, z3.2, h6]; rfl
  rw [if_neg z3, if_neg (by rw [List.length_nil]; omega), if_neg (by rw [List.length_nil]; omega)]
theorem M_open {t : Nat → Nat} {tp p q o : Nat} {w : Wd} (h : MS t tp p q o w) (o' : Nat) : si w 54 21 (nI o') = pM p q o' [] w := by
  obtain ⟨h1, h2, h3, h4, h5, h6, h7⟩ := h
  refine wd_ext (fun c k => ?_) (fun _ _ => rfl)
  rw [gi_pM, gi_si]
  by_cases z1 : c = 54 ∧ k = 19
  · rw [if_pos z1, if_neg (by omega), z1.1, z1.2, h2]
  rw [if_neg z1]
  by_cases z2 : c = 54 ∧ k = 21
  · rw [if_pos z2, if_pos z2]
  rw [if_neg z2, if_neg z2]
  by_cases z3 : c = 54 ∧ k = 22
  · rw [if_pos z3, z3.1, z3.2, h6]; rfl
  rw [if_neg z3, if_neg (by rw [List.length_nil]; omega), if_neg (by rw [List.length_nil]; omega)]
theorem M_stepE {q : Nat} {w : Wd} (h6 : gi w 54 22 = nI q) (h : q < 130) (a v : Int32) : f_X12_addStep a v w = some (si (si (si w 64 (130 + q) (i2b (i2b a))) 65 (130 + q) v) 54 22 (nI (q + 1))) := by
  unfold f_X12_addStep
  have e : (130 : Int32) + nI q = nI (130 + q) := by rw [show (130 : Int32) = nI 130 from rfl, nI_add]
  rw [h6, e, saI_d (inb_nI (by omega) (by decide)), gi_si, if_neg (by omega), h6, e, saI_d (inb_nI (by omega) (by decide)), stI_d, gi_si, if_neg (by omega), gi_si, if_neg (by omega), h6, nI_1, ix_nI (by omega)]
theorem M_step {t : Nat → Nat} {tp p q o : Nat} {w : Wd} (h : MS t tp p q o w) (s : Nat × Nat) {a v : Int32} (hs : am s.1 < 128) (ha : a = nI (am s.1)) (hv : v = nI s.2) (hq : q < 128) : f_X12_addStep a v w = some (pM p q o [s] w) := by
  obtain ⟨h1, h2, h3, h4, h5, h6, h7⟩ := h
  rw [M_stepE h6 (by omega), ha, i2b_nI hs, i2b_nI hs, hv]
  refine congrArg some ?_
  refine wd_ext (fun c k => ?_) (fun _ _ => rfl)
  have hl : ([s] : List (Nat × Nat)).length = 1 := rfl
  rw [gi_pM, gi_si, gi_si, gi_si, hl]
  by_cases z1 : c = 54 ∧ k = 19
  · rw [if_pos z1, if_neg (by omega), if_neg (by omega), if_neg (by omega), z1.1, z1.2, h2]
  rw [if_neg z1]
  by_cases z2 : c = 54 ∧ k = 21
  · rw [if_pos z2, if_neg (by omega), if_neg (by omega), if_neg (by omega), z2.1, z2.2, h5]
  rw [if_neg z2]
  by_cases z3 : c = 54 ∧ k = 22
  · rw [if_pos z3, if_pos z3]
  rw [if_neg z3, if_neg z3]
  by_cases z4 : c = 64 ∧ k = 130 + q
  · rw [if_neg (by omega), if_pos z4, if_pos ⟨z4.1, by omega, by omega⟩, z4.2, Nat.sub_self]
    rfl
  · by_cases z5 : c = 65 ∧ k = 130 + q
    · rw [if_pos z5, if_neg (by omega), if_pos ⟨z5.1, by omega, by omega⟩, z5.2, Nat.sub_self]
      rfl
    · rw [if_neg z5, if_neg z4, if_neg (by omega), if_neg (by omega)]
theorem M_stepAny {q : Nat} {w : Wd} (h6 : gi w 54 22 = nI q) (h : q < 130) (a v : Int32) : ∃ w', f_X12_addStep a v w = some w' ∧ eqo sLM w w' ∧ gi w' 54 19 = gi w 54 19 ∧ gi w' 54 20 = gi w 54 20 ∧ gi w' 54 22 = nI (q + 1) := by
  rw [M_stepE h6 h]
  refine ⟨_, rfl, eqo_si (eqo_si (eqo_si (eqo_rf w) (by simp [sLM])) (by simp [sLM])) (by simp [sLM]), ?_, ?_, ?_⟩
  · rw [gi_si, if_neg (by omega), gi_si, if_neg (by omega), gi_si, if_neg (by omega)]
  · rw [gi_si, if_neg (by omega), gi_si, if_neg (by omega), gi_si, if_neg (by omega)]
  · rw [gi_si, if_pos ⟨rfl, rfl⟩]
theorem M_faulty {p : Nat} {w : Wd} (h2 : gi w 54 19 = nI p) (h4 : gi w 54 20 = -1) : f_X12_faulty w = some (si w 54 20 (nI p)) := by
  unfold f_X12_faulty
  rw [h4, if_neg (by decide), stI_d, h2]
/-- what the model's reader does, by what the pure one does -/
def rM (w : Wd) (p q o : Nat) (r : PR) (x : Option Wd) : Prop :=
  (r.1 = true ∧ x = some (pM r.2.1 q o r.2.2 w)) ∨ (r.1 = false ∧ ∃ w', x = some w' ∧ gi w' 54 19 = nI r.2.1 ∧ gi w' 54 20 = nI r.2.1 ∧ eqo sLM w w' ∧ ∃ q', gi w' 54 22 = nI q' ∧ q' ≤ q + (r.2.1 - p) + 1)
theorem rM_up {w : Wd} {p p0 q o o' : Nat} {r : PR} {x : Option Wd} (hp : p ≤ p0) (h : rM (pM p0 q o' [] w) p0 q o r x) : rM w p q o r x := by
  rcases h with ⟨h1, h2⟩ | ⟨h1, w', h2, h3, h4, h5, q', h6, h7⟩
  · exact Or.inl ⟨h1, by rw [h2]; exact congrArg some (pM_app p0 r.2.1 q o' o [] r.2.2 w)⟩
  · exact Or.inr ⟨h1, w', h2, h3, h4, eqo_tr (pM_eqo _ _ _ _ _) h5, q', h6, by omega⟩
