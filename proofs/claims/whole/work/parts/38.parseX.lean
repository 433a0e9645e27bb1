/-! THE LAW: the class's reader -/
def okc (c : Nat) : Prop := c < 256 ∨ c = 999
def lx (c : Nat) : Int32 := if c = 999 then -1 else nI c
theorem lx_t {c : Nat} (h : okc c) : (lx c).toInt = if c = 999 then (-1 : Int) else (c : Int) := by
  unfold lx
  by_cases e : c = 999
  · rw [if_pos e, if_pos e]; rfl
  · rw [if_neg e, if_neg e]
    exact nI_toInt (by rcases h with q | q <;> omega)
theorem lx_eq {c d : Nat} (h : okc c) (hd : d < 256) : (lx c = nI d) ↔ c = d := by
  have t := nI_toInt (n := d) (by omega)
  rw [← Int32.toInt_inj, lx_t h, t]
  by_cases e : c = 999
  · rw [if_pos e]; omega
  · rw [if_neg e]; omega
theorem X_digit {c : Nat} (h : okc c) : f_X4_isDigit (lx c) = some (b2i (dgt c)) := by
  have t := lx_t h
  unfold f_X4_isDigit b2i
  by_cases e : c = 999
  · subst e
    rfl
  · rw [if_neg e] at t
    simp only [fa_lt, fa_le, fa_eq, inb, ti_m14, ti_m13, ti_m12, ti_m11, ti_m10, ti_m9, ti_m8, ti_m7, ti_m6, ti_m5, ti_m4, ti_m3, ti_m2, ti_m1, ti_0, ti_1, ti_2, ti_3, ti_4, ti_5, ti_6, ti_7, ti_8, ti_9, ti_10, ti_11, ti_12, ti_13, ti_14, ti_15, ti_16, ti_17, ti_18, ti_19, ti_20, ti_21, ti_22, ti_23, ti_24, ti_25, ti_26, ti_27, ti_28, ti_29, ti_30, ti_31, ti_32, ti_33, ti_34, ti_35, ti_36, ti_37, ti_38, ti_39, ti_40, ti_41, ti_42, ti_43, ti_44, ti_45, ti_46, ti_47, ti_48, ti_49, ti_50, ti_51, ti_52, ti_53, ti_54, ti_55, ti_56, ti_57, ti_58, ti_59, ti_60, ti_61, ti_62, ti_63, ti_64, ti_99, ti_100, ti_120, ti_122, ti_124, ti_128, ti_130, ti_255, ti_256, ti_260, ti_360, ti_999, ti_1000, ti_9999, ti_10000]
    rw [t]
    repeat' split
    all_goals first | rfl | (exfalso; omega)
theorem X_name {c : Nat} (h : okc c) : f_X4_nameOf (lx c) = some (if nmo c ≤ 5 then nI (nmo c) else -1) := by
  by_cases e115 : c = 115
  · subst e115; rfl
  by_cases e116 : c = 116
  · subst e116; rfl
  by_cases e108 : c = 108
  · subst e108; rfl
  by_cases e104 : c = 104
  · subst e104; rfl
  by_cases e110 : c = 110
  · subst e110; rfl
  by_cases e107 : c = 107
  · subst e107; rfl
  have k : ∀ (v : Int32) (d : Nat), v = nI d → d < 256 → c ≠ d → ¬ lx c = v := fun v d hv hd hne y => hne ((lx_eq h hd).mp (y.trans hv))
  unfold f_X4_nameOf
  rw [if_neg (k 104 104 rfl (by omega) e104), if_neg (k 107 107 rfl (by omega) e107), if_neg (k 108 108 rfl (by omega) e108), if_neg (k 110 110 rfl (by omega) e110), if_neg (k 115 115 rfl (by omega) e115), if_neg (k 116 116 rfl (by omega) e116)]
  have z : nmo c = 9 := by
    unfold nmo
    rw [if_neg e115, if_neg e116, if_neg e108, if_neg e104, if_neg e110, if_neg e107]
  rw [z]
  rfl
theorem X_level {c : Nat} (h : okc c) : f_X4_levelOf (lx c) = some (if lvo c ≤ 4 then nI (lvo c) else -1) := by
  by_cases e124 : c = 124
  · subst e124; rfl
  by_cases e38 : c = 38
  · subst e38; rfl
  by_cases e60 : c = 60
  · subst e60; rfl
  by_cases e61 : c = 61
  · subst e61; rfl
  by_cases e62 : c = 62
  · subst e62; rfl
  by_cases e43 : c = 43
  · subst e43; rfl
  by_cases e45 : c = 45
  · subst e45; rfl
  by_cases e42 : c = 42
  · subst e42; rfl
  by_cases e47 : c = 47
  · subst e47; rfl
  by_cases e37 : c = 37
  · subst e37; rfl
  have k : ∀ (v : Int32) (d : Nat), v = nI d → d < 256 → c ≠ d → ¬ lx c = v := fun v d hv hd hne y => hne ((lx_eq h hd).mp (y.trans hv))
  unfold f_X4_levelOf
  rw [if_neg (k 37 37 rfl (by omega) e37), if_neg (k 38 38 rfl (by omega) e38), if_neg (k 42 42 rfl (by omega) e42), if_neg (k 43 43 rfl (by omega) e43), if_neg (k 45 45 rfl (by omega) e45), if_neg (k 47 47 rfl (by omega) e47), if_neg (k 60 60 rfl (by omega) e60), if_neg (k 61 61 rfl (by omega) e61), if_neg (k 62 62 rfl (by omega) e62), if_neg (k 124 124 rfl (by omega) e124)]
  have z : lvo c = 9 := by
    unfold lvo
    rw [if_neg e124, if_neg e38, if_neg (by omega), if_neg (by omega), if_neg (by omega)]
  rw [z]
  rfl
theorem lev_eq {c l : Nat} (hl : l ≤ 4) : ((if lvo c ≤ 4 then nI (lvo c) else (-1 : Int32)) = nI l) ↔ lvo c = l := by
  by_cases e : lvo c ≤ 4
  · rw [if_pos e, nI_eq (by omega) (by omega)]
  · rw [if_neg e]
    have t := nI_toInt (n := l) (by omega)
    constructor
    · intro z
      have := congrArg Int32.toInt z
      rw [t, ti_m1] at this
      omega
    · intro z; omega
/-- the tape, for the class -/
def PX (t : Nat → Nat) (tp : Nat) (w : Wd) : Prop := tp ≤ 120 ∧ gi w 6 1 = nI tp ∧ ∀ i, i < tp → gi w 7 i = nI (t i) ∧ t i < 256
def sLX (c k : Nat) : Bool := c == 8 || (c == 6 && (k == 2 || k == 4))
theorem LT_ok {t : Nat → Nat} {tp : Nat} (h : ∀ i, i < tp → t i < 256) (p : Nat) : okc (LT t tp p) := by
  unfold LT
  by_cases c : p < tp
  · rw [if_pos c]; exact Or.inl (h p c)
  · rw [if_neg c]; exact Or.inr rfl
theorem LT_end {t : Nat → Nat} {tp : Nat} : ∀ p, tp ≤ p → LT t tp p = 999 := fun p h => by unfold LT; rw [if_neg (by omega)]
theorem PX_eqo {t : Nat → Nat} {tp : Nat} {w w' : Wd} (h : PX t tp w) (he : eqo sLX w w') : PX t tp w' := by
  obtain ⟨h1, h2, h3⟩ := h
  refine ⟨h1, ?_, fun i hi => ?_⟩
  · rw [(he 6 1 (by decide)).1]; exact h2
  · rw [(he 7 i (by simp [sLX])).1]; exact h3 i hi
theorem X_letter {t : Nat → Nat} {tp p : Nat} {w : Wd} (h : PX t tp w) (hp : gi w 6 2 = nI p) (hb : p ≤ tp) : f_X4_letter w = some (lx (LT t tp p)) := by
  obtain ⟨h1, h2, h3⟩ := h
  unfold f_X4_letter LT
  rw [h2, hp]
  by_cases c : p < tp
  · rw [if_neg (by rw [nI_leI (by omega) (by omega)]; omega), if_pos c, ldI_d (inb_nI (by omega) (by decide)), ix_nI (by omega), (h3 p c).1]
    unfold lx
    rw [if_neg (by have := (h3 p c).2; omega)]
  · rw [if_pos (by rw [nI_leI (by omega) (by omega)]; omega), if_neg c]
    rfl
def eX (s : Nat × Nat) : Int32 := nI (s.1 + 256 * s.2)
def pX (p q : Nat) (ss : List (Nat × Nat)) (w : Wd) : Wd := (fun c k => if c = 6 ∧ k = 2 then nI p else if c = 6 ∧ k = 4 then nI (q + ss.length) else if c = 8 ∧ q ≤ k ∧ k < q + ss.length then eX (ss.getD (k - q) (0, 0)) else w.1 c k, w.2)
theorem gi_pX (p q : Nat) (ss : List (Nat × Nat)) (w : Wd) (c k : Nat) : gi (pX p q ss w) c k = if c = 6 ∧ k = 2 then nI p else if c = 6 ∧ k = 4 then nI (q + ss.length) else if c = 8 ∧ q ≤ k ∧ k < q + ss.length then eX (ss.getD (k - q) (0, 0)) else gi w c k := rfl
theorem pX_eqo (p q : Nat) (ss : List (Nat × Nat)) (w : Wd) : eqo sLX w (pX p q ss w) := by
  intro c k hk
  have z1 : ¬ c = 8 := by intro y; simp [sLX, y] at hk
  have z2 : ¬ (c = 6 ∧ k = 2) := by intro y; simp [sLX, y.1, y.2] at hk
  have z3 : ¬ (c = 6 ∧ k = 4) := by intro y; simp [sLX, y.1, y.2] at hk
  refine ⟨?_, rfl⟩
  rw [gi_pX, if_neg z2, if_neg z3, if_neg (by omega)]
theorem getD_app {ss1 ss2 : List (Nat × Nat)} {i : Nat} {d : Nat × Nat} : (ss1 ++ ss2).getD i d = if i < ss1.length then ss1.getD i d else ss2.getD (i - ss1.length) d := by
  rw [List.getD_eq_getElem?_getD, List.getD_eq_getElem?_getD, List.getD_eq_getElem?_getD]
  by_cases c : i < ss1.length
  · rw [if_pos c, List.getElem?_append_left c]
  · rw [if_neg c, List.getElem?_append_right (by omega)]
theorem pX_app (p p' q : Nat) (ss1 ss2 : List (Nat × Nat)) (w : Wd) : pX p' (q + ss1.length) ss2 (pX p q ss1 w) = pX p' q (ss1 ++ ss2) w := by
  refine wd_ext (fun c k => ?_) (fun _ _ => rfl)
  rw [gi_pX, gi_pX, gi_pX]
  have hl : (ss1 ++ ss2).length = ss1.length + ss2.length := List.length_append
  by_cases z1 : c = 6 ∧ k = 2
  · rw [if_pos z1, if_pos z1]
  · rw [if_neg z1, if_neg z1]
    by_cases z2 : c = 6 ∧ k = 4
    · rw [if_pos z2, if_neg z1, if_pos z2, hl, Nat.add_assoc]
    · rw [if_neg z2, if_neg z2, if_neg z1, if_neg z2, hl]
      by_cases z3 : c = 8 ∧ q + ss1.length ≤ k ∧ k < q + ss1.length + ss2.length
      · rw [if_pos z3, if_pos ⟨z3.1, by omega, by omega⟩, getD_app, if_neg (by omega), show k - q - ss1.length = k - (q + ss1.length) by omega]
      · rw [if_neg z3]
        by_cases z4 : c = 8 ∧ q ≤ k ∧ k < q + ss1.length
        · rw [if_pos z4, if_pos ⟨z4.1, by omega, by omega⟩, getD_app, if_pos (by omega)]
        · rw [if_neg z4, if_neg (by omega)]
theorem pX_0 {p q : Nat} {w : Wd} (hp : gi w 6 2 = nI p) (hq : gi w 6 4 = nI q) : pX p q [] w = w := by
  refine wd_ext (fun c k => ?_) (fun _ _ => rfl)
  rw [gi_pX]
  by_cases z1 : c = 6 ∧ k = 2
  · rw [if_pos z1, z1.1, z1.2, hp]
  · rw [if_neg z1]
    by_cases z2 : c = 6 ∧ k = 4
    · rw [if_pos z2, z2.1, z2.2, hq]; rfl
    · rw [if_neg z2, if_neg (by simp)]
theorem X_move {p q : Nat} {w : Wd} (hq : gi w 6 4 = nI q) (p' : Nat) : si w 6 2 (nI p') = pX p' q [] w := by
  refine wd_ext (fun c k => ?_) (fun _ _ => rfl)
  rw [gi_pX, gi_si]
  by_cases z1 : c = 6 ∧ k = 2
  · rw [if_pos z1, if_pos z1]
  · rw [if_neg z1, if_neg z1]
    by_cases z2 : c = 6 ∧ k = 4
    · rw [if_pos z2, z2.1, z2.2, hq]; rfl
    · rw [if_neg z2, if_neg (by simp)]
theorem X_write {p q : Nat} {w : Wd} (hp : gi w 6 2 = nI p) (hq : gi w 6 4 = nI q) (h : q < 128) (s : Nat × Nat) {a v : Int32} (ha : a = nI s.1) (hv : v = nI s.2) : f_X4_write a v w = some (pX p q [s] w) := by
  unfold f_X4_write
  rw [hq, if_neg (by rw [show (128 : Int32) = nI 128 from rfl, nI_leI (by omega) (by omega)]; omega), saI_d (inb_nI h (by decide)), ix_nI (by omega), gi_si, if_neg (by omega), hq, nI_1, stI_d, ha, hv, show (256 : Int32) = nI 256 from rfl, pk_mul, nI_add]
  refine congrArg some ?_
  refine wd_ext (fun c k => ?_) (fun _ _ => rfl)
  rw [gi_pX, gi_si, gi_si]
  by_cases z1 : c = 6 ∧ k = 4
  · rw [if_pos z1, if_neg (by omega), if_pos z1]
    rfl
  · rw [if_neg z1]
    by_cases z2 : c = 8 ∧ k = q
    · rw [if_pos z2, if_neg (by omega), if_neg z1, if_pos ⟨z2.1, by omega, by simp; omega⟩, z2.2, Nat.sub_self]
      rfl
    · rw [if_neg z2]
      by_cases z3 : c = 6 ∧ k = 2
      · rw [if_pos z3, z3.1, z3.2, hp]
      · rw [if_neg z3, if_neg z1, if_neg (by simp; omega)]
theorem X_writeAny {q : Nat} {w : Wd} (hq : gi w 6 4 = nI q) (h : q ≤ 128) (a v : Int32) : ∃ w', f_X4_write a v w = some w' ∧ eqo sLX w w' ∧ gi w' 6 2 = gi w 6 2 ∧ ∃ q', gi w' 6 4 = nI q' ∧ q' ≤ 128 := by
  unfold f_X4_write
  rw [hq]
  by_cases c : q = 128
  · subst c
    rw [if_pos (by decide)]
    exact ⟨w, rfl, eqo_rf w, rfl, 128, hq, by omega⟩
  · rw [if_neg (by rw [show (128 : Int32) = nI 128 from rfl, nI_leI (by omega) (by omega)]; omega), saI_d (inb_nI (by omega) (by decide)), ix_nI (by omega), gi_si, if_neg (by omega), hq, nI_1, stI_d]
    refine ⟨_, rfl, eqo_si (eqo_si (eqo_rf w) (by simp [sLX])) (by simp [sLX]), ?_, q + 1, ?_, by omega⟩
    · rw [gi_si, if_neg (by omega), gi_si, if_neg (by omega)]
    · rw [gi_si, if_pos ⟨rfl, rfl⟩]
theorem X_passed {t : Nat → Nat} {tp p : Nat} {w : Wd} (h : PX t tp w) (hp : gi w 6 2 = nI p) (hb : p ≤ tp) {d : Nat} (hd : d < 256) : f_X4_passed (nI d) w = if LT t tp p = d then some (1, si w 6 2 (nI (p + 1))) else some (0, w) := by
  unfold f_X4_passed
  rw [X_letter h hp hb, bR_s, hp, stI_d, nI_1]
  by_cases c : LT t tp p = d
  · rw [if_pos ((lx_eq (LT_ok (fun i hi => (h.2.2 i hi).2) p) hd).mpr c), if_pos c]
  · rw [if_neg (fun y => c ((lx_eq (LT_ok (fun i hi => (h.2.2 i hi).2) p) hd).mp y)), if_neg c]
/-- what the class's reader answers, by what the pure one does -/
def rX (L : Nat → Nat) (w : Wd) (q : Nat) (r : PR) (x : Option (Int32 × Wd)) : Prop :=
  (r.1 = true ∧ x = some (1, pX r.2.1 q r.2.2 w)) ∨ (r.1 = false ∧ ∃ b w', x = some (b, w') ∧ gi w' 6 2 = nI r.2.1 ∧ eqo sLX w w' ∧ (b = 0 ∨ (b = 1 ∧ dgt (L r.2.1))) ∧ ∃ q', gi w' 6 4 = nI q' ∧ q' ≤ 128)
theorem X_number {t : Nat → Nat} {tp : Nat} : ∀ (k n i p q v : Nat) (w : Wd), k + i = 4 → k < n → PX t tp w → gi w 6 2 = nI p → p ≤ tp → gi w 6 4 = nI q → q < 128 → v < 10 ^ i → f_X4_readNumber_b4 n (nI v) (nI i) w = some (1, pX (dgs (LT t tp) k p v).1 q [(35, (dgs (LT t tp) k p v).2)] w)
  | 0, 0, _, _, _, _, _, _, h, _, _, _, _, _, _ => absurd h (by omega)
  | k + 1, 0, _, _, _, _, _, _, h, _, _, _, _, _, _ => absurd h (by omega)
  | 0, n + 1, i, p, q, v, w, hk, hn, hP, hp, hb, hq, h128, hv => by
    have hi : i = 4 := by omega
    subst hi
    show f_X4_readNumber_b4_y (f_X4_readNumber_b4 n) (nI v) (nI 4) w = _
    unfold f_X4_readNumber_b4_y f_X4_readNumber_b48
    rw [if_pos (by decide), X_write (a := 35) (v := nI v) hp hq h128 (35, v) rfl rfl, bV_s]
    rfl
  | k + 1, n + 1, i, p, q, v, w, hk, hn, hP, hp, hb, hq, h128, hv => by
    have hokc := LT_ok (fun i hi => (hP.2.2 i hi).2) p
    have hv5 : v < 1000 := by
      have : 10 ^ i ≤ 10 ^ 3 := Nat.pow_le_pow_right (by omega) (by omega)
      omega
    show f_X4_readNumber_b4_y (f_X4_readNumber_b4 n) (nI v) (nI i) w = _
    unfold f_X4_readNumber_b4_y f_X4_readNumber_b48 dgs
    rw [if_neg (by rw [show (4 : Int32) = nI 4 from rfl, nI_leI (by omega) (by omega)]; omega), X_letter hP hp hb, bR_s, X_digit hokc, bR_s, ite_b2i]
    by_cases c : dgt (LT t tp p)
    · rw [if_pos c, if_pos c, bR_s, lt_d, hp, stI_d, nI_1, nI_1]
      have hp' : p < tp := by
        rcases Nat.lt_or_ge p tp with y | y
        · exact y
        · rw [LT_end p y] at c; omega
      have ev : nI v * 10 + lx (LT t tp p) - 48 = nI (10 * v + (LT t tp p - 48)) := by
        have e : lx (LT t tp p) = nI (LT t tp p) := by unfold lx; rw [if_neg (by omega)]
        rw [e, show (10 : Int32) = nI 10 from rfl, show (48 : Int32) = nI 48 from rfl, pk_mul, nI_add, pk_sub (by omega), show v * 10 + LT t tp p - 48 = 10 * v + (LT t tp p - 48) by omega]
      rw [ev, X_move (p := p) hq (p + 1)]
      have hP' := PX_eqo hP (pX_eqo (p + 1) q [] w)
      rw [X_number k n (i + 1) (p + 1) q _ _ (by omega) (by omega) hP' (by rw [gi_pX]; simp) (by omega) (by rw [gi_pX]; simp) h128 (by rw [Nat.pow_succ]; omega)]
      have ea := pX_app (p + 1) (dgs (LT t tp) k (p + 1) (10 * v + (LT t tp p - 48))).1 q [] [(35, (dgs (LT t tp) k (p + 1) (10 * v + (LT t tp p - 48))).2)] w
      rw [List.length_nil, Nat.add_zero, List.nil_append] at ea
      exact congrArg (fun x => some (1, x)) ea
    · rw [if_neg c, if_neg c, X_write (a := 35) (v := nI v) hp hq h128 (35, v) rfl rfl, bV_s]
theorem X_stuck {t : Nat → Nat} {tp l p n : Nat} {RL : Int32 → Int32 → Wd → Option (Int32 × Wd)} {RO : Int32 → Wd → Option (Int32 × Wd)} {x2 x3 x4 : Int32} {w : Wd} (hl : l ≤ 4) (hn : 0 < n) (hP : PX t tp w) (hp : gi w 6 2 = nI p) (hb : p ≤ tp) (hd : dgt (LT t tp p)) : f_X4_readLevel_b39 RL RO n (nI l) x2 x3 x4 w = some (1, w) := by
  obtain ⟨n', rfl⟩ : ∃ n', n = n' + 1 := ⟨n - 1, by omega⟩
  show f_X4_readLevel_b39_y RL RO (f_X4_readLevel_b39 RL RO n') (nI l) x2 x3 x4 w = _
  unfold f_X4_readLevel_b39_y
  by_cases cM : x3 ≤ x4
  · rw [if_pos cM]
  · have okd := LT_ok (fun i hi => (hP.2.2 i hi).2) p
    rw [if_neg cM, X_letter hP hp hb, bR_s, X_level okd, bR_s, if_neg]
    intro z
    have := (lev_eq hl).mp z
    unfold lvo at this
    repeat' split at this
    all_goals omega
theorem X_rst {t : Nat → Nat} {tp l o : Nat} {qf : Nat → Option PR} {RL : Int32 → Int32 → Wd → Option (Int32 × Wd)} {RO : Int32 → Wd → Option (Int32 × Wd)} (hl : l ≤ 4) (hpos : ∀ p r, p ≤ tp → qf p = some r → posOK tp p r)
    (IH : ∀ (p q : Nat) (w : Wd) (r : PR), PX t tp w → gi w 6 2 = nI p → p ≤ tp → gi w 6 4 = nI q → q + (tp - p) ≤ 127 → qf p = some r → rX (LT t tp) w q r (RL (nI (l + 1)) (nI o) w)) :
    ∀ (m n i M p q : Nat) (w : Wd) (r : PR), m + i = M → M ≤ 120 → m < n → PX t tp w → gi w 6 2 = nI p → p ≤ tp → gi w 6 4 = nI q → q + (tp - p) ≤ 127 → rst qf (LT t tp) l m p = some r → rX (LT t tp) w q r (f_X4_readLevel_b39 RL RO n (nI l) (nI o) (nI M) (nI i) w)
  | m, 0, _, _, _, _, _, _, _, _, h, _, _, _, _, _, _ => absurd h (by omega)
  | 0, n + 1, i, M, p, q, w, r, hm, hM, hn, hP, hp, hb, hq, hq2, e => by
    unfold rst at e
    cases e
    show rX _ _ _ _ (f_X4_readLevel_b39_y RL RO (f_X4_readLevel_b39 RL RO n) (nI l) (nI o) (nI M) (nI i) w)
    unfold f_X4_readLevel_b39_y
    rw [if_pos (by rw [nI_leI (by omega) (by omega)]; omega)]
    exact Or.inl ⟨rfl, by rw [pX_0 hp hq]⟩
  | m + 1, n + 1, i, M, p, q, w, r, hm, hM, hn, hP, hp, hb, hq, hq2, e => by
    have hokc := LT_ok (fun i hi => (hP.2.2 i hi).2) p
    unfold rst at e
    show rX _ _ _ _ (f_X4_readLevel_b39_y RL RO (f_X4_readLevel_b39 RL RO n) (nI l) (nI o) (nI M) (nI i) w)
    unfold f_X4_readLevel_b39_y
    rw [if_neg (by rw [nI_leI (by omega) (by omega)]; omega), X_letter hP hp hb, bR_s, X_level hokc, bR_s, bR_s]
    by_cases c : lvo (LT t tp p) = l
    · rw [if_pos c] at e
      rw [if_pos ((lev_eq hl).mpr c), hp, stI_d, nI_1, nI_1, nI_1, X_move (p := p) hq (p + 1)]
      have hp' : p < tp := by
        rcases Nat.lt_or_ge p tp with y | y
        · exact y
        · rw [LT_end p y] at c
          have : lvo 999 = 9 := rfl
          omega
      cases h1 : qf (p + 1) with
      | none => rw [h1] at e; cases e
      | some r1 =>
        rw [h1] at e
        have hP' := PX_eqo hP (pX_eqo (p + 1) q [] w)
        have g2 : gi (pX (p + 1) q [] w) 6 2 = nI (p + 1) := by rw [gi_pX]; simp
        have g4 : gi (pX (p + 1) q [] w) 6 4 = nI q := by rw [gi_pX]; simp
        have hI := IH (p + 1) q _ r1 hP' g2 (by omega) g4 (by omega) h1
        obtain ⟨b1, b2, b3⟩ := hpos (p + 1) r1 (by omega) h1
        have hlx : lx (LT t tp p) = nI (LT t tp p) := by
          unfold lx
          rw [if_neg (by intro z; rw [z] at c; have : lvo 999 = 9 := rfl; omega)]
        rcases hI with ⟨k1, k2⟩ | ⟨k1, b, w', k2, k3, k4, k5, q', k6, k7⟩
        · simp only [k1, if_true] at e
          obtain ⟨b4, b5⟩ := b3 k1
          rw [k2, bW_s, if_neg (by decide)]
          have ea := pX_app (p + 1) r1.2.1 q [] r1.2.2 w
          rw [List.length_nil, Nat.add_zero, List.nil_append] at ea
          rw [ea]
          have g2' : gi (pX r1.2.1 q r1.2.2 w) 6 2 = nI r1.2.1 := by rw [gi_pX]; simp
          have g4' : gi (pX r1.2.1 q r1.2.2 w) 6 4 = nI (q + r1.2.2.length) := by rw [gi_pX]; simp
          rw [X_write (v := 0) g2' g4' (by omega) (LT t tp p, 0) hlx rfl, bV_s, pX_app]
          have hlen : (r1.2.2 ++ [(LT t tp p, 0)]).length = r1.2.2.length + 1 := by simp
          cases h2 : rst qf (LT t tp) l m r1.2.1 with
          | none => rw [h2] at e; cases e
          | some s =>
            rw [h2] at e
            cases e
            have hP2 := PX_eqo hP (pX_eqo r1.2.1 q (r1.2.2 ++ [(LT t tp p, 0)]) w)
            have g2'' : gi (pX r1.2.1 q (r1.2.2 ++ [(LT t tp p, 0)]) w) 6 2 = nI r1.2.1 := by rw [gi_pX]; simp
            have g4'' : gi (pX r1.2.1 q (r1.2.2 ++ [(LT t tp p, 0)]) w) 6 4 = nI (q + (r1.2.2.length + 1)) := by rw [gi_pX, if_neg (by omega), if_pos ⟨rfl, rfl⟩, hlen]
            have hR := X_rst (RO := RO) hl hpos IH m n (i + 1) M r1.2.1 (q + (r1.2.2.length + 1)) _ s (by omega) hM (by omega) hP2 g2'' b2 g4'' (by omega) h2
            rcases hR with ⟨k3, k4⟩ | ⟨k3, b, w', k4, k5, k6, k7, k8⟩
            · refine Or.inl ⟨k3, ?_⟩
              rw [k4]
              have eb := pX_app r1.2.1 s.2.1 q (r1.2.2 ++ [(LT t tp p, 0)]) s.2.2 w
              rw [hlen] at eb
              rw [eb, List.append_assoc]
              rfl
            · exact Or.inr ⟨k3, b, w', k4, k5, eqo_tr (pX_eqo _ _ _ _) k6, k7, k8⟩
        · have k1' : ¬ r1.1 = true := by rw [k1]; decide
          simp only [k1', if_false] at e
          cases e
          rw [k2, bW_s]
          rcases k5 with rfl | ⟨rfl, k5⟩
          · rw [if_pos rfl]
            exact Or.inr ⟨k1, 0, w', rfl, k3, eqo_tr (pX_eqo _ _ _ _) k4, Or.inl rfl, q', k6, k7⟩
          · rw [if_neg (by decide)]
            obtain ⟨w2, v1, v2, v3, q2, v4, v5⟩ := X_writeAny k6 k7 (lx (LT t tp p)) 0
            rw [v1, bV_s]
            have he : eqo sLX w w2 := eqo_tr (eqo_tr (pX_eqo _ _ _ _) k4) v2
            have hP2 := PX_eqo hP he
            rw [X_stuck hl (by omega) hP2 (v3.trans k3) b2 k5]
            exact Or.inr ⟨k1, 1, w2, rfl, v3.trans k3, he, Or.inr ⟨rfl, k5⟩, q2, v4, v5⟩
    · rw [if_neg c] at e
      cases e
      rw [if_neg (fun z => c ((lev_eq hl).mp z))]
      exact Or.inl ⟨rfl, by rw [pX_0 hp hq]⟩
