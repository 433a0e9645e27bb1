/-! THE LAW: the model works a told law out -/
def SM (st : List Int32) (w : Wd) : Prop := ∀ i, i < st.length → gi w 70 i = st.getD (st.length - 1 - i) 0
def sEM (c _k : Nat) : Bool := c == 70
theorem SM_push {st : List Int32} {w : Wd} (h : SM st w) (v : Int32) : SM (v :: st) (si w 70 st.length v) := by
  intro i hi
  have hi' : i < st.length + 1 := hi
  rw [gi_si]
  show (if 70 = 70 ∧ i = st.length then v else gi w 70 i) = (v :: st).getD (st.length + 1 - 1 - i) 0
  by_cases z : i = st.length
  · rw [if_pos ⟨rfl, z⟩, show st.length + 1 - 1 - i = 0 by omega]
    rfl
  · rw [if_neg (fun y => z y.2), h i (by omega), show st.length + 1 - 1 - i = (st.length - 1 - i) + 1 by omega]
    rfl
theorem SM_top {st : List Int32} {v : Int32} {w : Wd} (h : SM (v :: st) w) : gi w 70 st.length = v ∧ SM st w := by
  refine ⟨?_, fun i hi => ?_⟩
  · have := h st.length (by show st.length < st.length + 1; omega)
    rw [this]
    have e0 : (v :: st).length - 1 - st.length = 0 := by show st.length + 1 - 1 - st.length = 0; omega
    rw [e0]
    rfl
  · have := h i (by show i < st.length + 1; omega)
    rw [this]
    have e1 : (v :: st).length - 1 - i = (st.length - 1 - i) + 1 := by show st.length + 1 - 1 - i = _; omega
    rw [e1]
    rfl
theorem M_blk {F : Nat → Int32} {e : Nat} (he : e ≤ 127) : ∀ (ss : List (Nat × Nat)) (n k : Nat) (st st' : List Int32) (w : Wd), (∀ s, s ∈ ss → vstep s) → k + ss.length = e → (∀ j, j < ss.length → gi w 64 (k + j) = nI (am (ss.getD j (0, 0)).1) ∧ gi w 65 (k + j) = nI (ss.getD j (0, 0)).2) → (∀ i, i < 6 → gi w 69 i = F i) → SM st w → st.length + np ss ≤ 64 → runs jn un F ss st = some st' →
    ∃ w', f_X12_worked_b12 (n + ss.length) 0 (nI e) (nI st.length) (nI k) w = f_X12_worked_b12 n 0 (nI e) (nI st'.length) (nI e) w' ∧ SM st' w' ∧ eqo sEM w w'
  | [], n, k, st, st', w, _, hk, _, _, hS, _, er => by
    cases er
    have hk' : k = e := hk
    subst hk'
    exact ⟨w, rfl, hS, eqo_rf w⟩
  | s :: ss, n, k, st, st', w, hv, hk, h64, hF, hS, hl, er => by
    have er' : (stp jn un F s st).bind (runs jn un F ss) = some st' := er
    cases h1 : stp jn un F s st with
    | none => rw [h1] at er'; cases er'
    | some st1 =>
      rw [h1] at er'
      have hlen : (s :: ss).length = ss.length + 1 := rfl
      rw [hlen] at hk h64 ⊢
      have hnp : np (s :: ss) = np [s] + np ss := np_app [s] ss
      have hvs := hv s (List.mem_cons_self ..)
      have hnp1 : np [s] = if s.1 = 35 ∨ s.1 = 36 then 1 else 0 := rfl
      -- one step
      have one : ∃ w1, f_X12_worked_b12 (n + (ss.length + 1)) 0 (nI e) (nI st.length) (nI k) w = f_X12_worked_b12 (n + ss.length) 0 (nI e) (nI st1.length) (nI (k + 1)) w1 ∧ SM st1 w1 ∧ eqo sEM w w1 ∧ st1.length ≤ st.length + np [s] := by
        show ∃ w1, f_X12_worked_b12_y (f_X12_worked_b12 (n + ss.length)) 0 (nI e) (nI st.length) (nI k) w = _ ∧ _
        unfold f_X12_worked_b12_y
        obtain ⟨g64, g65⟩ := h64 0 (by omega)
        have g64' : gi w 64 k = nI (am s.1) := g64
        have g65' : gi w 65 k = nI s.2 := g65
        have z0 : (130 : Int32) * 0 + nI e = nI e := by rw [show (130 : Int32) * 0 = nI 0 from rfl, nI_add, Nat.zero_add]
        have n1 : ¬ nI e ≤ nI k := by rw [nI_leI (by omega) (by omega)]; omega
        rw [z0, if_neg n1, ldI_d (inb_nI (by omega) (by omega)), ix_nI (by omega), g64']
        unfold stp at h1
        by_cases c35 : s.1 = 35
        · rw [if_pos c35] at h1
          cases h1
          rw [hnp, hnp1, if_pos (Or.inl c35)] at hl
          rw [c35, show nI (am 35) = (1 : Int32) from rfl, if_pos rfl]
          unfold f_X12_worked_b45 f_X12_worked_b79 f_X12_worked_b182
          rw [if_pos rfl, ldI_d (inb_nI (by omega) (by omega)), ix_nI (by omega), g65', saI_d (inb_nI (by omega) (by omega)), ix_nI (by omega), nI_1, nI_1]
          refine ⟨_, rfl, SM_push hS _, eqo_si (eqo_rf w) rfl, ?_⟩
          rw [hnp1, if_pos (Or.inl c35)]
          exact Nat.le_refl _
        rw [if_neg c35] at h1
        by_cases c36 : s.1 = 36
        · rw [if_pos c36] at h1
          cases h1
          rw [hnp, hnp1, if_pos (Or.inr c36)] at hl
          have h5 : s.2 ≤ 5 := by
            rcases hvs with h | h | h | h | h
            · omega
            · exact h.2
            · omega
            · omega
            · have := h.1; rw [c36] at this; exact absurd this (by decide)
          rw [c36, show nI (am 36) = (2 : Int32) from rfl, if_neg (show ¬ (2 : Int32) = 1 by decide), if_pos rfl]
          unfold f_X12_worked_b45 f_X12_worked_b79 f_X12_worked_b182
          rw [if_neg (show ¬ (2 : Int32) = 1 by decide), ldI_d (inb_nI (by omega) (by omega)), ix_nI (by omega), g65', ldI_d (inb_nI (by omega) (by omega)), ix_nI (by omega), hF _ (by omega), saI_d (inb_nI (by omega) (by omega)), ix_nI (by omega), nI_1, nI_1]
          refine ⟨_, rfl, SM_push hS _, eqo_si (eqo_rf w) rfl, ?_⟩
          rw [hnp1, if_pos (Or.inr c36)]
          exact Nat.le_refl _
        rw [if_neg c36] at h1
        by_cases c33 : s.1 = 33
        · rw [if_pos (Or.inl c33)] at h1
          cases st with
          | nil => cases h1
          | cons x r =>
            cases h1
            have hl' : r.length + 1 ≤ 64 := by
              have : (x :: r).length = r.length + 1 := rfl
              omega
            obtain ⟨t1, t2⟩ := SM_top hS
            have hxl : (x :: r).length = r.length + 1 := rfl
            rw [c33, show nI (am 33) = (3 : Int32) from rfl, if_neg (show ¬ (3 : Int32) = 1 by decide), if_neg (show ¬ (3 : Int32) = 2 by decide), if_pos rfl, hxl, nI_pred, ldI_d (inb_nI (by omega) (by omega)), ix_nI (by omega), t1]
            unfold f_X12_worked_b117 f_X12_worked_b182
            have hu : un 33 x = if x = 0 then 1 else 0 := rfl
            by_cases hx : x = 0
            · rw [if_pos hx, saI_d (inb_nI (by omega) (by omega)), ix_nI (by omega), nI_1, hu, if_pos hx]
              exact ⟨_, rfl, SM_push t2 _, eqo_si (eqo_rf w) rfl, Nat.le_add_right _ _⟩
            · rw [if_neg hx, saI_d (inb_nI (by omega) (by omega)), ix_nI (by omega), nI_1, hu, if_neg hx]
              exact ⟨_, rfl, SM_push t2 _, eqo_si (eqo_rf w) rfl, Nat.le_add_right _ _⟩
        by_cases c126 : s.1 = 126
        · rw [if_pos (Or.inr c126)] at h1
          cases st with
          | nil => cases h1
          | cons x r =>
            cases h1
            have hl' : r.length + 1 ≤ 64 := by
              have : (x :: r).length = r.length + 1 := rfl
              omega
            obtain ⟨t1, t2⟩ := SM_top hS
            have hxl : (x :: r).length = r.length + 1 := rfl
            have hu : un 126 x = -x := rfl
            rw [c126, show nI (am 126) = (4 : Int32) from rfl, if_neg (show ¬ (4 : Int32) = 1 by decide), if_neg (show ¬ (4 : Int32) = 2 by decide), if_neg (show ¬ (4 : Int32) = 3 by decide), if_pos rfl, hxl, nI_pred, ldI_d (inb_nI (by omega) (by omega)), ix_nI (by omega), t1, saI_d (inb_nI (by omega) (by omega)), ix_nI (by omega)]
            unfold f_X12_worked_b182
            rw [nI_1, hu]
            exact ⟨_, rfl, SM_push t2 _, eqo_si (eqo_rf w) rfl, Nat.le_add_right _ _⟩
        rw [if_neg (by omega)] at h1
        have hlv : lvo s.1 ≤ 4 := by
          rcases hvs with h | h | h | h | h
          · omega
          · omega
          · omega
          · omega
          · exact h.1
        obtain ⟨ham, hlt⟩ := lvo_am hlv rfl
        have hcs := lvo_cs hlv
        match st, h1, hS, hl with
        | y :: x :: r, h1, hS, hl =>
          cases h1
          have hl' : r.length + 1 + 1 ≤ 64 := by
            have : (y :: x :: r).length = r.length + 1 + 1 := rfl
            omega
          obtain ⟨t1, t2⟩ := SM_top hS
          obtain ⟨t3, t4⟩ := SM_top t2
          have t1' : gi w 70 (r.length + 1) = y := t1
          have hxl : (y :: x :: r).length = r.length + 1 + 1 := rfl
          have kk : ∀ (v : Int32) (d : Nat), v = nI d → d < 256 → s.1 ≠ d → ¬ nI s.1 = v := fun v d hv hd hne y => hne ((nI_eq (by omega) (by omega)).mp (y.trans hv))
          have hm1 : nI (r.length + 1 + 1) + (-1 : Int32) = nI (r.length + 1) := by
            rw [← nI_pred (r.length + 1), Int32.sub_eq_add_neg]
          rw [ham, if_neg (kk 1 1 rfl (by omega) (by omega)), if_neg (kk 2 2 rfl (by omega) (by omega)), if_neg (kk 3 3 rfl (by omega) (by omega)), if_neg (kk 4 4 rfl (by omega) (by omega)), hxl, hm1, nI_pred, ldI_d (inb_nI (by omega) (by omega)), ix_nI (by omega), t3, ldI_d (inb_nI (by omega) (by omega)), ix_nI (by omega), t1', M_twoOf hlv, bR_s, saI_d (inb_nI (by omega) (by omega)), ix_nI (by omega)]
          unfold f_X12_worked_b182
          rw [nI_1]
          refine ⟨_, rfl, SM_push t4 _, eqo_si (eqo_rf w) rfl, ?_⟩
          show r.length + 1 ≤ r.length + 1 + 1 + _
          omega
      obtain ⟨w1, p1, p2, p3, p4⟩ := one
      obtain ⟨w2, q1, q2, q3⟩ := M_blk he ss n (k + 1) st1 st' w1 (fun s' h => hv s' (List.mem_cons_of_mem s h)) (by omega) (fun j hj => by
        rw [(p3 64 _ rfl).1, (p3 65 _ rfl).1, show k + 1 + j = k + (j + 1) by omega]; exact h64 (j + 1) (by omega)) (fun i hi => by rw [(p3 69 i rfl).1]; exact hF i hi) p2 (by omega) er'
      exact ⟨w2, p1.trans q1, q2, eqo_tr p3 q3⟩
theorem M_worked {F : Nat → Int32} {ss : List (Nat × Nat)} {a : Nat} {w : Wd} (ho : okB ss) (ha : a + ss.length ≤ 127) (h64 : ∀ j, j < ss.length → gi w 64 (a + j) = nI (am (ss.getD j (0, 0)).1) ∧ gi w 65 (a + j) = nI (ss.getD j (0, 0)).2) (hF : ∀ i, i < 6 → gi w 69 i = F i) : ∃ w', f_X12_worked 0 (nI a) (nI (a + ss.length)) w = some (vl F ss, w') ∧ eqo sEM w w' := by
  have hr := okB_run ho F
  have hnp := ho.1
  have hSM0 : SM [] w := fun i hi => absurd hi (Nat.not_lt_zero i)
  obtain ⟨m, hm⟩ : ∃ m, fu = (m + 1) + ss.length := ⟨299 - ss.length, by show 300 = _; omega⟩
  obtain ⟨w1, p1, p2, p3⟩ := M_blk (e := a + ss.length) ha ss (m + 1) a [] [vl F ss] w ho.2.1 rfl h64 hF hSM0 (by show 0 + _ ≤ 64; omega) hr
  refine ⟨w1, ?_, p3⟩
  unfold f_X12_worked
  have z0 : (130 : Int32) * 0 + nI a = nI a := by rw [show (130 : Int32) * 0 = nI 0 from rfl, nI_add, Nat.zero_add]
  rw [lt_d, z0, hm]
  refine Eq.trans p1 ?_
  show f_X12_worked_b12_y (f_X12_worked_b12 m) 0 (nI (a + ss.length)) (nI 1) (nI (a + ss.length)) w1 = _
  unfold f_X12_worked_b12_y
  have z1 : (130 : Int32) * 0 + nI (a + ss.length) = nI (a + ss.length) := by rw [show (130 : Int32) * 0 = nI 0 from rfl, nI_add, Nat.zero_add]
  rw [z1, if_pos (by rw [nI_leI (by omega) (by omega)]; omega), ldI_d (by decide), show ix 0 = 0 from rfl]
  have g0 : gi w1 70 0 = vl F ss := (SM_top p2).1
  rw [g0]
theorem M_gv {F : Nat → Int32} {J : Nat} (hJ : J ≤ 61) : ∀ (ls : List LN) (q j n : Nat) (w : Wd), (∀ l, l ∈ ls → okN l) → LK q j ls w → q + (flat ls).length ≤ 127 → j + ls.length = J → gi w 66 0 = nI J → (∀ i, i < 6 → gi w 69 i = F i) → ls.length < n → ∃ w', f_X12_gives_b7 n 0 (nI q) (nI j) w = some (evl F ls, w') ∧ eqo sEM w w'
  | ls, q, j, 0, w, _, _, _, _, _, _, hn => absurd hn (by omega)
  | [], q, j, n + 1, w, _, _, _, hj, h66, _, _ => by
    have hj' : j = J := hj
    refine ⟨w, ?_, eqo_rf w⟩
    show f_X12_gives_b7_y (f_X12_gives_b7 n) 0 (nI q) (nI j) w = _
    unfold f_X12_gives_b7_y
    have z1 : (61 : Int32) * 0 + nI J = nI J := by rw [show (61 : Int32) * 0 = nI 0 from rfl, nI_add, Nat.zero_add]
    rw [ldI_d (by decide), show ix 0 = 0 from rfl, h66, z1, if_pos (by rw [nI_leI (by omega) (by omega)]; omega)]
    rfl
  | l :: ls, q, j, n + 1, w, hok, hLK, hq, hj, h66, hF, hn => by
    have ho := hok l (List.mem_cons_self ..)
    obtain ⟨a1, a2, a3, a4⟩ := hLK
    rw [flat_len] at hq
    have hapl : (l.1 ++ l.2).length = l.1.length + l.2.length := List.length_append
    rw [hapl] at hq a3 a4
    have hj' : j + (ls.length + 1) = J := hj
    have hn' : ls.length + 1 < n + 1 := hn
    show ∃ w', f_X12_gives_b7_y (f_X12_gives_b7 n) 0 (nI q) (nI j) w = some (if l.1 = [] then vl F l.2 else if vl F l.1 = 0 then evl F ls else vl F l.2, w') ∧ eqo sEM w w'
    unfold f_X12_gives_b7_y
    have z1 : (61 : Int32) * 0 + nI J = nI J := by rw [show (61 : Int32) * 0 = nI 0 from rfl, nI_add, Nat.zero_add]
    rw [ldI_d (by decide), show ix 0 = 0 from rfl, h66, z1, if_neg (by rw [nI_leI (by omega) (by omega)]; omega), ldI_d (inb_nI (by omega) (by omega)), ix_nI (by omega), a1]
    have b2 : ∀ i, i < l.2.length → gi w 64 (q + l.1.length + i) = nI (am (l.2.getD i (0, 0)).1) ∧ gi w 65 (q + l.1.length + i) = nI (l.2.getD i (0, 0)).2 := by
      intro i hi
      have := a3 (l.1.length + i) (by omega)
      rw [getD_app, if_neg (by omega), show l.1.length + i - l.1.length = i by omega] at this
      rw [show q + l.1.length + i = q + (l.1.length + i) by omega]
      exact this
    have b1 : ∀ i, i < l.1.length → gi w 64 (q + i) = nI (am (l.1.getD i (0, 0)).1) ∧ gi w 65 (q + i) = nI (l.1.getD i (0, 0)).2 := by
      intro i hi
      have := a3 i (by omega)
      rw [getD_app, if_pos hi] at this
      exact this
    by_cases c1 : l.1 = []
    · have hl0 : l.1.length = 0 := by rw [c1]; rfl
      rw [if_pos c1, if_pos (by rw [nI_eq (by omega) (by omega)]; omega)]
      unfold f_X12_gives_b47
      rw [ldI_d (inb_nI (by omega) (by omega)), ix_nI (by omega), a1, ldI_d (inb_nI (by omega) (by omega)), ix_nI (by omega), a2]
      obtain ⟨w1, p1, p2⟩ := M_worked (F := F) (w := w) (a := q + l.1.length) ho.2 (by omega) b2 hF
      rw [p1, bW_s]
      exact ⟨w1, rfl, p2⟩
    · have hl0 : 0 < l.1.length := List.length_pos_iff.mpr c1
      have ho1 : okB l.1 := by
        rcases ho.1 with z | z
        · exact absurd z c1
        · exact z
      rw [if_neg c1, if_neg (by rw [nI_eq (by omega) (by omega)]; omega), ldI_d (inb_nI (by omega) (by omega)), ix_nI (by omega), a1]
      obtain ⟨w1, p1, p2⟩ := M_worked (F := F) (w := w) (a := q) ho1 (by omega) b1 hF
      rw [p1, bW_s]
      have a1' : gi w1 67 j = nI (q + l.1.length) := by rw [(p2 67 j rfl).1]; exact a1
      have a2' : gi w1 68 j = nI (q + l.1.length + l.2.length) := by rw [(p2 68 j rfl).1]; exact a2
      have hF1 : ∀ i, i < 6 → gi w1 69 i = F i := fun i hi => by rw [(p2 69 i rfl).1]; exact hF i hi
      by_cases cv : vl F l.1 = 0
      · rw [if_pos cv, if_pos cv, ldI_d (inb_nI (by omega) (by omega)), ix_nI (by omega), a2', nI_1]
        have a4' : LK (q + l.1.length + l.2.length) (j + 1) ls w1 := by
          refine LK_cg (w := w) (fun k _ => ⟨(p2 64 k rfl).1, (p2 65 k rfl).1⟩) (fun k _ => ⟨(p2 67 k rfl).1, (p2 68 k rfl).1⟩) ls _ _ ?_ (by omega) (by omega)
          rw [show q + l.1.length + l.2.length = q + (l.1.length + l.2.length) by omega]
          exact a4
        obtain ⟨w2, q1, q2⟩ := M_gv hJ ls (q + l.1.length + l.2.length) (j + 1) n w1 (fun l' h => hok l' (List.mem_cons_of_mem l h)) a4' (by omega) (by omega) (by rw [(p2 66 0 rfl).1]; exact h66) hF1 (by omega)
        exact ⟨w2, q1, eqo_tr p2 q2⟩
      · rw [if_neg cv, if_neg cv]
        unfold f_X12_gives_b47
        rw [ldI_d (inb_nI (by omega) (by omega)), ix_nI (by omega), a1', ldI_d (inb_nI (by omega) (by omega)), ix_nI (by omega), a2']
        obtain ⟨w2, q1, q2⟩ := M_worked (F := F) (w := w1) (a := q + l.1.length) ho.2 (by omega) (fun i hi => by rw [(p2 64 _ rfl).1, (p2 65 _ rfl).1]; exact b2 i hi) hF1
        rw [q1, bW_s]
        exact ⟨w2, rfl, eqo_tr p2 q2⟩
theorem M_gives {ls : List LN} {w : Wd} {F : Nat → Int32} (h : LMo (some ls) w) (hok : ∀ l, l ∈ ls → okN l) (hF : ∀ i, i < 6 → gi w 69 i = F i) : ∃ w', f_X12_gives 0 w = some (evl F ls, w') ∧ eqo sEM w w' := by
  obtain ⟨h1, h2, h3, h4, h5⟩ := h
  unfold f_X12_gives
  rw [lt_d, show (61 : Int32) * 0 = nI 0 from rfl]
  exact M_gv h4 ls 0 0 fu w hok h2 (by omega) (by omega) h3 hF (by show _ < 300; omega)
