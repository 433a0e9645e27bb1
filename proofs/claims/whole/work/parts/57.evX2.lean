/-! THE LAW: the class works a told law out -/
def vl (F : Nat → Int32) (ss : List (Nat × Nat)) : Int32 := match runs jn un F ss [] with
  | some (v :: _) => v
  | _ => 0
def evl (F : Nat → Int32) : List LN → Int32
  | [] => 0
  | l :: ls => if l.1 = [] then vl F l.2 else if vl F l.1 = 0 then evl F ls else vl F l.2
theorem okB_run {ss : List (Nat × Nat)} (h : okB ss) (F : Nat → Int32) : runs jn un F ss [] = some [vl F ss] := by
  obtain ⟨v, hv⟩ := h.2.2 jn un F
  have e := hv []
  unfold vl
  rw [e]
theorem X_end {n a i S : Nat} {v : Int32} {w : Wd} (hS : S ≤ 127) (h6 : gi w 6 6 = nI S) (ha : a < S) (hi : i ≤ a) (h9 : gi w 9 a = eX (59, 0)) (hst : SX [v] w) : ∃ w', f_X4_workOut_b56 (n + 1) (nI a) (nI i) w = some (v, w') ∧ eqo sEX w w' := by
  obtain ⟨w', p1, p2, p3⟩ := X_pop hst (by show 0 < 64; omega)
  refine ⟨w', ?_, p3⟩
  show f_X4_workOut_b56_y (f_X4_workOut_b56 n) (nI a) (nI i) w = _
  unfold f_X4_workOut_b56_y
  have n1 : ¬ nI S ≤ nI i := by rw [nI_leI (by omega) (by omega)]; omega
  have n2 : ¬ nI S ≤ nI a := by rw [nI_leI (by omega) (by omega)]; omega
  rw [h6, if_neg n1, if_neg n2, ldI_d (inb_nI (by omega) (by omega)), ix_nI (by omega), h9, lt_d, ldI_d (inb_nI (by omega) (by omega)), ix_nI (by omega), h9, lt_d]
  rw [if_pos (show ire (eX (59, 0)) 256 = 59 from by decide), p1, bW_s]
theorem eX_63 {T : Nat} (hT : T ≤ 127) : ire (eX (63, T)) 256 = nI 63 ∧ eX (63, T) / 256 = nI T := by
  unfold ire eX
  refine ⟨?_, ?_⟩
  · rw [show (256 : Int32) = nI 256 from rfl, pk_rem (by omega) (by omega) (by omega)]
    exact congrArg nI (by omega)
  · rw [show (256 : Int32) = nI 256 from rfl, pk_div (by omega) (by omega) (by omega)]
    exact congrArg nI (by omega)
theorem X_unl {n a i S T : Nat} {v : Int32} {w : Wd} (hS : S ≤ 127) (hT : T ≤ 127) (h6 : gi w 6 6 = nI S) (ha : a < S) (hi : i ≤ a) (h9 : gi w 9 a = eX (63, T)) (hst : SX [v] w) : ∃ w', f_X4_workOut_b56 (n + 1) (nI a) (nI i) w = f_X4_workOut_b56 n (nI (if v = 0 then T else a + 1)) (nI (i + 1)) w' ∧ SX [] w' ∧ eqo sEX w w' := by
  obtain ⟨w', p1, p2, p3⟩ := X_pop hst (by show 0 < 64; omega)
  refine ⟨w', ?_, p2, p3⟩
  show f_X4_workOut_b56_y (f_X4_workOut_b56 n) (nI a) (nI i) w = _
  unfold f_X4_workOut_b56_y
  have n1 : ¬ nI S ≤ nI i := by rw [nI_leI (by omega) (by omega)]; omega
  have n2 : ¬ nI S ≤ nI a := by rw [nI_leI (by omega) (by omega)]; omega
  rw [h6, if_neg n1, if_neg n2, ldI_d (inb_nI (by omega) (by omega)), ix_nI (by omega), h9, lt_d, ldI_d (inb_nI (by omega) (by omega)), ix_nI (by omega), h9, lt_d]
  obtain ⟨e1, e2⟩ := eX_63 hT
  rw [e1, e2, if_neg (show ¬ nI 63 = (59 : Int32) by decide), if_pos (show nI 63 = (63 : Int32) from rfl), p1, bW_s]
  unfold f_X4_workOut_b144
  by_cases hv : v = 0
  · rw [if_pos hv, if_pos hv, nI_1]
  · rw [if_neg hv, if_neg hv, nI_1, nI_1]
theorem X_ev {F : Nat → Int32} {S : Nat} (hS : S ≤ 127) : ∀ (ls : List LN) (q n i : Nat) (w : Wd), (∀ l, l ∈ ls → okN l) → gi w 6 6 = nI S → q + (encs q ls).length = S → (∀ j, j < (encs q ls).length → gi w 9 (q + j) = eX ((encs q ls).getD j (0, 0))) → (∀ i, i < 6 → gi w 10 i = F i) → SX [] w → i ≤ q → S - q < n → ∃ w', f_X4_workOut_b56 n (nI q) (nI i) w = some (evl F ls, w') ∧ eqo sEX w w'
  | [], q, 0, i, w, _, _, _, _, _, _, _, hn => absurd hn (by omega)
  | [], q, n + 1, i, w, _, h6, hq, _, _, _, hi, _ => by
    have hq' : q = S := by
      have : (encs q []).length = 0 := rfl
      omega
    refine ⟨w, ?_, eqo_rf w⟩
    show f_X4_workOut_b56_y (f_X4_workOut_b56 n) (nI q) (nI i) w = _
    unfold f_X4_workOut_b56_y
    by_cases c : S ≤ i
    · have n1 : nI S ≤ nI i := by rw [nI_leI (by omega) (by omega)]; omega
      rw [h6, if_pos n1]
      rfl
    · have n1 : ¬ nI S ≤ nI i := by rw [nI_leI (by omega) (by omega)]; omega
      have n2 : nI S ≤ nI q := by rw [nI_leI (by omega) (by omega)]; omega
      rw [h6, if_neg n1, if_pos n2]
      rfl
  | l :: ls, q, n, i, w, hok, h6, hq, h9, hF, hst, hi, hn => by
    have ho := hok l (List.mem_cons_self ..)
    have hee : encs q (l :: ls) = enc q l ++ encs (q + (enc q l).length) ls := rfl
    rw [hee] at hq h9
    have hapl : (enc q l ++ encs (q + (enc q l).length) ls).length = (enc q l).length + (encs (q + (enc q l).length) ls).length := List.length_append
    rw [hapl] at hq h9
    have h9a : ∀ j, j < (enc q l).length → gi w 9 (q + j) = eX ((enc q l).getD j (0, 0)) := by
      intro j hj
      rw [h9 j (by omega), getD_app, if_pos hj]
    have h9b : ∀ j, j < (encs (q + (enc q l).length) ls).length → gi w 9 (q + (enc q l).length + j) = eX ((encs (q + (enc q l).length) ls).getD j (0, 0)) := by
      intro j hj
      rw [show q + (enc q l).length + j = q + ((enc q l).length + j) by omega, h9 _ (by omega), getD_app, if_neg (by omega), show (enc q l).length + j - (enc q l).length = j by omega]
    show ∃ w', f_X4_workOut_b56 n (nI q) (nI i) w = some (if l.1 = [] then vl F l.2 else if vl F l.1 = 0 then evl F ls else vl F l.2, w') ∧ eqo sEX w w'
    by_cases c1 : l.1 = []
    · rw [if_pos c1]
      have he : enc q l = l.2 ++ [(59, 0)] := by unfold enc; rw [if_pos c1]
      have hel : (enc q l).length = l.2.length + 1 := by rw [he, List.length_append]; rfl
      have hr := okB_run ho.2 F
      obtain ⟨m, rfl⟩ : ∃ m, n = (m + 1) + l.2.length := ⟨n - 1 - l.2.length, by omega⟩
      obtain ⟨w1, p1, p2, p3⟩ := X_blk hS l.2 (m + 1) q i [] [vl F l.2] w ho.2.2.1 h6 (by omega) hi (fun j hj => by rw [h9a j (by omega), he, getD_app, if_pos hj]) hF hst (by have := ho.2.1; show 0 + _ ≤ 64; omega) hr
      have g9 : gi w1 9 (q + l.2.length) = eX (59, 0) := by
        rw [(p3 9 _ rfl).1, h9a _ (by omega), he, getD_app, if_neg (by omega), show l.2.length - l.2.length = 0 by omega]
        rfl
      obtain ⟨w2, q1, q2⟩ := X_end (n := m) (i := i + l.2.length) hS (by rw [(p3 6 6 rfl).1]; exact h6) (by omega) (by omega) g9 p2
      exact ⟨w2, p1.trans q1, eqo_tr p3 q2⟩
    · rw [if_neg c1]
      have ho1 : okB l.1 := by
        rcases ho.1 with z | z
        · exact absurd z c1
        · exact z
      have he : enc q l = (l.1 ++ (63, q + l.1.length + 1 + l.2.length + 1) :: l.2) ++ [(59, 0)] := by unfold enc; rw [if_neg c1]
      have hel : (enc q l).length = l.1.length + (l.2.length + 1) + 1 := by rw [he, List.length_append, List.length_append]; rfl
      have hal : (l.1 ++ (63, q + l.1.length + 1 + l.2.length + 1) :: l.2).length = l.1.length + (l.2.length + 1) := by rw [List.length_append]; rfl
      have hr1 := okB_run ho1 F
      have hr2 := okB_run ho.2 F
      obtain ⟨m, rfl⟩ : ∃ m, n = (m + 1) + l.1.length := ⟨n - 1 - l.1.length, by omega⟩
      obtain ⟨w1, p1, p2, p3⟩ := X_blk hS l.1 (m + 1) q i [] [vl F l.1] w ho1.2.1 h6 (by omega) hi (fun j hj => by rw [h9a j (by omega), he, getD_app, if_pos (by omega), getD_app, if_pos hj]) hF hst (by have := ho1.1; show 0 + _ ≤ 64; omega) hr1
      have g9 : gi w1 9 (q + l.1.length) = eX (63, q + l.1.length + 1 + l.2.length + 1) := by
        rw [(p3 9 _ rfl).1, h9a _ (by omega), he, getD_app, if_pos (by omega), getD_app, if_neg (by omega), show l.1.length - l.1.length = 0 by omega]
        rfl
      obtain ⟨w2, q1, q2, q3⟩ := X_unl (n := m) (i := i + l.1.length) hS (by omega) (by rw [(p3 6 6 rfl).1]; exact h6) (by omega) (by omega) g9 p2
      have e02 := eqo_tr p3 q3
      have h62 : gi w2 6 6 = nI S := by rw [(e02 6 6 rfl).1]; exact h6
      have hF2 : ∀ i, i < 6 → gi w2 10 i = F i := fun i hi => by rw [(e02 10 i rfl).1]; exact hF i hi
      by_cases cv : vl F l.1 = 0
      · rw [if_pos cv] at q1 ⊢
        have hT : q + l.1.length + 1 + l.2.length + 1 = q + (enc q l).length := by omega
        rw [hT] at q1
        obtain ⟨w3, r1, r2⟩ := X_ev hS ls (q + (enc q l).length) m (i + l.1.length + 1) w2 (fun l' h => hok l' (List.mem_cons_of_mem l h)) h62 (by omega) (fun j hj => by rw [(e02 9 _ rfl).1]; exact h9b j hj) hF2 q2 (by omega) (by omega)
        exact ⟨w3, (p1.trans q1).trans r1, eqo_tr e02 r2⟩
      · rw [if_neg cv] at q1 ⊢
        obtain ⟨m2, rfl⟩ : ∃ m2, m = (m2 + 1) + l.2.length := ⟨m - 1 - l.2.length, by omega⟩
        obtain ⟨w3, r1, r2, r3⟩ := X_blk hS l.2 (m2 + 1) (q + l.1.length + 1) (i + l.1.length + 1) [] [vl F l.2] w2 ho.2.2.1 h62 (by omega) (by omega) (fun j hj => by
          rw [(e02 9 _ rfl).1, show q + l.1.length + 1 + j = q + (l.1.length + (j + 1)) by omega, h9a _ (by omega), he, getD_app, if_pos (by omega), getD_app, if_neg (by omega), show l.1.length + (j + 1) - l.1.length = j + 1 by omega]
          rfl) hF2 q2 (by have := ho.2.1; show 0 + _ ≤ 64; omega) hr2
        have g92 : gi w3 9 (q + l.1.length + 1 + l.2.length) = eX (59, 0) := by
          rw [(r3 9 _ rfl).1, (e02 9 _ rfl).1, show q + l.1.length + 1 + l.2.length = q + (l.1.length + (l.2.length + 1)) by omega, h9a _ (by omega), he, getD_app, if_neg (by omega), hal, show l.1.length + (l.2.length + 1) - (l.1.length + (l.2.length + 1)) = 0 by omega]
          rfl
        obtain ⟨w4, s1, s2⟩ := X_end (n := m2) (i := i + l.1.length + 1 + l.2.length) hS (by rw [(r3 6 6 rfl).1]; exact h62) (by omega) (by omega) g92 r2
        exact ⟨w4, (p1.trans q1).trans (r1.trans s1), eqo_tr e02 (eqo_tr r3 s2)⟩
def fct (s t l h n k : Int32) (i : Nat) : Int32 := if i = 0 then s else if i = 1 then t else if i = 2 then l else if i = 3 then h else if i = 4 then n else k
def sEY (c k : Nat) : Bool := c == 10 || c == 11 || (c == 6 && k == 9)
theorem sEX_Y : ∀ c k, sEX c k = true → sEY c k = true := by
  intro c k h
  simp only [sEX, sEY, Bool.or_eq_true, Bool.and_eq_true, beq_iff_eq] at h ⊢
  omega
theorem X_work {ls : List LN} {w : Wd} (h : LXo (some ls) w) (hok : ∀ l, l ∈ ls → okN l) (s t l h' n k : Int32) : ∃ w', f_X4_workOut s t l h' n k w = some (evl (fct s t l h' n k) ls, w') ∧ eqo sEY w w' := by
  obtain ⟨h1, h2, h3⟩ := h
  unfold f_X4_workOut
  rw [saI_d (by decide), saI_d (by decide), saI_d (by decide), saI_d (by decide), saI_d (by decide), saI_d (by decide), stI_d]
  rw [show ix 0 = 0 from rfl, show ix 1 = 1 from rfl, show ix 2 = 2 from rfl, show ix 3 = 3 from rfl, show ix 4 = 4 from rfl, show ix 5 = 5 from rfl]
  have E : eqo sEY w (si (si (si (si (si (si (si w 10 0 s) 10 1 t) 10 2 l) 10 3 h') 10 4 n) 10 5 k) 6 9 0) := eqo_si (eqo_si (eqo_si (eqo_si (eqo_si (eqo_si (eqo_si (eqo_rf w) rfl) rfl) rfl) rfl) rfl) rfl) rfl
  have hFF : ∀ i, i < 6 → gi (si (si (si (si (si (si (si w 10 0 s) 10 1 t) 10 2 l) 10 3 h') 10 4 n) 10 5 k) 6 9 0) 10 i = fct s t l h' n k i := by
    intro i hi
    simp only [gi_si]
    unfold fct
    have : i = 0 ∨ i = 1 ∨ i = 2 ∨ i = 3 ∨ i = 4 ∨ i = 5 := by omega
    rcases this with z | z | z | z | z | z <;> subst z <;> simp
  have hst : SX [] (si (si (si (si (si (si (si w 10 0 s) 10 1 t) 10 2 l) 10 3 h') 10 4 n) 10 5 k) 6 9 0) := ⟨by rw [gi_si, if_pos ⟨rfl, rfl⟩]; rfl, fun i hi => absurd hi (Nat.not_lt_zero i)⟩
  generalize si (si (si (si (si (si (si w 10 0 s) 10 1 t) 10 2 l) 10 3 h') 10 4 n) 10 5 k) 6 9 0 = w1 at E hFF hst
  obtain ⟨w2, p1, p2⟩ := X_ev (F := fct s t l h' n k) h2 ls 0 fu 0 w1 hok (by rw [(E 6 6 rfl).1]; exact h1) (by omega) (fun j hj => by rw [(E 9 _ rfl).1, Nat.zero_add]; exact h3 j hj) hFF hst (by omega) (by show _ < 300; omega)
  exact ⟨w2, p1, eqo_tr E (eqo_mono p2 sEX_Y)⟩
