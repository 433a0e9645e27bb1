/-! HOW WELL ONE LOOKS: the views of both sides; twelfths, findsBy -/
abbrev Ab : Type := Nat × (Nat → Nat → Nat) × Option (List LN)
abbrev Ab.L (A : Ab) : Nat := A.1
abbrev Ab.nv (A : Ab) : Nat → Nat → Nat := A.2.1
abbrev Ab.o (A : Ab) : Option (List LN) := A.2.2
def nhi (q : Nat) : Nat := if q ≤ 3 then 9 else if q = 4 then 99 else if q = 5 then 12 else if q = 6 then 99 else if q ≤ 9 then 9 else if q = 10 then 999 else 12
def Aok (A : Ab) : Prop := A.L ≤ 6 ∧ (∀ q r, okq q r → A.nv q r ≤ nhi q) ∧ 1 ≤ A.nv 9 0 ∧ okO A.o
def VX (A : Ab) (w : Wd) : Prop := Aok A ∧ gi w 1 1 = nI A.L ∧ (∀ q r, okq q r → gi w 2 (slt q r) = nI (A.nv q r)) ∧ LXo A.o w
def VM (A : Ab) (w : Wd) : Prop := Aok A ∧ gi w 54 3 = nI A.L ∧ (∀ q r, okq q r → gi w (mc q) (mi q r) = nI (A.nv q r)) ∧ LMo A.o w
/-- the cells of no lasting meaning -/
def scr (c k : Nat) : Bool := c == 10 || c == 11 || (c == 6 && k == 9) || (13 ≤ c && c ≤ 30) || c == 36 || (69 ≤ c && c ≤ 77) || (c == 54 && (k == 32 || k == 33 || k == 34 || k == 38 || k == 42 || k == 43 || k == 44))
theorem view {L dn um : Nat} {t : Nat → Nat} {tp : Nat} {o : Option (List LN)} {w : Wd} (hN : NR L dn um w) (hL : LR t tp o w) : ∃ A, A.L = L ∧ VX A w ∧ VM A w := by
  obtain ⟨h1, h2, h3, h4, h5, h6, h7, h8, h9, h10⟩ := hN
  obtain ⟨l1, l2, l3, l4, l5⟩ := hL
  have key : ∀ q r, okq q r → gi w 2 (slt q r) = nI (ix (gi w 2 (slt q r))) ∧ ix (gi w 2 (slt q r)) ≤ nhi q ∧ (q = 9 → 1 ≤ ix (gi w 2 (slt q r))) := by
    intro q r hq
    obtain ⟨a, b, c⟩ := h9 q r hq
    have hq11 := hq.1
    have e1 : qhi q = (nhi q : Int) := by
      unfold qhi nhi
      repeat' split
      all_goals rfl
    have e2 : (0 : Int) ≤ qlo q ∧ (q = 9 → qlo q = 1) := by
      unfold qlo
      by_cases z : q = 9
      · rw [if_pos z]; exact ⟨by omega, fun _ => rfl⟩
      · rw [if_neg z]; exact ⟨by omega, fun y => absurd y z⟩
    have e3 : nhi q ≤ 999 := by
      unfold nhi
      repeat' split
      all_goals omega
    obtain ⟨n, hn, en⟩ := of_inb (i := gi w 2 (slt q r)) (N := 1000) ⟨by omega, by omega⟩
    rw [en] at b c ⊢
    have tn := nI_toInt (n := n) (by omega)
    rw [tn] at b c
    rw [ix_nI (by omega)]
    exact ⟨rfl, by omega, fun z => by have := e2.2 z; omega⟩
  have hA : Aok ⟨L, fun q r => ix (gi w 2 (slt q r)), o⟩ := ⟨h1, fun q r hq => (key q r hq).2.1, (key 9 0 ⟨by omega, by omega, by omega, by omega⟩).2.2 rfl, l5⟩
  exact ⟨⟨L, fun q r => ix (gi w 2 (slt q r)), o⟩, rfl, ⟨hA, h2, fun q r hq => (key q r hq).1, l3⟩, ⟨hA, h3, fun q r hq => by rw [← (h9 q r hq).1]; exact (key q r hq).1, l4⟩⟩
/-- cells of the class's view, of the model's view -/
def aVX (c k : Nat) : Bool := c == 1 || c == 2 || (c == 6 && k == 6) || c == 9
def aVM (c k : Nat) : Bool := (c == 54 && (k == 3 || (6 ≤ k && k ≤ 10) || k == 30)) || (55 ≤ c && c ≤ 58) || (64 ≤ c && c ≤ 68)
theorem VX_cg {A : Ab} {w w' : Wd} (h : VX A w) (he : ∀ c k, aVX c k = true → gi w' c k = gi w c k) : VX A w' := ⟨h.1, (he 1 1 rfl).trans h.2.1, fun q r hq => (he 2 _ rfl).trans (h.2.2.1 q r hq), LXo_cg h.2.2.2 (he 6 6 rfl) (fun i => he 9 i rfl)⟩
theorem VM_cg {A : Ab} {w w' : Wd} (h : VM A w) (he : ∀ c k, aVM c k = true → gi w' c k = gi w c k) : VM A w' := by
  refine ⟨h.1, (he 54 3 rfl).trans h.2.1, fun q r hq => (he _ _ ?_).trans (h.2.2.1 q r hq), LMo_cg h.2.2.2 (he 54 30 rfl) (he 66 0 rfl) (fun k _ => ⟨he 64 k rfl, he 65 k rfl⟩) (fun k _ => ⟨he 67 k rfl, he 68 k rfl⟩)⟩
  rcases mc_rng q with e | e | e | e | e
  · have := mi_54 hq e
    rw [e]
    simp [aVM]
    omega
  all_goals rw [e]; simp [aVM]
theorem scr_VX : ∀ c k, aVX c k = true → scr c k = false := by
  intro c k h
  cases hs : scr c k with
  | false => rfl
  | true =>
    simp only [aVX, scr, Bool.or_eq_true, Bool.and_eq_true, beq_iff_eq, decide_eq_true_eq] at h hs
    omega
theorem scr_VM : ∀ c k, aVM c k = true → scr c k = false := by
  intro c k h
  cases hs : scr c k with
  | false => rfl
  | true =>
    simp only [aVM, scr, Bool.or_eq_true, Bool.and_eq_true, beq_iff_eq, decide_eq_true_eq] at h hs
    omega
theorem VX_s {A : Ab} {w w' : Wd} (h : VX A w) (he : eqo scr w w') : VX A w' := VX_cg h (fun c k z => (he c k (scr_VX c k z)).1)
theorem VM_s {A : Ab} {w w' : Wd} (h : VM A w) (he : eqo scr w w') : VM A w' := VM_cg h (fun c k z => (he c k (scr_VM c k z)).1)
theorem VX_get {A : Ab} {w : Wd} (h : VX A w) {q r : Nat} (ho : okq q r) (hr : 5 ≤ q → q ≤ 6 → r < A.L) : f_X6_get (nI r) (nI q) w = some (nI (A.nv q r)) := by
  rw [X_get_ok h.2.1 h.1.1 ho hr, h.2.2.1 q r ho]
theorem ok9 : okq 9 0 := ⟨by omega, by omega, by omega, by omega⟩
theorem ok0 {q : Nat} (h : 7 ≤ q) (h2 : q ≤ 11) : okq q 0 := ⟨h2, by omega, by omega, fun _ => rfl⟩
theorem okL {q r : Nat} (h : q = 5 ∨ q = 6) (h2 : r < 6) : okq q r := ⟨by omega, by omega, by omega, by omega⟩
theorem okb {q r : Nat} (h : q ≤ 4) (h2 : r < 4) : okq q r := ⟨by omega, by omega, by omega, by omega⟩
theorem VX_5 {A : Ab} {w : Wd} (h : VX A w) {k : Nat} (hk : k < A.L) : f_X6_get (nI k) 5 w = some (nI (A.nv 5 k)) := VX_get (q := 5) h (okL (Or.inl rfl) (Nat.lt_of_lt_of_le hk h.1.1)) (fun _ _ => hk)
theorem VX_6 {A : Ab} {w : Wd} (h : VX A w) {k : Nat} (hk : k < A.L) : f_X6_get (nI k) 6 w = some (nI (A.nv 6 k)) := VX_get (q := 6) h (okL (Or.inr rfl) (Nat.lt_of_lt_of_le hk h.1.1)) (fun _ _ => hk)
theorem VX_7 {A : Ab} {w : Wd} (h : VX A w) : f_X6_get 0 7 w = some (nI (A.nv 7 0)) := VX_get (q := 7) (r := 0) h (ok0 (by omega) (by omega)) (by omega)
theorem VX_8 {A : Ab} {w : Wd} (h : VX A w) : f_X6_get 0 8 w = some (nI (A.nv 8 0)) := VX_get (q := 8) (r := 0) h (ok0 (by omega) (by omega)) (by omega)
theorem VX_9 {A : Ab} {w : Wd} (h : VX A w) : f_X6_get 0 9 w = some (nI (A.nv 9 0)) := VX_get (q := 9) (r := 0) h (ok0 (by omega) (by omega)) (by omega)
theorem VX_10 {A : Ab} {w : Wd} (h : VX A w) : f_X6_get 0 10 w = some (nI (A.nv 10 0)) := VX_get (q := 10) (r := 0) h (ok0 (by omega) (by omega)) (by omega)
theorem VX_11 {A : Ab} {w : Wd} (h : VX A w) : f_X6_get 0 11 w = some (nI (A.nv 11 0)) := VX_get (q := 11) (r := 0) h (ok0 (by omega) (by omega)) (by omega)
def cl (x : Int32) : Int32 := imax 0 (imin 12 x)
theorem cl_ok (x : Int32) : ∃ m, m ≤ 12 ∧ cl x = nI m := by
  unfold cl imax imin
  by_cases h1 : x < 12
  · rw [if_pos h1]
    by_cases h2 : (0 : Int32) < x
    · rw [if_pos h2]
      rw [fa_lt] at h1 h2
      obtain ⟨n, hn, e⟩ := of_inb (i := x) (N := 12) ⟨by rw [ti_0] at h2; omega, by rw [ti_12] at h1; omega⟩
      exact ⟨n, by omega, e⟩
    · rw [if_neg h2]; exact ⟨0, by omega, rfl⟩
  · rw [if_neg h1]
    exact ⟨12, by omega, by rw [if_pos (by decide)]; rfl⟩
def twI (A : Ab) (k : Nat) (n h : Int32) : Int32 := cl (match A.o with
  | none => nI (A.nv 5 k) - nI (A.nv 7 0) - h + 1
  | some ls => evl (fct (nI (A.nv 5 k)) (nI (A.nv 7 0)) (nI (A.nv 8 0)) h n (nI k)) ls)
def twv (A : Ab) (k : Nat) (n h : Int32) : Nat := ix (twI A k n h)
theorem tw_I (A : Ab) (k : Nat) (n h : Int32) : twI A k n h = nI (twv A k n h) ∧ twv A k n h ≤ 12 := by
  obtain ⟨m, hm, e⟩ := cl_ok (match A.o with
  | none => nI (A.nv 5 k) - nI (A.nv 7 0) - h + 1
  | some ls => evl (fct (nI (A.nv 5 k)) (nI (A.nv 7 0)) (nI (A.nv 8 0)) h n (nI k)) ls)
  have e' : twI A k n h = nI m := e
  unfold twv
  rw [e', ix_nI (by omega)]
  exact ⟨rfl, hm⟩
theorem sEY_s : ∀ c k, sEY c k = true → scr c k = true := by
  intro c k h
  simp only [sEY, scr, Bool.or_eq_true, Bool.and_eq_true, beq_iff_eq, decide_eq_true_eq] at h ⊢
  omega
def sEZ (c _k : Nat) : Bool := c == 69 || c == 70
theorem X_twIn {A : Ab} {w : Wd} (h : VX A w) {k : Nat} (hk : k < A.L) (n hh : Int32) : ∃ w', f_X11_twelfthsIn (nI k) n hh w = some (nI (twv A k n hh), w') ∧ eqo sEY w w' := by
  have h6 := h.1.1
  unfold f_X11_twelfthsIn f_X11_twelfthsIn_b73
  rw [VX_5 h hk, bR_s, VX_7 h, bR_s, VX_8 h, bR_s]
  obtain ⟨t1, _⟩ := tw_I A k n hh
  rw [← t1]
  unfold f_X4_isTold twI cl
  have hX := h.2.2.2
  have hok := h.1.2.2.2
  cases ho : A.o with
  | none =>
    rw [ho] at hX
    have h66 : gi w 6 6 = 0 := hX
    rw [h66, if_pos (by decide), bR_s, if_pos rfl]
    exact ⟨w, rfl, eqo_rf w⟩
  | some ls =>
    rw [ho] at hX
    obtain ⟨o1, o2⟩ := hok ls ho
    have hX' : LXo (some ls) w := hX
    obtain ⟨x1, x2, x3⟩ := hX
    have hlen : 0 < (encs 0 ls).length := by
      cases ls with
      | nil => exact absurd rfl o1
      | cons l ls' =>
        have := enc_ge 0 l
        show 0 < (enc 0 l ++ encs (0 + (enc 0 l).length) ls').length
        rw [List.length_append]
        omega
    have n1 : ¬ nI (encs 0 ls).length ≤ (0 : Int32) := by rw [show (0 : Int32) = nI 0 from rfl, nI_leI (by omega) (by omega)]; omega
    rw [x1, if_neg n1, bR_s, if_neg (show ¬ (1 : Int32) = 0 by decide)]
    obtain ⟨w', p1, p2⟩ := X_work hX' o2 (nI (A.nv 5 k)) (nI (A.nv 7 0)) (nI (A.nv 8 0)) hh n (nI k)
    rw [p1, bW_s]
    exact ⟨w', rfl, p2⟩
theorem X_tw {A : Ab} {w : Wd} (h : VX A w) {k : Nat} (hk : k < A.L) (n : Int32) : ∃ w', f_X11_twelfths (nI k) n w = some (nI (twv A k n (nI (A.nv 9 0))), w') ∧ eqo sEY w w' := by
  unfold f_X11_twelfths
  rw [VX_9 h, bR_s]
  obtain ⟨w', p1, p2⟩ := X_twIn h hk n (nI (A.nv 9 0))
  rw [p1, bW_s]
  exact ⟨w', rfl, p2⟩
theorem M_84 (x : Int32) (w : Wd) : f_X12_findsBy_b84 x w = some (cl x, w) := by
  unfold f_X12_findsBy_b84 cl imax imin
  have t12 : Int32.toInt 12 = 12 := rfl
  simp only [fa_lt, fa_le, fa_eq, inb, ti_m14, ti_m13, ti_m12, ti_m11, ti_m10, ti_m9, ti_m8, ti_m7, ti_m6, ti_m5, ti_m4, ti_m3, ti_m2, ti_m1, ti_0, ti_1, ti_2, ti_3, ti_4, ti_5, ti_6, ti_7, ti_8, ti_9, ti_10, ti_11, ti_12, ti_13, ti_14, ti_15, ti_16, ti_17, ti_18, ti_19, ti_20, ti_21, ti_22, ti_23, ti_24, ti_25, ti_26, ti_27, ti_28, ti_29, ti_30, ti_31, ti_32, ti_33, ti_34, ti_35, ti_36, ti_37, ti_38, ti_39, ti_40, ti_41, ti_42, ti_43, ti_44, ti_45, ti_46, ti_47, ti_48, ti_49, ti_50, ti_51, ti_52, ti_53, ti_54, ti_55, ti_56, ti_57, ti_58, ti_59, ti_60, ti_61, ti_62, ti_63, ti_64, ti_99, ti_100, ti_120, ti_122, ti_124, ti_128, ti_130, ti_255, ti_256, ti_260, ti_360, ti_999, ti_1000, ti_9999, ti_10000]
  repeat' split
  all_goals first | rfl | (exfalso; omega) | skip
  all_goals (congr 2; apply Int32.toInt_inj.mp; simp only [fa_lt, fa_le, fa_eq, inb, ti_m14, ti_m13, ti_m12, ti_m11, ti_m10, ti_m9, ti_m8, ti_m7, ti_m6, ti_m5, ti_m4, ti_m3, ti_m2, ti_m1, ti_0, ti_1, ti_2, ti_3, ti_4, ti_5, ti_6, ti_7, ti_8, ti_9, ti_10, ti_11, ti_12, ti_13, ti_14, ti_15, ti_16, ti_17, ti_18, ti_19, ti_20, ti_21, ti_22, ti_23, ti_24, ti_25, ti_26, ti_27, ti_28, ti_29, ti_30, ti_31, ti_32, ti_33, ti_34, ti_35, ti_36, ti_37, ti_38, ti_39, ti_40, ti_41, ti_42, ti_43, ti_44, ti_45, ti_46, ti_47, ti_48, ti_49, ti_50, ti_51, ti_52, ti_53, ti_54, ti_55, ti_56, ti_57, ti_58, ti_59, ti_60, ti_61, ti_62, ti_63, ti_64, ti_99, ti_100, ti_120, ti_122, ti_124, ti_128, ti_130, ti_255, ti_256, ti_260, ti_360, ti_999, ti_1000, ti_9999, ti_10000]; omega)
theorem M_tw {A : Ab} {w : Wd} (h : VM A w) {k : Nat} (hk : k < A.L) (n hh : Int32) : ∃ w', f_X12_findsBy (nI k) n hh w = some (nI (twv A k n hh), w') ∧ eqo sEZ w w' := by
  have h6 := h.1.1
  have g5 : gi w 57 k = nI (A.nv 5 k) := h.2.2.1 5 k (okL (Or.inl rfl) (by omega))
  have g7 : gi w 54 6 = nI (A.nv 7 0) := h.2.2.1 7 0 (ok0 (by omega) (by omega))
  have g8 : gi w 54 7 = nI (A.nv 8 0) := h.2.2.1 8 0 (ok0 (by omega) (by omega))
  unfold f_X12_findsBy
  rw [ldI_d (inb_nI (by omega) (by omega)), ix_nI (by omega), g5, lt_d, g7]
  obtain ⟨t1, _⟩ := tw_I A k n hh
  rw [← t1]
  unfold twI
  have hM := h.2.2.2
  have hok := h.1.2.2.2
  cases ho : A.o with
  | none =>
    rw [ho] at hM
    have h30 : gi w 54 30 = 0 := hM
    rw [h30, if_pos rfl, M_84]
    exact ⟨w, rfl, eqo_rf w⟩
  | some ls =>
    rw [ho] at hM
    obtain ⟨o1, o2⟩ := hok ls ho
    have h30 : gi w 54 30 = 1 := hM.1
    rw [h30, if_neg (show ¬ (1 : Int32) = 0 by decide), ldI_d (inb_nI (by omega) (by omega)), ix_nI (by omega), g5]
    rw [saI_d (by decide), saI_d (by decide), saI_d (by decide), saI_d (by decide), saI_d (by decide), saI_d (by decide)]
    rw [show ix 0 = 0 from rfl, show ix 1 = 1 from rfl, show ix 2 = 2 from rfl, show ix 3 = 3 from rfl, show ix 4 = 4 from rfl, show ix 5 = 5 from rfl]
    have q6 : gi (si w 69 0 (nI (A.nv 5 k))) 54 6 = nI (A.nv 7 0) := by rw [gi_si, if_neg (by omega)]; exact g7
    have q7 : gi (si (si w 69 0 (nI (A.nv 5 k))) 69 1 (nI (A.nv 7 0))) 54 7 = nI (A.nv 8 0) := by rw [gi_si, if_neg (by omega), gi_si, if_neg (by omega)]; exact g8
    rw [q6, q7]
    have E : eqo sEZ w (si (si (si (si (si (si w 69 0 (nI (A.nv 5 k))) 69 1 (nI (A.nv 7 0))) 69 2 (nI (A.nv 8 0))) 69 3 hh) 69 4 n) 69 5 (nI k)) := eqo_si (eqo_si (eqo_si (eqo_si (eqo_si (eqo_si (eqo_rf w) rfl) rfl) rfl) rfl) rfl) rfl
    have hFF : ∀ i, i < 6 → gi (si (si (si (si (si (si w 69 0 (nI (A.nv 5 k))) 69 1 (nI (A.nv 7 0))) 69 2 (nI (A.nv 8 0))) 69 3 hh) 69 4 n) 69 5 (nI k)) 69 i = fct (nI (A.nv 5 k)) (nI (A.nv 7 0)) (nI (A.nv 8 0)) hh n (nI k) i := by
      intro i hi
      simp only [gi_si]
      unfold fct
      have : i = 0 ∨ i = 1 ∨ i = 2 ∨ i = 3 ∨ i = 4 ∨ i = 5 := by omega
      rcases this with z | z | z | z | z | z <;> subst z <;> simp
    generalize si (si (si (si (si (si w 69 0 (nI (A.nv 5 k))) 69 1 (nI (A.nv 7 0))) 69 2 (nI (A.nv 8 0))) 69 3 hh) 69 4 n) 69 5 (nI k) = w1 at E hFF
    have hM1 : LMo (some ls) w1 := LMo_cg hM (E 54 30 rfl).1 (E 66 0 rfl).1 (fun i _ => ⟨(E 64 i rfl).1, (E 65 i rfl).1⟩) (fun i _ => ⟨(E 67 i rfl).1, (E 68 i rfl).1⟩)
    obtain ⟨w2, p1, p2⟩ := M_gives hM1 o2 hFF
    rw [p1, bW_s, M_84]
    refine ⟨w2, rfl, eqo_tr E (eqo_mono p2 ?_)⟩
    intro c k z
    simp only [sEM, sEZ, Bool.or_eq_true, beq_iff_eq] at z ⊢
    omega
theorem sEZ_s : ∀ c k, sEZ c k = true → scr c k = true := by
  intro c k h
  simp only [sEZ, scr, Bool.or_eq_true, Bool.and_eq_true, beq_iff_eq, decide_eq_true_eq] at h ⊢
  omega
theorem T_finds {A : Ab} {w : Wd} (hX : VX A w) (hM : VM A w) (a1 a2 : Int32) : ∃ r w1 w2, f_X11_finds a1 a2 w = some (r, w1) ∧ f_X12_finds a1 a2 w1 = some (r, w2) ∧ eqo scr w w2 := by
  unfold f_X11_finds f_X12_finds
  have h6 := hX.1.1
  rw [X_isLooker hX.2.1 h6, bR_s, ite_b2i]
  by_cases hl : inb a1 A.L
  · rw [if_pos hl]
    obtain ⟨k, hk, rfl⟩ := of_inb hl
    have tl := nI_toInt (n := k) (by omega)
    by_cases h9 : (0 : Int32).toInt ≤ a2.toInt ∧ a2.toInt ≤ (9 : Int32).toInt
    · obtain ⟨z1, z2⟩ := h9
      rw [if_neg (by rw [fa_lt]; omega), if_pos (by rw [fa_le]; omega)]
      obtain ⟨w1, p1, p2⟩ := X_tw hX hk a2
      rw [p1, bW_s]
      have hM1 := VM_s hM (eqo_mono p2 sEY_s)
      have g9 : gi w1 54 8 = nI (A.nv 9 0) := hM1.2.2.1 9 0 ok9
      obtain ⟨w2, q1, q2⟩ := M_tw hM1 hk a2 (nI (A.nv 9 0))
      refine ⟨_, _, w2, rfl, ?_, eqo_tr (eqo_mono p2 sEY_s) (eqo_mono q2 sEZ_s)⟩
      rw [M_isLooker hM1.2.1 h6, bR_s, ite_b2i, if_pos hl, M_in, bR_s, ite_b2i, if_pos ⟨z1, z2⟩, g9, q1, bW_s]
    · refine ⟨-1, w, w, ?_, ?_, eqo_rf w⟩
      · by_cases c : a2 < 0
        · rw [if_pos c]
        · rw [if_neg c, if_neg ?_]
          rw [fa_lt] at c
          rw [fa_le]
          omega
      · rw [M_isLooker hM.2.1 h6, bR_s, ite_b2i, if_pos hl, M_in, bR_s, ite_b2i, if_neg h9]
  · rw [if_neg hl]
    refine ⟨-1, w, w, rfl, ?_, eqo_rf w⟩
    rw [M_isLooker hM.2.1 h6, bR_s, ite_b2i, if_neg hl]
