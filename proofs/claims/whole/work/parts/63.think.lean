/-! LOOKS IN THOUGHT: think, goLooks; left, mean -/
def thk (A : Ab) : Int32 := nI (A.nv 9 0)
def lad (A : Ab) (e : Nat → Int) (b : Nat) : Nat → (Nat → Nat)
  | 0 => p0 A b
  | d + 1 => stepN (lad A e b d) (twv A (e (2 * d)).toNat (nI d) (thk A)) (e (2 * d + 1)).toNat
theorem bin_le : ∀ sh, sh < 13 → ∀ f, f < 4 → ∀ j, j < 4 → j + f ≤ 3 → chs (j + f) f * sh ^ f * (12 - sh) ^ j ≤ 12 ^ (j + f) := by decide +kernel
theorem stepN_le {p : Nat → Nat} {B sh f : Nat} (hp : ∀ j, j < 4 → p j ≤ B) (hsh : sh ≤ 12) (j : Nat) (hj : j < 4) : stepN p sh f j ≤ B * 1728 := by
  unfold stepN
  by_cases c : j + f ≤ 3
  · rw [if_pos c]
    have h1 := bin_le sh (by omega) f (by omega) j hj c
    have h2 := hp (j + f) (by omega)
    have h3 : p (j + f) * (chs (j + f) f * sh ^ f * (12 - sh) ^ j) ≤ B * 12 ^ (j + f) := Nat.mul_le_mul h2 h1
    have h4 : p (j + f) * (chs (j + f) f * sh ^ f * (12 - sh) ^ j) * 12 ^ (3 - (j + f)) ≤ B * 12 ^ (j + f) * 12 ^ (3 - (j + f)) := Nat.mul_le_mul_right _ h3
    rw [Nat.mul_assoc B, ← Nat.pow_add, show j + f + (3 - (j + f)) = 3 by omega] at h4
    exact h4
  · rw [if_neg c]
    exact Nat.zero_le _
theorem lad_le {A : Ab} (h : Aok A) {e : Nat → Int} {b : Nat} (hb : b < 4) : ∀ d j, j < 4 → lad A e b d j ≤ 9 * 1728 ^ d
  | 0, j, hj => by
    have := p0_le h hb hj
    show p0 A b j ≤ _
    omega
  | d + 1, j, hj => by
    have := stepN_le (p := lad A e b d) (f := (e (2 * d + 1)).toNat) (fun j hj => lad_le h hb d j hj) (tw_I A (e (2 * d)).toNat (nI d) (thk A)).2 j hj
    rw [Nat.pow_succ, ← Nat.mul_assoc]
    exact this
theorem pw4 {d : Nat} (hd : d ≤ 4) : 1728 ^ d ≤ 8916100448256 := by
  have := Nat.pow_le_pow_right (n := 1728) (by omega) hd
  have e : 1728 ^ 4 = 8916100448256 := by decide
  omega
theorem lad_b {A : Ab} (h : Aok A) {e : Nat → Int} {b : Nat} (hb : b < 4) {d : Nat} (hd : d ≤ 4) : (∀ j, j < 4 → lad A e b d j ≤ 9 * 8916100448256) ∧ sumN (lad A e b d) ≤ 36 * 8916100448256 ∧ stoN (lad A e b d) ≤ 54 * 8916100448256 := by
  have key : ∀ j, j < 4 → lad A e b d j ≤ 9 * 8916100448256 := fun j hj => by
    have := lad_le h (e := e) hb d j hj
    have := pw4 hd
    omega
  have h0 := key 0 (by omega)
  have h1 := key 1 (by omega)
  have h2 := key 2 (by omega)
  have h3 := key 3 (by omega)
  refine ⟨key, ?_, ?_⟩
  · unfold sumN; omega
  · unfold stoN; omega
theorem sPT_s {c d : Nat} (hc : (13 ≤ c ∧ c ≤ 30) ∨ c = 71) : ∀ c' k, sPT c d c' k = true → scr c' k = true := by
  intro c' k h
  simp only [sPT, scr, Bool.or_eq_true, Bool.and_eq_true, beq_iff_eq, decide_eq_true_eq] at h ⊢
  omega
theorem LKX_cg {m : Nat} {e : Nat → Int} {w w' : Wd} (h : LKX m e w) (h1 : gi w' 13 2 = gi w 13 2) (h2 : ∀ i, gi w' 14 i = gi w 14 i) (h3 : ∀ i, gi w' 15 i = gi w 15 i) : LKX m e w' := ⟨h1.trans h.1, fun i hi => ⟨(h2 i).trans (h.2 i hi).1, (h3 i).trans (h.2 i hi).2⟩⟩
theorem X_thk {A : Ab} {sz b m : Nat} {e : Nat → Int} (hm : m ≤ 4) (hc : ∀ i, i < m → lkc A.L sz e false i) : ∀ (f n i : Nat) (w : Wd), i + f = m → f < n → VX A w → LKX m e w → PT 17 i (lad A e b i) w → PT 17 0 (p0 A b) w → ∃ w', f_X11_think_b35 n (nI i) w = some (nI m, w') ∧ PT 17 m (lad A e b m) w' ∧ PT 17 0 (p0 A b) w' ∧ LKX m e w' ∧ eqo scr w w'
  | 0, 0, _, _, _, h, _, _, _, _ => absurd h (by omega)
  | 0, n + 1, i, w, hi, _, hV, hK, hP, hP0 => by
    have him : i = m := hi
    subst him
    refine ⟨w, ?_, hP, hP0, hK, eqo_rf w⟩
    show f_X11_think_b35_y (f_X11_think_b35 n) (nI i) w = _
    unfold f_X11_think_b35_y
    rw [hK.1, if_pos (by rw [nI_leI (by omega) (by omega)]; omega)]
  | f + 1, 0, _, _, _, h, _, _, _, _ => absurd h (by omega)
  | f + 1, n + 1, i, w, hi, hn, hV, hK, hP, hP0 => by
    obtain ⟨c1, c2, c3, c4⟩ := hc i (by omega)
    have c4' : 0 ≤ e (2 * i + 1) ∧ e (2 * i + 1) ≤ 3 := by
      rcases c4 with q | q
      · cases q
      · exact q
    obtain ⟨w1, p1, p2⟩ := X_tw hV (k := (e (2 * i)).toNat) (by omega) (nI i)
    have hK1 : LKX m e w1 := LKX_cg hK (p2 13 2 rfl).1 (fun i => (p2 14 i rfl).1) (fun i => (p2 15 i rfl).1)
    have hP1 : PT 17 i (lad A e b i) w1 := eqo_PT hP p2 (fun _ _ => rfl)
    have hP01 : PT 17 0 (p0 A b) w1 := eqo_PT hP0 p2 (fun _ _ => rfl)
    obtain ⟨w2, q1, q2, q3⟩ := C_step (c0 := 16) (d := i) (sh := twv A (e (2 * i)).toNat (nI i) (thk A)) (f := (e (2 * i + 1)).toNat) (p := lad A e b i) (by omega) (tw_I A _ _ _).2 (by omega) hP1
    have hs1 := eqo_mono p2 sEY_s
    have hs2 := eqo_mono q3 (sPT_s (c := 17) (d := i + 1) (Or.inl ⟨by omega, by omega⟩))
    have hs := eqo_tr hs1 hs2
    obtain ⟨w3, r1, r2, r3, r4, r5⟩ := X_thk (b := b) hm hc f n (i + 1) w2 (by omega) (by omega) (VX_s hV hs) (LKX_cg hK1 (q3 13 2 rfl).1 (fun i => (q3 14 i rfl).1) (fun i => (q3 15 i rfl).1)) q2 (eqo_PT hP01 q3 (fun j hj => by simp [sPT]; omega))
    refine ⟨w3, ?_, r2, r3, r4, eqo_tr hs r5⟩
    show f_X11_think_b35_y (f_X11_think_b35 n) (nI i) w = _
    unfold f_X11_think_b35_y
    have p1' : f_X11_twelfths (nI (e (2 * i)).toNat) (nI i) w = some (nI (twv A (e (2 * i)).toNat (nI i) (thk A)), w1) := p1
    rw [hK.1, if_neg (by rw [nI_leI (by omega) (by omega)]; omega), (X_by hK hm (by omega)).1, bR_s, p1', bW_s, (X_by hK1 hm (by omega)).2, bR_s, oI_n c4'.1, q1, bV_s, nI_1]
    exact r1
theorem X_think {A : Ab} {s sz b : Nat} {e : Nat → Int} {w : Wd} (hV : VX A w) (hs : s < 6) (hb : b < 4) (hR : RX s sz e w) : ∃ w', f_X11_think (nI s) (nI b) w = some (nI (lkn A.L sz e false 4 0), w') ∧ PT 17 (lkn A.L sz e false 4 0) (lad A e b (lkn A.L sz e false 4 0)) w' ∧ PT 17 0 (p0 A b) w' ∧ eqo scr w w' := by
  unfold f_X11_think
  obtain ⟨w1, p1, p2, p3⟩ := X_looks false hV.1.1 hs hR
  have p1' : f_X5_read (42 + 2 * s) (nI A.L) 0 w = some w1 := p1
  have hs1 := eqo_mono p3 sLK_s
  obtain ⟨w2, q1, q2, q3⟩ := X_begin (c0 := 16) (b := b) (VX_s hV hs1) hb
  have hs2 := eqo_tr hs1 (eqo_mono q3 (sPT_s (c := 17) (d := 0) (Or.inl ⟨by omega, by omega⟩)))
  obtain ⟨l1, l2, l3⟩ := lkn_le (L := A.L) (n := sz) (e := e) (any := false) 4 0
  obtain ⟨w3, r1, r2, r3, _, r5⟩ := X_thk (b := b) (m := lkn A.L sz e false 4 0) (by omega) (fun i hi => l3 i (by omega) hi) (lkn A.L sz e false 4 0) fu 0 w2 (by omega) (by show _ < 300; omega) (VX_s hV hs2) (LKX_cg p2 (q3 13 2 rfl).1 (fun i => (q3 14 i rfl).1) (fun i => (q3 15 i rfl).1)) q2 q2
  refine ⟨w3, ?_, r2, r3, eqo_tr hs2 r5⟩
  rw [ldR_d (inb_nI hs (by omega)), ix_nI (by omega), hV.2.1, p1', bV_s, q1, bV_s]
  exact r1
theorem M_byte {s sz i : Nat} {e : Nat → Int} {w : Wd} (hs : s < 6) (h : RM s sz e w) (hi : i < sz) : f_X12_byteAt (nI s) (nI i) w = some (Int32.ofInt (e i)) := by
  obtain ⟨⟨a1, a2⟩, b, c, d⟩ := h
  unfold f_X12_byteAt
  rw [show (60 : Int32) = nI 60 from rfl, pk_mul, nI_add, ldL_d (inb_nI (by omega) (by omega)), ix_nI (by omega), d i hi, oL_i (a2 i hi).1 (a2 i hi).2]
theorem M_gol {A : Ab} {s sz b : Nat} {e : Nat → Int} (hs : s < 6) : ∀ (f n k : Nat) (w : Wd), k + f = 4 → f < n → VM A w → RM s sz e w → PT 71 k (lad A e b k) w → ∃ w', f_X12_goLooks_b8 n (nI s) (nI k) w = some (nI (lkn A.L sz e false f k), w') ∧ PT 71 (lkn A.L sz e false f k) (lad A e b (lkn A.L sz e false f k)) w' ∧ eqo scr w w'
  | 0, 0, _, _, _, h, _, _, _ => absurd h (by omega)
  | 0, n + 1, k, w, hk, _, hV, hR, hP => by
    refine ⟨w, ?_, hP, eqo_rf w⟩
    show f_X12_goLooks_b8_y (f_X12_goLooks_b8 n) (nI s) (nI k) w = _
    unfold f_X12_goLooks_b8_y
    rw [if_pos (by rw [show (4 : Int32) = nI 4 from rfl, nI_leI (by omega) (by omega)]; omega)]
    rfl
  | f + 1, 0, _, _, _, h, _, _, _ => absurd h (by omega)
  | f + 1, n + 1, k, w, hk, hn, hV, hR, hP => by
    have h6 := hV.1.1
    obtain ⟨⟨a1, a2⟩, a3, a4, a5⟩ := id hR
    have e2 : (2 : Int32) * nI k = nI (2 * k) := by rw [show (2 : Int32) = nI 2 from rfl, pk_mul]
    show ∃ w', f_X12_goLooks_b8_y (f_X12_goLooks_b8 n) (nI s) (nI k) w = some (nI (if lkc A.L sz e false k then lkn A.L sz e false f (k + 1) else k), w') ∧ PT 71 (if lkc A.L sz e false k then lkn A.L sz e false f (k + 1) else k) (lad A e b (if lkc A.L sz e false k then lkn A.L sz e false f (k + 1) else k)) w' ∧ eqo scr w w'
    unfold f_X12_goLooks_b8_y
    rw [if_neg (by rw [show (4 : Int32) = nI 4 from rfl, nI_leI (by omega) (by omega)]; omega), ldI_d (inb_nI hs (by omega)), ix_nI (by omega), a4, e2, nI_1]
    by_cases c1 : 2 * k + 1 < sz
    · obtain ⟨b1, b2⟩ := a2 (2 * k) (by omega)
      obtain ⟨b3, b4⟩ := a2 (2 * k + 1) c1
      rw [if_neg (by rw [nI_leI (by omega) (by omega)]; omega), M_byte hs hR (by omega), bR_s, M_isLooker hV.2.1 h6, bR_s, ite_b2i]
      by_cases c2 : inb (Int32.ofInt (e (2 * k))) A.L
      · have c2' := c2
        unfold inb at c2'
        rw [oI_t b1 b2] at c2'
        rw [if_pos c2, M_byte hs hR c1, bR_s, M_in, bR_s, ite_b2i, oI_t b3 b4]
        by_cases c3 : (0 : Int32).toInt ≤ e (2 * k + 1) ∧ e (2 * k + 1) ≤ (3 : Int32).toInt
        · have c3' : 0 ≤ e (2 * k + 1) ∧ e (2 * k + 1) ≤ 3 := c3
          have hlk : lkc A.L sz e false k := ⟨c1, c2'.1, c2'.2, Or.inr c3'⟩
          have g9 : gi w 54 8 = thk A := hV.2.2.1 9 0 ok9
          obtain ⟨w1, p1, p2⟩ := M_tw hV (k := (e (2 * k)).toNat) (by omega) (nI k) (thk A)
          have hs1 := eqo_mono p2 sEZ_s
          have hP1 : PT 71 k (lad A e b k) w1 := eqo_PT hP p2 (fun _ _ => rfl)
          obtain ⟨w2, q1, q2, q3⟩ := M_look (d := k) (sh := twv A (e (2 * k)).toNat (nI k) (thk A)) (f := (e (2 * k + 1)).toNat) (p := lad A e b k) (by omega) (tw_I A _ _ _).2 (by omega) hP1
          have hs2 := eqo_tr hs1 (eqo_mono q3 (sPT_s (c := 71) (d := k + 1) (Or.inr rfl)))
          obtain ⟨w3, r1, r2, r3⟩ := M_gol (b := b) hs f n (k + 1) w2 (by omega) (by omega) (VM_s hV hs2) (RM_s hR hs2) q2
          rw [if_pos c3, if_pos hlk, g9, oI_n c2'.1, bR_s, p1, bW_s, M_byte hs (RM_s hR hs1) c1, bR_s, oI_n c3'.1, q1, bV_s, nI_1]
          exact ⟨w3, r1, r2, eqo_tr hs2 r3⟩
        · have hlk : ¬ lkc A.L sz e false k := fun z => by
            rcases z.2.2.2 with q | q
            · cases q
            · exact c3 q
          rw [if_neg c3, if_neg hlk]
          exact ⟨w, rfl, hP, eqo_rf w⟩
      · have hlk : ¬ lkc A.L sz e false k := fun z => by
          apply c2
          unfold inb
          rw [oI_t b1 b2]
          exact ⟨z.2.1, z.2.2.1⟩
        rw [if_neg c2, if_neg hlk]
        exact ⟨w, rfl, hP, eqo_rf w⟩
    · have hlk : ¬ lkc A.L sz e false k := fun z => c1 z.1
      rw [if_pos (by rw [nI_leI (by omega) (by omega)]; omega), if_neg hlk]
      exact ⟨w, rfl, hP, eqo_rf w⟩
theorem M_goLooks {A : Ab} {s sz b : Nat} {e : Nat → Int} {w : Wd} (hV : VM A w) (hs : s < 6) (hb : b < 4) (hR : RM s sz e w) : ∃ w', f_X12_goLooks (nI s) (nI b) w = some (nI (lkn A.L sz e false 4 0), w') ∧ PT 71 (lkn A.L sz e false 4 0) (lad A e b (lkn A.L sz e false 4 0)) w' ∧ eqo scr w w' := by
  unfold f_X12_goLooks
  obtain ⟨w1, p1, p2, p3⟩ := M_begin (d := 0) hV hb (by omega)
  have hs1 := eqo_mono p3 (sPT_s (c := 71) (d := 0) (Or.inr rfl))
  obtain ⟨w2, q1, q2, q3⟩ := M_gol (b := b) hs 4 fu 0 w1 (by omega) (by show 4 < 300; omega) (VM_s hV hs1) (RM_s hR hs1) p2
  refine ⟨w2, ?_, q2, eqo_tr hs1 q3⟩
  rw [show (0 : Int32) = nI 0 from rfl, p1, bV_s]
  exact q1
