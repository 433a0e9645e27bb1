/-! TABLES BY DRAWS -/
def lo1 (A : Ab) (e : Nat → Int) : Nat → Nat → Nat → Int32 → Nat × Int32
  | 0, _, s, z => (s, z)
  | k + 1, i, s, z => lo1 A e k (i + 1) (s - (fdN (twv A (e (2 * i)).toNat (nI i) (thk A)) s 0 z).1) (fdN (twv A (e (2 * i)).toNat (nI i) (thk A)) s 0 z).2
def ob (A : Ab) (e : Nat → Int) (b m : Nat) (z : Int32) : Nat × Int32 := lo1 A e m 0 (stV A b z) (stZ' A b z)
def dsm (A : Ab) (e : Nat → Int) (b m : Nat) : Nat → Nat → Int32 → Nat × Int32
  | 0, acc, z => (acc, z)
  | n + 1, acc, z => dsm A e b m n (acc + (ob A e b m z).1) (ob A e b m z).2
def cs (A : Ab) (e : Nat → Int) : Nat → Nat
  | 0 => 0
  | i + 1 => cs A e i + A.nv 6 (e (2 * i)).toNat
theorem lo1_le {A : Ab} {e : Nat → Int} : ∀ k i s z, (lo1 A e k i s z).1 ≤ s
  | 0, _, _, _ => Nat.le_refl _
  | k + 1, i, s, z => by
    unfold lo1
    have := lo1_le (A := A) (e := e) k (i + 1) (s - (fdN (twv A (e (2 * i)).toNat (nI i) (thk A)) s 0 z).1) (fdN (twv A (e (2 * i)).toNat (nI i) (thk A)) s 0 z).2
    omega
theorem ob_le (A : Ab) (e : Nat → Int) (b m : Nat) (z : Int32) : (ob A e b m z).1 ≤ 3 := Nat.le_trans (lo1_le _ _ _ _) (stV_le A b z)
theorem dsm_le {A : Ab} {e : Nat → Int} {b m : Nat} : ∀ n acc z, (dsm A e b m n acc z).1 ≤ acc + 3 * n
  | 0, acc, z => by show acc ≤ _; omega
  | n + 1, acc, z => by
    unfold dsm
    have h1 := dsm_le (A := A) (e := e) (b := b) (m := m) n (acc + (ob A e b m z).1) (ob A e b m z).2
    have h2 := ob_le A e b m z
    omega
def sDX (c k : Nat) : Bool := sEY c k || c == 36
theorem sDX_s : ∀ c k, sDX c k = true → scr c k = true := by
  intro c k h
  simp only [sDX, sEY, scr, Bool.or_eq_true, Bool.and_eq_true, beq_iff_eq, decide_eq_true_eq] at h ⊢
  omega
theorem LKX_dx {m : Nat} {e : Nat → Int} {w w' : Wd} (h : LKX m e w) (he : eqo sDX w w') : LKX m e w' := LKX_cg h (he 13 2 rfl).1 (fun i => (he 14 i rfl).1) (fun i => (he 15 i rfl).1)
theorem X_lo {A : Ab} {sz m : Nat} {e : Nat → Int} (hm : m ≤ 4) (hc : ∀ i, i < m → lkc A.L sz e true i) : ∀ (k n i s : Nat) (z : Int32) (w : Wd), i + k = m → k < n → s ≤ 3 → VX A w → LKX m e w → gi w 36 0 = z → ∃ w', f_X11_stillInOneMore_b15 n (nI s) (nI i) w = some (nI (lo1 A e k i s z).1, w') ∧ gi w' 36 0 = (lo1 A e k i s z).2 ∧ eqo sDX w w'
  | 0, 0, _, _, _, _, _, h, _, _, _, _ => absurd h (by omega)
  | 0, n + 1, i, s, z, w, hi, _, _, hV, hK, hz => by
    refine ⟨w, ?_, hz, eqo_rf w⟩
    show f_X11_stillInOneMore_b15_y (f_X11_stillInOneMore_b15 n) (nI s) (nI i) w = _
    unfold f_X11_stillInOneMore_b15_y
    rw [hK.1, if_pos (by rw [nI_leI (by omega) (by omega)]; omega)]
    rfl
  | k + 1, 0, _, _, _, _, _, h, _, _, _, _ => absurd h (by omega)
  | k + 1, n + 1, i, s, z, w, hi, hn, hs, hV, hK, hz => by
    obtain ⟨c1, c2, c3, _⟩ := hc i (by omega)
    obtain ⟨w1, p1, p2⟩ := X_tw hV (k := (e (2 * i)).toNat) (by omega) (nI i)
    have p1' : f_X11_twelfths (nI (e (2 * i)).toNat) (nI i) w = some (nI (twv A (e (2 * i)).toNat (nI i) (thk A)), w1) := p1
    have hsh := (tw_I A (e (2 * i)).toNat (nI i) (thk A)).2
    have E1 : eqo sDX w w1 := eqo_mono p2 (fun c k h => by unfold sDX; rw [h]; rfl)
    obtain ⟨w2, q1, q2, q3, q4⟩ := X_fd (s := s) (sh := twv A (e (2 * i)).toNat (nI i) (thk A)) (z := z) hs hsh (by rw [(p2 36 0 rfl).1]; exact hz)
    have E2 : eqo sDX w w2 := eqo_tr E1 (eqo_one (a := 36) (b := 0) rfl q3 q4)
    have hle := fdN_le (sh := twv A (e (2 * i)).toNat (nI i) (thk A)) s 0 z
    have e0 : f_X11_stillInOneMore_b15 (n + 1) (nI s) (nI i) w = f_X11_stillInOneMore_b15_y (f_X11_stillInOneMore_b15 n) (nI s) (nI i) w := rfl
    obtain ⟨w3, r1, r2, r3⟩ := X_lo hm hc k n (i + 1) (s - (fdN (twv A (e (2 * i)).toNat (nI i) (thk A)) s 0 z).1) (fdN (twv A (e (2 * i)).toNat (nI i) (thk A)) s 0 z).2 w2 (by omega) (by omega) (by omega) (VX_s hV (eqo_mono E2 sDX_s)) (LKX_dx hK E2) q2
    refine ⟨w3, ?_, r2, eqo_tr E2 r3⟩
    rw [e0]
    unfold f_X11_stillInOneMore_b15_y
    rw [hK.1, if_neg (by rw [nI_leI (by omega) (by omega)]; omega), (X_by hK hm (by omega)).1, bR_s, p1', bW_s, q1, bW_s, lt_d, pk_sub (by omega), nI_1]
    exact r1
theorem X_ob {A : Ab} {sz m b : Nat} {e : Nat → Int} (hm : m ≤ 4) (hc : ∀ i, i < m → lkc A.L sz e true i) {z : Int32} {w : Wd} (hb : b < 4) (hV : VX A w) (hK : LKX m e w) (hz : gi w 36 0 = z) : ∃ w', f_X11_stillInOneMore (nI b) w = some (nI (ob A e b m z).1, w') ∧ gi w' 36 0 = (ob A e b m z).2 ∧ eqo sDX w w' := by
  obtain ⟨w1, p1, p2, p3, p4⟩ := X_stones3 (b := b) hV hb hz
  have E1 : eqo sDX w w1 := eqo_one (a := 36) (b := 0) rfl p3 p4
  obtain ⟨w2, q1, q2, q3⟩ := X_lo hm hc m fu 0 (stV A b z) (stZ' A b z) w1 (by omega) (by show _ < 300; omega) (stV_le A b z) (VX_s hV (eqo_mono E1 sDX_s)) (LKX_dx hK E1) p2
  refine ⟨w2, ?_, q2, eqo_tr E1 q3⟩
  unfold f_X11_stillInOneMore
  rw [p1, bW_s]
  exact q1
theorem X_dcost {A : Ab} {sz m n acc : Nat} {e : Nat → Int} (hm : m ≤ 4) (hc : ∀ i, i < m → lkc A.L sz e true i) {w : Wd} (hV : VX A w) (hK : LKX m e w) : ∀ (k n' i : Nat), i + k = m → k < n' → f_X11_drawn_b149 n' (nI n) (nI acc) (nI (cs A e i)) (nI i) w = some (nI (n * cs A e m + acc * A.nv 10 0), w)
  | 0, 0, _, _, h => absurd h (by omega)
  | 0, n' + 1, i, hi, _ => by
    have him : i = m := hi
    subst him
    show f_X11_drawn_b149_y (f_X11_drawn_b149 n') (nI n) (nI acc) (nI (cs A e i)) (nI i) w = _
    unfold f_X11_drawn_b149_y
    rw [hK.1, if_pos (by rw [nI_leI (by omega) (by omega)]; omega), VX_10 hV, bR_s, pk_mul, pk_mul, nI_add]
  | k + 1, 0, _, _, h => absurd h (by omega)
  | k + 1, n' + 1, i, hi, hn => by
    obtain ⟨c1, c2, c3, _⟩ := hc i (by omega)
    show f_X11_drawn_b149_y (f_X11_drawn_b149 n') (nI n) (nI acc) (nI (cs A e i)) (nI i) w = _
    unfold f_X11_drawn_b149_y
    rw [hK.1, if_neg (by rw [nI_leI (by omega) (by omega)]; omega), (X_by hK hm (by omega)).1, bR_s, VX_6 hV (by omega), bR_s, lt_d, nI_add, nI_1]
    exact X_dcost hm hc hV hK k n' (i + 1) (by omega) (by omega)
theorem X_dl {A : Ab} {sz m b n x : Nat} {e : Nat → Int} (hm : m ≤ 4) (hc : ∀ i, i < m → lkc A.L sz e true i) (hx : x < 2 ^ 31) (hxb : x / 100 = b) (hb : b < 4) (hn : n ≤ 30) (a4 : Int32) : ∀ (k n' i acc : Nat) (z : Int32) (w : Wd), i + k = n → k < n' → VX A w → LKX m e w → gi w 36 0 = z → ∃ w', f_X11_drawn_b109 n' (nI x) a4 (nI n) (nI acc) (nI i) w = some (if a4 = 0 then nI (dsm A e b m k acc z).1 else nI (n * cs A e m + (dsm A e b m k acc z).1 * A.nv 10 0), w') ∧ eqo sDX w w'
  | 0, 0, _, _, _, _, _, h, _, _, _ => absurd h (by omega)
  | 0, n' + 1, i, acc, z, w, hi, _, hV, hK, hz => by
    refine ⟨w, ?_, eqo_rf w⟩
    show f_X11_drawn_b109_y (f_X11_drawn_b109 n') (nI x) a4 (nI n) (nI acc) (nI i) w = _
    unfold f_X11_drawn_b109_y
    rw [if_pos (by rw [nI_leI (by omega) (by omega)]; omega)]
    have hcost := X_dcost (n := n) (acc := acc) hm hc hV hK m fu 0 (by omega) (by show _ < 300; omega)
    have hcost' : f_X11_drawn_b149 fu (nI n) (nI acc) 0 0 w = some (nI (n * cs A e m + acc * A.nv 10 0), w) := hcost
    by_cases c : a4 = 0
    · rw [if_pos c, if_pos c]
      rfl
    · rw [if_neg c, if_neg c, hcost']
      rfl
  | k + 1, 0, _, _, _, _, _, h, _, _, _ => absurd h (by omega)
  | k + 1, n' + 1, i, acc, z, w, hi, hn', hV, hK, hz => by
    obtain ⟨w1, p1, p2, p3⟩ := X_ob (b := b) hm hc hb hV hK hz
    have e100 : nI x / 100 = nI b := by rw [show (100 : Int32) = nI 100 from rfl, pk_div hx (by omega) (by omega), hxb]
    obtain ⟨w2, q1, q2⟩ := X_dl hm hc hx hxb hb hn a4 k n' (i + 1) (acc + (ob A e b m z).1) (ob A e b m z).2 w1 (by omega) (by omega) (VX_s hV (eqo_mono p3 sDX_s)) (LKX_dx hK p3) p2
    refine ⟨w2, ?_, eqo_tr p3 q2⟩
    show f_X11_drawn_b109_y (f_X11_drawn_b109 n') (nI x) a4 (nI n) (nI acc) (nI i) w = _
    unfold f_X11_drawn_b109_y
    rw [if_neg (by rw [nI_leI (by omega) (by omega)]; omega), e100, p1, bW_s, lt_d, nI_add, nI_1]
    exact q1
def sDM (c k : Nat) : Bool := sEZ c k || (c == 54 && k == 44)
theorem sDM_s : ∀ c k, sDM c k = true → scr c k = true := by
  intro c k h
  simp only [sDM, sEZ, scr, Bool.or_eq_true, Bool.and_eq_true, beq_iff_eq, decide_eq_true_eq] at h ⊢
  omega
theorem M_lo {A : Ab} {s0 sz c0 : Nat} {e : Nat → Int} (hs0 : s0 < 6) (k74 : Int32 → Int32 → Int32 → Int32 → Int32 → Int32 → Wd → Option (Int32 × Wd)) (x3 x4 x5 x7 : Int32) : ∀ (f n k s : Nat) (z : Int32) (w : Wd), k + f = 4 → f < n → s ≤ 3 → VM A w → RM s0 sz e w → gi w 54 44 = z → ∃ w', f_X12_drawn_b96 k74 n (nI s0) x3 x4 x5 (nI (c0 + cs A e k)) x7 (nI s) (nI k) w = k74 (nI s0) x3 x4 (x5 + nI (lo1 A e (lkn A.L sz e true f k - k) k s z).1) (nI (c0 + cs A e (lkn A.L sz e true f k))) (x7 + 1) w' ∧ gi w' 54 44 = (lo1 A e (lkn A.L sz e true f k - k) k s z).2 ∧ eqo sDM w w'
  | 0, 0, _, _, _, _, _, h, _, _, _, _ => absurd h (by omega)
  | 0, n + 1, k, s, z, w, hk, _, _, hV, hR, hz => by
    have e1 : lkn A.L sz e true 0 k = k := rfl
    rw [e1, Nat.sub_self]
    refine ⟨w, ?_, hz, eqo_rf w⟩
    show f_X12_drawn_b96_y k74 (f_X12_drawn_b96 k74 n) (nI s0) x3 x4 x5 _ x7 (nI s) (nI k) w = _
    unfold f_X12_drawn_b96_y f_X12_drawn_b188
    rw [if_pos (by rw [show (4 : Int32) = nI 4 from rfl, nI_leI (by omega) (by omega)]; omega), lt_d]
    rfl
  | f + 1, 0, _, _, _, _, _, h, _, _, _, _ => absurd h (by omega)
  | f + 1, n + 1, k, s, z, w, hk, hn, hs, hV, hR, hz => by
    have h6 := hV.1.1
    obtain ⟨⟨a1, a2⟩, a3, a4, a5⟩ := id hR
    have e2 : (2 : Int32) * nI k = nI (2 * k) := by rw [show (2 : Int32) = nI 2 from rfl, pk_mul]
    have e0 : ∀ c, f_X12_drawn_b96 k74 (n + 1) (nI s0) x3 x4 x5 c x7 (nI s) (nI k) w = f_X12_drawn_b96_y k74 (f_X12_drawn_b96 k74 n) (nI s0) x3 x4 x5 c x7 (nI s) (nI k) w := fun _ => rfl
    have el : lkn A.L sz e true (f + 1) k = if lkc A.L sz e true k then lkn A.L sz e true f (k + 1) else k := rfl
    have stop : ¬ lkc A.L sz e true k → ∃ w', f_X12_drawn_b188 k74 (nI s0) x3 x4 x5 (nI (c0 + cs A e k)) x7 (nI s) w = k74 (nI s0) x3 x4 (x5 + nI (lo1 A e (lkn A.L sz e true (f + 1) k - k) k s z).1) (nI (c0 + cs A e (lkn A.L sz e true (f + 1) k))) (x7 + 1) w' ∧ gi w' 54 44 = (lo1 A e (lkn A.L sz e true (f + 1) k - k) k s z).2 ∧ eqo sDM w w' := by
      intro hlk
      rw [el, if_neg hlk, Nat.sub_self]
      exact ⟨w, rfl, hz, eqo_rf w⟩
    rw [e0]
    unfold f_X12_drawn_b96_y
    rw [if_neg (by rw [show (4 : Int32) = nI 4 from rfl, nI_leI (by omega) (by omega)]; omega), ldI_d (inb_nI hs0 (by omega)), ix_nI (by omega), a4, e2, nI_1]
    by_cases c1 : 2 * k + 1 < sz
    · obtain ⟨b1, b2⟩ := a2 (2 * k) (by omega)
      rw [if_neg (by rw [nI_leI (by omega) (by omega)]; omega), M_byte hs0 hR (by omega), bR_s, M_isLooker hV.2.1 h6, bR_s, ite_b2i]
      by_cases c2 : inb (Int32.ofInt (e (2 * k))) A.L
      · have c2' := c2
        unfold inb at c2'
        rw [oI_t b1 b2] at c2'
        have hlk : lkc A.L sz e true k := ⟨c1, c2'.1, c2'.2, Or.inl rfl⟩
        have g9 : gi w 54 8 = thk A := hV.2.2.1 9 0 ok9
        obtain ⟨w1, p1, p2⟩ := M_tw hV (k := (e (2 * k)).toNat) (by omega) (nI k) (thk A)
        have hsh := (tw_I A (e (2 * k)).toNat (nI k) (thk A)).2
        have E1 : eqo sDM w w1 := eqo_mono p2 (fun c k h => by unfold sDM; rw [h]; rfl)
        obtain ⟨w2, q1, q2, q3, q4⟩ := M_fd (s := s) (sh := twv A (e (2 * k)).toNat (nI k) (thk A)) (z := z) hs hsh (by rw [(p2 54 44 rfl).1]; exact hz)
        have E2 : eqo sDM w w2 := eqo_tr E1 (eqo_one (a := 54) (b := 44) rfl q3 q4)
        have hV2 := VM_s hV (eqo_mono E2 sDM_s)
        have hR2 := RM_s hR (eqo_mono E2 sDM_s)
        have hle := fdN_le (sh := twv A (e (2 * k)).toNat (nI k) (thk A)) s 0 z
        have g6 : gi w2 58 (e (2 * k)).toNat = nI (A.nv 6 (e (2 * k)).toNat) := hV2.2.2.1 6 (e (2 * k)).toNat (okL (Or.inr rfl) (by omega))
        obtain ⟨w3, r1, r2, r3⟩ := M_lo (c0 := c0) hs0 k74 x3 x4 x5 x7 f n (k + 1) (s - (fdN (twv A (e (2 * k)).toNat (nI k) (thk A)) s 0 z).1) (fdN (twv A (e (2 * k)).toNat (nI k) (thk A)) s 0 z).2 w2 (by omega) (by omega) (by omega) hV2 hR2 q2
        have hge := (lkn_le (L := A.L) (n := sz) (e := e) (any := true) f (k + 1)).1
        have ecs : c0 + cs A e k + A.nv 6 (e (2 * k)).toNat = c0 + cs A e (k + 1) := by
          show _ = c0 + (cs A e k + A.nv 6 (e (2 * k)).toNat)
          omega
        rw [if_pos c2, g9, oI_n c2'.1, bR_s, p1, bW_s, q1, bW_s, lt_d, M_byte hs0 hR2 (by omega), bR_s, oI_n c2'.1, ldI_d (inb_nI (by omega) (by omega)), ix_nI (by omega), g6, lt_d, nI_add, ecs, pk_sub (by omega), nI_1, el, if_pos hlk]
        generalize lkn A.L sz e true f (k + 1) = m at *
        obtain ⟨d, rfl⟩ : ∃ d, m = k + 1 + d := ⟨m - (k + 1), by omega⟩
        rw [show k + 1 + d - (k + 1) = d by omega] at r1 r2
        rw [show k + 1 + d - k = d + 1 by omega]
        exact ⟨w3, r1, r2, eqo_tr E2 r3⟩
      · have hlk : ¬ lkc A.L sz e true k := fun z => by
          apply c2
          unfold inb
          rw [oI_t b1 b2]
          exact ⟨z.2.1, z.2.2.1⟩
        rw [if_neg c2]
        exact stop hlk
    · have hlk : ¬ lkc A.L sz e true k := fun z => c1 z.1
      rw [if_pos (by rw [nI_leI (by omega) (by omega)]; omega)]
      exact stop hlk
theorem M_dl {A : Ab} {s0 sz b n x : Nat} {e : Nat → Int} (hs0 : s0 < 6) (hx : x < 2 ^ 31) (hxb : x / 100 = b) (hxn : x % 100 = n) (hb : b < 4) (hn : n ≤ 30) (a4 : Int32) : ∀ (k n' i acc : Nat) (z : Int32) (w : Wd), i + k = n → k < n' → VM A w → RM s0 sz e w → gi w 54 44 = z → ∃ w', f_X12_drawn_b74 n' (nI s0) (nI x) a4 (nI acc) (nI (i * cs A e (lkn A.L sz e true 4 0))) (nI i) w = some (if a4 = 0 then nI (dsm A e b (lkn A.L sz e true 4 0) k acc z).1 else nI (n * cs A e (lkn A.L sz e true 4 0) + (dsm A e b (lkn A.L sz e true 4 0) k acc z).1 * A.nv 10 0), w') ∧ eqo sDM w w'
  | 0, 0, _, _, _, _, _, h, _, _, _ => absurd h (by omega)
  | 0, n' + 1, i, acc, z, w, hi, _, hV, hR, hz => by
    have hin : i = n := hi
    have er : ire (nI x) 100 = nI n := by unfold ire; rw [show (100 : Int32) = nI 100 from rfl, pk_rem hx (by omega) (by omega), hxn]
    have g10 : gi w 54 9 = nI (A.nv 10 0) := hV.2.2.1 10 0 (ok0 (by omega) (by omega))
    refine ⟨w, ?_, eqo_rf w⟩
    show f_X12_drawn_b74_y (f_X12_drawn_b74 n') (nI s0) (nI x) a4 (nI acc) _ (nI i) w = _
    unfold f_X12_drawn_b74_y
    rw [er, if_pos (by rw [nI_leI (by omega) (by omega)]; omega), g10, pk_mul, nI_add, hin, Nat.mul_comm (A.nv 10 0)]
    by_cases c : a4 = 0
    · rw [if_pos c, if_pos c]
      rfl
    · rw [if_neg c, if_neg c]
      rfl
  | k + 1, 0, _, _, _, _, _, h, _, _, _ => absurd h (by omega)
  | k + 1, n' + 1, i, acc, z, w, hi, hn', hV, hR, hz => by
    have er : ire (nI x) 100 = nI n := by unfold ire; rw [show (100 : Int32) = nI 100 from rfl, pk_rem hx (by omega) (by omega), hxn]
    have e100 : nI x / 100 = nI b := by rw [show (100 : Int32) = nI 100 from rfl, pk_div hx (by omega) (by omega), hxb]
    obtain ⟨w1, p1, p2, p3, p4⟩ := M_stones4 (b := b) hV hb hz
    have E1 : eqo sDM w w1 := eqo_one (a := 54) (b := 44) rfl p3 p4
    obtain ⟨w2, q1, q2, q3⟩ := M_lo (c0 := i * cs A e (lkn A.L sz e true 4 0)) hs0 (f_X12_drawn_b74 n') (nI x) a4 (nI acc) (nI i) 4 fu 0 (stV A b z) (stZ' A b z) w1 (by omega) (by show 4 < 300; omega) (stV_le A b z) (VM_s hV (eqo_mono E1 sDM_s)) (RM_s hR (eqo_mono E1 sDM_s)) p2
    have E2 := eqo_tr E1 q3
    rw [Nat.sub_zero] at q1 q2
    have eob : lo1 A e (lkn A.L sz e true 4 0) 0 (stV A b z) (stZ' A b z) = ob A e b (lkn A.L sz e true 4 0) z := rfl
    rw [eob] at q1 q2
    have ecs : i * cs A e (lkn A.L sz e true 4 0) + cs A e (lkn A.L sz e true 4 0) = (i + 1) * cs A e (lkn A.L sz e true 4 0) := by rw [Nat.add_mul, Nat.one_mul]
    rw [ecs, nI_1, nI_add] at q1
    obtain ⟨w3, r1, r2⟩ := M_dl hs0 hx hxb hxn hb hn a4 k n' (i + 1) (acc + (ob A e b (lkn A.L sz e true 4 0) z).1) (ob A e b (lkn A.L sz e true 4 0) z).2 w2 (by omega) (by omega) (VM_s hV (eqo_mono E2 sDM_s)) (RM_s hR (eqo_mono E2 sDM_s)) q2
    refine ⟨w3, ?_, eqo_tr E2 r2⟩
    show f_X12_drawn_b74_y (f_X12_drawn_b74 n') (nI s0) (nI x) a4 (nI acc) _ (nI i) w = _
    unfold f_X12_drawn_b74_y
    rw [er, if_neg (by rw [nI_leI (by omega) (by omega)]; omega), e100, p1, bW_s]
    exact q1.trans r1
theorem T_drawn {A : Ab} {nb : Nat} {w : Wd} (hX : VX A w) (hM : VM A w) (hS : SR nb w) (a1 a2 a3 a4 : Int32) : ∃ r w1 w2, f_X11_drawn a1 a2 a3 a4 w = some (r, w1) ∧ f_X12_drawn a1 a2 a3 a4 w1 = some (r, w2) ∧ eqo scr w w2 := by
  have t0 : (0 : Int32).toInt = 0 := rfl
  have t1 : (1 : Int32).toInt = 1 := rfl
  have t30 : (30 : Int32).toInt = 30 := rfl
  by_cases hneg : a3 < 0
  · refine ⟨-1, w, w, ?_, ?_, eqo_rf w⟩
    · unfold f_X11_drawn
      rw [X_isShelf, bR_s, ite_b2i]
      by_cases c : inb a1 6
      · rw [if_pos c, if_pos hneg]
      · rw [if_neg c]
    · unfold f_X12_drawn
      rw [M_isShelf, bR_s, ite_b2i]
      by_cases c : inb a1 6
      · rw [if_pos c, if_pos hneg]
      · rw [if_neg c]
  obtain ⟨x, hx, rfl⟩ := nI_of hneg
  obtain ⟨_, _, e3, e4⟩ := ls_div hx
  have tn := nI_toInt (n := x % 100) (by omega)
  have tb := nI_toInt (n := x / 100) (by omega)
  have ib : inb (nI (x / 100)) 4 ↔ x / 100 < 4 := by
    unfold inb
    rw [tb]
    omega
  by_cases h : inb a1 6 ∧ x / 100 < 4 ∧ 1 ≤ x % 100 ∧ x % 100 ≤ 30 ∧ inb a4 2
  · obtain ⟨h1, h2, h3, h4, h5⟩ := h
    have h5' := h5
    unfold inb at h5'
    obtain ⟨s, hs, rfl⟩ := of_inb h1
    rcases shelf_or hS hs with ⟨sz, e, hRX, hRM, _, hB, hRF⟩ | ⟨r, hr, _, hB, hRF⟩
    · obtain ⟨w1, p1, p2, p3⟩ := X_looks true hX.1.1 hs hRX
      have p1' : f_X5_read (42 + 2 * s) (nI A.L) 1 w = some w1 := p1
      obtain ⟨l1, l2, l3⟩ := lkn_le (L := A.L) (n := sz) (e := e) (any := true) 4 0
      have hs1 := eqo_mono p3 sLK_s
      have E2 : eqo scr w (si w1 36 0 a2) := eqo_si hs1 rfl
      have hK2 : LKX (lkn A.L sz e true 4 0) e (si w1 36 0 a2) := LKX_cg p2 (by rw [gi_si, if_neg (by omega)]) (fun i => by rw [gi_si, if_neg (by omega)]) (fun i => by rw [gi_si, if_neg (by omega)])
      obtain ⟨w2, q1, q2⟩ := X_dl (b := x / 100) (n := x % 100) (m := lkn A.L sz e true 4 0) (by omega) (fun i hi => l3 i (by omega) hi) hx rfl h2 h4 a4 (x % 100) fu 0 0 a2 (si w1 36 0 a2) (by omega) (by show _ < 300; omega) (VX_s hX E2) hK2 (by rw [gi_si, if_pos ⟨rfl, rfl⟩])
      have E3 := eqo_tr E2 (eqo_mono q2 sDX_s)
      have E4 : eqo scr w (si w2 54 44 a2) := eqo_si E3 rfl
      obtain ⟨w3, r1, r2⟩ := M_dl (b := x / 100) (n := x % 100) hs hx rfl rfl h2 h4 a4 (x % 100) fu 0 0 a2 (si w2 54 44 a2) (by omega) (by show _ < 300; omega) (VM_s hM E4) (RM_s hRM E4) (by rw [gi_si, if_pos ⟨rfl, rfl⟩])
      rw [Nat.zero_mul] at r1
      refine ⟨(if a4 = 0 then nI (dsm A e (x / 100) (lkn A.L sz e true 4 0) (x % 100) 0 a2).1 else nI (x % 100 * cs A e (lkn A.L sz e true 4 0) + (dsm A e (x / 100) (lkn A.L sz e true 4 0) (x % 100) 0 a2).1 * A.nv 10 0)), w2, w3, ?_, ?_, eqo_tr E4 (eqo_mono r2 sDM_s)⟩
      · unfold f_X11_drawn
        rw [X_isShelf, bR_s, ite_b2i, if_pos h1, if_neg hneg, e3, e4, X_isBag, bR_s, ite_b2i, if_pos (ib.mpr h2), lt_d, if_neg (by rw [fa_lt, tn, t1]; omega), if_neg (by rw [fa_lt, tn, t30]; omega), if_neg (by rw [fa_lt]; omega), if_pos (by rw [fa_le]; omega), ldR_d h1, ix_nI (by omega), hB, bR_s, if_pos (by decide), ldR_d h1, ix_nI (by omega), hX.2.1, p1', bV_s, stI_d]
        exact q1
      · unfold f_X12_drawn
        rw [M_isShelf, bR_s, ite_b2i, if_pos h1, if_neg hneg, e3, e4, M_isBag, bR_s, ite_b2i, if_pos (ib.mpr h2), M_in, bR_s, ite_b2i, if_pos (by rw [tn, t1, t30]; omega), M_in, bR_s, ite_b2i, if_pos (by omega), hRF w2 (RM_s hRM E3), bR_s, if_pos (by decide), stI_d]
        exact r1
    · refine ⟨r, w, w, ?_, ?_, eqo_rf w⟩
      · unfold f_X11_drawn
        rw [X_isShelf, bR_s, ite_b2i, if_pos h1, if_neg hneg, e3, e4, X_isBag, bR_s, ite_b2i, if_pos (ib.mpr h2), lt_d, if_neg (by rw [fa_lt, tn, t1]; omega), if_neg (by rw [fa_lt, tn, t30]; omega), if_neg (by rw [fa_lt]; omega), if_pos (by rw [fa_le]; omega), ldR_d h1, ix_nI (by omega), hB, bR_s, if_neg (by rcases hr with q | q <;> subst q <;> decide)]
      · unfold f_X12_drawn
        rw [M_isShelf, bR_s, ite_b2i, if_pos h1, if_neg hneg, e3, e4, M_isBag, bR_s, ite_b2i, if_pos (ib.mpr h2), M_in, bR_s, ite_b2i, if_pos (by rw [tn, t1, t30]; omega), M_in, bR_s, ite_b2i, if_pos (by omega), hRF, bR_s, if_neg (by rcases hr with q | q <;> subst q <;> decide), bR_s]
  · refine ⟨-1, w, w, ?_, ?_, eqo_rf w⟩
    · unfold f_X11_drawn
      rw [X_isShelf, bR_s, ite_b2i]
      by_cases c1 : inb a1 6
      · rw [if_pos c1, if_neg hneg, e3, e4, X_isBag, bR_s, ite_b2i]
        by_cases c2 : inb (nI (x / 100)) 4
        · rw [if_pos c2, lt_d]
          by_cases c3 : x % 100 < 1
          · rw [if_pos (by rw [fa_lt, tn, t1]; omega)]
          rw [if_neg (by rw [fa_lt, tn, t1]; omega)]
          by_cases c4 : 30 < x % 100
          · rw [if_pos (by rw [fa_lt, tn, t30]; omega)]
          rw [if_neg (by rw [fa_lt, tn, t30]; omega)]
          by_cases c5 : a4 < 0
          · rw [if_pos c5]
          rw [if_neg c5, if_neg]
          intro c6
          rw [fa_lt] at c5
          rw [fa_le] at c6
          exact h ⟨c1, ib.mp c2, by omega, by omega, ⟨by omega, by omega⟩⟩
        · rw [if_neg c2]
      · rw [if_neg c1]
    · unfold f_X12_drawn
      rw [M_isShelf, bR_s, ite_b2i]
      by_cases c1 : inb a1 6
      · rw [if_pos c1, if_neg hneg, e3, e4, M_isBag, bR_s, ite_b2i]
        by_cases c2 : inb (nI (x / 100)) 4
        · rw [if_pos c2, M_in, bR_s, ite_b2i, tn, t1, t30]
          by_cases c3 : (1 : Int) ≤ ((x % 100 : Nat) : Int) ∧ ((x % 100 : Nat) : Int) ≤ 30
          · rw [if_pos c3, M_in, bR_s, ite_b2i, if_neg]
            intro c6
            exact h ⟨c1, ib.mp c2, by omega, by omega, ⟨by omega, by omega⟩⟩
          · rw [if_neg c3]
        · rw [if_neg c2]
      · rw [if_neg c1]
