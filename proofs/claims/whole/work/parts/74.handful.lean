/-! HANDFULS -/
def flN (x : Nat) : Nat → Nat → Nat → Nat
  | 0, _, v => v
  | m + 1, i, v => flN x m (i + 1) (v * (x - i))
theorem X_fallL {x t : Nat} (hx : x < 2 ^ 31) (ht : t < 2 ^ 31) : ∀ (m n i v : Nat), i + m = t → m < n → (i ≤ x ∨ v = 0) → f_X11_falling_b5 n (nI x) (nI t) (lN v) (nI i) = some (lN (flN x m i v))
  | 0, 0, _, _, _, h, _ => absurd h (by omega)
  | 0, n + 1, i, v, hi, _, _ => by
    show f_X11_falling_b5_y (f_X11_falling_b5 n) (nI x) (nI t) (lN v) (nI i) = _
    unfold f_X11_falling_b5_y
    rw [if_pos (by rw [nI_leI (by omega) (by omega)]; omega)]
    rfl
  | m + 1, 0, _, _, _, h, _ => absurd h (by omega)
  | m + 1, n + 1, i, v, hi, hn, hv => by
    have e : lN v * Int32.toInt64 (nI x - nI i) = lN (v * (x - i)) := by
      by_cases c : i ≤ x
      · rw [pk_sub c, nI_l (by omega), lN_mul]
      · have hv0 : v = 0 := by omega
        rw [hv0, Nat.zero_mul]
        exact Int64.zero_mul
    show f_X11_falling_b5_y (f_X11_falling_b5 n) (nI x) (nI t) (lN v) (nI i) = _
    unfold f_X11_falling_b5_y
    rw [if_neg (by rw [nI_leI (by omega) (by omega)]; omega), lt_d, e, nI_1, X_fallL hx ht m n (i + 1) (v * (x - i)) (by omega) (by omega) ?_]
    · rfl
    · by_cases c : i < x
      · exact Or.inl c
      · right
        by_cases z : i = x
        · rw [z, Nat.sub_self, Nat.mul_zero]
        · have : v = 0 := by omega
          rw [this, Nat.zero_mul]
theorem X_fall {x a t : Nat} (hx : x < 2 ^ 31) (ht : t ≤ 3) (ha : a ≤ t) (hax : a ≤ x) : f_X11_falling (nI x) (nI a) (nI t) = some (lN (flN x (t - a) a 1)) := by
  unfold f_X11_falling
  exact X_fallL hx (by omega) (t - a) fu a 1 (by omega) (by show _ < 300; omega) (Or.inl hax)
def fac (n h j i : Nat) : Nat := if j ≤ i then (if n ≤ i then 1 else n - i) else n - h - i
def nnN (n h j : Nat) : Nat := 1 * fac n h j 0 * fac n h j 1 * fac n h j 2
def alN (n : Nat) : Nat := nnN n 0 0
theorem nn_0 (n h : Nat) : nnN n h 0 = alN n := by
  unfold alN nnN fac
  simp
theorem fac_le {n h j i : Nat} (hn : n ≤ 60) (h1 : 1 ≤ n) : fac n h j i ≤ 60 := by
  unfold fac
  repeat' split
  all_goals omega
theorem nn_le {n h j : Nat} (hn : n ≤ 60) (h1 : 1 ≤ n) : nnN n h j ≤ 216000 := by
  have a := fac_le (h := h) (j := j) (i := 0) hn h1
  have b := fac_le (h := h) (j := j) (i := 1) hn h1
  have c := fac_le (h := h) (j := j) (i := 2) hn h1
  unfold nnN
  rw [Nat.one_mul]
  exact Nat.mul_le_mul (Nat.mul_le_mul a b) c
theorem al_pos {n : Nat} (h1 : 1 ≤ n) : 0 < alN n := by
  unfold alN nnN fac
  simp only [Nat.zero_le, if_true, Nat.one_mul]
  refine Nat.mul_pos (Nat.mul_pos ?_ ?_) ?_
  all_goals (split <;> omega)
theorem fl_nn {n h j : Nat} (h1 : 1 ≤ n) (hj : j ≤ min n 3) : flN (n - h) j 0 1 * flN n (min n 3 - j) j 1 = nnN n h j := by
  have hc : n = 1 ∨ n = 2 ∨ 3 ≤ n := by omega
  have hjc : j = 0 ∨ j = 1 ∨ j = 2 ∨ j = 3 := by omega
  rcases hc with z | z | z
  · subst z
    rcases hjc with y | y | y | y
    · subst y; simp [flN, nnN, fac]
    · subst y; simp [flN, nnN, fac]
    · omega
    · omega
  · subst z
    rcases hjc with y | y | y | y
    · subst y; simp [flN, nnN, fac]
    · subst y; simp [flN, nnN, fac]
    · subst y; simp [flN, nnN, fac]
    · omega
  · have hm : min n 3 = 3 := by omega
    rw [hm]
    have n0 : ¬ n ≤ 0 := by omega
    have n1 : ¬ n ≤ 1 := by omega
    have n2 : ¬ n ≤ 2 := by omega
    rcases hjc with y | y | y | y
    · subst y; simp [flN, nnN, fac, n0, n1, n2]
    · subst y; simp [flN, nnN, fac, n0, n1, n2, Nat.mul_assoc]
    · subst y; simp [flN, nnN, fac, n0, n1, n2, Nat.mul_assoc]
    · subst y; simp [flN, nnN, fac, n0, n1, n2, Nat.mul_assoc]
theorem fl_al {n : Nat} (h1 : 1 ≤ n) : flN n (min n 3) 0 1 = alN n := by
  have := fl_nn (n := n) (h := 0) (j := 0) h1 (by omega)
  rw [Nat.sub_zero] at this
  unfold alN
  rw [← this]
  simp [flN]
def sw (g : Nat → Nat) : Nat → Nat
  | 0 => 0
  | J + 1 => sw g J + g J
def wo (g : Nat → Nat) (n h : Nat) : Nat → Nat
  | 0 => 0
  | J + 1 => wo g n h J + g J * nnN n h J
theorem sw_le {g : Nat → Nat} (hg : ∀ j, j < 4 → g j ≤ 9) : ∀ J, J ≤ 4 → sw g J ≤ 9 * J
  | 0, _ => Nat.zero_le _
  | J + 1, h => by
    have := sw_le hg J (by omega)
    have := hg J (by omega)
    unfold sw
    omega
theorem wo_le {g : Nat → Nat} {n h : Nat} (hn : n ≤ 60) (h1 : 1 ≤ n) (hg : ∀ j, j < 4 → g j ≤ 9) : ∀ J, J ≤ 4 → wo g n h J ≤ 1944000 * J
  | 0, _ => Nat.zero_le _
  | J + 1, hJ => by
    have a := wo_le (g := g) (h := h) hn h1 hg J (by omega)
    have b := Nat.mul_le_mul (hg J (by omega)) (nn_le (h := h) (j := J) hn h1)
    unfold wo
    omega
theorem wo_one {g : Nat → Nat} {n h : Nat} (g0 : g 0 = 1) (gs : ∀ j, g (j + 1) = 0) : ∀ J, wo g n h (J + 1) = alN n
  | 0 => by
    show 0 + g 0 * nnN n h 0 = _
    rw [g0, nn_0]
    omega
  | J + 1 => by
    show wo g n h (J + 1) + g (J + 1) * nnN n h (J + 1) = _
    rw [wo_one g0 gs J, gs J]
    omega
theorem wo_cg {g g' : Nat → Nat} {n h : Nat} : ∀ J, (∀ j, j < J → g j = g' j) → wo g n h J = wo g' n h J
  | 0, _ => rfl
  | J + 1, e => by
    unfold wo
    rw [wo_cg J (fun j hj => e j (by omega)), e J (by omega)]
/-- the answer -/
def hfV (S0 al w0 wot : Nat) (a3 a4 : Int32) : Int64 := if S0 = 0 then (if a3 = 0 then low (lN al) (1 * al) a4 else low (lN al) al a4) else (if a3 = 0 then low (lN wot) (S0 * al) a4 else if wot = 0 then -2 else low (lN (w0 * al)) wot a4)
theorem X_hf {A : Ab} {b n h : Nat} {w : Wd} (hX : VX A w) (hb : b < 4) (hn : n ≤ 60) (h1 : 1 ≤ n) (hh : h ≤ n) (a3 a4 : Int32) : ∀ (k n' j : Nat), j + k = min n 3 + 1 → k < n' → f_X11_handful_b85 w n' (nI b) a3 a4 (nI n) (nI h) (nI (min n 3)) (lN (sw (fun j => A.nv j b) j)) (lN (wo (fun j => A.nv j b) n h j)) (nI j) = some (hfV (sw (fun j => A.nv j b) (min n 3 + 1)) (alN n) (A.nv 0 b) (wo (fun j => A.nv j b) n h (min n 3 + 1)) a3 a4)
  | 0, 0, _, _, h => absurd h (by omega)
  | 0, n' + 1, j, hj, _ => by
    have hj' : j = min n 3 + 1 := hj
    subst hj'
    have hg : ∀ j, j < 4 → (fun j => A.nv j b) j ≤ 9 := fun j hj => nv_bag hX.1 hb hj
    have s1 := sw_le hg (min n 3 + 1) (by omega)
    have s2 := wo_le (h := h) hn h1 hg (min n 3 + 1) (by omega)
    have al1 := nn_le (n := n) (h := 0) (j := 0) hn h1
    have al2 := al_pos h1
    have al3 : nnN n 0 0 = alN n := rfl
    have w0 := nv_bag hX.1 hb (j := 0) (by omega)
    have tm := nI_toInt (n := min n 3) (by omega)
    have tm1 := nI_toInt (n := min n 3 + 1) (by omega)
    have hf := X_fall (x := n) (a := 0) (t := min n 3) (by omega) (by omega) (by omega) (by omega)
    rw [Nat.sub_zero, fl_al h1] at hf
    have hf' : f_X11_falling (nI n) 0 (nI (min n 3)) = some (lN (alN n)) := hf
    have hg0 : f_X6_get (nI b) 0 w = some (nI (A.nv 0 b)) := VX_get (q := 0) hX (okb (by omega) hb) (by omega)
    show f_X11_handful_b85_y w (f_X11_handful_b85 w n') (nI b) a3 a4 (nI n) (nI h) (nI (min n 3)) _ _ (nI (min n 3 + 1)) = _
    unfold f_X11_handful_b85_y f_X11_handful_b190
    rw [if_pos (by rw [fa_lt, tm, tm1]; omega), hf', bR_s, hg0, bR_s, lt_d, nI_l (by omega), lN_mul]
    generalize sw (fun j => A.nv j b) (min n 3 + 1) = S0 at *
    generalize wo (fun j => A.nv j b) n h (min n 3 + 1) = wt at *
    have hsal : S0 * alN n ≤ 36 * 216000 := Nat.mul_le_mul (by omega) (by omega)
    have hwal : A.nv 0 b * alN n ≤ 9 * 216000 := Nat.mul_le_mul w0 (by omega)
    have iff1 : (lN S0 = 0) ↔ S0 = 0 := lN_z (by omega)
    have iff2 : (lN wt = 0) ↔ wt = 0 := lN_z (by omega)
    have iff3 : (lN (alN n) = 0) ↔ alN n = 0 := lN_z (by omega)
    unfold hfV
    by_cases z : S0 = 0
    · rw [if_pos (iff1.mpr z), if_pos z, show (1 : Int64) = lN 1 from rfl, lN_mul]
      by_cases y : a3 = 0
      · rw [if_pos y, if_pos y, inLowest_low (lN_t (by omega)) (by omega) (by omega), bR_s]
      · have na : ¬ lN (alN n) = 0 := fun q => by have := iff3.mp q; omega
        rw [if_neg y, if_neg y, if_neg na, inLowest_low (lN_t (by omega)) (by omega) (by omega), bR_s]
    · have hsp : 0 < S0 * alN n := Nat.mul_pos (by omega) al2
      rw [if_neg (fun q => z (iff1.mp q)), if_neg z, lN_mul]
      by_cases y : a3 = 0
      · rw [if_pos y, if_pos y, inLowest_low (lN_t (by omega)) hsp (by omega), bR_s]
      · rw [if_neg y, if_neg y]
        by_cases x : wt = 0
        · rw [if_pos (iff2.mpr x), if_pos x]
        · rw [if_neg (fun q => x (iff2.mp q)), if_neg x, inLowest_low (lN_t (by omega)) (by omega) (by omega), bR_s]
  | k + 1, 0, _, _, h => absurd h (by omega)
  | k + 1, n' + 1, j, hj, hn' => by
    have tm := nI_toInt (n := min n 3) (by omega)
    have tj := nI_toInt (n := j) (by omega)
    have wj := nv_bag hX.1 hb (j := j) (by omega)
    have f1 := X_fall (x := n - h) (a := 0) (t := j) (by omega) (by omega) (by omega) (by omega)
    have f2 := X_fall (x := n) (a := j) (t := min n 3) (by omega) (by omega) (by omega) (by omega)
    rw [Nat.sub_zero] at f1
    have f1' : f_X11_falling (nI (n - h)) 0 (nI j) = some (lN (flN (n - h) j 0 1)) := f1
    have IH := X_hf hX hb hn h1 hh a3 a4 k n' (j + 1) (by omega) (by omega)
    show f_X11_handful_b85_y w (f_X11_handful_b85 w n') (nI b) a3 a4 (nI n) (nI h) (nI (min n 3)) _ _ (nI j) = _
    unfold f_X11_handful_b85_y
    rw [if_neg (by rw [fa_lt, tm, tj]; omega), VX_get hX (okb (by omega) hb) (by omega), bR_s, lt_d, lt_d, nI_l (by omega), lN_add, pk_sub hh, f1', bR_s, f2, bR_s, lt_d, lN_mul, lN_mul, lN_add, nI_1, Nat.mul_assoc (A.nv j b), fl_nn h1 (by omega)]
    exact IH
theorem M_facL {n h j i : Nat} (hn : n ≤ 60) (hh : h ≤ n) (hi : i < 3) (hj : j ≤ 3) (m v : Nat) : f_X12_noneOf_b6 (m + 1) (nI n) (nI h) (nI j) (lN v) (nI i) = f_X12_noneOf_b6 m (nI n) (nI h) (nI j) (lN (v * fac n h j i)) (nI (i + 1)) := by
  have tn := nI_toInt (n := n) (by omega)
  have ti := nI_toInt (n := i) (by omega)
  have s1 : (nI n - nI i).toInt = (n : Int) - i := pk_sub_toInt (by omega) (by omega)
  have s2 : ((nI n - nI h) - nI i).toInt = (n : Int) - h - i := by
    rw [pk_sub hh, pk_sub_toInt (by omega) (by omega)]
    omega
  show f_X12_noneOf_b6_y (f_X12_noneOf_b6 m) (nI n) (nI h) (nI j) (lN v) (nI i) = _
  unfold f_X12_noneOf_b6_y f_X12_noneOf_b39 f_X12_noneOf_b59 fac
  rw [if_neg (by rw [show (3 : Int32) = nI 3 from rfl, nI_leI (by omega) (by omega)]; omega)]
  by_cases c : j ≤ i
  · rw [if_pos (by rw [nI_leI (by omega) (by omega)]; exact c), if_pos c]
    by_cases d : n ≤ i
    · rw [if_pos (by rw [fa_le, s1, ti_0]; omega), if_pos d, lt_d, show (1 : Int64) = lN 1 from rfl, lN_mul, nI_1]
    · rw [if_neg (by rw [fa_le, s1, ti_0]; omega), if_neg d, pk_sub (by omega), lt_d, nI_l (by omega), lN_mul, nI_1]
  · rw [if_neg (by rw [nI_leI (by omega) (by omega)]; exact c), if_neg c]
    by_cases d : n - h ≤ i
    · have e0 : n - h - i = 0 := by omega
      rw [if_pos (by rw [fa_le, s2, ti_0]; omega), lt_d, show Int32.toInt64 (0 : Int32) = lN 0 from rfl, lN_mul, nI_1, e0]
    · rw [if_neg (by rw [fa_le, s2, ti_0]; omega), pk_sub hh, pk_sub (by omega), lt_d, nI_l (by omega), lN_mul, nI_1]
theorem M_none {n h j : Nat} (hn : n ≤ 60) (hh : h ≤ n) (hj : j ≤ 3) : f_X12_noneOf (nI n) (nI h) (nI j) = some (lN (nnN n h j)) := by
  unfold f_X12_noneOf
  rw [show fu = 296 + 1 + 1 + 1 + 1 from rfl, show (1 : Int64) = lN 1 from rfl, show (0 : Int32) = nI 0 from rfl, M_facL hn hh (by omega) hj, M_facL hn hh (by omega) hj, M_facL hn hh (by omega) hj]
  show f_X12_noneOf_b6_y (f_X12_noneOf_b6 296) (nI n) (nI h) (nI j) _ (nI 3) = _
  unfold f_X12_noneOf_b6_y
  rw [if_pos (by decide)]
  rfl
theorem M_allO {n : Nat} (hn : n ≤ 60) : f_X12_allOf (nI n) = some (lN (alN n)) := by
  have st : ∀ i m v, i < 3 → f_X12_allOf_b4 (m + 1) (nI n) (lN v) (nI i) = f_X12_allOf_b4 m (nI n) (lN (v * fac n 0 0 i)) (nI (i + 1)) := by
    intro i m v hi
    have s1 : (nI n - nI i).toInt = (n : Int) - i := pk_sub_toInt (by omega) (by omega)
    show f_X12_allOf_b4_y (f_X12_allOf_b4 m) (nI n) (lN v) (nI i) = _
    unfold f_X12_allOf_b4_y f_X12_allOf_b24 fac
    rw [if_neg (by rw [show (3 : Int32) = nI 3 from rfl, nI_leI (by omega) (by omega)]; omega), if_pos (Nat.zero_le i)]
    by_cases d : n ≤ i
    · rw [if_pos (by rw [fa_le, s1, ti_0]; omega), if_pos d, lt_d, show (1 : Int64) = lN 1 from rfl, lN_mul, nI_1]
    · rw [if_neg (by rw [fa_le, s1, ti_0]; omega), if_neg d, pk_sub (by omega), lt_d, nI_l (by omega), lN_mul, nI_1]
  unfold f_X12_allOf
  rw [show fu = 296 + 1 + 1 + 1 + 1 from rfl, show (1 : Int64) = lN 1 from rfl, show (0 : Int32) = nI 0 from rfl, st 0 _ _ (by omega), st 1 _ _ (by omega), st 2 _ _ (by omega)]
  show f_X12_allOf_b4_y (f_X12_allOf_b4 296) (nI n) _ (nI 3) = _
  unfold f_X12_allOf_b4_y
  rw [if_pos (by decide)]
  rfl
theorem M_h115 {A : Ab} {b n h S : Nat} {w : Wd} (hM : VM A w) (hb : b < 4) (hn : n ≤ 60) (h1 : 1 ≤ n) (hh : h ≤ n) (hS : S ≤ 36) (a3 a4 : Int32) : ∀ (k n' j : Nat), j + k = min n 3 + 1 → k < n' → f_X12_handful_b115 w n' (nI b) a3 a4 (nI n) (nI h) (nI S) (lN (wo (fun j => if S = 0 then (if j = 0 then 1 else 0) else A.nv j b) n h j)) (nI j) = f_X12_handful_b180 w (nI b) a3 a4 (nI n) (nI h) (nI S) (lN (wo (fun j => if S = 0 then (if j = 0 then 1 else 0) else A.nv j b) n h (min n 3 + 1)))
  | 0, 0, _, _, h => absurd h (by omega)
  | 0, n' + 1, j, hj, _ => by
    have hj' : j = min n 3 + 1 := hj
    subst hj'
    have tn := nI_toInt (n := n) (by omega)
    have tj := nI_toInt (n := min n 3 + 1) (by omega)
    show f_X12_handful_b115_y w (f_X12_handful_b115 w n') (nI b) a3 a4 (nI n) (nI h) (nI S) _ (nI (min n 3 + 1)) = _
    unfold f_X12_handful_b115_y
    by_cases c : 3 < min n 3 + 1
    · rw [if_pos (by rw [fa_lt, tj]; show (3 : Int) < _; omega)]
    · rw [if_neg (by rw [fa_lt, tj]; show ¬ (3 : Int) < _; omega), if_pos (by rw [fa_lt, tj, tn]; omega)]
  | k + 1, 0, _, _, h => absurd h (by omega)
  | k + 1, n' + 1, j, hj, hn' => by
    have tn := nI_toInt (n := n) (by omega)
    have tj := nI_toInt (n := j) (by omega)
    have wj := nv_bag hM.1 hb (j := j) (by omega)
    have ed : ((4 : Int32) * nI b) = nI (4 * b) := by rw [show (4 : Int32) = nI 4 from rfl, pk_mul]
    have iffS : (nI S = (0 : Int32)) ↔ S = 0 := by rw [show (0 : Int32) = nI 0 from rfl, nI_eq (by omega) (by omega)]
    have iffj : (nI j = (0 : Int32)) ↔ j = 0 := by rw [show (0 : Int32) = nI 0 from rfl, nI_eq (by omega) (by omega)]
    have IH := M_h115 hM hb hn h1 hh hS a3 a4 k n' (j + 1) (by omega) (by omega)
    have go : ∀ g, g ≤ 9 → g = (if S = 0 then (if j = 0 then 1 else 0) else A.nv j b) → f_X12_handful_b159 w (f_X12_handful_b115 w n') (nI b) a3 a4 (nI n) (nI h) (nI S) (nI j) (nI g) (lN (wo (fun j => if S = 0 then (if j = 0 then 1 else 0) else A.nv j b) n h j)) = f_X12_handful_b180 w (nI b) a3 a4 (nI n) (nI h) (nI S) (lN (wo (fun j => if S = 0 then (if j = 0 then 1 else 0) else A.nv j b) n h (min n 3 + 1))) := by
      intro g hg eg
      have IH' := IH
      unfold wo at IH'
      rw [← eg] at IH'
      unfold f_X12_handful_b159
      rw [M_none hn hh (by omega), bR_s, lt_d, nI_l (by omega), lN_mul, lN_add, nI_1]
      exact IH'
    show f_X12_handful_b115_y w (f_X12_handful_b115 w n') (nI b) a3 a4 (nI n) (nI h) (nI S) _ (nI j) = _
    unfold f_X12_handful_b115_y
    rw [if_neg (by rw [fa_lt, tj]; show ¬ (3 : Int) < _; omega), if_neg (by rw [fa_lt, tj, tn]; omega)]
    by_cases c : S = 0
    · rw [if_pos (iffS.mpr c)]
      by_cases d : j = 0
      · rw [if_pos (iffj.mpr d)]
        exact go 1 (by omega) (by rw [if_pos c, if_pos d])
      · rw [if_neg (fun q => d (iffj.mp q))]
        exact go 0 (by omega) (by rw [if_pos c, if_neg d])
    · rw [if_neg (fun q => c (iffS.mp q)), ed, nI_add, ldI_d (inb_nI (by omega) (by omega)), ix_nI (by omega), VM_w hM hb (by omega)]
      exact go (A.nv j b) wj (by rw [if_neg c])
theorem M_h77 {A : Ab} {b n h : Nat} {w : Wd} (hM : VM A w) (hb : b < 4) (hn : n ≤ 60) (a3 a4 : Int32) (x8 : Int64) : ∀ (k n' j : Nat), j + k = min n 3 + 1 → k < n' → f_X12_handful_b77 w n' (nI b) a3 a4 (nI n) (nI h) (nI (sw (fun j => A.nv j b) j)) x8 (nI j) = f_X12_handful_b112 w (nI b) a3 a4 (nI n) (nI h) (nI (sw (fun j => A.nv j b) (min n 3 + 1))) x8
  | 0, 0, _, _, h => absurd h (by omega)
  | 0, n' + 1, j, hj, _ => by
    have hj' : j = min n 3 + 1 := hj
    subst hj'
    have tn := nI_toInt (n := n) (by omega)
    have tj := nI_toInt (n := min n 3 + 1) (by omega)
    show f_X12_handful_b77_y w (f_X12_handful_b77 w n') (nI b) a3 a4 (nI n) (nI h) _ x8 (nI (min n 3 + 1)) = _
    unfold f_X12_handful_b77_y
    by_cases c : 3 < min n 3 + 1
    · rw [if_pos (by rw [fa_lt, tj]; show (3 : Int) < _; omega)]
    · rw [if_neg (by rw [fa_lt, tj]; show ¬ (3 : Int) < _; omega), if_pos (by rw [fa_lt, tj, tn]; omega)]
  | k + 1, 0, _, _, h => absurd h (by omega)
  | k + 1, n' + 1, j, hj, hn' => by
    have tn := nI_toInt (n := n) (by omega)
    have tj := nI_toInt (n := j) (by omega)
    have ed : ((4 : Int32) * nI b) = nI (4 * b) := by rw [show (4 : Int32) = nI 4 from rfl, pk_mul]
    have IH := M_h77 (h := h) hM hb hn a3 a4 x8 k n' (j + 1) (by omega) (by omega)
    show f_X12_handful_b77_y w (f_X12_handful_b77 w n') (nI b) a3 a4 (nI n) (nI h) _ x8 (nI j) = _
    unfold f_X12_handful_b77_y
    rw [if_neg (by rw [fa_lt, tj]; show ¬ (3 : Int) < _; omega), if_neg (by rw [fa_lt, tj, tn]; omega), ed, nI_add, ldI_d (inb_nI (by omega) (by omega)), ix_nI (by omega), VM_w hM hb (by omega), lt_d, nI_add, nI_1]
    exact IH
theorem M_hf {A : Ab} {b n h : Nat} {w : Wd} (hM : VM A w) (hb : b < 4) (hn : n ≤ 60) (h1 : 1 ≤ n) (hh : h ≤ n) (a3 a4 : Int32) : f_X12_handful_b77 w fu (nI b) a3 a4 (nI n) (nI h) 0 0 0 = some (hfV (sw (fun j => A.nv j b) (min n 3 + 1)) (alN n) (A.nv 0 b) (wo (fun j => A.nv j b) n h (min n 3 + 1)) a3 a4) := by
  have hg : ∀ j, j < 4 → (fun j => A.nv j b) j ≤ 9 := fun j hj => nv_bag hM.1 hb hj
  have s1 := sw_le hg (min n 3 + 1) (by omega)
  have s2 := wo_le (h := h) hn h1 hg (min n 3 + 1) (by omega)
  have al1 := nn_le (n := n) (h := 0) (j := 0) hn h1
  have al2 := al_pos h1
  have al3 : nnN n 0 0 = alN n := rfl
  have w0 := nv_bag hM.1 hb (j := 0) (by omega)
  have e1 := M_h77 (h := h) hM hb hn a3 a4 0 (min n 3 + 1) fu 0 (by omega) (by show _ < 300; omega)
  have e2 := M_h115 (S := sw (fun j => A.nv j b) (min n 3 + 1)) hM hb hn h1 hh (by omega) a3 a4 (min n 3 + 1) fu 0 (by omega) (by show _ < 300; omega)
  have hwc : ¬ sw (fun j => A.nv j b) (min n 3 + 1) = 0 → wo (fun j => if sw (fun j => A.nv j b) (min n 3 + 1) = 0 then (if j = 0 then 1 else 0) else A.nv j b) n h (min n 3 + 1) = wo (fun j => A.nv j b) n h (min n 3 + 1) := by
    intro z
    refine wo_cg _ (fun j _ => ?_)
    show (if sw (fun j => A.nv j b) (min n 3 + 1) = 0 then (if j = 0 then 1 else 0) else A.nv j b) = A.nv j b
    rw [if_neg z]
  have hwz : sw (fun j => A.nv j b) (min n 3 + 1) = 0 → wo (fun j => if sw (fun j => A.nv j b) (min n 3 + 1) = 0 then (if j = 0 then 1 else 0) else A.nv j b) n h (min n 3 + 1) = alN n := by
    intro z
    refine wo_one ?_ (fun j => ?_) _
    · show (if sw (fun j => A.nv j b) (min n 3 + 1) = 0 then (if 0 = 0 then 1 else 0) else A.nv 0 b) = 1
      rw [if_pos z, if_pos rfl]
    · show (if sw (fun j => A.nv j b) (min n 3 + 1) = 0 then (if j + 1 = 0 then 1 else 0) else A.nv (j + 1) b) = 0
      rw [if_pos z, if_neg (by omega)]
  refine Eq.trans e1 ?_
  unfold f_X12_handful_b112
  refine Eq.trans e2 ?_
  have g0 : gi w 55 (4 * b) = nI (A.nv 0 b) := VM_w hM hb (j := 0) (by omega)
  have ed : ((4 : Int32) * nI b) = nI (4 * b) := by rw [show (4 : Int32) = nI 4 from rfl, pk_mul]
  have hn0 : f_X12_noneOf (nI n) (nI h) 0 = some (lN (alN n)) := by
    have := M_none (n := n) (h := h) (j := 0) hn hh (by omega)
    rw [nn_0] at this
    exact this
  generalize sw (fun j => A.nv j b) (min n 3 + 1) = S0 at *
  generalize hwt : wo (fun j => A.nv j b) n h (min n 3 + 1) = wt at *
  have hsal : S0 * alN n ≤ 36 * 216000 := Nat.mul_le_mul (by omega) (by omega)
  have hwal : A.nv 0 b * alN n ≤ 9 * 216000 := Nat.mul_le_mul w0 (by omega)
  have iffS : (nI S0 = (0 : Int32)) ↔ S0 = 0 := by rw [show (0 : Int32) = nI 0 from rfl, nI_eq (by omega) (by omega)]
  unfold f_X12_handful_b180 f_X12_handful_b197 f_X12_handful_b238 hfV
  by_cases z : S0 = 0
  · rw [hwz z, M_allO hn, bR_s, hn0, bR_s, if_pos (iffS.mpr z), if_pos (iffS.mpr z), if_pos z]
    have na : ¬ lN (alN n) = 0 := fun q => by have := (lN_z (b := alN n) (by omega)).mp q; omega
    by_cases y : a3 = 0
    · rw [if_pos y, if_pos y, show Int32.toInt64 (1 : Int32) = lN 1 from rfl, lN_mul, asPart_low (lN_t (by omega)) (by omega) (by omega), bR_s]
    · rw [if_neg y, if_neg y, if_neg na, bR_s, show Int32.toInt64 (1 : Int32) = lN 1 from rfl, lN_mul, Nat.one_mul, asPart_low (lN_t (by omega)) (by omega) (by omega), bR_s]
  · have hsp : 0 < S0 * alN n := Nat.mul_pos (by omega) al2
    have nS : ¬ nI S0 = (0 : Int32) := fun q => z (iffS.mp q)
    have iff2 : (lN wt = 0) ↔ wt = 0 := lN_z (by omega)
    rw [hwc z, M_allO hn, bR_s, hn0, bR_s, if_neg nS, if_neg nS, if_neg z, nI_l (by omega), lN_mul]
    by_cases y : a3 = 0
    · rw [if_pos y, if_pos y, asPart_low (lN_t (by omega)) hsp (by omega), bR_s]
    · rw [if_neg y, if_neg y]
      by_cases x : wt = 0
      · rw [if_pos (iff2.mpr x), if_pos x]
      · rw [if_neg (fun q => x (iff2.mp q)), if_neg x, ed, ldI_d (inb_nI (by omega) (by omega)), ix_nI (by omega), g0, bR_s, nI_l (by omega), lN_mul, asPart_low (lN_t (by omega)) (by omega) (by omega), bR_s]
theorem T_handful {A : Ab} {w : Wd} (hX : VX A w) (hM : VM A w) (a1 a2 a3 a4 : Int32) : ∃ r, f_X11_handful a1 a2 a3 a4 w = some r ∧ f_X12_handful a1 a2 a3 a4 w = some r := by
  have t0 : (0 : Int32).toInt = 0 := rfl
  have t1 : (1 : Int32).toInt = 1 := rfl
  have t60 : (60 : Int32).toInt = 60 := rfl
  by_cases hneg : a2 < 0
  · refine ⟨NONE, ?_, ?_⟩
    · unfold f_X11_handful
      rw [X_isBag, bR_s, ite_b2i]
      by_cases c : inb a1 4
      · rw [if_pos c, if_pos hneg]
      · rw [if_neg c]
    · unfold f_X12_handful
      rw [M_isBag, bR_s, ite_b2i]
      by_cases c : inb a1 4
      · rw [if_pos c, if_pos hneg]
      · rw [if_neg c]
  obtain ⟨x, hx, rfl⟩ := nI_of hneg
  obtain ⟨_, _, e3, e4⟩ := ls_div hx
  have tn := nI_toInt (n := x / 100) (by omega)
  have th := nI_toInt (n := x % 100) (by omega)
  by_cases h : inb a1 4 ∧ inb a3 2 ∧ inb a4 2 ∧ 1 ≤ x / 100 ∧ x / 100 ≤ 60 ∧ x % 100 ≤ x / 100
  · obtain ⟨h1, h3, h4, h5, h6, h7⟩ := h
    obtain ⟨b, hb, rfl⟩ := of_inb h1
    have h3' := h3
    unfold inb at h3'
    have X0 := X_hf hX hb h6 h5 h7 a3 a4 (min (x / 100) 3 + 1) fu 0 (by omega) (by show _ < 300; omega)
    have M0 := M_hf hM hb h6 h5 h7 a3 a4
    refine ⟨hfV (sw (fun j => A.nv j b) (min (x / 100) 3 + 1)) (alN (x / 100)) (A.nv 0 b) (wo (fun j => A.nv j b) (x / 100) (x % 100) (min (x / 100) 3 + 1)) a3 a4, ?_, ?_⟩
    · unfold f_X11_handful
      rw [X_isBag, bR_s, ite_b2i, if_pos h1, if_neg hneg, if_neg (by rw [fa_lt]; omega), if_neg (by rw [fa_lt]; omega), X_isPart, bR_s, ite_b2i, if_pos h4, lt_d, lt_d, e3, e4, if_neg (by rw [fa_lt, tn, t1]; omega), if_neg (by rw [fa_lt, tn, t60]; omega), if_pos (by rw [nI_leI (by omega) (by omega)]; exact h7), lt_d, show (3 : Int32) = nI 3 from rfl, imin_nI (by omega) (by omega)]
      exact X0
    · unfold f_X12_handful
      rw [M_isBag, bR_s, ite_b2i, if_pos h1, if_neg hneg, e3, e4, M_in, bR_s, ite_b2i, if_pos (by rw [tn, t1, t60]; omega), if_neg (by rw [fa_lt, tn, th]; omega), M_in, bR_s, ite_b2i, if_pos (by omega), M_isPart, bR_s, ite_b2i, if_pos h4, lt_d, lt_d]
      exact M0
  · refine ⟨NONE, ?_, ?_⟩
    · unfold f_X11_handful
      rw [X_isBag, bR_s, ite_b2i]
      by_cases c1 : inb a1 4
      · rw [if_pos c1, if_neg hneg]
        by_cases c2 : a3 < 0
        · rw [if_pos c2]
        rw [if_neg c2]
        by_cases c3 : 1 < a3
        · rw [if_pos c3]
        rw [if_neg c3, X_isPart, bR_s, ite_b2i]
        by_cases c4 : inb a4 2
        · rw [if_pos c4, lt_d, lt_d, e3, e4]
          by_cases c5 : x / 100 < 1
          · rw [if_pos (by rw [fa_lt, tn, t1]; omega)]
          rw [if_neg (by rw [fa_lt, tn, t1]; omega)]
          by_cases c6 : 60 < x / 100
          · rw [if_pos (by rw [fa_lt, tn, t60]; omega)]
          rw [if_neg (by rw [fa_lt, tn, t60]; omega), if_neg]
          rw [nI_leI (by omega) (by omega)]
          intro c7
          rw [fa_lt] at c2 c3
          exact h ⟨c1, ⟨by omega, by omega⟩, c4, by omega, by omega, c7⟩
        · rw [if_neg c4]
      · rw [if_neg c1]
    · unfold f_X12_handful
      rw [M_isBag, bR_s, ite_b2i]
      by_cases c1 : inb a1 4
      · rw [if_pos c1, if_neg hneg, e3, e4, M_in, bR_s, ite_b2i, tn, t1, t60]
        by_cases c5 : (1 : Int) ≤ ((x / 100 : Nat) : Int) ∧ ((x / 100 : Nat) : Int) ≤ 60
        · rw [if_pos c5]
          by_cases c6 : x / 100 < x % 100
          · rw [if_pos (by rw [fa_lt, tn, th]; omega)]
          rw [if_neg (by rw [fa_lt, tn, th]; omega), M_in, bR_s, ite_b2i]
          by_cases c7 : (0 : Int32).toInt ≤ a3.toInt ∧ a3.toInt ≤ (1 : Int32).toInt
          · rw [if_pos c7, M_isPart, bR_s, ite_b2i, if_neg]
            intro c8
            exact h ⟨c1, ⟨by omega, by omega⟩, c8, by omega, by omega, by omega⟩
          · rw [if_neg c7]
        · rw [if_neg c5]
      · rw [if_neg c1]
