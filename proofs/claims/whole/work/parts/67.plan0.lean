/-! PLANS: in whole numbers -/
def cfN (sh f j : Nat) : Nat := chs (j + f) f * sh ^ f * (12 - sh) ^ j * 12 ^ (3 - (j + f))
theorem stepN_cf {p : Nat → Nat} {sh f j : Nat} (h : j + f ≤ 3) : stepN p sh f j = p (j + f) * cfN sh f j := by
  unfold stepN cfN
  rw [if_pos h, Nat.mul_assoc]
theorem stepN_z {p : Nat → Nat} {sh f j : Nat} (h : ¬ j + f ≤ 3) : stepN p sh f j = 0 := by
  unfold stepN
  rw [if_neg h]
theorem cf_id : ∀ sh, sh < 13 → cfN sh 0 1 = (12 - sh) * 144 ∧ 2 * cfN sh 0 2 + cfN sh 1 1 = 2 * ((12 - sh) * 144) ∧ 3 * cfN sh 0 3 + 2 * cfN sh 1 2 + cfN sh 2 1 = 3 * ((12 - sh) * 144) := by decide +kernel
theorem sto_id {p : Nat → Nat} {sh : Nat} (h : sh ≤ 12) : stoN (stepN p sh 0) + stoN (stepN p sh 1) + stoN (stepN p sh 2) + stoN (stepN p sh 3) = stoN p * ((12 - sh) * 144) := by
  obtain ⟨e1, e2, e3⟩ := cf_id sh (by omega)
  unfold stoN
  rw [stepN_cf (f := 0) (j := 1) (by omega), stepN_cf (f := 0) (j := 2) (by omega), stepN_cf (f := 0) (j := 3) (by omega), stepN_cf (f := 1) (j := 1) (by omega), stepN_cf (f := 1) (j := 2) (by omega), stepN_z (f := 1) (j := 3) (by omega), stepN_cf (f := 2) (j := 1) (by omega), stepN_z (f := 2) (j := 2) (by omega), stepN_z (f := 2) (j := 3) (by omega), stepN_z (f := 3) (j := 1) (by omega), stepN_z (f := 3) (j := 2) (by omega), stepN_z (f := 3) (j := 3) (by omega)]
  generalize cfN sh 0 1 = a1 at *
  generalize cfN sh 0 2 = a2 at *
  generalize cfN sh 1 1 = a3 at *
  generalize cfN sh 0 3 = a4 at *
  generalize cfN sh 1 2 = a5 at *
  generalize cfN sh 2 1 = a6 at *
  generalize (12 - sh) * 144 = z at *
  subst e1
  show p 1 * a1 + 2 * (p 2 * a2) + 3 * (p 3 * a4) + (p 2 * a3 + 2 * (p 3 * a5) + 3 * 0) + (p 3 * a6 + 2 * 0 + 3 * 0) + (0 + 2 * 0 + 3 * 0) = (p 1 + 2 * p 2 + 3 * p 3) * a1
  have h2 : p 2 * (2 * a2 + a3) = p 2 * (2 * a1) := by rw [e2]
  have h3 : p 3 * (3 * a4 + 2 * a5 + a6) = p 3 * (3 * a1) := by rw [e3]
  rw [Nat.mul_add, ← Nat.mul_assoc, Nat.mul_comm (p 2) 2, Nat.mul_assoc] at h2
  rw [Nat.mul_add, Nat.mul_add] at h3
  rw [Nat.add_mul, Nat.add_mul]
  have f1 : p 2 * (2 * a1) = 2 * p 2 * a1 := by rw [← Nat.mul_assoc, Nat.mul_comm (p 2) 2]
  have f2 : p 3 * (3 * a1) = 3 * p 3 * a1 := by rw [← Nat.mul_assoc, Nat.mul_comm (p 3) 3]
  have f3 : p 3 * (3 * a4) = 3 * (p 3 * a4) := by rw [Nat.mul_left_comm]
  have f4 : p 3 * (2 * a5) = 2 * (p 3 * a5) := by rw [Nat.mul_left_comm]
  omega
theorem sum_sto {p : Nat → Nat} (h : sumN p = 0) : stoN p = 0 := by
  unfold sumN at h
  unfold stoN
  omega
def plk (isf : Nat → Nat) : Nat → Nat → Nat → Int32 → Nat × Int32
  | 0, _, best, first => (best, first)
  | f + 1, k, best, first => if isf k < best then plk isf f (k + 1) (isf k) (nI k) else plk isf f (k + 1) best first
theorem plk_le {isf : Nat → Nat} : ∀ f k best first, (plk isf f k best first).1 ≤ best
  | 0, _, _, _ => Nat.le_refl _
  | f + 1, k, best, first => by
    unfold plk
    by_cases c : isf k < best
    · rw [if_pos c]
      have := plk_le (isf := isf) f (k + 1) (isf k) (nI k)
      omega
    · rw [if_neg c]
      exact plk_le f (k + 1) best first
theorem plk_cg {isf isf' : Nat → Nat} : ∀ f k best first, (∀ i, k ≤ i → i < k + f → isf i = isf' i) → plk isf f k best first = plk isf' f k best first
  | 0, _, _, _, _ => rfl
  | f + 1, k, best, first, h => by
    unfold plk
    rw [h k (by omega) (by omega), plk_cg f (k + 1) (isf' k) (nI k) (fun i h1 h2 => h i (by omega) (by omega)), plk_cg f (k + 1) best first (fun i h1 h2 => h i (by omega) (by omega))]
/-- the share of a look, by who, behind how many -/
def shp (A : Ab) (k d : Nat) : Nat := twv A k (nI d) (thk A)
theorem shp_le (A : Ab) (k d : Nat) : shp A k d ≤ 12 := (tw_I A k (nI d) (thk A)).2
def PLv (A : Ab) : Nat → Nat → (Nat → Nat) → Nat × Int32
  | 0, _, p => (A.nv 10 0 * stoN p, -2)
  | m + 1, d, p => plk (fun k => A.nv 6 k * sumN p * 1728 ^ (m + 1) + ((if sumN (stepN p (shp A k d) 0) = 0 then 0 else (PLv A m (d + 1) (stepN p (shp A k d) 0)).1) + (if sumN (stepN p (shp A k d) 1) = 0 then 0 else (PLv A m (d + 1) (stepN p (shp A k d) 1)).1) + (if sumN (stepN p (shp A k d) 2) = 0 then 0 else (PLv A m (d + 1) (stepN p (shp A k d) 2)).1) + (if sumN (stepN p (shp A k d) 3) = 0 then 0 else (PLv A m (d + 1) (stepN p (shp A k d) 3)).1))) A.L 0 (A.nv 10 0 * stoN p * 1728 ^ (m + 1)) (-2)
theorem PLv_le {A : Ab} : ∀ m d p, (PLv A m d p).1 ≤ A.nv 10 0 * stoN p * 1728 ^ m
  | 0, d, p => by show A.nv 10 0 * stoN p ≤ A.nv 10 0 * stoN p * 1728 ^ 0; rw [Nat.pow_zero, Nat.mul_one]; exact Nat.le_refl _
  | m + 1, d, p => by unfold PLv; exact plk_le _ _ _ _
theorem PLv_0 {A : Ab} {m d : Nat} {p : Nat → Nat} (h : stoN p = 0) : (PLv A m d p).1 = 0 := by
  have := PLv_le (A := A) m d p
  rw [h, Nat.mul_zero, Nat.zero_mul] at this
  omega
/-- what one look by k costs, as the model adds it and as the class does -/
def isM (A : Ab) (m d : Nat) (p : Nat → Nat) (k : Nat) : Nat := A.nv 6 k * sumN p * 1728 ^ (m + 1) + ((if sumN (stepN p (shp A k d) 0) = 0 then 0 else (PLv A m (d + 1) (stepN p (shp A k d) 0)).1) + (if sumN (stepN p (shp A k d) 1) = 0 then 0 else (PLv A m (d + 1) (stepN p (shp A k d) 1)).1) + (if sumN (stepN p (shp A k d) 2) = 0 then 0 else (PLv A m (d + 1) (stepN p (shp A k d) 2)).1) + (if sumN (stepN p (shp A k d) 3) = 0 then 0 else (PLv A m (d + 1) (stepN p (shp A k d) 3)).1))
theorem PLv_s (A : Ab) (m d : Nat) (p : Nat → Nat) : PLv A (m + 1) d p = plk (isM A m d p) A.L 0 (A.nv 10 0 * stoN p * 1728 ^ (m + 1)) (-2) := rfl
theorem if_sto {A : Ab} {m d : Nat} {p : Nat → Nat} : (if sumN p = 0 then 0 else (PLv A m d p).1) = if stoN p = 0 then 0 else (PLv A m d p).1 := by
  by_cases z : sumN p = 0
  · rw [if_pos z, if_pos (sum_sto z)]
  · rw [if_neg z]
    by_cases y : stoN p = 0
    · rw [if_pos y, PLv_0 y]
    · rw [if_neg y]
theorem isM_0 {A : Ab} {d : Nat} {p : Nat → Nat} {k : Nat} : isM A 0 d p k = A.nv 6 k * sumN p * 1728 + A.nv 10 0 * (stoN p * (12 - shp A k d) * 144) := by
  unfold isM
  have key : ∀ q : Nat → Nat, (if sumN q = 0 then 0 else (PLv A 0 (d + 1) q).1) = A.nv 10 0 * stoN q := by
    intro q
    by_cases z : sumN q = 0
    · rw [if_pos z, sum_sto z, Nat.mul_zero]
    · rw [if_neg z]; rfl
  rw [key, key, key, key, ← Nat.mul_add, ← Nat.mul_add, ← Nat.mul_add, sto_id (shp_le A k d), Nat.mul_assoc (stoN p)]
theorem isM_s {A : Ab} {m d : Nat} {p : Nat → Nat} {k : Nat} : isM A m d p k = A.nv 6 k * sumN p * 1728 ^ (m + 1) + ((if stoN (stepN p (shp A k d) 0) = 0 then 0 else (PLv A m (d + 1) (stepN p (shp A k d) 0)).1) + (if stoN (stepN p (shp A k d) 1) = 0 then 0 else (PLv A m (d + 1) (stepN p (shp A k d) 1)).1) + (if stoN (stepN p (shp A k d) 2) = 0 then 0 else (PLv A m (d + 1) (stepN p (shp A k d) 2)).1) + (if stoN (stepN p (shp A k d) 3) = 0 then 0 else (PLv A m (d + 1) (stepN p (shp A k d) 3)).1)) := by
  unfold isM
  rw [if_sto, if_sto, if_sto, if_sto]
/-- bounds -/
def pB (d : Nat) (p : Nat → Nat) : Prop := ∀ j, j < 4 → p j ≤ 9 * 1728 ^ d
theorem pB_step {d sh f : Nat} {p : Nat → Nat} (h : pB d p) (hsh : sh ≤ 12) : pB (d + 1) (stepN p sh f) := by
  intro j hj
  have := stepN_le (f := f) h hsh j hj
  rw [Nat.pow_succ, ← Nat.mul_assoc]
  exact this
theorem pB_b {d : Nat} {p : Nat → Nat} (h : pB d p) : sumN p ≤ 36 * 1728 ^ d ∧ stoN p ≤ 54 * 1728 ^ d := by
  have h0 := h 0 (by omega)
  have h1 := h 1 (by omega)
  have h2 := h 2 (by omega)
  have h3 := h 3 (by omega)
  unfold sumN stoN
  omega
theorem pwb {d m : Nat} (h : d + m ≤ 3) : 1728 ^ d * 1728 ^ m ≤ 5159780352 := by
  rw [← Nat.pow_add]
  have := Nat.pow_le_pow_right (n := 1728) (by omega) h
  have e : 1728 ^ 3 = 5159780352 := by decide
  omega
theorem best_b {A : Ab} (hA : Aok A) {d m : Nat} {p : Nat → Nat} (h : pB d p) (hd : d + m ≤ 3) : A.nv 10 0 * stoN p * 1728 ^ m ≤ 53946 * 5159780352 := by
  have n10 := nv10 hA
  have := (pB_b h).2
  have e1 : A.nv 10 0 * stoN p ≤ 999 * (54 * 1728 ^ d) := Nat.mul_le_mul n10 this
  have e2 : A.nv 10 0 * stoN p * 1728 ^ m ≤ 999 * (54 * 1728 ^ d) * 1728 ^ m := Nat.mul_le_mul_right _ e1
  have e3 : 999 * (54 * 1728 ^ d) * 1728 ^ m = 53946 * (1728 ^ d * 1728 ^ m) := by rw [← Nat.mul_assoc 999, Nat.mul_assoc]
  have e4 := Nat.mul_le_mul_left 53946 (pwb hd)
  omega
theorem PL_b {A : Ab} (hA : Aok A) {d m : Nat} {p : Nat → Nat} (h : pB d p) (hd : d + m ≤ 3) : (PLv A m d p).1 ≤ 53946 * 5159780352 := Nat.le_trans (PLv_le m d p) (best_b hA h hd)
theorem is_b {A : Ab} (hA : Aok A) {d m k : Nat} {p : Nat → Nat} (h : pB d p) (hd : d + (m + 1) ≤ 3) (hk : k < 6) : isM A m d p k ≤ 219348 * 5159780352 := by
  have key : ∀ f, (if sumN (stepN p (shp A k d) f) = 0 then 0 else (PLv A m (d + 1) (stepN p (shp A k d) f)).1) ≤ 53946 * 5159780352 := by
    intro f
    by_cases z : sumN (stepN p (shp A k d) f) = 0
    · rw [if_pos z]; omega
    · rw [if_neg z]; exact PL_b hA (pB_step h (shp_le A k d)) (by omega)
  have c6 : A.nv 6 k ≤ 99 := hA.2.1 6 k (okL (Or.inr rfl) hk)
  have e1 : A.nv 6 k * sumN p ≤ 99 * (36 * 1728 ^ d) := Nat.mul_le_mul c6 (pB_b h).1
  have e2 : A.nv 6 k * sumN p * 1728 ^ (m + 1) ≤ 99 * (36 * 1728 ^ d) * 1728 ^ (m + 1) := Nat.mul_le_mul_right _ e1
  have e3 : 99 * (36 * 1728 ^ d) * 1728 ^ (m + 1) = 3564 * (1728 ^ d * 1728 ^ (m + 1)) := by rw [← Nat.mul_assoc 99, Nat.mul_assoc]
  have e4 := Nat.mul_le_mul_left 3564 (pwb hd)
  have k0 := key 0
  have k1 := key 1
  have k2 := key 2
  have k3 := key 3
  unfold isM
  omega
