/-! IN DEED: eat, led, image, back; count -/
theorem T_eat {A : Ab} {w : Wd} (hX : VX A w) (hM : VM A w) (hD : DR w) : ∃ r w1 w2, f_X11_eat w = some (r, w1) ∧ f_X12_eat w1 = some (r, w2) ∧ DR w2 ∧ eqo sD w w2 := by
  obtain ⟨⟨d4, d5, d6, d7, d8, dO⟩, dI⟩ := id hD
  rcases dO with ⟨o1, o2⟩ | ⟨o1, s, hs, o2, o3, o4, o5⟩
  · refine ⟨-5, w, w, ?_, ?_, hD, eqo_rf w⟩
    · unfold f_X11_eat
      rw [if_pos o1]
    · unfold f_X12_eat
      rw [ldI_d (by decide), show ix 5 = 5 from rfl, o2, if_neg (by decide)]
  · have n1 : ¬ gi w 37 0 = 0 := by rw [o1]; decide
    have ts := nI_toInt (n := s) (by omega)
    have a1 : gi (si w 37 0 0) 37 4 = gi w 37 4 := by rw [gi_si, if_neg (by omega)]
    have a2 : gi (si (si w 37 0 0) 37 4 (gi w 37 4 + 1)) 37 7 = gi w 37 7 := by rw [gi_si, if_neg (by omega), gi_si, if_neg (by omega)]
    have a3 : gi (si (si w 37 0 0) 37 4 (gi w 37 4 + 1)) 37 1 = nI s := by rw [gi_si, if_neg (by omega), gi_si, if_neg (by omega)]; exact o2
    have a4 : gi (si (si (si w 37 0 0) 37 4 (gi w 37 4 + 1)) 37 7 (gi w 37 7 + nI s)) 37 8 = gi w 37 8 := by rw [gi_si, if_neg (by omega), gi_si, if_neg (by omega), gi_si, if_neg (by omega)]
    have a5 : gi (si (si (si w 37 0 0) 37 4 (gi w 37 4 + 1)) 37 7 (gi w 37 7 + nI s)) 37 1 = nI s := by rw [gi_si, if_neg (by omega)]; exact a3
    have a6 : gi (si (si (si (si w 37 0 0) 37 4 (gi w 37 4 + 1)) 37 7 (gi w 37 7 + nI s)) 37 8 (gi w 37 8 + nI (A.nv 10 0) * nI s)) 37 1 = nI s := by rw [gi_si, if_neg (by omega)]; exact a5
    have X1 : f_X11_eat w = some (nI s, si (si (si (si w 37 0 0) 37 4 (gi w 37 4 + 1)) 37 7 (gi w 37 7 + nI s)) 37 8 (gi w 37 8 + nI (A.nv 10 0) * nI s)) := by
      unfold f_X11_eat f_X2_end
      rw [if_neg n1, VX_10 hX, bR_s, stZ_d (Or.inl rfl), stI_d, a1, stI_d, a2, a3, stI_d, a4, a5, bW_s, a6]
    have E5 : eqo sD w (si (si (si (si w 37 0 0) 37 4 (gi w 37 4 + 1)) 37 7 (gi w 37 7 + nI s)) 37 8 (gi w 37 8 + nI (A.nv 10 0) * nI s)) := eqo_si (eqo_si (eqo_si (eqo_si (eqo_rf w) rfl) rfl) rfl) rfl
    have F5 : ∀ c k, ¬ c = 37 → gi (si (si (si (si w 37 0 0) 37 4 (gi w 37 4 + 1)) 37 7 (gi w 37 7 + nI s)) 37 8 (gi w 37 8 + nI (A.nv 10 0) * nI s)) c k = gi w c k := by
      intro c k n
      rw [gi_si, if_neg (by omega), gi_si, if_neg (by omega), gi_si, if_neg (by omega), gi_si, if_neg (by omega)]
    have G0 : gi (si (si (si (si w 37 0 0) 37 4 (gi w 37 4 + 1)) 37 7 (gi w 37 7 + nI s)) 37 8 (gi w 37 8 + nI (A.nv 10 0) * nI s)) 37 0 = 0 := by rw [gi_si, if_neg (by omega), gi_si, if_neg (by omega), gi_si, if_neg (by omega), gi_si, if_pos ⟨rfl, rfl⟩]
    have G4 : gi (si (si (si (si w 37 0 0) 37 4 (gi w 37 4 + 1)) 37 7 (gi w 37 7 + nI s)) 37 8 (gi w 37 8 + nI (A.nv 10 0) * nI s)) 37 4 = gi w 37 4 + 1 := by rw [gi_si, if_neg (by omega), gi_si, if_neg (by omega), gi_si, if_pos ⟨rfl, rfl⟩]
    have G5 : gi (si (si (si (si w 37 0 0) 37 4 (gi w 37 4 + 1)) 37 7 (gi w 37 7 + nI s)) 37 8 (gi w 37 8 + nI (A.nv 10 0) * nI s)) 37 5 = gi w 37 5 := by rw [gi_si, if_neg (by omega), gi_si, if_neg (by omega), gi_si, if_neg (by omega), gi_si, if_neg (by omega)]
    have G6 : gi (si (si (si (si w 37 0 0) 37 4 (gi w 37 4 + 1)) 37 7 (gi w 37 7 + nI s)) 37 8 (gi w 37 8 + nI (A.nv 10 0) * nI s)) 37 6 = gi w 37 6 := by rw [gi_si, if_neg (by omega), gi_si, if_neg (by omega), gi_si, if_neg (by omega), gi_si, if_neg (by omega)]
    have G7 : gi (si (si (si (si w 37 0 0) 37 4 (gi w 37 4 + 1)) 37 7 (gi w 37 7 + nI s)) 37 8 (gi w 37 8 + nI (A.nv 10 0) * nI s)) 37 7 = gi w 37 7 + nI s := by rw [gi_si, if_neg (by omega), gi_si, if_pos ⟨rfl, rfl⟩]
    have G8 : gi (si (si (si (si w 37 0 0) 37 4 (gi w 37 4 + 1)) 37 7 (gi w 37 7 + nI s)) 37 8 (gi w 37 8 + nI (A.nv 10 0) * nI s)) 37 8 = gi w 37 8 + nI (A.nv 10 0) * nI s := by rw [gi_si, if_pos ⟨rfl, rfl⟩]
    generalize si (si (si (si w 37 0 0) 37 4 (gi w 37 4 + 1)) 37 7 (gi w 37 7 + nI s)) 37 8 (gi w 37 8 + nI (A.nv 10 0) * nI s) = w5 at X1 E5 F5 G0 G4 G5 G6 G7 G8
    have hM5 := VM_d hM E5
    have b5 : gi w5 78 5 = nI s := by rw [F5 78 5 (by omega)]; exact o3
    have b3 : gi (si w5 78 0 (gi w 78 0 + 1)) 78 3 = gi w 78 3 := by rw [gi_si, if_neg (by omega), F5 78 3 (by omega)]
    have b4 : gi (si (si w5 78 0 (gi w 78 0 + 1)) 78 3 (gi w 78 3 + nI s)) 78 4 = gi w 78 4 := by rw [gi_si, if_neg (by omega), gi_si, if_neg (by omega), F5 78 4 (by omega)]
    have g10 : gi w5 54 9 = nI (A.nv 10 0) := hM5.2.2.1 10 0 (ok0 (by omega) (by omega))
    have b10 : gi (si (si w5 78 0 (gi w 78 0 + 1)) 78 3 (gi w 78 3 + nI s)) 54 9 = nI (A.nv 10 0) := by rw [gi_si, if_neg (by omega), gi_si, if_neg (by omega)]; exact g10
    have M1 : f_X12_eat w5 = some (nI s, si (si (si (si w5 78 0 (gi w 78 0 + 1)) 78 3 (gi w 78 3 + nI s)) 78 4 (gi w 78 4 + nI (A.nv 10 0) * nI s)) 78 5 (-1)) := by
      unfold f_X12_eat
      rw [ldI_d (by decide), show ix 5 = 5 from rfl, b5, if_pos (by rw [fa_le, ts, ti_0]; omega), ldI_d (by decide), show ix 5 = 5 from rfl, b5, ldI_d (by decide), show ix 0 = 0 from rfl, F5 78 0 (by omega), saI_d (by decide), show ix 0 = 0 from rfl, ldI_d (by decide), show ix 3 = 3 from rfl, b3, saI_d (by decide), show ix 3 = 3 from rfl, ldI_d (by decide), show ix 4 = 4 from rfl, b4, saI_d (by decide), show ix 4 = 4 from rfl, b10, saI_d (by decide), show ix 5 = 5 from rfl]
    have K : ∀ c k, ¬ c = 78 → gi (si (si (si (si w5 78 0 (gi w 78 0 + 1)) 78 3 (gi w 78 3 + nI s)) 78 4 (gi w 78 4 + nI (A.nv 10 0) * nI s)) 78 5 (-1)) c k = gi w5 c k := by
      intro c k n
      rw [gi_si, if_neg (by omega), gi_si, if_neg (by omega), gi_si, if_neg (by omega), gi_si, if_neg (by omega)]
    refine ⟨_, _, _, X1, M1, ⟨⟨?_, ?_, ?_, ?_, ?_, Or.inl ⟨?_, ?_⟩⟩, ?_⟩, eqo_si (eqo_si (eqo_si (eqo_si E5 rfl) rfl) rfl) rfl⟩
    · rw [K 37 4 (by omega), G4, d4, gi_si, if_neg (by omega), gi_si, if_neg (by omega), gi_si, if_neg (by omega), gi_si, if_pos ⟨rfl, rfl⟩]
    · rw [K 37 5 (by omega), G5, d5, gi_si, if_neg (by omega), gi_si, if_neg (by omega), gi_si, if_neg (by omega), gi_si, if_neg (by omega), F5 78 1 (by omega)]
    · rw [K 37 6 (by omega), G6, d6, gi_si, if_neg (by omega), gi_si, if_neg (by omega), gi_si, if_neg (by omega), gi_si, if_neg (by omega), F5 78 2 (by omega)]
    · rw [K 37 7 (by omega), G7, d7, gi_si, if_neg (by omega), gi_si, if_neg (by omega), gi_si, if_pos ⟨rfl, rfl⟩]
    · rw [K 37 8 (by omega), G8, d8, gi_si, if_neg (by omega), gi_si, if_pos ⟨rfl, rfl⟩]
    · rw [K 37 0 (by omega), G0]
    · rw [gi_si, if_pos ⟨rfl, rfl⟩]
    · have k0 : ∀ c k, ¬ c = 78 → ¬ c = 37 → gi (si (si (si (si w5 78 0 (gi w 78 0 + 1)) 78 3 (gi w 78 3 + nI s)) 78 4 (gi w 78 4 + nI (A.nv 10 0) * nI s)) 78 5 (-1)) c k = gi w c k := fun c k a b => by rw [K c k a, F5 c k b]
      rcases dI with ⟨i1, i2⟩ | ⟨i1, i2, i3⟩
      · exact Or.inl ⟨by rw [k0 0 11 (by omega) (by omega)]; exact i1, by rw [k0 54 47 (by omega) (by omega)]; exact i2⟩
      · exact Or.inr ⟨by rw [k0 0 11 (by omega) (by omega)]; exact i1, by rw [k0 54 47 (by omega) (by omega)]; exact i2, dR_cg i3 (fun k => k0 38 k (by omega) (by omega)) (fun k => k0 79 k (by omega) (by omega))⟩
theorem T_led {w : Wd} (hD : DR w) (a : Int32) : ∃ r, f_X11_led a w = some r ∧ f_X12_led a w = some r := by
  obtain ⟨⟨d4, d5, d6, d7, d8, dO⟩, dI⟩ := id hD
  unfold f_X11_led f_X12_led
  rw [M_in, bR_s, ite_b2i]
  by_cases c0 : a = 0
  · subst c0
    rw [if_pos rfl, if_neg (by decide), if_pos (by decide), ldI_d (by decide), show ix 0 = 0 from rfl, d4]
    exact ⟨_, rfl, rfl⟩
  rw [if_neg c0]
  by_cases c1 : a = 1
  · subst c1
    rw [if_pos rfl, if_neg (by decide), if_pos (by decide), ldI_d (by decide), show ix 1 = 1 from rfl, d5]
    exact ⟨_, rfl, rfl⟩
  rw [if_neg c1]
  by_cases c2 : a = 2
  · subst c2
    rw [if_pos rfl, if_neg (by decide), if_pos (by decide), ldI_d (by decide), show ix 2 = 2 from rfl, d6]
    exact ⟨_, rfl, rfl⟩
  rw [if_neg c2]
  by_cases c3 : a = 3
  · subst c3
    rw [if_pos rfl, if_neg (by decide), if_pos (by decide), ldI_d (by decide), show ix 3 = 3 from rfl, d7]
    exact ⟨_, rfl, rfl⟩
  rw [if_neg c3]
  by_cases c4 : a = 4
  · subst c4
    rw [if_pos rfl, if_neg (by decide), if_pos (by decide), ldI_d (by decide), show ix 4 = 4 from rfl, d8]
    exact ⟨_, rfl, rfl⟩
  rw [if_neg c4]
  by_cases c5 : a = 5
  · rw [if_pos c5, if_pos c5, ldI_d (by decide), show ix 5 = 5 from rfl]
    rcases dO with ⟨o1, o2⟩ | ⟨o1, s, hs, o2, o3, o4, o5⟩
    · rw [if_pos o1, o2, if_neg (by decide)]
      exact ⟨_, rfl, rfl⟩
    · have ts := nI_toInt (n := s) (by omega)
      have n1 : ¬ gi w 37 0 = 0 := by rw [o1]; decide
      rw [if_neg n1, o3, if_pos (by rw [fa_le, ts, ti_0]; omega), ldI_d (by decide), show ix 6 = 6 from rfl, o4]
      exact ⟨_, rfl, rfl⟩
  rw [if_neg c5, if_neg c5, if_neg]
  · exact ⟨_, rfl, rfl⟩
  · intro z
    obtain ⟨m, hm, e⟩ := of_inb (i := a) (N := 5) ⟨z.1, by have : (4 : Int32).toInt = 4 := rfl; omega⟩
    subst e
    have : m = 0 ∨ m = 1 ∨ m = 2 ∨ m = 3 ∨ m = 4 := by omega
    rcases this with q | q | q | q | q <;> subst q
    · exact c0 rfl
    · exact c1 rfl
    · exact c2 rfl
    · exact c3 rfl
    · exact c4 rfl
theorem D_become {c0 c1 : Nat} (hne : ¬ c1 = c0) {w : Wd} (h : gi w c1 0 = 0 ∨ gi w c1 0 = 1) : ∃ w', f_X2_become c0 c1 w = some w' ∧ (∀ k, k < 9 → gi w' c0 k = gi w c1 k) ∧ (∀ c k, ¬ c = c0 → gi w' c k = gi w c k) ∧ ∀ c k, gl w' c k = gl w c k := by
  unfold f_X2_become
  rw [stZ_d h, stI_d, stI_d, stI_d, stI_d, stI_d, stI_d, stI_d, stI_d]
  have nn : ∀ (w : Wd) (k : Nat) (v : Int32) (j : Nat), gi (si w c0 k v) c1 j = gi w c1 j := fun w k v j => by rw [gi_si, if_neg (fun z => hne z.1)]
  simp only [nn]
  refine ⟨_, rfl, fun k hk => ?_, fun c k n => ?_, fun _ _ => rfl⟩
  · have : k = 0 ∨ k = 1 ∨ k = 2 ∨ k = 3 ∨ k = 4 ∨ k = 5 ∨ k = 6 ∨ k = 7 ∨ k = 8 := by omega
    have s0 : ∀ (w : Wd) (k : Nat) (v : Int32), gi (si w c0 k v) c0 k = v := fun w k v => by rw [gi_si, if_pos ⟨rfl, rfl⟩]
    have s1 : ∀ (w : Wd) (k j : Nat) (v : Int32), ¬ j = k → gi (si w c0 k v) c0 j = gi w c0 j := fun w k j v n => by rw [gi_si, if_neg (fun z => n z.2)]
    rcases this with q | q | q | q | q | q | q | q | q <;> subst q
    · rw [s1 _ _ _ _ (by omega), s1 _ _ _ _ (by omega), s1 _ _ _ _ (by omega), s1 _ _ _ _ (by omega), s1 _ _ _ _ (by omega), s1 _ _ _ _ (by omega), s1 _ _ _ _ (by omega), s1 _ _ _ _ (by omega), s0]
    · rw [s1 _ _ _ _ (by omega), s1 _ _ _ _ (by omega), s1 _ _ _ _ (by omega), s1 _ _ _ _ (by omega), s1 _ _ _ _ (by omega), s1 _ _ _ _ (by omega), s1 _ _ _ _ (by omega), s0]
    · rw [s1 _ _ _ _ (by omega), s1 _ _ _ _ (by omega), s1 _ _ _ _ (by omega), s1 _ _ _ _ (by omega), s1 _ _ _ _ (by omega), s1 _ _ _ _ (by omega), s0]
    · rw [s1 _ _ _ _ (by omega), s1 _ _ _ _ (by omega), s1 _ _ _ _ (by omega), s1 _ _ _ _ (by omega), s1 _ _ _ _ (by omega), s0]
    · rw [s1 _ _ _ _ (by omega), s1 _ _ _ _ (by omega), s1 _ _ _ _ (by omega), s1 _ _ _ _ (by omega), s0]
    · rw [s1 _ _ _ _ (by omega), s1 _ _ _ _ (by omega), s1 _ _ _ _ (by omega), s0]
    · rw [s1 _ _ _ _ (by omega), s1 _ _ _ _ (by omega), s0]
    · rw [s1 _ _ _ _ (by omega), s0]
    · rw [s0]
  · have s2 : ∀ (w : Wd) (j : Nat) (v : Int32), gi (si w c0 j v) c k = gi w c k := fun w j v => by rw [gi_si, if_neg (fun z => n z.1)]
    rw [s2, s2, s2, s2, s2, s2, s2, s2, s2]
theorem dR_01 {cX cM : Nat} {w : Wd} (h : dR cX cM w) : gi w cX 0 = 0 ∨ gi w cX 0 = 1 := by
  rcases h.2.2.2.2.2 with z | z
  · exact Or.inl z.1
  · exact Or.inr z.1
theorem M_im : ∀ (f n i : Nat) (w : Wd), i + f = 8 → f < n → ∃ w', f_X12_image_b7 n (nI i) w = some (gi w 78 0, w') ∧ (∀ k, i ≤ k → k < 8 → gi w' 79 k = gi w 78 k) ∧ (∀ c k, ¬ (c = 79 ∧ i ≤ k) → gi w' c k = gi w c k) ∧ ∀ c k, gl w' c k = gl w c k
  | 0, 0, _, _, _, h => absurd h (by omega)
  | 0, n + 1, i, w, hi, _ => by
    refine ⟨w, ?_, fun k h1 h2 => absurd h2 (by omega), fun _ _ _ => rfl, fun _ _ => rfl⟩
    show f_X12_image_b7_y (f_X12_image_b7 n) (nI i) w = _
    unfold f_X12_image_b7_y
    rw [if_pos (by rw [show (8 : Int32) = nI 8 from rfl, nI_leI (by omega) (by omega)]; omega), ldI_d (by decide), show ix 0 = 0 from rfl]
  | f + 1, 0, _, _, _, h => absurd h (by omega)
  | f + 1, n + 1, i, w, hi, hn => by
    obtain ⟨w', q1, q2, q3, q4⟩ := M_im f n (i + 1) (si w 79 i (gi w 78 i)) (by omega) (by omega)
    refine ⟨w', ?_, fun k h1 h2 => ?_, fun c k h => ?_, fun c k => by rw [q4 c k]; rfl⟩
    · show f_X12_image_b7_y (f_X12_image_b7 n) (nI i) w = _
      unfold f_X12_image_b7_y
      rw [if_neg (by rw [show (8 : Int32) = nI 8 from rfl, nI_leI (by omega) (by omega)]; omega), ldI_d (inb_nI (by omega) (by omega)), ix_nI (by omega), saI_d (inb_nI (by omega) (by omega)), ix_nI (by omega), nI_1, q1, gi_si, if_neg (by omega)]
    · by_cases z : k = i
      · rw [q3 79 k (by omega), gi_si, if_pos ⟨rfl, z⟩, z]
      · rw [q2 k (by omega) h2, gi_si, if_neg (by omega)]
    · rw [q3 c k (by omega), gi_si, if_neg (by omega)]
theorem M_bk : ∀ (f n i : Nat) (w : Wd), i + f = 8 → f < n → ∃ w', f_X12_back_b12 n (nI i) w = some (gi w' 78 0, w') ∧ (∀ k, i ≤ k → k < 8 → gi w' 78 k = gi w 79 k) ∧ (∀ c k, ¬ (c = 78 ∧ i ≤ k) → gi w' c k = gi w c k) ∧ ∀ c k, gl w' c k = gl w c k
  | 0, 0, _, _, _, h => absurd h (by omega)
  | 0, n + 1, i, w, hi, _ => by
    refine ⟨w, ?_, fun k h1 h2 => absurd h2 (by omega), fun _ _ _ => rfl, fun _ _ => rfl⟩
    show f_X12_back_b12_y (f_X12_back_b12 n) (nI i) w = _
    unfold f_X12_back_b12_y
    rw [if_pos (by rw [show (8 : Int32) = nI 8 from rfl, nI_leI (by omega) (by omega)]; omega), ldI_d (by decide), show ix 0 = 0 from rfl]
  | f + 1, 0, _, _, _, h => absurd h (by omega)
  | f + 1, n + 1, i, w, hi, hn => by
    obtain ⟨w', q1, q2, q3, q4⟩ := M_bk f n (i + 1) (si w 78 i (gi w 79 i)) (by omega) (by omega)
    refine ⟨w', ?_, fun k h1 h2 => ?_, fun c k h => ?_, fun c k => by rw [q4 c k]; rfl⟩
    · show f_X12_back_b12_y (f_X12_back_b12 n) (nI i) w = _
      unfold f_X12_back_b12_y
      rw [if_neg (by rw [show (8 : Int32) = nI 8 from rfl, nI_leI (by omega) (by omega)]; omega), ldI_d (inb_nI (by omega) (by omega)), ix_nI (by omega), saI_d (inb_nI (by omega) (by omega)), ix_nI (by omega), nI_1, q1]
    · by_cases z : k = i
      · rw [q3 78 k (by omega), gi_si, if_pos ⟨rfl, z⟩, z]
      · rw [q2 k (by omega) h2, gi_si, if_neg (by omega)]
    · rw [q3 c k (by omega), gi_si, if_neg (by omega)]
theorem dR_cp {cX cM cX' cM' : Nat} {w w' : Wd} (h : dR cX cM w) (h1 : ∀ k, k < 9 → gi w' cX' k = gi w cX k) (h2 : ∀ k, k < 8 → gi w' cM' k = gi w cM k) : dR cX' cM' w' := by
  unfold dR at h ⊢
  rw [h1 0 (by omega), h1 1 (by omega), h1 2 (by omega), h1 3 (by omega), h1 4 (by omega), h1 5 (by omega), h1 6 (by omega), h1 7 (by omega), h1 8 (by omega), h2 0 (by omega), h2 1 (by omega), h2 2 (by omega), h2 3 (by omega), h2 4 (by omega), h2 5 (by omega), h2 6 (by omega), h2 7 (by omega)]
  exact h
theorem eqo_cell {S : Nat → Nat → Bool} {w w' : Wd} {a : Nat} (hs : ∀ k, S a k = true) (h1 : ∀ c k, ¬ c = a → gi w' c k = gi w c k) (h2 : ∀ c k, gl w' c k = gl w c k) : eqo S w w' := fun c k h => ⟨h1 c k (fun z => by rw [z, hs] at h; cases h), h2 c k⟩
theorem T_image {w : Wd} (hD : DR w) : ∃ r w1 w2, f_X11_image w = some (r, w1) ∧ f_X12_image w1 = some (r, w2) ∧ DR w2 ∧ eqo sD w w2 := by
  obtain ⟨d1, dI⟩ := id hD
  obtain ⟨w1, p1, p2, p3, p4⟩ := D_become (c0 := 38) (c1 := 37) (by omega) (dR_01 d1)
  have g4 : gi (si w1 0 11 1) 37 4 = gi w 37 4 := by rw [gi_si, if_neg (by omega), p3 37 4 (by omega)]
  have X1 : f_X11_image w = some (gi w 37 4, si w1 0 11 1) := by
    unfold f_X11_image
    rw [p1, bV_s, stZ_d (Or.inr rfl), g4]
  have E1 : eqo sD w (si w1 0 11 1) := eqo_si (eqo_cell (a := 38) (fun _ => rfl) p3 p4) rfl
  obtain ⟨w2, q1, q2, q3, q4⟩ := M_im 8 fu 0 (si (si w1 0 11 1) 54 47 1) (by omega) (by show 8 < 300; omega)
  have F : ∀ c k, ¬ c = 38 → ¬ (c = 0 ∧ k = 11) → ¬ (c = 54 ∧ k = 47) → ¬ c = 79 → gi w2 c k = gi w c k := by
    intro c k a b x y
    rw [q3 c k (by omega), gi_si, if_neg x, gi_si, if_neg b, p3 c k a]
  have h78 : ∀ k, gi (si (si w1 0 11 1) 54 47 1) 78 k = gi w 78 k := fun k => by rw [gi_si, if_neg (by omega), gi_si, if_neg (by omega), p3 78 k (by omega)]
  rw [h78] at q1
  refine ⟨_, _, w2, X1, ?_, ⟨?_, Or.inr ⟨?_, ?_, ?_⟩⟩, ?_⟩
  · unfold f_X12_image
    rw [stZ_d (Or.inr rfl), d1.1]
    exact q1
  · exact dR_cg d1 (fun k => F 37 k (by omega) (by omega) (by omega) (by omega)) (fun k => F 78 k (by omega) (by omega) (by omega) (by omega))
  · rw [q3 0 11 (by omega), gi_si, if_neg (by omega), gi_si, if_pos ⟨rfl, rfl⟩]
  · rw [q3 54 47 (by omega), gi_si, if_pos ⟨rfl, rfl⟩]
  · refine dR_cp d1 (fun k hk => ?_) (fun k hk => ?_)
    · rw [q3 38 k (by omega), gi_si, if_neg (by omega), gi_si, if_neg (by omega), p2 k hk]
    · rw [q2 k (by omega) hk, h78]
  · exact eqo_tr (eqo_si E1 rfl) (eqo_cell (a := 79) (fun _ => rfl) (fun c k n => q3 c k (fun z => n z.1)) q4)
theorem T_back {w : Wd} (hD : DR w) : ∃ r w1 w2, f_X11_back w = some (r, w1) ∧ f_X12_back w1 = some (r, w2) ∧ DR w2 ∧ eqo sD w w2 := by
  obtain ⟨d1, dI⟩ := id hD
  rcases dI with ⟨i1, i2⟩ | ⟨i1, i2, i3⟩
  · refine ⟨-5, w, w, ?_, ?_, hD, eqo_rf w⟩
    · unfold f_X11_back
      rw [if_pos i1]
    · unfold f_X12_back
      rw [if_pos i2]
  · obtain ⟨w1, p1, p2, p3, p4⟩ := D_become (c0 := 37) (c1 := 38) (by omega) (dR_01 i3)
    have n1 : ¬ gi w 0 11 = 0 := by rw [i1]; decide
    have X1 : f_X11_back w = some (gi w 38 4, w1) := by
      unfold f_X11_back
      rw [if_neg n1, p1, bV_s, p2 4 (by omega)]
    have E1 : eqo sD w w1 := eqo_cell (a := 37) (fun _ => rfl) p3 p4
    obtain ⟨w2, q1, q2, q3, q4⟩ := M_bk 8 fu 0 w1 (by omega) (by show 8 < 300; omega)
    have n2 : ¬ gi w1 54 47 = 0 := by rw [p3 54 47 (by omega), i2]; decide
    have h0 : gi w2 78 0 = gi w 38 4 := by rw [q2 0 (by omega) (by omega), p3 79 0 (by omega), i3.1]
    rw [h0] at q1
    have F : ∀ c k, ¬ c = 37 → ¬ c = 78 → gi w2 c k = gi w c k := by
      intro c k a b
      rw [q3 c k (by omega), p3 c k a]
    refine ⟨_, _, w2, X1, ?_, ⟨?_, Or.inr ⟨?_, ?_, ?_⟩⟩, ?_⟩
    · unfold f_X12_back
      rw [if_neg n2]
      exact q1
    · refine dR_cp i3 (fun k hk => ?_) (fun k hk => ?_)
      · rw [q3 37 k (by omega), p2 k hk]
      · rw [q2 k (by omega) hk, p3 79 k (by omega)]
    · rw [F 0 11 (by omega) (by omega)]; exact i1
    · rw [F 54 47 (by omega) (by omega)]; exact i2
    · exact dR_cg i3 (fun k => F 38 k (by omega) (by omega)) (fun k => F 79 k (by omega) (by omega))
    · exact eqo_tr E1 (eqo_cell (a := 78) (fun _ => rfl) (fun c k n => q3 c k (fun z => n z.1)) q4)
theorem T_count {L dn um nb tp : Nat} {t : Nat → Nat} {o : Option (List LN)} {w : Wd} (hN : NR L dn um w) (hB : BR nb w) (hL : LR t tp o w) (a : Int32) : ∃ r, f_X11_count a w = some r ∧ f_X12_count a w = some r := by
  obtain ⟨h1, h2, h3, h4, h5, h6, h7, h8, _, _⟩ := hN
  obtain ⟨b1, b2, b3, b4, tr, b5, b6, b7, b8⟩ := hB
  obtain ⟨⟨_, l1, _⟩, ⟨_, l2, _⟩, _⟩ := hL
  unfold f_X11_count f_X12_count
  rw [h2, h3, l1, l2, h5, h7, b2, b3, b6, b7]
  by_cases c0 : a = 0
  · rw [if_pos c0]; exact ⟨_, rfl, rfl⟩
  rw [if_neg c0]
  by_cases c1 : a = 1
  · rw [if_pos c1]; exact ⟨_, rfl, rfl⟩
  rw [if_neg c1]
  by_cases c2 : a = 2
  · rw [if_pos c2]; exact ⟨_, rfl, rfl⟩
  rw [if_neg c2]
  by_cases c3 : a = 3
  · rw [if_pos c3]; exact ⟨_, rfl, rfl⟩
  rw [if_neg c3]
  by_cases c4 : a = 4
  · rw [if_pos c4]; exact ⟨_, rfl, rfl⟩
  rw [if_neg c4]
  exact ⟨_, rfl, rfl⟩
