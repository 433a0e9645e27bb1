/-! IN DEED: look -/
theorem T_look {A : Ab} {w : Wd} (hX : VX A w) (hM : VM A w) (hD : DR w) (a1 : Int32) : ∃ r w1 w2, f_X11_look a1 w = some (r, w1) ∧ f_X12_look a1 w1 = some (r, w2) ∧ DR w2 ∧ eqo sD w w2 := by
  have h6 := hX.1.1
  by_cases h1 : inb a1 A.L
  · obtain ⟨k, hk, rfl⟩ := of_inb h1
    obtain ⟨⟨d4, d5, d6, d7, d8, dO⟩, dI⟩ := id hD
    rcases dO with ⟨o1, o2⟩ | ⟨o1, s, hs, o2, o3, o4, o5⟩
    · refine ⟨-5, w, w, ?_, ?_, hD, eqo_rf w⟩
      · unfold f_X11_look
        rw [X_isLooker hX.2.1 h6, bR_s, ite_b2i, if_pos h1, if_pos o1]
      · unfold f_X12_look
        rw [M_isLooker hM.2.1 h6, bR_s, ite_b2i, if_pos h1, ldI_d (by decide), show ix 5 = 5 from rfl, o2, if_neg (by decide)]
    · have n1 : ¬ gi w 37 0 = 0 := by rw [o1]; decide
      have ts := nI_toInt (n := s) (by omega)
      have E2 : eqo sD w (si w 36 0 (gi w 37 2)) := eqo_si (eqo_rf w) rfl
      have g3 : gi (si w 36 0 (gi w 37 2)) 37 3 = gi w 37 3 := by rw [gi_si, if_neg (by omega)]
      have g1 : gi (si w 36 0 (gi w 37 2)) 37 1 = nI s := by rw [gi_si, if_neg (by omega)]; exact o2
      obtain ⟨w4, p1, p2⟩ := X_tw (VX_d hX E2) hk (gi w 37 3)
      have p1' : f_X11_twelfths (nI k) (gi w 37 3) (si w 36 0 (gi w 37 2)) = some (nI (twv A k (gi w 37 3) (thk A)), w4) := p1
      have hsh := (tw_I A k (gi w 37 3) (thk A)).2
      have E4 : eqo sD w w4 := eqo_tr E2 (eqo_mono p2 (fun c k z => s_sD c k (sEY_s c k z)))
      have z4 : gi w4 36 0 = gi w 37 2 := by rw [(p2 36 0 rfl).1, gi_si, if_pos ⟨rfl, rfl⟩]
      obtain ⟨w6, q1, q2, q3, q4⟩ := X_fd (s := s) (sh := twv A k (gi w 37 3) (thk A)) hs hsh z4
      have E6 : eqo sD w w6 := eqo_tr E4 (eqo_one (a := 36) (b := 0) rfl q3 q4)
      have hle := fdN_le (sh := twv A k (gi w 37 3) (thk A)) s 0 (gi w 37 2)
      have c37 : ∀ j, gi w6 37 j = gi w 37 j := fun j => by rw [q3 37 j (by omega), (p2 37 j rfl).1, gi_si, if_neg (by omega)]
      generalize hsh' : twv A k (gi w 37 3) (thk A) = sh at *
      generalize hfv : (fdN sh s 0 (gi w 37 2)).1 = fv at *
      generalize hfz : (fdN sh s 0 (gi w 37 2)).2 = fz at *
      have X1 : f_X11_look (nI k) w = some (nI fv, si (si (si (si (si (si w6 37 1 (nI (s - fv))) 37 2 fz) 37 3 (gi w 37 3 + 1)) 37 5 (gi w 37 5 + 1)) 37 6 (gi w 37 6 + nI fv)) 37 8 (gi w 37 8 + nI (A.nv 6 k))) := by
        unfold f_X11_look f_X2_addLook
        rw [X_isLooker hX.2.1 h6, bR_s, ite_b2i, if_pos h1, if_neg n1, stI_d, g3, p1', bW_s, g1, q1, bW_s, VX_6 (VX_d hX E6) hk, bR_s, q2]
        rw [stI_d, stI_d, stI_d, stI_d, stI_d, stI_d, bV_s]
        have e1 : gi w6 37 1 - nI fv = nI (s - fv) := by rw [c37, o2, pk_sub (by omega)]
        rw [e1]
        simp only [gi_si]
        simp [c37]
      have F6 : ∀ c j, ¬ c = 37 → gi (si (si (si (si (si (si w6 37 1 (nI (s - fv))) 37 2 fz) 37 3 (gi w 37 3 + 1)) 37 5 (gi w 37 5 + 1)) 37 6 (gi w 37 6 + nI fv)) 37 8 (gi w 37 8 + nI (A.nv 6 k))) c j = gi w6 c j := by
        intro c j n1
        rw [gi_si, if_neg (by omega), gi_si, if_neg (by omega), gi_si, if_neg (by omega), gi_si, if_neg (by omega), gi_si, if_neg (by omega), gi_si, if_neg (by omega)]
      have E7 : eqo sD w (si (si (si (si (si (si w6 37 1 (nI (s - fv))) 37 2 fz) 37 3 (gi w 37 3 + 1)) 37 5 (gi w 37 5 + 1)) 37 6 (gi w 37 6 + nI fv)) 37 8 (gi w 37 8 + nI (A.nv 6 k))) := eqo_si (eqo_si (eqo_si (eqo_si (eqo_si (eqo_si E6 rfl) rfl) rfl) rfl) rfl) rfl
      have G0 : gi (si (si (si (si (si (si w6 37 1 (nI (s - fv))) 37 2 fz) 37 3 (gi w 37 3 + 1)) 37 5 (gi w 37 5 + 1)) 37 6 (gi w 37 6 + nI fv)) 37 8 (gi w 37 8 + nI (A.nv 6 k))) 37 0 = 1 := by simp [gi_si, c37, o1]
      have G1 : gi (si (si (si (si (si (si w6 37 1 (nI (s - fv))) 37 2 fz) 37 3 (gi w 37 3 + 1)) 37 5 (gi w 37 5 + 1)) 37 6 (gi w 37 6 + nI fv)) 37 8 (gi w 37 8 + nI (A.nv 6 k))) 37 1 = nI (s - fv) := by simp [gi_si]
      have G2 : gi (si (si (si (si (si (si w6 37 1 (nI (s - fv))) 37 2 fz) 37 3 (gi w 37 3 + 1)) 37 5 (gi w 37 5 + 1)) 37 6 (gi w 37 6 + nI fv)) 37 8 (gi w 37 8 + nI (A.nv 6 k))) 37 2 = fz := by simp [gi_si]
      have G3 : gi (si (si (si (si (si (si w6 37 1 (nI (s - fv))) 37 2 fz) 37 3 (gi w 37 3 + 1)) 37 5 (gi w 37 5 + 1)) 37 6 (gi w 37 6 + nI fv)) 37 8 (gi w 37 8 + nI (A.nv 6 k))) 37 3 = gi w 37 3 + 1 := by simp [gi_si]
      have G4 : gi (si (si (si (si (si (si w6 37 1 (nI (s - fv))) 37 2 fz) 37 3 (gi w 37 3 + 1)) 37 5 (gi w 37 5 + 1)) 37 6 (gi w 37 6 + nI fv)) 37 8 (gi w 37 8 + nI (A.nv 6 k))) 37 4 = gi w 37 4 := by simp [gi_si, c37]
      have G5 : gi (si (si (si (si (si (si w6 37 1 (nI (s - fv))) 37 2 fz) 37 3 (gi w 37 3 + 1)) 37 5 (gi w 37 5 + 1)) 37 6 (gi w 37 6 + nI fv)) 37 8 (gi w 37 8 + nI (A.nv 6 k))) 37 5 = gi w 37 5 + 1 := by simp [gi_si]
      have G6 : gi (si (si (si (si (si (si w6 37 1 (nI (s - fv))) 37 2 fz) 37 3 (gi w 37 3 + 1)) 37 5 (gi w 37 5 + 1)) 37 6 (gi w 37 6 + nI fv)) 37 8 (gi w 37 8 + nI (A.nv 6 k))) 37 6 = gi w 37 6 + nI fv := by simp [gi_si]
      have G7 : gi (si (si (si (si (si (si w6 37 1 (nI (s - fv))) 37 2 fz) 37 3 (gi w 37 3 + 1)) 37 5 (gi w 37 5 + 1)) 37 6 (gi w 37 6 + nI fv)) 37 8 (gi w 37 8 + nI (A.nv 6 k))) 37 7 = gi w 37 7 := by simp [gi_si, c37]
      have G8 : gi (si (si (si (si (si (si w6 37 1 (nI (s - fv))) 37 2 fz) 37 3 (gi w 37 3 + 1)) 37 5 (gi w 37 5 + 1)) 37 6 (gi w 37 6 + nI fv)) 37 8 (gi w 37 8 + nI (A.nv 6 k))) 37 8 = gi w 37 8 + nI (A.nv 6 k) := by simp [gi_si]
      generalize si (si (si (si (si (si w6 37 1 (nI (s - fv))) 37 2 fz) 37 3 (gi w 37 3 + 1)) 37 5 (gi w 37 5 + 1)) 37 6 (gi w 37 6 + nI fv)) 37 8 (gi w 37 8 + nI (A.nv 6 k)) = w7 at X1 F6 E7 G0 G1 G2 G3 G4 G5 G6 G7 G8
      have c78 : ∀ j, gi w7 78 j = gi w 78 j := fun j => by rw [F6 78 j (by omega), q3 78 j (by omega), (p2 78 j rfl).1, gi_si, if_neg (by omega)]
      -- the model
      have E8 : eqo sD w (si w7 54 44 (gi w 78 7)) := eqo_si E7 rfl
      have hM8 := VM_d hM E8
      have g9 : gi (si w7 54 44 (gi w 78 7)) 54 8 = thk A := hM8.2.2.1 9 0 ok9
      obtain ⟨w9, r1, r2⟩ := M_tw hM8 hk (gi w 78 6) (thk A)
      have r1' : f_X12_findsBy (nI k) (gi w 78 6) (thk A) (si w7 54 44 (gi w 78 7)) = some (nI sh, w9) := by
        rw [← hsh', o4]; exact r1
      have z9 : gi w9 54 44 = gi w 37 2 := by rw [(r2 54 44 rfl).1, gi_si, if_pos ⟨rfl, rfl⟩]; exact o5.symm
      obtain ⟨w10, s1, s2, s3, s4⟩ := M_fd (s := s) (sh := sh) hs hsh z9
      rw [hfv] at s1
      rw [hfz] at s2
      have E10 : eqo sD w w10 := eqo_tr (eqo_tr E8 (eqo_mono r2 (fun c k z => s_sD c k (sEZ_s c k z)))) (eqo_one (a := 54) (b := 44) rfl s3 s4)
      have e78 : ∀ j, gi w10 78 j = gi w 78 j := fun j => by rw [s3 78 j (by omega), (r2 78 j rfl).1, gi_si, if_neg (by omega)]; exact c78 j
      have hM10 := VM_d hM E10
      have c58 : gi w10 58 k = nI (A.nv 6 k) := hM10.2.2.1 6 k (okL (Or.inr rfl) (by omega))
      have m5 : gi (si w7 54 44 (gi w 78 7)) 78 5 = nI s := by rw [gi_si, if_neg (by omega), c78]; exact o3
      have m6 : gi (si w7 54 44 (gi w 78 7)) 78 6 = gi w 78 6 := by rw [gi_si, if_neg (by omega), c78]
      have e1 : nI s - nI fv = nI (s - fv) := by rw [pk_sub (by omega)]
      have M1 : f_X12_look (nI k) w7 = some (nI fv, si (si (si (si (si (si w10 78 7 fz) 78 5 (nI (s - fv))) 78 6 (gi w 78 6 + 1)) 78 1 (gi w 78 1 + 1)) 78 2 (gi w 78 2 + nI fv)) 78 4 (gi w 78 4 + nI (A.nv 6 k))) := by
        unfold f_X12_look
        rw [M_isLooker (VM_d hM E7).2.1 h6, bR_s, ite_b2i, if_pos h1, ldI_d (by decide), show ix 5 = 5 from rfl, c78, o3, if_pos (by rw [fa_le, ts, ti_0]; omega), ldI_d (by decide), show ix 7 = 7 from rfl, c78, stI_d, ldI_d (by decide), show ix 5 = 5 from rfl, m5, ldI_d (by decide), show ix 6 = 6 from rfl, m6, g9, r1', bW_s, s1, bW_s, s2]
        rw [saI_d (by decide), show ix 7 = 7 from rfl, ldI_d (by decide), show ix 5 = 5 from rfl, saI_d (by decide), show ix 5 = 5 from rfl, ldI_d (by decide), show ix 6 = 6 from rfl, saI_d (by decide), show ix 6 = 6 from rfl, ldI_d (by decide), show ix 1 = 1 from rfl, saI_d (by decide), show ix 1 = 1 from rfl, ldI_d (by decide), show ix 2 = 2 from rfl, saI_d (by decide), show ix 2 = 2 from rfl, ldI_d (by decide), show ix 4 = 4 from rfl, ldI_d (inb_nI (by omega) (by omega)), ix_nI (by omega), saI_d (by decide), show ix 4 = 4 from rfl]
        simp only [gi_si]
        simp [e78, c58, o3, e1]
      have K : ∀ c j, ¬ c = 78 → gi (si (si (si (si (si (si w10 78 7 fz) 78 5 (nI (s - fv))) 78 6 (gi w 78 6 + 1)) 78 1 (gi w 78 1 + 1)) 78 2 (gi w 78 2 + nI fv)) 78 4 (gi w 78 4 + nI (A.nv 6 k))) c j = gi w10 c j := by
        intro c j n1
        rw [gi_si, if_neg (by omega), gi_si, if_neg (by omega), gi_si, if_neg (by omega), gi_si, if_neg (by omega), gi_si, if_neg (by omega), gi_si, if_neg (by omega)]
      have K2 : ∀ c j, ¬ c = 78 → ¬ c = 69 → ¬ c = 70 → ¬ (c = 54 ∧ j = 44) → gi (si (si (si (si (si (si w10 78 7 fz) 78 5 (nI (s - fv))) 78 6 (gi w 78 6 + 1)) 78 1 (gi w 78 1 + 1)) 78 2 (gi w 78 2 + nI fv)) 78 4 (gi w 78 4 + nI (A.nv 6 k))) c j = gi w7 c j := by
        intro c j n1 n2 n3 n4
        rw [K c j n1, s3 c j n4, (r2 c j (by simp [sEZ]; omega)).1, gi_si, if_neg n4]
      refine ⟨_, _, _, X1, M1, ⟨⟨?_, ?_, ?_, ?_, ?_, Or.inr ⟨?_, s - fv, by omega, ?_, ?_, ?_, ?_⟩⟩, ?_⟩, eqo_si (eqo_si (eqo_si (eqo_si (eqo_si (eqo_si E10 rfl) rfl) rfl) rfl) rfl) rfl⟩
      · rw [K2 37 4 (by omega) (by omega) (by omega) (by omega), G4, d4]; simp [gi_si, e78]
      · rw [K2 37 5 (by omega) (by omega) (by omega) (by omega), G5, d5]; simp [gi_si]
      · rw [K2 37 6 (by omega) (by omega) (by omega) (by omega), G6, d6]; simp [gi_si]
      · rw [K2 37 7 (by omega) (by omega) (by omega) (by omega), G7, d7]; simp [gi_si, e78]
      · rw [K2 37 8 (by omega) (by omega) (by omega) (by omega), G8, d8]; simp [gi_si]
      · rw [K2 37 0 (by omega) (by omega) (by omega) (by omega), G0]
      · rw [K2 37 1 (by omega) (by omega) (by omega) (by omega), G1]
      · simp [gi_si]
      · rw [K2 37 3 (by omega) (by omega) (by omega) (by omega), G3, o4]; simp [gi_si]
      · rw [K2 37 2 (by omega) (by omega) (by omega) (by omega), G2]; simp [gi_si]
      · have k0 : ∀ c j, ¬ c = 78 → ¬ c = 69 → ¬ c = 70 → ¬ (c = 54 ∧ j = 44) → ¬ c = 37 → ¬ c = 36 → sEY c j = false → gi (si (si (si (si (si (si w10 78 7 fz) 78 5 (nI (s - fv))) 78 6 (gi w 78 6 + 1)) 78 1 (gi w 78 1 + 1)) 78 2 (gi w 78 2 + nI fv)) 78 4 (gi w 78 4 + nI (A.nv 6 k))) c j = gi w c j := fun c j a b x y u v t => by rw [K2 c j a b x y, F6 c j u, q3 c j (by omega), (p2 c j t).1, gi_si, if_neg (by omega)]
        rcases dI with ⟨i1, i2⟩ | ⟨i1, i2, i3⟩
        · exact Or.inl ⟨by rw [k0 0 11 (by omega) (by omega) (by omega) (by omega) (by omega) (by omega) rfl]; exact i1, by rw [k0 54 47 (by omega) (by omega) (by omega) (by omega) (by omega) (by omega) rfl]; exact i2⟩
        · exact Or.inr ⟨by rw [k0 0 11 (by omega) (by omega) (by omega) (by omega) (by omega) (by omega) rfl]; exact i1, by rw [k0 54 47 (by omega) (by omega) (by omega) (by omega) (by omega) (by omega) rfl]; exact i2, dR_cg i3 (fun j => k0 38 j (by omega) (by omega) (by omega) (by omega) (by omega) (by omega) rfl) (fun j => k0 79 j (by omega) (by omega) (by omega) (by omega) (by omega) (by omega) rfl)⟩
  · refine ⟨-1, w, w, ?_, ?_, hD, eqo_rf w⟩
    · unfold f_X11_look
      rw [X_isLooker hX.2.1 h6, bR_s, ite_b2i, if_neg h1]
    · unfold f_X12_look
      rw [M_isLooker hM.2.1 h6, bR_s, ite_b2i, if_neg h1]
