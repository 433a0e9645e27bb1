/-! THE LAW: the class takes its tape -/
def sTF (c k : Nat) : Bool := c == 8 || (c == 6 && (k == 1 || k == 2 || k == 4))
def sTX (c k : Nat) : Bool := c == 8 || c == 9 || (c == 6 && (k == 1 || k == 2 || k == 4 || k == 6))
theorem sLX_TF : ∀ c k, sLX c k = true → sTF c k = true := by
  intro c k h
  unfold sLX at h
  unfold sTF
  simp only [Bool.or_eq_true, Bool.and_eq_true] at h ⊢
  rcases h with h | ⟨h1, h2⟩
  · exact Or.inl h
  · refine Or.inr ⟨h1, ?_⟩
    rcases h2 with h2 | h2
    · exact Or.inl (Or.inr h2)
    · exact Or.inr h2
theorem sTF_TX : ∀ c k, sTF c k = true → sTX c k = true := by
  intro c k h
  unfold sTF at h
  unfold sTX
  simp only [Bool.or_eq_true, Bool.and_eq_true] at h ⊢
  rcases h with h | ⟨h1, h2⟩
  · exact Or.inl (Or.inl h)
  · exact Or.inr ⟨h1, Or.inl h2⟩
theorem X_take {t : Nat → Nat} {tp : Nat} {w : Wd} (hP : PX t tp w) :
    ((pLs (LT t tp) tp 121 0).1 = true ∧ ∃ w', f_X4_takeTape w = some (-1, w') ∧ gi w' 6 1 = 0 ∧ gi w' 6 6 = nI (encs 0 (pLs (LT t tp) tp 121 0).2.2).length ∧ (encs 0 (pLs (LT t tp) tp 121 0).2.2).length ≤ 127 ∧ (∀ i, i < (encs 0 (pLs (LT t tp) tp 121 0).2.2).length → gi w' 9 i = eX ((encs 0 (pLs (LT t tp) tp 121 0).2.2).getD i (0, 0))) ∧ eqo sTX w w') ∨
    ((pLs (LT t tp) tp 121 0).1 = false ∧ ∃ w', f_X4_takeTape w = some (nI (pLs (LT t tp) tp 121 0).2.1, w') ∧ gi w' 6 1 = 0 ∧ eqo sTF w w') := by
  have ht := hP.1
  unfold f_X4_takeTape
  rw [stI_d, stI_d]
  have he2 : eqo sLX w (si (si w 6 2 0) 6 4 0) := eqo_si (eqo_si (eqo_rf w) (by decide)) (by decide)
  have hP2 := PX_eqo hP he2
  have g2 : gi (si (si w 6 2 0) 6 4 0) 6 2 = nI 0 := by rw [gi_si, if_neg (by omega), gi_si, if_pos ⟨rfl, rfl⟩]; rfl
  have g4 : gi (si (si w 6 2 0) 6 4 0) 6 4 = nI 0 := by rw [gi_si, if_pos ⟨rfl, rfl⟩]; rfl
  have hR := X_lines 121 fu 0 0 0 _ (by omega) (by decide) (by omega) hP2 g2 (by omega) g4 (by omega)
  have e0 : f_X4_readLines (si (si w 6 2 0) 6 4 0) = f_X4_readLines_b2 fu (nI 0) (si (si w 6 2 0) 6 4 0) := rfl
  rw [e0]
  generalize hA : pLs (LT t tp) tp 121 0 = A at hR
  rcases hR with ⟨j1, j2, j3⟩ | ⟨j1, w', j2, j3, j4⟩
  · refine Or.inl ⟨j1, ?_⟩
    have hlen : (encs 0 A.2.2).length ≤ 127 := by omega
    generalize encs 0 A.2.2 = es at j2 hlen
    rw [j2, bW_s, stI_d, if_neg (show ¬ (1 : Int32) = 0 by decide)]
    have h64 : gi (si (pX tp 0 es (si (si w 6 2 0) 6 4 0)) 6 1 0) 6 4 = nI es.length := by rw [gi_si, if_neg (by omega), g4_pX, Nat.zero_add]
    have tI := nI_toInt (n := es.length) (by omega)
    have ok : cyok 128 128 (0 : Int32) (0 : Int32) (nI es.length) := by
      refine ⟨by decide, by decide, by rw [tI]; omega, ?_, ?_⟩
      · rw [tI, ti_0]; omega
      · rw [tI, ti_0]; omega
    rw [h64, cyI_d ok, stI_d, ix_nI (by omega)]
    have c64 : gi (cpI (si (pX tp 0 es (si (si w 6 2 0) 6 4 0)) 6 1 0) 8 9 (ix 0) (ix 0) es.length) 6 4 = nI es.length := by rw [gi_cpI, if_neg (by omega)]; exact h64
    rw [c64]
    have x0 : ix 0 = 0 := rfl
    refine ⟨_, rfl, ?_, ?_, hlen, fun i hi => ?_, ?_⟩
    · rw [gi_si, if_neg (by omega), gi_cpI, if_neg (by omega), gi_si, if_pos ⟨rfl, rfl⟩]
    · rw [gi_si, if_pos ⟨rfl, rfl⟩]
    · rw [gi_si, if_neg (by omega), x0, gi_cpI, if_pos ⟨rfl, by omega, by omega⟩, gi_si, if_neg (by omega), gi_pX, if_neg (by omega), if_neg (by omega), if_pos ⟨rfl, by omega, by omega⟩, show 0 + (i - 0) - 0 = i by omega]
    · refine eqo_si ?_ (by decide)
      have h1 : eqo sTX w (si (pX tp 0 es (si (si w 6 2 0) 6 4 0)) 6 1 0) := eqo_si (eqo_mono (eqo_tr he2 (pX_eqo _ _ _ _)) (fun c k z => sTF_TX c k (sLX_TF c k z))) (by decide)
      intro c k hk
      have hc : ¬ c = 9 := by intro z; rw [z] at hk; simp [sTX] at hk
      rw [gi_cpI, gl_cpI, if_neg (fun z => hc z.1)]
      exact h1 c k hk
  · refine Or.inr ⟨j1, ?_⟩
    rw [j2, bW_s, stI_d, if_pos rfl]
    refine ⟨_, by rw [gi_si, if_neg (by omega), j3], ?_, eqo_si (eqo_mono (eqo_tr he2 j4) sLX_TF) (by decide)⟩
    rw [gi_si, if_pos ⟨rfl, rfl⟩]
