/-! THE LAW'S LOOP -/
theorem L_loop {X : Xt} {b L : Nat} {xs : Nat → Int32} (hL : L ≤ 3072) : ∀ (n i : Nat) (w : Wd), i ≤ L → L + 1 ≤ i + n → Rel w → LW X b L xs 18 (lvI X b i) [] w := by
  intro n
  induction n with
  | zero =>
    intro i w h1 h2
    omega
  | succ n ih =>
    intro i w h1 h2 h
    refine L_ild3 dL_law_18 (L_ald0 dL_law_19 (L_len dL_law_20 (L_bip (v := 6) dL_law_21 (by decide) (L_isub dL_law_23 (L_gt (tgt := 1546) dL_law_24 (by decide) (fun _ => L_end dL_law_1546 dL_law_1547) (fun q => ?_))))))
    have hlt : i + 6 ≤ L := by
      rcases Nat.lt_or_ge L (i + 6) with z | z
      · refine absurd ?_ q
        rw [Int32.lt_iff_toInt_lt, show (6 : Int32) = nI 6 from rfl, pk_sub_toInt (by omega) (by omega), nI_toInt (by omega)]
        omega
      · exact z
    refine L_ald0 dL_law_27 (L_ild3 dL_law_28 (L_sld (by omega) dL_law_29 (L_bip (v := 63) dL_law_30 (by decide) (L_iand dL_law_32 ?_))))
    obtain ⟨k, hk, e⟩ := and63 (xs i)
    rw [e]
    exact L_sw hk h hlt (fun w1 h1 => L_inc dL_law_1540 (L_goto (tgt := 18) dL_law_1543 (by decide) (ih (i + 6) w1 hlt (by omega) h1)))
