/-! THE LAW: lines, for the class -/
abbrev LN : Type := List (Nat × Nat) × List (Nat × Nat)
def pLn (L : Nat → Nat) (p : Nat) : Bool × Nat × LN :=
  match pLv L 80 0 0 p with
  | none => (false, p, ([], []))
  | some r => if r.1 = true then (if L r.2.1 = 63 then (match pLv L 80 0 0 (r.2.1 + 1) with
    | none => (false, p, ([], []))
    | some s => if s.1 = true then (true, s.2.1, (r.2.2, s.2.2)) else (false, s.2.1, ([], []))) else (true, r.2.1, ([], r.2.2))) else (false, r.2.1, ([], []))
/-- a line as the class writes it, from place q on -/
def enc (q : Nat) (l : LN) : List (Nat × Nat) := if l.1 = [] then l.2 ++ [(59, 0)] else (l.1 ++ (63, q + l.1.length + 1 + l.2.length + 1) :: l.2) ++ [(59, 0)]
theorem pX_set (p q : Nat) (A B : List (Nat × Nat)) (n : Nat) (w : Wd) : si (pX p q ((A ++ (63, 0) :: B)) w) 8 (q + A.length) (eX (63, n)) = pX p q (A ++ (63, n) :: B) w := by
  refine wd_ext (fun c k => ?_) (fun _ _ => rfl)
  have hl : (A ++ (63, 0) :: B).length = (A ++ (63, n) :: B).length := by simp
  have hl2 : (A ++ (63, n) :: B).length = A.length + (B.length + 1) := by simp
  rw [gi_si, gi_pX, gi_pX, hl]
  by_cases z : c = 8 ∧ k = q + A.length
  · rw [if_pos z, if_neg (by omega), if_neg (by omega), if_pos ⟨z.1, by omega, by rw [hl2]; omega⟩, getD_app, if_neg (by omega), show k - q - A.length = 0 by omega]
    rfl
  · rw [if_neg z]
    by_cases z1 : c = 6 ∧ k = 2
    · rw [if_pos z1, if_pos z1]
    rw [if_neg z1, if_neg z1]
    by_cases z2 : c = 6 ∧ k = 4
    · rw [if_pos z2, if_pos z2]
    rw [if_neg z2, if_neg z2]
    by_cases z3 : c = 8 ∧ q ≤ k ∧ k < q + (A ++ (63, n) :: B).length
    · rw [if_pos z3, if_pos z3, getD_app, getD_app]
      by_cases y : k - q < A.length
      · rw [if_pos y, if_pos y]
      · rw [if_neg y, if_neg y]
        obtain ⟨j, hj⟩ : ∃ j, k - q - A.length = j + 1 := ⟨k - q - A.length - 1, by omega⟩
        rw [hj]
        rfl
    · rw [if_neg z3, if_neg z3]
theorem pLv_ne {L : Nat → Nat} : ∀ (n l o p : Nat) (r : PR), pLv L n l o p = some r → r.1 = true → ¬ r.2.2 = []
  | 0, _, _, _, _, e, _ => by unfold pLv at e; cases e
  | n + 1, l, o, p, r, e, hr => by
    unfold pLv at e
    by_cases c4 : l ≤ 4
    · rw [if_pos c4] at e
      cases h1 : pLv L n (l + 1) o p with
      | none => rw [h1] at e; cases e
      | some r1 =>
        rw [h1] at e
        by_cases c1 : r1.1 = true
        · have hn := pLv_ne n (l + 1) o p r1 h1 c1
          simp only [c1, if_true] at e
          cases h2 : rst (pLv L n (l + 1) o) L l (if l = 2 then 1 else 120) r1.2.1 with
          | none => rw [h2] at e; cases e
          | some s =>
            rw [h2] at e
            cases e
            intro z
            exact hn (List.append_eq_nil_iff.mp z).1
        · simp only [c1, if_false] at e
          cases e
          exact absurd hr c1
    · rw [if_neg c4] at e
      by_cases c5 : l = 5
      · rw [if_pos c5] at e
        exact pLv_ne n 6 o p r e hr
      · rw [if_neg c5] at e
        by_cases cd : dgt (L p)
        · rw [if_pos cd] at e
          by_cases c2 : dgt (L (dgs L 4 p 0).1)
          · rw [if_pos c2] at e; cases e; cases hr
          · rw [if_neg c2] at e; cases e; intro z; cases z
        · rw [if_neg cd] at e
          by_cases cn : nmo (L p) ≤ 5
          · rw [if_pos cn] at e; cases e; intro z; cases z
          · rw [if_neg cn] at e
            by_cases cu : (L p = 40 ∨ L p = 33 ∨ L p = 45) ∧ o < 6
            · rw [if_pos cu] at e
              by_cases c40 : L p = 40
              · rw [if_pos c40] at e
                cases h1 : pLv L n 0 (o + 1) (p + 1) with
                | none => rw [h1] at e; cases e
                | some r1 =>
                  rw [h1] at e
                  by_cases c1 : r1.1 = true
                  · have hn := pLv_ne n 0 (o + 1) (p + 1) r1 h1 c1
                    simp only [c1, if_true] at e
                    by_cases c41 : L r1.2.1 = 41
                    · rw [if_pos c41] at e; cases e; exact hn
                    · rw [if_neg c41] at e; cases e; cases hr
                  · simp only [c1, if_false] at e
                    cases e
                    exact absurd hr c1
              · rw [if_neg c40] at e
                cases h1 : pLv L n 6 (o + 1) (p + 1) with
                | none => rw [h1] at e; cases e
                | some r1 =>
                  rw [h1] at e
                  by_cases c1 : r1.1 = true
                  · have hn := pLv_ne n 6 (o + 1) (p + 1) r1 h1 c1
                    simp only [c1, if_true] at e
                    cases e
                    intro z
                    exact hn (List.append_eq_nil_iff.mp z).1
                  · simp only [c1, if_false] at e
                    cases e
                    exact absurd hr c1
            · rw [if_neg cu] at e; cases e; cases hr
theorem X_line {t : Nat → Nat} {tp p q : Nat} {w : Wd} (hP : PX t tp w) (hp : gi w 6 2 = nI p) (hb : p ≤ tp) (hq : gi w 6 4 = nI q) (hq2 : q + (tp - p) ≤ 126) : rX (LT t tp) w q ((pLn (LT t tp) p).1, (pLn (LT t tp) p).2.1, enc q (pLn (LT t tp) p).2.2) (f_X4_readLine w) := by
  have ht := hP.1
  obtain ⟨r, hr⟩ := pLv_tot (L := LT t tp) 80 0 0 p (by omega) (by omega) (by omega)
  obtain ⟨b1, b2, b3⟩ := pLv_pos LT_end 80 0 0 p r hb hr
  have hI : rX (LT t tp) w q r (f_X4_readLevel rf 0 0 w) := (X_pL 80 rf 0 0 p q w r (by decide) (by omega) hP hp hb hq (by omega) hr).1 (by omega)
  unfold f_X4_readLine pLn
  rw [hr]
  rcases hI with ⟨k1, k2⟩ | ⟨k1, b, w', k2, k3, k4, k5, q', k6, k7⟩
  · obtain ⟨b4, b5⟩ := b3 k1
    simp only [k1, if_true]
    have hP1 := PX_eqo hP (pX_eqo r.2.1 q r.2.2 w)
    rw [k2, bW_s, if_neg (show ¬ (1 : Int32) = 0 by decide), show (63 : Int32) = nI 63 from rfl, X_passed hP1 (g2_pX _ _ _ _) b2 (by omega)]
    by_cases c63 : LT t tp r.2.1 = 63
    · have hp' : r.2.1 < tp := by
        rcases Nat.lt_or_ge r.2.1 tp with y | y
        · exact y
        · rw [LT_end _ y] at c63; omega
      have hlen : (r.2.2 ++ [((63, 0) : Nat × Nat)]).length = r.2.2.length + 1 := by simp
      rw [if_pos c63, if_pos c63, bW_s, if_neg (show ¬ (1 : Int32) = 0 by decide), X_move (p := r.2.1) (g4_pX _ _ _ _) (r.2.1 + 1), pX_app, List.append_nil, lt_d, g4_pX, X_write (a := nI 63) (v := 0) (g2_pX _ _ _ _) (g4_pX _ _ _ _) (by omega) (63, 0) rfl rfl, bV_s, pX_app]
      have hP2 := PX_eqo hP (pX_eqo (r.2.1 + 1) q (r.2.2 ++ [(63, 0)]) w)
      obtain ⟨s, hs⟩ := pLv_tot (L := LT t tp) 80 0 0 (r.2.1 + 1) (by omega) (by omega) (by omega)
      obtain ⟨d1, d2, d3⟩ := pLv_pos LT_end 80 0 0 (r.2.1 + 1) s (by omega) hs
      have hJ : rX (LT t tp) (pX (r.2.1 + 1) q (r.2.2 ++ [(63, 0)]) w) (q + (r.2.2 ++ [((63, 0) : Nat × Nat)]).length) s (f_X4_readLevel rf 0 0 (pX (r.2.1 + 1) q (r.2.2 ++ [(63, 0)]) w)) := (X_pL 80 rf 0 0 (r.2.1 + 1) _ _ s (by decide) (by omega) hP2 (g2_pX _ _ _ _) (by omega) (g4_pX _ _ _ _) (by rw [hlen]; omega) hs).1 (by omega)
      rw [hs]
      have hy : ¬ (128 : Int32) ≤ nI (q + r.2.2.length) := by rw [show (128 : Int32) = nI 128 from rfl, nI_leI (by omega) (by omega)]; omega
      rcases hJ with ⟨j1, j2⟩ | ⟨j1, b, w', j2, j3, j4, j5, q', j6, j7⟩
      · obtain ⟨d4, d5⟩ := d3 j1
        have hlen2 : ((r.2.2 ++ [((63, 0) : Nat × Nat)]) ++ s.2.2).length = r.2.2.length + 1 + s.2.2.length := by simp; omega
        have hlen3 : ((r.2.2 ++ [((63, 0) : Nat × Nat)]) ++ s.2.2 ++ [(59, 0)]).length = r.2.2.length + 1 + s.2.2.length + 1 := by simp; omega
        simp only [j1, if_true]
        rw [j2, bW_s, if_neg (show ¬ (1 : Int32) = 0 by decide), pX_app, show (59 : Int32) = nI 59 from rfl, X_write (a := nI 59) (v := 0) (g2_pX _ _ _ _) (g4_pX _ _ _ _) (by rw [hlen2]; omega) (59, 0) rfl rfl, bV_s, pX_app, if_neg hy, saI_d (inb_nI (by omega) (by decide)), ix_nI (by omega), g4_pX, hlen3]
        have ev : nI 63 + 256 * nI (q + (r.2.2.length + 1 + s.2.2.length + 1)) = eX (63, q + r.2.2.length + 1 + s.2.2.length + 1) := by
          unfold eX
          rw [show (256 : Int32) = nI 256 from rfl, pk_mul, nI_add, show q + (r.2.2.length + 1 + s.2.2.length + 1) = q + r.2.2.length + 1 + s.2.2.length + 1 by omega]
        have ea : (r.2.2 ++ [((63, 0) : Nat × Nat)]) ++ s.2.2 ++ [(59, 0)] = r.2.2 ++ (63, 0) :: (s.2.2 ++ [(59, 0)]) := by simp
        rw [ev, ea, pX_set]
        refine Or.inl ⟨rfl, ?_⟩
        unfold enc
        by_cases ce : r.2.2 = []
        · exact absurd ce (pLv_ne 80 0 0 p r hr k1)
        · rw [if_neg ce]
          simp
      · have j1' : ¬ s.1 = true := by rw [j1]; decide
        simp only [j1', if_false]
        rw [j2, bW_s]
        have he := eqo_tr (pX_eqo (r.2.1 + 1) q (r.2.2 ++ [(63, 0)]) w) j4
        rcases j5 with rfl | ⟨rfl, j5⟩
        · rw [if_pos rfl]
          exact Or.inr ⟨rfl, 0, w', rfl, j3, he, Or.inl rfl, q', j6, j7⟩
        · obtain ⟨w2, v1, v2, v3, q2, v4, v5⟩ := X_writeAny j6 j7 59 0
          rw [if_neg (show ¬ (1 : Int32) = 0 by decide), v1, bV_s, if_neg hy, saI_d (inb_nI (by omega) (by decide))]
          refine Or.inr ⟨rfl, 1, _, rfl, ?_, eqo_si (eqo_tr he v2) (by simp [sLX]), Or.inr ⟨rfl, j5⟩, q2, ?_, v5⟩
          · rw [gi_si, if_neg (by omega), v3]; exact j3
          · rw [gi_si, if_neg (by omega)]; exact v4
    · rw [if_neg c63, if_neg c63, bW_s, if_pos rfl, X_write (a := 59) (v := 0) (g2_pX _ _ _ _) (g4_pX _ _ _ _) (by omega) (59, 0) rfl rfl, bV_s, pX_app]
      exact Or.inl ⟨rfl, rfl⟩
  · have k1' : ¬ r.1 = true := by rw [k1]; decide
    simp only [k1, Bool.false_eq_true, if_false]
    rw [k2, bW_s]
    rcases k5 with rfl | ⟨rfl, k5⟩
    · rw [if_pos rfl]
      exact Or.inr ⟨rfl, 0, w', rfl, k3, k4, Or.inl rfl, q', k6, k7⟩
    · obtain ⟨w2, v1, v2, v3, q2, v4, v5⟩ := X_writeAny k6 k7 59 0
      rw [if_neg (show ¬ (1 : Int32) = 0 by decide), show (63 : Int32) = nI 63 from rfl, X_passed (PX_eqo hP k4) k3 b2 (by omega), if_neg (show ¬ LT t tp r.2.1 = 63 by omega), bW_s, if_pos rfl, v1, bV_s]
      exact Or.inr ⟨rfl, 1, w2, rfl, v3.trans k3, eqo_tr k4 v2, Or.inr ⟨rfl, k5⟩, q2, v4, v5⟩
