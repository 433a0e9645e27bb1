/-! THE LAW: the model's reader, level by level -/
theorem M_move' {p' q o : Nat} {w : Wd} (h5 : gi w 54 21 = nI o) (h6 : gi w 54 22 = nI q) : si w 54 19 (nI p') = pM p' q o [] w := by
  refine wd_ext (fun c k => ?_) (fun _ _ => rfl)
  rw [gi_pM, gi_si]
  by_cases z1 : c = 54 ∧ k = 19
  · rw [if_pos z1, if_pos z1]
  rw [if_neg z1, if_neg z1]
  by_cases z2 : c = 54 ∧ k = 21
  · rw [if_pos z2, z2.1, z2.2, h5]
  rw [if_neg z2]
  by_cases z3 : c = 54 ∧ k = 22
  · rw [if_pos z3, z3.1, z3.2, h6]; rfl
  rw [if_neg z3, if_neg (by rw [List.length_nil]; omega), if_neg (by rw [List.length_nil]; omega)]
theorem M_open' {p q o' : Nat} {w : Wd} (h2 : gi w 54 19 = nI p) (h6 : gi w 54 22 = nI q) : si w 54 21 (nI o') = pM p q o' [] w := by
  refine wd_ext (fun c k => ?_) (fun _ _ => rfl)
  rw [gi_pM, gi_si]
  by_cases z1 : c = 54 ∧ k = 19
  · rw [if_pos z1, if_neg (by omega), z1.1, z1.2, h2]
  rw [if_neg z1]
  by_cases z2 : c = 54 ∧ k = 21
  · rw [if_pos z2, if_pos z2]
  rw [if_neg z2, if_neg z2]
  by_cases z3 : c = 54 ∧ k = 22
  · rw [if_pos z3, z3.1, z3.2, h6]; rfl
  rw [if_neg z3, if_neg (by rw [List.length_nil]; omega), if_neg (by rw [List.length_nil]; omega)]
theorem MS_ok {t : Nat → Nat} {tp p q o : Nat} {w : Wd} (h : MS t tp p q o w) (p : Nat) : okc (LT t tp p) := LT_ok (fun i hi => (h.1.2.2 i hi).2) p
theorem MS_on {t : Nat → Nat} {tp p q o : Nat} {w : Wd} (h : MS t tp p q o w) : f_X12_looksOn w = some (lm (LT t tp p)) := M_on h.1 h.2.1 h.2.2.1
theorem pM_nil (p p' q o o' : Nat) (ss : List (Nat × Nat)) (w : Wd) : pM p' q o' ss (pM p q o [] w) = pM p' q o' ss w := pM_app p p' q o o' [] ss w
theorem lvo_am {c l : Nat} (hl : l ≤ 4) (h : lvo c = l) : am c = c ∧ c < 128 := by
  have hc : c = 124 ∨ c = 38 ∨ c = 60 ∨ c = 61 ∨ c = 62 ∨ c = 43 ∨ c = 45 ∨ c = 42 ∨ c = 47 ∨ c = 37 := by
    unfold lvo at h
    repeat' split at h
    all_goals omega
  refine ⟨?_, by omega⟩
  unfold am
  rw [if_neg (by omega), if_neg (by omega), if_neg (by omega), if_neg (by omega)]
theorem M_fig {t : Nat → Nat} {tp o : Nat} : ∀ (k n i p q v : Nat) (w : Wd), k + i = 4 → k < n → MS t tp p q o w → v < 10 ^ i → f_X12_figure_b4 n (nI v) (nI i) w = f_X12_figure_b52 (nI (dgs (LT t tp) k p v).2) (nI (i + ((dgs (LT t tp) k p v).1 - p))) (pM (dgs (LT t tp) k p v).1 q o [] w)
  | 0, 0, _, _, _, _, _, _, h, _, _ => absurd h (by omega)
  | k + 1, 0, _, _, _, _, _, _, h, _, _ => absurd h (by omega)
  | 0, n + 1, i, p, q, v, w, hk, hn, hM, hv => by
    have hi : i = 4 := by omega
    subst hi
    show f_X12_figure_b4_y (f_X12_figure_b4 n) (nI v) (nI 4) w = f_X12_figure_b52 (nI v) (nI (4 + (p - p))) (pM p q o [] w)
    unfold f_X12_figure_b4_y
    rw [if_pos (by decide), pM_0 hM, Nat.sub_self]
  | k + 1, n + 1, i, p, q, v, w, hk, hn, hM, hv => by
    have hokc := MS_ok hM p
    have hv5 : v < 1000 := by
      have : 10 ^ i ≤ 10 ^ 3 := Nat.pow_le_pow_right (by omega) (by omega)
      omega
    show f_X12_figure_b4_y (f_X12_figure_b4 n) (nI v) (nI i) w = _
    unfold f_X12_figure_b4_y dgs
    rw [if_neg (by rw [show (4 : Int32) = nI 4 from rfl, nI_leI (by omega) (by omega)]; omega), MS_on hM, bR_s, M_digit hokc, bR_s, ite_b2i]
    by_cases c : dgt (LT t tp p)
    · rw [if_pos c, if_pos c, bR_s, lt_d, hM.2.1, stI_d, nI_1, nI_1]
      have hp' : p < tp := by
        rcases Nat.lt_or_ge p tp with y | y
        · exact y
        · rw [LT_end p y] at c; omega
      have ev : 10 * nI v + lm (LT t tp p) - 48 = nI (10 * v + (LT t tp p - 48)) := by
        rw [lm_nI (by omega), show (10 : Int32) = nI 10 from rfl, show (48 : Int32) = nI 48 from rfl, pk_mul, nI_add, pk_sub (by omega), show 10 * v + LT t tp p - 48 = 10 * v + (LT t tp p - 48) by omega]
      rw [ev, M_move hM (p + 1)]
      have hM' := MS_pM (p' := p + 1) (o' := o) (ss := []) hM (by omega) (by have := hM.2.2.2.2.2.2; rw [List.length_nil]; omega)
      have hd := dgs_pos (L := LT t tp) LT_end k (p + 1) (10 * v + (LT t tp p - 48)) (by omega)
      rw [M_fig k n (i + 1) (p + 1) _ _ _ (by omega) (by omega) hM' (by rw [Nat.pow_succ]; omega), show i + 1 + ((dgs (LT t tp) k (p + 1) (10 * v + (LT t tp p - 48))).1 - (p + 1)) = i + ((dgs (LT t tp) k (p + 1) (10 * v + (LT t tp p - 48))).1 - p) by omega]
      exact congrArg _ (pM_nil _ _ _ _ _ _ _)
    · rw [if_neg c, if_neg c]
      show f_X12_figure_b52 (nI v) (nI i) w = f_X12_figure_b52 (nI v) (nI (i + (p - p))) (pM p q o [] w)
      rw [pM_0 hM, Nat.sub_self]
      rfl
theorem M_fail {t : Nat → Nat} {tp p q o : Nat} {w : Wd} (h : MS t tp p q o w) (x : Int32) : ∃ w', f_X12_figure_b70 x w = some w' ∧ gi w' 54 19 = nI p ∧ gi w' 54 20 = nI p ∧ eqo sLM w w' ∧ gi w' 54 22 = nI (q + 1) := by
  obtain ⟨h1, h2, h3, h4, h5, h6, h7⟩ := h
  unfold f_X12_figure_b70 f_X12_figure_b74
  rw [M_faulty h2 h4, bV_s]
  obtain ⟨w', v1, v2, v3, v4, v5⟩ := M_stepAny (w := si w 54 20 (nI p)) (q := q) (by rw [gi_si, if_neg (by omega)]; exact h6) (by omega) 1 x
  rw [v1, bV_s]
  exact ⟨w', rfl, by rw [v3, gi_si, if_neg (by omega)]; exact h2, by rw [v4, gi_si, if_pos ⟨rfl, rfl⟩], eqo_tr (eqo_si (eqo_rf w) (by decide)) v2, v5⟩
theorem M_figure {t : Nat → Nat} {tp p q o : Nat} {w : Wd} {r : PR} (h : MS t tp p q o w) (e : (if dgt (LT t tp p) then (if dgt (LT t tp (dgs (LT t tp) 4 p 0).1) then some (false, (dgs (LT t tp) 4 p 0).1, []) else some (true, (dgs (LT t tp) 4 p 0).1, [(35, (dgs (LT t tp) 4 p 0).2)])) else some (false, p, [])) = some r) : rM w p q o r (f_X12_figure w) := by
  have e0 : f_X12_figure w = f_X12_figure_b52 (nI (dgs (LT t tp) 4 p 0).2) (nI (0 + ((dgs (LT t tp) 4 p 0).1 - p))) (pM (dgs (LT t tp) 4 p 0).1 q o [] w) := M_fig 4 fu 0 p q 0 w (by omega) (by decide) h (by omega)
  have h3 := h.2.2.1
  have h7 := h.2.2.2.2.2.2
  have htp := h.1.1
  by_cases c : dgt (LT t tp p)
  · rw [if_pos c] at e
    have hp' : p < tp := by
      rcases Nat.lt_or_ge p tp with y | y
      · exact y
      · rw [LT_end p y] at c; omega
    have e4 : dgs (LT t tp) 4 p 0 = dgs (LT t tp) 3 (p + 1) (10 * 0 + (LT t tp p - 48)) := by
      show (if dgt (LT t tp p) then _ else _) = _
      rw [if_pos c]
    have hd := dgs_pos (L := LT t tp) LT_end 3 (p + 1) (10 * 0 + (LT t tp p - 48)) (by omega)
    rw [← e4] at hd
    obtain ⟨a1, a2, a3⟩ := hd
    have hM' := MS_pM (p' := (dgs (LT t tp) 4 p 0).1) (o' := o) (ss := []) h a2 (by rw [List.length_nil]; omega)
    rw [e0]
    unfold f_X12_figure_b52
    rw [if_neg (nI_ne0 (by omega) (by omega)), MS_on hM', bR_s, M_digit (MS_ok hM' _), bR_s, ite_b2i]
    by_cases c2 : dgt (LT t tp (dgs (LT t tp) 4 p 0).1)
    · rw [if_pos c2] at e ⊢
      cases e
      obtain ⟨w', v1, v2, v3, v4, v5⟩ := M_fail hM' (nI (dgs (LT t tp) 4 p 0).2)
      exact Or.inr ⟨rfl, w', v1, v2, v3, eqo_tr (pM_eqo _ _ _ _ _) v4, q + 1, v5, by show q + 1 ≤ q + ((dgs (LT t tp) 4 p 0).1 - p) + 1; omega⟩
    · rw [if_neg c2] at e ⊢
      cases e
      unfold f_X12_figure_b74
      rw [M_step (a := 1) (v := nI (dgs (LT t tp) 4 p 0).2) hM' (35, (dgs (LT t tp) 4 p 0).2) (show am 35 < 128 by decide) rfl rfl (by rw [List.length_nil]; omega), bV_s]
      exact Or.inl ⟨rfl, congrArg some (pM_app _ _ _ _ _ _ _ _)⟩
  · rw [if_neg c] at e
    cases e
    have e4 : dgs (LT t tp) 4 p 0 = (p, 0) := by
      show (if dgt (LT t tp p) then _ else _) = _
      rw [if_neg c]
    rw [e0, e4]
    show rM w p q o _ (f_X12_figure_b52 (nI 0) (nI (0 + (p - p))) (pM p q o [] w))
    rw [pM_0 h, Nat.sub_self]
    unfold f_X12_figure_b52
    rw [if_pos (show nI (0 + 0) = (0 : Int32) from rfl)]
    obtain ⟨w', v1, v2, v3, v4, v5⟩ := M_fail h (nI 0)
    exact Or.inr ⟨rfl, w', v1, v2, v3, v4, q + 1, v5, by show q + 1 ≤ q + (p - p) + 1; omega⟩
def loopF (t : Nat → Nat) (tp l : Nat) (Q : Wd → Option Wd) (F : Nat → Wd → Option Wd) : Prop := (∀ n w, 0 ≤ gi w 54 20 → F (n + 1) w = some w) ∧ (∀ n p q o w, MS t tp p q o w → F (n + 1) w = if lvo (LT t tp p) = l then bV (Q (si w 54 19 (nI (p + 1)))) (fun w4 => bV (f_X12_addStep (nI (LT t tp p)) 0 w4) (fun w5 => F n w5)) else some w)
theorem M_rst {t : Nat → Nat} {tp l o : Nat} {qf : Nat → Option PR} {Q : Wd → Option Wd} {F : Nat → Wd → Option Wd} (hl : l ≤ 4) (hF : loopF t tp l Q F) (hpos : ∀ p r, p ≤ tp → qf p = some r → posOK tp p r) (IH : ∀ p q w r, MS t tp p q o w → qf p = some r → rM w p q o r (Q w)) : ∀ (m n p q : Nat) (w : Wd) (r : PR), tp - p < m → m < n → MS t tp p q o w → rst qf (LT t tp) l m p = some r → rM w p q o r (F n w)
  | 0, _, _, _, _, _, h, _, _, _ => absurd h (by omega)
  | m + 1, 0, _, _, _, _, _, h, _, _ => absurd h (by omega)
  | m + 1, n + 1, p, q, w, r, hm, hn, hM, e => by
    have h3 := hM.2.2.1
    have h7 := hM.2.2.2.2.2.2
    have htp := hM.1.1
    unfold rst at e
    rw [hF.2 n p q o w hM]
    by_cases c : lvo (LT t tp p) = l
    · rw [if_pos c] at e ⊢
      obtain ⟨am1, am2⟩ := lvo_am hl c
      have hp' : p < tp := by
        rcases Nat.lt_or_ge p tp with y | y
        · exact y
        · rw [LT_end p y] at c
          have : lvo 999 = 9 := rfl
          omega
      rw [M_move hM (p + 1)]
      have hM' := MS_pM (p' := p + 1) (o' := o) (ss := []) hM (by omega) (by rw [List.length_nil]; omega)
      cases h1 : qf (p + 1) with
      | none => rw [h1] at e; cases e
      | some r1 =>
        rw [h1] at e
        obtain ⟨b1, b2, b3⟩ := hpos (p + 1) r1 (by omega) h1
        have hI0 := IH (p + 1) q _ r1 hM' h1
        rcases hI0 with ⟨k1, k2⟩ | ⟨k1, w', k2, k3, k4, k5, q', k6, k7⟩
        · simp only [k1, if_true] at e
          obtain ⟨b4, b5⟩ := b3 k1
          rw [k2, bV_s, pM_nil]
          have hM1 := MS_pM (p' := r1.2.1) (o' := o) (ss := r1.2.2) hM b2 (by omega)
          rw [M_step (v := 0) hM1 (LT t tp p, 0) (by rw [am1]; exact am2) (by rw [am1]) rfl (by omega), bV_s, pM_app]
          have hlen : (r1.2.2 ++ [(LT t tp p, 0)]).length = r1.2.2.length + 1 := by simp
          have hM2 := MS_pM (p' := r1.2.1) (o' := o) (ss := r1.2.2 ++ [(LT t tp p, 0)]) hM b2 (by rw [hlen]; omega)
          cases h2 : rst qf (LT t tp) l m r1.2.1 with
          | none => rw [h2] at e; cases e
          | some s =>
            rw [h2] at e
            cases e
            have hR := M_rst hl hF hpos IH m n r1.2.1 _ _ s (by omega) (by omega) hM2 h2
            rcases hR with ⟨k3, k4⟩ | ⟨k3, w', k4, k5, k6, k7, q', k8, k9⟩
            · refine Or.inl ⟨k3, ?_⟩
              rw [k4, pM_app, List.append_assoc]
              rfl
            · have hs := (rst_pos LT_end hl hpos m r1.2.1 s b2 h2).1
              exact Or.inr ⟨k3, w', k4, k5, k6, eqo_tr (pM_eqo _ _ _ _ _) k7, q', k8, by rw [hlen] at k9; show q' ≤ q + (s.2.1 - p) + 1; omega⟩
        · have k1' : ¬ r1.1 = true := by rw [k1]; decide
          simp only [k1', if_false] at e
          cases e
          rw [k2, bV_s]
          obtain ⟨w2, v1, v2, v3, v4, v5⟩ := M_stepAny k6 (by omega) (nI (LT t tp p)) 0
          rw [v1, bV_s]
          obtain ⟨n', rfl⟩ : ∃ n', n = n' + 1 := ⟨n - 1, by omega⟩
          rw [hF.1 n' w2 (by rw [v4, k4]; exact nI_pos' (by omega))]
          exact Or.inr ⟨k1, w2, rfl, v3.trans k3, v4.trans k4, eqo_tr (eqo_tr (pM_eqo _ _ _ _ _) k5) v2, q' + 1, v5, by omega⟩
    · rw [if_neg c] at e ⊢
      cases e
      exact Or.inl ⟨rfl, by rw [pM_0 hM]⟩
theorem M_lev {t : Nat → Nat} {tp l o p q : Nat} {w : Wd} {r : PR} {qf : Nat → Option PR} {Q : Wd → Option Wd} {F : Nat → Wd → Option Wd} (hl : l ≤ 4) (hF : loopF t tp l Q F) (hpos : ∀ p r, p ≤ tp → qf p = some r → posOK tp p r) (IH : ∀ p q w r, MS t tp p q o w → qf p = some r → rM w p q o r (Q w)) (hM : MS t tp p q o w)
    (e : (match qf p with
      | none => none
      | some r => if r.1 = true then (match rst qf (LT t tp) l 120 r.2.1 with
        | none => none
        | some s => some (s.1, s.2.1, r.2.2 ++ s.2.2)) else some r) = some r) : rM w p q o r (bV (Q w) fun w1 => F fu w1) := by
  have h3 := hM.2.2.1
  have h7 := hM.2.2.2.2.2.2
  have htp := hM.1.1
  cases h1 : qf p with
  | none => rw [h1] at e; cases e
  | some r1 =>
    rw [h1] at e
    obtain ⟨b1, b2, b3⟩ := hpos p r1 h3 h1
    rcases IH p q w r1 hM h1 with ⟨k1, k2⟩ | ⟨k1, w', k2, k3, k4, k5, q', k6, k7⟩
    · simp only [k1, if_true] at e
      obtain ⟨b4, b5⟩ := b3 k1
      rw [k2, bV_s]
      have hM1 := MS_pM (p' := r1.2.1) (o' := o) (ss := r1.2.2) hM b2 (by omega)
      cases h2 : rst qf (LT t tp) l 120 r1.2.1 with
      | none => rw [h2] at e; cases e
      | some s =>
        rw [h2] at e
        cases e
        have hs := (rst_pos LT_end hl hpos 120 r1.2.1 s b2 h2).1
        rcases M_rst hl hF hpos IH 120 fu r1.2.1 _ _ s (by omega) (by decide) hM1 h2 with ⟨k3, k4⟩ | ⟨k3, w', k4, k5, k6, k7, q', k8, k9⟩
        · exact Or.inl ⟨k3, by rw [k4, pM_app]⟩
        · exact Or.inr ⟨k3, w', k4, k5, k6, eqo_tr (pM_eqo _ _ _ _ _) k7, q', k8, by show q' ≤ q + (s.2.1 - p) + 1; omega⟩
    · have k1' : ¬ r1.1 = true := by rw [k1]; decide
      simp only [k1', if_false] at e
      cases e
      rw [k2, bV_s, show fu = 299 + 1 from rfl, hF.1 299 w' (by rw [k4]; exact nI_pos' (by omega))]
      exact Or.inr ⟨k1, w', rfl, k3, k4, k5, q', k6, k7⟩
