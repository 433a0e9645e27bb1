/-! THE RELATION, AND ALL CALLS -/
def aP (c _k : Nat) : Bool := c == 32 || c == 33
def Rel (w : Wd) : Prop := ∃ L dn um nb t tp o, NR L dn um w ∧ SR nb w ∧ BR nb w ∧ LR t tp o w ∧ DR w ∧ PRt L w
def dj (P S : Nat → Nat → Bool) : Prop := ∀ c k, P c k = true → S c k = false
theorem dj_of {P S : Nat → Nat → Bool} (h : ∀ c k, P c k = true → S c k = true → False) : dj P S := by
  intro c k hp
  cases hs : S c k with
  | false => rfl
  | true => exact (h c k hp hs).elim
theorem NR_e {S : Nat → Nat → Bool} {L dn um : Nat} {w w' : Wd} (hd : dj aN S) (h : NR L dn um w) (he : eqo S w w') : NR L dn um w' := NR_cg h (fun c k z => (he c k (hd c k z)).1)
theorem SR_e {S : Nat → Nat → Bool} {nb nb' : Nat} {w w' : Wd} (hd : dj aS S) (h : SR nb w) (h1 : nb ≤ nb') (h2 : nb' ≤ 50) (he : eqo S w w') : SR nb' w' := SR_cg h h1 h2 (fun c k z => he c k (hd c k z))
theorem BR_e {S : Nat → Nat → Bool} {nb : Nat} {w w' : Wd} (hd : dj aB S) (h : BR nb w) (he : eqo S w w') : BR nb w' := BR_cg h (fun c k z => (he c k (hd c k z)).1)
theorem LR_e {S : Nat → Nat → Bool} {t : Nat → Nat} {tp : Nat} {o : Option (List LN)} {w w' : Wd} (hd : dj aLr S) (h : LR t tp o w) (he : eqo S w w') : LR t tp o w' := LR_cg h (fun c k z => (he c k (hd c k z)).1)
theorem DR_e {S : Nat → Nat → Bool} {w w' : Wd} (hd : dj aD S) (h : DR w) (he : eqo S w w') : DR w' := DR_cg h (fun c k z => (he c k (hd c k z)).1)
theorem PR_e {S : Nat → Nat → Bool} {L : Nat} {w w' : Wd} (hd : dj aP S) (h : PRt L w) (he : eqo S w w') : PRt L w' := PRt_cg h (fun j => (he 33 j (hd 33 j rfl)).1) (fun j => (he 32 j (hd 32 j rfl)).1)
theorem dN_S2 : dj aS aN := dj_of (fun c k h s => by simp only [aS, aN, Bool.or_eq_true, Bool.and_eq_true, beq_iff_eq, decide_eq_true_eq] at h s; omega)
theorem dN_B : dj aB aN := dj_of (fun c k h s => by simp only [aB, aN, Bool.or_eq_true, Bool.and_eq_true, beq_iff_eq, decide_eq_true_eq] at h s; omega)
theorem dN_L : dj aLr aN := dj_of (fun c k h s => by simp only [aLr, aN, Bool.or_eq_true, Bool.and_eq_true, beq_iff_eq, decide_eq_true_eq] at h s; omega)
theorem dN_D : dj aD aN := dj_of (fun c k h s => by simp only [aD, aN, Bool.or_eq_true, Bool.and_eq_true, beq_iff_eq, decide_eq_true_eq] at h s; omega)
theorem dN_P : dj aP aN := dj_of (fun c k h s => by simp only [aP, aN, Bool.or_eq_true, Bool.and_eq_true, beq_iff_eq, decide_eq_true_eq] at h s; omega)
theorem dS_N : dj aN aS2 := dj_of (fun c k h s => by simp only [aN, aS2, aS, Bool.or_eq_true, Bool.and_eq_true, beq_iff_eq, decide_eq_true_eq] at h s; omega)
theorem dS_B : dj aB aS2 := dj_of (fun c k h s => by simp only [aB, aS2, aS, Bool.or_eq_true, Bool.and_eq_true, beq_iff_eq, decide_eq_true_eq] at h s; omega)
theorem dS_L : dj aLr aS2 := dj_of (fun c k h s => by simp only [aLr, aS2, aS, Bool.or_eq_true, Bool.and_eq_true, beq_iff_eq, decide_eq_true_eq] at h s; omega)
theorem dS_D : dj aD aS2 := dj_of (fun c k h s => by simp only [aD, aS2, aS, Bool.or_eq_true, Bool.and_eq_true, beq_iff_eq, decide_eq_true_eq] at h s; omega)
theorem dS_P : dj aP aS2 := dj_of (fun c k h s => by simp only [aP, aS2, aS, Bool.or_eq_true, Bool.and_eq_true, beq_iff_eq, decide_eq_true_eq] at h s; omega)
theorem dB_N : dj aN aB := dj_of (fun c k h s => by simp only [aN, aB, Bool.or_eq_true, Bool.and_eq_true, beq_iff_eq, decide_eq_true_eq] at h s; omega)
theorem dB_S : dj aS aB := dj_of (fun c k h s => by simp only [aS, aB, Bool.or_eq_true, Bool.and_eq_true, beq_iff_eq, decide_eq_true_eq] at h s; omega)
theorem dB_L : dj aLr aB := dj_of (fun c k h s => by simp only [aLr, aB, Bool.or_eq_true, Bool.and_eq_true, beq_iff_eq, decide_eq_true_eq] at h s; omega)
theorem dB_D : dj aD aB := dj_of (fun c k h s => by simp only [aD, aB, Bool.or_eq_true, Bool.and_eq_true, beq_iff_eq, decide_eq_true_eq] at h s; omega)
theorem dB_P : dj aP aB := dj_of (fun c k h s => by simp only [aP, aB, Bool.or_eq_true, Bool.and_eq_true, beq_iff_eq, decide_eq_true_eq] at h s; omega)
theorem dL_N : dj aN aL := dj_of (fun c k h s => by simp only [aN, aL, Bool.or_eq_true, Bool.and_eq_true, beq_iff_eq, decide_eq_true_eq] at h s; omega)
theorem dL_S : dj aS aL := dj_of (fun c k h s => by simp only [aS, aL, Bool.or_eq_true, Bool.and_eq_true, beq_iff_eq, decide_eq_true_eq] at h s; omega)
theorem dL_B : dj aB aL := dj_of (fun c k h s => by simp only [aB, aL, Bool.or_eq_true, Bool.and_eq_true, beq_iff_eq, decide_eq_true_eq] at h s; omega)
theorem dL_D : dj aD aL := dj_of (fun c k h s => by simp only [aD, aL, Bool.or_eq_true, Bool.and_eq_true, beq_iff_eq, decide_eq_true_eq] at h s; omega)
theorem dL_P : dj aP aL := dj_of (fun c k h s => by simp only [aP, aL, Bool.or_eq_true, Bool.and_eq_true, beq_iff_eq, decide_eq_true_eq] at h s; omega)
theorem ds_N : dj aN scr := dj_of (fun c k h s => by simp only [aN, scr, Bool.or_eq_true, Bool.and_eq_true, beq_iff_eq, decide_eq_true_eq] at h s; omega)
theorem ds_S : dj aS scr := dj_of (fun c k h s => by simp only [aS, scr, Bool.or_eq_true, Bool.and_eq_true, beq_iff_eq, decide_eq_true_eq] at h s; omega)
theorem ds_B : dj aB scr := dj_of (fun c k h s => by simp only [aB, scr, Bool.or_eq_true, Bool.and_eq_true, beq_iff_eq, decide_eq_true_eq] at h s; omega)
theorem ds_L : dj aLr scr := dj_of (fun c k h s => by simp only [aLr, scr, Bool.or_eq_true, Bool.and_eq_true, beq_iff_eq, decide_eq_true_eq] at h s; omega)
theorem ds_D : dj aD scr := scr_aD
theorem ds_P : dj aP scr := dj_of (fun c k h s => by simp only [aP, scr, Bool.or_eq_true, Bool.and_eq_true, beq_iff_eq, decide_eq_true_eq] at h s; omega)
theorem dD_N : dj aN sD := dj_of (fun c k h s => by simp only [aN, sD, aD, scr, Bool.or_eq_true, Bool.and_eq_true, beq_iff_eq, decide_eq_true_eq] at h s; omega)
theorem dD_S : dj aS sD := dj_of (fun c k h s => by simp only [aS, sD, aD, scr, Bool.or_eq_true, Bool.and_eq_true, beq_iff_eq, decide_eq_true_eq] at h s; omega)
theorem dD_B : dj aB sD := dj_of (fun c k h s => by simp only [aB, sD, aD, scr, Bool.or_eq_true, Bool.and_eq_true, beq_iff_eq, decide_eq_true_eq] at h s; omega)
theorem dD_L : dj aLr sD := dj_of (fun c k h s => by simp only [aLr, sD, aD, scr, Bool.or_eq_true, Bool.and_eq_true, beq_iff_eq, decide_eq_true_eq] at h s; omega)
theorem dD_P : dj aP sD := dj_of (fun c k h s => by simp only [aP, sD, aD, scr, Bool.or_eq_true, Bool.and_eq_true, beq_iff_eq, decide_eq_true_eq] at h s; omega)
theorem dH_N : dj aN sHX := dj_of (fun c k h s => by simp only [aN, sHX, scr, Bool.or_eq_true, Bool.and_eq_true, beq_iff_eq, decide_eq_true_eq] at h s; omega)
theorem dH_S : dj aS sHX := dj_of (fun c k h s => by simp only [aS, sHX, scr, Bool.or_eq_true, Bool.and_eq_true, beq_iff_eq, decide_eq_true_eq] at h s; omega)
theorem dH_B : dj aB sHX := dj_of (fun c k h s => by simp only [aB, sHX, scr, Bool.or_eq_true, Bool.and_eq_true, beq_iff_eq, decide_eq_true_eq] at h s; omega)
theorem dH_L : dj aLr sHX := dj_of (fun c k h s => by simp only [aLr, sHX, scr, Bool.or_eq_true, Bool.and_eq_true, beq_iff_eq, decide_eq_true_eq] at h s; omega)
theorem dH_D : dj aD sHX := dj_of (fun c k h s => by simp only [aD, sHX, scr, Bool.or_eq_true, Bool.and_eq_true, beq_iff_eq, decide_eq_true_eq] at h s; omega)
theorem S_S2 : ∀ c k, aS c k = true → aS2 c k = true := fun c k h => by unfold aS2; rw [h]; rfl
/-- the frames -/
theorem Rel_N {w w' : Wd} {L dn um L' dn' um' : Nat} (h : Rel w) (h0 : NR L dn um w) (h1 : NR L' dn' um' w') (hl : L ≤ L') (he : eqo aN w w') : Rel w' := by
  obtain ⟨L0, dn0, um0, nb, t, tp, o, a, b, c, d, e, f⟩ := h
  have hLL : L0 = L := by
    have x := a.2.1
    have y := h0.2.1
    rw [x] at y
    exact (nI_eq (by have := a.1; omega) (by have := h0.1; omega)).mp y
  subst hLL
  exact ⟨L', dn', um', nb, t, tp, o, h1, SR_e dN_S2 b (Nat.le_refl _) b.1 he, BR_e dN_B c he, LR_e dN_L d he, DR_e dN_D e he, PRt_le (PR_e dN_P f he) hl⟩
theorem Rel_s {w w' : Wd} (h : Rel w) (he : eqo scr w w') : Rel w' := by
  obtain ⟨L0, dn0, um0, nb, t, tp, o, a, b, c, d, e, f⟩ := h
  exact ⟨L0, dn0, um0, nb, t, tp, o, NR_e ds_N a he, SR_e ds_S b (Nat.le_refl _) b.1 he, BR_e ds_B c he, LR_e ds_L d he, DR_e ds_D e he, PR_e ds_P f he⟩
theorem Rel_D {w w' : Wd} (h : Rel w) (hD : DR w') (he : eqo sD w w') : Rel w' := by
  obtain ⟨L0, dn0, um0, nb, t, tp, o, a, b, c, d, e, f⟩ := h
  exact ⟨L0, dn0, um0, nb, t, tp, o, NR_e dD_N a he, SR_e dD_S b (Nat.le_refl _) b.1 he, BR_e dD_B c he, LR_e dD_L d he, hD, PR_e dD_P f he⟩
theorem Rc_looker {w : Wd} (h : Rel w) (a : Int32) : ∃ r w1 w2, f_X11_looker a w = some (r, w1) ∧ f_X12_looker a w1 = some (r, w2) ∧ Rel w2 := by
  obtain ⟨L, dn, um, nb, t, tp, o, hN, hS, hB, hL, hD, hP⟩ := id h
  obtain ⟨r, w1, w2, L', p1, p2, p3, p4, p5⟩ := N_looker hN a
  exact ⟨r, w1, w2, p1, p2, Rel_N h hN p3 p4 p5⟩
theorem Rc_lookers {w : Wd} (h : Rel w) (a1 a2 a3 : Int32) : ∃ r w1 w2, f_X11_lookers a1 a2 a3 w = some (r, w1) ∧ f_X12_lookers a1 a2 a3 w1 = some (r, w2) ∧ Rel w2 := by
  obtain ⟨L, dn, um, nb, t, tp, o, hN, hS, hB, hL, hD, hP⟩ := id h
  obtain ⟨r, w1, w2, L', p1, p2, p3, p4, p5⟩ := T_lookers hN hS a1 a2 a3
  exact ⟨r, w1, w2, p1, p2, Rel_N h hN p3 p4 p5⟩
theorem Rc_mend {w : Wd} (h : Rel w) (a1 a2 a3 : Int32) : ∃ r w1 w2, f_X11_mend a1 a2 a3 w = some (r, w1) ∧ f_X12_mend a1 a2 a3 w1 = some (r, w2) ∧ Rel w2 := by
  obtain ⟨L, dn, um, nb, t, tp, o, hN, hS, hB, hL, hD, hP⟩ := id h
  obtain ⟨r, w1, w2, dn', um', p1, p2, p3, p5⟩ := N_mend hN a1 a2 a3
  exact ⟨r, w1, w2, p1, p2, Rel_N h hN p3 (Nat.le_refl _) p5⟩
theorem Rc_undo {w : Wd} (h : Rel w) : ∃ r w1 w2, f_X11_undo w = some (r, w1) ∧ f_X12_undo w1 = some (r, w2) ∧ Rel w2 := by
  obtain ⟨L, dn, um, nb, t, tp, o, hN, hS, hB, hL, hD, hP⟩ := id h
  obtain ⟨r, w1, w2, dn', um', p1, p2, p3, p5⟩ := N_undo hN
  exact ⟨r, w1, w2, p1, p2, Rel_N h hN p3 (Nat.le_refl _) p5⟩
theorem Rc_redo {w : Wd} (h : Rel w) : ∃ r w1 w2, f_X11_redo w = some (r, w1) ∧ f_X12_redo w1 = some (r, w2) ∧ Rel w2 := by
  obtain ⟨L, dn, um, nb, t, tp, o, hN, hS, hB, hL, hD, hP⟩ := id h
  obtain ⟨r, w1, w2, dn', um', p1, p2, p3, p5⟩ := N_redo hN
  exact ⟨r, w1, w2, p1, p2, Rel_N h hN p3 (Nat.le_refl _) p5⟩
theorem Rc_of {w : Wd} (h : Rel w) (a1 a2 : Int32) : ∃ r, f_X11_of a1 a2 w = some r ∧ f_X12_of a1 a2 w = some r := by
  obtain ⟨L, dn, um, nb, t, tp, o, hN, hS, hB, hL, hD, hP⟩ := id h
  exact N_of hN a1 a2
theorem Rc_feed {w : Wd} (h : Rel w) (a : Int32) : ∃ r w1 w2, f_X11_feed a w = some (r, w1) ∧ f_X12_feed a w1 = some (r, w2) ∧ Rel w2 := by
  obtain ⟨L, dn, um, nb, t, tp, o, hN, hS, hB, hL, hD, hP⟩ := id h
  obtain ⟨r, w1, w2, t', tp', p1, p2, p3, p5⟩ := L_feed hL a
  exact ⟨r, w1, w2, p1, p2, L, dn, um, nb, t', tp', o, NR_e dL_N hN p5, SR_e dL_S hS (Nat.le_refl _) hS.1 p5, BR_e dL_B hB p5, p3, DR_e dL_D hD p5, PR_e dL_P hP p5⟩
theorem Rc_law {w : Wd} (h : Rel w) : ∃ r w1 w2, f_X11_law w = some (r, w1) ∧ f_X12_law w1 = some (r, w2) ∧ Rel w2 := by
  obtain ⟨L, dn, um, nb, t, tp, o, hN, hS, hB, hL, hD, hP⟩ := id h
  obtain ⟨r, w1, w2, t', tp', o', p1, p2, p3, p5⟩ := L_law hL
  exact ⟨r, w1, w2, p1, p2, L, dn, um, nb, t', tp', o', NR_e dL_N hN p5, SR_e dL_S hS (Nat.le_refl _) hS.1 p5, BR_e dL_B hB p5, p3, DR_e dL_D hD p5, PR_e dL_P hP p5⟩
theorem Rc_finds {w : Wd} (h : Rel w) (a1 a2 : Int32) : ∃ r w1 w2, f_X11_finds a1 a2 w = some (r, w1) ∧ f_X12_finds a1 a2 w1 = some (r, w2) ∧ Rel w2 := by
  obtain ⟨L, dn, um, nb, t, tp, o, hN, hS, hB, hL, hD, hP⟩ := id h
  obtain ⟨A, _, hX, hM⟩ := view hN hL
  obtain ⟨r, w1, w2, p1, p2, p3⟩ := T_finds hX hM a1 a2
  exact ⟨r, w1, w2, p1, p2, Rel_s h p3⟩
theorem Rc_left {w : Wd} (h : Rel w) (a1 a2 a3 a4 : Int32) : ∃ r w1 w2, f_X11_left a1 a2 a3 a4 w = some (r, w1) ∧ f_X12_left a1 a2 a3 a4 w1 = some (r, w2) ∧ Rel w2 := by
  obtain ⟨L, dn, um, nb, t, tp, o, hN, hS, hB, hL, hD, hP⟩ := id h
  obtain ⟨A, _, hX, hM⟩ := view hN hL
  obtain ⟨r, w1, w2, p1, p2, p3⟩ := T_left hX hM hS a1 a2 a3 a4
  exact ⟨r, w1, w2, p1, p2, Rel_s h p3⟩
theorem Rc_mean {w : Wd} (h : Rel w) (a1 a2 a3 a4 : Int32) : ∃ r w1 w2, f_X11_mean a1 a2 a3 a4 w = some (r, w1) ∧ f_X12_mean a1 a2 a3 a4 w1 = some (r, w2) ∧ Rel w2 := by
  obtain ⟨L, dn, um, nb, t, tp, o, hN, hS, hB, hL, hD, hP⟩ := id h
  obtain ⟨A, _, hX, hM⟩ := view hN hL
  obtain ⟨r, w1, w2, p1, p2, p3⟩ := T_mean hX hM hS a1 a2 a3 a4
  exact ⟨r, w1, w2, p1, p2, Rel_s h p3⟩
theorem Rc_worth {w : Wd} (h : Rel w) (a1 a2 a3 : Int32) : ∃ r w1 w2, f_X11_worth a1 a2 a3 w = some (r, w1) ∧ f_X12_worth a1 a2 a3 w1 = some (r, w2) ∧ Rel w2 := by
  obtain ⟨L, dn, um, nb, t, tp, o, hN, hS, hB, hL, hD, hP⟩ := id h
  obtain ⟨A, _, hX, hM⟩ := view hN hL
  obtain ⟨r, w1, w2, p1, p2, p3⟩ := T_worth hX hM hS a1 a2 a3
  exact ⟨r, w1, w2, p1, p2, Rel_s h p3⟩
theorem Rc_next {w : Wd} (h : Rel w) (a1 a2 : Int32) : ∃ r w1 w2, f_X11_next a1 a2 w = some (r, w1) ∧ f_X12_next a1 a2 w1 = some (r, w2) ∧ Rel w2 := by
  obtain ⟨L, dn, um, nb, t, tp, o, hN, hS, hB, hL, hD, hP⟩ := id h
  obtain ⟨A, _, hX, hM⟩ := view hN hL
  obtain ⟨r, w1, w2, p1, p2, p3⟩ := T_next hX hM hS a1 a2
  exact ⟨r, w1, w2, p1, p2, Rel_s h p3⟩
theorem Rc_plan {w : Wd} (h : Rel w) (a1 a2 a3 : Int32) : ∃ r w1 w2, f_X11_plan a1 a2 a3 w = some (r, w1) ∧ f_X12_plan a1 a2 a3 w1 = some (r, w2) ∧ Rel w2 := by
  obtain ⟨L, dn, um, nb, t, tp, o, hN, hS, hB, hL, hD, hP⟩ := id h
  obtain ⟨A, _, hX, hM⟩ := view hN hL
  obtain ⟨r, w1, w2, p1, p2, p3⟩ := T_plan hX hM a1 a2 a3
  exact ⟨r, w1, w2, p1, p2, Rel_s h p3⟩
theorem Rc_buy {w : Wd} (h : Rel w) (a1 : Int32) : ∃ r w1 w2, f_X11_buy a1 w = some (r, w1) ∧ f_X12_buy a1 w1 = some (r, w2) ∧ Rel w2 := by
  obtain ⟨L, dn, um, nb, t, tp, o, hN, hS, hB, hL, hD, hP⟩ := id h
  obtain ⟨A, _, hX, hM⟩ := view hN hL
  obtain ⟨r, w1, w2, p1, p2, p3⟩ := T_buy hX hM a1
  exact ⟨r, w1, w2, p1, p2, Rel_s h p3⟩
theorem Rc_seesFor {w : Wd} (h : Rel w) (a1 : Int32) : ∃ r w2, f_X11_seesFor a1 = some r ∧ f_X12_seesFor a1 w = some (r, w2) ∧ Rel w2 := by
  obtain ⟨r, w2, p1, p2, p3⟩ := T_seesFor a1 w
  exact ⟨r, w2, p1, p2, Rel_s h p3⟩
theorem Rc_besides {w : Wd} (h : Rel w) (a1 a2 a3 : Int32) : ∃ r w2, f_X11_besides a1 a2 a3 = some r ∧ f_X12_besides a1 a2 a3 w = some (r, w2) ∧ Rel w2 := by
  obtain ⟨r, w2, p1, p2, p3⟩ := T_besides a1 a2 a3 w
  exact ⟨r, w2, p1, p2, Rel_s h p3⟩
theorem Rc_handful {w : Wd} (h : Rel w) (a1 a2 a3 a4 : Int32) : ∃ r, f_X11_handful a1 a2 a3 a4 w = some r ∧ f_X12_handful a1 a2 a3 a4 w = some r := by
  obtain ⟨L, dn, um, nb, t, tp, o, hN, hS, hB, hL, hD, hP⟩ := id h
  obtain ⟨A, _, hX, hM⟩ := view hN hL
  exact T_handful hX hM a1 a2 a3 a4
theorem Rc_heaps {w : Wd} (h : Rel w) (a1 a2 a3 : Int32) : ∃ r w1 w2, f_X11_heaps a1 a2 a3 w = some (r, w1) ∧ f_X12_heaps a1 a2 a3 w1 = some (r, w2) ∧ Rel w2 := by
  obtain ⟨L, dn, um, nb, t, tp, o, hN, hS, hB, hL, hD, hP⟩ := id h
  obtain ⟨A, hAL, hX, hM⟩ := view hN hL
  obtain ⟨r, w1, w2, p1, p2, p3, p4⟩ := T_heaps hX hM (by rw [hAL]; exact hP) a1 a2 a3
  rw [hAL] at p3
  exact ⟨r, w1, w2, p1, p2, L, dn, um, nb, t, tp, o, NR_e dH_N hN p4, SR_e dH_S hS (Nat.le_refl _) hS.1 p4, BR_e dH_B hB p4, LR_e dH_L hL p4, DR_e dH_D hD p4, p3⟩
theorem Rc_who {w : Wd} (h : Rel w) (a1 a2 a3 a4 : Int32) : ∃ r w1 w2, f_X11_who a1 a2 a3 a4 w = some (r, w1) ∧ f_X12_who a1 a2 a3 a4 w1 = some (r, w2) ∧ Rel w2 := by
  obtain ⟨L, dn, um, nb, t, tp, o, hN, hS, hB, hL, hD, hP⟩ := id h
  obtain ⟨A, _, hX, hM⟩ := view hN hL
  obtain ⟨r, w1, w2, p1, p2, p3⟩ := T_who hX hM hS a1 a2 a3 a4
  exact ⟨r, w1, w2, p1, p2, Rel_s h p3⟩
theorem Rc_drawn {w : Wd} (h : Rel w) (a1 a2 a3 a4 : Int32) : ∃ r w1 w2, f_X11_drawn a1 a2 a3 a4 w = some (r, w1) ∧ f_X12_drawn a1 a2 a3 a4 w1 = some (r, w2) ∧ Rel w2 := by
  obtain ⟨L, dn, um, nb, t, tp, o, hN, hS, hB, hL, hD, hP⟩ := id h
  obtain ⟨A, _, hX, hM⟩ := view hN hL
  obtain ⟨r, w1, w2, p1, p2, p3⟩ := T_drawn hX hM hS a1 a2 a3 a4
  exact ⟨r, w1, w2, p1, p2, Rel_s h p3⟩
theorem Rc_open {w : Wd} (h : Rel w) (a1 a2 : Int32) : ∃ r w1 w2, f_X11_open a1 a2 w = some (r, w1) ∧ f_X12_open a1 a2 w1 = some (r, w2) ∧ Rel w2 := by
  obtain ⟨L, dn, um, nb, t, tp, o, hN, hS, hB, hL, hD, hP⟩ := id h
  obtain ⟨A, _, hX, hM⟩ := view hN hL
  obtain ⟨r, w1, w2, p1, p2, p3, p4⟩ := T_open hX hM hD a1 a2
  exact ⟨r, w1, w2, p1, p2, Rel_D h p3 p4⟩
theorem Rc_look {w : Wd} (h : Rel w) (a1 : Int32) : ∃ r w1 w2, f_X11_look a1 w = some (r, w1) ∧ f_X12_look a1 w1 = some (r, w2) ∧ Rel w2 := by
  obtain ⟨L, dn, um, nb, t, tp, o, hN, hS, hB, hL, hD, hP⟩ := id h
  obtain ⟨A, _, hX, hM⟩ := view hN hL
  obtain ⟨r, w1, w2, p1, p2, p3, p4⟩ := T_look hX hM hD a1
  exact ⟨r, w1, w2, p1, p2, Rel_D h p3 p4⟩
theorem Rc_eat {w : Wd} (h : Rel w) : ∃ r w1 w2, f_X11_eat w = some (r, w1) ∧ f_X12_eat w1 = some (r, w2) ∧ Rel w2 := by
  obtain ⟨L, dn, um, nb, t, tp, o, hN, hS, hB, hL, hD, hP⟩ := id h
  obtain ⟨A, _, hX, hM⟩ := view hN hL
  obtain ⟨r, w1, w2, p1, p2, p3, p4⟩ := T_eat hX hM hD
  exact ⟨r, w1, w2, p1, p2, Rel_D h p3 p4⟩
theorem Rc_led {w : Wd} (h : Rel w) (a1 : Int32) : ∃ r, f_X11_led a1 w = some r ∧ f_X12_led a1 w = some r := by
  obtain ⟨L, dn, um, nb, t, tp, o, hN, hS, hB, hL, hD, hP⟩ := id h
  exact T_led hD a1
theorem Rc_image {w : Wd} (h : Rel w) : ∃ r w1 w2, f_X11_image w = some (r, w1) ∧ f_X12_image w1 = some (r, w2) ∧ Rel w2 := by
  obtain ⟨L, dn, um, nb, t, tp, o, hN, hS, hB, hL, hD, hP⟩ := id h
  obtain ⟨r, w1, w2, p1, p2, p3, p4⟩ := T_image hD
  exact ⟨r, w1, w2, p1, p2, Rel_D h p3 p4⟩
theorem Rc_back {w : Wd} (h : Rel w) : ∃ r w1 w2, f_X11_back w = some (r, w1) ∧ f_X12_back w1 = some (r, w2) ∧ Rel w2 := by
  obtain ⟨L, dn, um, nb, t, tp, o, hN, hS, hB, hL, hD, hP⟩ := id h
  obtain ⟨r, w1, w2, p1, p2, p3, p4⟩ := T_back hD
  exact ⟨r, w1, w2, p1, p2, Rel_D h p3 p4⟩
theorem Rc_body {w : Wd} (h : Rel w) (a : Int32) : ∃ r w1 w2, f_X11_body a w = some (r, w1) ∧ f_X12_body a w1 = some (r, w2) ∧ Rel w2 := by
  obtain ⟨L, dn, um, nb, t, tp, o, hN, hS, hB, hL, hD, hP⟩ := id h
  obtain ⟨r, w1, w2, nb', p1, p2, p3, p4, p6, p5⟩ := B_body hB a
  exact ⟨r, w1, w2, p1, p2, L, dn, um, nb', t, tp, o, NR_e dB_N hN p5, SR_e dB_S hS p4 p6 p5, p3, LR_e dB_L hL p5, DR_e dB_D hD p5, PR_e dB_P hP p5⟩
theorem Rc_act {w : Wd} (h : Rel w) (a1 a2 a3 : Int32) : ∃ r w1 w2, f_X11_act a1 a2 a3 w = some (r, w1) ∧ f_X12_act a1 a2 a3 w1 = some (r, w2) ∧ Rel w2 := by
  obtain ⟨L, dn, um, nb, t, tp, o, hN, hS, hB, hL, hD, hP⟩ := id h
  obtain ⟨r, w1, w2, p1, p2, p3, p5⟩ := B_act hB a1 a2 a3
  exact ⟨r, w1, w2, p1, p2, L, dn, um, nb, t, tp, o, NR_e dB_N hN p5, SR_e dB_S hS (Nat.le_refl _) hS.1 p5, p3, LR_e dB_L hL p5, DR_e dB_D hD p5, PR_e dB_P hP p5⟩
theorem Rc_trace {w : Wd} (h : Rel w) (a : Int32) : ∃ r, f_X11_trace a w = some r ∧ f_X12_trace a w = some r := by
  obtain ⟨L, dn, um, nb, t, tp, o, hN, hS, hB, hL, hD, hP⟩ := id h
  exact B_trace hB a
theorem Rc_keep {w : Wd} (h : Rel w) (a1 a2 : Int32) : ∃ r w1 w2, f_X11_keep a1 a2 w = some (r, w1) ∧ f_X12_keep a1 a2 w1 = some (r, w2) ∧ Rel w2 := by
  obtain ⟨L, dn, um, nb, t, tp, o, hN, hS, hB, hL, hD, hP⟩ := id h
  obtain ⟨r, w1, w2, p1, p2, p3, p4⟩ := S_keep hS hB.2.1 hB.2.2.1 a1 a2
  have p5 := eqo_mono p4 S_S2
  exact ⟨r, w1, w2, p1, p2, L, dn, um, nb, t, tp, o, NR_e dS_N hN p5, p3, BR_e dS_B hB p5, LR_e dS_L hL p5, DR_e dS_D hD p5, PR_e dS_P hP p5⟩
theorem Rc_row {w : Wd} (h : Rel w) (a1 a2 a3 : Int32) : ∃ r w1 w2, f_X11_row a1 a2 a3 w = some (r, w1) ∧ f_X12_row a1 a2 a3 w1 = some (r, w2) ∧ Rel w2 := by
  obtain ⟨L, dn, um, nb, t, tp, o, hN, hS, hB, hL, hD, hP⟩ := id h
  obtain ⟨r, w1, w2, p1, p2, p3, p4⟩ := S_row hS a1 a2 a3
  have p5 := eqo_mono p4 S_S2
  exact ⟨r, w1, w2, p1, p2, L, dn, um, nb, t, tp, o, NR_e dS_N hN p5, p3, BR_e dS_B hB p5, LR_e dS_L hL p5, DR_e dS_D hD p5, PR_e dS_P hP p5⟩
theorem Rc_put {w : Wd} (h : Rel w) (a1 a2 : Int32) (v : Int64) : ∃ r w1 w2, f_X11_put a1 a2 v w = some (r, w1) ∧ f_X12_put a1 a2 v w1 = some (r, w2) ∧ Rel w2 := by
  obtain ⟨L, dn, um, nb, t, tp, o, hN, hS, hB, hL, hD, hP⟩ := id h
  obtain ⟨r, w1, w2, p1, p2, p3, p4⟩ := S_put hS a1 a2 v
  have p5 := eqo_mono p4 S_S2
  exact ⟨r, w1, w2, p1, p2, L, dn, um, nb, t, tp, o, NR_e dS_N hN p5, p3, BR_e dS_B hB p5, LR_e dS_L hL p5, DR_e dS_D hD p5, PR_e dS_P hP p5⟩
theorem Rc_element {w : Wd} (h : Rel w) (a1 a2 : Int32) : ∃ r, f_X11_element a1 a2 w = some r ∧ f_X12_element a1 a2 w = some r := by
  obtain ⟨L, dn, um, nb, t, tp, o, hN, hS, hB, hL, hD, hP⟩ := id h
  exact S_element hS a1 a2
theorem Rc_shift {w : Wd} (h : Rel w) (a1 a2 a3 a4 a5 : Int32) : ∃ r w1 w2, f_X11_shift a1 a2 a3 a4 a5 w = some (r, w1) ∧ f_X12_shift a1 a2 a3 a4 a5 w1 = some (r, w2) ∧ Rel w2 := by
  obtain ⟨L, dn, um, nb, t, tp, o, hN, hS, hB, hL, hD, hP⟩ := id h
  obtain ⟨r, w1, w2, p1, p2, p3, p5⟩ := S_shift hS a1 a2 a3 a4 a5
  exact ⟨r, w1, w2, p1, p2, L, dn, um, nb, t, tp, o, NR_e dS_N hN p5, p3, BR_e dS_B hB p5, LR_e dS_L hL p5, DR_e dS_D hD p5, PR_e dS_P hP p5⟩
theorem Rc_taken {w : Wd} (h : Rel w) (a1 a2 : Int32) : ∃ r, f_X11_taken a1 a2 w = some r ∧ f_X12_taken a1 a2 w = some r := by
  obtain ⟨L, dn, um, nb, t, tp, o, hN, hS, hB, hL, hD, hP⟩ := id h
  exact B_taken hB hS a1 a2
theorem Rc_count {w : Wd} (h : Rel w) (a : Int32) : ∃ r, f_X11_count a w = some r ∧ f_X12_count a w = some r := by
  obtain ⟨L, dn, um, nb, t, tp, o, hN, hS, hB, hL, hD, hP⟩ := id h
  exact T_count hN hB hL a
