/-! THE START -/
abbrev m_L : Mt := (yL_law, cL_law, 4, ret)
theorem cn_L_7 : Cond.classLink RL 7 RX11 ∈ tw := tw_in 112 (by decide +kernel) rfl
theorem cn_L_10 : Cond.classLink RL 10 RX12 ∈ tw := tw_in 1114 (by decide +kernel) rfl
theorem nl_L_9 : Cond.methodLink RL 9 yX11_init ∈ tw := tw_in 114 (by decide +kernel) rfl
theorem nl_L_12 : Cond.methodLink RL 12 yX12_init ∈ tw := tw_in 1116 (by decide +kernel) rfl
set_option maxRecDepth 20000 in
theorem s_new {X : Xt} {h b : Nat} {Z : Zt} (k : EI X m_L room_1 h Z 18 [(3, .int 0), (2, .ref (h + 54)), (1, .ref h), (0, .ref b)] [] (FF X h) 86 3394) : EI X m_L room_1 h Z 0 [(0, .ref b)] [] [] 0 0 := by
  refine i_new (nn := 0) (fs := [.null, .null, .null, .null, .null, .null, .null, .null, .null, .null, .null, .int 0, .null]) (es' := [.inr (11, [.null, .null, .null, .null, .null, .null, .null, .null, .null, .null, .null, .int 0, .null])]) Kc11 cn_L_7 in_X11 ti_X11 nw_X11 (by decide) (by decide) rfl rfl dL_law_0 ?_
  refine i_dup dL_law_3 rfl ?_
  refine i_call (nn := 0) (M2 := m_X11_init) (d2 := 3) (fs0 := [.null, .null, .null, .null, .null, .null, .null, .null, .null, .null, .null, .int 0, .null]) (F := FX11 X) (es0 := []) (es' := [oX11 h, oX6 (h + 1), arJ X 37 [(36, 4), (35, 100), (34, 1), (33, 5), (19, 10), (18, 1), (17, 1), (16, 1), (15, 1), (14, 10), (13, 1), (12, 1), (11, 1), (10, 1), (9, 10), (8, 1), (7, 1), (6, 1), (5, 1), (4, 10), (3, 1), (2, 1), (1, 1), (0, 1)], arI X 40, arI X 40, arI X 40, oX4 (h + 6), arI X 120, arI X 128, arI X 128, arI X 6, arI X 64, arR X 6 (va_up (va_up (va_up (va_up (va_up (va_up (fun _ => none) 0 (some (h + 42))) 1 (some (h + 44))) 2 (some (h + 46))) 3 (some (h + 48))) 4 (some (h + 50))) 5 (some (h + 52))), oX5 (h + 13), arI X 4, arI X 4, oX1 (h + 16), arL X 20, oX8 (h + 18), oX1 (h + 19), arL X 20, arI X 24, arI X 6, oX10 (h + 23), oX1 (h + 24), arL X 20, arI X 24, arI X 4, arI X 4, arI X 4, arI X 4, oX7 (h + 31), arI X 123, arI X 3, arI X 3, arI X 3, oX3 (h + 36), oX2 (h + 37), oX2 (h + 38), oX0 (h + 39), arI X 50, arI X 24, oX9 (h + 42), arL X 60, oX9 (h + 44), arL X 60, oX9 (h + 46), arL X 60, oX9 (h + 48), arL X 60, oX9 (h + 50), arL X 60, oX9 (h + 52), arL X 60]) (ci_X11 X) rfl nl_L_9 im_X11 ti_X11 cw_X11_init rfl ⟨by decide +kernel, by decide +kernel⟩ (by decide +kernel) ⟨by decide, by decide⟩ (by decide) (by decide) (Nat.le_of_ble_eq_true rfl) dL_law_4 rfl rfl rfl ?_
  refine i_astore_n (lv' := [(1, .ref h), (0, .ref b)]) dL_law_7 rfl (by decide) rfl ?_
  refine i_new (nn := 54) (fs := [.int 0, .null, .null, .int 0, .null, .null, .int 0, .int 0, .int 0, .int 0, .int 0, .int 0, .int 0, .null, .null, .null, .null, .null, .int 0, .int 0, .int 0, .int 0, .int 0, .null, .null, .null, .null, .null, .null, .null, .int 0, .null, .long 0, .long 0, .int 0, .null, .null, .null, .int 0, .null, .null, .null, .int 0, .long 0, .int 0, .null, .null, .int 0, .int 0, .null, .int 0, .null, .null, .null, .null, .null]) (es' := [oX11 h, oX6 (h + 1), arJ X 37 [(36, 4), (35, 100), (34, 1), (33, 5), (19, 10), (18, 1), (17, 1), (16, 1), (15, 1), (14, 10), (13, 1), (12, 1), (11, 1), (10, 1), (9, 10), (8, 1), (7, 1), (6, 1), (5, 1), (4, 10), (3, 1), (2, 1), (1, 1), (0, 1)], arI X 40, arI X 40, arI X 40, oX4 (h + 6), arI X 120, arI X 128, arI X 128, arI X 6, arI X 64, arR X 6 (va_up (va_up (va_up (va_up (va_up (va_up (fun _ => none) 0 (some (h + 42))) 1 (some (h + 44))) 2 (some (h + 46))) 3 (some (h + 48))) 4 (some (h + 50))) 5 (some (h + 52))), oX5 (h + 13), arI X 4, arI X 4, oX1 (h + 16), arL X 20, oX8 (h + 18), oX1 (h + 19), arL X 20, arI X 24, arI X 6, oX10 (h + 23), oX1 (h + 24), arL X 20, arI X 24, arI X 4, arI X 4, arI X 4, arI X 4, oX7 (h + 31), arI X 123, arI X 3, arI X 3, arI X 3, oX3 (h + 36), oX2 (h + 37), oX2 (h + 38), oX0 (h + 39), arI X 50, arI X 24, oX9 (h + 42), arL X 60, oX9 (h + 44), arL X 60, oX9 (h + 46), arL X 60, oX9 (h + 48), arL X 60, oX9 (h + 50), arL X 60, oX9 (h + 52), arL X 60, .inr (12, [.int 0, .null, .null, .int 0, .null, .null, .int 0, .int 0, .int 0, .int 0, .int 0, .int 0, .int 0, .null, .null, .null, .null, .null, .int 0, .int 0, .int 0, .int 0, .int 0, .null, .null, .null, .null, .null, .null, .null, .int 0, .null, .long 0, .long 0, .int 0, .null, .null, .null, .int 0, .null, .null, .null, .int 0, .long 0, .int 0, .null, .null, .int 0, .int 0, .null, .int 0, .null, .null, .null, .null, .null])]) Kc12 cn_L_10 in_X12 ti_X12 nw_X12 (by decide) (by decide) rfl rfl dL_law_8 ?_
  refine i_dup dL_law_11 rfl ?_
  refine i_call (nn := 54) (M2 := m_X12_init) (d2 := 1) (fs0 := [.int 0, .null, .null, .int 0, .null, .null, .int 0, .int 0, .int 0, .int 0, .int 0, .int 0, .int 0, .null, .null, .null, .null, .null, .int 0, .int 0, .int 0, .int 0, .int 0, .null, .null, .null, .null, .null, .null, .null, .int 0, .null, .long 0, .long 0, .int 0, .null, .null, .null, .int 0, .null, .null, .null, .int 0, .long 0, .int 0, .null, .null, .int 0, .int 0, .null, .int 0, .null, .null, .null, .null, .null]) (F := FX12 X) (es0 := [oX11 h, oX6 (h + 1), arJ X 37 [(36, 4), (35, 100), (34, 1), (33, 5), (19, 10), (18, 1), (17, 1), (16, 1), (15, 1), (14, 10), (13, 1), (12, 1), (11, 1), (10, 1), (9, 10), (8, 1), (7, 1), (6, 1), (5, 1), (4, 10), (3, 1), (2, 1), (1, 1), (0, 1)], arI X 40, arI X 40, arI X 40, oX4 (h + 6), arI X 120, arI X 128, arI X 128, arI X 6, arI X 64, arR X 6 (va_up (va_up (va_up (va_up (va_up (va_up (fun _ => none) 0 (some (h + 42))) 1 (some (h + 44))) 2 (some (h + 46))) 3 (some (h + 48))) 4 (some (h + 50))) 5 (some (h + 52))), oX5 (h + 13), arI X 4, arI X 4, oX1 (h + 16), arL X 20, oX8 (h + 18), oX1 (h + 19), arL X 20, arI X 24, arI X 6, oX10 (h + 23), oX1 (h + 24), arL X 20, arI X 24, arI X 4, arI X 4, arI X 4, arI X 4, oX7 (h + 31), arI X 123, arI X 3, arI X 3, arI X 3, oX3 (h + 36), oX2 (h + 37), oX2 (h + 38), oX0 (h + 39), arI X 50, arI X 24, oX9 (h + 42), arL X 60, oX9 (h + 44), arL X 60, oX9 (h + 46), arL X 60, oX9 (h + 48), arL X 60, oX9 (h + 50), arL X 60, oX9 (h + 52), arL X 60]) (es' := FF X h) (ci_X12 X) rfl nl_L_12 im_X12 ti_X12 cw_X12_init rfl ⟨by decide +kernel, by decide +kernel⟩ (by decide +kernel) ⟨by decide, by decide⟩ (by decide) (by decide) (Nat.le_of_ble_eq_true rfl) dL_law_12 rfl rfl rfl ?_
  refine i_astore_n (lv' := [(2, .ref (h + 54)), (1, .ref h), (0, .ref b)]) dL_law_15 rfl (by decide) rfl ?_
  refine i_iconst (v := 0) dL_law_16 (by decide) ?_
  refine i_istore_n (lv' := [(3, .int 0), (2, .ref (h + 54)), (1, .ref h), (0, .ref b)]) dL_law_17 rfl (by decide) rfl ?_
  exact k
/-- what of the start the law's loop needs, besides its own words -/
def cnd (X : Xt) (b L : Nat) (xs : Nat → Int32) (args : Array Value) (s : State) (h : Nat) : Prop := args = #[Value.ref b] ∧ va_X b L xs s s.heap ∧ b < s.heap.size ∧ En X s ∧ h = s.heap.size ∧ L ≤ 3072
def Zl (X : Xt) (b L : Nat) (xs : Nat → Int32) (h : Nat) : Zt := fun below args s t => cnd X b L xs args s h → lw_Z below args s t
theorem s_loop (l : Launch) (dC : Nat → ClassId) (dI : Nat → Nat → Nat) (h : Nat) (sa : Nat → Nat) (cs : Nat → ClassId) (b L : Nat) (xs : Nat → Int32) : EI (XX l dC dI h sa cs) m_L room_1 h (Zl (XX l dC dI h sa cs) b L xs h) 18 [(3, .int 0), (2, .ref (h + 54)), (1, .ref h), (0, .ref b)] [] (FF (XX l dC dI h sa cs) h) 86 3394 := by
  intro p e s m args below meth c H locs ls C hz hP hS hl
  by_cases hc : cnd (XX l dC dI h sa cs) b L xs args s h
  · obtain ⟨rfl, hX, hbl, hE, hh, hL⟩ := id hc
    have hge : ∀ k, k < NC → s.heap.size ≤ xa (XX l dC dI h sa cs) k := by
      intro k hk
      rw [show xa (XX l dC dI h sa cs) k = h + k from if_pos hk]
      omega
    have hS1 : va_S (AX (XX l dC dI h sa cs)) s.heap H [] := ⟨hS.1, fun q g1 g2 => hS.2.1 q g1 (show ¬ h ≤ q by omega), fun q hq => by cases hq⟩
    have hw := L_loop hL (L + 1) 0 w0 (Nat.zero_le _) (by omega) Rel_w0 (X := XX l dC dI h sa cs) (b := b) (xs := xs) p e s m below meth c H [] ls ⟨C.1, C.2.1, C.2.2.1, C.2.2.2.1, C.2.2.2.2.1, C.2.2.2.2.2.1, hX, hbl, C.2.2.2.2.2.2.1, hE, w0_ok l dC dI h sa cs, hge, hL⟩ (w0_P l dC dI h sa cs hP) hS1 (lv_sub hl [3, 2, 1, 0] rfl)
    have hw2 : W p l e room_1 s m #[Value.ref b] below meth c H locs 86 3394 (lw_Z below #[Value.ref b] s) (F0 m 18 ls []) := va_forget (fun q hq => by have : h ≤ q.base := hS.2.2 q hq; omega) (W.widen (by decide) (by decide) hw)
    intro T hT X0
    obtain ⟨t, a1, a2⟩ := hw2 T hT X0
    exact ⟨t, a1, fun _ => a2⟩
  · intro T hT X0
    exact ⟨_, Steps.refl _, fun q => absurd q hc⟩
theorem va_Z_le {C n d : String} {v : Value} {A A' : Nat → Prop} {U : State} {H : Heap} (h : va_Z C n d v A U H) (hA : ∀ q, A' q → A q) : va_Z C n d v A' U H := by
  obtain ⟨a1, a2, a3, a4, a5, a6, a7, a8, a9, a10, a11, a12, a13, a14⟩ := h
  exact ⟨a1, a2, a3, a4, a5, a6, a7, a8, a9, a10, a11, a12, a13, fun q => a14 (hA _ q)⟩
theorem va_T_le {ty : FieldType} {t N : Nat} {f : Nat → Value} {A A' : Nat → Prop} {U : State} {H : Heap} (h : va_T ty t N f A U H) (hA : ∀ q, A' q → A q) : va_T ty t N f A' U H := by
  obtain ⟨a1, a2, a3, a4, a5, a6, a7, a8⟩ := h
  exact ⟨a1, a2, a3, a4, a5, a6, a7, fun q => a8 (hA _ q)⟩
set_option maxRecDepth 20000 in
theorem sv_0 {b : Nat} {s : State} (hts : ∀ w ∈ lw_tbl, w.before #[Value.ref b] s = true) (hg : (Jvm.Cond.and given_1 narrow_1).before #[Value.ref b] s = true) : ∃ t : Nat, va_Z "StoneInLentils$Numbers" "LEAST" "[I" (.ref t) (fun q => s.heap.size ≤ q) s s.heap ∧ va_T .int t 12 (fun j => .int (tb0 j)) (fun q => s.heap.size ≤ q) s s.heap := by
  have hs := flat_of_before _ hg
  have hm : ∀ j, j < 12 → Cond.eq (Term.elem (Term.static "StoneInLentils$Numbers" "LEAST" "[I") (.int (Int32.ofNat j))) (.int (tb0 j)) ∈ flatC (Jvm.Cond.and given_1 narrow_1) := by decide +kernel
  have hA : ∀ a : Nat, a < s.heap.size → ¬ (fun q => s.heap.size ≤ q) a := fun a h => Nat.not_le.mpr h
  obtain ⟨t, ht, hT⟩ := va_Tof (tm := (Term.static "StoneInLentils$Numbers" "LEAST" "[I")) (ty := .int) (N := 12) (f := fun j => .int (tb0 j)) (A := fun q => s.heap.size ≤ q) (by decide) (hs _ (by decide +kernel)) (va_eqt (z := Int32.ofNat 12) (hs _ (by decide +kernel))) (fun j hj => va_eqt (hs _ (hm j hj))) hA
  exact ⟨t, va_Zof (hts _ (List.mem_of_getElem? (i := 472) (by decide +kernel))) (tw_hts hts _ ti_X6) ht hA, hT⟩
set_option maxRecDepth 20000 in
theorem sv_1 {b : Nat} {s : State} (hts : ∀ w ∈ lw_tbl, w.before #[Value.ref b] s = true) (hg : (Jvm.Cond.and given_1 narrow_1).before #[Value.ref b] s = true) : ∃ t : Nat, va_Z "StoneInLentils$Numbers" "GREATEST" "[I" (.ref t) (fun q => s.heap.size ≤ q) s s.heap ∧ va_T .int t 12 (fun j => .int (tb1 j)) (fun q => s.heap.size ≤ q) s s.heap := by
  have hs := flat_of_before _ hg
  have hm : ∀ j, j < 12 → Cond.eq (Term.elem (Term.static "StoneInLentils$Numbers" "GREATEST" "[I") (.int (Int32.ofNat j))) (.int (tb1 j)) ∈ flatC (Jvm.Cond.and given_1 narrow_1) := by decide +kernel
  have hA : ∀ a : Nat, a < s.heap.size → ¬ (fun q => s.heap.size ≤ q) a := fun a h => Nat.not_le.mpr h
  obtain ⟨t, ht, hT⟩ := va_Tof (tm := (Term.static "StoneInLentils$Numbers" "GREATEST" "[I")) (ty := .int) (N := 12) (f := fun j => .int (tb1 j)) (A := fun q => s.heap.size ≤ q) (by decide) (hs _ (by decide +kernel)) (va_eqt (z := Int32.ofNat 12) (hs _ (by decide +kernel))) (fun j hj => va_eqt (hs _ (hm j hj))) hA
  exact ⟨t, va_Zof (hts _ (List.mem_of_getElem? (i := 474) (by decide +kernel))) (tw_hts hts _ ti_X6) ht hA, hT⟩
set_option maxRecDepth 20000 in
theorem sv_2 {b : Nat} {s : State} (hts : ∀ w ∈ lw_tbl, w.before #[Value.ref b] s = true) (hg : (Jvm.Cond.and given_1 narrow_1).before #[Value.ref b] s = true) : ∃ t : Nat, va_Z "StoneInLentils$Chances" "CHOOSE" "[I" (.ref t) (fun q => s.heap.size ≤ q) s s.heap ∧ va_T .int t 16 (fun j => .int (tb2 j)) (fun q => s.heap.size ≤ q) s s.heap := by
  have hs := flat_of_before _ hg
  have hm : ∀ j, j < 16 → Cond.eq (Term.elem (Term.static "StoneInLentils$Chances" "CHOOSE" "[I") (.int (Int32.ofNat j))) (.int (tb2 j)) ∈ flatC (Jvm.Cond.and given_1 narrow_1) := by decide +kernel
  have hA : ∀ a : Nat, a < s.heap.size → ¬ (fun q => s.heap.size ≤ q) a := fun a h => Nat.not_le.mpr h
  obtain ⟨t, ht, hT⟩ := va_Tof (tm := (Term.static "StoneInLentils$Chances" "CHOOSE" "[I")) (ty := .int) (N := 16) (f := fun j => .int (tb2 j)) (A := fun q => s.heap.size ≤ q) (by decide) (hs _ (by decide +kernel)) (va_eqt (z := Int32.ofNat 16) (hs _ (by decide +kernel))) (fun j hj => va_eqt (hs _ (hm j hj))) hA
  exact ⟨t, va_Zof (hts _ (List.mem_of_getElem? (i := 706) (by decide +kernel))) (tw_hts hts _ ti_X1) ht hA, hT⟩
set_option maxRecDepth 20000 in
theorem sv_3 {b : Nat} {s : State} (hts : ∀ w ∈ lw_tbl, w.before #[Value.ref b] s = true) (hg : (Jvm.Cond.and given_1 narrow_1).before #[Value.ref b] s = true) : ∃ t : Nat, va_Z "StoneInLentils$Planner" "CUBES" "[J" (.ref t) (fun q => s.heap.size ≤ q) s s.heap ∧ va_T .long t 4 (fun j => .long (tb3 j)) (fun q => s.heap.size ≤ q) s s.heap := by
  have hs := flat_of_before _ hg
  have hm : ∀ j, j < 4 → Cond.eq (Term.elem (Term.static "StoneInLentils$Planner" "CUBES" "[J") (.int (Int32.ofNat j))) (.long (tb3 j)) ∈ flatC (Jvm.Cond.and given_1 narrow_1) := by decide +kernel
  have hA : ∀ a : Nat, a < s.heap.size → ¬ (fun q => s.heap.size ≤ q) a := fun a h => Nat.not_le.mpr h
  obtain ⟨t, ht, hT⟩ := va_Tof (tm := (Term.static "StoneInLentils$Planner" "CUBES" "[J")) (ty := .long) (N := 4) (f := fun j => .long (tb3 j)) (A := fun q => s.heap.size ≤ q) (by decide) (hs _ (by decide +kernel)) (va_eqt (z := Int32.ofNat 4) (hs _ (by decide +kernel))) (fun j hj => va_eqtl (hs _ (hm j hj))) hA
  exact ⟨t, va_Zof (hts _ (List.mem_of_getElem? (i := 784) (by decide +kernel))) (tw_hts hts _ ti_X8) ht hA, hT⟩
set_option maxRecDepth 20000 in
theorem sv_4 {b : Nat} {s : State} (hts : ∀ w ∈ lw_tbl, w.before #[Value.ref b] s = true) (hg : (Jvm.Cond.and given_1 narrow_1).before #[Value.ref b] s = true) : ∃ t : Nat, va_Z "StoneInLentils$Bodies" "ABOVE" "[I" (.ref t) (fun q => s.heap.size ≤ q) s s.heap ∧ va_T .int t 8 (fun j => .int (tb4 j)) (fun q => s.heap.size ≤ q) s s.heap := by
  have hs := flat_of_before _ hg
  have hm : ∀ j, j < 8 → Cond.eq (Term.elem (Term.static "StoneInLentils$Bodies" "ABOVE" "[I") (.int (Int32.ofNat j))) (.int (tb4 j)) ∈ flatC (Jvm.Cond.and given_1 narrow_1) := by decide +kernel
  have hA : ∀ a : Nat, a < s.heap.size → ¬ (fun q => s.heap.size ≤ q) a := fun a h => Nat.not_le.mpr h
  obtain ⟨t, ht, hT⟩ := va_Tof (tm := (Term.static "StoneInLentils$Bodies" "ABOVE" "[I")) (ty := .int) (N := 8) (f := fun j => .int (tb4 j)) (A := fun q => s.heap.size ≤ q) (by decide) (hs _ (by decide +kernel)) (va_eqt (z := Int32.ofNat 8) (hs _ (by decide +kernel))) (fun j hj => va_eqt (hs _ (hm j hj))) hA
  exact ⟨t, va_Zof (hts _ (List.mem_of_getElem? (i := 1031) (by decide +kernel))) (tw_hts hts _ ti_X0) ht hA, hT⟩
set_option maxRecDepth 20000 in
theorem sv_5 {b : Nat} {s : State} (hts : ∀ w ∈ lw_tbl, w.before #[Value.ref b] s = true) (hg : (Jvm.Cond.and given_1 narrow_1).before #[Value.ref b] s = true) : ∃ t : Nat, va_Z "StoneInLentils$Bodies" "OWN" "[I" (.ref t) (fun q => s.heap.size ≤ q) s s.heap ∧ va_T .int t 32 (fun j => .int (tb5 j)) (fun q => s.heap.size ≤ q) s s.heap := by
  have hs := flat_of_before _ hg
  have hm : ∀ j, j < 32 → Cond.eq (Term.elem (Term.static "StoneInLentils$Bodies" "OWN" "[I") (.int (Int32.ofNat j))) (.int (tb5 j)) ∈ flatC (Jvm.Cond.and given_1 narrow_1) := by decide +kernel
  have hA : ∀ a : Nat, a < s.heap.size → ¬ (fun q => s.heap.size ≤ q) a := fun a h => Nat.not_le.mpr h
  obtain ⟨t, ht, hT⟩ := va_Tof (tm := (Term.static "StoneInLentils$Bodies" "OWN" "[I")) (ty := .int) (N := 32) (f := fun j => .int (tb5 j)) (A := fun q => s.heap.size ≤ q) (by decide) (hs _ (by decide +kernel)) (va_eqt (z := Int32.ofNat 32) (hs _ (by decide +kernel))) (fun j hj => va_eqt (hs _ (hm j hj))) hA
  exact ⟨t, va_Zof (hts _ (List.mem_of_getElem? (i := 1029) (by decide +kernel))) (tw_hts hts _ ti_X0) ht hA, hT⟩
theorem s_nst {b : Nat} {s : State} (hts : ∀ w ∈ lw_tbl, w.before #[Value.ref b] s = true) : Nst s := va_Nw.of rfl (hts _ (List.mem_of_getElem? (i := 519) (by decide +kernel)))
theorem s_nsi {b : Nat} {s : State} (hts : ∀ w ∈ lw_tbl, w.before #[Value.ref b] s = true) : Nsi s := by
  intro q hq
  refine va_Nw.of rfl (hts _ ?_)
  rcases (show q = ("StoneInLentils", 18, yX4_init, "StoneInLentils") ∨ q = ("StoneInLentils", 31, yX5_init, "StoneInLentils") ∨ q = ("StoneInLentils", 38, yX1_init, "StoneInLentils") ∨ q = ("StoneInLentils", 45, yX8_init, "StoneInLentils") ∨ q = ("StoneInLentils$Planner", 11, yX1_init, "StoneInLentils") ∨ q = ("StoneInLentils", 52, yX10_init, "StoneInLentils") ∨ q = ("StoneInLentils$Witness", 11, yX1_init, "StoneInLentils") ∨ q = ("StoneInLentils", 59, yX7_init, "StoneInLentils") ∨ q = ("StoneInLentils", 66, yX3_init, "StoneInLentils") ∨ q = ("StoneInLentils", 73, yX2_init, "StoneInLentils") ∨ q = ("StoneInLentils", 87, yX0_init, "StoneInLentils") ∨ q = ("StoneInLentils", 92, yX9_init, "StoneInLentils") by simpa [nsiL] using hq) with rfl | rfl | rfl | rfl | rfl | rfl | rfl | rfl | rfl | rfl | rfl | rfl
  · exact List.mem_of_getElem? (i := 154) (by decide +kernel)
  · exact List.mem_of_getElem? (i := 194) (by decide +kernel)
  · exact List.mem_of_getElem? (i := 211) (by decide +kernel)
  · exact List.mem_of_getElem? (i := 222) (by decide +kernel)
  · exact List.mem_of_getElem? (i := 227) (by decide +kernel)
  · exact List.mem_of_getElem? (i := 255) (by decide +kernel)
  · exact List.mem_of_getElem? (i := 260) (by decide +kernel)
  · exact List.mem_of_getElem? (i := 297) (by decide +kernel)
  · exact List.mem_of_getElem? (i := 324) (by decide +kernel)
  · exact List.mem_of_getElem? (i := 335) (by decide +kernel)
  · exact List.mem_of_getElem? (i := 378) (by decide +kernel)
  · exact List.mem_of_getElem? (i := 401) (by decide +kernel)
theorem s_kn {args : Array Value} {s : State} (htw : ∀ w ∈ tw, w.before args s = true) : ∀ k : Nat, ∃ (cC : ClassId) (iS : Nat → Nat), ∀ q : vw_C, vwCl[k]? = some q → u_Kn s q.1 q.2.1 q.2.2 cC iS
  | 0 => by obtain ⟨a, b, h⟩ := u_known htw Kc0.2.2.1 (htw _ in_X0); exact ⟨a, b, fun q hq => by cases hq; exact h⟩
  | 1 => by obtain ⟨a, b, h⟩ := u_known htw Kc1.2.2.1 (htw _ in_X1); exact ⟨a, b, fun q hq => by cases hq; exact h⟩
  | 2 => by obtain ⟨a, b, h⟩ := u_known htw Kc2.2.2.1 (htw _ in_X2); exact ⟨a, b, fun q hq => by cases hq; exact h⟩
  | 3 => by obtain ⟨a, b, h⟩ := u_known htw Kc3.2.2.1 (htw _ in_X3); exact ⟨a, b, fun q hq => by cases hq; exact h⟩
  | 4 => by obtain ⟨a, b, h⟩ := u_known htw Kc4.2.2.1 (htw _ in_X4); exact ⟨a, b, fun q hq => by cases hq; exact h⟩
  | 5 => by obtain ⟨a, b, h⟩ := u_known htw Kc5.2.2.1 (htw _ in_X5); exact ⟨a, b, fun q hq => by cases hq; exact h⟩
  | 6 => by obtain ⟨a, b, h⟩ := u_known htw Kc6.2.2.1 (htw _ in_X6); exact ⟨a, b, fun q hq => by cases hq; exact h⟩
  | 7 => by obtain ⟨a, b, h⟩ := u_known htw Kc7.2.2.1 (htw _ in_X7); exact ⟨a, b, fun q hq => by cases hq; exact h⟩
  | 8 => by obtain ⟨a, b, h⟩ := u_known htw Kc8.2.2.1 (htw _ in_X8); exact ⟨a, b, fun q hq => by cases hq; exact h⟩
  | 9 => by obtain ⟨a, b, h⟩ := u_known htw Kc9.2.2.1 (htw _ in_X9); exact ⟨a, b, fun q hq => by cases hq; exact h⟩
  | 10 => by obtain ⟨a, b, h⟩ := u_known htw Kc10.2.2.1 (htw _ in_X10); exact ⟨a, b, fun q hq => by cases hq; exact h⟩
  | 11 => by obtain ⟨a, b, h⟩ := u_known htw Kc11.2.2.1 (htw _ in_X11); exact ⟨a, b, fun q hq => by cases hq; exact h⟩
  | 12 => by obtain ⟨a, b, h⟩ := u_known htw Kc12.2.2.1 (htw _ in_X12); exact ⟨a, b, fun q hq => by cases hq; exact h⟩
  | n + 13 => ⟨0, fun _ => 0, fun q hq => by simp [vwCl] at hq⟩
theorem s_ar {args : Array Value} {s : State} {ty : FieldType} (h : (Cond.arrayClass ty).before args s = true) (hra : ∀ (U : State) (cA : ClassId), va_RA U cA ty = (U.vm.findClass ("[" ++ ty.toString) = some cA)) : ∃ cA : ClassId, ArrOfT s cA ty ∧ va_RA s cA ty := by
  obtain ⟨c, k, comp, h1, h2, h3⟩ := Cond.arrayClass_spec h
  exact ⟨c, fun n z => ⟨fun k h => (by cases h), k, h2, comp, h3⟩, by rw [hra]; exact h1⟩
theorem s_ao {args : Array Value} {s : State} {C : String} (h : (Cond.arrayOver (.object C)).before args s = true) : ∃ cA : ClassId, ArrOfT s cA (.object C) ∧ va_RA s cA (.object C) := by
  obtain ⟨comp, c, k, h1, -, h2, h3, h4⟩ := Cond.arrayOver_spec h
  exact ⟨c, fun n z => ⟨fun k h => (by cases h), k, h2, comp, h3⟩, k, comp, h2, h3, h1, h4⟩
theorem whole_start {p : Program} {e : Env} {s : State} {m : MethodId} {below : List Frame} {meth : Method} {c : Code} (l : Launch) (hflags : l.flags = flags0) {b L : Nat} {xs : Nat → Int32} (hL : L ≤ 3072) (C0 : lw_At p s m meth c b L xs) : W p l e room_1 s m #[Value.ref b] below meth c s.heap [] 0 0 (lw_Z below #[Value.ref b] s) (entryFrame m ([Value.ref b] : List Value).toArray 4) := by
  obtain ⟨hx, hb, hr, hml, hown, hts, hX, hbl, hlocks, hgv⟩ := id C0
  have htw := tw_hts hts
  obtain ⟨dC, h1⟩ := Classical.axiomOfChoice (s_kn htw)
  obtain ⟨dI, hKn⟩ := Classical.axiomOfChoice h1
  obtain ⟨c0, hc0⟩ := s_ar (htw _ ac_int) (fun _ _ => rfl)
  obtain ⟨c1, hc1⟩ := s_ar (htw _ ac_byte) (fun _ _ => rfl)
  obtain ⟨c2, hc2⟩ := s_ar (htw _ ac_short) (fun _ _ => rfl)
  obtain ⟨c3, hc3⟩ := s_ar (htw _ ac_long) (fun _ _ => rfl)
  have hao : (Cond.arrayOver (.object "StoneInLentils$Shelf")).before #[Value.ref b] s = true := hts _ (List.mem_of_getElem? (i := 191) (by decide +kernel))
  obtain ⟨c4, hc4⟩ := s_ao hao
  obtain ⟨t0, z0, y0⟩ := sv_0 hts hgv
  obtain ⟨t1, z1, y1⟩ := sv_1 hts hgv
  obtain ⟨t2, z2, y2⟩ := sv_2 hts hgv
  obtain ⟨t3, z3, y3⟩ := sv_3 hts hgv
  obtain ⟨t4, z4, y4⟩ := sv_4 hts hgv
  obtain ⟨t5, z5, y5⟩ := sv_5 hts hgv
  obtain ⟨sa, hsa⟩ : ∃ sa : Nat → Nat, sa 100 = t0 ∧ sa 101 = t1 ∧ sa 102 = t2 ∧ sa 103 = t3 ∧ sa 104 = t4 ∧ sa 105 = t5 := ⟨fun k => if k = 100 then t0 else if k = 101 then t1 else if k = 102 then t2 else if k = 103 then t3 else if k = 104 then t4 else t5, rfl, rfl, rfl, rfl, rfl, rfl⟩
  obtain ⟨cs, hcs⟩ : ∃ cs : Nat → ClassId, cs 0 = c0 ∧ cs 1 = c1 ∧ cs 2 = c2 ∧ cs 3 = c3 ∧ cs 4 = c4 := ⟨fun k => if k = 0 then c0 else if k = 1 then c1 else if k = 2 then c2 else if k = 3 then c3 else c4, rfl, rfl, rfl, rfl, rfl⟩
  obtain ⟨rfl, rfl, rfl, rfl, rfl, rfl⟩ := hsa
  obtain ⟨rfl, rfl, rfl, rfl, rfl⟩ := hcs
  have hK : va_K (xD (XX l dC dI s.heap.size sa cs)) vwCl (xt (XX l dC dI s.heap.size sa cs)) s := by
    refine ⟨fun k q hq => hKn k q hq, fun k q hq => ?_⟩
    match k, hq with
    | 0, hq => cases hq; exact hc0
    | 1, hq => cases hq; exact hc1
    | 2, hq => cases hq; exact hc2
    | 3, hq => cases hq; exact hc3
    | 4, hq => cases hq; exact hc4
    | n + 5, hq => cases hq
  have hAX : ∀ q, AX (XX l dC dI s.heap.size sa cs) q → s.heap.size ≤ q := by
    rintro q ⟨k, h1, h2⟩
    rw [h2, show xa (XX l dC dI s.heap.size sa cs) k = s.heap.size + k from if_pos h1]
    omega
  have hE : En (XX l dC dI s.heap.size sa cs) s := ⟨hK, ⟨⟨va_Z_le z0 hAX, va_T_le y0 hAX⟩, ⟨va_Z_le z1 hAX, va_T_le y1 hAX⟩, ⟨va_Z_le z2 hAX, va_T_le y2 hAX⟩, ⟨va_Z_le z3 hAX, va_T_le y3 hAX⟩, ⟨va_Z_le z4 hAX, va_T_le y4 hAX⟩, ⟨va_Z_le z5 hAX, va_T_le y5 hAX⟩⟩, s_nst hts⟩
  have hP0 : va_P (xD (XX l dC dI s.heap.size sa cs)) vwCl (wz s.heap.size []) s.heap := fun k q hq => by rw [wz_get] at hq; cases hq
  have hw := s_new (s_loop l dC dI s.heap.size sa cs b L xs) p e s m #[Value.ref b] below meth c s.heap [] (lg_sl [Value.ref b] ++ List.replicate (4 - (lg_sl [Value.ref b]).length) Slot.unset).toArray ⟨hx, hb, hr, hml, hown, htw, hlocks, fun q => absurd q (by decide +kernel), hK, s_nsi hts, va_AO.of hao⟩ rfl hP0 va_S.rf (lv_entry [Value.ref b] (Nat.le_of_ble_eq_true rfl))
  rw [lg_entry_eq]
  intro T hT X0
  obtain ⟨t, a1, a2⟩ := hw T hT X0
  exact ⟨t, a1, a2 ⟨rfl, hX, hbl, hE, rfl, hL⟩⟩
