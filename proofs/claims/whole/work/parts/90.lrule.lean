/-! THE LAW'S OWN BODY: its rules -/
def LC (X : Xt) (b L : Nat) (xs : Nat → Int32) (p : Program) (s : State) (m : MethodId) (meth : Method) (c : Code) : Prop :=
  p.tables.exec = Jvm.exec ∧ c.code = cL_law ∧ meth.sig.returnType = ret ∧ c.maxLocals = 4 ∧ s.vm.findClass RL = some m.cls ∧ (∀ w ∈ tw, w.before #[Value.ref b] s = true) ∧ va_X b L xs s s.heap ∧ b < s.heap.size ∧ meth.locks = false ∧ En X s ∧ Xok X ∧ (∀ k, k < NC → s.heap.size ≤ xa X k) ∧ L ≤ 3072
def LW (X : Xt) (b L : Nat) (xs : Nat → Int32) (pc : Nat) (lv : List (Nat × Value)) (st : List Value) (w : Wd) : Prop :=
  ∀ (p : Program) (e : Env) (s : State) (m : MethodId) (below : List Frame) (meth : Method) (c : Code) (H : Heap) (locs : List Loc) (ls : Array Slot),
    LC X b L xs p s m meth c → va_P (xD X) vwCl (cells X w) H → va_S (AX X) s.heap H locs → lv_has ls 4 lv →
    W p X.1 e room_1 s m #[Value.ref b] below meth c H locs 600000 7302250 (lw_Z below #[Value.ref b] s) (F0 m pc ls st)
abbrev lvI (X : Xt) (b i : Nat) : List (Nat × Value) := [(0, .ref b), (1, .ref (xa X 0)), (2, .ref (xa X 54)), (3, .int (nI i))]
section LR1
variable {X : Xt} {b L : Nat} {xs : Nat → Int32} {pc : Nat} {lv : List (Nat × Value)} {st : List Value} {w : Wd} {i : Nat}
theorem LC_b {p : Program} {s : State} {m : MethodId} {meth : Method} {c : Code} (C : LC X b L xs p s m meth c) : ¬ AX X b := by
  rintro ⟨k, h1, h2⟩
  have h3 := C.2.2.2.2.2.2.2.1
  have h4 := C.2.2.2.2.2.2.2.2.2.2.2.1 k h1
  omega
theorem L_ald0 (hd : decode cL_law pc = .ok (.aload_n 0, 1)) (k : LW X b L xs (pc + 1) (lvI X b i) (.ref b :: st) w) : LW X b L xs pc (lvI X b i) st w :=
  fun p e s m below meth c H locs ls C hP hS hl => lv_aload_n C.1 C.2.1 hd rfl (lv_at hl 0 rfl) (k p e s m below meth c H locs ls C hP hS hl)
theorem L_ald1 (_ : 0 < 1) (hd : decode cL_law pc = .ok (.aload_n 1, 1)) (k : LW X b L xs (pc + 1) (lvI X b i) (.ref (xa X 0) :: st) w) : LW X b L xs pc (lvI X b i) st w :=
  fun p e s m below meth c H locs ls C hP hS hl => lv_aload_n C.1 C.2.1 hd rfl (lv_at hl 1 rfl) (k p e s m below meth c H locs ls C hP hS hl)
theorem L_ald2 (_ : 0 < 1) (hd : decode cL_law pc = .ok (.aload_n 2, 1)) (k : LW X b L xs (pc + 1) (lvI X b i) (.ref (xa X 54) :: st) w) : LW X b L xs pc (lvI X b i) st w :=
  fun p e s m below meth c H locs ls C hP hS hl => lv_aload_n C.1 C.2.1 hd rfl (lv_at hl 2 rfl) (k p e s m below meth c H locs ls C hP hS hl)
theorem L_ild3 (hd : decode cL_law pc = .ok (.iload_n 3, 1)) (k : LW X b L xs (pc + 1) (lvI X b i) (.int (nI i) :: st) w) : LW X b L xs pc (lvI X b i) st w :=
  fun p e s m below meth c H locs ls C hP hS hl => lv_iload_n C.1 C.2.1 hd rfl (lv_at hl 3 rfl) (k p e s m below meth c H locs ls C hP hS hl)
theorem L_len (hd : decode cL_law pc = .ok (.arraylength, 1)) (k : LW X b L xs (pc + 1) lv (.int (nI L) :: st) w) : LW X b L xs pc lv (.ref b :: st) w :=
  fun p e s m below meth c H locs ls C hP hS hl => va_slen C.1 C.2.1 C.2.2.2.2.2.2.1 C.2.2.2.2.2.2.2.1 (LC_b C) hS hd (k p e s m below meth c H locs ls C hP hS hl)
theorem L_sld {j : Nat} (hj : j < L) (hd : decode cL_law pc = .ok (.iaload, 1)) (k : LW X b L xs (pc + 1) lv (.int (xs j) :: st) w) : LW X b L xs pc lv (.int (nI j) :: .ref b :: st) w := by
  intro p e s m below meth c H locs ls C hP hS hl
  have hL := C.2.2.2.2.2.2.2.2.2.2.2.2
  refine va_sld C.1 C.2.1 C.2.2.2.2.2.2.1 C.2.2.2.2.2.2.2.1 (LC_b C) hS (vp_in_nI hj (by omega)) hd ?_
  rw [show (nI j).toNatClampNeg = j from ix_nI (by omega)]
  exact k p e s m below meth c H locs ls C hP hS hl
theorem L_iconst {n : Int} {v : Int32} (hd : decode cL_law pc = .ok (.iconst n, 1)) (hv : Int32.ofInt n = v) (k : LW X b L xs (pc + 1) lv (.int v :: st) w) : LW X b L xs pc lv st w :=
  fun p e s m below meth c H locs ls C hP hS hl => lv_iconst C.1 C.2.1 hd hv (k p e s m below meth c H locs ls C hP hS hl)
theorem L_bip {n : Int} {v : Int32} (hd : decode cL_law pc = .ok (.bipush n, 2)) (hv : (Int8.ofInt n).toInt32 = v) (k : LW X b L xs (pc + 2) lv (.int v :: st) w) : LW X b L xs pc lv st w :=
  fun p e s m below meth c H locs ls C hP hS hl => lv_bipush C.1 C.2.1 hd hv (k p e s m below meth c H locs ls C hP hS hl)
theorem L_iadd {x y : Int32} (hd : decode cL_law pc = .ok (.iadd, 1)) (k : LW X b L xs (pc + 1) lv (.int (x + y) :: st) w) : LW X b L xs pc lv (.int y :: .int x :: st) w :=
  fun p e s m below meth c H locs ls C hP hS hl => lv_iadd C.1 C.2.1 hd (k p e s m below meth c H locs ls C hP hS hl)
theorem L_isub {x y : Int32} (hd : decode cL_law pc = .ok (.isub, 1)) (k : LW X b L xs (pc + 1) lv (.int (x - y) :: st) w) : LW X b L xs pc lv (.int y :: .int x :: st) w :=
  fun p e s m below meth c H locs ls C hP hS hl => lv_isub C.1 C.2.1 hd (k p e s m below meth c H locs ls C hP hS hl)
theorem L_iand {x y : Int32} (hd : decode cL_law pc = .ok (.iand, 1)) (k : LW X b L xs (pc + 1) lv (.int (x &&& y) :: st) w) : LW X b L xs pc lv (.int y :: .int x :: st) w :=
  fun p e s m below meth c H locs ls C hP hS hl => lv_iand C.1 C.2.1 hd (k p e s m below meth c H locs ls C hP hS hl)
theorem L_i2l {x : Int32} (hd : decode cL_law pc = .ok (.i2l, 1)) (k : LW X b L xs (pc + 1) lv (.long x.toInt64 :: st) w) : LW X b L xs pc lv (.int x :: st) w :=
  fun p e s m below meth c H locs ls C hP hS hl => lv_i2l C.1 C.2.1 hd rfl (k p e s m below meth c H locs ls C hP hS hl)
theorem L_lshl {x : Int64} {y : Int32} (hd : decode cL_law pc = .ok (.lshl, 1)) (k : LW X b L xs (pc + 1) lv (.long (lshl x y) :: st) w) : LW X b L xs pc lv (.int y :: .long x :: st) w :=
  fun p e s m below meth c H locs ls C hP hS hl => lv_lshl C.1 C.2.1 hd rfl (k p e s m below meth c H locs ls C hP hS hl)
theorem L_land {x y : Int64} (hd : decode cL_law pc = .ok (.land, 1)) (k : LW X b L xs (pc + 1) lv (.long (x &&& y) :: st) w) : LW X b L xs pc lv (.long y :: .long x :: st) w :=
  fun p e s m below meth c H locs ls C hP hS hl => lv_land C.1 C.2.1 hd (k p e s m below meth c H locs ls C hP hS hl)
theorem L_lor {x y : Int64} (hd : decode cL_law pc = .ok (.lor, 1)) (k : LW X b L xs (pc + 1) lv (.long (x ||| y) :: st) w) : LW X b L xs pc lv (.long y :: .long x :: st) w :=
  fun p e s m below meth c H locs ls C hP hS hl => lv_lor C.1 C.2.1 hd (k p e s m below meth c H locs ls C hP hS hl)
theorem L_ldc2 {idx : Nat} {v : Int64} (hd : decode cL_law pc = .ok (.ldc2_w idx, 3)) (hc : Cond.constantLong RL idx v ∈ tw) (k : LW X b L xs (pc + 3) lv (.long v :: st) w) : LW X b L xs pc lv st w :=
  fun p e s m below meth c H locs ls C hP hS hl => lv_ldc2 C.1 C.2.1 C.2.2.2.2.1 (C.2.2.2.2.2.1 _ hc) hd (k p e s m below meth c H locs ls C hP hS hl)
theorem L_arg (hi : i + 6 ≤ L) {j : Nat} (hj : j < 6) (h0 : decode cL_law pc = .ok (.aload_n 0, 1)) (h1 : decode cL_law (pc + 1) = .ok (.iload_n 3, 1)) (h2 : decode cL_law (pc + 2) = .ok (.iconst (j : Int), 1)) (h3 : decode cL_law (pc + 3) = .ok (.iadd, 1)) (h4 : decode cL_law (pc + 4) = .ok (.iaload, 1)) (k : LW X b L xs (pc + 5) (lvI X b i) (.int (xs (i + j)) :: st) w) : LW X b L xs pc (lvI X b i) st w := by
  refine L_ald0 h0 (L_ild3 h1 (L_iconst (v := nI j) h2 ?_ (L_iadd h3 ?_)))
  · rcases (show j = 0 ∨ j = 1 ∨ j = 2 ∨ j = 3 ∨ j = 4 ∨ j = 5 by omega) with rfl | rfl | rfl | rfl | rfl | rfl <;> decide
  · rw [nI_add]
    exact L_sld (by omega) h4 k
theorem L_tabOut {x : Int32} {dflt lo hi : Int} {offs : Array Int} {len tgt : Nat} (hd : decode cL_law pc = .ok (.tableswitch dflt lo hi offs, len)) (h : x.toInt < lo ∨ hi < x.toInt) (ht : (pc : Int) + dflt = (tgt : Int)) (k : LW X b L xs tgt lv st w) : LW X b L xs pc lv (.int x :: st) w :=
  fun p e s m below meth c H locs ls C hP hS hl => lv_tableOut C.1 C.2.1 hd h ht (k p e s m below meth c H locs ls C hP hS hl)
theorem L_tabIn {x : Int32} {dflt lo hi off : Int} {offs : Array Int} {len tgt : Nat} (hd : decode cL_law pc = .ok (.tableswitch dflt lo hi offs, len)) (h1 : ¬ x.toInt < lo) (h2 : ¬ hi < x.toInt) (ho : offs[(x.toInt - lo).toNat]? = some off) (ht : (pc : Int) + off = (tgt : Int)) (k : LW X b L xs tgt lv st w) : LW X b L xs pc lv (.int x :: st) w :=
  fun p e s m below meth c H locs ls C hP hS hl => lv_tableIn C.1 C.2.1 hd h1 h2 ho ht (k p e s m below meth c H locs ls C hP hS hl)
theorem L_eqI {x : Int32} {off : Int} {tgt : Nat} (hd : decode cL_law pc = .ok (.if_icmp .eq off, 3)) (ht : (pc : Int) + off = (tgt : Int)) (k : LW X b L xs tgt lv st w) : LW X b L xs pc lv (.int x :: .int x :: st) w :=
  fun p e s m below meth c H locs ls C hP hS hl => lv_icmp_eq C.1 C.2.1 hd ht (fun _ => k p e s m below meth c H locs ls C hP hS hl) (fun q => absurd rfl q)
theorem L_eqL {x : Int64} {off : Int} {tgt : Nat} (hd0 : decode cL_law pc = .ok (.lcmp, 1)) (hd : decode cL_law (pc + 1) = .ok (.ifCond .eq off, 3)) (ht : ((pc + 1 : Nat) : Int) + off = (tgt : Int)) (k : LW X b L xs tgt lv st w) : LW X b L xs pc lv (.long x :: .long x :: st) w := by
  intro p e s m below meth c H locs ls C hP hS hl
  refine W.lcmp C.1 C.2.1 hd0 ?_
  refine lv_if_eq C.1 C.2.1 hd ht (fun _ => k p e s m below meth c H locs ls C hP hS hl) (fun q => absurd (lg_cmp_eq x x |>.mpr rfl) q)
theorem L_gt {x y : Int32} {off : Int} {tgt : Nat} (hd : decode cL_law pc = .ok (.if_icmp .gt off, 3)) (ht : (pc : Int) + off = (tgt : Int)) (k1 : y < x → LW X b L xs tgt lv st w) (k2 : ¬ y < x → LW X b L xs (pc + 3) lv st w) : LW X b L xs pc lv (.int y :: .int x :: st) w :=
  fun p e s m below meth c H locs ls C hP hS hl => lv_icmp_gt C.1 C.2.1 hd ht (fun q => k1 q p e s m below meth c H locs ls C hP hS hl) (fun q => k2 q p e s m below meth c H locs ls C hP hS hl)
theorem L_goto {off : Int} {tgt : Nat} (hd : decode cL_law pc = .ok (.goto off, 3)) (ht : (pc : Int) + off = (tgt : Int)) (k : LW X b L xs tgt lv st w) : LW X b L xs pc lv st w :=
  fun p e s m below meth c H locs ls C hP hS hl => lv_goto C.1 C.2.1 hd ht (k p e s m below meth c H locs ls C hP hS hl)
theorem L_inc (hd : decode cL_law pc = .ok (.iinc 3 6, 3)) (k : LW X b L xs (pc + 3) (lvI X b (i + 6)) st w) : LW X b L xs pc (lvI X b i) st w := by
  intro p e s m below meth c H locs ls C hP hS hl
  refine lv_iinc (v := nI (i + 6)) (k := 3) (lv' := [(3, .int (nI (i + 6))), (0, .ref b), (1, .ref (xa X 0)), (2, .ref (xa X 54))]) C.1 C.2.1 hd hl rfl ?_ (by decide) rfl (fun ls' hl' => k p e s m below meth c H locs ls' C hP hS (lv_sub hl' [1, 2, 3, 0] rfl))
  rw [show Int32.ofInt 6 = nI 6 from by decide, nI_add]
theorem L_end (hd0 : decode cL_law pc = .ok (.iconst 1, 1)) (hd : decode cL_law (pc + 1) = .ok (.ireturn, 1)) : LW X b L xs pc lv [] w := by
  intro p e s m below meth c H locs ls C hP hS hl
  refine lv_iconst (v := 1) C.1 C.2.1 hd0 (by decide) ?_
  refine va_forget (fun q hq => ?_) ?_
  · obtain ⟨k, h1, h2⟩ := hS.2.2 q hq
    rw [h2]
    exact C.2.2.2.2.2.2.2.2.2.2.2.1 k h1
  · exact lw_ret C.1 C.2.1 C.2.2.1 C.2.2.2.2.2.2.2.2.1 hd
theorem rm1_room {d2 mL : Nat} (h : d2 + 1 ≤ 2048) (hm : mL ≤ 20) : (rmd d2).frames + 1 ≤ room_1.frames ∧ 8 + (mL + 11) + (rmd d2).locals ≤ room_1.locals := by
  refine ⟨h, ?_⟩
  show 8 + (mL + 11) + 40 * d2 ≤ 84000
  omega
theorem L_call {σ1 : Type} {g1 : σ1 → Option Value × Wd} {M2 : Mt} {d2 n idx ci cl : Nat} {As rest : List Value} {T : u_T} {N : Nat} {ty : Nat → FieldType} {o1 : Option σ1} {a1 : σ1} (hk : kd cl = (0, ci)) (hc : Kc ci M2.1.cls T N ty) (hM : CF g1 X M2 d2 (.ref (xa X cl) :: As) w o1) (ho : o1 = some a1) (hlk : LkV RL idx M2 n) (hd2 : d2 + 1 ≤ 2048) (hmL : M2.2.2.1 ≤ 20) (hn : As.length = n) (hst : st = As.reverse ++ .ref (xa X cl) :: rest) (hW : (rest.map fun v => v.category).sum ≤ 8) (hd : decode cL_law pc = .ok (.invokevirtual idx, 3))
    (k : LW X b L xs (pc + 3) lv ((g1 a1).1.toList ++ rest) (g1 a1).2) : LW X b L xs pc lv st w := by
  intro p e s m below meth c H locs ls C hP hS hl
  obtain ⟨h1, h2, h2', h3, h4, h5, h6⟩ := hlk
  have hlt := kd_lt hk (by omega)
  have hE := C.2.2.2.2.2.2.2.2.2.1
  have hpre := pc_pre (w := w) (av := .ref (xa X cl) :: As) hE hP hS
  have hr := va_runV (e := e) (below := below) (meth := meth) (locs := locs) (cells := 600000) (slots := 7302250) (g := F0 m pc ls st) (rest := rest) (C := M2.1.cls) (Ts := tw) ⟨C.1, C.2.1, C.2.2.2.1, C.2.2.2.2.1, C.2.2.2.2.2.1⟩ (hM C.2.2.2.2.2.2.2.2.2.2.1 a1 ho) ⟨callB_tw (R := room_1) C.2.2.2.2.2.1 h1 h3 h4 h5 h6 (rm1_room hd2 hmL), C.2.2.2.2.2.1 _ h2, C.2.2.2.2.2.1 _ h2'⟩ ⟨hpre.1, va_recv (q := (M2.1.cls, T, N)) hE.1 hP hc.1 (show (cells X w)[cl]? = some (xa X cl, .inr (ci, flds X w cl ci)) by rw [cells_get hlt, ent_obj hk]), hpre.2⟩ rfl hn hl.1 hst (lv_room hW) hd ⟨Nat.le_refl _, Nat.le_refl _⟩
  intro T0 hT X0
  obtain ⟨v, st₀, t, T', Lc, h0, X', hL, e1, e2, ⟨⟨hv, hPt⟩, hz, hkk⟩, hgo⟩ := hr T0 hT X0
  cases hv
  rw [h0] at hz hkk
  have hS1 : va_S (AX X) s.heap T'.heap (locs ++ Lc) := ⟨Nat.le_trans hS.1 (by rw [e1]; exact hz), fun q h1 h2 => by rw [e1, hkk q (Nat.lt_of_lt_of_le h1 hS.1) h2]; exact hS.2.1 q h1 h2, fun q hq => by
      rcases List.mem_append.mp hq with h | h
      · exact hS.2.2 q h
      · exact hL q h⟩
  obtain ⟨t2, b1, b2⟩ := k p e s m below meth c T'.heap (locs ++ Lc) ls C (by rw [e1]; exact hPt) hS1 hl T' rfl X'
  exact ⟨t2, hgo t2 b1, b2⟩
theorem L_callWI {M2 : Mt} {d2 n idx ci cl : Nat} {As rest : List Value} {T : u_T} {N : Nat} {ty : Nat → FieldType} {o1 : Option (Int32 × Wd)} {r : Int32} {w1 : Wd} (hk : kd cl = (0, ci)) (hc : Kc ci M2.1.cls T N ty) (hM : CF gWI X M2 d2 (.ref (xa X cl) :: As) w o1) (ho : o1 = some (r, w1)) (hlk : LkV RL idx M2 n) (hd2 : d2 + 1 ≤ 2048) (hmL : M2.2.2.1 ≤ 20) (hn : As.length = n) (hst : st = As.reverse ++ .ref (xa X cl) :: rest) (hW : (rest.map fun v => v.category).sum ≤ 8) (hd : decode cL_law pc = .ok (.invokevirtual idx, 3)) (k : LW X b L xs (pc + 3) lv (.int r :: rest) w1) : LW X b L xs pc lv st w := L_call hk hc hM ho hlk hd2 hmL hn hst hW hd k
theorem L_callWL {M2 : Mt} {d2 n idx ci cl : Nat} {As rest : List Value} {T : u_T} {N : Nat} {ty : Nat → FieldType} {o1 : Option (Int64 × Wd)} {r : Int64} {w1 : Wd} (hk : kd cl = (0, ci)) (hc : Kc ci M2.1.cls T N ty) (hM : CF gWL X M2 d2 (.ref (xa X cl) :: As) w o1) (ho : o1 = some (r, w1)) (hlk : LkV RL idx M2 n) (hd2 : d2 + 1 ≤ 2048) (hmL : M2.2.2.1 ≤ 20) (hn : As.length = n) (hst : st = As.reverse ++ .ref (xa X cl) :: rest) (hW : (rest.map fun v => v.category).sum ≤ 8) (hd : decode cL_law pc = .ok (.invokevirtual idx, 3)) (k : LW X b L xs (pc + 3) lv (.long r :: rest) w1) : LW X b L xs pc lv st w := L_call hk hc hM ho hlk hd2 hmL hn hst hW hd k
theorem L_callRI {M2 : Mt} {d2 n idx ci cl : Nat} {As rest : List Value} {T : u_T} {N : Nat} {ty : Nat → FieldType} {o1 : Option Int32} {r : Int32} (hk : kd cl = (0, ci)) (hc : Kc ci M2.1.cls T N ty) (hM : CF (gRI w) X M2 d2 (.ref (xa X cl) :: As) w o1) (ho : o1 = some r) (hlk : LkV RL idx M2 n) (hd2 : d2 + 1 ≤ 2048) (hmL : M2.2.2.1 ≤ 20) (hn : As.length = n) (hst : st = As.reverse ++ .ref (xa X cl) :: rest) (hW : (rest.map fun v => v.category).sum ≤ 8) (hd : decode cL_law pc = .ok (.invokevirtual idx, 3)) (k : LW X b L xs (pc + 3) lv (.int r :: rest) w) : LW X b L xs pc lv st w := L_call hk hc hM ho hlk hd2 hmL hn hst hW hd k
theorem L_callRL {M2 : Mt} {d2 n idx ci cl : Nat} {As rest : List Value} {T : u_T} {N : Nat} {ty : Nat → FieldType} {o1 : Option Int64} {r : Int64} (hk : kd cl = (0, ci)) (hc : Kc ci M2.1.cls T N ty) (hM : CF (gRL w) X M2 d2 (.ref (xa X cl) :: As) w o1) (ho : o1 = some r) (hlk : LkV RL idx M2 n) (hd2 : d2 + 1 ≤ 2048) (hmL : M2.2.2.1 ≤ 20) (hn : As.length = n) (hst : st = As.reverse ++ .ref (xa X cl) :: rest) (hW : (rest.map fun v => v.category).sum ≤ 8) (hd : decode cL_law pc = .ok (.invokevirtual idx, 3)) (k : LW X b L xs (pc + 3) lv (.long r :: rest) w) : LW X b L xs pc lv st w := L_call hk hc hM ho hlk hd2 hmL hn hst hW hd k
end LR1
theorem and63 (x : Int32) : ∃ n, n ≤ 63 ∧ x &&& 63 = nI n := by
  refine ⟨(x &&& 63).toBitVec.toNat, ?_, ?_⟩
  · have e : (x &&& 63).toBitVec = x.toBitVec &&& 63#32 := rfl
    rw [e, BitVec.toNat_and]
    exact Nat.and_le_right
  · apply Int32.toBitVec_inj.mp
    apply BitVec.eq_of_toNat_eq
    show _ = (BitVec.ofNat 32 _).toNat
    rw [BitVec.toNat_ofNat, Nat.mod_eq_of_lt (x &&& 63).toBitVec.isLt]
