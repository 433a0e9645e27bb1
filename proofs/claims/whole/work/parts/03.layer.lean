/-! THE LAYER. A world of fixed shape: cell k lies at xa X k; ints and longs are two functions of cell and place. -/
abbrev Wd : Type := (Nat → Nat → Int32) × (Nat → Nat → Int64)
abbrev Xt : Type := Launch × (Nat → ClassId) × (Nat → Nat → Nat) × (Nat → Nat) × (Nat → ClassId)
abbrev Mt : Type := MethodName × ByteArray × Nat × Option FieldType
abbrev xD (X : Xt) : va_G := (X.2.1, X.2.2.1)
abbrev xa (X : Xt) : Nat → Nat := X.2.2.2.1
abbrev xc (X : Xt) : Nat → ClassId := X.2.2.2.2
def gi (w : Wd) (c k : Nat) : Int32 := w.1 c k
def gl (w : Wd) (c k : Nat) : Int64 := w.2 c k
def si (w : Wd) (c k : Nat) (v : Int32) : Wd := (fun a b => if a = c ∧ b = k then v else w.1 a b, w.2)
def sl (w : Wd) (c k : Nat) (v : Int64) : Wd := (w.1, fun a b => if a = c ∧ b = k then v else w.2 a b)
def cpI (w : Wd) (cs cd sp dp n : Nat) : Wd := (fun a => if a = cd then va_cpy (w.1 cs) (w.1 cd) sp dp n else w.1 a, w.2)
def cpL (w : Wd) (cs cd sp dp n : Nat) : Wd := (w.1, fun a => if a = cd then va_cpy (w.2 cs) (w.2 cd) sp dp n else w.2 a)
def ix (i : Int32) : Nat := i.toNatClampNeg
abbrev inb (i : Int32) (n : Nat) : Prop := 0 ≤ i.toInt ∧ i.toInt < (n : Int)
def kdL : List (Nat × Nat) := [(0, 11), (0, 6), (1, 37), (1, 40), (1, 40), (1, 40), (0, 4), (1, 120), (1, 128), (1, 128), (1, 6), (1, 64), (5, 6), (0, 5), (1, 4), (1, 4), (0, 1), (4, 20), (0, 8), (0, 1), (4, 20), (1, 24), (1, 6), (0, 10), (0, 1), (4, 20), (1, 24), (1, 4), (1, 4), (1, 4), (1, 4), (0, 7), (1, 123), (1, 3), (1, 3), (1, 3), (0, 3), (0, 2), (0, 2), (0, 0), (1, 50), (1, 24), (0, 9), (4, 60), (0, 9), (4, 60), (0, 9), (4, 60), (0, 9), (4, 60), (0, 9), (4, 60), (0, 9), (4, 60), (0, 12), (1, 16), (1, 4), (1, 6), (1, 6), (1, 40), (1, 40), (1, 40), (1, 40), (2, 120), (2, 260), (1, 260), (1, 2), (3, 122), (3, 122), (1, 6), (1, 130), (4, 32), (4, 6), (1, 123), (1, 4), (1, 4), (1, 4), (1, 4), (1, 8), (1, 8), (1, 50), (1, 24), (1, 6), (1, 6), (4, 360), (4, 60)]
def kd (k : Nat) : Nat × Nat := kdL.getD k (9, 0)
def NC : Nat := 86
def fkL : List (List Nat) := [[2, 0, 3, 0, 0], [2], [0, 0, 0, 0, 0, 0, 0, 0, 0], [0], [2, 0, 0, 3, 0, 4, 0, 5, 6, 0], [2, 3, 0], [2, 0, 3, 4, 5, 0, 0], [2, 3, 4, 5, 0, 0], [2, 4, 5, 0, 0, 0], [0, 0, 0, 0, 2], [2, 4, 5, 6, 7, 8, 0, 0, 0, 1], [2, 7, 13, 14, 17, 19, 24, 32, 37, 38, 39, 0, 40], [0, 2, 3, 0, 4, 5, 0, 0, 0, 0, 0, 0, 0, 6, 7, 8, 9, 10, 0, 0, 0, 0, 0, 11, 12, 13, 14, 15, 16, 17, 0, 18, 1, 1, 0, 19, 20, 21, 0, 22, 23, 24, 0, 1, 0, 25, 26, 0, 0, 27, 0, 28, 29, 30, 31, 32]]
def fk (ci j : Nat) : Nat := (fkL.getD ci []).getD j 0
def nfl (ci : Nat) : Nat := (fkL.getD ci []).length
def fval (X : Xt) (w : Wd) (k ci j : Nat) : Value := match fk ci j with
  | 0 => .int (w.1 k j)
  | 1 => .long (w.2 k j)
  | n + 2 => .ref (xa X (k + (n + 1)))
def flds (X : Xt) (w : Wd) (k ci : Nat) : List Value := (List.range (nfl ci)).map (fval X w k ci)
def ent (X : Xt) (w : Wd) (k : Nat) : va_E := match kd k with
  | (0, ci) => .inr (ci, flds X w k ci)
  | (1, n) => .inl (xc X 0, n, .inl (w.1 k))
  | (2, n) => .inl (xc X 1, n, .inl (w.1 k))
  | (3, n) => .inl (xc X 2, n, .inl (w.1 k))
  | (4, n) => .inl (xc X 3, n, .inr (.inl (w.2 k)))
  | (_, n) => .inl (xc X 4, n, .inr (.inr (.inr (.inr (fun i => some (xa X (42 + 2 * i)))))))
def cells (X : Xt) (w : Wd) : va_W := (List.range NC).map (fun k => (xa X k, ent X w k))
def AX (X : Xt) : Nat → Prop := fun q => ∃ k, k < NC ∧ q = xa X k
def Xok (X : Xt) : Prop := ∀ i j, i < NC → j < NC → xa X i = xa X j → i = j
abbrev xt (X : Xt) : List (ClassId × FieldType) := [(xc X 0, .int), (xc X 1, .byte), (xc X 2, .short), (xc X 3, .long), (xc X 4, .object "StoneInLentils$Shelf")]
def tb0 (j : Nat) : Int32 := ([0, 0, 0, 0, 0, 0, 0, 0, 0, 1, 0, 0] : List Int32).getD j 0
def tb1 (j : Nat) : Int32 := ([9, 9, 9, 9, 99, 12, 99, 9, 9, 9, 999, 12] : List Int32).getD j 0
def tb2 (j : Nat) : Int32 := ([1, 0, 0, 0, 1, 1, 0, 0, 1, 2, 1, 0, 1, 3, 3, 1] : List Int32).getD j 0
def tb3 (j : Nat) : Int64 := ([1, 1728, 2985984, 5159780352] : List Int64).getD j 0
def tb4 (j : Nat) : Int32 := ([-1, 0, 0, 2, 1, 3, 0, 6] : List Int32).getD j 0
def tb5 (j : Nat) : Int32 := ([1, 10, 11, 2, 20, 0, 0, 0, 0, 30, 0, 0, 0, 41, 40, 0, 0, 0, 0, 50, 0, 0, 60, 61, 70, 0, 0, 0, 81, 80, 0, 0] : List Int32).getD j 0
def Sta (X : Xt) (U : State) : Prop := (va_Z "StoneInLentils$Numbers" "LEAST" "[I" (.ref (xa X 100)) (AX X) U U.heap ∧ va_T .int (xa X 100) 12 (fun j => .int (tb0 j)) (AX X) U U.heap) ∧ (va_Z "StoneInLentils$Numbers" "GREATEST" "[I" (.ref (xa X 101)) (AX X) U U.heap ∧ va_T .int (xa X 101) 12 (fun j => .int (tb1 j)) (AX X) U U.heap) ∧ (va_Z "StoneInLentils$Chances" "CHOOSE" "[I" (.ref (xa X 102)) (AX X) U U.heap ∧ va_T .int (xa X 102) 16 (fun j => .int (tb2 j)) (AX X) U U.heap) ∧ (va_Z "StoneInLentils$Planner" "CUBES" "[J" (.ref (xa X 103)) (AX X) U U.heap ∧ va_T .long (xa X 103) 4 (fun j => .long (tb3 j)) (AX X) U U.heap) ∧ (va_Z "StoneInLentils$Bodies" "ABOVE" "[I" (.ref (xa X 104)) (AX X) U U.heap ∧ va_T .int (xa X 104) 8 (fun j => .int (tb4 j)) (AX X) U U.heap) ∧ (va_Z "StoneInLentils$Bodies" "OWN" "[I" (.ref (xa X 105)) (AX X) U U.heap ∧ va_T .int (xa X 105) 32 (fun j => .int (tb5 j)) (AX X) U U.heap)
def Nst (U : State) : Prop := va_Nw (.methodLinkNest "StoneInLentils$Numbers" 40 ⟨"StoneInLentils", "isBag", "(I)Z"⟩ "StoneInLentils") U
theorem Nst_warm {s U : State} (hW : s.WarmedH U.vm) (h : Nst s) : Nst U := va_Nw.warmM hW h
theorem Nst_same {s U : State} (hv : s.vm = U.vm) (h : Nst s) : Nst U := va_Nw.same rfl hv h
def En (X : Xt) (U : State) : Prop := va_K (xD X) vwCl (xt X) U ∧ Sta X U ∧ Nst U
theorem Sta_at {X : Xt} {s U : State} {locs : List Loc} (h : Sta X s) (hS : va_S (AX X) s.heap U.heap locs) (hvm : s.vm.Alike U.vm) : Sta X U := by
  obtain ⟨⟨a1, b1⟩, ⟨a2, b2⟩, ⟨a3, b3⟩, ⟨a4, b4⟩, ⟨a5, b5⟩, ⟨a6, b6⟩⟩ := h
  exact ⟨⟨(a1.kept hS.2.1).moved hvm, (b1.kept hS.2.1).moved hvm⟩, ⟨(a2.kept hS.2.1).moved hvm, (b2.kept hS.2.1).moved hvm⟩, ⟨(a3.kept hS.2.1).moved hvm, (b3.kept hS.2.1).moved hvm⟩, ⟨(a4.kept hS.2.1).moved hvm, (b4.kept hS.2.1).moved hvm⟩, ⟨(a5.kept hS.2.1).moved hvm, (b5.kept hS.2.1).moved hvm⟩, ⟨(a6.kept hS.2.1).moved hvm, (b6.kept hS.2.1).moved hvm⟩⟩
theorem En_at {X : Xt} {s U : State} {locs : List Loc} (h : En X s) (hS : va_S (AX X) s.heap U.heap locs) (hW : s.WarmedH U.vm) : En X U :=
  ⟨va_K.moved hW.alike h.1, Sta_at h.2.1 hS hW.alike, Nst_warm hW h.2.2⟩
theorem En_calling {X : Xt} {U : State} {g : JFrame} {mk : MethodId} {a : Array Value} (h : En X U) : En X (U.calling g mk a) :=
  ⟨va_K.moved (U := U.calling g mk a) (Vm.Alike.refl _) h.1, Sta_at (U := U.calling g mk a) (locs := []) h.2.1 va_S.rf (Vm.Alike.refl _), Nst_same (U := U.calling g mk a) rfl h.2.2⟩
theorem kd_lt {k t n : Nat} (h : kd k = (t, n)) (ht : t ≤ 5) : k < NC := by
  rcases Nat.lt_or_ge k NC with q | q
  · exact q
  · exfalso
    have e : kd k = (9, 0) := by
      show kdL.getD k (9, 0) = (9, 0)
      rw [List.getD_eq_getElem?_getD, List.getElem?_eq_none (show kdL.length ≤ k from q)]
      rfl
    rw [e] at h
    cases h
    omega
theorem cells_get {X : Xt} {w : Wd} {k : Nat} (hk : k < NC) : (cells X w)[k]? = some (xa X k, ent X w k) := by
  unfold cells
  rw [List.getElem?_map, List.getElem?_range hk]
  rfl
theorem cells_len {X : Xt} {w : Wd} : (cells X w).length = NC := by simp [cells]
theorem cells_D {X : Xt} (h : Xok X) (w : Wd) : va_D (AX X) (cells X w) := by
  have key : ∀ (i : Nat) (p : Nat × va_E), (cells X w)[i]? = some p → i < NC ∧ p.1 = xa X i := by
    intro i p hi
    have hl : i < NC := by
      have := (List.getElem?_eq_some_iff.mp hi).1
      rw [cells_len] at this
      exact this
    rw [cells_get hl] at hi
    cases hi
    exact ⟨hl, rfl⟩
  refine ⟨fun i j p q hi hj hpq => ?_, fun k q hk => ?_⟩
  · obtain ⟨a1, a2⟩ := key i p hi
    obtain ⟨b1, b2⟩ := key j q hj
    exact h i j a1 b1 (by rw [← a2, ← b2]; exact hpq)
  · obtain ⟨a1, a2⟩ := key k q hk
    exact ⟨k, a1, a2⟩
theorem ent_congr {X : Xt} {w w' : Wd} {k : Nat} (h1 : w.1 k = w'.1 k) (h2 : w.2 k = w'.2 k) : ent X w k = ent X w' k := by
  have hf : ∀ ci, flds X w k ci = flds X w' k ci := by
    intro ci
    unfold flds
    refine List.map_congr_left fun j _ => ?_
    unfold fval
    rw [h1, h2]
  unfold ent
  simp only [hf, h1, h2]
theorem cells_set {X : Xt} {w w' : Wd} {k : Nat} {en : va_E} (hk : k < NC) (he : en = ent X w' k) (h1 : ∀ j, j ≠ k → w.1 j = w'.1 j) (h2 : ∀ j, j ≠ k → w.2 j = w'.2 j) : (cells X w).set k (xa X k, en) = cells X w' := by
  subst he
  refine List.ext_getElem? fun i => ?_
  by_cases hi : i = k
  · subst hi
    rw [List.getElem?_set_self (by rw [cells_len]; exact hk), cells_get hk]
  · rw [List.getElem?_set_ne (fun q => hi q.symm)]
    by_cases hl : i < NC
    · rw [cells_get hl, cells_get hl, ent_congr (h1 i hi) (h2 i hi)]
    · rw [List.getElem?_eq_none (by rw [cells_len]; omega), List.getElem?_eq_none (by rw [cells_len]; omega)]
theorem ent_obj {X : Xt} {w : Wd} {k ci : Nat} (h : kd k = (0, ci)) : ent X w k = .inr (ci, flds X w k ci) := by simp only [ent, h]
theorem ent_int {X : Xt} {w : Wd} {k n : Nat} (h : kd k = (1, n)) : ent X w k = .inl (xc X 0, n, .inl (w.1 k)) := by simp only [ent, h]
theorem ent_byte {X : Xt} {w : Wd} {k n : Nat} (h : kd k = (2, n)) : ent X w k = .inl (xc X 1, n, .inl (w.1 k)) := by simp only [ent, h]
theorem ent_short {X : Xt} {w : Wd} {k n : Nat} (h : kd k = (3, n)) : ent X w k = .inl (xc X 2, n, .inl (w.1 k)) := by simp only [ent, h]
theorem ent_long {X : Xt} {w : Wd} {k n : Nat} (h : kd k = (4, n)) : ent X w k = .inl (xc X 3, n, .inr (.inl (w.2 k))) := by simp only [ent, h]
theorem ent_ref {X : Xt} {w : Wd} {k n : Nat} (h : kd k = (5, n)) : ent X w k = .inl (xc X 4, n, .inr (.inr (.inr (.inr (fun i => some (xa X (42 + 2 * i))))))) := by simp only [ent, h]
theorem flds_get {X : Xt} {w : Wd} {k ci j : Nat} (h : j < nfl ci) : (flds X w k ci)[j]? = some (fval X w k ci j) := by
  unfold flds
  rw [List.getElem?_map, List.getElem?_range h]
  rfl
theorem flds_len {X : Xt} {w : Wd} {k ci : Nat} : (flds X w k ci).length = nfl ci := by simp [flds]
theorem fval_int {X : Xt} {w : Wd} {k ci j : Nat} (h : fk ci j = 0) : fval X w k ci j = .int (gi w k j) := by simp only [fval, h, gi]
theorem fval_long {X : Xt} {w : Wd} {k ci j : Nat} (h : fk ci j = 1) : fval X w k ci j = .long (gl w k j) := by simp only [fval, h, gl]
theorem fval_ref {X : Xt} {w : Wd} {k ci j n : Nat} (h : fk ci j = n + 2) : fval X w k ci j = .ref (xa X (k + (n + 1))) := by simp only [fval, h]
theorem flds_si {X : Xt} {w : Wd} {k ci j : Nat} {v : Int32} (h : fk ci j = 0) (hj : j < nfl ci) : (flds X w k ci).set j (.int v) = flds X (si w k j v) k ci := by
  refine List.ext_getElem? fun i => ?_
  by_cases hi : i = j
  · subst hi
    rw [List.getElem?_set_self (by rw [flds_len]; exact hj), flds_get hj, fval_int h]
    simp [gi, si]
  · rw [List.getElem?_set_ne (fun q => hi q.symm)]
    by_cases hl : i < nfl ci
    · rw [flds_get hl, flds_get hl]
      congr 1
      unfold fval
      split <;> simp [si, hi]
    · rw [List.getElem?_eq_none (by rw [flds_len]; omega), List.getElem?_eq_none (by rw [flds_len]; omega)]
theorem flds_sl {X : Xt} {w : Wd} {k ci j : Nat} {v : Int64} (h : fk ci j = 1) (hj : j < nfl ci) : (flds X w k ci).set j (.long v) = flds X (sl w k j v) k ci := by
  refine List.ext_getElem? fun i => ?_
  by_cases hi : i = j
  · subst hi
    rw [List.getElem?_set_self (by rw [flds_len]; exact hj), flds_get hj, fval_long h]
    simp [gl, sl]
  · rw [List.getElem?_set_ne (fun q => hi q.symm)]
    by_cases hl : i < nfl ci
    · rw [flds_get hl, flds_get hl]
      congr 1
      unfold fval
      split <;> simp [sl, hi]
    · rw [List.getElem?_eq_none (by rw [flds_len]; omega), List.getElem?_eq_none (by rw [flds_len]; omega)]
theorem si_off {w : Wd} {c k : Nat} {v : Int32} : ∀ j, j ≠ c → w.1 j = (si w c k v).1 j := by
  intro j hj
  funext b
  simp [si, hj]
theorem sl_off {w : Wd} {c k : Nat} {v : Int64} : ∀ j, j ≠ c → w.2 j = (sl w c k v).2 j := by
  intro j hj
  funext b
  simp [sl, hj]
theorem si_on {w : Wd} {c k : Nat} {v : Int32} : (si w c k v).1 c = upd (w.1 c) k v := by
  funext b
  simp [si, upd]
theorem sl_on {w : Wd} {c k : Nat} {v : Int64} : (sl w c k v).2 c = vp_updL (w.2 c) k v := by
  funext b
  simp [sl, vp_updL]
theorem cp_off {w : Wd} {cs cd sp dp n : Nat} : ∀ j, j ≠ cd → w.1 j = (cpI w cs cd sp dp n).1 j := by
  intro j hj
  simp [cpI, hj]
theorem cpL_off {w : Wd} {cs cd sp dp n : Nat} : ∀ j, j ≠ cd → w.2 j = (cpL w cs cd sp dp n).2 j := by
  intro j hj
  simp [cpL, hj]
theorem inb_vp {i : Int32} {n : Nat} (h : inb i n) : vp_in i n := vp_in_iff.mpr h
/-- the words that stay good -/
def tw : List Cond := lw_tbl.filter goodWord
theorem tw_in {w : Cond} (i : Nat) (h : lw_tbl[i]? = some w) (hg : goodWord w = true) : w ∈ tw := List.mem_filter.mpr ⟨List.mem_of_getElem? h, hg⟩
theorem tw_good {w : Cond} (h : w ∈ tw) : (w.onTables && w.keeps) = true ∨ ∃ ty, w = .arrayClass ty := good_of_word (List.mem_filter.mp h).2
theorem tw_hts {args : Array Value} {s : State} (h : ∀ w ∈ lw_tbl, w.before args s = true) : ∀ w ∈ tw, w.before args s = true := fun w hw => h w (List.mem_filter.mp hw).1
/-- the context in which a method runs -/
def Cx (X : Xt) (M : Mt) (p : Program) (s : State) (m : MethodId) (args : Array Value) (meth : Method) (c : Code) : Prop :=
  p.tables.exec = Jvm.exec ∧ c.code = M.2.1 ∧ meth.sig.returnType = M.2.2.2 ∧ c.maxLocals = M.2.2.1 ∧ s.vm.findClass M.1.cls = some m.cls ∧ (∀ w ∈ tw, w.before args s = true) ∧ meth.locks = false ∧ En X s ∧ Xok X
def rmd (d : Nat) : Room := { frames := d, cells := 0, slots := 0, locals := 40 * d }
def Qx (X : Xt) (r : Option Value × Wd) : Array Value → State → Outcome → State → Prop := fun _ st oc t => (oc = .returned r.1 ∧ va_P (xD X) vwCl (cells X r.2) t.heap) ∧ va_F (AX X) st t
/-- from the abstract state the machine comes to the method's end with what o says, if it says anything -/
def E {σ : Type} (g : σ → Option Value × Wd) (X : Xt) (M : Mt) (d pc : Nat) (lv : List (Nat × Value)) (st : List Value) (w : Wd) (o : Option σ) : Prop :=
  ∀ a : σ, o = some a → ∀ (p : Program) (e : Env) (s : State) (m : MethodId) (args : Array Value) (below : List Frame) (meth : Method) (c : Code) (H : Heap) (locs : List Loc) (ls : Array Slot),
    Cx X M p s m args meth c → va_P (xD X) vwCl (cells X w) H → va_S (AX X) s.heap H locs → lv_has ls M.2.2.1 lv →
    W p X.1 e (rmd d) s m args below meth c H locs 0 0 (MQ below (Qx X (g a)) args s 0 0 (AX X)) (F0 m pc ls st)
abbrev codeW (M : Mt) : Cond := .code M.1 M.2.1 M.2.2.1 M.2.2.2
/-- a method's contract -/
def CF {σ : Type} (g : σ → Option Value × Wd) (X : Xt) (M : Mt) (d : Nat) (av : List Value) (w : Wd) (o : Option σ) : Prop :=
  Xok X → ∀ a : σ, o = some a → Met X.1 M.1 (codeW M :: tw) (rmd d) (va_Pc av (fun U => va_P (xD X) vwCl (cells X w) U.heap ∧ En X U)) (Qx X (g a)) 0 0 (AX X)
theorem CF_of {σ : Type} {g : σ → Option Value × Wd} {X : Xt} {M : Mt} {d : Nat} {av : List Value} {w : Wd} {o : Option σ} (hp : plainName M.1.cls = true) (hL : (lg_sl av).length ≤ M.2.2.1) (h : E g X M d 0 (lv_args 0 av) [] w o) : CF g X M d av w o := by
  intro hX a ha
  refine Met.ofW (cc := M.2.1) (maxL := M.2.2.1) (ret := M.2.2.2) hp rfl ?_
  intro p e s m args below meth c s₁ B hml hv
  obtain ⟨rfl, hP, hE⟩ := hv
  have hts : ∀ w ∈ tw, w.before av.toArray s = true := fun w hw => atoms_spec (ws := codeW M :: tw) B.pre w (List.mem_cons_of_mem _ hw)
  rw [lg_entry_eq]
  exact h a ha p e s m av.toArray below meth c s.heap [] _ ⟨B.exec, B.bytes, B.returns, hml, findClass_of_methodNamed B.named, hts, B.notSynchronized, hE, hX⟩ hP va_S.rf (lv_entry av hL)
theorem E_none {σ : Type} {g : σ → Option Value × Wd} {X : Xt} {M : Mt} {d pc : Nat} {lv : List (Nat × Value)} {st : List Value} {w : Wd} : E g X M d pc lv st w none := by
  intro a ha
  cases ha

