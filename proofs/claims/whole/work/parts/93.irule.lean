/-! MAKING THE WORLD: rules for constructors; the cells lie one behind the other from h on -/
def upl : List (Nat × Int32) → Nat → Int32
  | [] => fun _ => 0
  | (k, v) :: r => upd (upl r) k v
abbrev arJ (X : Xt) (n : Nat) (l : List (Nat × Int32)) : va_E := .inl (xc X 0, n, .inl (upl l))
abbrev arI (X : Xt) (n : Nat) : va_E := .inl (xc X 0, n, .inl (upl []))
abbrev arB (X : Xt) (n : Nat) : va_E := .inl (xc X 1, n, .inl (upl []))
abbrev arH (X : Xt) (n : Nat) : va_E := .inl (xc X 2, n, .inl (upl []))
abbrev arL (X : Xt) (n : Nat) : va_E := .inl (xc X 3, n, .inr (.inl (fun _ => 0)))
abbrev arR (X : Xt) (n : Nat) (f : Nat → Option Nat) : va_E := .inl (xc X 4, n, .inr (.inr (.inr (.inr f))))
def wz (h : Nat) (es : List va_E) : va_W := es.mapIdx (fun k e => (h + k, e))
theorem wz_get {h k : Nat} {es : List va_E} : (wz h es)[k]? = es[k]?.map (fun e => (h + k, e)) := by
  unfold wz; rw [List.getElem?_mapIdx]
theorem wz_at {h k : Nat} {es : List va_E} {e : va_E} (he : es[k]? = some e) : (wz h es)[k]? = some (h + k, e) := by rw [wz_get, he]; rfl
theorem wz_set {h k : Nat} {es : List va_E} {e : va_E} : (wz h es).set k (h + k, e) = wz h (es.set k e) := by
  refine List.ext_getElem? fun i => ?_
  rw [wz_get, List.getElem?_set, List.getElem?_set]
  by_cases hi : k = i
  · subst hi
    rw [if_pos rfl, if_pos rfl]
    simp only [wz, List.length_mapIdx]
    by_cases hl : k < es.length
    · rw [if_pos hl, if_pos hl]; rfl
    · rw [if_neg hl, if_neg hl]; rfl
  · rw [if_neg hi, if_neg hi, wz_get]
theorem wz_app {h : Nat} {es fs : List va_E} : wz h (es ++ fs) = wz h es ++ wz (h + es.length) fs := by
  refine List.ext_getElem? fun i => ?_
  rw [wz_get]
  have hl : (wz h es).length = es.length := by simp [wz]
  by_cases hi : i < es.length
  · rw [List.getElem?_append_left hi, List.getElem?_append_left (by rw [hl]; exact hi), wz_get]
  · rw [List.getElem?_append_right (by omega), List.getElem?_append_right (by rw [hl]; omega), hl, wz_get]
    rw [show h + es.length + (i - es.length) = h + i by omega]
theorem wz_D {h : Nat} {es : List va_E} : va_D (fun q => h ≤ q) (wz h es) := by
  have key : ∀ (i : Nat) (p : Nat × va_E), (wz h es)[i]? = some p → p.1 = h + i := by
    intro i p hp
    rw [wz_get] at hp
    cases he : es[i]? with
    | none => rw [he] at hp; cases hp
    | some e => rw [he] at hp; cases hp; rfl
  refine ⟨fun i j p q hi hj hpq => ?_, fun k q hk => ?_⟩
  · have a := key i p hi
    have b := key j q hj
    omega
  · have a := key k q hk
    show h ≤ q.1
    omega
def nsiL : List (String × Nat × MethodName × String) := [("StoneInLentils", 18, yX4_init, "StoneInLentils"), ("StoneInLentils", 31, yX5_init, "StoneInLentils"), ("StoneInLentils", 38, yX1_init, "StoneInLentils"), ("StoneInLentils", 45, yX8_init, "StoneInLentils"), ("StoneInLentils$Planner", 11, yX1_init, "StoneInLentils"), ("StoneInLentils", 52, yX10_init, "StoneInLentils"), ("StoneInLentils$Witness", 11, yX1_init, "StoneInLentils"), ("StoneInLentils", 59, yX7_init, "StoneInLentils"), ("StoneInLentils", 66, yX3_init, "StoneInLentils"), ("StoneInLentils", 73, yX2_init, "StoneInLentils"), ("StoneInLentils", 87, yX0_init, "StoneInLentils"), ("StoneInLentils", 92, yX9_init, "StoneInLentils")]
def Nsi (U : State) : Prop := ∀ q ∈ nsiL, va_Nw (.methodLinkNest q.1 q.2.1 q.2.2.1 q.2.2.2) U
def KI (X : Xt) (U : State) : Prop := va_K (xD X) vwCl (xt X) U ∧ Nsi U ∧ va_AO "StoneInLentils$Shelf" U
theorem KI_warm {X : Xt} {s U : State} (h : KI X s) (hW : s.WarmedH U.vm) : KI X U := ⟨va_K.moved hW.alike h.1, fun q hq => va_Nw.warmM hW (h.2.1 q hq), va_AO.moved hW.alike h.2.2⟩
theorem KI_calling {X : Xt} {U : State} {g : JFrame} {mk : MethodId} {a : Array Value} (h : KI X U) : KI X (U.calling g mk a) :=
  ⟨va_K.moved (U := U.calling g mk a) (Vm.Alike.refl _) h.1, fun q hq => va_Nw.same (U := U.calling g mk a) rfl rfl (h.2.1 q hq), va_AO.moved (U := U.calling g mk a) (Vm.Alike.refl _) h.2.2⟩
def CxI (X : Xt) (M : Mt) (p : Program) (s : State) (m : MethodId) (args : Array Value) (meth : Method) (c : Code) : Prop :=
  p.tables.exec = Jvm.exec ∧ c.code = M.2.1 ∧ meth.sig.returnType = M.2.2.2 ∧ c.maxLocals = M.2.2.1 ∧ s.vm.findClass M.1.cls = some m.cls ∧ (∀ w ∈ tw, w.before args s = true) ∧ meth.locks = false ∧ (M.1.name = "<init>" → meth.name = "<init>") ∧ KI X s
def rmi (d mc ms : Nat) : Room := { frames := d, cells := mc, slots := ms, locals := 40 * d }
abbrev Zt : Type := List Frame → Array Value → State → State → Prop
def EI (X : Xt) (M : Mt) (R : Room) (h : Nat) (Z : Zt) (pc : Nat) (lv : List (Nat × Value)) (st : List Value) (es : List va_E) (kc ks : Nat) : Prop :=
  ∀ (p : Program) (e : Env) (s : State) (m : MethodId) (args : Array Value) (below : List Frame) (meth : Method) (c : Code) (H : Heap) (locs : List Loc) (ls : Array Slot),
    CxI X M p s m args meth c → H.size = h + es.length → va_P (xD X) vwCl (wz h es) H → va_S (fun q => h ≤ q) s.heap H locs → lv_has ls M.2.2.1 lv →
    W p X.1 e R s m args below meth c H locs kc ks (Z below args s) (F0 m pc ls st)
def Qi (X : Xt) (h : Nat) (es : List va_E) : Array Value → State → Outcome → State → Prop := fun _ st oc t => (oc = .returned none ∧ t.heap.size = h + es.length ∧ va_P (xD X) vwCl (wz h es) t.heap) ∧ va_F (fun q => h ≤ q) st t
abbrev Zi (X : Xt) (h : Nat) (F : List va_E) (mc ms : Nat) : Zt := fun below args s => MQ below (Qi X h F) args s mc ms (fun q => h ≤ q)
def CI (X : Xt) (M : Mt) (d mc ms ci : Nat) (fs0 : List Value) (F : Nat → List va_E) : Prop :=
  ∀ h : Nat, Met X.1 M.1 (codeW M :: tw) (rmi d mc ms) (va_Pc [.ref h] (fun U => U.heap.size = h + 1 ∧ va_P (xD X) vwCl (wz h [.inr (ci, fs0)]) U.heap ∧ KI X U)) (Qi X h (F h)) mc ms (fun q => h ≤ q)
theorem CI_of {X : Xt} {M : Mt} {d mc ms ci : Nat} {fs0 : List Value} {F : Nat → List va_E} (hp : plainName M.1.cls = true) (hL : 1 ≤ M.2.2.1) (h : ∀ h : Nat, EI X M (rmi d mc ms) h (Zi X h (F h) mc ms) 0 [(0, .ref h)] [] [.inr (ci, fs0)] 0 0) : CI X M d mc ms ci fs0 F := by
  intro h0
  refine Met.ofW (cc := M.2.1) (maxL := M.2.2.1) (ret := M.2.2.2) hp rfl ?_
  intro p e s m args below meth c s₁ B hml hv
  obtain ⟨rfl, hz, hP, hE⟩ := hv
  have hts : ∀ w ∈ tw, w.before ([Value.ref h0] : List Value).toArray s = true := fun w hw => atoms_spec (ws := codeW M :: tw) B.pre w (List.mem_cons_of_mem _ hw)
  rw [lg_entry_eq]
  exact h h0 p e s m _ below meth c s.heap [] _ ⟨B.exec, B.bytes, B.returns, hml, findClass_of_methodNamed B.named, hts, B.notSynchronized, fun q => (name_of_methodNamed B.named B.method).1.trans q, hE⟩ hz hP va_S.rf (lv_entry [Value.ref h0] hL)
section IR
variable {X : Xt} {M : Mt} {R : Room} {h : Nat} {Z : Zt} {pc : Nat} {lv : List (Nat × Value)} {st : List Value} {es : List va_E} {kc ks : Nat}
theorem i_iconst {n : Int} {v : Int32} (hd : decode M.2.1 pc = .ok (.iconst n, 1)) (hv : Int32.ofInt n = v) (k : EI X M R h Z (pc + 1) lv (.int v :: st) es kc ks) : EI X M R h Z pc lv st es kc ks :=
  fun p e s m args below meth c H locs ls C hz hP hS hl => lv_iconst C.1 C.2.1 hd hv (k p e s m args below meth c H locs ls C hz hP hS hl)
theorem i_bipush {n : Int} {v : Int32} (hd : decode M.2.1 pc = .ok (.bipush n, 2)) (hv : (Int8.ofInt n).toInt32 = v) (k : EI X M R h Z (pc + 2) lv (.int v :: st) es kc ks) : EI X M R h Z pc lv st es kc ks :=
  fun p e s m args below meth c H locs ls C hz hP hS hl => lv_bipush C.1 C.2.1 hd hv (k p e s m args below meth c H locs ls C hz hP hS hl)
theorem i_sipush {n : Int} {v : Int32} (hd : decode M.2.1 pc = .ok (.sipush n, 3)) (hv : (Int16.ofInt n).toInt32 = v) (k : EI X M R h Z (pc + 3) lv (.int v :: st) es kc ks) : EI X M R h Z pc lv st es kc ks :=
  fun p e s m args below meth c H locs ls C hz hP hS hl => lv_sipush C.1 C.2.1 hd hv (k p e s m args below meth c H locs ls C hz hP hS hl)
theorem i_lconst {n : Fin 2} {v : Int64} (hd : decode M.2.1 pc = .ok (.lconst n, 1)) (hv : Int64.ofNat (n : Nat) = v) (k : EI X M R h Z (pc + 1) lv (.long v :: st) es kc ks) : EI X M R h Z pc lv st es kc ks :=
  fun p e s m args below meth c H locs ls C hz hP hS hl => lv_lconst C.1 C.2.1 hd hv (k p e s m args below meth c H locs ls C hz hP hS hl)
theorem i_iload_n {q : Fin 4} {i : Nat} {x : Int32} (hd : decode M.2.1 pc = .ok (.iload_n q, 1)) (j : Nat) (hj : lv[j]? = some (i, .int x)) (hi : (q : Nat) = i) (k : EI X M R h Z (pc + 1) lv (.int x :: st) es kc ks) : EI X M R h Z pc lv st es kc ks :=
  fun p e s m args below meth c H locs ls C hz hP hS hl => lv_iload_n C.1 C.2.1 hd hi (lv_at hl j hj) (k p e s m args below meth c H locs ls C hz hP hS hl)
theorem i_aload_n {q : Fin 4} {i x : Nat} (hd : decode M.2.1 pc = .ok (.aload_n q, 1)) (j : Nat) (hj : lv[j]? = some (i, .ref x)) (hi : (q : Nat) = i) (k : EI X M R h Z (pc + 1) lv (.ref x :: st) es kc ks) : EI X M R h Z pc lv st es kc ks :=
  fun p e s m args below meth c H locs ls C hz hP hS hl => lv_aload_n C.1 C.2.1 hd hi (lv_at hl j hj) (k p e s m args below meth c H locs ls C hz hP hS hl)
theorem i_istore_n {q : Fin 4} {i : Nat} {x : Int32} {lv' : List (Nat × Value)} (hd : decode M.2.1 pc = .ok (.istore_n q, 1)) (hi : (q : Nat) = i) (hn : i < M.2.2.1) (hq : (i, Value.int x) :: lv.filter (fun q => !(q.1 == i) && !(q.1 + 1 == i && q.2.category == 2)) = lv') (k : EI X M R h Z (pc + 1) lv' st es kc ks) : EI X M R h Z pc lv (.int x :: st) es kc ks :=
  fun p e s m args below meth c H locs ls C hz hP hS hl => lv_istore_n C.1 C.2.1 hd hi hl hn hq (fun ls' hl' => k p e s m args below meth c H locs ls' C hz hP hS hl')
theorem i_astore_n {q : Fin 4} {i x : Nat} {lv' : List (Nat × Value)} (hd : decode M.2.1 pc = .ok (.astore_n q, 1)) (hi : (q : Nat) = i) (hn : i < M.2.2.1) (hq : (i, Value.ref x) :: lv.filter (fun q => !(q.1 == i) && !(q.1 + 1 == i && q.2.category == 2)) = lv') (k : EI X M R h Z (pc + 1) lv' st es kc ks) : EI X M R h Z pc lv (.ref x :: st) es kc ks :=
  fun p e s m args below meth c H locs ls C hz hP hS hl => lv_astore_n C.1 C.2.1 hd hi hl hn hq (fun ls' hl' => k p e s m args below meth c H locs ls' C hz hP hS hl')
theorem i_iinc {i : Nat} {n : Int} {x v : Int32} {lv' : List (Nat × Value)} (hd : decode M.2.1 pc = .ok (.iinc i n, 3)) (j : Nat) (hj : lv[j]? = some (i, .int x)) (hv : x + Int32.ofInt n = v) (hn : i < M.2.2.1) (hq : (i, Value.int v) :: lv.filter (fun q => !(q.1 == i) && !(q.1 + 1 == i && q.2.category == 2)) = lv') (k : EI X M R h Z (pc + 3) lv' st es kc ks) : EI X M R h Z pc lv st es kc ks :=
  fun p e s m args below meth c H locs ls C hz hP hS hl => lv_iinc C.1 C.2.1 hd hl hj hv hn hq (fun ls' hl' => k p e s m args below meth c H locs ls' C hz hP hS hl')
theorem i_irem {x y v : Int32} (hd : decode M.2.1 pc = .ok (.irem, 1)) (hne : ¬ y = 0) (hv : ire x y = v) (k : EI X M R h Z (pc + 1) lv (.int v :: st) es kc ks) : EI X M R h Z pc lv (.int y :: .int x :: st) es kc ks := by
  subst hv
  exact fun p e s m args below meth c H locs ls C hz hP hS hl => lv_irem C.1 C.2.1 hd hne (k p e s m args below meth c H locs ls C hz hP hS hl)
theorem i_dup {v : Value} (hd : decode M.2.1 pc = .ok (.dup, 1)) (hv : v.category = 1) (k : EI X M R h Z (pc + 1) lv (v :: v :: st) es kc ks) : EI X M R h Z pc lv (v :: st) es kc ks :=
  fun p e s m args below meth c H locs ls C hz hP hS hl => lv_dup C.1 C.2.1 hd hv (k p e s m args below meth c H locs ls C hz hP hS hl)
theorem i_goto {off : Int} {tgt : Nat} (hd : decode M.2.1 pc = .ok (.goto off, 3)) (ht : (pc : Int) + off = (tgt : Int)) (k : EI X M R h Z tgt lv st es kc ks) : EI X M R h Z pc lv st es kc ks :=
  fun p e s m args below meth c H locs ls C hz hP hS hl => lv_goto C.1 C.2.1 hd ht (k p e s m args below meth c H locs ls C hz hP hS hl)
theorem i_geT {x y : Int32} {off : Int} {tgt : Nat} (hd : decode M.2.1 pc = .ok (.if_icmp .ge off, 3)) (ht : (pc : Int) + off = (tgt : Int)) (hc : y ≤ x) (k : EI X M R h Z tgt lv st es kc ks) : EI X M R h Z pc lv (.int y :: .int x :: st) es kc ks :=
  fun p e s m args below meth c H locs ls C hz hP hS hl => lv_icmp_ge C.1 C.2.1 hd ht (fun _ => k p e s m args below meth c H locs ls C hz hP hS hl) (fun q => absurd hc q)
theorem i_geF {x y : Int32} {off : Int} (tgt : Nat) (hd : decode M.2.1 pc = .ok (.if_icmp .ge off, 3)) (ht : (pc : Int) + off = (tgt : Int)) (hc : ¬ y ≤ x) (k : EI X M R h Z (pc + 3) lv st es kc ks) : EI X M R h Z pc lv (.int y :: .int x :: st) es kc ks :=
  fun p e s m args below meth c H locs ls C hz hP hS hl => lv_icmp_ge C.1 C.2.1 hd ht (fun q => absurd q hc) (fun _ => k p e s m args below meth c H locs ls C hz hP hS hl)
theorem i_neT {x y : Int32} {off : Int} {tgt : Nat} (hd : decode M.2.1 pc = .ok (.if_icmp .ne off, 3)) (ht : (pc : Int) + off = (tgt : Int)) (hc : ¬ x = y) (k : EI X M R h Z tgt lv st es kc ks) : EI X M R h Z pc lv (.int y :: .int x :: st) es kc ks :=
  fun p e s m args below meth c H locs ls C hz hP hS hl => lv_icmp_ne C.1 C.2.1 hd ht (fun _ => k p e s m args below meth c H locs ls C hz hP hS hl) (fun q => absurd q hc)
theorem i_neF {x y : Int32} {off : Int} (tgt : Nat) (hd : decode M.2.1 pc = .ok (.if_icmp .ne off, 3)) (ht : (pc : Int) + off = (tgt : Int)) (hc : x = y) (k : EI X M R h Z (pc + 3) lv st es kc ks) : EI X M R h Z pc lv (.int y :: .int x :: st) es kc ks :=
  fun p e s m args below meth c H locs ls C hz hP hS hl => lv_icmp_ne C.1 C.2.1 hd ht (fun q => absurd hc q) (fun _ => k p e s m args below meth c H locs ls C hz hP hS hl)
theorem i_obj {idx a : Nat} (h1 : Cond.methodLink M.1.cls idx objectInit ∈ tw) (h2 : Cond.instanceMethod objectInit ∈ tw) (h3 : Cond.code objectInit ⟨#[0xb1]⟩ 1 none ∈ tw) (hf : 1 ≤ R.frames) (hlo : 20 ≤ R.locals) (hW : (st.map fun v => v.category).sum ≤ 8) (hd : decode M.2.1 pc = .ok (.invokespecial idx, 3)) (k : EI X M R h Z (pc + 3) lv st es kc ks) : EI X M R h Z pc lv (.ref a :: st) es kc ks := by
  intro p e s m args below meth c H locs ls C hz hP hS hl
  refine W.objInit C.1 C.2.1 C.2.2.2.2.1 (C.2.2.2.2.2.1 _ h1) (C.2.2.2.2.2.1 _ h2) (C.2.2.2.2.2.1 _ h3) rfl (by rw [C.2.2.2.1]; exact hl.1) rfl hd hf ?_ ?_
  · show 2 * 0 + _ + 12 ≤ _
    omega
  · exact k p e s m args below meth c H locs ls C hz hP hS hl
theorem i_grow {s : State} {H H1 : Heap} {locs : List Loc} {en : va_E} (hz : H.size = h + es.length) (hP : va_P (xD X) vwCl (wz h es) H) (hS : va_S (fun q => h ≤ q) s.heap H locs) (z1 : H1.size = H.size + 1) (o1 : ∀ q, q < H.size → H1[q]? = H[q]?) (hn : va_at (xD X) vwCl (h + es.length, en) H1) : H1.size = h + (es ++ [en]).length ∧ va_P (xD X) vwCl (wz h (es ++ [en])) H1 ∧ va_S (fun q => h ≤ q) s.heap H1 locs := by
  refine ⟨by rw [List.length_append]; show _ = h + (es.length + 1); omega, ?_, ⟨Nat.le_trans hS.1 (by omega), fun x h1 h2 => (o1 x (Nat.lt_of_lt_of_le h1 hS.1)).trans (hS.2.1 x h1 h2), hS.2.2⟩⟩
  rw [wz_app]
  refine (hP.kept (fun k x hx => o1 x.1 ((hP k x hx).lt))).app ?_
  intro k q hq
  rw [wz_get] at hq
  match k, hq with
  | 0, hq => cases hq; exact hn
  | k + 1, hq => cases hq
theorem i_newa {at0 : ArrayType} {ty : FieldType} {t0 : Nat} {n : Int32} {N nn : Nat} {a0 : vp_A} {es' : List va_E} (hty : newarray.typeOf at0 = ty) (hw : Cond.arrayClass ty ∈ tw) (ht : (xt X)[t0]? = some (xc X t0, ty)) (hra : ∀ (U : State) (cA : ClassId), va_RA U cA ty = (U.vm.findClass ("[" ++ ty.toString) = some cA)) (ha : ∀ cA : ClassId, vp_cell cA a0 = arrV cA N (fun _ => defaultValue ty)) (hn : ¬ n < 0) (hN : n.toNatClampNeg = N) (hby : N * componentBytes ty ≤ 536870912) (hkc : kc + 1 ≤ R.cells) (hks : ks + N ≤ R.slots) (hlen : es.length = nn) (hes : es ++ [.inl (xc X t0, a0)] = es') (hd : decode M.2.1 pc = .ok (.newarray at0, 2))
    (k : EI X M R h Z (pc + 2) lv (.ref (h + nn) :: st) es' (kc + 1) (ks + N)) : EI X M R h Z pc lv (.int n :: st) es kc ks := by
  subst hty
  subst hes
  subst hlen
  intro p e s m args below meth c H locs ls C hz hP hS hl
  refine va_newaK C.1 C.2.1 (C.2.2.2.2.2.1 _ hw) rfl hd rfl hn hN hby hkc hks hz fun H1 cA e1 z1 o1 hAr hNm => ?_
  have hc : cA = xc X t0 := by
    have := (C.2.2.2.2.2.2.2.2.1.2 t0 _ ht).2
    rw [hra] at this
    exact Option.some.inj (hNm.symm.trans this)
  subst hc
  obtain ⟨g1, g2, g3⟩ := i_grow (en := .inl (xc X t0, a0)) hz hP hS (by omega) (fun q hq => o1 q (by omega)) (show H1[h + es.length]? = some (vp_cell _ _) by rw [ha]; exact e1)
  exact k p e s m args below meth c H1 locs ls C g1 g2 g3 hl
theorem i_newr {n : Int32} {N nn idx : Nat} {es' : List va_E} (hcl : Cond.classLink M.1.cls idx "StoneInLentils$Shelf" ∈ tw) (hn : ¬ n < 0) (hN : n.toNatClampNeg = N) (hby : N * 4 ≤ 536870912) (hkc : kc + 1 ≤ R.cells) (hks : ks + N ≤ R.slots) (hlen : es.length = nn) (hes : es ++ [arR X N (fun _ => none)] = es') (hd : decode M.2.1 pc = .ok (.anewarray idx, 3))
    (k : EI X M R h Z (pc + 3) lv (.ref (h + nn) :: st) es' (kc + 1) (ks + N)) : EI X M R h Z pc lv (.int n :: st) es kc ks := by
  subst hes
  subst hlen
  subst hN
  intro p e s m args below meth c H locs ls C hz hP hS hl
  refine W.anew C.1 C.2.1 C.2.2.2.2.1 (C.2.2.2.2.2.1 _ hcl) (va_AO.use C.2.2.2.2.2.2.2.2.2.2) rfl hd rfl hn hby hkc hks fun cA kA comp f1 f2 f3 f4 => ?_
  have hc : cA = xc X 4 := by
    obtain ⟨kA', comp', -, -, -, k4⟩ := (C.2.2.2.2.2.2.2.2.1.2 4 _ (show (xt X)[4]? = some (xc X 4, .object "StoneInLentils$Shelf") from rfl)).2
    exact Option.some.inj (f1.symm.trans k4)
  subst hc
  obtain ⟨g1, g2, g3⟩ := i_grow (H1 := H.push ({ cls := xc X 4, slots := Array.replicate n.toNatClampNeg .null, vm := .none } : Cell)) (en := arR X n.toNatClampNeg (fun _ => none)) hz hP hS (by rw [Array.size_push]) (fun q hq => by rw [Array.getElem?_push, if_neg (Nat.ne_of_lt hq)]) (by
    show _ = some (vp_cell _ _)
    rw [← hz, Array.getElem?_push_size, vp_cell_q, ← arrV_new]; rfl)
  rw [hz]
  exact k p e s m args below meth c _ locs ls C g1 g2 g3 hl
theorem i_new {C1 : String} {T : u_T} {N ci idx nn : Nat} {ty : Nat → FieldType} {fs : List Value} {es' : List va_E} (hc : Kc ci C1 T N ty) (hcl : Cond.classLink M.1.cls idx C1 ∈ tw) (hin : Cond.instantiable C1 N ∈ tw) (hini : Cond.initialized C1 ∈ tw) (hfs : ∀ j, j < N → defaultValue (ty j) = vp_V fs j) (hkc : kc + 1 ≤ R.cells) (hks : ks + N ≤ R.slots) (hlen : es.length = nn) (hes : es ++ [.inr (ci, fs)] = es') (hd : decode M.2.1 pc = .ok (.new idx, 3))
    (k : EI X M R h Z (pc + 3) lv (.ref (h + nn) :: st) es' (kc + 1) (ks + N)) : EI X M R h Z pc lv st es kc ks := by
  subst hes
  subst hlen
  intro p e s m args below meth c H locs ls C hz hP hS hl
  have hKn := C.2.2.2.2.2.2.2.2.1.1 ci _ hc.1
  refine W.newcK C.1 C.2.1 C.2.2.2.2.1 (C.2.2.2.2.2.1 _ hcl) (C.2.2.2.2.2.1 _ hin) (C.2.2.2.2.2.1 _ hini) rfl hd hkc hks hKn.2.1 hz fun H1 kC hkC e1 z1 o1 => ?_
  obtain ⟨g1, g2, g3⟩ := i_grow (en := .inr (ci, fs)) hz hP hS (by omega) (fun q hq => o1 q (by omega)) (show va_at _ _ _ _ from ⟨_, hc.1, (u_born ty C.2.2.2.2.2.1 hc.2.2.1 hKn hkC e1 hc.2.2.2.1).to hfs⟩)
  exact k p e s m args below meth c H1 locs ls C g1 g2 g3 hl
theorem i_kept {s : State} {H H1 : Heap} {locs : List Loc} {a sl j : Nat} {e0 en : va_E} (hz : H.size = h + es.length) (hP : va_P (xD X) vwCl (wz h es) H) (hS : va_S (fun q => h ≤ q) s.heap H locs) (he : es[j]? = some e0) (ha : a = h + j) (hn : va_at (xD X) vwCl (h + j, en) H1) (z1 : H1.size = H.size) (o1 : ∀ q, q ≠ a → H1[q]? = H[q]?) : H1.size = h + (es.set j en).length ∧ va_P (xD X) vwCl (wz h (es.set j en)) H1 ∧ va_S (fun q => h ≤ q) s.heap H1 (locs ++ [{ base := a, slot := sl }]) := by
  subst ha
  refine ⟨by rw [z1, hz, List.length_set], ?_, ⟨by rw [z1]; exact hS.1, fun q g1 g2 => ?_, fun l hl => ?_⟩⟩
  · rw [← wz_set]
    exact hP.set wz_D (wz_at he) hn o1
  · have : ¬ h ≤ q := g2
    rw [o1 q (by omega)]
    exact hS.2.1 q g1 g2
  · rcases List.mem_append.mp hl with g | g
    · exact hS.2.2 l g
    · rw [List.mem_singleton.mp g]
      show h ≤ h + j
      omega
theorem i_put {C1 : String} {T : u_T} {N ci idx a j kf : Nat} {ty : Nat → FieldType} {fs : List Value} {v : Value} {es' : List va_E} (hc : Kc ci C1 T N ty) (ha : a = h + j) (he : es[j]? = some (.inr (ci, fs))) (hk : kf < N) (hfin : (T kf).2.2.2 = false ∨ ((T kf).2.2.2 = true ∧ (T kf).1 = M.1.cls ∧ M.1.name = "<init>")) (hw : Cond.fieldLink M.1.cls idx (T kf).1 (T kf).2.1 (T kf).2.2.1 ∈ tw) (hn : narrow (ty kf) v = v) (hfit : fits (ty kf) v = true) (hl0 : kf < fs.length) (hes : es.set j (.inr (ci, fs.set kf v)) = es') (hd : decode M.2.1 pc = .ok (.putfield idx, 3))
    (k : EI X M R h Z (pc + 3) lv st es' kc ks) : EI X M R h Z pc lv (v :: .ref a :: st) es kc ks := by
  subst hes
  subst ha
  intro p e s m args below meth c H locs ls C hz hP hS hl
  have hK := C.2.2.2.2.2.2.2.2.1
  have hts := C.2.2.2.2.2.1
  have hap := va_apart (own := M.1.cls) hts hc.2.2.1 ty hc.2.2.2.1 hc.2.2.2.2 hK hc.1
  obtain ⟨r, h1, cell, q1, q2, q3, q4⟩ := hP j _ (wz_at he)
  have hr : r = (C1, T, N) := Option.some.inj (h1.symm.trans hc.1)
  subst hr
  obtain ⟨hSl, hfc, kC, hkC, hkind⟩ := hK.1 ci _ hc.1
  obtain ⟨cf, kk, fi, f, hi, hsl⟩ := hSl kf hk
  have hst := (u_facts hfc hkC (u_lays hts hc.2.2.1 hk) hi).1
  have hlay := hts _ (hc.2.2.1 _ (u_in_lay hk))
  unfold u_lay at hlay
  rcases hfin with hfin | ⟨hfin, hdecl, hini⟩
  · rw [if_neg (by rw [hfin]; decide)] at hlay
    have h6 := u_store hfc hkC hkind hlay hi (hc.2.2.2.1 kf hk) hn hfit
    refine W.putK C.1 C.2.1 (f := f) ⟨C.2.2.2.2.1, hts _ hw, ⟨_, _, _, hi⟩, hst⟩ (by rw [q2]; exact h6) q1 q3 (by rw [hsl]; exact k2_hasslot (q4 kf hk)) rfl rfl hd fun H' e1 e2 e3 => ?_
    rw [hsl] at e1 ⊢
    obtain ⟨g1, g2, g3⟩ := i_kept (en := .inr (ci, fs.set kf v)) (sl := (xD X).2 ci kf) hz hP hS he rfl ⟨_, hc.1, t_OB.to (V := updV (vp_V fs) kf v) ⟨_, e1, q2, q3, t_set q4 hap hk v⟩ (fun j _ => vp_updV_set hl0 v j)⟩ e2 e3
    exact k p e s m args below meth c H' _ ls C g1 g2 g3 hl
  · rw [if_pos hfin] at hlay
    have hcf : m.cls = cf := by
      obtain ⟨_, _, c', _, _, _, -, -, hf', -, -, -, hown2, -⟩ := Cond.laysFinal_spec hlay
      have e1 : c' = cf := by have := hi.symm.trans hf'; simp at this; exact this.1.symm
      rw [hdecl] at hown2
      rw [← e1]; exact Option.some.inj (C.2.2.2.2.1.symm.trans hown2)
    have h6 := u_fits hfc hkC hkind (Or.inr hlay) hi (hc.2.2.2.1 kf hk) hn hfit
    refine W.putFinK C.1 C.2.1 C.2.2.2.2.1 (hts _ hw) hi hst hcf (C.2.2.2.2.2.2.2.1 hini) (by rw [q2]; exact h6) q1 q3 (by rw [hsl]; exact k2_hasslot (q4 kf hk)) rfl rfl hd fun H' e1 e2 e3 => ?_
    rw [hsl] at e1 ⊢
    obtain ⟨g1, g2, g3⟩ := i_kept (en := .inr (ci, fs.set kf v)) (sl := (xD X).2 ci kf) hz hP hS he rfl ⟨_, hc.1, t_OB.to (V := updV (vp_V fs) kf v) ⟨_, e1, q2, q3, t_set q4 hap hk v⟩ (fun j _ => vp_updV_set hl0 v j)⟩ e2 e3
    exact k p e s m args below meth c H' _ ls C g1 g2 g3 hl
theorem i_get {C1 : String} {T : u_T} {N ci idx a j kf : Nat} {ty : Nat → FieldType} {fs : List Value} {v : Value} (hc : Kc ci C1 T N ty) (ha : a = h + j) (he : es[j]? = some (.inr (ci, fs))) (hk : kf < N) (hw : Cond.fieldLink M.1.cls idx (T kf).1 (T kf).2.1 (T kf).2.2.1 ∈ tw) (hv : fs[kf]? = some v) (hd : decode M.2.1 pc = .ok (.getfield idx, 3))
    (k : EI X M R h Z (pc + 3) lv (v :: st) es kc ks) : EI X M R h Z pc lv (.ref a :: st) es kc ks := by
  subst ha
  intro p e s m args below meth c H locs ls C hz hP hS hl
  exact va_get C.1 C.2.1 C.2.2.2.2.2.1 hc.2.2.1 C.2.2.2.2.1 C.2.2.2.2.2.2.2.2.1 hP j (wz_at he) hc.1 kf hk (C.2.2.2.2.2.1 _ hw) (fun _ h => h) hv hd (k p e s m args below meth c H locs ls C hz hP hS hl)
theorem i_iast {a j n ik : Nat} {i x : Int32} {f : Nat → Int32} {es' : List va_E} (ha : a = h + j) (he : es[j]? = some (.inl (xc X 0, n, .inl f))) (hik : i.toNatClampNeg = ik) (hin : ¬ i < 0) (hlt : ik < n) (hes : es.set j (.inl (xc X 0, n, .inl (upd f ik x))) = es') (hd : decode M.2.1 pc = .ok (.iastore, 1))
    (k : EI X M R h Z (pc + 1) lv st es' kc ks) : EI X M R h Z pc lv (.int x :: .int i :: .ref a :: st) es kc ks := by
  subst hes
  subst ha
  subst hik
  intro p e s m args below meth c H locs ls C hz hP hS hl
  have hK := C.2.2.2.2.2.2.2.2.1
  refine W.iast C.1 C.2.1 (hP j _ (wz_at he)) ((hK.2 0 _ (show (xt X)[0]? = some (xc X 0, .int) from rfl)).1 n (fun j => .int (f j))) (fun q => by cases q) (by show ¬ (i < 0 ∨ (arrV _ _ _).slots.size ≤ _); rw [arrV_size]; exact fun q => q.elim hin (fun q => absurd hlt (Nat.not_lt.mpr q))) rfl rfl hd fun H1 e1 z oq => ?_
  obtain ⟨g1, g2, g3⟩ := i_kept (en := .inl (xc X 0, n, .inl (upd f i.toNatClampNeg x))) (sl := i.toNatClampNeg) hz hP hS he rfl (by
    show H1[h + j]? = some (vp_cell _ _)
    rw [e1, vp_cell_i, vp_cell_i, arrV_store]
    congr 2
    funext q
    by_cases hq : q = i.toNatClampNeg
    · subst hq
      simp [updV, upd]
    · simp [updV, upd, hq]) z oq
  exact k p e s m args below meth c H1 _ ls C g1 g2 g3 hl
theorem i_aast {a j n ik jv vv ci : Nat} {i : Int32} {f : Nat → Option Nat} {vs : List Value} {T : u_T} {N : Nat} {es' : List va_E} (ha : a = h + j) (hvv : vv = h + jv) (he : es[j]? = some (arR X n f)) (hev : es[jv]? = some (.inr (ci, vs))) (hc : vwCl[ci]? = some ("StoneInLentils$Shelf", T, N)) (hik : i.toNatClampNeg = ik) (hin : ¬ i < 0) (hlt : ik < n) (hes : es.set j (arR X n (va_up f ik (some vv))) = es') (hd : decode M.2.1 pc = .ok (.aastore, 1))
    (k : EI X M R h Z (pc + 1) lv st es' kc ks) : EI X M R h Z pc lv (.ref vv :: .int i :: .ref a :: st) es kc ks := by
  subst hes
  subst ha
  subst hik
  subst hvv
  intro p e s m args below meth c H locs ls C hz hP hS hl
  have hK := C.2.2.2.2.2.2.2.2.1
  obtain ⟨r', hr', cellV, b1, b2, b3, -⟩ := hP jv _ (wz_at hev)
  have hcls := (hK.1 ci _ hc).2
  obtain ⟨kA, comp, k1, k2, k3, -⟩ := (hK.2 4 _ (show (xt X)[4]? = some (xc X 4, .object "StoneInLentils$Shelf") from rfl)).2
  have hcomp : comp = (xD X).1 ci := Option.some.inj (k3.symm.trans hcls.1)
  subst hcomp
  have hcls2 := hcls
  obtain ⟨kC, hkC, -⟩ := hcls2.2
  refine W.aast C.1 C.2.1 (hP j _ (wz_at he)) (fun q h => by cases h) (fun h => by cases h) k1 k2 rfl hkC ⟨hin, by show _ < (arrV _ _ _).slots.size; rw [arrV_size]; exact hlt⟩ b1 (fun q h => by rw [b3] at h; cases h) (by rw [b2]; exact hkC) (by rw [b2]; exact va_assign hcls) rfl rfl hd fun H1 e1 z oq => ?_
  obtain ⟨g1, g2, g3⟩ := i_kept (en := arR X n (va_up f i.toNatClampNeg (some (h + jv)))) (sl := i.toNatClampNeg) hz hP hS he rfl (by
    show H1[h + j]? = some (vp_cell _ _)
    rw [e1, vp_cell_q, vp_cell_q, arrV_store]
    congr 2
    funext q
    by_cases hq : q = i.toNatClampNeg
    · subst hq
      simp [updV, va_up, va_rf]
    · simp [updV, va_up, hq]) z oq
  exact k p e s m args below meth c H1 _ ls C g1 g2 g3 hl
theorem i_ret {mc ms : Nat} {F : List va_E} (hr : M.2.2.2 = none) (hF : es = F) (hkc : kc = mc) (hks : ks = ms) (hd : decode M.2.1 pc = .ok (.return_, 1)) : EI X M R h (Zi X h F mc ms) pc lv [] es kc ks := by
  subst hF
  subst hkc
  subst hks
  intro p e s m args below meth c H locs ls C hz hP hS hl
  exact W.vret C.1 C.2.1 (C.2.2.1.trans hr) (fun t ht _ => ⟨⟨rfl, by rw [ht]; exact hz, by rw [ht]; exact hP⟩, hS.F ht⟩) (fun q hq => hS.2.2 q hq) hd C.2.2.2.2.2.2.1
/-- a call of a constructor, however it is linked -/
theorem i_run {M2 : Mt} {d2 mc ms ci nn : Nat} {fs0 : List Value} {F : Nat → List va_E} {es0 es' : List va_E} {rest : List Value}
    (hrun : ∀ (p : Program) (e : Env) (s : State) (m : MethodId) (args : Array Value) (below : List Frame) (meth : Method) (c : Code) (H : Heap) (locs : List Loc) (ls : Array Slot), CxI X M p s m args meth c → ls.size = M.2.2.1 → PreS s H (va_Pc [.ref (h + nn)] (fun U => U.heap.size = h + nn + 1 ∧ va_P (xD X) vwCl (wz (h + nn) [.inr (ci, fs0)]) U.heap ∧ KI X U)) [.ref (h + nn)] →
      va_Run p X.1 e R s m args below meth c H locs kc ks mc ms (F0 m pc ls (.ref (h + nn) :: rest)) rest (Qi X (h + nn) (F (h + nn)) #[.ref (h + nn)]) (fun q => h + nn ≤ q))
    (hes0 : es = es0 ++ [.inr (ci, fs0)]) (hn : es0.length = nn) (hes : es0 ++ F (h + nn) = es') (k : EI X M R h Z (pc + 3) lv rest es' (kc + mc) (ks + ms)) : EI X M R h Z pc lv (.ref (h + nn) :: rest) es kc ks := by
  subst hes0
  subst hn
  subst hes
  intro p e s m args below meth c H locs ls C hz hP hS hl
  have hP0 := hP
  rw [wz_app] at hP0
  have hPl : va_P (xD X) vwCl (wz h es0) H := fun i q hq => hP0 i q (by rw [List.getElem?_append_left (List.getElem?_eq_some_iff.mp hq).1]; exact hq)
  have hPr : va_P (xD X) vwCl (wz (h + es0.length) [.inr (ci, fs0)]) H := fun i q hq => hP0 ((wz h es0).length + i) q (by rw [List.getElem?_append_right (by omega), Nat.add_sub_cancel_left]; exact hq)
  have hz2 : H.size = h + es0.length + 1 := by rw [hz, List.length_append]; rfl
  have hr := hrun p e s m args below meth c H locs ls C hl.1 ⟨fun aa U g' mk q => ⟨q.1, q.2.1, q.2.2.1, KI_calling q.2.2.2⟩, fun U hU hW => ⟨rfl, by rw [hU]; exact hz2, by rw [hU]; exact hPr, KI_warm C.2.2.2.2.2.2.2.2 hW⟩⟩
  intro T0 hT X0
  obtain ⟨v, st₀, t, T', Lc, h0, X', hL, e1, e2, ⟨⟨hv, hzt, hPt⟩, hz3, hkk⟩, hgo⟩ := hr T0 hT X0
  cases hv
  rw [h0] at hz3 hkk
  have hS1 : va_S (fun q => h ≤ q) s.heap T'.heap (locs ++ Lc) := ⟨Nat.le_trans hS.1 (by rw [e1]; exact hz3), fun q g1 g2 => by
      have g3 : ¬ h ≤ q := g2
      rw [e1, hkk q (Nat.lt_of_lt_of_le g1 hS.1) (by omega)]
      exact hS.2.1 q g1 g2, fun q hq => by
      rcases List.mem_append.mp hq with g | g
      · exact hS.2.2 q g
      · have g9 : h + es0.length ≤ q.base := hL q g
        show h ≤ q.base
        omega⟩
  have hP1 : va_P (xD X) vwCl (wz h (es0 ++ F (h + es0.length))) T'.heap := by
    rw [wz_app]
    refine va_P.app (hPl.kept (fun i q hq => ?_)) (by rw [e1]; exact hPt)
    have hb : q.1 < h + es0.length := by
      rw [wz_get] at hq
      cases he : es0[i]? with
      | none => rw [he] at hq; cases hq
      | some en =>
        rw [he] at hq
        cases hq
        have := (List.getElem?_eq_some_iff.mp he).1
        show h + i < _
        omega
    rw [e1]
    exact hkk q.1 (by omega) (by omega)
  obtain ⟨t2, b1, b2⟩ := k p e s m args below meth c T'.heap (locs ++ Lc) ls C (by rw [e1, hzt, List.length_append]; omega) hP1 hS1 hl T' rfl X'
  exact ⟨t2, hgo t2 b1, b2⟩
theorem i_call {M2 : Mt} {d2 mc ms ci nn idx : Nat} {fs0 : List Value} {F : Nat → List va_E} {es0 es' : List va_E} {rest : List Value} (hM : CI X M2 d2 mc ms ci fs0 F) (hr2 : M2.2.2.2 = none) (hln : Cond.methodLink M.1.cls idx M2.1 ∈ tw) (him : Cond.instanceMethod M2.1 ∈ tw) (hini : Cond.initialized M2.1.cls ∈ tw) (hcw : codeW M2 ∈ tw) (hnm : M2.1.name = "<init>") (hmh : notMH M2) (hpd : (parseMethodDescriptor M2.1.desc).map (fun d => d.parameters.length) = some 0) (hR : d2 + 1 ≤ R.frames ∧ 8 + (M2.2.2.1 + 11) + 40 * d2 ≤ R.locals) (hkc : kc + mc ≤ R.cells) (hks : ks + ms ≤ R.slots) (hW : (rest.map fun v => v.category).sum ≤ 8) (hd : decode M.2.1 pc = .ok (.invokespecial idx, 3))
    (hes0 : es = es0 ++ [.inr (ci, fs0)]) (hn : es0.length = nn) (hes : es0 ++ F (h + nn) = es') (k : EI X M R h Z (pc + 3) lv rest es' (kc + mc) (ks + ms)) : EI X M R h Z pc lv (.ref (h + nn) :: rest) es kc ks := by
  refine i_run (M2 := M2) (d2 := d2) (fun p e s m args below meth c H locs ls C hsz hpre => ?_) hes0 hn hes k
  have hcb : CallB R s args M.1.cls idx M2.1 M2.2.1 M2.2.2.1 none (codeW M2 :: tw) (rmi d2 mc ms) mc ms 0 := by
    rw [← hr2]
    exact callB_of (Ts := tw) (ws' := tw) 0 C.2.2.2.2.2.1 (fun w hw => by
      rcases List.mem_cons.mp hw with rfl | g
      · exact ⟨hcw, tw_good hcw⟩
      · exact ⟨g, tw_good g⟩) rfl rfl rfl (C.2.2.2.2.2.1 _ hini) (C.2.2.2.2.2.1 _ hln) ⟨hmh.1, hmh.2, hpd⟩ hR
  exact va_runI (As := []) (Ts := tw) ⟨C.1, C.2.1, C.2.2.2.1, C.2.2.2.2.1, C.2.2.2.2.2.1⟩ (hM (h + nn)) ⟨hcb, hnm, C.2.2.2.2.2.1 _ him⟩ hpre rfl rfl hsz rfl (lv_room hW) hd ⟨hkc, hks⟩
theorem i_callN {M2 : Mt} {d2 mc ms ci nn idx : Nat} {host : String} {fs0 : List Value} {F : Nat → List va_E} {es0 es' : List va_E} {rest : List Value} (hM : CI X M2 d2 mc ms ci fs0 F) (hr2 : M2.2.2.2 = none) (hln : (M.1.cls, idx, M2.1, host) ∈ nsiL) (him : Cond.instanceMethod M2.1 ∈ tw) (hini : Cond.initialized M2.1.cls ∈ tw) (hcw : codeW M2 ∈ tw) (hnm : M2.1.name = "<init>") (hmh : notMH M2) (hpd : (parseMethodDescriptor M2.1.desc).map (fun d => d.parameters.length) = some 0) (hR : d2 + 1 ≤ R.frames ∧ 8 + (M2.2.2.1 + 11) + 40 * d2 ≤ R.locals) (hkc : kc + mc ≤ R.cells) (hks : ks + ms ≤ R.slots) (hW : (rest.map fun v => v.category).sum ≤ 8) (hd : decode M.2.1 pc = .ok (.invokespecial idx, 3))
    (hes0 : es = es0 ++ [.inr (ci, fs0)]) (hn : es0.length = nn) (hes : es0 ++ F (h + nn) = es') (k : EI X M R h Z (pc + 3) lv rest es' (kc + mc) (ks + ms)) : EI X M R h Z pc lv (.ref (h + nn) :: rest) es kc ks := by
  refine i_run (M2 := M2) (d2 := d2) (fun p e s m args below meth c H locs ls C hsz hpre => ?_) hes0 hn hes k
  have hcb : va_CN R s args M.1.cls idx M2.1 host M2.2.1 M2.2.2.1 none (codeW M2 :: tw) (rmi d2 mc ms) mc ms 0 := by
    rw [← hr2]
    exact va_cnB (Ts := tw) (ws' := tw) 0 C.2.2.2.2.2.1 (fun w hw => by
      rcases List.mem_cons.mp hw with rfl | g
      · exact ⟨hcw, tw_good hcw⟩
      · exact ⟨g, tw_good g⟩) rfl rfl rfl (C.2.2.2.2.2.2.2.2.2.1 _ hln) (C.2.2.2.2.2.1 _ hini) ⟨hmh.1, hmh.2, hpd⟩ hR
  exact va_runIN (As := []) (Ts := tw) ⟨C.1, C.2.1, C.2.2.2.1, C.2.2.2.2.1, C.2.2.2.2.2.1⟩ (hM (h + nn)) ⟨hcb, hnm, C.2.2.2.2.2.1 _ him⟩ hpre rfl rfl hsz rfl (lv_room hW) hd ⟨hkc, hks⟩
end IR
