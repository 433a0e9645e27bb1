section ER
variable {σ : Type} {g : σ → Option Value × Wd} {X : Xt} {M : Mt} {d pc : Nat} {lv : List (Nat × Value)} {st : List Value} {w : Wd} {o : Option σ}
def lt {α β : Type} (a : α) (k : α → β) : β := k a
def ire (x y : Int32) : Int32 := x - x / y * y
def lre (x y : Int64) : Int64 := x - x / y * y
def ishl (x y : Int32) : Int32 := x <<< (y &&& 31)
def iushr (x y : Int32) : Int32 := (x.toUInt32 >>> (y.toUInt32 &&& Int32.toUInt32 31)).toInt32
def lshl (x : Int64) (y : Int32) : Int64 := x <<< (y.toInt64 &&& 63)
def i2b (x : Int32) : Int32 := x.toInt8.toInt32
def i2s (x : Int32) : Int32 := x.toInt16.toInt32
def imax (x y : Int32) : Int32 := if x < y then y else x
def imin (x y : Int32) : Int32 := if y < x then y else x
def labs (x : Int64) : Int64 := if 0 < x then x else -x
def stI (w : Wd) (c j : Nat) (v : Int32) (k : Wd → Option σ) : Option σ := k (si w c j v)
def stZ (w : Wd) (c j : Nat) (v : Int32) (k : Wd → Option σ) : Option σ := if v = 0 ∨ v = 1 then k (si w c j v) else none
def stL (w : Wd) (c j : Nat) (v : Int64) (k : Wd → Option σ) : Option σ := k (sl w c j v)
def saI (w : Wd) (c n : Nat) (i v : Int32) (k : Wd → Option σ) : Option σ := if inb i n then k (si w c (ix i) v) else none
def saL (w : Wd) (c n : Nat) (i : Int32) (v : Int64) (k : Wd → Option σ) : Option σ := if inb i n then k (sl w c (ix i) v) else none
def ldI (w : Wd) (c n : Nat) (i : Int32) (k : Int32 → Option σ) : Option σ := if inb i n then k (gi w c (ix i)) else none
def ldL (w : Wd) (c n : Nat) (i : Int32) (k : Int64 → Option σ) : Option σ := if inb i n then k (gl w c (ix i)) else none
def ltI (t : Nat → Int32) (n : Nat) (i : Int32) (k : Int32 → Option σ) : Option σ := if inb i n then k (t (ix i)) else none
def ltL (t : Nat → Int64) (n : Nat) (i : Int32) (k : Int64 → Option σ) : Option σ := if inb i n then k (t (ix i)) else none
def ldR (i : Int32) (k : Nat → Option σ) : Option σ := if inb i 6 then k (42 + 2 * ix i) else none
def dvI (x y : Int32) (k : Int32 → Option σ) : Option σ := if y = 0 then none else k (x / y)
def rmI (x y : Int32) (k : Int32 → Option σ) : Option σ := if y = 0 then none else k (ire x y)
def dvL (x y : Int64) (k : Int64 → Option σ) : Option σ := if y = 0 then none else k (x / y)
def rmL (x y : Int64) (k : Int64 → Option σ) : Option σ := if y = 0 then none else k (lre x y)
abbrev cyok (n0 n1 : Nat) (sp dp n : Int32) : Prop := 0 ≤ sp.toInt ∧ 0 ≤ dp.toInt ∧ 0 ≤ n.toInt ∧ sp.toInt + n.toInt ≤ (n0 : Int) ∧ dp.toInt + n.toInt ≤ (n1 : Int)
def cyI (w : Wd) (cs n0 cd n1 : Nat) (sp dp n : Int32) (k : Wd → Option σ) : Option σ := if cyok n0 n1 sp dp n then k (cpI w cs cd (ix sp) (ix dp) (ix n)) else none
def cyL (w : Wd) (cs n0 cd n1 : Nat) (sp dp n : Int32) (k : Wd → Option σ) : Option σ := if cyok n0 n1 sp dp n then k (cpL w cs cd (ix sp) (ix dp) (ix n)) else none
def zb (v : Int32) (k : Option σ) : Option σ := if v = 0 ∨ v = 1 then k else none
def bR {α : Type} (a : Option α) (k : α → Option σ) : Option σ := a.bind k
def bW {α : Type} (a : Option (α × Wd)) (k : α → Wd → Option σ) : Option σ := a.bind (fun q => k q.1 q.2)
def bV (a : Option Wd) (k : Wd → Option σ) : Option σ := a.bind k
def isSh (c : Nat) : Prop := ∃ j, j < 6 ∧ c = 42 + 2 * j
def isShf (c : Nat) : Prop := kd c = (0, 9) ∧ kd (c + 1) = (4, 60)
def isCh (c : Nat) : Prop := kd c = (0, 1) ∧ kd (c + 1) = (4, 20)
def isDe (c : Nat) : Prop := kd c = (0, 2)
def isA24 (c : Nat) : Prop := kd c = (1, 24)
theorem isShf_of {c : Nat} (h : isSh c) : isShf c := by
  obtain ⟨j, hj, rfl⟩ := h
  rcases (by omega : j = 0 ∨ j = 1 ∨ j = 2 ∨ j = 3 ∨ j = 4 ∨ j = 5) with rfl | rfl | rfl | rfl | rfl | rfl <;> exact ⟨rfl, rfl⟩
def gRI (w : Wd) : Int32 → Option Value × Wd := fun r => (some (.int r), w)
def gRL (w : Wd) : Int64 → Option Value × Wd := fun r => (some (.long r), w)
def gWI : Int32 × Wd → Option Value × Wd := fun a => (some (.int a.1), a.2)
def gWL : Int64 × Wd → Option Value × Wd := fun a => (some (.long a.1), a.2)
def gWV : Wd → Option Value × Wd := fun a => (none, a)
theorem e_iconst {n : Int} {v : Int32} (hd : decode M.2.1 pc = .ok (.iconst n, 1)) (hv : Int32.ofInt n = v) (k : E g X M d (pc + 1) lv (.int v :: st) w o) : E g X M d pc lv (st) w o :=
  fun a ha p e s m args below meth c H locs ls C hP hS hl => lv_iconst C.1 C.2.1 hd hv (k a ha p e s m args below meth c H locs ls C hP hS hl)
theorem e_bipush {n : Int} {v : Int32} (hd : decode M.2.1 pc = .ok (.bipush n, 2)) (hv : (Int8.ofInt n).toInt32 = v) (k : E g X M d (pc + 2) lv (.int v :: st) w o) : E g X M d pc lv (st) w o :=
  fun a ha p e s m args below meth c H locs ls C hP hS hl => lv_bipush C.1 C.2.1 hd hv (k a ha p e s m args below meth c H locs ls C hP hS hl)
theorem e_sipush {n : Int} {v : Int32} (hd : decode M.2.1 pc = .ok (.sipush n, 3)) (hv : (Int16.ofInt n).toInt32 = v) (k : E g X M d (pc + 3) lv (.int v :: st) w o) : E g X M d pc lv (st) w o :=
  fun a ha p e s m args below meth c H locs ls C hP hS hl => lv_sipush C.1 C.2.1 hd hv (k a ha p e s m args below meth c H locs ls C hP hS hl)
theorem e_lconst {n : Fin 2} {v : Int64} (hd : decode M.2.1 pc = .ok (.lconst n, 1)) (hv : Int64.ofNat (n : Nat) = v) (k : E g X M d (pc + 1) lv (.long v :: st) w o) : E g X M d pc lv (st) w o :=
  fun a ha p e s m args below meth c H locs ls C hP hS hl => lv_lconst C.1 C.2.1 hd hv (k a ha p e s m args below meth c H locs ls C hP hS hl)
theorem e_iload_n {q : Fin 4} {i : Nat} {x : Int32} (hd : decode M.2.1 pc = .ok (.iload_n q, 1)) (j : Nat) (hj : lv[j]? = some (i, .int x)) (hi : (q : Nat) = i) (k : E g X M d (pc + 1) lv (.int x :: st) w o) : E g X M d pc lv (st) w o :=
  fun a ha p e s m args below meth c H locs ls C hP hS hl => lv_iload_n C.1 C.2.1 hd hi (lv_at hl j hj) (k a ha p e s m args below meth c H locs ls C hP hS hl)
theorem e_iload {i : Nat} {x : Int32} (hd : decode M.2.1 pc = .ok (.iload i, 2)) (j : Nat) (hj : lv[j]? = some (i, .int x)) (k : E g X M d (pc + 2) lv (.int x :: st) w o) : E g X M d pc lv (st) w o :=
  fun a ha p e s m args below meth c H locs ls C hP hS hl => lv_iload C.1 C.2.1 hd (lv_at hl j hj) (k a ha p e s m args below meth c H locs ls C hP hS hl)
theorem e_istore_n {q : Fin 4} {i : Nat} {x : Int32} {lv' : List (Nat × Value)} (hd : decode M.2.1 pc = .ok (.istore_n q, 1)) (hi : (q : Nat) = i) (hn : i < M.2.2.1) (hq : (i, Value.int x) :: lv.filter (fun q => !(q.1 == i) && !(q.1 + 1 == i && q.2.category == 2)) = lv') (k : E g X M d (pc + 1) lv' st w o) : E g X M d pc lv (.int x :: st) w o :=
  fun a ha p e s m args below meth c H locs ls C hP hS hl => lv_istore_n C.1 C.2.1 hd hi hl hn hq (fun ls' hl' => k a ha p e s m args below meth c H locs ls' C hP hS hl')
theorem e_istore {i : Nat} {x : Int32} {lv' : List (Nat × Value)} (hd : decode M.2.1 pc = .ok (.istore i, 2)) (hn : i < M.2.2.1) (hq : (i, Value.int x) :: lv.filter (fun q => !(q.1 == i) && !(q.1 + 1 == i && q.2.category == 2)) = lv') (k : E g X M d (pc + 2) lv' st w o) : E g X M d pc lv (.int x :: st) w o :=
  fun a ha p e s m args below meth c H locs ls C hP hS hl => lv_istore C.1 C.2.1 hd hl hn hq (fun ls' hl' => k a ha p e s m args below meth c H locs ls' C hP hS hl')
theorem e_lload_n {q : Fin 4} {i : Nat} {x : Int64} (hd : decode M.2.1 pc = .ok (.lload_n q, 1)) (j : Nat) (hj : lv[j]? = some (i, .long x)) (hi : (q : Nat) = i) (k : E g X M d (pc + 1) lv (.long x :: st) w o) : E g X M d pc lv (st) w o :=
  fun a ha p e s m args below meth c H locs ls C hP hS hl => lv_lload_n C.1 C.2.1 hd hi (lv_at hl j hj) (k a ha p e s m args below meth c H locs ls C hP hS hl)
theorem e_lload {i : Nat} {x : Int64} (hd : decode M.2.1 pc = .ok (.lload i, 2)) (j : Nat) (hj : lv[j]? = some (i, .long x)) (k : E g X M d (pc + 2) lv (.long x :: st) w o) : E g X M d pc lv (st) w o :=
  fun a ha p e s m args below meth c H locs ls C hP hS hl => lv_lload C.1 C.2.1 hd (lv_at hl j hj) (k a ha p e s m args below meth c H locs ls C hP hS hl)
theorem e_lstore_n {q : Fin 4} {i : Nat} {x : Int64} {lv' : List (Nat × Value)} (hd : decode M.2.1 pc = .ok (.lstore_n q, 1)) (hi : (q : Nat) = i) (hn : i + 1 < M.2.2.1) (hq : (i, Value.long x) :: lv.filter (fun q => !(q.1 == i) && (!(q.1 == i + 1) && !(q.1 + 1 == i && q.2.category == 2))) = lv') (k : E g X M d (pc + 1) lv' st w o) : E g X M d pc lv (.long x :: st) w o :=
  fun a ha p e s m args below meth c H locs ls C hP hS hl => lv_lstore_n C.1 C.2.1 hd hi hl hn hq (fun ls' hl' => k a ha p e s m args below meth c H locs ls' C hP hS hl')
theorem e_lstore {i : Nat} {x : Int64} {lv' : List (Nat × Value)} (hd : decode M.2.1 pc = .ok (.lstore i, 2)) (hn : i + 1 < M.2.2.1) (hq : (i, Value.long x) :: lv.filter (fun q => !(q.1 == i) && (!(q.1 == i + 1) && !(q.1 + 1 == i && q.2.category == 2))) = lv') (k : E g X M d (pc + 2) lv' st w o) : E g X M d pc lv (.long x :: st) w o :=
  fun a ha p e s m args below meth c H locs ls C hP hS hl => lv_lstore C.1 C.2.1 hd hl hn hq (fun ls' hl' => k a ha p e s m args below meth c H locs ls' C hP hS hl')
theorem e_aload_n {q : Fin 4} {i : Nat} {x : Nat} (hd : decode M.2.1 pc = .ok (.aload_n q, 1)) (j : Nat) (hj : lv[j]? = some (i, .ref x)) (hi : (q : Nat) = i) (k : E g X M d (pc + 1) lv (.ref x :: st) w o) : E g X M d pc lv (st) w o :=
  fun a ha p e s m args below meth c H locs ls C hP hS hl => lv_aload_n C.1 C.2.1 hd hi (lv_at hl j hj) (k a ha p e s m args below meth c H locs ls C hP hS hl)
theorem e_aload {i : Nat} {x : Nat} (hd : decode M.2.1 pc = .ok (.aload i, 2)) (j : Nat) (hj : lv[j]? = some (i, .ref x)) (k : E g X M d (pc + 2) lv (.ref x :: st) w o) : E g X M d pc lv (st) w o :=
  fun a ha p e s m args below meth c H locs ls C hP hS hl => lv_aload C.1 C.2.1 hd (lv_at hl j hj) (k a ha p e s m args below meth c H locs ls C hP hS hl)
theorem e_astore_n {q : Fin 4} {i : Nat} {x : Nat} {lv' : List (Nat × Value)} (hd : decode M.2.1 pc = .ok (.astore_n q, 1)) (hi : (q : Nat) = i) (hn : i < M.2.2.1) (hq : (i, Value.ref x) :: lv.filter (fun q => !(q.1 == i) && !(q.1 + 1 == i && q.2.category == 2)) = lv') (k : E g X M d (pc + 1) lv' st w o) : E g X M d pc lv (.ref x :: st) w o :=
  fun a ha p e s m args below meth c H locs ls C hP hS hl => lv_astore_n C.1 C.2.1 hd hi hl hn hq (fun ls' hl' => k a ha p e s m args below meth c H locs ls' C hP hS hl')
theorem e_astore {i : Nat} {x : Nat} {lv' : List (Nat × Value)} (hd : decode M.2.1 pc = .ok (.astore i, 2)) (hn : i < M.2.2.1) (hq : (i, Value.ref x) :: lv.filter (fun q => !(q.1 == i) && !(q.1 + 1 == i && q.2.category == 2)) = lv') (k : E g X M d (pc + 2) lv' st w o) : E g X M d pc lv (.ref x :: st) w o :=
  fun a ha p e s m args below meth c H locs ls C hP hS hl => lv_astore C.1 C.2.1 hd hl hn hq (fun ls' hl' => k a ha p e s m args below meth c H locs ls' C hP hS hl')
theorem e_iinc {i : Nat} {n : Int} {x v : Int32} {lv' : List (Nat × Value)} (hd : decode M.2.1 pc = .ok (.iinc i n, 3)) (j : Nat) (hj : lv[j]? = some (i, .int x)) (hv : x + Int32.ofInt n = v) (hn : i < M.2.2.1) (hq : (i, Value.int v) :: lv.filter (fun q => !(q.1 == i) && !(q.1 + 1 == i && q.2.category == 2)) = lv') (k : E g X M d (pc + 3) lv' st w o) : E g X M d pc lv st w o :=
  fun a ha p e s m args below meth c H locs ls C hP hS hl => lv_iinc C.1 C.2.1 hd hl hj hv hn hq (fun ls' hl' => k a ha p e s m args below meth c H locs ls' C hP hS hl')
theorem e_iadd {x y : Int32} (hd : decode M.2.1 pc = .ok (.iadd, 1)) (k : E g X M d (pc + 1) lv (.int (x + y) :: st) w o) : E g X M d pc lv (.int y :: .int x :: st) w o :=
  fun a ha p e s m args below meth c H locs ls C hP hS hl => lv_iadd C.1 C.2.1 hd (k a ha p e s m args below meth c H locs ls C hP hS hl)
theorem e_isub {x y : Int32} (hd : decode M.2.1 pc = .ok (.isub, 1)) (k : E g X M d (pc + 1) lv (.int (x - y) :: st) w o) : E g X M d pc lv (.int y :: .int x :: st) w o :=
  fun a ha p e s m args below meth c H locs ls C hP hS hl => lv_isub C.1 C.2.1 hd (k a ha p e s m args below meth c H locs ls C hP hS hl)
theorem e_imul {x y : Int32} (hd : decode M.2.1 pc = .ok (.imul, 1)) (k : E g X M d (pc + 1) lv (.int (x * y) :: st) w o) : E g X M d pc lv (.int y :: .int x :: st) w o :=
  fun a ha p e s m args below meth c H locs ls C hP hS hl => lv_imul C.1 C.2.1 hd (k a ha p e s m args below meth c H locs ls C hP hS hl)
theorem e_iand {x y : Int32} (hd : decode M.2.1 pc = .ok (.iand, 1)) (k : E g X M d (pc + 1) lv (.int (x &&& y) :: st) w o) : E g X M d pc lv (.int y :: .int x :: st) w o :=
  fun a ha p e s m args below meth c H locs ls C hP hS hl => lv_iand C.1 C.2.1 hd (k a ha p e s m args below meth c H locs ls C hP hS hl)
theorem e_ior {x y : Int32} (hd : decode M.2.1 pc = .ok (.ior, 1)) (k : E g X M d (pc + 1) lv (.int (x ||| y) :: st) w o) : E g X M d pc lv (.int y :: .int x :: st) w o :=
  fun a ha p e s m args below meth c H locs ls C hP hS hl => lv_ior C.1 C.2.1 hd (k a ha p e s m args below meth c H locs ls C hP hS hl)
theorem e_ixor {x y : Int32} (hd : decode M.2.1 pc = .ok (.ixor, 1)) (k : E g X M d (pc + 1) lv (.int (x ^^^ y) :: st) w o) : E g X M d pc lv (.int y :: .int x :: st) w o :=
  fun a ha p e s m args below meth c H locs ls C hP hS hl => lv_ixor C.1 C.2.1 hd (k a ha p e s m args below meth c H locs ls C hP hS hl)
theorem e_ishl {x y : Int32} (hd : decode M.2.1 pc = .ok (.ishl, 1)) (k : E g X M d (pc + 1) lv (.int (ishl x y) :: st) w o) : E g X M d pc lv (.int y :: .int x :: st) w o :=
  fun a ha p e s m args below meth c H locs ls C hP hS hl => lv_ishl C.1 C.2.1 hd (k a ha p e s m args below meth c H locs ls C hP hS hl)
theorem e_iushr {x y : Int32} (hd : decode M.2.1 pc = .ok (.iushr, 1))  (k : E g X M d (pc + 1) lv (.int (iushr x y) :: st) w o) : E g X M d pc lv (.int y :: .int x :: st) w o :=
  fun a ha p e s m args below meth c H locs ls C hP hS hl => lv_iushr C.1 C.2.1 hd rfl (k a ha p e s m args below meth c H locs ls C hP hS hl)
theorem e_ladd {x y : Int64} (hd : decode M.2.1 pc = .ok (.ladd, 1)) (k : E g X M d (pc + 1) lv (.long (x + y) :: st) w o) : E g X M d pc lv (.long y :: .long x :: st) w o :=
  fun a ha p e s m args below meth c H locs ls C hP hS hl => lv_ladd C.1 C.2.1 hd (k a ha p e s m args below meth c H locs ls C hP hS hl)
theorem e_lsub {x y : Int64} (hd : decode M.2.1 pc = .ok (.lsub, 1)) (k : E g X M d (pc + 1) lv (.long (x - y) :: st) w o) : E g X M d pc lv (.long y :: .long x :: st) w o :=
  fun a ha p e s m args below meth c H locs ls C hP hS hl => lv_lsub C.1 C.2.1 hd (k a ha p e s m args below meth c H locs ls C hP hS hl)
theorem e_lmul {x y : Int64} (hd : decode M.2.1 pc = .ok (.lmul, 1)) (k : E g X M d (pc + 1) lv (.long (x * y) :: st) w o) : E g X M d pc lv (.long y :: .long x :: st) w o :=
  fun a ha p e s m args below meth c H locs ls C hP hS hl => lv_lmul C.1 C.2.1 hd (k a ha p e s m args below meth c H locs ls C hP hS hl)
theorem e_land {x y : Int64} (hd : decode M.2.1 pc = .ok (.land, 1)) (k : E g X M d (pc + 1) lv (.long (x &&& y) :: st) w o) : E g X M d pc lv (.long y :: .long x :: st) w o :=
  fun a ha p e s m args below meth c H locs ls C hP hS hl => lv_land C.1 C.2.1 hd (k a ha p e s m args below meth c H locs ls C hP hS hl)
theorem e_lor {x y : Int64} (hd : decode M.2.1 pc = .ok (.lor, 1)) (k : E g X M d (pc + 1) lv (.long (x ||| y) :: st) w o) : E g X M d pc lv (.long y :: .long x :: st) w o :=
  fun a ha p e s m args below meth c H locs ls C hP hS hl => lv_lor C.1 C.2.1 hd (k a ha p e s m args below meth c H locs ls C hP hS hl)
theorem e_lshl {x : Int64} {y : Int32} (hd : decode M.2.1 pc = .ok (.lshl, 1))  (k : E g X M d (pc + 1) lv (.long (lshl x y) :: st) w o) : E g X M d pc lv (.int y :: .long x :: st) w o :=
  fun a ha p e s m args below meth c H locs ls C hP hS hl => lv_lshl C.1 C.2.1 hd rfl (k a ha p e s m args below meth c H locs ls C hP hS hl)
theorem e_ineg {x : Int32} (hd : decode M.2.1 pc = .ok (.ineg, 1)) (k : E g X M d (pc + 1) lv (.int (-x) :: st) w o) : E g X M d pc lv (.int x :: st) w o :=
  fun a ha p e s m args below meth c H locs ls C hP hS hl => lv_ineg C.1 C.2.1 hd (k a ha p e s m args below meth c H locs ls C hP hS hl)
theorem e_lneg {x : Int64} (hd : decode M.2.1 pc = .ok (.lneg, 1)) (k : E g X M d (pc + 1) lv (.long (-x) :: st) w o) : E g X M d pc lv (.long x :: st) w o :=
  fun a ha p e s m args below meth c H locs ls C hP hS hl => lv_lneg C.1 C.2.1 hd (k a ha p e s m args below meth c H locs ls C hP hS hl)
theorem e_i2l {x : Int32} (hd : decode M.2.1 pc = .ok (.i2l, 1))  (k : E g X M d (pc + 1) lv (.long x.toInt64 :: st) w o) : E g X M d pc lv (.int x :: st) w o :=
  fun a ha p e s m args below meth c H locs ls C hP hS hl => lv_i2l C.1 C.2.1 hd rfl (k a ha p e s m args below meth c H locs ls C hP hS hl)
theorem e_l2i {x : Int64} (hd : decode M.2.1 pc = .ok (.l2i, 1))  (k : E g X M d (pc + 1) lv (.int x.toInt32 :: st) w o) : E g X M d pc lv (.long x :: st) w o :=
  fun a ha p e s m args below meth c H locs ls C hP hS hl => lv_l2i C.1 C.2.1 hd rfl (k a ha p e s m args below meth c H locs ls C hP hS hl)
theorem e_i2b {x : Int32} (hd : decode M.2.1 pc = .ok (.i2b, 1))  (k : E g X M d (pc + 1) lv (.int (i2b x) :: st) w o) : E g X M d pc lv (.int x :: st) w o :=
  fun a ha p e s m args below meth c H locs ls C hP hS hl => lv_i2b C.1 C.2.1 hd rfl (k a ha p e s m args below meth c H locs ls C hP hS hl)
theorem e_i2s {x : Int32} (hd : decode M.2.1 pc = .ok (.i2s, 1))  (k : E g X M d (pc + 1) lv (.int (i2s x) :: st) w o) : E g X M d pc lv (.int x :: st) w o :=
  fun a ha p e s m args below meth c H locs ls C hP hS hl => lv_i2s C.1 C.2.1 hd rfl (k a ha p e s m args below meth c H locs ls C hP hS hl)
theorem e_idiv {x y : Int32} (hd : decode M.2.1 pc = .ok (.idiv, 1)) (hne : ¬ y = 0) (k : E g X M d (pc + 1) lv (.int (x / y) :: st) w o) : E g X M d pc lv (.int y :: .int x :: st) w o :=
  fun a ha p e s m args below meth c H locs ls C hP hS hl => lv_idiv C.1 C.2.1 hd hne (k a ha p e s m args below meth c H locs ls C hP hS hl)
theorem e_irem {x y : Int32} (hd : decode M.2.1 pc = .ok (.irem, 1)) (hne : ¬ y = 0) (k : E g X M d (pc + 1) lv (.int (ire x y) :: st) w o) : E g X M d pc lv (.int y :: .int x :: st) w o :=
  fun a ha p e s m args below meth c H locs ls C hP hS hl => lv_irem C.1 C.2.1 hd hne (k a ha p e s m args below meth c H locs ls C hP hS hl)
theorem e_ldiv {x y : Int64} (hd : decode M.2.1 pc = .ok (.ldiv, 1)) (hne : ¬ y = 0) (k : E g X M d (pc + 1) lv (.long (x / y) :: st) w o) : E g X M d pc lv (.long y :: .long x :: st) w o :=
  fun a ha p e s m args below meth c H locs ls C hP hS hl => lv_ldiv C.1 C.2.1 hd hne (k a ha p e s m args below meth c H locs ls C hP hS hl)
theorem e_lrem {x y : Int64} (hd : decode M.2.1 pc = .ok (.lrem, 1)) (hne : ¬ y = 0) (k : E g X M d (pc + 1) lv (.long (lre x y) :: st) w o) : E g X M d pc lv (.long y :: .long x :: st) w o :=
  fun a ha p e s m args below meth c H locs ls C hP hS hl => lv_lrem C.1 C.2.1 hd hne (k a ha p e s m args below meth c H locs ls C hP hS hl)
theorem e_idivG {x y : Int32} {k1 : Int32 → Option σ} (hd : decode M.2.1 pc = .ok (.idiv, 1)) (k : ∀ v : Int32, E g X M d (pc + 1) lv (.int v :: st) w (k1 v)) : E g X M d pc lv (.int y :: .int x :: st) w (dvI x y k1) := by
  intro a ha
  unfold dvI at ha
  by_cases hy : y = 0
  · rw [if_pos hy] at ha
    cases ha
  · rw [if_neg hy] at ha
    exact e_idiv hd hy (k (x / y)) a ha
theorem e_iremG {x y : Int32} {k1 : Int32 → Option σ} (hd : decode M.2.1 pc = .ok (.irem, 1)) (k : ∀ v : Int32, E g X M d (pc + 1) lv (.int v :: st) w (k1 v)) : E g X M d pc lv (.int y :: .int x :: st) w (rmI x y k1) := by
  intro a ha
  unfold rmI at ha
  by_cases hy : y = 0
  · rw [if_pos hy] at ha
    cases ha
  · rw [if_neg hy] at ha
    exact e_irem hd hy (k (ire x y)) a ha
theorem e_ldivG {x y : Int64} {k1 : Int64 → Option σ} (hd : decode M.2.1 pc = .ok (.ldiv, 1)) (k : ∀ v : Int64, E g X M d (pc + 1) lv (.long v :: st) w (k1 v)) : E g X M d pc lv (.long y :: .long x :: st) w (dvL x y k1) := by
  intro a ha
  unfold dvL at ha
  by_cases hy : y = 0
  · rw [if_pos hy] at ha
    cases ha
  · rw [if_neg hy] at ha
    exact e_ldiv hd hy (k (x / y)) a ha
theorem e_lremG {x y : Int64} {k1 : Int64 → Option σ} (hd : decode M.2.1 pc = .ok (.lrem, 1)) (k : ∀ v : Int64, E g X M d (pc + 1) lv (.long v :: st) w (k1 v)) : E g X M d pc lv (.long y :: .long x :: st) w (rmL x y k1) := by
  intro a ha
  unfold rmL at ha
  by_cases hy : y = 0
  · rw [if_pos hy] at ha
    cases ha
  · rw [if_neg hy] at ha
    exact e_lrem hd hy (k (lre x y)) a ha
theorem e_dup {v : Value} (hd : decode M.2.1 pc = .ok (.dup, 1)) (hv : v.category = 1) (k : E g X M d (pc + 1) lv (v :: v :: st) w o) : E g X M d pc lv (v :: st) w o :=
  fun a ha p e s m args below meth c H locs ls C hP hS hl => lv_dup C.1 C.2.1 hd hv (k a ha p e s m args below meth c H locs ls C hP hS hl)
theorem e_pop {v : Value} (hd : decode M.2.1 pc = .ok (.pop, 1)) (hv : v.category = 1) (k : E g X M d (pc + 1) lv (st) w o) : E g X M d pc lv (v :: st) w o :=
  fun a ha p e s m args below meth c H locs ls C hP hS hl => lv_pop C.1 C.2.1 hd hv (k a ha p e s m args below meth c H locs ls C hP hS hl)
theorem e_dup2 {v u : Value} (hd : decode M.2.1 pc = .ok (.dup2, 1)) (hv : v.category = 1) (hu : u.category = 1) (k : E g X M d (pc + 1) lv (v :: u :: v :: u :: st) w o) : E g X M d pc lv (v :: u :: st) w o :=
  fun a ha p e s m args below meth c H locs ls C hP hS hl => lv_dup2_11 C.1 C.2.1 hd hv hu (k a ha p e s m args below meth c H locs ls C hP hS hl)
theorem e_dup2L {v : Value} (hd : decode M.2.1 pc = .ok (.dup2, 1)) (hv : v.category = 2) (k : E g X M d (pc + 1) lv (v :: v :: st) w o) : E g X M d pc lv (v :: st) w o :=
  fun a ha p e s m args below meth c H locs ls C hP hS hl => lv_dup2_2 C.1 C.2.1 hd hv (k a ha p e s m args below meth c H locs ls C hP hS hl)
theorem e_goto {off : Int} {tgt : Nat} (hd : decode M.2.1 pc = .ok (.goto off, 3)) (ht : (pc : Int) + off = (tgt : Int)) (k : E g X M d tgt lv st w o) : E g X M d pc lv st w o :=
  fun a ha p e s m args below meth c H locs ls C hP hS hl => lv_goto C.1 C.2.1 hd ht (k a ha p e s m args below meth c H locs ls C hP hS hl)
theorem e_if_eq {x : Int32} {off : Int} {tgt : Nat} {o1 o2 : Option σ} (hd : decode M.2.1 pc = .ok (.ifCond .eq off, 3)) (ht : (pc : Int) + off = (tgt : Int)) (k1 : x = 0 → E g X M d tgt lv st w o1) (k2 : ¬ x = 0 → E g X M d (pc + 3) lv st w o2) : E g X M d pc lv (.int x :: st) w (if x = 0 then o1 else o2) := by
  intro a ha p e s m args below meth c H locs ls C hP hS hl
  refine lv_if_eq C.1 C.2.1 hd ht (fun q => ?_) (fun q => ?_)
  · exact k1 q a (by rw [if_pos q] at ha; exact ha) p e s m args below meth c H locs ls C hP hS hl
  · exact k2 q a (by rw [if_neg q] at ha; exact ha) p e s m args below meth c H locs ls C hP hS hl
theorem e_if_ne {x : Int32} {off : Int} {tgt : Nat} {o1 o2 : Option σ} (hd : decode M.2.1 pc = .ok (.ifCond .ne off, 3)) (ht : (pc : Int) + off = (tgt : Int)) (k1 : x = 0 → E g X M d (pc + 3) lv st w o1) (k2 : ¬ x = 0 → E g X M d tgt lv st w o2) : E g X M d pc lv (.int x :: st) w (if x = 0 then o1 else o2) := by
  intro a ha p e s m args below meth c H locs ls C hP hS hl
  refine lv_if_ne C.1 C.2.1 hd ht (fun q => ?_) (fun q => ?_)
  · exact k2 q a (by rw [if_neg q] at ha; exact ha) p e s m args below meth c H locs ls C hP hS hl
  · exact k1 q a (by rw [if_pos q] at ha; exact ha) p e s m args below meth c H locs ls C hP hS hl
theorem e_if_lt {x : Int32} {off : Int} {tgt : Nat} {o1 o2 : Option σ} (hd : decode M.2.1 pc = .ok (.ifCond .lt off, 3)) (ht : (pc : Int) + off = (tgt : Int)) (k1 : x < 0 → E g X M d tgt lv st w o1) (k2 : ¬ x < 0 → E g X M d (pc + 3) lv st w o2) : E g X M d pc lv (.int x :: st) w (if x < 0 then o1 else o2) := by
  intro a ha p e s m args below meth c H locs ls C hP hS hl
  refine lv_if_lt C.1 C.2.1 hd ht (fun q => ?_) (fun q => ?_)
  · exact k1 q a (by rw [if_pos q] at ha; exact ha) p e s m args below meth c H locs ls C hP hS hl
  · exact k2 q a (by rw [if_neg q] at ha; exact ha) p e s m args below meth c H locs ls C hP hS hl
theorem e_if_ge {x : Int32} {off : Int} {tgt : Nat} {o1 o2 : Option σ} (hd : decode M.2.1 pc = .ok (.ifCond .ge off, 3)) (ht : (pc : Int) + off = (tgt : Int)) (k1 : 0 ≤ x → E g X M d tgt lv st w o1) (k2 : ¬ 0 ≤ x → E g X M d (pc + 3) lv st w o2) : E g X M d pc lv (.int x :: st) w (if 0 ≤ x then o1 else o2) := by
  intro a ha p e s m args below meth c H locs ls C hP hS hl
  refine lv_if_ge C.1 C.2.1 hd ht (fun q => ?_) (fun q => ?_)
  · exact k1 q a (by rw [if_pos q] at ha; exact ha) p e s m args below meth c H locs ls C hP hS hl
  · exact k2 q a (by rw [if_neg q] at ha; exact ha) p e s m args below meth c H locs ls C hP hS hl
theorem e_if_gt {x : Int32} {off : Int} {tgt : Nat} {o1 o2 : Option σ} (hd : decode M.2.1 pc = .ok (.ifCond .gt off, 3)) (ht : (pc : Int) + off = (tgt : Int)) (k1 : 0 < x → E g X M d tgt lv st w o1) (k2 : ¬ 0 < x → E g X M d (pc + 3) lv st w o2) : E g X M d pc lv (.int x :: st) w (if 0 < x then o1 else o2) := by
  intro a ha p e s m args below meth c H locs ls C hP hS hl
  refine lv_if_gt C.1 C.2.1 hd ht (fun q => ?_) (fun q => ?_)
  · exact k1 q a (by rw [if_pos q] at ha; exact ha) p e s m args below meth c H locs ls C hP hS hl
  · exact k2 q a (by rw [if_neg q] at ha; exact ha) p e s m args below meth c H locs ls C hP hS hl
theorem e_if_le {x : Int32} {off : Int} {tgt : Nat} {o1 o2 : Option σ} (hd : decode M.2.1 pc = .ok (.ifCond .le off, 3)) (ht : (pc : Int) + off = (tgt : Int)) (k1 : x ≤ 0 → E g X M d tgt lv st w o1) (k2 : ¬ x ≤ 0 → E g X M d (pc + 3) lv st w o2) : E g X M d pc lv (.int x :: st) w (if x ≤ 0 then o1 else o2) := by
  intro a ha p e s m args below meth c H locs ls C hP hS hl
  refine lv_if_le C.1 C.2.1 hd ht (fun q => ?_) (fun q => ?_)
  · exact k1 q a (by rw [if_pos q] at ha; exact ha) p e s m args below meth c H locs ls C hP hS hl
  · exact k2 q a (by rw [if_neg q] at ha; exact ha) p e s m args below meth c H locs ls C hP hS hl
theorem e_icmp_eq {x y : Int32} {off : Int} {tgt : Nat} {o1 o2 : Option σ} (hd : decode M.2.1 pc = .ok (.if_icmp .eq off, 3)) (ht : (pc : Int) + off = (tgt : Int)) (k1 : x = y → E g X M d tgt lv st w o1) (k2 : ¬ x = y → E g X M d (pc + 3) lv st w o2) : E g X M d pc lv (.int y :: .int x :: st) w (if x = y then o1 else o2) := by
  intro a ha p e s m args below meth c H locs ls C hP hS hl
  refine lv_icmp_eq C.1 C.2.1 hd ht (fun q => ?_) (fun q => ?_)
  · exact k1 q a (by rw [if_pos q] at ha; exact ha) p e s m args below meth c H locs ls C hP hS hl
  · exact k2 q a (by rw [if_neg q] at ha; exact ha) p e s m args below meth c H locs ls C hP hS hl
theorem e_icmp_ne {x y : Int32} {off : Int} {tgt : Nat} {o1 o2 : Option σ} (hd : decode M.2.1 pc = .ok (.if_icmp .ne off, 3)) (ht : (pc : Int) + off = (tgt : Int)) (k1 : x = y → E g X M d (pc + 3) lv st w o1) (k2 : ¬ x = y → E g X M d tgt lv st w o2) : E g X M d pc lv (.int y :: .int x :: st) w (if x = y then o1 else o2) := by
  intro a ha p e s m args below meth c H locs ls C hP hS hl
  refine lv_icmp_ne C.1 C.2.1 hd ht (fun q => ?_) (fun q => ?_)
  · exact k2 q a (by rw [if_neg q] at ha; exact ha) p e s m args below meth c H locs ls C hP hS hl
  · exact k1 q a (by rw [if_pos q] at ha; exact ha) p e s m args below meth c H locs ls C hP hS hl
theorem e_icmp_lt {x y : Int32} {off : Int} {tgt : Nat} {o1 o2 : Option σ} (hd : decode M.2.1 pc = .ok (.if_icmp .lt off, 3)) (ht : (pc : Int) + off = (tgt : Int)) (k1 : x < y → E g X M d tgt lv st w o1) (k2 : ¬ x < y → E g X M d (pc + 3) lv st w o2) : E g X M d pc lv (.int y :: .int x :: st) w (if x < y then o1 else o2) := by
  intro a ha p e s m args below meth c H locs ls C hP hS hl
  refine lv_icmp_lt C.1 C.2.1 hd ht (fun q => ?_) (fun q => ?_)
  · exact k1 q a (by rw [if_pos q] at ha; exact ha) p e s m args below meth c H locs ls C hP hS hl
  · exact k2 q a (by rw [if_neg q] at ha; exact ha) p e s m args below meth c H locs ls C hP hS hl
theorem e_icmp_ge {x y : Int32} {off : Int} {tgt : Nat} {o1 o2 : Option σ} (hd : decode M.2.1 pc = .ok (.if_icmp .ge off, 3)) (ht : (pc : Int) + off = (tgt : Int)) (k1 : y ≤ x → E g X M d tgt lv st w o1) (k2 : ¬ y ≤ x → E g X M d (pc + 3) lv st w o2) : E g X M d pc lv (.int y :: .int x :: st) w (if y ≤ x then o1 else o2) := by
  intro a ha p e s m args below meth c H locs ls C hP hS hl
  refine lv_icmp_ge C.1 C.2.1 hd ht (fun q => ?_) (fun q => ?_)
  · exact k1 q a (by rw [if_pos q] at ha; exact ha) p e s m args below meth c H locs ls C hP hS hl
  · exact k2 q a (by rw [if_neg q] at ha; exact ha) p e s m args below meth c H locs ls C hP hS hl
theorem e_icmp_gt {x y : Int32} {off : Int} {tgt : Nat} {o1 o2 : Option σ} (hd : decode M.2.1 pc = .ok (.if_icmp .gt off, 3)) (ht : (pc : Int) + off = (tgt : Int)) (k1 : y < x → E g X M d tgt lv st w o1) (k2 : ¬ y < x → E g X M d (pc + 3) lv st w o2) : E g X M d pc lv (.int y :: .int x :: st) w (if y < x then o1 else o2) := by
  intro a ha p e s m args below meth c H locs ls C hP hS hl
  refine lv_icmp_gt C.1 C.2.1 hd ht (fun q => ?_) (fun q => ?_)
  · exact k1 q a (by rw [if_pos q] at ha; exact ha) p e s m args below meth c H locs ls C hP hS hl
  · exact k2 q a (by rw [if_neg q] at ha; exact ha) p e s m args below meth c H locs ls C hP hS hl
theorem e_icmp_le {x y : Int32} {off : Int} {tgt : Nat} {o1 o2 : Option σ} (hd : decode M.2.1 pc = .ok (.if_icmp .le off, 3)) (ht : (pc : Int) + off = (tgt : Int)) (k1 : x ≤ y → E g X M d tgt lv st w o1) (k2 : ¬ x ≤ y → E g X M d (pc + 3) lv st w o2) : E g X M d pc lv (.int y :: .int x :: st) w (if x ≤ y then o1 else o2) := by
  intro a ha p e s m args below meth c H locs ls C hP hS hl
  refine lv_icmp_le C.1 C.2.1 hd ht (fun q => ?_) (fun q => ?_)
  · exact k1 q a (by rw [if_pos q] at ha; exact ha) p e s m args below meth c H locs ls C hP hS hl
  · exact k2 q a (by rw [if_neg q] at ha; exact ha) p e s m args below meth c H locs ls C hP hS hl
theorem e_lcmp_eq {x y : Int64} {off : Int} {tgt : Nat} {o1 o2 : Option σ} (hd0 : decode M.2.1 pc = .ok (.lcmp, 1)) (hd : decode M.2.1 (pc + 1) = .ok (.ifCond .eq off, 3)) (ht : ((pc + 1 : Nat) : Int) + off = (tgt : Int)) (k1 : x = y → E g X M d tgt lv st w o1) (k2 : ¬ x = y → E g X M d (pc + 1 + 3) lv st w o2) : E g X M d pc lv (.long y :: .long x :: st) w (if x = y then o1 else o2) := by
  intro a ha p e s m args below meth c H locs ls C hP hS hl
  refine W.lcmp C.1 C.2.1 hd0 ?_
  refine lv_if_eq C.1 C.2.1 hd ht (fun q => ?_) (fun q => ?_)
  · exact k1 (lg_cmp_eq x y |>.mp q) a (by rw [if_pos (lg_cmp_eq x y |>.mp q)] at ha; exact ha) p e s m args below meth c H locs ls C hP hS hl
  · exact k2 (fun z => q (lg_cmp_eq x y |>.mpr z)) a (by rw [if_neg (fun z => q (lg_cmp_eq x y |>.mpr z))] at ha; exact ha) p e s m args below meth c H locs ls C hP hS hl
theorem e_lcmp_ne {x y : Int64} {off : Int} {tgt : Nat} {o1 o2 : Option σ} (hd0 : decode M.2.1 pc = .ok (.lcmp, 1)) (hd : decode M.2.1 (pc + 1) = .ok (.ifCond .ne off, 3)) (ht : ((pc + 1 : Nat) : Int) + off = (tgt : Int)) (k1 : x = y → E g X M d (pc + 1 + 3) lv st w o1) (k2 : ¬ x = y → E g X M d tgt lv st w o2) : E g X M d pc lv (.long y :: .long x :: st) w (if x = y then o1 else o2) := by
  intro a ha p e s m args below meth c H locs ls C hP hS hl
  refine W.lcmp C.1 C.2.1 hd0 ?_
  refine lv_if_ne C.1 C.2.1 hd ht (fun q => ?_) (fun q => ?_)
  · exact k2 (fun z => q (lg_cmp_eq x y |>.mpr z)) a (by rw [if_neg (fun z => q (lg_cmp_eq x y |>.mpr z))] at ha; exact ha) p e s m args below meth c H locs ls C hP hS hl
  · exact k1 (lg_cmp_eq x y |>.mp q) a (by rw [if_pos (lg_cmp_eq x y |>.mp q)] at ha; exact ha) p e s m args below meth c H locs ls C hP hS hl
theorem e_lcmp_lt {x y : Int64} {off : Int} {tgt : Nat} {o1 o2 : Option σ} (hd0 : decode M.2.1 pc = .ok (.lcmp, 1)) (hd : decode M.2.1 (pc + 1) = .ok (.ifCond .lt off, 3)) (ht : ((pc + 1 : Nat) : Int) + off = (tgt : Int)) (k1 : x < y → E g X M d tgt lv st w o1) (k2 : ¬ x < y → E g X M d (pc + 1 + 3) lv st w o2) : E g X M d pc lv (.long y :: .long x :: st) w (if x < y then o1 else o2) := by
  intro a ha p e s m args below meth c H locs ls C hP hS hl
  refine W.lcmp C.1 C.2.1 hd0 ?_
  refine lv_if_lt C.1 C.2.1 hd ht (fun q => ?_) (fun q => ?_)
  · exact k1 (lg_cmp_lt x y |>.mp q) a (by rw [if_pos (lg_cmp_lt x y |>.mp q)] at ha; exact ha) p e s m args below meth c H locs ls C hP hS hl
  · exact k2 (fun z => q (lg_cmp_lt x y |>.mpr z)) a (by rw [if_neg (fun z => q (lg_cmp_lt x y |>.mpr z))] at ha; exact ha) p e s m args below meth c H locs ls C hP hS hl
theorem e_lcmp_ge {x y : Int64} {off : Int} {tgt : Nat} {o1 o2 : Option σ} (hd0 : decode M.2.1 pc = .ok (.lcmp, 1)) (hd : decode M.2.1 (pc + 1) = .ok (.ifCond .ge off, 3)) (ht : ((pc + 1 : Nat) : Int) + off = (tgt : Int)) (k1 : y ≤ x → E g X M d tgt lv st w o1) (k2 : ¬ y ≤ x → E g X M d (pc + 1 + 3) lv st w o2) : E g X M d pc lv (.long y :: .long x :: st) w (if y ≤ x then o1 else o2) := by
  intro a ha p e s m args below meth c H locs ls C hP hS hl
  refine W.lcmp C.1 C.2.1 hd0 ?_
  refine lv_if_ge C.1 C.2.1 hd ht (fun q => ?_) (fun q => ?_)
  · exact k1 (lg_cmp_ge x y |>.mp q) a (by rw [if_pos (lg_cmp_ge x y |>.mp q)] at ha; exact ha) p e s m args below meth c H locs ls C hP hS hl
  · exact k2 (fun z => q (lg_cmp_ge x y |>.mpr z)) a (by rw [if_neg (fun z => q (lg_cmp_ge x y |>.mpr z))] at ha; exact ha) p e s m args below meth c H locs ls C hP hS hl
theorem e_lcmp_gt {x y : Int64} {off : Int} {tgt : Nat} {o1 o2 : Option σ} (hd0 : decode M.2.1 pc = .ok (.lcmp, 1)) (hd : decode M.2.1 (pc + 1) = .ok (.ifCond .gt off, 3)) (ht : ((pc + 1 : Nat) : Int) + off = (tgt : Int)) (k1 : y < x → E g X M d tgt lv st w o1) (k2 : ¬ y < x → E g X M d (pc + 1 + 3) lv st w o2) : E g X M d pc lv (.long y :: .long x :: st) w (if y < x then o1 else o2) := by
  intro a ha p e s m args below meth c H locs ls C hP hS hl
  refine W.lcmp C.1 C.2.1 hd0 ?_
  refine lv_if_gt C.1 C.2.1 hd ht (fun q => ?_) (fun q => ?_)
  · exact k1 (lg_cmp_gt x y |>.mp q) a (by rw [if_pos (lg_cmp_gt x y |>.mp q)] at ha; exact ha) p e s m args below meth c H locs ls C hP hS hl
  · exact k2 (fun z => q (lg_cmp_gt x y |>.mpr z)) a (by rw [if_neg (fun z => q (lg_cmp_gt x y |>.mpr z))] at ha; exact ha) p e s m args below meth c H locs ls C hP hS hl
theorem e_lcmp_le {x y : Int64} {off : Int} {tgt : Nat} {o1 o2 : Option σ} (hd0 : decode M.2.1 pc = .ok (.lcmp, 1)) (hd : decode M.2.1 (pc + 1) = .ok (.ifCond .le off, 3)) (ht : ((pc + 1 : Nat) : Int) + off = (tgt : Int)) (k1 : x ≤ y → E g X M d tgt lv st w o1) (k2 : ¬ x ≤ y → E g X M d (pc + 1 + 3) lv st w o2) : E g X M d pc lv (.long y :: .long x :: st) w (if x ≤ y then o1 else o2) := by
  intro a ha p e s m args below meth c H locs ls C hP hS hl
  refine W.lcmp C.1 C.2.1 hd0 ?_
  refine lv_if_le C.1 C.2.1 hd ht (fun q => ?_) (fun q => ?_)
  · exact k1 (lg_cmp_le x y |>.mp q) a (by rw [if_pos (lg_cmp_le x y |>.mp q)] at ha; exact ha) p e s m args below meth c H locs ls C hP hS hl
  · exact k2 (fun z => q (lg_cmp_le x y |>.mpr z)) a (by rw [if_neg (fun z => q (lg_cmp_le x y |>.mpr z))] at ha; exact ha) p e s m args below meth c H locs ls C hP hS hl
theorem e_nameI {x : Int32} {k1 : Int32 → Option σ} (k : ∀ y : Int32, E g X M d pc lv (.int y :: st) w (k1 y)) : E g X M d pc lv (.int x :: st) w (lt x k1) := k x
theorem e_nameL {x : Int64} {k1 : Int64 → Option σ} (k : ∀ y : Int64, E g X M d pc lv (.long y :: st) w (k1 y)) : E g X M d pc lv (.long x :: st) w (lt x k1) := k x
theorem e_lv {lv' : List (Nat × Value)} (ks : List Nat) (hq : lv_pick lv ks = lv') (k : E g X M d pc lv' st w o) : E g X M d pc lv st w o :=
  fun a ha p e s m args below meth c H locs ls C hP hS hl => k a ha p e s m args below meth c H locs ls C hP hS (lv_sub hl ks hq)
theorem e_ldc {idx : Nat} {v : Int32} (hd : decode M.2.1 pc = .ok (.ldc idx, 2)) (hc : Cond.constant M.1.cls idx v ∈ tw) (k : E g X M d (pc + 2) lv (.int v :: st) w o) : E g X M d pc lv st w o :=
  fun a ha p e s m args below meth c H locs ls C hP hS hl => lv_ldc C.1 C.2.1 C.2.2.2.2.1 (C.2.2.2.2.2.1 _ hc) hd (k a ha p e s m args below meth c H locs ls C hP hS hl)
theorem e_ldc_w {idx : Nat} {v : Int32} (hd : decode M.2.1 pc = .ok (.ldc_w idx, 3)) (hc : Cond.constant M.1.cls idx v ∈ tw) (k : E g X M d (pc + 3) lv (.int v :: st) w o) : E g X M d pc lv st w o :=
  fun a ha p e s m args below meth c H locs ls C hP hS hl => lv_ldcw C.1 C.2.1 C.2.2.2.2.1 (C.2.2.2.2.2.1 _ hc) hd (k a ha p e s m args below meth c H locs ls C hP hS hl)
theorem e_ldc2 {idx : Nat} {v : Int64} (hd : decode M.2.1 pc = .ok (.ldc2_w idx, 3)) (hc : Cond.constantLong M.1.cls idx v ∈ tw) (k : E g X M d (pc + 3) lv (.long v :: st) w o) : E g X M d pc lv st w o :=
  fun a ha p e s m args below meth c H locs ls C hP hS hl => lv_ldc2 C.1 C.2.1 C.2.2.2.2.1 (C.2.2.2.2.2.1 _ hc) hd (k a ha p e s m args below meth c H locs ls C hP hS hl)
/-- a class of the worlds: its row, its words, its types, its names -/
def Kc (ci : Nat) (C : String) (T : u_T) (N : Nat) (ty : Nat → FieldType) : Prop :=
  vwCl[ci]? = some (C, T, N) ∧ nfl ci = N ∧ (∀ w ∈ u_ws C T N, w ∈ tw) ∧ (∀ k, k < N → parseFieldDescriptor (T k).2.2.1 = some (ty k)) ∧ ∀ a, a < N → ∀ b, b < N → a ≠ b → (T a).2.1 ≠ (T b).2.1
def FlI (own : String) (idx ci j : Nat) : Prop := ∃ (C : String) (T : u_T) (N : Nat) (ty : Nat → FieldType), Kc ci C T N ty ∧ j < N ∧ fk ci j = 0 ∧ Cond.fieldLink own idx (T j).1 (T j).2.1 (T j).2.2.1 ∈ tw
def FlL (own : String) (idx ci j : Nat) : Prop := ∃ (C : String) (T : u_T) (N : Nat) (ty : Nat → FieldType), Kc ci C T N ty ∧ j < N ∧ fk ci j = 1 ∧ Cond.fieldLink own idx (T j).1 (T j).2.1 (T j).2.2.1 ∈ tw
def FlR (own : String) (idx ci j n : Nat) : Prop := ∃ (C : String) (T : u_T) (N : Nat) (ty : Nat → FieldType), Kc ci C T N ty ∧ j < N ∧ fk ci j = n + 2 ∧ Cond.fieldLink own idx (T j).1 (T j).2.1 (T j).2.2.1 ∈ tw
def FpX (own : String) (idx ci j q : Nat) (f : FieldType) : Prop := ∃ (C : String) (T : u_T) (N : Nat) (ty : Nat → FieldType), Kc ci C T N ty ∧ j < N ∧ fk ci j = q ∧ (T j).2.2.2 = false ∧ parseFieldDescriptor (T j).2.2.1 = some f ∧ Cond.fieldLink own idx (T j).1 (T j).2.1 (T j).2.2.1 ∈ tw
theorem e_getI {ci j idx cl : Nat} {C : String} {T : u_T} {N : Nat} {ty : Nat → FieldType} (hk : kd cl = (0, ci)) (hc : Kc ci C T N ty) (hj : j < N) (hf : fk ci j = 0) (hw : Cond.fieldLink M.1.cls idx (T j).1 (T j).2.1 (T j).2.2.1 ∈ tw) (hd : decode M.2.1 pc = .ok (.getfield idx, 3)) (k : E g X M d (pc + 3) lv (.int (gi w cl j) :: st) w o) : E g X M d pc lv (.ref (xa X cl) :: st) w o := by
  intro a ha p e s m args below meth c H locs ls C' hP hS hl
  have hlt := kd_lt hk (by omega)
  exact va_get (v := .int (gi w cl j)) C'.1 C'.2.1 C'.2.2.2.2.2.1 hc.2.2.1 C'.2.2.2.2.1 C'.2.2.2.2.2.2.2.1.1 hP cl (by rw [cells_get hlt, ent_obj hk]) hc.1 j hj (C'.2.2.2.2.2.1 _ hw) (fun _ h => h) (by rw [flds_get (by rw [hc.2.1]; exact hj), fval_int hf]) hd (k a ha p e s m args below meth c H locs ls C' hP hS hl)
theorem e_getL {ci j idx cl : Nat} {C : String} {T : u_T} {N : Nat} {ty : Nat → FieldType} (hk : kd cl = (0, ci)) (hc : Kc ci C T N ty) (hj : j < N) (hf : fk ci j = 1) (hw : Cond.fieldLink M.1.cls idx (T j).1 (T j).2.1 (T j).2.2.1 ∈ tw) (hd : decode M.2.1 pc = .ok (.getfield idx, 3)) (k : E g X M d (pc + 3) lv (.long (gl w cl j) :: st) w o) : E g X M d pc lv (.ref (xa X cl) :: st) w o := by
  intro a ha p e s m args below meth c H locs ls C' hP hS hl
  have hlt := kd_lt hk (by omega)
  exact va_get (v := .long (gl w cl j)) C'.1 C'.2.1 C'.2.2.2.2.2.1 hc.2.2.1 C'.2.2.2.2.1 C'.2.2.2.2.2.2.2.1.1 hP cl (by rw [cells_get hlt, ent_obj hk]) hc.1 j hj (C'.2.2.2.2.2.1 _ hw) (fun _ h => h) (by rw [flds_get (by rw [hc.2.1]; exact hj), fval_long hf]) hd (k a ha p e s m args below meth c H locs ls C' hP hS hl)
theorem e_getR {ci j idx cl n cl' : Nat} {C : String} {T : u_T} {N : Nat} {ty : Nat → FieldType} (hk : kd cl = (0, ci)) (hc : Kc ci C T N ty) (hj : j < N) (hf : fk ci j = n + 2) (hcl : cl + (n + 1) = cl') (hw : Cond.fieldLink M.1.cls idx (T j).1 (T j).2.1 (T j).2.2.1 ∈ tw) (hd : decode M.2.1 pc = .ok (.getfield idx, 3)) (k : E g X M d (pc + 3) lv (.ref (xa X cl') :: st) w o) : E g X M d pc lv (.ref (xa X cl) :: st) w o := by
  subst hcl
  intro a ha p e s m args below meth c H locs ls C' hP hS hl
  have hlt := kd_lt hk (by omega)
  exact va_get (v := .ref (xa X (cl + (n + 1)))) C'.1 C'.2.1 C'.2.2.2.2.2.1 hc.2.2.1 C'.2.2.2.2.1 C'.2.2.2.2.2.2.2.1.1 hP cl (by rw [cells_get hlt, ent_obj hk]) hc.1 j hj (C'.2.2.2.2.2.1 _ hw) (fun _ h => h) (by rw [flds_get (by rw [hc.2.1]; exact hj), fval_ref hf]) hd (k a ha p e s m args below meth c H locs ls C' hP hS hl)
theorem e_putI0 {ci j idx cl : Nat} {C : String} {T : u_T} {N : Nat} {ty : Nat → FieldType} {v : Int32} {fty : FieldType} (hk : kd cl = (0, ci)) (hc : Kc ci C T N ty) (hj : j < N) (hf : fk ci j = 0) (hfin : (T j).2.2.2 = false) (hd0 : parseFieldDescriptor (T j).2.2.1 = some fty) (hn : narrow fty (.int v) = .int v) (hfit : fits fty (.int v) = true) (hw : Cond.fieldLink M.1.cls idx (T j).1 (T j).2.1 (T j).2.2.1 ∈ tw) (hd : decode M.2.1 pc = .ok (.putfield idx, 3)) (k : E g X M d (pc + 3) lv st (si w cl j v) o) : E g X M d pc lv (.int v :: .ref (xa X cl) :: st) w o := by
  intro a ha p e s m args below meth c H locs ls C' hP hS hl
  have hlt := kd_lt hk (by omega)
  have hjn : j < nfl ci := by rw [hc.2.1]; exact hj
  refine va_put C'.1 C'.2.1 C'.2.2.2.2.2.1 hc.2.2.1 ty hc.2.2.2.1 hc.2.2.2.2 C'.2.2.2.2.1 C'.2.2.2.2.2.2.2.1.1 hP (cells_D C'.2.2.2.2.2.2.2.2 w) hS cl (by rw [cells_get hlt, ent_obj hk]) hc.1 j hj (C'.2.2.2.2.2.1 _ hw) (fun _ h => h) hfin hd0 hn hfit (by rw [flds_len]; exact hjn) hd (fun H1 locs1 hP1 _ hS1 => ?_)
  rw [cells_set (w := w) (w' := si w cl j v) hlt (by rw [ent_obj hk, flds_si hf hjn]) si_off (fun _ _ => rfl)] at hP1
  exact k a ha p e s m args below meth c H1 locs1 ls C' hP1 hS1 hl
theorem e_putI {ci j idx cl : Nat} {C : String} {T : u_T} {N : Nat} {ty : Nat → FieldType} {v : Int32} {k1 : Wd → Option σ} (hk : kd cl = (0, ci)) (hc : Kc ci C T N ty) (hj : j < N) (hf : fk ci j = 0) (hfin : (T j).2.2.2 = false) (hd0 : parseFieldDescriptor (T j).2.2.1 = some .int) (hw : Cond.fieldLink M.1.cls idx (T j).1 (T j).2.1 (T j).2.2.1 ∈ tw) (hd : decode M.2.1 pc = .ok (.putfield idx, 3)) (k : ∀ w1 : Wd, E g X M d (pc + 3) lv st w1 (k1 w1)) : E g X M d pc lv (.int v :: .ref (xa X cl) :: st) w (stI w cl j v k1) :=
  e_putI0 hk hc hj hf hfin hd0 rfl rfl hw hd (k (si w cl j v))
theorem zfit {v : Int32} (h : v = 0 ∨ v = 1) : narrow .boolean (.int v) = .int v ∧ fits .boolean (.int v) = true := by
  rcases h with rfl | rfl <;> exact ⟨by decide, by decide⟩
theorem e_putZ {ci j idx cl : Nat} {C : String} {T : u_T} {N : Nat} {ty : Nat → FieldType} {v : Int32} {k1 : Wd → Option σ} (hk : kd cl = (0, ci)) (hc : Kc ci C T N ty) (hj : j < N) (hf : fk ci j = 0) (hfin : (T j).2.2.2 = false) (hd0 : parseFieldDescriptor (T j).2.2.1 = some .boolean) (hw : Cond.fieldLink M.1.cls idx (T j).1 (T j).2.1 (T j).2.2.1 ∈ tw) (hd : decode M.2.1 pc = .ok (.putfield idx, 3)) (k : ∀ w1 : Wd, E g X M d (pc + 3) lv st w1 (k1 w1)) : E g X M d pc lv (.int v :: .ref (xa X cl) :: st) w (stZ w cl j v k1) := by
  intro a ha
  unfold stZ at ha
  by_cases hv : v = 0 ∨ v = 1
  · rw [if_pos hv] at ha
    exact e_putI0 hk hc hj hf hfin hd0 (zfit hv).1 (zfit hv).2 hw hd (k (si w cl j v)) a ha
  · rw [if_neg hv] at ha
    cases ha
theorem e_putL {ci j idx cl : Nat} {C : String} {T : u_T} {N : Nat} {ty : Nat → FieldType} {v : Int64} {k1 : Wd → Option σ} (hk : kd cl = (0, ci)) (hc : Kc ci C T N ty) (hj : j < N) (hf : fk ci j = 1) (hfin : (T j).2.2.2 = false) (hd0 : parseFieldDescriptor (T j).2.2.1 = some .long) (hw : Cond.fieldLink M.1.cls idx (T j).1 (T j).2.1 (T j).2.2.1 ∈ tw) (hd : decode M.2.1 pc = .ok (.putfield idx, 3)) (k : ∀ w1 : Wd, E g X M d (pc + 3) lv st w1 (k1 w1)) : E g X M d pc lv (.long v :: .ref (xa X cl) :: st) w (stL w cl j v k1) := by
  intro a ha p e s m args below meth c H locs ls C' hP hS hl
  have hlt := kd_lt hk (by omega)
  have hjn : j < nfl ci := by rw [hc.2.1]; exact hj
  refine va_put C'.1 C'.2.1 C'.2.2.2.2.2.1 hc.2.2.1 ty hc.2.2.2.1 hc.2.2.2.2 C'.2.2.2.2.1 C'.2.2.2.2.2.2.2.1.1 hP (cells_D C'.2.2.2.2.2.2.2.2 w) hS cl (by rw [cells_get hlt, ent_obj hk]) hc.1 j hj (C'.2.2.2.2.2.1 _ hw) (fun _ h => h) hfin hd0 rfl rfl (by rw [flds_len]; exact hjn) hd (fun H1 locs1 hP1 _ hS1 => ?_)
  rw [cells_set (w := w) (w' := sl w cl j v) hlt (by rw [ent_obj hk, flds_sl hf hjn]) (fun _ _ => rfl) sl_off] at hP1
  exact k (sl w cl j v) a ha p e s m args below meth c H1 locs1 ls C' hP1 hS1 hl
theorem e_iald {cl n : Nat} {i : Int32} {k1 : Int32 → Option σ} (hk : kd cl = (1, n)) (hd : decode M.2.1 pc = .ok (.iaload, 1)) (k : ∀ v : Int32, E g X M d (pc + 1) lv (.int v :: st) w (k1 v)) : E g X M d pc lv (.int i :: .ref (xa X cl) :: st) w (ldI w cl n i k1) := by
  intro a ha p e s m args below meth c H locs ls C' hP hS hl
  unfold ldI at ha
  by_cases hi : inb i n
  · rw [if_pos hi] at ha
    have hlt := kd_lt hk (by omega)
    exact va_iald (f := w.1 cl) C'.1 C'.2.1 C'.2.2.2.2.2.2.2.1.1 hP cl 0 (by rw [cells_get hlt, ent_int hk]) rfl (inb_vp hi) hd (k _ a ha p e s m args below meth c H locs ls C' hP hS hl)
  · rw [if_neg hi] at ha
    cases ha
theorem e_bald {cl n : Nat} {i : Int32} {k1 : Int32 → Option σ} (hk : kd cl = (2, n)) (hd : decode M.2.1 pc = .ok (.baload, 1)) (k : ∀ v : Int32, E g X M d (pc + 1) lv (.int v :: st) w (k1 v)) : E g X M d pc lv (.int i :: .ref (xa X cl) :: st) w (ldI w cl n i k1) := by
  intro a ha p e s m args below meth c H locs ls C' hP hS hl
  unfold ldI at ha
  by_cases hi : inb i n
  · rw [if_pos hi] at ha
    have hlt := kd_lt hk (by omega)
    exact va_bald (f := w.1 cl) C'.1 C'.2.1 C'.2.2.2.2.2.2.2.1.1 hP cl 1 (by rw [cells_get hlt, ent_byte hk]) rfl (inb_vp hi) hd (k _ a ha p e s m args below meth c H locs ls C' hP hS hl)
  · rw [if_neg hi] at ha
    cases ha
theorem e_sald {cl n : Nat} {i : Int32} {k1 : Int32 → Option σ} (hk : kd cl = (3, n)) (hd : decode M.2.1 pc = .ok (.saload, 1)) (k : ∀ v : Int32, E g X M d (pc + 1) lv (.int v :: st) w (k1 v)) : E g X M d pc lv (.int i :: .ref (xa X cl) :: st) w (ldI w cl n i k1) := by
  intro a ha p e s m args below meth c H locs ls C' hP hS hl
  unfold ldI at ha
  by_cases hi : inb i n
  · rw [if_pos hi] at ha
    have hlt := kd_lt hk (by omega)
    exact va_sald (f := w.1 cl) C'.1 C'.2.1 C'.2.2.2.2.2.2.2.1.1 hP cl 2 (by rw [cells_get hlt, ent_short hk]) rfl (inb_vp hi) hd (k _ a ha p e s m args below meth c H locs ls C' hP hS hl)
  · rw [if_neg hi] at ha
    cases ha
theorem e_lald {cl n : Nat} {i : Int32} {k1 : Int64 → Option σ} (hk : kd cl = (4, n)) (hd : decode M.2.1 pc = .ok (.laload, 1)) (k : ∀ v : Int64, E g X M d (pc + 1) lv (.long v :: st) w (k1 v)) : E g X M d pc lv (.int i :: .ref (xa X cl) :: st) w (ldL w cl n i k1) := by
  intro a ha p e s m args below meth c H locs ls C' hP hS hl
  unfold ldL at ha
  by_cases hi : inb i n
  · rw [if_pos hi] at ha
    have hlt := kd_lt hk (by omega)
    exact va_lald (f := w.2 cl) C'.1 C'.2.1 C'.2.2.2.2.2.2.2.1.1 hP cl 3 (by rw [cells_get hlt, ent_long hk]) rfl (inb_vp hi) hd (k _ a ha p e s m args below meth c H locs ls C' hP hS hl)
  · rw [if_neg hi] at ha
    cases ha
theorem e_aald {cl : Nat} {i : Int32} {k1 : Nat → Option σ} (hk : kd cl = (5, 6)) (hd : decode M.2.1 pc = .ok (.aaload, 1)) (k : ∀ c1 : Nat, isShf c1 → E g X M d (pc + 1) lv (.ref (xa X c1) :: st) w (k1 c1)) : E g X M d pc lv (.int i :: .ref (xa X cl) :: st) w (ldR i k1) := by
  intro a ha p e s m args below meth c H locs ls C' hP hS hl
  unfold ldR at ha
  by_cases hi : inb i 6
  · rw [if_pos hi] at ha
    have hlt := kd_lt hk (by omega)
    have hv := inb_vp hi
    have hj : ix i < 6 := Nat.not_le.mp fun q => hv (Or.inr q)
    exact va_aldq (f := fun i => some (xa X (42 + 2 * i))) C'.1 C'.2.1 C'.2.2.2.2.2.2.2.1.1 hP cl 4 (by rw [cells_get hlt, ent_ref hk]) rfl hv hd (k _ (isShf_of ⟨ix i, hj, rfl⟩) a ha p e s m args below meth c H locs ls C' hP hS hl)
  · rw [if_neg hi] at ha
    cases ha
theorem e_iast {cl n : Nat} {i x : Int32} {k1 : Wd → Option σ} (hk : kd cl = (1, n)) (hd : decode M.2.1 pc = .ok (.iastore, 1)) (k : ∀ w1 : Wd, E g X M d (pc + 1) lv st w1 (k1 w1)) : E g X M d pc lv (.int x :: .int i :: .ref (xa X cl) :: st) w (saI w cl n i x k1) := by
  intro a ha p e s m args below meth c H locs ls C' hP hS hl
  unfold saI at ha
  by_cases hi : inb i n
  · rw [if_pos hi] at ha
    have hlt := kd_lt hk (by omega)
    refine va_iast C'.1 C'.2.1 C'.2.2.2.2.2.2.2.1.1 hP (cells_D C'.2.2.2.2.2.2.2.2 w) hS cl 0 (by rw [cells_get hlt, ent_int hk]) rfl (inb_vp hi) hd (fun H1 locs1 hP1 _ hS1 => ?_)
    rw [cells_set (w := w) (w' := si w cl (ix i) x) hlt (by rw [ent_int hk, si_on]; rfl) si_off (fun _ _ => rfl)] at hP1
    exact k _ a ha p e s m args below meth c H1 locs1 ls C' hP1 hS1 hl
  · rw [if_neg hi] at ha
    cases ha
theorem e_bast {cl n : Nat} {i x : Int32} {k1 : Wd → Option σ} (hk : kd cl = (2, n)) (hd : decode M.2.1 pc = .ok (.bastore, 1)) (k : ∀ w1 : Wd, E g X M d (pc + 1) lv st w1 (k1 w1)) : E g X M d pc lv (.int x :: .int i :: .ref (xa X cl) :: st) w (saI w cl n i (i2b x) k1) := by
  intro a ha p e s m args below meth c H locs ls C' hP hS hl
  unfold saI at ha
  by_cases hi : inb i n
  · rw [if_pos hi] at ha
    have hlt := kd_lt hk (by omega)
    refine va_bast C'.1 C'.2.1 C'.2.2.2.2.2.2.2.1.1 hP (cells_D C'.2.2.2.2.2.2.2.2 w) hS cl 1 (by rw [cells_get hlt, ent_byte hk]) rfl (inb_vp hi) hd (fun H1 locs1 hP1 _ hS1 => ?_)
    rw [cells_set (w := w) (w' := si w cl (ix i) (i2b x)) hlt (by rw [ent_byte hk, si_on, vp_nar_byte]; rfl) si_off (fun _ _ => rfl)] at hP1
    exact k _ a ha p e s m args below meth c H1 locs1 ls C' hP1 hS1 hl
  · rw [if_neg hi] at ha
    cases ha
theorem e_sast {cl n : Nat} {i x : Int32} {k1 : Wd → Option σ} (hk : kd cl = (3, n)) (hd : decode M.2.1 pc = .ok (.sastore, 1)) (k : ∀ w1 : Wd, E g X M d (pc + 1) lv st w1 (k1 w1)) : E g X M d pc lv (.int x :: .int i :: .ref (xa X cl) :: st) w (saI w cl n i (i2s x) k1) := by
  intro a ha p e s m args below meth c H locs ls C' hP hS hl
  unfold saI at ha
  by_cases hi : inb i n
  · rw [if_pos hi] at ha
    have hlt := kd_lt hk (by omega)
    refine va_sast C'.1 C'.2.1 C'.2.2.2.2.2.2.2.1.1 hP (cells_D C'.2.2.2.2.2.2.2.2 w) hS cl 2 (by rw [cells_get hlt, ent_short hk]) rfl (inb_vp hi) hd (fun H1 locs1 hP1 _ hS1 => ?_)
    rw [cells_set (w := w) (w' := si w cl (ix i) (i2s x)) hlt (by rw [ent_short hk, si_on, vp_nar_short]; rfl) si_off (fun _ _ => rfl)] at hP1
    exact k _ a ha p e s m args below meth c H1 locs1 ls C' hP1 hS1 hl
  · rw [if_neg hi] at ha
    cases ha
theorem e_last {cl n : Nat} {i : Int32} {x : Int64} {k1 : Wd → Option σ} (hk : kd cl = (4, n)) (hd : decode M.2.1 pc = .ok (.lastore, 1)) (k : ∀ w1 : Wd, E g X M d (pc + 1) lv st w1 (k1 w1)) : E g X M d pc lv (.long x :: .int i :: .ref (xa X cl) :: st) w (saL w cl n i x k1) := by
  intro a ha p e s m args below meth c H locs ls C' hP hS hl
  unfold saL at ha
  by_cases hi : inb i n
  · rw [if_pos hi] at ha
    have hlt := kd_lt hk (by omega)
    refine va_last C'.1 C'.2.1 C'.2.2.2.2.2.2.2.1.1 hP (cells_D C'.2.2.2.2.2.2.2.2 w) hS cl 3 (by rw [cells_get hlt, ent_long hk]) rfl (inb_vp hi) hd (fun H1 locs1 hP1 _ hS1 => ?_)
    rw [cells_set (w := w) (w' := sl w cl (ix i) x) hlt (by rw [ent_long hk, sl_on]; rfl) (fun _ _ => rfl) sl_off] at hP1
    exact k _ a ha p e s m args below meth c H1 locs1 ls C' hP1 hS1 hl
  · rw [if_neg hi] at ha
    cases ha
theorem e_alenI {cl n : Nat} {v : Int32} (hk : kd cl = (1, n)) (hv : Int32.ofNat n = v) (hd : decode M.2.1 pc = .ok (.arraylength, 1)) (k : E g X M d (pc + 1) lv (.int v :: st) w o) : E g X M d pc lv (.ref (xa X cl) :: st) w o := by
  intro a ha p e s m args below meth c H locs ls C' hP hS hl
  have hlt := kd_lt hk (by omega)
  exact va_alen C'.1 C'.2.1 C'.2.2.2.2.2.2.2.1.1 hP cl 0 (by rw [cells_get hlt, ent_int hk]) rfl hv hd (k a ha p e s m args below meth c H locs ls C' hP hS hl)
/-- the ends -/
theorem e_iretR {x : Int32} (hr : M.2.2.2 = some .int) (hd : decode M.2.1 pc = .ok (.ireturn, 1)) : E (gRI w) X M d pc lv [.int x] w (some x) := by
  intro a ha p e s m args below meth c H locs ls C' hP hS hl
  cases ha
  exact W.iret C'.1 C'.2.1 (C'.2.2.1.trans hr) (fun t ht _ => ⟨⟨rfl, by rw [ht]; exact hP⟩, hS.F ht⟩) (fun q hq => hS.2.2 q hq) hd C'.2.2.2.2.2.2.1
theorem e_iretW {x : Int32} (hr : M.2.2.2 = some .int) (hd : decode M.2.1 pc = .ok (.ireturn, 1)) : E gWI X M d pc lv [.int x] w (some (x, w)) := by
  intro a ha p e s m args below meth c H locs ls C' hP hS hl
  cases ha
  exact W.iret C'.1 C'.2.1 (C'.2.2.1.trans hr) (fun t ht _ => ⟨⟨rfl, by rw [ht]; exact hP⟩, hS.F ht⟩) (fun q hq => hS.2.2 q hq) hd C'.2.2.2.2.2.2.1
theorem e_lretR {x : Int64} (hr : M.2.2.2 = some .long) (hd : decode M.2.1 pc = .ok (.lreturn, 1)) : E (gRL w) X M d pc lv [.long x] w (some x) := by
  intro a ha p e s m args below meth c H locs ls C' hP hS hl
  cases ha
  exact W.lret C'.1 C'.2.1 (C'.2.2.1.trans hr) (fun t ht _ => ⟨⟨rfl, by rw [ht]; exact hP⟩, hS.F ht⟩) (fun q hq => hS.2.2 q hq) hd C'.2.2.2.2.2.2.1
theorem e_lretW {x : Int64} (hr : M.2.2.2 = some .long) (hd : decode M.2.1 pc = .ok (.lreturn, 1)) : E gWL X M d pc lv [.long x] w (some (x, w)) := by
  intro a ha p e s m args below meth c H locs ls C' hP hS hl
  cases ha
  exact W.lret C'.1 C'.2.1 (C'.2.2.1.trans hr) (fun t ht _ => ⟨⟨rfl, by rw [ht]; exact hP⟩, hS.F ht⟩) (fun q hq => hS.2.2 q hq) hd C'.2.2.2.2.2.2.1
theorem e_vret (hr : M.2.2.2 = none) (hd : decode M.2.1 pc = .ok (.return_, 1)) : E gWV X M d pc lv [] w (some w) := by
  intro a ha p e s m args below meth c H locs ls C' hP hS hl
  cases ha
  exact W.vret C'.1 C'.2.1 (C'.2.2.1.trans hr) (fun t ht _ => ⟨⟨rfl, by rw [ht]; exact hP⟩, hS.F ht⟩) (fun q hq => hS.2.2 q hq) hd C'.2.2.2.2.2.2.1
theorem e_zretR0 {x : Int32} (hr : M.2.2.2 = some .boolean) (hx : x = 0 ∨ x = 1) (hd : decode M.2.1 pc = .ok (.ireturn, 1)) : E (gRI w) X M d pc lv [.int x] w (some x) := by
  intro a ha p e s m args below meth c H locs ls C' hP hS hl
  cases ha
  exact W.zret C'.1 C'.2.1 (C'.2.2.1.trans hr) (zfit hx).1 (fun t ht _ => ⟨⟨rfl, by rw [ht]; exact hP⟩, hS.F ht⟩) (fun q hq => hS.2.2 q hq) hd C'.2.2.2.2.2.2.1
theorem e_zretW0 {x : Int32} (hr : M.2.2.2 = some .boolean) (hx : x = 0 ∨ x = 1) (hd : decode M.2.1 pc = .ok (.ireturn, 1)) : E gWI X M d pc lv [.int x] w (some (x, w)) := by
  intro a ha p e s m args below meth c H locs ls C' hP hS hl
  cases ha
  exact W.zret C'.1 C'.2.1 (C'.2.2.1.trans hr) (zfit hx).1 (fun t ht _ => ⟨⟨rfl, by rw [ht]; exact hP⟩, hS.F ht⟩) (fun q hq => hS.2.2 q hq) hd C'.2.2.2.2.2.2.1
theorem e_zretR {x : Int32} (hr : M.2.2.2 = some .boolean) (hd : decode M.2.1 pc = .ok (.ireturn, 1)) : E (gRI w) X M d pc lv [.int x] w (zb x (some x)) := by
  intro a ha
  unfold zb at ha
  by_cases hx : x = 0 ∨ x = 1
  · rw [if_pos hx] at ha
    exact e_zretR0 hr hx hd a ha
  · rw [if_neg hx] at ha
    cases ha
theorem e_zretW {x : Int32} (hr : M.2.2.2 = some .boolean) (hd : decode M.2.1 pc = .ok (.ireturn, 1)) : E gWI X M d pc lv [.int x] w (zb x (some (x, w))) := by
  intro a ha
  unfold zb at ha
  by_cases hx : x = 0 ∨ x = 1
  · rw [if_pos hx] at ha
    exact e_zretW0 hr hx hd a ha
  · rw [if_neg hx] at ha
    cases ha
/-- switches: one more key tried -/
theorem e_tabOut {x : Int32} {dflt lo hi : Int} {offs : Array Int} {len tgt : Nat} (hd : decode M.2.1 pc = .ok (.tableswitch dflt lo hi offs, len)) (h : x.toInt < lo ∨ hi < x.toInt) (ht : (pc : Int) + dflt = (tgt : Int)) (k : E g X M d tgt lv st w o) : E g X M d pc lv (.int x :: st) w o :=
  fun a ha p e s m args below meth c H locs ls C hP hS hl => lv_tableOut C.1 C.2.1 hd h ht (k a ha p e s m args below meth c H locs ls C hP hS hl)
theorem e_tabIn {x : Int32} {dflt lo hi off : Int} {offs : Array Int} {len tgt : Nat} (hd : decode M.2.1 pc = .ok (.tableswitch dflt lo hi offs, len)) (h1 : ¬ x.toInt < lo) (h2 : ¬ hi < x.toInt) (ho : offs[(x.toInt - lo).toNat]? = some off) (ht : (pc : Int) + off = (tgt : Int)) (k : E g X M d tgt lv st w o) : E g X M d pc lv (.int x :: st) w o :=
  fun a ha p e s m args below meth c H locs ls C hP hS hl => lv_tableIn C.1 C.2.1 hd h1 h2 ho ht (k a ha p e s m args below meth c H locs ls C hP hS hl)
theorem e_look {x : Int32} {dflt off : Int} {ps : Array (Int × Int)} {len tgt : Nat} (hd : decode M.2.1 pc = .ok (.lookupswitch dflt ps, len)) (hp : (ps.toList.zip (ps.toList.drop 1)).all (fun (a, next) => a.1 < next.1) = true) (ho : Op.lookupswitch.offset ps.toList dflt x.toInt = off) (ht : (pc : Int) + off = (tgt : Int)) (k : E g X M d tgt lv st w o) : E g X M d pc lv (.int x :: st) w o :=
  fun a ha p e s m args below meth c H locs ls C hP hS hl => lv_lookup C.1 C.2.1 hd hp ho ht (k a ha p e s m args below meth c H locs ls C hP hS hl)
theorem e_ite {q : Prop} [Decidable q] {o1 o2 : Option σ} (k1 : q → E g X M d pc lv st w o1) (k2 : ¬ q → E g X M d pc lv st w o2) : E g X M d pc lv st w (if q then o1 else o2) := by
  by_cases h : q
  · rw [if_pos h]; exact k1 h
  · rw [if_neg h]; exact k2 h
/-- static tables -/
theorem e_gets {C n ds : String} {q idx : Nat} (hZ : ∀ U : State, En X U → va_Z C n ds (.ref (xa X q)) (AX X) U U.heap) (hw : Cond.fieldLink M.1.cls idx C n ds ∈ tw) (hd : decode M.2.1 pc = .ok (.getstatic idx, 3)) (k : E g X M d (pc + 3) lv (.ref (xa X q) :: st) w o) : E g X M d pc lv st w o :=
  fun a ha p e s m args below meth c H locs ls C hP hS hl => va_gets C.1 C.2.1 (hZ s C.2.2.2.2.2.2.2.1) hS C.2.2.2.2.1 (C.2.2.2.2.2.1 _ hw) (fun _ h => h) hd (k a ha p e s m args below meth c H locs ls C hP hS hl)
theorem e_tI {q n : Nat} {f : Nat → Int32} {i : Int32} {k1 : Int32 → Option σ} (hT : ∀ U : State, En X U → va_T .int (xa X q) n (fun j => .int (f j)) (AX X) U U.heap) (hd : decode M.2.1 pc = .ok (.iaload, 1)) (k : ∀ v : Int32, E g X M d (pc + 1) lv (.int v :: st) w (k1 v)) : E g X M d pc lv (.int i :: .ref (xa X q) :: st) w (ltI f n i k1) := by
  intro a ha p e s m args below meth c H locs ls C' hP hS hl
  unfold ltI at ha
  by_cases hi : inb i n
  · rw [if_pos hi] at ha
    exact va_ti C'.1 C'.2.1 (hT s C'.2.2.2.2.2.2.2.1) hS (inb_vp hi) rfl hd (k _ a ha p e s m args below meth c H locs ls C' hP hS hl)
  · rw [if_neg hi] at ha
    cases ha
theorem e_tL {q n : Nat} {f : Nat → Int64} {i : Int32} {k1 : Int64 → Option σ} (hT : ∀ U : State, En X U → va_T .long (xa X q) n (fun j => .long (f j)) (AX X) U U.heap) (hd : decode M.2.1 pc = .ok (.laload, 1)) (k : ∀ v : Int64, E g X M d (pc + 1) lv (.long v :: st) w (k1 v)) : E g X M d pc lv (.int i :: .ref (xa X q) :: st) w (ltL f n i k1) := by
  intro a ha p e s m args below meth c H locs ls C' hP hS hl
  unfold ltL at ha
  by_cases hi : inb i n
  · rw [if_pos hi] at ha
    exact va_tl C'.1 C'.2.1 (hT s C'.2.2.2.2.2.2.2.1) hS (inb_vp hi) rfl hd (k _ a ha p e s m args below meth c H locs ls C' hP hS hl)
  · rw [if_neg hi] at ha
    cases ha
/-- calls -/
abbrev notMH (M2 : Mt) : Prop := M2.1.cls ≠ "java/lang/invoke/MethodHandle" ∧ M2.1.cls ≠ "java/lang/invoke/VarHandle"
def LkS (own : String) (idx : Nat) (M2 : Mt) (n : Nat) : Prop := Cond.methodLink own idx M2.1 ∈ tw ∧ Cond.static M2.1 ∈ tw ∧ Cond.initialized M2.1.cls ∈ tw ∧ codeW M2 ∈ tw ∧ notMH M2 ∧ (parseMethodDescriptor M2.1.desc).map (fun d => d.parameters.length) = some n
def LkV (own : String) (idx : Nat) (M2 : Mt) (n : Nat) : Prop := Cond.methodLink own idx M2.1 ∈ tw ∧ Cond.instanceMethod M2.1 ∈ tw ∧ Cond.selects M2.1.cls M2.1 M2.1 ∈ tw ∧ Cond.initialized M2.1.cls ∈ tw ∧ codeW M2 ∈ tw ∧ notMH M2 ∧ (parseMethodDescriptor M2.1.desc).map (fun d => d.parameters.length) = some n
theorem callB_tw {R : Room} {s : State} {args : Array Value} {own : String} {idx n d2 : Nat} {M2 : Mt} (hts : ∀ w ∈ tw, w.before args s = true) (h1 : Cond.methodLink own idx M2.1 ∈ tw) (h3 : Cond.initialized M2.1.cls ∈ tw) (h4 : codeW M2 ∈ tw) (h5 : notMH M2) (h6 : (parseMethodDescriptor M2.1.desc).map (fun d => d.parameters.length) = some n) (hR : (rmd d2).frames + 1 ≤ R.frames ∧ 8 + (M2.2.2.1 + 11) + (rmd d2).locals ≤ R.locals) :
    CallB R s args own idx M2.1 M2.2.1 M2.2.2.1 M2.2.2.2 (codeW M2 :: tw) (rmd d2) 0 0 n :=
  callB_of (Ts := tw) (ws' := tw) n hts (fun w hw => by
    rcases List.mem_cons.mp hw with rfl | h
    · exact ⟨h4, tw_good h4⟩
    · exact ⟨h, tw_good h⟩) rfl rfl rfl (hts _ h3) (hts _ h1) ⟨h5.1, h5.2, h6⟩ hR
theorem rmd_room {d2 d mL : Nat} (h : d2 + 1 ≤ d) (hm : mL ≤ 20) : (rmd d2).frames + 1 ≤ (rmd d).frames ∧ 8 + (mL + 11) + (rmd d2).locals ≤ (rmd d).locals := by
  refine ⟨h, ?_⟩
  show 8 + (mL + 11) + 40 * d2 ≤ 40 * d
  omega
theorem e_goOn {σ1 : Type} {g1 : σ1 → Option Value × Wd} {rest : List Value} {a1 : σ1} {a : σ} {st0 : List Value} {ls : Array Slot} {aa : Array Value} {p : Program} {e : Env} {s : State} {m : MethodId} {args : Array Value} {below : List Frame} {meth : Method} {c : Code} {H : Heap} {locs : List Loc} (C : Cx X M p s m args meth c) (hS : va_S (AX X) s.heap H locs) (hl : lv_has ls M.2.2.1 lv)
    (hr : va_Run p X.1 e (rmd d) s m args below meth c H locs 0 0 0 0 (F0 m pc ls st0) rest (Qx X (g1 a1) aa) (AX X))
    (k : E g X M d (pc + 3) lv ((g1 a1).1.toList ++ rest) (g1 a1).2 (some a)) : W p X.1 e (rmd d) s m args below meth c H locs 0 0 (MQ below (Qx X (g a)) args s 0 0 (AX X)) (F0 m pc ls st0) := by
  intro T hT X0
  obtain ⟨v, st₀, t, T', L, h0, X', hL, e1, e2, ⟨⟨hv, hPt⟩, hz, hkk⟩, hst⟩ := hr T hT X0
  cases hv
  rw [h0] at hz hkk
  have hS1 : va_S (AX X) s.heap T'.heap (locs ++ L) := ⟨Nat.le_trans hS.1 (by rw [e1]; exact hz), fun q h1 h2 => by rw [e1, hkk q (Nat.lt_of_lt_of_le h1 hS.1) h2]; exact hS.2.1 q h1 h2, fun q hq => by
      rcases List.mem_append.mp hq with h | h
      · exact hS.2.2 q h
      · exact hL q h⟩
  obtain ⟨t2, b1, b2⟩ := k a rfl p e s m args below meth c T'.heap (locs ++ L) ls C (by rw [e1]; exact hPt) hS1 hl T' rfl X'
  exact ⟨t2, hst t2 b1, b2⟩
theorem pc_pre {s : State} {H : Heap} {locs : List Loc} {av : List Value} (hE : En X s) (hP : va_P (xD X) vwCl (cells X w) H) (hS : va_S (AX X) s.heap H locs) : PreS s H (va_Pc av (fun U => va_P (xD X) vwCl (cells X w) U.heap ∧ En X U)) av :=
  ⟨fun aa U g' mk q => ⟨q.1, q.2.1, En_calling q.2.2⟩, fun U hU hW => ⟨rfl, by rw [hU]; exact hP, En_at (locs := locs) hE (by rw [hU]; exact hS) hW⟩⟩
theorem e_callS {σ1 : Type} {g1 : σ1 → Option Value × Wd} {M2 : Mt} {d2 n idx : Nat} {As rest : List Value} {o1 : Option σ1} {k1 : σ1 → Option σ} (hM : CF g1 X M2 d2 As w o1) (hlk : LkS M.1.cls idx M2 n) (hd2 : d2 + 1 ≤ d) (hmL : M2.2.2.1 ≤ 20) (hn : As.length = n) (hst : st = As.reverse ++ rest) (hW : (rest.map fun v => v.category).sum ≤ 8) (hd : decode M.2.1 pc = .ok (.invokestatic idx, 3))
    (k : ∀ a1, E g X M d (pc + 3) lv ((g1 a1).1.toList ++ rest) (g1 a1).2 (k1 a1)) : E g X M d pc lv st w (o1.bind k1) := by
  intro a ha p e s m args below meth c H locs ls C hP hS hl
  cases ho : o1 with
  | none => rw [ho] at ha; cases ha
  | some a1 =>
    rw [ho] at ha
    obtain ⟨h1, h2, h3, h4, h5, h6⟩ := hlk
    refine e_goOn (a1 := a1) C hS hl (va_runS (Ts := tw) ⟨C.1, C.2.1, C.2.2.2.1, C.2.2.2.2.1, C.2.2.2.2.2.1⟩ (hM C.2.2.2.2.2.2.2.2 a1 ho) ⟨callB_tw C.2.2.2.2.2.1 h1 h3 h4 h5 h6 (rmd_room hd2 hmL), C.2.2.2.2.2.1 _ h2⟩ (pc_pre C.2.2.2.2.2.2.2.1 hP hS) rfl hn hl.1 hst (lv_room hW) hd ⟨Nat.le_refl _, Nat.le_refl _⟩) (by have := k a1; rw [← ha]; exact this)
theorem e_callV {σ1 : Type} {g1 : σ1 → Option Value × Wd} {M2 : Mt} {d2 n idx ci cl : Nat} {As rest : List Value} {T : u_T} {N : Nat} {ty : Nat → FieldType} {o1 : Option σ1} {k1 : σ1 → Option σ} (hk : kd cl = (0, ci)) (hc : Kc ci M2.1.cls T N ty) (hM : CF g1 X M2 d2 (.ref (xa X cl) :: As) w o1) (hlk : LkV M.1.cls idx M2 n) (hd2 : d2 + 1 ≤ d) (hmL : M2.2.2.1 ≤ 20) (hn : As.length = n) (hst : st = As.reverse ++ .ref (xa X cl) :: rest) (hW : (rest.map fun v => v.category).sum ≤ 8) (hd : decode M.2.1 pc = .ok (.invokevirtual idx, 3))
    (k : ∀ a1, E g X M d (pc + 3) lv ((g1 a1).1.toList ++ rest) (g1 a1).2 (k1 a1)) : E g X M d pc lv st w (o1.bind k1) := by
  intro a ha p e s m args below meth c H locs ls C hP hS hl
  cases ho : o1 with
  | none => rw [ho] at ha; cases ha
  | some a1 =>
    rw [ho] at ha
    obtain ⟨h1, h2, h2', h3, h4, h5, h6⟩ := hlk
    have hlt := kd_lt hk (by omega)
    have hpre := pc_pre (w := w) (av := .ref (xa X cl) :: As) C.2.2.2.2.2.2.2.1 hP hS
    refine e_goOn (a1 := a1) C hS hl (va_runV (C := M2.1.cls) (Ts := tw) ⟨C.1, C.2.1, C.2.2.2.1, C.2.2.2.2.1, C.2.2.2.2.2.1⟩ (hM C.2.2.2.2.2.2.2.2 a1 ho) ⟨callB_tw C.2.2.2.2.2.1 h1 h3 h4 h5 h6 (rmd_room hd2 hmL), C.2.2.2.2.2.1 _ h2, C.2.2.2.2.2.1 _ h2'⟩ ⟨hpre.1, va_recv (q := (M2.1.cls, T, N)) C.2.2.2.2.2.2.2.1.1 hP hc.1 (show (cells X w)[cl]? = some (xa X cl, .inr (ci, flds X w cl ci)) by rw [cells_get hlt, ent_obj hk]), hpre.2⟩ rfl hn hl.1 hst (lv_room hW) hd ⟨Nat.le_refl _, Nat.le_refl _⟩) (by have := k a1; rw [← ha]; exact this)
theorem e_callSRI {M2 : Mt} {d2 n idx : Nat} {As rest : List Value} {o1 : Option Int32} {k1 : Int32 → Option σ} (hM : CF (gRI w) X M2 d2 As w o1) (hlk : LkS M.1.cls idx M2 n) (hd2 : d2 + 1 ≤ d) (hmL : M2.2.2.1 ≤ 20) (hn : As.length = n) (hst : st = As.reverse ++ rest) (hW : (rest.map fun v => v.category).sum ≤ 8) (hd : decode M.2.1 pc = .ok (.invokestatic idx, 3)) (k : ∀ r : Int32, E g X M d (pc + 3) lv (.int r :: rest) w (k1 r)) : E g X M d pc lv st w (bR o1 k1) :=
  e_callS hM hlk hd2 hmL hn hst hW hd k
theorem e_callSRL {M2 : Mt} {d2 n idx : Nat} {As rest : List Value} {o1 : Option Int64} {k1 : Int64 → Option σ} (hM : CF (gRL w) X M2 d2 As w o1) (hlk : LkS M.1.cls idx M2 n) (hd2 : d2 + 1 ≤ d) (hmL : M2.2.2.1 ≤ 20) (hn : As.length = n) (hst : st = As.reverse ++ rest) (hW : (rest.map fun v => v.category).sum ≤ 8) (hd : decode M.2.1 pc = .ok (.invokestatic idx, 3)) (k : ∀ r : Int64, E g X M d (pc + 3) lv (.long r :: rest) w (k1 r)) : E g X M d pc lv st w (bR o1 k1) :=
  e_callS hM hlk hd2 hmL hn hst hW hd k
theorem e_callSWI {M2 : Mt} {d2 n idx : Nat} {As rest : List Value} {o1 : Option (Int32 × Wd)} {k1 : Int32 → Wd → Option σ} (hM : CF gWI X M2 d2 As w o1) (hlk : LkS M.1.cls idx M2 n) (hd2 : d2 + 1 ≤ d) (hmL : M2.2.2.1 ≤ 20) (hn : As.length = n) (hst : st = As.reverse ++ rest) (hW : (rest.map fun v => v.category).sum ≤ 8) (hd : decode M.2.1 pc = .ok (.invokestatic idx, 3)) (k : ∀ (r : Int32) (w1 : Wd), E g X M d (pc + 3) lv (.int r :: rest) w1 (k1 r w1)) : E g X M d pc lv st w (bW o1 k1) :=
  e_callS hM hlk hd2 hmL hn hst hW hd (fun q => k q.1 q.2)
theorem e_callSWL {M2 : Mt} {d2 n idx : Nat} {As rest : List Value} {o1 : Option (Int64 × Wd)} {k1 : Int64 → Wd → Option σ} (hM : CF gWL X M2 d2 As w o1) (hlk : LkS M.1.cls idx M2 n) (hd2 : d2 + 1 ≤ d) (hmL : M2.2.2.1 ≤ 20) (hn : As.length = n) (hst : st = As.reverse ++ rest) (hW : (rest.map fun v => v.category).sum ≤ 8) (hd : decode M.2.1 pc = .ok (.invokestatic idx, 3)) (k : ∀ (r : Int64) (w1 : Wd), E g X M d (pc + 3) lv (.long r :: rest) w1 (k1 r w1)) : E g X M d pc lv st w (bW o1 k1) :=
  e_callS hM hlk hd2 hmL hn hst hW hd (fun q => k q.1 q.2)
theorem e_callSWV {M2 : Mt} {d2 n idx : Nat} {As rest : List Value} {o1 : Option Wd} {k1 : Wd → Option σ} (hM : CF gWV X M2 d2 As w o1) (hlk : LkS M.1.cls idx M2 n) (hd2 : d2 + 1 ≤ d) (hmL : M2.2.2.1 ≤ 20) (hn : As.length = n) (hst : st = As.reverse ++ rest) (hW : (rest.map fun v => v.category).sum ≤ 8) (hd : decode M.2.1 pc = .ok (.invokestatic idx, 3)) (k : ∀ w1 : Wd, E g X M d (pc + 3) lv rest w1 (k1 w1)) : E g X M d pc lv st w (bV o1 k1) :=
  e_callS hM hlk hd2 hmL hn hst hW hd k
theorem e_callVRI {M2 : Mt} {d2 n idx : Nat} {As rest : List Value} {ci cl : Nat} {T : u_T} {N : Nat} {ty : Nat → FieldType} {o1 : Option Int32} {k1 : Int32 → Option σ} (hk : kd cl = (0, ci)) (hc : Kc ci M2.1.cls T N ty) (hM : CF (gRI w) X M2 d2 (.ref (xa X cl) :: As) w o1) (hlk : LkV M.1.cls idx M2 n) (hd2 : d2 + 1 ≤ d) (hmL : M2.2.2.1 ≤ 20) (hn : As.length = n) (hst : st = As.reverse ++ .ref (xa X cl) :: rest) (hW : (rest.map fun v => v.category).sum ≤ 8) (hd : decode M.2.1 pc = .ok (.invokevirtual idx, 3)) (k : ∀ r : Int32, E g X M d (pc + 3) lv (.int r :: rest) w (k1 r)) : E g X M d pc lv st w (bR o1 k1) :=
  e_callV hk hc hM hlk hd2 hmL hn hst hW hd k
theorem e_callVRL {M2 : Mt} {d2 n idx : Nat} {As rest : List Value} {ci cl : Nat} {T : u_T} {N : Nat} {ty : Nat → FieldType} {o1 : Option Int64} {k1 : Int64 → Option σ} (hk : kd cl = (0, ci)) (hc : Kc ci M2.1.cls T N ty) (hM : CF (gRL w) X M2 d2 (.ref (xa X cl) :: As) w o1) (hlk : LkV M.1.cls idx M2 n) (hd2 : d2 + 1 ≤ d) (hmL : M2.2.2.1 ≤ 20) (hn : As.length = n) (hst : st = As.reverse ++ .ref (xa X cl) :: rest) (hW : (rest.map fun v => v.category).sum ≤ 8) (hd : decode M.2.1 pc = .ok (.invokevirtual idx, 3)) (k : ∀ r : Int64, E g X M d (pc + 3) lv (.long r :: rest) w (k1 r)) : E g X M d pc lv st w (bR o1 k1) :=
  e_callV hk hc hM hlk hd2 hmL hn hst hW hd k
theorem e_callVWI {M2 : Mt} {d2 n idx : Nat} {As rest : List Value} {ci cl : Nat} {T : u_T} {N : Nat} {ty : Nat → FieldType} {o1 : Option (Int32 × Wd)} {k1 : Int32 → Wd → Option σ} (hk : kd cl = (0, ci)) (hc : Kc ci M2.1.cls T N ty) (hM : CF gWI X M2 d2 (.ref (xa X cl) :: As) w o1) (hlk : LkV M.1.cls idx M2 n) (hd2 : d2 + 1 ≤ d) (hmL : M2.2.2.1 ≤ 20) (hn : As.length = n) (hst : st = As.reverse ++ .ref (xa X cl) :: rest) (hW : (rest.map fun v => v.category).sum ≤ 8) (hd : decode M.2.1 pc = .ok (.invokevirtual idx, 3)) (k : ∀ (r : Int32) (w1 : Wd), E g X M d (pc + 3) lv (.int r :: rest) w1 (k1 r w1)) : E g X M d pc lv st w (bW o1 k1) :=
  e_callV hk hc hM hlk hd2 hmL hn hst hW hd (fun q => k q.1 q.2)
theorem e_callVWL {M2 : Mt} {d2 n idx : Nat} {As rest : List Value} {ci cl : Nat} {T : u_T} {N : Nat} {ty : Nat → FieldType} {o1 : Option (Int64 × Wd)} {k1 : Int64 → Wd → Option σ} (hk : kd cl = (0, ci)) (hc : Kc ci M2.1.cls T N ty) (hM : CF gWL X M2 d2 (.ref (xa X cl) :: As) w o1) (hlk : LkV M.1.cls idx M2 n) (hd2 : d2 + 1 ≤ d) (hmL : M2.2.2.1 ≤ 20) (hn : As.length = n) (hst : st = As.reverse ++ .ref (xa X cl) :: rest) (hW : (rest.map fun v => v.category).sum ≤ 8) (hd : decode M.2.1 pc = .ok (.invokevirtual idx, 3)) (k : ∀ (r : Int64) (w1 : Wd), E g X M d (pc + 3) lv (.long r :: rest) w1 (k1 r w1)) : E g X M d pc lv st w (bW o1 k1) :=
  e_callV hk hc hM hlk hd2 hmL hn hst hW hd (fun q => k q.1 q.2)
theorem e_callVWV {M2 : Mt} {d2 n idx : Nat} {As rest : List Value} {ci cl : Nat} {T : u_T} {N : Nat} {ty : Nat → FieldType} {o1 : Option Wd} {k1 : Wd → Option σ} (hk : kd cl = (0, ci)) (hc : Kc ci M2.1.cls T N ty) (hM : CF gWV X M2 d2 (.ref (xa X cl) :: As) w o1) (hlk : LkV M.1.cls idx M2 n) (hd2 : d2 + 1 ≤ d) (hmL : M2.2.2.1 ≤ 20) (hn : As.length = n) (hst : st = As.reverse ++ .ref (xa X cl) :: rest) (hW : (rest.map fun v => v.category).sum ≤ 8) (hd : decode M.2.1 pc = .ok (.invokevirtual idx, 3)) (k : ∀ w1 : Wd, E g X M d (pc + 3) lv rest w1 (k1 w1)) : E g X M d pc lv st w (bV o1 k1) :=
  e_callV hk hc hM hlk hd2 hmL hn hst hW hd k
theorem e_mmax {idx : Nat} {x y : Int32} (hl1 : Cond.methodLink M.1.cls idx Lib.Math.max.name ∈ tw) (hs1 : Cond.static Lib.Math.max.name ∈ tw) (hi1 : Cond.initialized "java/lang/Math" ∈ tw) (hc1 : Cond.code Lib.Math.max.name Lib.Math.max.code 2 (some .int) ∈ tw) (hdd : 1 ≤ d) (hW : (st.map fun v => v.category).sum ≤ 8) (hd : decode M.2.1 pc = .ok (.invokestatic idx, 3)) (k : E g X M d (pc + 3) lv (.int (imax x y) :: st) w o) : E g X M d pc lv (.int y :: .int x :: st) w o :=
  fun a ha p e s m args below meth c H locs ls C hP hS hl => va_mmax C.1 C.2.1 (C.2.2.2.1.trans hl.1.symm) C.2.2.2.2.1 (C.2.2.2.2.2.1 _ hl1) (C.2.2.2.2.2.1 _ hs1) (C.2.2.2.2.2.1 _ hi1) (C.2.2.2.2.2.1 _ hc1) hdd (show _ + 13 ≤ 40 * d by omega) (Nat.le_refl _) (Nat.le_refl _) hd (k a ha p e s m args below meth c H locs ls C hP hS hl)
theorem e_mmin {idx : Nat} {x y : Int32} (hl1 : Cond.methodLink M.1.cls idx Lib.Math.min.name ∈ tw) (hs1 : Cond.static Lib.Math.min.name ∈ tw) (hi1 : Cond.initialized "java/lang/Math" ∈ tw) (hc1 : Cond.code Lib.Math.min.name Lib.Math.min.code 2 (some .int) ∈ tw) (hdd : 1 ≤ d) (hW : (st.map fun v => v.category).sum ≤ 8) (hd : decode M.2.1 pc = .ok (.invokestatic idx, 3)) (k : E g X M d (pc + 3) lv (.int (imin x y) :: st) w o) : E g X M d pc lv (.int y :: .int x :: st) w o :=
  fun a ha p e s m args below meth c H locs ls C hP hS hl => va_mmin C.1 C.2.1 (C.2.2.2.1.trans hl.1.symm) C.2.2.2.2.1 (C.2.2.2.2.2.1 _ hl1) (C.2.2.2.2.2.1 _ hs1) (C.2.2.2.2.2.1 _ hi1) (C.2.2.2.2.2.1 _ hc1) hdd (show _ + 13 ≤ 40 * d by omega) (Nat.le_refl _) (Nat.le_refl _) hd (k a ha p e s m args below meth c H locs ls C hP hS hl)
theorem e_labs {idx : Nat} {x : Int64} (hl1 : Cond.methodLink M.1.cls idx Lib.MathLoose.abs_long.x ∈ tw) (hs1 : Cond.static Lib.MathLoose.abs_long.x ∈ tw) (hi1 : Cond.initialized "java/lang/Math" ∈ tw) (hc1 : Cond.code Lib.MathLoose.abs_long.x Lib.MathLoose.abs_long.code 2 (some .long) ∈ tw) (hdd : 1 ≤ d) (hW : (st.map fun v => v.category).sum ≤ 8) (hd : decode M.2.1 pc = .ok (.invokestatic idx, 3)) (k : E g X M d (pc + 3) lv (.long (labs x) :: st) w o) : E g X M d pc lv (.long x :: st) w o :=
  fun a ha p e s m args below meth c H locs ls C hP hS hl => va_mabs_long C.1 C.2.1 (C.2.2.2.1.trans hl.1.symm) C.2.2.2.2.1 (C.2.2.2.2.2.1 _ hl1) (C.2.2.2.2.2.1 _ hs1) (C.2.2.2.2.2.1 _ hi1) (C.2.2.2.2.2.1 _ hc1) hdd (show _ + 13 ≤ 40 * d by omega) (Nat.le_refl _) (Nat.le_refl _) hd (k a ha p e s m args below meth c H locs ls C hP hS hl)
def LkC (own : String) (idx : Nat) : Prop := Cond.methodLink own idx arraycopyName ∈ tw ∧ Cond.native arraycopyName ∈ tw ∧ Cond.static arraycopyName ∈ tw ∧ Cond.initialized "java/lang/System" ∈ tw
theorem cyok_n {n0 n1 : Nat} {sp dp n : Int32} (h : cyok n0 n1 sp dp n) : ¬ sp < 0 ∧ ¬ dp < 0 ∧ ¬ n < 0 ∧ sp.toNatClampNeg + n.toNatClampNeg ≤ n0 ∧ dp.toNatClampNeg + n.toNatClampNeg ≤ n1 := by
  obtain ⟨h1, h2, h3, h4, h5⟩ := h
  have e : ∀ z : Int32, z.toNatClampNeg = z.toInt.toNat := fun z => rfl
  refine ⟨fun q => ?_, fun q => ?_, fun q => ?_, ?_, ?_⟩
  · have := Int32.lt_iff_toInt_lt.mp q
    simp at this
    omega
  · have := Int32.lt_iff_toInt_lt.mp q
    simp at this
    omega
  · have := Int32.lt_iff_toInt_lt.mp q
    simp at this
    omega
  · rw [e, e]; omega
  · rw [e, e]; omega
theorem e_cyI {idx cs n0 cd n1 : Nat} {sp dp n : Int32} {k1 : Wd → Option σ} (hks : kd cs = (1, n0)) (hkd : kd cd = (1, n1)) (hlk : LkC M.1.cls idx) (hdd : 1 ≤ d) (hW : (st.map fun v => v.category).sum ≤ 8) (hd : decode M.2.1 pc = .ok (.invokestatic idx, 3)) (k : ∀ w1 : Wd, E g X M d (pc + 3) lv st w1 (k1 w1)) : E g X M d pc lv (.int n :: .int dp :: .ref (xa X cd) :: .int sp :: .ref (xa X cs) :: st) w (cyI w cs n0 cd n1 sp dp n k1) := by
  intro a ha p e s m args below meth c H locs ls C hP hS hl
  unfold cyI at ha
  by_cases hi : cyok n0 n1 sp dp n
  · rw [if_pos hi] at ha
    obtain ⟨h1, h2, h3, h4⟩ := hlk
    obtain ⟨q1, q2, q3, q4, q5⟩ := cyok_n hi
    have hls := kd_lt hks (by omega)
    have hld := kd_lt hkd (by omega)
    refine va_copyi (ty := .int) C.1 C.2.1 (C.2.2.2.1.trans hl.1.symm) C.2.2.2.2.1 (C.2.2.2.2.2.1 _ h1) (C.2.2.2.2.2.1 _ h2) (C.2.2.2.2.2.1 _ h3) (C.2.2.2.2.2.1 _ h4) C.2.2.2.2.2.2.2.1.1 hP (cells_D C.2.2.2.2.2.2.2.2 w) hS cs cd 0 0 (by rw [cells_get hls, ent_int hks]) (by rw [cells_get hld, ent_int hkd]) rfl rfl rfl q1 q2 q3 q4 q5 (fun _ _ => rfl) hdd (show _ + 18 ≤ 40 * d by omega) hd (fun H1 locs1 hP1 _ hS1 => ?_)
    rw [cells_set (w := w) (w' := cpI w cs cd (ix sp) (ix dp) (ix n)) hld (by rw [ent_int hkd]; simp [cpI, ix]) cp_off (fun _ _ => rfl)] at hP1
    exact k _ a ha p e s m args below meth c H1 locs1 ls C hP1 hS1 hl
  · rw [if_neg hi] at ha
    cases ha
theorem e_cyL {idx cs n0 cd n1 : Nat} {sp dp n : Int32} {k1 : Wd → Option σ} (hks : kd cs = (4, n0)) (hkd : kd cd = (4, n1)) (hlk : LkC M.1.cls idx) (hdd : 1 ≤ d) (hW : (st.map fun v => v.category).sum ≤ 8) (hd : decode M.2.1 pc = .ok (.invokestatic idx, 3)) (k : ∀ w1 : Wd, E g X M d (pc + 3) lv st w1 (k1 w1)) : E g X M d pc lv (.int n :: .int dp :: .ref (xa X cd) :: .int sp :: .ref (xa X cs) :: st) w (cyL w cs n0 cd n1 sp dp n k1) := by
  intro a ha p e s m args below meth c H locs ls C hP hS hl
  unfold cyL at ha
  by_cases hi : cyok n0 n1 sp dp n
  · rw [if_pos hi] at ha
    obtain ⟨h1, h2, h3, h4⟩ := hlk
    obtain ⟨q1, q2, q3, q4, q5⟩ := cyok_n hi
    have hls := kd_lt hks (by omega)
    have hld := kd_lt hkd (by omega)
    refine va_copyl (ty := .long) C.1 C.2.1 (C.2.2.2.1.trans hl.1.symm) C.2.2.2.2.1 (C.2.2.2.2.2.1 _ h1) (C.2.2.2.2.2.1 _ h2) (C.2.2.2.2.2.1 _ h3) (C.2.2.2.2.2.1 _ h4) C.2.2.2.2.2.2.2.1.1 hP (cells_D C.2.2.2.2.2.2.2.2 w) hS cs cd 3 3 (by rw [cells_get hls, ent_long hks]) (by rw [cells_get hld, ent_long hkd]) rfl rfl rfl q1 q2 q3 q4 q5 (fun _ _ => rfl) hdd (show _ + 18 ≤ 40 * d by omega) hd (fun H1 locs1 hP1 _ hS1 => ?_)
    rw [cells_set (w := w) (w' := cpL w cs cd (ix sp) (ix dp) (ix n)) hld (by rw [ent_long hkd]; simp [cpL, ix]) (fun _ _ => rfl) cpL_off] at hP1
    exact k _ a ha p e s m args below meth c H1 locs1 ls C hP1 hS1 hl
  · rw [if_neg hi] at ha
    cases ha
def LkN (own : String) (idx : Nat) (M2 : Mt) (n : Nat) (host : String) (X : Xt) : Prop := (∀ U : State, En X U → va_Nw (.methodLinkNest own idx M2.1 host) U) ∧ Cond.static M2.1 ∈ tw ∧ Cond.initialized M2.1.cls ∈ tw ∧ codeW M2 ∈ tw ∧ notMH M2 ∧ (parseMethodDescriptor M2.1.desc).map (fun d => d.parameters.length) = some n
theorem e_callN {σ1 : Type} {g1 : σ1 → Option Value × Wd} {M2 : Mt} {d2 n idx : Nat} {host : String} {As rest : List Value} {o1 : Option σ1} {k1 : σ1 → Option σ} (hM : CF g1 X M2 d2 As w o1) (hlk : LkN M.1.cls idx M2 n host X) (hd2 : d2 + 1 ≤ d) (hmL : M2.2.2.1 ≤ 20) (hn : As.length = n) (hst : st = As.reverse ++ rest) (hW : (rest.map fun v => v.category).sum ≤ 8) (hd : decode M.2.1 pc = .ok (.invokestatic idx, 3))
    (k : ∀ a1, E g X M d (pc + 3) lv ((g1 a1).1.toList ++ rest) (g1 a1).2 (k1 a1)) : E g X M d pc lv st w (o1.bind k1) := by
  intro a ha p e s m args below meth c H locs ls C hP hS hl
  cases ho : o1 with
  | none => rw [ho] at ha; cases ha
  | some a1 =>
    rw [ho] at ha
    obtain ⟨h1, h2, h3, h4, h5, h6⟩ := hlk
    refine e_goOn (a1 := a1) C hS hl (va_runSN (Ts := tw) ⟨C.1, C.2.1, C.2.2.2.1, C.2.2.2.2.1, C.2.2.2.2.2.1⟩ (hM C.2.2.2.2.2.2.2.2 a1 ho) ⟨va_cnB (Ts := tw) (ws' := tw) n C.2.2.2.2.2.1 (fun w hw => by
      rcases List.mem_cons.mp hw with rfl | h
      · exact ⟨h4, tw_good h4⟩
      · exact ⟨h, tw_good h⟩) rfl rfl rfl (h1 s C.2.2.2.2.2.2.2.1) (C.2.2.2.2.2.1 _ h3) ⟨h5.1, h5.2, h6⟩ (rmd_room hd2 hmL), C.2.2.2.2.2.1 _ h2, trivial⟩ (pc_pre C.2.2.2.2.2.2.2.1 hP hS) rfl hn hl.1 hst (lv_room hW) hd ⟨Nat.le_refl _, Nat.le_refl _⟩) (by have := k a1; rw [← ha]; exact this)
theorem e_callNRI {M2 : Mt} {d2 n idx : Nat} {host : String} {As rest : List Value} {o1 : Option Int32} {k1 : Int32 → Option σ} (hM : CF (gRI w) X M2 d2 As w o1) (hlk : LkN M.1.cls idx M2 n host X) (hd2 : d2 + 1 ≤ d) (hmL : M2.2.2.1 ≤ 20) (hn : As.length = n) (hst : st = As.reverse ++ rest) (hW : (rest.map fun v => v.category).sum ≤ 8) (hd : decode M.2.1 pc = .ok (.invokestatic idx, 3)) (k : ∀ r : Int32, E g X M d (pc + 3) lv (.int r :: rest) w (k1 r)) : E g X M d pc lv st w (bR o1 k1) :=
  e_callN hM hlk hd2 hmL hn hst hW hd k
theorem g_I {ci j idx cl : Nat} (hk : kd cl = (0, ci)) (hF : FlI M.1.cls idx ci j) (hd : decode M.2.1 pc = .ok (.getfield idx, 3)) (k : E g X M d (pc + 3) lv (.int (gi w cl j) :: st) w o) : E g X M d pc lv (.ref (xa X cl) :: st) w o := by
  obtain ⟨C, T, N, ty, h1, h2, h3, h4⟩ := hF
  exact e_getI hk h1 h2 h3 h4 hd k
theorem g_L {ci j idx cl : Nat} (hk : kd cl = (0, ci)) (hF : FlL M.1.cls idx ci j) (hd : decode M.2.1 pc = .ok (.getfield idx, 3)) (k : E g X M d (pc + 3) lv (.long (gl w cl j) :: st) w o) : E g X M d pc lv (.ref (xa X cl) :: st) w o := by
  obtain ⟨C, T, N, ty, h1, h2, h3, h4⟩ := hF
  exact e_getL hk h1 h2 h3 h4 hd k
theorem g_R {ci j idx cl n cl' : Nat} (hk : kd cl = (0, ci)) (hF : FlR M.1.cls idx ci j n) (hcl : cl + (n + 1) = cl') (hd : decode M.2.1 pc = .ok (.getfield idx, 3)) (k : E g X M d (pc + 3) lv (.ref (xa X cl') :: st) w o) : E g X M d pc lv (.ref (xa X cl) :: st) w o := by
  obtain ⟨C, T, N, ty, h1, h2, h3, h4⟩ := hF
  exact e_getR hk h1 h2 h3 hcl h4 hd k
theorem p_I {ci j idx cl : Nat} {v : Int32} {k1 : Wd → Option σ} (hk : kd cl = (0, ci)) (hF : FpX M.1.cls idx ci j 0 .int) (hd : decode M.2.1 pc = .ok (.putfield idx, 3)) (k : ∀ w1 : Wd, E g X M d (pc + 3) lv st w1 (k1 w1)) : E g X M d pc lv (.int v :: .ref (xa X cl) :: st) w (stI w cl j v k1) := by
  obtain ⟨C, T, N, ty, h1, h2, h3, h4, h5, h6⟩ := hF
  exact e_putI hk h1 h2 h3 h4 h5 h6 hd k
theorem p_Z {ci j idx cl : Nat} {v : Int32} {k1 : Wd → Option σ} (hk : kd cl = (0, ci)) (hF : FpX M.1.cls idx ci j 0 .boolean) (hd : decode M.2.1 pc = .ok (.putfield idx, 3)) (k : ∀ w1 : Wd, E g X M d (pc + 3) lv st w1 (k1 w1)) : E g X M d pc lv (.int v :: .ref (xa X cl) :: st) w (stZ w cl j v k1) := by
  obtain ⟨C, T, N, ty, h1, h2, h3, h4, h5, h6⟩ := hF
  exact e_putZ hk h1 h2 h3 h4 h5 h6 hd k
theorem p_L {ci j idx cl : Nat} {v : Int64} {k1 : Wd → Option σ} (hk : kd cl = (0, ci)) (hF : FpX M.1.cls idx ci j 1 .long) (hd : decode M.2.1 pc = .ok (.putfield idx, 3)) (k : ∀ w1 : Wd, E g X M d (pc + 3) lv st w1 (k1 w1)) : E g X M d pc lv (.long v :: .ref (xa X cl) :: st) w (stL w cl j v k1) := by
  obtain ⟨C, T, N, ty, h1, h2, h3, h4, h5, h6⟩ := hF
  exact e_putL hk h1 h2 h3 h4 h5 h6 hd k
theorem CF_none {M2 : Mt} {d2 : Nat} {av : List Value} : CF g X M2 d2 av w none := by
  intro _ a ha
  cases ha

end ER
