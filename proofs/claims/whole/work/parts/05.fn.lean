def fu : Nat := 300
def rf : Nat := 80
def f_X0_isKind (a0 : Int32) : Option Int32 :=
  if a0 < (0 : Int32) then
    (some (0 : Int32))
  else
    (if (8 : Int32) ≤ a0 then
      (some (0 : Int32))
    else
      (some (1 : Int32)))
def f_X0_isUnder_b4_y (w : Wd) (k4 : Int32 → Int32 → Int32 → Option Int32) (x1 : Int32) (x2 : Int32) (x3 : Int32) : Option Int32 :=
  if (8 : Int32) ≤ x3 then
    (some (0 : Int32))
  else
    (bR (f_X0_isKind x2) fun r1 =>
    if r1 = (0 : Int32) then
      (some (0 : Int32))
    else
      (if x2 = x1 then
        (some (1 : Int32))
      else
        (ltI tb4 8 x2 fun v2 =>
        k4 x1 v2 (x3 + (1 : Int32)))))
def f_X0_isUnder_b4 (w : Wd) : Nat → Int32 → Int32 → Int32 → Option Int32
  | 0 => fun _ _ _ => none
  | n + 1 => f_X0_isUnder_b4_y w (f_X0_isUnder_b4 w n)
def f_X0_isUnder (a0 : Int32) (a1 : Int32) (w : Wd) : Option Int32 :=
  f_X0_isUnder_b4 w fu a1 a0 (0 : Int32)
def f_X0_has (a1 : Int32) (w : Wd) : Option Int32 :=
  if a1 < (0 : Int32) then
    (some (0 : Int32))
  else
    (if (gi w 39 1) ≤ a1 then
      (some (0 : Int32))
    else
      (some (1 : Int32)))
def f_X0_add (a1 : Int32) (w : Wd) : Option (Int32 × Wd) :=
  if (gi w 39 1) = (50 : Int32) then
    (some ((-3 : Int32), w))
  else
    (saI w 40 50 (gi w 39 1) a1 fun w1 =>
    stI w1 39 1 ((gi w1 39 1) + (1 : Int32)) fun w2 =>
    some (((gi w2 39 1) - (1 : Int32)), w2))
def f_X0_kindOf (a1 : Int32) (w : Wd) : Option Int32 :=
  bR (f_X0_has a1 w) fun r1 =>
  if r1 = (0 : Int32) then
    (some (-1 : Int32))
  else
    (ldI w 40 50 a1 fun v2 =>
    some v2)
def f_X0_traced (a1 : Int32) (w : Wd) : Option Int32 :=
  if a1 < (0 : Int32) then
    (some (-1 : Int32))
  else
    (if (24 : Int32) ≤ a1 then
      (some (-1 : Int32))
    else
      (ldI w 41 24 a1 fun v1 =>
      some v1))
def f_X0_forget (w : Wd) : Option Wd :=
  stI w 39 3 (0 : Int32) fun w1 =>
  some w1
def f_X0_note_b19 (w : Wd) : Option Wd :=
  stI w 39 3 ((gi w 39 3) + (1 : Int32)) fun w1 =>
  some w1
def f_X0_note (a1 : Int32) (w : Wd) : Option Wd :=
  if (24 : Int32) ≤ (gi w 39 3) then
    (f_X0_note_b19 w)
  else
    (saI w 41 24 (gi w 39 3) a1 fun w2 =>
    f_X0_note_b19 w2)
def f_X0_own_y (r_X0_own : Int32 → Int32 → Int32 → Wd → Option (Int32 × Wd)) (r_X0_from : Int32 → Int32 → Int32 → Int32 → Wd → Option (Int32 × Wd)) (r_X0_atTop : Int32 → Int32 → Int32 → Wd → Option (Int32 × Wd)) (r_X0_below : Int32 → Int32 → Int32 → Int32 → Wd → Option (Int32 × Wd)) (a1 : Int32) (a2 : Int32) (a3 : Int32) (w : Wd) : Option (Int32 × Wd) :=
  bR (f_X0_kindOf (gi w 39 4) w) fun r1 =>
  bW (r_X0_from r1 a1 a2 a3 w) fun r2 w3 =>
  some (r2, w3)
def f_X0_from_b48 (r_X0_own : Int32 → Int32 → Int32 → Wd → Option (Int32 × Wd)) (r_X0_from : Int32 → Int32 → Int32 → Int32 → Wd → Option (Int32 × Wd)) (r_X0_atTop : Int32 → Int32 → Int32 → Wd → Option (Int32 × Wd)) (r_X0_below : Int32 → Int32 → Int32 → Int32 → Wd → Option (Int32 × Wd)) (x2 : Int32) (x3 : Int32) (x4 : Int32) (x5 : Int32) (w : Wd) : Option (Int32 × Wd) :=
  bR (f_X0_isKind x5) fun r1 =>
  if r1 = (0 : Int32) then
    (some ((0 : Int32), w))
  else
    (if x4 ≤ (40 : Int32) then
      (ltI tb5 32 ((x5 * (4 : Int32)) + x2) fun v2 =>
      bV (f_X0_note v2 w) fun w3 =>
      if x5 = (0 : Int32) then
        (bW (r_X0_atTop v2 x3 (x4 + (1 : Int32)) w3) fun r7 w8 =>
        some (r7, w8))
      else
        (ltI tb4 8 x5 fun v4 =>
        bW (r_X0_below v2 v4 x3 (x4 + (1 : Int32)) w3) fun r5 w6 =>
        some (r5, w6)))
    else
      (some ((0 : Int32), w)))
def f_X0_from_b6_y (r_X0_own : Int32 → Int32 → Int32 → Wd → Option (Int32 × Wd)) (r_X0_from : Int32 → Int32 → Int32 → Int32 → Wd → Option (Int32 × Wd)) (r_X0_atTop : Int32 → Int32 → Int32 → Wd → Option (Int32 × Wd)) (r_X0_below : Int32 → Int32 → Int32 → Int32 → Wd → Option (Int32 × Wd)) (k6 : Int32 → Int32 → Int32 → Int32 → Int32 → Wd → Option (Int32 × Wd)) (x2 : Int32) (x3 : Int32) (x4 : Int32) (x5 : Int32) (x6 : Int32) (w : Wd) : Option (Int32 × Wd) :=
  if (8 : Int32) ≤ x6 then
    (f_X0_from_b48 r_X0_own r_X0_from r_X0_atTop r_X0_below x2 x3 x4 x5 w)
  else
    (bR (f_X0_isKind x5) fun r9 =>
    if r9 = (0 : Int32) then
      (f_X0_from_b48 r_X0_own r_X0_from r_X0_atTop r_X0_below x2 x3 x4 x5 w)
    else
      (ltI tb5 32 ((x5 * (4 : Int32)) + x2) fun v10 =>
      if v10 = (0 : Int32) then
        (ltI tb4 8 x5 fun v11 =>
        k6 x2 x3 x4 v11 (x6 + (1 : Int32)) w)
      else
        (f_X0_from_b48 r_X0_own r_X0_from r_X0_atTop r_X0_below x2 x3 x4 x5 w)))
def f_X0_from_b6 (r_X0_own : Int32 → Int32 → Int32 → Wd → Option (Int32 × Wd)) (r_X0_from : Int32 → Int32 → Int32 → Int32 → Wd → Option (Int32 × Wd)) (r_X0_atTop : Int32 → Int32 → Int32 → Wd → Option (Int32 × Wd)) (r_X0_below : Int32 → Int32 → Int32 → Int32 → Wd → Option (Int32 × Wd)) : Nat → Int32 → Int32 → Int32 → Int32 → Int32 → Wd → Option (Int32 × Wd)
  | 0 => fun _ _ _ _ _ _ => none
  | n + 1 => f_X0_from_b6_y r_X0_own r_X0_from r_X0_atTop r_X0_below (f_X0_from_b6 r_X0_own r_X0_from r_X0_atTop r_X0_below n)
def f_X0_from_y (r_X0_own : Int32 → Int32 → Int32 → Wd → Option (Int32 × Wd)) (r_X0_from : Int32 → Int32 → Int32 → Int32 → Wd → Option (Int32 × Wd)) (r_X0_atTop : Int32 → Int32 → Int32 → Wd → Option (Int32 × Wd)) (r_X0_below : Int32 → Int32 → Int32 → Int32 → Wd → Option (Int32 × Wd)) (a1 : Int32) (a2 : Int32) (a3 : Int32) (a4 : Int32) (w : Wd) : Option (Int32 × Wd) :=
  f_X0_from_b6 r_X0_own r_X0_from r_X0_atTop r_X0_below fu a2 a3 a4 a1 (0 : Int32) w
def f_X0_atTop_y (r_X0_own : Int32 → Int32 → Int32 → Wd → Option (Int32 × Wd)) (r_X0_from : Int32 → Int32 → Int32 → Int32 → Wd → Option (Int32 × Wd)) (r_X0_atTop : Int32 → Int32 → Int32 → Wd → Option (Int32 × Wd)) (r_X0_below : Int32 → Int32 → Int32 → Int32 → Wd → Option (Int32 × Wd)) (a1 : Int32) (a2 : Int32) (a3 : Int32) (w : Wd) : Option (Int32 × Wd) :=
  if a1 = (1 : Int32) then
    (some ((a2 + (gi w 39 4)), w))
  else
    (if a1 = (2 : Int32) then
      (bW (r_X0_own (1 : Int32) a2 a3 w) fun r1 w2 =>
      bW (r_X0_own (2 : Int32) (1 : Int32) a3 w2) fun r3 w4 =>
      some ((r1 - r3), w4))
    else
      (if a1 = (10 : Int32) then
        (bW (r_X0_own (0 : Int32) a2 a3 w) fun r5 w6 =>
        some ((r5 * (2 : Int32)), w6))
      else
        (if a1 = (11 : Int32) then
          (some ((a2 ^^^ (gi w 39 4)), w))
        else
          (some ((0 : Int32), w)))))
def f_X0_below_y (r_X0_own : Int32 → Int32 → Int32 → Wd → Option (Int32 × Wd)) (r_X0_from : Int32 → Int32 → Int32 → Int32 → Wd → Option (Int32 × Wd)) (r_X0_atTop : Int32 → Int32 → Int32 → Wd → Option (Int32 × Wd)) (r_X0_below : Int32 → Int32 → Int32 → Int32 → Wd → Option (Int32 × Wd)) (a1 : Int32) (a2 : Int32) (a3 : Int32) (a4 : Int32) (w : Wd) : Option (Int32 × Wd) :=
  if a1 = (20 : Int32) then
    (bW (r_X0_from a2 (0 : Int32) a3 a4 w) fun r1 w2 =>
    some ((r1 + (3 : Int32)), w2))
  else
    (if a1 = (30 : Int32) then
      (bW (r_X0_from a2 (1 : Int32) a3 a4 w) fun r3 w4 =>
      some ((-r3), w4))
    else
      (if a1 = (40 : Int32) then
        (bW (r_X0_from a2 (2 : Int32) a3 a4 w) fun r5 w6 =>
        some ((r5 * (3 : Int32)), w6))
      else
        (if a1 = (41 : Int32) then
          (bW (r_X0_from a2 (1 : Int32) (a3 + (1 : Int32)) a4 w) fun r7 w8 =>
          some (r7, w8))
        else
          (if a1 = (50 : Int32) then
            (bW (r_X0_from a2 (3 : Int32) a3 a4 w) fun r9 w10 =>
            some ((r9 ^^^ (5 : Int32)), w10))
          else
            (if a1 = (60 : Int32) then
              (bW (r_X0_from a2 (2 : Int32) a3 a4 w) fun r11 w12 =>
              bW (r_X0_own (0 : Int32) (2 : Int32) a4 w12) fun r13 w14 =>
              some ((r11 - r13), w14))
            else
              (if a1 = (61 : Int32) then
                (bW (r_X0_from a2 (3 : Int32) a3 a4 w) fun r15 w16 =>
                some ((r15 + (1 : Int32)), w16))
              else
                (if a1 = (70 : Int32) then
                  (bW (r_X0_from a2 (0 : Int32) a3 a4 w) fun r17 w18 =>
                  some ((r17 * (2 : Int32)), w18))
                else
                  (if a1 = (80 : Int32) then
                    (bW (r_X0_from a2 (1 : Int32) a3 a4 w) fun r19 w20 =>
                    bW (r_X0_own (2 : Int32) (2 : Int32) a4 w20) fun r21 w22 =>
                    some ((r19 + r21), w22))
                  else
                    (if a1 = (81 : Int32) then
                      (bW (r_X0_from a2 (0 : Int32) a3 a4 w) fun r23 w24 =>
                      some ((r23 - (1 : Int32)), w24))
                    else
                      (some ((0 : Int32), w)))))))))))
def sc_X0_own : Nat → (Int32 → Int32 → Int32 → Wd → Option (Int32 × Wd)) × (Int32 → Int32 → Int32 → Int32 → Wd → Option (Int32 × Wd)) × (Int32 → Int32 → Int32 → Wd → Option (Int32 × Wd)) × (Int32 → Int32 → Int32 → Int32 → Wd → Option (Int32 × Wd))
  | 0 => (fun _ _ _ _ => none, fun _ _ _ _ _ => none, fun _ _ _ _ => none, fun _ _ _ _ _ => none)
  | n + 1 => (f_X0_own_y ((sc_X0_own n).1) ((sc_X0_own n).2.1) ((sc_X0_own n).2.2.1) ((sc_X0_own n).2.2.2), f_X0_from_y ((sc_X0_own n).1) ((sc_X0_own n).2.1) ((sc_X0_own n).2.2.1) ((sc_X0_own n).2.2.2), f_X0_atTop_y ((sc_X0_own n).1) ((sc_X0_own n).2.1) ((sc_X0_own n).2.2.1) ((sc_X0_own n).2.2.2), f_X0_below_y ((sc_X0_own n).1) ((sc_X0_own n).2.1) ((sc_X0_own n).2.2.1) ((sc_X0_own n).2.2.2))
def f_X0_own (n : Nat) : Int32 → Int32 → Int32 → Wd → Option (Int32 × Wd) := ((sc_X0_own n).1)
def f_X0_from (n : Nat) : Int32 → Int32 → Int32 → Int32 → Wd → Option (Int32 × Wd) := ((sc_X0_own n).2.1)
def f_X0_atTop (n : Nat) : Int32 → Int32 → Int32 → Wd → Option (Int32 × Wd) := ((sc_X0_own n).2.2.1)
def f_X0_below (n : Nat) : Int32 → Int32 → Int32 → Int32 → Wd → Option (Int32 × Wd) := ((sc_X0_own n).2.2.2)
def f_X0_perform (a1 : Int32) (a2 : Int32) (a3 : Int32) (w : Wd) : Option (Int32 × Wd) :=
  stI w 39 4 a1 fun w1 =>
  bW (f_X0_own rf a2 a3 (0 : Int32) w1) fun r2 w3 =>
  some (r2, w3)
def f_X11_isBag (a0 : Int32) : Option Int32 :=
  if a0 < (0 : Int32) then
    (some (0 : Int32))
  else
    (if (4 : Int32) ≤ a0 then
      (some (0 : Int32))
    else
      (some (1 : Int32)))
def f_X6_isLooker (a1 : Int32) (w : Wd) : Option Int32 :=
  if a1 < (0 : Int32) then
    (some (0 : Int32))
  else
    (if (gi w 1 1) ≤ a1 then
      (some (0 : Int32))
    else
      (some (1 : Int32)))
def f_X6_slotOf (a1 : Int32) (a2 : Int32) (w : Wd) : Option Int32 :=
  if a2 < (0 : Int32) then
    (some (-1 : Int32))
  else
    (if a2 ≤ (11 : Int32) then
      (if (4 : Int32) < a2 then
        (if (6 : Int32) < a2 then
          (if a1 = (0 : Int32) then
            (some (((32 : Int32) + a2) - (7 : Int32)))
          else
            (some (-1 : Int32)))
        else
          (bR (f_X6_isLooker a1 w) fun r1 =>
          if r1 = (0 : Int32) then
            (some (-1 : Int32))
          else
            (some ((((20 : Int32) + ((2 : Int32) * a1)) + a2) - (5 : Int32)))))
      else
        (bR (f_X11_isBag a1) fun r2 =>
        if r2 = (0 : Int32) then
          (some (-1 : Int32))
        else
          (some ((a1 * (5 : Int32)) + a2))))
    else
      (some (-1 : Int32)))
def f_X6_get (a1 : Int32) (a2 : Int32) (w : Wd) : Option Int32 :=
  bR (f_X6_slotOf a1 a2 w) fun r1 =>
  if (0 : Int32) ≤ r1 then
    (ldI w 2 37 r1 fun v2 =>
    some v2)
  else
    (some (0 : Int32))
def f_X1_isLevel (a0 : Int32) : Option Int32 :=
  if a0 < (0 : Int32) then
    (some (0 : Int32))
  else
    (if (4 : Int32) < a0 then
      (some (0 : Int32))
    else
      (some (1 : Int32)))
def f_X1_all (c0 : Nat) (a1 : Int32) (w : Wd) : Option Int64 :=
  bR (f_X1_isLevel a1) fun r1 =>
  if r1 = (0 : Int32) then
    (some (0 : Int64))
  else
    (lt (a1 * (4 : Int32)) fun y2 =>
    ldL w (c0 + 1) 20 y2 fun v3 =>
    ldL w (c0 + 1) 20 (y2 + (1 : Int32)) fun v4 =>
    ldL w (c0 + 1) 20 (y2 + (2 : Int32)) fun v5 =>
    ldL w (c0 + 1) 20 (y2 + (3 : Int32)) fun v6 =>
    some (((v3 + v4) + v5) + v6))
def f_X1_begin_b2_y (k2 : Nat → Int32 → Int32 → Wd → Option Wd) (c0 : Nat) (x2 : Int32) (x3 : Int32) (w : Wd) : Option Wd :=
  if (4 : Int32) ≤ x3 then
    (bR (f_X1_all c0 (0 : Int32) w) fun r1 =>
    if r1 = (0 : Int64) then
      (saL w (c0 + 1) 20 (0 : Int32) (1 : Int64) fun w2 =>
      some w2)
    else
      (some w))
  else
    (bR (f_X6_get x2 x3 w) fun r3 =>
    saL w (c0 + 1) 20 x3 (Int32.toInt64 r3) fun w4 =>
    k2 c0 x2 (x3 + (1 : Int32)) w4)
def f_X1_begin_b2 : Nat → Nat → Int32 → Int32 → Wd → Option Wd
  | 0 => fun _ _ _ _ => none
  | n + 1 => f_X1_begin_b2_y (f_X1_begin_b2 n)
def f_X1_begin (c0 : Nat) (a2 : Int32) (w : Wd) : Option Wd :=
  f_X1_begin_b2 fu c0 a2 (0 : Int32) w
def f_X1_power_b5_y (k5 : Int32 → Int32 → Int64 → Int32 → Option Int64) (x0 : Int32) (x1 : Int32) (x2 : Int64) (x4 : Int32) : Option Int64 :=
  if x1 ≤ x4 then
    (some x2)
  else
    (lt (x2 * (Int32.toInt64 x0)) fun y1 =>
    k5 x0 x1 y1 (x4 + (1 : Int32)))
def f_X1_power_b5 : Nat → Int32 → Int32 → Int64 → Int32 → Option Int64
  | 0 => fun _ _ _ _ => none
  | n + 1 => f_X1_power_b5_y (f_X1_power_b5 n)
def f_X1_power (a0 : Int32) (a1 : Int32) : Option Int64 :=
  f_X1_power_b5 fu a0 a1 (1 : Int64) (0 : Int32)
def f_X1_step_b55_y (k55 : Nat → Int32 → Int32 → Int32 → Int32 → Int32 → Wd → Option Wd) (c0 : Nat) (x2 : Int32) (x3 : Int32) (x4 : Int32) (x5 : Int32) (x6 : Int32) (w : Wd) : Option Wd :=
  if (4 : Int32) ≤ (x6 + x3) then
    (some w)
  else
    (lt (x6 + x3) fun y3 =>
    ltI tb2 16 ((y3 * (4 : Int32)) + x3) fun v4 =>
    bR (f_X1_power x2 x3) fun r5 =>
    bR (f_X1_power ((12 : Int32) - x2) x6) fun r6 =>
    lt (((Int32.toInt64 v4) * r5) * r6) fun y7 =>
    ldL w (c0 + 1) 20 (x4 + y3) fun v8 =>
    bR (f_X1_power (12 : Int32) ((3 : Int32) - y3)) fun r9 =>
    saL w (c0 + 1) 20 (x5 + x6) ((v8 * y7) * r9) fun w10 =>
    k55 c0 x2 x3 x4 x5 (x6 + (1 : Int32)) w10)
def f_X1_step_b55 : Nat → Nat → Int32 → Int32 → Int32 → Int32 → Int32 → Wd → Option Wd
  | 0 => fun _ _ _ _ _ _ _ => none
  | n + 1 => f_X1_step_b55_y (f_X1_step_b55 n)
def f_X1_step_b24_y (k24 : Nat → Int32 → Int32 → Int32 → Int32 → Int32 → Wd → Option Wd) (c0 : Nat) (x2 : Int32) (x3 : Int32) (x4 : Int32) (x5 : Int32) (x6 : Int32) (w : Wd) : Option Wd :=
  if (4 : Int32) ≤ x6 then
    (if (0 : Int32) ≤ x3 then
      (f_X1_step_b55 fu c0 x2 x3 x4 x5 (0 : Int32) w)
    else
      (some w))
  else
    (saL w (c0 + 1) 20 (x5 + x6) (0 : Int64) fun w11 =>
    k24 c0 x2 x3 x4 x5 (x6 + (1 : Int32)) w11)
def f_X1_step_b24 : Nat → Nat → Int32 → Int32 → Int32 → Int32 → Int32 → Wd → Option Wd
  | 0 => fun _ _ _ _ _ _ _ => none
  | n + 1 => f_X1_step_b24_y (f_X1_step_b24 n)
def f_X1_step (c0 : Nat) (a1 : Int32) (a2 : Int32) (a3 : Int32) (w : Wd) : Option Wd :=
  if a1 < (0 : Int32) then
    (some w)
  else
    (if a1 < (4 : Int32) then
      (lt (a1 * (4 : Int32)) fun y1 =>
      lt (y1 + (4 : Int32)) fun y2 =>
      f_X1_step_b24 fu c0 a2 a3 y1 y2 (0 : Int32) w)
    else
      (some w))
def f_X1_at (c0 : Nat) (a1 : Int32) (a2 : Int32) (w : Wd) : Option Int64 :=
  bR (f_X1_isLevel a1) fun r1 =>
  if r1 = (0 : Int32) then
    (some (0 : Int64))
  else
    (if a2 < (0 : Int32) then
      (some (0 : Int64))
    else
      (if (4 : Int32) ≤ a2 then
        (some (0 : Int64))
      else
        (ldL w (c0 + 1) 20 ((a1 * (4 : Int32)) + a2) fun v2 =>
        some v2)))
def f_X1_allAhead_b9_y (w : Wd) (k9 : Int32 → Int64 → Int32 → Option Int64) (x1 : Int32) (x2 : Int64) (x4 : Int32) : Option Int64 :=
  if x1 ≤ x4 then
    (some x2)
  else
    (lt (x2 * (1728 : Int64)) fun y2 =>
    k9 x1 y2 (x4 + (1 : Int32)))
def f_X1_allAhead_b9 (w : Wd) : Nat → Int32 → Int64 → Int32 → Option Int64
  | 0 => fun _ _ _ => none
  | n + 1 => f_X1_allAhead_b9_y w (f_X1_allAhead_b9 w n)
def f_X1_allAhead (c0 : Nat) (a1 : Int32) (w : Wd) : Option Int64 :=
  bR (f_X1_all c0 (0 : Int32) w) fun r1 =>
  f_X1_allAhead_b9 w fu a1 r1 (0 : Int32)
def f_X1_stones (c0 : Nat) (a1 : Int32) (w : Wd) : Option Int64 :=
  bR (f_X1_isLevel a1) fun r1 =>
  if r1 = (0 : Int32) then
    (some (0 : Int64))
  else
    (lt (a1 * (4 : Int32)) fun y2 =>
    ldL w (c0 + 1) 20 (y2 + (1 : Int32)) fun v3 =>
    ldL w (c0 + 1) 20 (y2 + (2 : Int32)) fun v4 =>
    ldL w (c0 + 1) 20 (y2 + (3 : Int32)) fun v5 =>
    some ((v3 + ((2 : Int64) * v4)) + ((3 : Int64) * v5)))
def f_X2_become (c0 : Nat) (c1 : Nat) (w : Wd) : Option Wd :=
  stZ w c0 0 (gi w c1 0) fun w1 =>
  stI w1 c0 1 (gi w1 c1 1) fun w2 =>
  stI w2 c0 2 (gi w2 c1 2) fun w3 =>
  stI w3 c0 3 (gi w3 c1 3) fun w4 =>
  stI w4 c0 4 (gi w4 c1 4) fun w5 =>
  stI w5 c0 5 (gi w5 c1 5) fun w6 =>
  stI w6 c0 6 (gi w6 c1 6) fun w7 =>
  stI w7 c0 7 (gi w7 c1 7) fun w8 =>
  stI w8 c0 8 (gi w8 c1 8) fun w9 =>
  some w9
def f_X2_begin (c0 : Nat) (a1 : Int32) (a2 : Int32) (w : Wd) : Option Wd :=
  stZ w c0 0 (1 : Int32) fun w1 =>
  stI w1 c0 1 a1 fun w2 =>
  stI w2 c0 2 a2 fun w3 =>
  stI w3 c0 3 (0 : Int32) fun w4 =>
  some w4
def f_X2_addLook (c0 : Nat) (a1 : Int32) (a2 : Int32) (a3 : Int32) (w : Wd) : Option Wd :=
  stI w c0 1 ((gi w c0 1) - a1) fun w1 =>
  stI w1 c0 2 a3 fun w2 =>
  stI w2 c0 3 ((gi w2 c0 3) + (1 : Int32)) fun w3 =>
  stI w3 c0 5 ((gi w3 c0 5) + (1 : Int32)) fun w4 =>
  stI w4 c0 6 ((gi w4 c0 6) + a1) fun w5 =>
  stI w5 c0 8 ((gi w5 c0 8) + a2) fun w6 =>
  some w6
def f_X2_end (c0 : Nat) (a1 : Int32) (w : Wd) : Option (Int32 × Wd) :=
  stZ w c0 0 (0 : Int32) fun w1 =>
  stI w1 c0 4 ((gi w1 c0 4) + (1 : Int32)) fun w2 =>
  stI w2 c0 7 ((gi w2 c0 7) + (gi w2 c0 1)) fun w3 =>
  stI w3 c0 8 ((gi w3 c0 8) + (a1 * (gi w3 c0 1))) fun w4 =>
  some ((gi w4 c0 1), w4)
def f_X3_draw (a1 : Int32) (w : Wd) : Option (Int32 × Wd) :=
  stI w 36 0 (((gi w 36 0) * (1103515245 : Int32)) + (12345 : Int32)) fun w1 =>
  if (0 : Int32) < a1 then
    (rmI (iushr (gi w1 36 0) (8 : Int32)) a1 fun v2 =>
    some (v2, w1))
  else
    (some ((0 : Int32), w1))
def f_X3_stones_b43_y (k43 : Int32 → Int32 → Int32 → Wd → Option (Int32 × Wd)) (x2 : Int32) (x4 : Int32) (x5 : Int32) (w : Wd) : Option (Int32 × Wd) :=
  if (3 : Int32) ≤ x5 then
    (some ((3 : Int32), w))
  else
    (bR (f_X6_get x2 x5 w) fun r3 =>
    lt (x4 - r3) fun y4 =>
    if (0 : Int32) ≤ y4 then
      (k43 x2 y4 (x5 + (1 : Int32)) w)
    else
      (some (x5, w)))
def f_X3_stones_b43 : Nat → Int32 → Int32 → Int32 → Wd → Option (Int32 × Wd)
  | 0 => fun _ _ _ _ => none
  | n + 1 => f_X3_stones_b43_y (f_X3_stones_b43 n)
def f_X3_stones_b5_y (k5 : Int32 → Int32 → Int32 → Wd → Option (Int32 × Wd)) (x2 : Int32) (x3 : Int32) (x4 : Int32) (w : Wd) : Option (Int32 × Wd) :=
  if (3 : Int32) < x4 then
    (if x3 = (0 : Int32) then
      (some ((0 : Int32), w))
    else
      (bW (f_X3_draw x3 w) fun r1 w2 =>
      f_X3_stones_b43 fu x2 r1 (0 : Int32) w2))
  else
    (bR (f_X6_get x2 x4 w) fun r5 =>
    lt (x3 + r5) fun y6 =>
    k5 x2 y6 (x4 + (1 : Int32)) w)
def f_X3_stones_b5 : Nat → Int32 → Int32 → Int32 → Wd → Option (Int32 × Wd)
  | 0 => fun _ _ _ _ => none
  | n + 1 => f_X3_stones_b5_y (f_X3_stones_b5 n)
def f_X3_stones (a2 : Int32) (w : Wd) : Option (Int32 × Wd) :=
  f_X3_stones_b5 fu a2 (0 : Int32) (0 : Int32) w
def f_X3_found_b24 (k5 : Int32 → Int32 → Int32 → Int32 → Wd → Option (Int32 × Wd)) (x1 : Int32) (x2 : Int32) (x3 : Int32) (x4 : Int32) (w : Wd) : Option (Int32 × Wd) :=
  k5 x1 x2 x3 (x4 + (1 : Int32)) w
def f_X3_found_b5_y (k5 : Int32 → Int32 → Int32 → Int32 → Wd → Option (Int32 × Wd)) (x1 : Int32) (x2 : Int32) (x3 : Int32) (x4 : Int32) (w : Wd) : Option (Int32 × Wd) :=
  if x1 ≤ x4 then
    (some (x3, w))
  else
    (bW (f_X3_draw (12 : Int32) w) fun r1 w2 =>
    if x2 ≤ r1 then
      (f_X3_found_b24 k5 x1 x2 x3 x4 w2)
    else
      (f_X3_found_b24 k5 x1 x2 (x3 + (1 : Int32)) x4 w2))
def f_X3_found_b5 : Nat → Int32 → Int32 → Int32 → Int32 → Wd → Option (Int32 × Wd)
  | 0 => fun _ _ _ _ _ => none
  | n + 1 => f_X3_found_b5_y (f_X3_found_b5 n)
def f_X3_found (a1 : Int32) (a2 : Int32) (w : Wd) : Option (Int32 × Wd) :=
  f_X3_found_b5 fu a1 a2 (0 : Int32) (0 : Int32) w
def f_X4_isFull (w : Wd) : Option Int32 :=
  if (gi w 6 1) = (120 : Int32) then
    (some (1 : Int32))
  else
    (some (0 : Int32))
def f_X4_isTold (w : Wd) : Option Int32 :=
  if (gi w 6 6) ≤ (0 : Int32) then
    (some (0 : Int32))
  else
    (some (1 : Int32))
def f_X4_add (a1 : Int32) (w : Wd) : Option (Int32 × Wd) :=
  if (120 : Int32) ≤ (gi w 6 1) then
    (some ((gi w 6 1), w))
  else
    (saI w 7 120 (gi w 6 1) a1 fun w1 =>
    stI w1 6 1 ((gi w1 6 1) + (1 : Int32)) fun w2 =>
    some ((gi w2 6 1), w2))
def f_X4_letter (w : Wd) : Option Int32 :=
  if (gi w 6 1) ≤ (gi w 6 2) then
    (some (-1 : Int32))
  else
    (ldI w 7 120 (gi w 6 2) fun v1 =>
    some v1)
def f_X4_isDigit (a0 : Int32) : Option Int32 :=
  if a0 < (48 : Int32) then
    (some (0 : Int32))
  else
    (if (57 : Int32) < a0 then
      (some (0 : Int32))
    else
      (some (1 : Int32)))
def f_X4_write (a1 : Int32) (a2 : Int32) (w : Wd) : Option Wd :=
  if (128 : Int32) ≤ (gi w 6 4) then
    (some w)
  else
    (saI w 8 128 (gi w 6 4) (a1 + ((256 : Int32) * a2)) fun w1 =>
    stI w1 6 4 ((gi w1 6 4) + (1 : Int32)) fun w2 =>
    some w2)
def f_X4_readNumber_b48 (x1 : Int32) (w : Wd) : Option (Int32 × Wd) :=
  bV (f_X4_write (35 : Int32) x1 w) fun w1 =>
  some ((1 : Int32), w1)
def f_X4_readNumber_b4_y (k4 : Int32 → Int32 → Wd → Option (Int32 × Wd)) (x1 : Int32) (x2 : Int32) (w : Wd) : Option (Int32 × Wd) :=
  if (4 : Int32) ≤ x2 then
    (f_X4_readNumber_b48 x1 w)
  else
    (bR (f_X4_letter w) fun r2 =>
    bR (f_X4_isDigit r2) fun r3 =>
    if r3 = (0 : Int32) then
      (f_X4_readNumber_b48 x1 w)
    else
      (bR (f_X4_letter w) fun r4 =>
      lt (((x1 * (10 : Int32)) + r4) - (48 : Int32)) fun y5 =>
      stI w 6 2 ((gi w 6 2) + (1 : Int32)) fun w6 =>
      k4 y5 (x2 + (1 : Int32)) w6))
def f_X4_readNumber_b4 : Nat → Int32 → Int32 → Wd → Option (Int32 × Wd)
  | 0 => fun _ _ _ => none
  | n + 1 => f_X4_readNumber_b4_y (f_X4_readNumber_b4 n)
def f_X4_readNumber (w : Wd) : Option (Int32 × Wd) :=
  f_X4_readNumber_b4 fu (0 : Int32) (0 : Int32) w
def f_X4_nameOf (a0 : Int32) : Option Int32 :=
  if a0 = (104 : Int32) then
    (some (3 : Int32))
  else
    (if a0 = (107 : Int32) then
      (some (5 : Int32))
    else
      (if a0 = (108 : Int32) then
        (some (2 : Int32))
      else
        (if a0 = (110 : Int32) then
          (some (4 : Int32))
        else
          (if a0 = (115 : Int32) then
            (some (0 : Int32))
          else
            (if a0 = (116 : Int32) then
              (some (1 : Int32))
            else
              (some (-1 : Int32)))))))
def f_X4_passed (a1 : Int32) (w : Wd) : Option (Int32 × Wd) :=
  bR (f_X4_letter w) fun r1 =>
  if r1 = a1 then
    (stI w 6 2 ((gi w 6 2) + (1 : Int32)) fun w2 =>
    some ((1 : Int32), w2))
  else
    (some ((0 : Int32), w))
def f_X4_levelOf (a0 : Int32) : Option Int32 :=
  if a0 = (37 : Int32) then
    (some (4 : Int32))
  else
    (if a0 = (38 : Int32) then
      (some (1 : Int32))
    else
      (if a0 = (42 : Int32) then
        (some (4 : Int32))
      else
        (if a0 = (43 : Int32) then
          (some (3 : Int32))
        else
          (if a0 = (45 : Int32) then
            (some (3 : Int32))
          else
            (if a0 = (47 : Int32) then
              (some (4 : Int32))
            else
              (if a0 = (60 : Int32) then
                (some (2 : Int32))
              else
                (if a0 = (61 : Int32) then
                  (some (2 : Int32))
                else
                  (if a0 = (62 : Int32) then
                    (some (2 : Int32))
                  else
                    (if a0 = (124 : Int32) then
                      (some (0 : Int32))
                    else
                      (some (-1 : Int32)))))))))))
def f_X4_readLevel_b39_y (r_X4_readLevel : Int32 → Int32 → Wd → Option (Int32 × Wd)) (r_X4_readOperand : Int32 → Wd → Option (Int32 × Wd)) (k39 : Int32 → Int32 → Int32 → Int32 → Wd → Option (Int32 × Wd)) (x1 : Int32) (x2 : Int32) (x3 : Int32) (x4 : Int32) (w : Wd) : Option (Int32 × Wd) :=
  if x3 ≤ x4 then
    (some ((1 : Int32), w))
  else
    (bR (f_X4_letter w) fun r3 =>
    bR (f_X4_levelOf r3) fun r4 =>
    if r4 = x1 then
      (bR (f_X4_letter w) fun r5 =>
      stI w 6 2 ((gi w 6 2) + (1 : Int32)) fun w6 =>
      bW (r_X4_readLevel (x1 + (1 : Int32)) x2 w6) fun r7 w8 =>
      if r7 = (0 : Int32) then
        (some ((0 : Int32), w8))
      else
        (bV (f_X4_write r5 (0 : Int32) w8) fun w9 =>
        k39 x1 x2 x3 (x4 + (1 : Int32)) w9))
    else
      (some ((1 : Int32), w)))
def f_X4_readLevel_b39 (r_X4_readLevel : Int32 → Int32 → Wd → Option (Int32 × Wd)) (r_X4_readOperand : Int32 → Wd → Option (Int32 × Wd)) : Nat → Int32 → Int32 → Int32 → Int32 → Wd → Option (Int32 × Wd)
  | 0 => fun _ _ _ _ _ => none
  | n + 1 => f_X4_readLevel_b39_y r_X4_readLevel r_X4_readOperand (f_X4_readLevel_b39 r_X4_readLevel r_X4_readOperand n)
def f_X4_readLevel_b35 (r_X4_readLevel : Int32 → Int32 → Wd → Option (Int32 × Wd)) (r_X4_readOperand : Int32 → Wd → Option (Int32 × Wd)) (x1 : Int32) (x2 : Int32) (s0 : Int32) (w : Wd) : Option (Int32 × Wd) :=
  f_X4_readLevel_b39 r_X4_readLevel r_X4_readOperand fu x1 x2 s0 (0 : Int32) w
def f_X4_readLevel_y (r_X4_readLevel : Int32 → Int32 → Wd → Option (Int32 × Wd)) (r_X4_readOperand : Int32 → Wd → Option (Int32 × Wd)) (a1 : Int32) (a2 : Int32) (w : Wd) : Option (Int32 × Wd) :=
  if a1 = (5 : Int32) then
    (bW (r_X4_readOperand a2 w) fun r10 w11 =>
    zb r10 (some (r10, w11)))
  else
    (bW (r_X4_readLevel (a1 + (1 : Int32)) a2 w) fun r1 w2 =>
    if r1 = (0 : Int32) then
      (some ((0 : Int32), w2))
    else
      (if a1 = (2 : Int32) then
        (f_X4_readLevel_b35 r_X4_readLevel r_X4_readOperand a1 a2 (1 : Int32) w2)
      else
        (f_X4_readLevel_b35 r_X4_readLevel r_X4_readOperand a1 a2 (120 : Int32) w2)))
def f_X4_readOperand_b140 (r_X4_readLevel : Int32 → Int32 → Wd → Option (Int32 × Wd)) (r_X4_readOperand : Int32 → Wd → Option (Int32 × Wd)) (s0 : Int32) (w : Wd) : Option (Int32 × Wd) :=
  bV (f_X4_write s0 (0 : Int32) w) fun w7 =>
  some ((1 : Int32), w7)
def f_X4_readOperand_b64 (r_X4_readLevel : Int32 → Int32 → Wd → Option (Int32 × Wd)) (r_X4_readOperand : Int32 → Wd → Option (Int32 × Wd)) (x1 : Int32) (x2 : Int32) (w : Wd) : Option (Int32 × Wd) :=
  if x1 = (6 : Int32) then
    (some ((0 : Int32), w))
  else
    (stI w 6 2 ((gi w 6 2) + (1 : Int32)) fun w4 =>
    if x2 = (40 : Int32) then
      (bW (r_X4_readLevel (0 : Int32) (x1 + (1 : Int32)) w4) fun r8 w9 =>
      if r8 = (0 : Int32) then
        (some ((0 : Int32), w9))
      else
        (bW (f_X4_passed (41 : Int32) w9) fun r10 w11 =>
        if r10 = (0 : Int32) then
          (some ((0 : Int32), w11))
        else
          (some ((1 : Int32), w11))))
    else
      (bW (r_X4_readOperand (x1 + (1 : Int32)) w4) fun r5 w6 =>
      if r5 = (0 : Int32) then
        (some ((0 : Int32), w6))
      else
        (if x2 = (33 : Int32) then
          (f_X4_readOperand_b140 r_X4_readLevel r_X4_readOperand (33 : Int32) w6)
        else
          (f_X4_readOperand_b140 r_X4_readLevel r_X4_readOperand (126 : Int32) w6))))
def f_X4_readOperand_y (r_X4_readLevel : Int32 → Int32 → Wd → Option (Int32 × Wd)) (r_X4_readOperand : Int32 → Wd → Option (Int32 × Wd)) (a1 : Int32) (w : Wd) : Option (Int32 × Wd) :=
  bR (f_X4_letter w) fun r1 =>
  bR (f_X4_isDigit r1) fun r2 =>
  if r2 = (0 : Int32) then
    (bR (f_X4_nameOf r1) fun r3 =>
    if r3 < (0 : Int32) then
      (if r1 = (40 : Int32) then
        (f_X4_readOperand_b64 r_X4_readLevel r_X4_readOperand a1 r1 w)
      else
        (if r1 = (33 : Int32) then
          (f_X4_readOperand_b64 r_X4_readLevel r_X4_readOperand a1 r1 w)
        else
          (if r1 = (45 : Int32) then
            (f_X4_readOperand_b64 r_X4_readLevel r_X4_readOperand a1 r1 w)
          else
            (some ((0 : Int32), w)))))
    else
      (stI w 6 2 ((gi w 6 2) + (1 : Int32)) fun w12 =>
      bR (f_X4_nameOf r1) fun r13 =>
      bV (f_X4_write (36 : Int32) r13 w12) fun w14 =>
      some ((1 : Int32), w14)))
  else
    (bW (f_X4_readNumber w) fun r15 w16 =>
    zb r15 (some (r15, w16)))
def sc_X4_readLevel : Nat → (Int32 → Int32 → Wd → Option (Int32 × Wd)) × (Int32 → Wd → Option (Int32 × Wd))
  | 0 => (fun _ _ _ => none, fun _ _ => none)
  | n + 1 => (f_X4_readLevel_y ((sc_X4_readLevel n).1) ((sc_X4_readLevel n).2), f_X4_readOperand_y ((sc_X4_readLevel n).1) ((sc_X4_readLevel n).2))
def f_X4_readLevel (n : Nat) : Int32 → Int32 → Wd → Option (Int32 × Wd) := ((sc_X4_readLevel n).1)
def f_X4_readOperand (n : Nat) : Int32 → Wd → Option (Int32 × Wd) := ((sc_X4_readLevel n).2)
def f_X4_readLine (w : Wd) : Option (Int32 × Wd) :=
  bW (f_X4_readLevel rf (0 : Int32) (0 : Int32) w) fun r1 w2 =>
  if r1 = (0 : Int32) then
    (some ((0 : Int32), w2))
  else
    (bW (f_X4_passed (63 : Int32) w2) fun r3 w4 =>
    if r3 = (0 : Int32) then
      (bV (f_X4_write (59 : Int32) (0 : Int32) w4) fun w5 =>
      some ((1 : Int32), w5))
    else
      (lt (gi w4 6 4) fun y6 =>
      bV (f_X4_write (63 : Int32) (0 : Int32) w4) fun w7 =>
      bW (f_X4_readLevel rf (0 : Int32) (0 : Int32) w7) fun r8 w9 =>
      if r8 = (0 : Int32) then
        (some ((0 : Int32), w9))
      else
        (bV (f_X4_write (59 : Int32) (0 : Int32) w9) fun w10 =>
        if (128 : Int32) ≤ y6 then
          (some ((1 : Int32), w10))
        else
          (saI w10 8 128 y6 ((63 : Int32) + ((256 : Int32) * (gi w10 6 4))) fun w11 =>
          some ((1 : Int32), w11)))))
def f_X4_readLines_b2_y (k2 : Int32 → Wd → Option (Int32 × Wd)) (x1 : Int32) (w : Wd) : Option (Int32 × Wd) :=
  if (120 : Int32) < x1 then
    (some ((0 : Int32), w))
  else
    (bW (f_X4_readLine w) fun r1 w2 =>
    if r1 = (0 : Int32) then
      (some ((0 : Int32), w2))
    else
      (if (gi w2 6 2) = (gi w2 6 1) then
        (some ((1 : Int32), w2))
      else
        (bW (f_X4_passed (59 : Int32) w2) fun r3 w4 =>
        if r3 = (0 : Int32) then
          (some ((0 : Int32), w4))
        else
          (k2 (x1 + (1 : Int32)) w4))))
def f_X4_readLines_b2 : Nat → Int32 → Wd → Option (Int32 × Wd)
  | 0 => fun _ _ => none
  | n + 1 => f_X4_readLines_b2_y (f_X4_readLines_b2 n)
def f_X4_readLines (w : Wd) : Option (Int32 × Wd) :=
  f_X4_readLines_b2 fu (0 : Int32) w
def f_X4_takeTape (w : Wd) : Option (Int32 × Wd) :=
  stI w 6 2 (0 : Int32) fun w1 =>
  stI w1 6 4 (0 : Int32) fun w2 =>
  bW (f_X4_readLines w2) fun r3 w4 =>
  stI w4 6 1 (0 : Int32) fun w5 =>
  if r3 = (0 : Int32) then
    (some ((gi w5 6 2), w5))
  else
    (cyI w5 8 128 9 128 (0 : Int32) (0 : Int32) (gi w5 6 4) fun w6 =>
    stI w6 6 6 (gi w6 6 4) fun w7 =>
    some ((-1 : Int32), w7))
def f_X4_pop (w : Wd) : Option (Int32 × Wd) :=
  if (gi w 6 9) = (0 : Int32) then
    (some ((0 : Int32), w))
  else
    (stI w 6 9 ((gi w 6 9) - (1 : Int32)) fun w1 =>
    ldI w1 11 64 (gi w1 6 9) fun v2 =>
    some (v2, w1))
def f_X4_push (a1 : Int32) (w : Wd) : Option Wd :=
  if (64 : Int32) ≤ (gi w 6 9) then
    (some w)
  else
    (saI w 11 64 (gi w 6 9) a1 fun w1 =>
    stI w1 6 9 ((gi w1 6 9) + (1 : Int32)) fun w2 =>
    some w2)
def f_X4_joined (a0 : Int32) (a1 : Int32) (a2 : Int32) : Option Int32 :=
  if a0 = (37 : Int32) then
    (if a2 = (0 : Int32) then
      (some (0 : Int32))
    else
      (rmI a1 a2 fun v1 =>
      some v1))
  else
    (if a0 = (38 : Int32) then
      (if a1 = (0 : Int32) then
        (some (0 : Int32))
      else
        (if a2 = (0 : Int32) then
          (some (0 : Int32))
        else
          (some (1 : Int32))))
    else
      (if a0 = (42 : Int32) then
        (some (a1 * a2))
      else
        (if a0 = (43 : Int32) then
          (some (a1 + a2))
        else
          (if a0 = (45 : Int32) then
            (some (a1 - a2))
          else
            (if a0 = (47 : Int32) then
              (if a2 = (0 : Int32) then
                (some (0 : Int32))
              else
                (dvI a1 a2 fun v2 =>
                some v2))
            else
              (if a0 = (60 : Int32) then
                (if a2 ≤ a1 then
                  (some (0 : Int32))
                else
                  (some (1 : Int32)))
              else
                (if a0 = (61 : Int32) then
                  (if a1 = a2 then
                    (some (1 : Int32))
                  else
                    (some (0 : Int32)))
                else
                  (if a0 = (62 : Int32) then
                    (if a1 ≤ a2 then
                      (some (0 : Int32))
                    else
                      (some (1 : Int32)))
                  else
                    (if a0 = (124 : Int32) then
                      (if a1 = (0 : Int32) then
                        (if a2 = (0 : Int32) then
                          (some (0 : Int32))
                        else
                          (some (1 : Int32)))
                      else
                        (some (1 : Int32)))
                    else
                      (some (0 : Int32)))))))))))
def f_X4_run_b83 (s0 : Int32) (w : Wd) : Option Wd :=
  bV (f_X4_push s0 w) fun w9 =>
  some w9
def f_X4_run_b40 (s0 : Int32) (w : Wd) : Option Wd :=
  bV (f_X4_push s0 w) fun w13 =>
  some w13
def f_X4_run (a1 : Int32) (a2 : Int32) (w : Wd) : Option Wd :=
  if a1 = (35 : Int32) then
    (bV (f_X4_push a2 w) fun w15 =>
    some w15)
  else
    (if a1 = (36 : Int32) then
      (if (6 : Int32) ≤ a2 then
        (f_X4_run_b40 (0 : Int32) w)
      else
        (ldI w 10 6 a2 fun v14 =>
        f_X4_run_b40 v14 w))
    else
      (if a1 = (126 : Int32) then
        (bW (f_X4_pop w) fun r10 w11 =>
        bV (f_X4_push (-r10) w11) fun w12 =>
        some w12)
      else
        (if a1 = (33 : Int32) then
          (bW (f_X4_pop w) fun r7 w8 =>
          if r7 = (0 : Int32) then
            (f_X4_run_b83 (1 : Int32) w8)
          else
            (f_X4_run_b83 (0 : Int32) w8))
        else
          (bW (f_X4_pop w) fun r1 w2 =>
          bW (f_X4_pop w2) fun r3 w4 =>
          bR (f_X4_joined a1 r3 r1) fun r5 =>
          bV (f_X4_push r5 w4) fun w6 =>
          some w6))))
def f_X4_workOut_b144 (k56 : Int32 → Int32 → Wd → Option (Int32 × Wd)) (x7 : Int32) (x8 : Int32) (w : Wd) : Option (Int32 × Wd) :=
  k56 x7 (x8 + (1 : Int32)) w
def f_X4_workOut_b56_y (k56 : Int32 → Int32 → Wd → Option (Int32 × Wd)) (x7 : Int32) (x8 : Int32) (w : Wd) : Option (Int32 × Wd) :=
  if (gi w 6 6) ≤ x8 then
    (some ((0 : Int32), w))
  else
    (if (gi w 6 6) ≤ x7 then
      (some ((0 : Int32), w))
    else
      (ldI w 9 128 x7 fun v8 =>
      lt (ire v8 (256 : Int32)) fun y9 =>
      ldI w 9 128 x7 fun v10 =>
      lt (v10 / (256 : Int32)) fun y11 =>
      if y9 = (59 : Int32) then
        (bW (f_X4_pop w) fun r15 w16 =>
        some (r15, w16))
      else
        (if y9 = (63 : Int32) then
          (bW (f_X4_pop w) fun r12 w13 =>
          if r12 = (0 : Int32) then
            (f_X4_workOut_b144 k56 y11 x8 w13)
          else
            (f_X4_workOut_b144 k56 (x7 + (1 : Int32)) x8 w13))
        else
          (bV (f_X4_run y9 y11 w) fun w14 =>
          f_X4_workOut_b144 k56 (x7 + (1 : Int32)) x8 w14))))
def f_X4_workOut_b56 : Nat → Int32 → Int32 → Wd → Option (Int32 × Wd)
  | 0 => fun _ _ _ => none
  | n + 1 => f_X4_workOut_b56_y (f_X4_workOut_b56 n)
def f_X4_workOut (a1 : Int32) (a2 : Int32) (a3 : Int32) (a4 : Int32) (a5 : Int32) (a6 : Int32) (w : Wd) : Option (Int32 × Wd) :=
  saI w 10 6 (0 : Int32) a1 fun w1 =>
  saI w1 10 6 (1 : Int32) a2 fun w2 =>
  saI w2 10 6 (2 : Int32) a3 fun w3 =>
  saI w3 10 6 (3 : Int32) a4 fun w4 =>
  saI w4 10 6 (4 : Int32) a5 fun w5 =>
  saI w5 10 6 (5 : Int32) a6 fun w6 =>
  stI w6 6 9 (0 : Int32) fun w7 =>
  f_X4_workOut_b56 fu (0 : Int32) (0 : Int32) w7
def f_X9_hasPlaces (c0 : Nat) (a1 : Int32) (a2 : Int32) (w : Wd) : Option Int32 :=
  if a1 < (0 : Int32) then
    (some (0 : Int32))
  else
    (if a2 < (0 : Int32) then
      (some (0 : Int32))
    else
      (if (gi w c0 3) < a2 then
        (some (0 : Int32))
      else
        (if ((gi w c0 3) - a2) < a1 then
          (some (0 : Int32))
        else
          (some (1 : Int32)))))
def f_X9_hasPlace (c0 : Nat) (a1 : Int32) (w : Wd) : Option Int32 :=
  if a1 < (0 : Int32) then
    (some (0 : Int32))
  else
    (if (gi w c0 3) ≤ a1 then
      (some (0 : Int32))
    else
      (some (1 : Int32)))
def f_X9_read (c0 : Nat) (a1 : Int32) (w : Wd) : Option Int64 :=
  bR (f_X9_hasPlace c0 a1 w) fun r1 =>
  if r1 = (0 : Int32) then
    (some (0 : Int64))
  else
    (ldL w (c0 + 1) 60 a1 fun v2 =>
    some v2)
def f_X5_isFound (a0 : Int64) : Option Int32 :=
  if a0 < (0 : Int64) then
    (some (0 : Int32))
  else
    (if (3 : Int64) < a0 then
      (some (0 : Int32))
    else
      (some (1 : Int32)))
def f_X5_readTwo_b71 (x4 : Int64) (x6 : Int64) (w : Wd) : Option (Int32 × Wd) :=
  saI w 14 4 (gi w 13 2) (Int64.toInt32 x4) fun w4 =>
  saI w4 15 4 (gi w4 13 2) (Int64.toInt32 x6) fun w5 =>
  some ((1 : Int32), w5)
def f_X5_readTwo (c1 : Nat) (a2 : Int32) (a3 : Int32) (w : Wd) : Option (Int32 × Wd) :=
  bR (f_X9_hasPlaces c1 ((2 : Int32) * (gi w 13 2)) (2 : Int32) w) fun r1 =>
  if r1 = (0 : Int32) then
    (some ((0 : Int32), w))
  else
    (bR (f_X9_read c1 ((2 : Int32) * (gi w 13 2)) w) fun r2 =>
    bR (f_X9_read c1 (((2 : Int32) * (gi w 13 2)) + (1 : Int32)) w) fun r3 =>
    if r2 < (0 : Int64) then
      (some ((0 : Int32), w))
    else
      (if (Int32.toInt64 a2) ≤ r2 then
        (some ((0 : Int32), w))
      else
        (if a3 = (0 : Int32) then
          (bR (f_X5_isFound r3) fun r6 =>
          if r6 = (0 : Int32) then
            (some ((0 : Int32), w))
          else
            (f_X5_readTwo_b71 r2 r3 w))
        else
          (f_X5_readTwo_b71 r2 r3 w))))
def f_X5_read_b5_y (k5 : Nat → Int32 → Int32 → Wd → Option Wd) (c1 : Nat) (x2 : Int32) (x3 : Int32) (w : Wd) : Option Wd :=
  if (4 : Int32) ≤ (gi w 13 2) then
    (some w)
  else
    (bW (f_X5_readTwo c1 x2 x3 w) fun r2 w3 =>
    if r2 = (0 : Int32) then
      (some w3)
    else
      (stI w3 13 2 ((gi w3 13 2) + (1 : Int32)) fun w4 =>
      k5 c1 x2 x3 w4))
def f_X5_read_b5 : Nat → Nat → Int32 → Int32 → Wd → Option Wd
  | 0 => fun _ _ _ _ => none
  | n + 1 => f_X5_read_b5_y (f_X5_read_b5 n)
def f_X5_read (c1 : Nat) (a2 : Int32) (a3 : Int32) (w : Wd) : Option Wd :=
  stI w 13 2 (0 : Int32) fun w1 =>
  f_X5_read_b5 fu c1 a2 a3 w1
def f_X5_by (a1 : Int32) (w : Wd) : Option Int32 :=
  if a1 < (0 : Int32) then
    (some (0 : Int32))
  else
    (if (gi w 13 2) ≤ a1 then
      (some (0 : Int32))
    else
      (ldI w 14 4 a1 fun v1 =>
      some v1))
def f_X5_found (a1 : Int32) (w : Wd) : Option Int32 :=
  if a1 < (0 : Int32) then
    (some (0 : Int32))
  else
    (if (gi w 13 2) ≤ a1 then
      (some (0 : Int32))
    else
      (ldI w 15 4 a1 fun v1 =>
      some v1))
def f_X6_mayBe (a1 : Int32) (a2 : Int32) (w : Wd) : Option Int32 :=
  if a1 < (0 : Int32) then
    (some (0 : Int32))
  else
    (if (11 : Int32) < a1 then
      (some (0 : Int32))
    else
      (ltI tb0 12 a1 fun v1 =>
      if a2 < v1 then
        (some (0 : Int32))
      else
        (ltI tb1 12 a1 fun v2 =>
        if v2 < a2 then
          (some (0 : Int32))
        else
          (some (1 : Int32)))))
def f_X6_addLooker (a1 : Int32) (a2 : Int32) (w : Wd) : Option (Int32 × Wd) :=
  if (gi w 1 1) = (6 : Int32) then
    (some ((-3 : Int32), w))
  else
    (saI w 2 37 ((20 : Int32) + ((2 : Int32) * (gi w 1 1))) a1 fun w1 =>
    saI w1 2 37 (((20 : Int32) + ((2 : Int32) * (gi w1 1 1))) + (1 : Int32)) a2 fun w2 =>
    stI w2 1 1 ((gi w2 1 1) + (1 : Int32)) fun w3 =>
    some (((gi w3 1 1) - (1 : Int32)), w3))
def f_X6_dropOldest (w : Wd) : Option Wd :=
  if (40 : Int32) ≤ (gi w 1 5) then
    (cyI w 3 40 3 40 (1 : Int32) (0 : Int32) (39 : Int32) fun w1 =>
    cyI w1 4 40 4 40 (1 : Int32) (0 : Int32) (39 : Int32) fun w2 =>
    cyI w2 5 40 5 40 (1 : Int32) (0 : Int32) (39 : Int32) fun w3 =>
    stI w3 1 5 (39 : Int32) fun w4 =>
    some w4)
  else
    (some w)
def f_X6_become (a1 : Int32) (a2 : Int32) (w : Wd) : Option (Int32 × Wd) :=
  if a1 < (0 : Int32) then
    (some ((-1 : Int32), w))
  else
    (if a1 < (37 : Int32) then
      (ldI w 2 37 a1 fun v1 =>
      if v1 = a2 then
        (some (v1, w))
      else
        (bV (f_X6_dropOldest w) fun w2 =>
        saI w2 3 40 (gi w2 1 5) a1 fun w3 =>
        saI w3 4 40 (gi w3 1 5) v1 fun w4 =>
        saI w4 5 40 (gi w4 1 5) a2 fun w5 =>
        stI w5 1 5 ((gi w5 1 5) + (1 : Int32)) fun w6 =>
        stI w6 1 6 (gi w6 1 5) fun w7 =>
        saI w7 2 37 a1 a2 fun w8 =>
        some (v1, w8)))
    else
      (some ((-1 : Int32), w)))
def f_X6_stepBack (w : Wd) : Option (Int32 × Wd) :=
  if (gi w 1 5) ≤ (0 : Int32) then
    (some ((gi w 1 5), w))
  else
    (stI w 1 5 ((gi w 1 5) - (1 : Int32)) fun w1 =>
    ldI w1 3 40 (gi w1 1 5) fun v2 =>
    ldI w1 4 40 (gi w1 1 5) fun v3 =>
    saI w1 2 37 v2 v3 fun w4 =>
    some ((gi w4 1 5), w4))
def f_X6_stepOn_b44 (w : Wd) : Option (Int32 × Wd) :=
  some (((gi w 1 6) - (gi w 1 5)), w)
def f_X6_stepOn (w : Wd) : Option (Int32 × Wd) :=
  if (gi w 1 6) ≤ (gi w 1 5) then
    (f_X6_stepOn_b44 w)
  else
    (ldI w 3 40 (gi w 1 5) fun v1 =>
    ldI w 5 40 (gi w 1 5) fun v2 =>
    saI w 2 37 v1 v2 fun w3 =>
    stI w3 1 5 ((gi w3 1 5) + (1 : Int32)) fun w4 =>
    f_X6_stepOn_b44 w4)
def f_X7_add (a1 : Int32) (a2 : Int32) (a3 : Int32) (w : Wd) : Option Wd :=
  if a1 < (0 : Int32) then
    (some w)
  else
    (if a1 < (3 : Int32) then
      (saI w 33 3 a1 (imin a2 (40 : Int32)) fun w1 =>
      saI w1 34 3 a1 a3 fun w2 =>
      some w2)
    else
      (some w))
def f_X7_tell (a1 : Int32) (a2 : Int32) (a3 : Int32) (w : Wd) : Option Wd :=
  if a1 < (0 : Int32) then
    (some w)
  else
    (if (3 : Int32) ≤ a1 then
      (some w)
    else
      (if a2 < (0 : Int32) then
        (some w)
      else
        (if a2 ≤ (40 : Int32) then
          (saI w 32 123 ((a1 * (41 : Int32)) + a2) a3 fun w1 =>
          some w1)
        else
          (some w))))
def f_X7_weigh_b92 (x1 : Int32) (x2 : Int32) (x3 : Int32) (x5 : Int32) (x6 : Int32) (w : Wd) : Option Wd :=
  stI w 31 4 x6 fun w9 =>
  stI w9 31 5 x5 fun w10 =>
  saI w10 35 3 (0 : Int32) x1 fun w11 =>
  saI w11 35 3 (1 : Int32) x2 fun w12 =>
  saI w12 35 3 (2 : Int32) x3 fun w13 =>
  some w13
def f_X7_weigh (a1 : Int32) (a2 : Int32) (a3 : Int32) (a4 : Int32) (w : Wd) : Option Wd :=
  ldI w 34 3 (0 : Int32) fun v1 =>
  ldI w 34 3 (1 : Int32) fun v2 =>
  ldI w 34 3 (2 : Int32) fun v3 =>
  lt (((a1 * v1) + (a2 * v2)) + (a3 * v3)) fun y4 =>
  if y4 ≤ a4 then
    (ldI w 32 123 a1 fun v5 =>
    ldI w 32 123 ((41 : Int32) + a2) fun v6 =>
    ldI w 32 123 ((82 : Int32) + a3) fun v7 =>
    lt ((v5 + v6) + v7) fun y8 =>
    if y8 < (gi w 31 4) then
      (some w)
    else
      (if y8 = (gi w 31 4) then
        (if y4 < (gi w 31 5) then
          (f_X7_weigh_b92 a1 a2 a3 y4 y8 w)
        else
          (some w))
      else
        (f_X7_weigh_b92 a1 a2 a3 y4 y8 w)))
  else
    (some w)
def f_X7_search_b49_y (k12 : Int32 → Int32 → Int32 → Wd → Option Wd) (k29 : Int32 → Int32 → Int32 → Int32 → Wd → Option Wd) (k49 : Int32 → Int32 → Int32 → Int32 → Int32 → Wd → Option Wd) (x1 : Int32) (x2 : Int32) (x3 : Int32) (x4 : Int32) (x5 : Int32) (w : Wd) : Option Wd :=
  ldI w 33 3 (2 : Int32) fun v5 =>
  if (imin ((x1 - x3) - x4) v5) < x5 then
    (k29 x1 x2 x3 (x4 + (1 : Int32)) w)
  else
    (bV (f_X7_weigh x3 x4 x5 x2 w) fun w6 =>
    k49 x1 x2 x3 x4 (x5 + (1 : Int32)) w6)
def f_X7_search_b49 (k12 : Int32 → Int32 → Int32 → Wd → Option Wd) (k29 : Int32 → Int32 → Int32 → Int32 → Wd → Option Wd) : Nat → Int32 → Int32 → Int32 → Int32 → Int32 → Wd → Option Wd
  | 0 => fun _ _ _ _ _ _ => none
  | n + 1 => f_X7_search_b49_y k12 k29 (f_X7_search_b49 k12 k29 n)
def f_X7_search_b29_y (k12 : Int32 → Int32 → Int32 → Wd → Option Wd) (k29 : Int32 → Int32 → Int32 → Int32 → Wd → Option Wd) (x1 : Int32) (x2 : Int32) (x3 : Int32) (x4 : Int32) (w : Wd) : Option Wd :=
  ldI w 33 3 (1 : Int32) fun v4 =>
  if (imin (x1 - x3) v4) < x4 then
    (k12 x1 x2 (x3 + (1 : Int32)) w)
  else
    (f_X7_search_b49 k12 k29 fu x1 x2 x3 x4 (0 : Int32) w)
def f_X7_search_b29 (k12 : Int32 → Int32 → Int32 → Wd → Option Wd) : Nat → Int32 → Int32 → Int32 → Int32 → Wd → Option Wd
  | 0 => fun _ _ _ _ _ => none
  | n + 1 => f_X7_search_b29_y k12 (f_X7_search_b29 k12 n)
def f_X7_search_b12_y (k12 : Int32 → Int32 → Int32 → Wd → Option Wd) (x1 : Int32) (x2 : Int32) (x3 : Int32) (w : Wd) : Option Wd :=
  ldI w 33 3 (0 : Int32) fun v3 =>
  if (imin x1 v3) < x3 then
    (some w)
  else
    (f_X7_search_b29 k12 fu x1 x2 x3 (0 : Int32) w)
def f_X7_search_b12 : Nat → Int32 → Int32 → Int32 → Wd → Option Wd
  | 0 => fun _ _ _ _ => none
  | n + 1 => f_X7_search_b12_y (f_X7_search_b12 n)
def f_X7_search (a1 : Int32) (a2 : Int32) (w : Wd) : Option Wd :=
  stI w 31 4 (-1 : Int32) fun w1 =>
  stI w1 31 5 (0 : Int32) fun w2 =>
  f_X7_search_b12 fu a1 a2 (0 : Int32) w2
def f_X7_heapsOf (a1 : Int32) (w : Wd) : Option Int32 :=
  if a1 < (0 : Int32) then
    (some (-1 : Int32))
  else
    (if (3 : Int32) ≤ a1 then
      (some (-1 : Int32))
    else
      (ldI w 35 3 a1 fun v1 =>
      some v1))
def f_X8_least_b92 (r_X8_least : Int32 → Int32 → Wd → Option (Int64 × Wd)) (r_X8_leastBy : Int32 → Int32 → Int32 → Wd → Option (Int64 × Wd)) (k46 : Int32 → Int32 → Int64 → Int32 → Wd → Option (Int64 × Wd)) (x1 : Int32) (x2 : Int32) (x3 : Int64) (x5 : Int32) (w : Wd) : Option (Int64 × Wd) :=
  k46 x1 x2 x3 (x5 + (1 : Int32)) w
def f_X8_least_b46_y (r_X8_least : Int32 → Int32 → Wd → Option (Int64 × Wd)) (r_X8_leastBy : Int32 → Int32 → Int32 → Wd → Option (Int64 × Wd)) (k46 : Int32 → Int32 → Int64 → Int32 → Wd → Option (Int64 × Wd)) (x1 : Int32) (x2 : Int32) (x3 : Int64) (x5 : Int32) (w : Wd) : Option (Int64 × Wd) :=
  if (gi w 18 3) ≤ x5 then
    (some (x3, w))
  else
    (if (6 : Int32) ≤ x5 then
      (some (x3, w))
    else
      (bW (r_X8_leastBy x5 x1 x2 w) fun r4 w5 =>
      if x3 ≤ r4 then
        (f_X8_least_b92 r_X8_least r_X8_leastBy k46 x1 x2 x3 x5 w5)
      else
        (if x1 = (0 : Int32) then
          (stI w5 18 5 x5 fun w6 =>
          f_X8_least_b92 r_X8_least r_X8_leastBy k46 x1 x2 r4 x5 w6)
        else
          (f_X8_least_b92 r_X8_least r_X8_leastBy k46 x1 x2 r4 x5 w5))))
def f_X8_least_b46 (r_X8_least : Int32 → Int32 → Wd → Option (Int64 × Wd)) (r_X8_leastBy : Int32 → Int32 → Int32 → Wd → Option (Int64 × Wd)) : Nat → Int32 → Int32 → Int64 → Int32 → Wd → Option (Int64 × Wd)
  | 0 => fun _ _ _ _ _ => none
  | n + 1 => f_X8_least_b46_y r_X8_least r_X8_leastBy (f_X8_least_b46 r_X8_least r_X8_leastBy n)
def f_X8_least_y (r_X8_least : Int32 → Int32 → Wd → Option (Int64 × Wd)) (r_X8_leastBy : Int32 → Int32 → Int32 → Wd → Option (Int64 × Wd)) (a1 : Int32) (a2 : Int32) (w : Wd) : Option (Int64 × Wd) :=
  if a2 < (0 : Int32) then
    (some ((0 : Int64), w))
  else
    (if a2 ≤ (3 : Int32) then
      (bR (f_X1_stones 19 a1 w) fun r1 =>
      ltL tb3 4 a2 fun v2 =>
      lt (((Int32.toInt64 (gi w 18 4)) * r1) * v2) fun y3 =>
      if a2 = (0 : Int32) then
        (some (y3, w))
      else
        (if a1 < (3 : Int32) then
          (f_X8_least_b46 r_X8_least r_X8_leastBy fu a1 a2 y3 (0 : Int32) w)
        else
          (some (y3, w))))
    else
      (some ((0 : Int64), w)))
def f_X8_leastBy_b125 (r_X8_least : Int32 → Int32 → Wd → Option (Int64 × Wd)) (r_X8_leastBy : Int32 → Int32 → Int32 → Wd → Option (Int64 × Wd)) (k77 : Int32 → Int32 → Int32 → Int64 → Int32 → Wd → Option (Int64 × Wd)) (x2 : Int32) (x3 : Int32) (x4 : Int32) (x5 : Int64) (x7 : Int32) (w : Wd) : Option (Int64 × Wd) :=
  k77 x2 x3 x4 x5 (x7 + (1 : Int32)) w
def f_X8_leastBy_b77_y (r_X8_least : Int32 → Int32 → Wd → Option (Int64 × Wd)) (r_X8_leastBy : Int32 → Int32 → Int32 → Wd → Option (Int64 × Wd)) (k77 : Int32 → Int32 → Int32 → Int64 → Int32 → Wd → Option (Int64 × Wd)) (x2 : Int32) (x3 : Int32) (x4 : Int32) (x5 : Int64) (x7 : Int32) (w : Wd) : Option (Int64 × Wd) :=
  if (3 : Int32) < x7 then
    (some (x5, w))
  else
    (bV (f_X1_step 19 x2 x4 x7 w) fun w6 =>
    bR (f_X1_stones 19 (x2 + (1 : Int32)) w6) fun r7 =>
    if r7 ≤ (0 : Int64) then
      (f_X8_leastBy_b125 r_X8_least r_X8_leastBy k77 x2 x3 x4 x5 x7 w6)
    else
      (bW (r_X8_least (x2 + (1 : Int32)) (x3 - (1 : Int32)) w6) fun r8 w9 =>
      lt (x5 + r8) fun y10 =>
      f_X8_leastBy_b125 r_X8_least r_X8_leastBy k77 x2 x3 x4 y10 x7 w9))
def f_X8_leastBy_b77 (r_X8_least : Int32 → Int32 → Wd → Option (Int64 × Wd)) (r_X8_leastBy : Int32 → Int32 → Int32 → Wd → Option (Int64 × Wd)) : Nat → Int32 → Int32 → Int32 → Int64 → Int32 → Wd → Option (Int64 × Wd)
  | 0 => fun _ _ _ _ _ _ => none
  | n + 1 => f_X8_leastBy_b77_y r_X8_least r_X8_leastBy (f_X8_leastBy_b77 r_X8_least r_X8_leastBy n)
def f_X8_leastBy_y (r_X8_least : Int32 → Int32 → Wd → Option (Int64 × Wd)) (r_X8_leastBy : Int32 → Int32 → Int32 → Wd → Option (Int64 × Wd)) (a1 : Int32) (a2 : Int32) (a3 : Int32) (w : Wd) : Option (Int64 × Wd) :=
  ldI w 21 24 ((a1 * (4 : Int32)) + a2) fun v1 =>
  ldI w 22 6 a1 fun v2 =>
  bR (f_X1_all 19 a2 w) fun r3 =>
  ltL tb3 4 a3 fun v4 =>
  lt (((Int32.toInt64 v2) * r3) * v4) fun y5 =>
  if a3 = (1 : Int32) then
    (bR (f_X1_stones 19 a2 w) fun r11 =>
    lt ((r11 * (Int32.toInt64 ((12 : Int32) - v1))) * (144 : Int64)) fun y12 =>
    some ((y5 + ((Int32.toInt64 (gi w 18 4)) * y12)), w))
  else
    (f_X8_leastBy_b77 r_X8_least r_X8_leastBy fu a2 a3 v1 y5 (0 : Int32) w)
def sc_X8_least : Nat → (Int32 → Int32 → Wd → Option (Int64 × Wd)) × (Int32 → Int32 → Int32 → Wd → Option (Int64 × Wd))
  | 0 => (fun _ _ _ => none, fun _ _ _ _ => none)
  | n + 1 => (f_X8_least_y ((sc_X8_least n).1) ((sc_X8_least n).2), f_X8_leastBy_y ((sc_X8_least n).1) ((sc_X8_least n).2))
def f_X8_least (n : Nat) : Int32 → Int32 → Wd → Option (Int64 × Wd) := ((sc_X8_least n).1)
def f_X8_leastBy (n : Nat) : Int32 → Int32 → Int32 → Wd → Option (Int64 × Wd) := ((sc_X8_least n).2)
def f_X8_leastOf (a1 : Int32) (w : Wd) : Option (Int64 × Wd) :=
  stI w 18 5 (-2 : Int32) fun w1 =>
  bW (f_X8_least rf (0 : Int32) (imax (0 : Int32) (imin (3 : Int32) a1)) w1) fun r2 w3 =>
  some (r2, w3)
def f_X9_isEmpty (c0 : Nat) (w : Wd) : Option Int32 :=
  if (gi w c0 0) = (0 : Int32) then
    (some (1 : Int32))
  else
    (some (0 : Int32))
def f_X9_isRow (c0 : Nat) (w : Wd) : Option Int32 :=
  if (gi w c0 0) = (2 : Int32) then
    (some (1 : Int32))
  else
    (some (0 : Int32))
def f_X9_isBytes (c0 : Nat) (w : Wd) : Option Int32 :=
  if (gi w c0 0) = (2 : Int32) then
    (if (gi w c0 2) = (0 : Int32) then
      (some (1 : Int32))
    else
      (some (0 : Int32)))
  else
    (some (0 : Int32))
def f_X9_refusalAsBytes (c0 : Nat) (w : Wd) : Option Int32 :=
  bR (f_X9_isEmpty c0 w) fun r1 =>
  if r1 = (0 : Int32) then
    (bR (f_X9_isBytes c0 w) fun r2 =>
    if r2 = (0 : Int32) then
      (some (-12 : Int32))
    else
      (some (0 : Int32)))
  else
    (some (-11 : Int32))
def f_X9_holdNothing (c0 : Nat) (w : Wd) : Option Wd :=
  stI w c0 0 (0 : Int32) fun w1 =>
  some w1
def f_X9_holdBody (c0 : Nat) (a1 : Int32) (w : Wd) : Option Wd :=
  stI w c0 0 (1 : Int32) fun w1 =>
  stI w1 c0 1 a1 fun w2 =>
  some w2
def f_X9_holdRow_b28_y (k28 : Nat → Int32 → Wd → Option Wd) (c0 : Nat) (x3 : Int32) (w : Wd) : Option Wd :=
  if (60 : Int32) ≤ x3 then
    (some w)
  else
    (saL w (c0 + 1) 60 x3 (0 : Int64) fun w4 =>
    k28 c0 (x3 + (1 : Int32)) w4)
def f_X9_holdRow_b28 : Nat → Nat → Int32 → Wd → Option Wd
  | 0 => fun _ _ _ => none
  | n + 1 => f_X9_holdRow_b28_y (f_X9_holdRow_b28 n)
def f_X9_holdRow (c0 : Nat) (a1 : Int32) (a2 : Int32) (w : Wd) : Option Wd :=
  if a2 < (0 : Int32) then
    (some w)
  else
    (if a2 ≤ (60 : Int32) then
      (stI w c0 0 (2 : Int32) fun w1 =>
      stI w1 c0 2 a1 fun w2 =>
      stI w2 c0 3 a2 fun w3 =>
      f_X9_holdRow_b28 fu c0 (0 : Int32) w3)
    else
      (some w))
def f_X9_cut (c0 : Nat) (a1 : Int64) (w : Wd) : Option Int64 :=
  if (gi w c0 2) = (0 : Int32) then
    (some (Int32.toInt64 (i2b (Int64.toInt32 a1))))
  else
    (if (gi w c0 2) = (1 : Int32) then
      (some (Int32.toInt64 (i2s (Int64.toInt32 a1))))
    else
      (if (gi w c0 2) = (2 : Int32) then
        (some (Int32.toInt64 (Int64.toInt32 a1)))
      else
        (if (gi w c0 2) = (4 : Int32) then
          (if a1 = (0 : Int64) then
            (some (0 : Int64))
          else
            (some (1 : Int64)))
        else
          (some a1))))
def f_X9_write (c0 : Nat) (a1 : Int32) (a2 : Int64) (w : Wd) : Option Wd :=
  bR (f_X9_hasPlace c0 a1 w) fun r1 =>
  if r1 = (0 : Int32) then
    (some w)
  else
    (bR (f_X9_cut c0 a2 w) fun r2 =>
    saL w (c0 + 1) 60 a1 r2 fun w3 =>
    some w3)
def f_X9_copyTo (c0 : Nat) (a1 : Int32) (c2 : Nat) (a3 : Int32) (a4 : Int32) (w : Wd) : Option Wd :=
  bR (f_X9_hasPlaces c0 a1 a4 w) fun r1 =>
  if r1 = (0 : Int32) then
    (some w)
  else
    (bR (f_X9_hasPlaces c2 a3 a4 w) fun r2 =>
    if r2 = (0 : Int32) then
      (some w)
    else
      (cyL w (c0 + 1) 60 (c2 + 1) 60 a1 a3 a4 fun w3 =>
      some w3))
def f_X10_hearOne (c1 : Nat) (w : Wd) : Option (Int32 × Wd) :=
  bR (f_X9_hasPlace c1 (gi w 23 6) w) fun r1 =>
  if r1 = (0 : Int32) then
    (some ((0 : Int32), w))
  else
    (bR (f_X9_read c1 (gi w 23 6) w) fun r2 =>
    bR (f_X5_isFound r2) fun r3 =>
    if r3 = (0 : Int32) then
      (some ((0 : Int32), w))
    else
      (bR (f_X9_read c1 (gi w 23 6) w) fun r4 =>
      saI w 27 4 (gi w 23 6) (Int64.toInt32 r4) fun w5 =>
      saI w5 29 4 (gi w5 23 6) (0 : Int32) fun w6 =>
      some ((1 : Int32), w6)))
def f_X10_note_b12_y (k12 : Int32 → Wd → Option Wd) (x1 : Int32) (w : Wd) : Option Wd :=
  if (gi w 23 6) ≤ x1 then
    (bR (f_X1_all 24 (gi w 23 6) w) fun r2 =>
    if (gl w 23 9) < r2 then
      (stL w 23 9 r2 fun w3 =>
      cyI w3 28 4 30 4 (0 : Int32) (0 : Int32) (gi w3 23 6) fun w4 =>
      some w4)
    else
      (some w))
  else
    (ldI w 29 4 x1 fun v5 =>
    ldI w 28 4 x1 fun v6 =>
    saI w 29 4 x1 (v5 ||| (ishl (1 : Int32) v6)) fun w7 =>
    k12 (x1 + (1 : Int32)) w7)
def f_X10_note_b12 : Nat → Int32 → Wd → Option Wd
  | 0 => fun _ _ => none
  | n + 1 => f_X10_note_b12_y (f_X10_note_b12 n)
def f_X10_note (w : Wd) : Option Wd :=
  stI w 23 8 ((gi w 23 8) + (1 : Int32)) fun w1 =>
  f_X10_note_b12 fu (0 : Int32) w1
def f_X10_canHaveFound (a1 : Int32) (a2 : Int32) (w : Wd) : Option (Int32 × Wd) :=
  ldI w 26 24 ((a1 * (4 : Int32)) + a2) fun v1 =>
  ldI w 27 4 a2 fun v2 =>
  bV (f_X1_step 24 a2 v1 v2 w) fun w3 =>
  bR (f_X1_all 24 (a2 + (1 : Int32)) w3) fun r4 =>
  if r4 ≤ (0 : Int64) then
    (some ((0 : Int32), w3))
  else
    (some ((1 : Int32), w3))
def f_X10_goOn_b52 (r_X10_goOn : Int32 → Wd → Option Wd) (k15 : Int32 → Int32 → Wd → Option Wd) (x1 : Int32) (x2 : Int32) (w : Wd) : Option Wd :=
  k15 x1 (x2 + (1 : Int32)) w
def f_X10_goOn_b15_y (r_X10_goOn : Int32 → Wd → Option Wd) (k15 : Int32 → Int32 → Wd → Option Wd) (x1 : Int32) (x2 : Int32) (w : Wd) : Option Wd :=
  if (gi w 23 7) ≤ x2 then
    (some w)
  else
    (if (6 : Int32) ≤ x2 then
      (some w)
    else
      (saI w 28 4 x1 x2 fun w1 =>
      bW (f_X10_canHaveFound x2 x1 w1) fun r2 w3 =>
      if r2 = (0 : Int32) then
        (f_X10_goOn_b52 r_X10_goOn k15 x1 x2 w3)
      else
        (bV (r_X10_goOn (x1 + (1 : Int32)) w3) fun w4 =>
        f_X10_goOn_b52 r_X10_goOn k15 x1 x2 w4)))
def f_X10_goOn_b15 (r_X10_goOn : Int32 → Wd → Option Wd) : Nat → Int32 → Int32 → Wd → Option Wd
  | 0 => fun _ _ _ => none
  | n + 1 => f_X10_goOn_b15_y r_X10_goOn (f_X10_goOn_b15 r_X10_goOn n)
def f_X10_goOn_y (r_X10_goOn : Int32 → Wd → Option Wd) (a1 : Int32) (w : Wd) : Option Wd :=
  if a1 < (gi w 23 6) then
    (f_X10_goOn_b15 r_X10_goOn fu a1 (0 : Int32) w)
  else
    (bV (f_X10_note w) fun w5 =>
    some w5)
def f_X10_goOn : Nat → Int32 → Wd → Option Wd
  | 0 => fun _ _ => none
  | n + 1 => f_X10_goOn_y (f_X10_goOn n)
def f_X10_hear_b49 (w : Wd) : Option Wd :=
  bV (f_X10_goOn rf (0 : Int32) w) fun w5 =>
  some w5
def f_X10_hear_b20_y (k20 : Nat → Wd → Option Wd) (c1 : Nat) (w : Wd) : Option Wd :=
  if (4 : Int32) ≤ (gi w 23 6) then
    (f_X10_hear_b49 w)
  else
    (bW (f_X10_hearOne c1 w) fun r6 w7 =>
    if r6 = (0 : Int32) then
      (f_X10_hear_b49 w7)
    else
      (stI w7 23 6 ((gi w7 23 6) + (1 : Int32)) fun w8 =>
      k20 c1 w8))
def f_X10_hear_b20 : Nat → Nat → Wd → Option Wd
  | 0 => fun _ _ => none
  | n + 1 => f_X10_hear_b20_y (f_X10_hear_b20 n)
def f_X10_hear (c1 : Nat) (a2 : Int32) (w : Wd) : Option Wd :=
  stI w 23 6 (0 : Int32) fun w1 =>
  stI w1 23 7 a2 fun w2 =>
  stI w2 23 8 (0 : Int32) fun w3 =>
  stL w3 23 9 (0 : Int64) fun w4 =>
  f_X10_hear_b20 fu c1 w4
def f_J6_bitCount_0f7a4 (a0 : Int32) : Option Int32 :=
  lt (a0 - ((iushr a0 (1 : Int32)) &&& (1431655765 : Int32))) fun y1 =>
  lt ((y1 &&& (858993459 : Int32)) + ((iushr y1 (2 : Int32)) &&& (858993459 : Int32))) fun y2 =>
  lt ((y2 + (iushr y2 (4 : Int32))) &&& (252645135 : Int32)) fun y3 =>
  lt (y3 + (iushr y3 (8 : Int32))) fun y4 =>
  lt (y4 + (iushr y4 (16 : Int32))) fun y5 =>
  some (y5 &&& (63 : Int32))
def f_X10_sureBy (a1 : Int32) (w : Wd) : Option Int32 :=
  if a1 < (0 : Int32) then
    (some (-1 : Int32))
  else
    (if a1 < (gi w 23 6) then
      (ldI w 29 4 a1 fun v1 =>
      bR (f_J6_bitCount_0f7a4 v1) fun r2 =>
      if r2 = (1 : Int32) then
        (ldI w 29 4 a1 fun v3 =>
        some v3)
      else
        (some (0 : Int32)))
    else
      (some (-1 : Int32)))
def f_X10_most (a1 : Int32) (w : Wd) : Option Int32 :=
  if a1 < (0 : Int32) then
    (some (-1 : Int32))
  else
    (if a1 < (gi w 23 6) then
      (if (gi w 23 8) = (0 : Int32) then
        (some (-2 : Int32))
      else
        (ldI w 30 4 a1 fun v1 =>
        some v1))
    else
      (some (-1 : Int32)))
def f_X11_looker (a1 : Int32) (w : Wd) : Option (Int32 × Wd) :=
  if a1 < (0 : Int32) then
    (some ((-1 : Int32), w))
  else
    (bR (f_X6_mayBe (5 : Int32) (a1 / (100 : Int32)) w) fun r1 =>
    if r1 = (0 : Int32) then
      (some ((-1 : Int32), w))
    else
      (bW (f_X6_addLooker (a1 / (100 : Int32)) (ire a1 (100 : Int32)) w) fun r2 w3 =>
      some (r2, w3)))
def f_X11_isShelf (a0 : Int32) : Option Int32 :=
  if a0 < (0 : Int32) then
    (some (0 : Int32))
  else
    (if (6 : Int32) ≤ a0 then
      (some (0 : Int32))
    else
      (some (1 : Int32)))
def f_X11_cameFrom (c1 : Nat) (a2 : Int32) (a3 : Int32) (w : Wd) : Option (Int32 × Wd) :=
  if (gi w 1 1) = (6 : Int32) then
    (some ((0 : Int32), w))
  else
    (bR (f_X9_hasPlace c1 a2 w) fun r1 =>
    if r1 = (0 : Int32) then
      (some ((0 : Int32), w))
    else
      (lt (a2 + a3) fun y2 =>
      bR (f_X9_hasPlaces c1 y2 (2 : Int32) w) fun r3 =>
      if r3 = (0 : Int32) then
        (some ((0 : Int32), w))
      else
        (bR (f_X9_read c1 y2 w) fun r4 =>
        lt (Int64.toInt32 r4) fun y5 =>
        bR (f_X9_read c1 (y2 + (1 : Int32)) w) fun r6 =>
        lt (Int64.toInt32 r6) fun y7 =>
        bR (f_X6_mayBe (5 : Int32) y5 w) fun r8 =>
        if r8 = (0 : Int32) then
          (some ((0 : Int32), w))
        else
          (bR (f_X6_mayBe (6 : Int32) y7 w) fun r9 =>
          if r9 = (0 : Int32) then
            (some ((0 : Int32), w))
          else
            (bW (f_X6_addLooker y5 y7 w) fun r10 w11 =>
            some ((1 : Int32), w11))))))
def f_X11_lookers_b52_y (k52 : Int32 → Int32 → Nat → Int32 → Wd → Option (Int32 × Wd)) (x2 : Int32) (x3 : Int32) (c4 : Nat) (x5 : Int32) (w : Wd) : Option (Int32 × Wd) :=
  if x3 ≤ x5 then
    (some (x5, w))
  else
    (bW (f_X11_cameFrom c4 x2 ((2 : Int32) * x5) w) fun r5 w6 =>
    if r5 = (0 : Int32) then
      (some (x5, w6))
    else
      (k52 x2 x3 c4 (x5 + (1 : Int32)) w6))
def f_X11_lookers_b52 : Nat → Int32 → Int32 → Nat → Int32 → Wd → Option (Int32 × Wd)
  | 0 => fun _ _ _ _ _ => none
  | n + 1 => f_X11_lookers_b52_y (f_X11_lookers_b52 n)
def f_X11_lookers (a1 : Int32) (a2 : Int32) (a3 : Int32) (w : Wd) : Option (Int32 × Wd) :=
  bR (f_X11_isShelf a1) fun r1 =>
  if r1 = (0 : Int32) then
    (some ((-1 : Int32), w))
  else
    (if a3 < (1 : Int32) then
      (some ((-1 : Int32), w))
    else
      (if a3 ≤ (6 : Int32) then
        (ldR a1 fun c2 =>
        bR (f_X9_isEmpty c2 w) fun r3 =>
        if r3 = (0 : Int32) then
          (bR (f_X9_isBytes c2 w) fun r4 =>
          if r4 = (0 : Int32) then
            (some ((-12 : Int32), w))
          else
            (f_X11_lookers_b52 fu a2 a3 c2 (0 : Int32) w))
        else
          (some ((0 : Int32), w)))
      else
        (some ((-1 : Int32), w))))
def f_X11_mend (a1 : Int32) (a2 : Int32) (a3 : Int32) (w : Wd) : Option (Int32 × Wd) :=
  bR (f_X6_slotOf a1 a2 w) fun r1 =>
  if r1 < (0 : Int32) then
    (some ((-1 : Int32), w))
  else
    (bR (f_X6_mayBe a2 a3 w) fun r2 =>
    if r2 = (0 : Int32) then
      (some ((-1 : Int32), w))
    else
      (bW (f_X6_become r1 a3 w) fun r3 w4 =>
      some (r3, w4)))
def f_X11_of (a1 : Int32) (a2 : Int32) (w : Wd) : Option Int32 :=
  bR (f_X6_slotOf a1 a2 w) fun r1 =>
  if (0 : Int32) ≤ r1 then
    (bR (f_X6_get a1 a2 w) fun r2 =>
    some r2)
  else
    (some (-1 : Int32))
def f_X11_feed (a1 : Int32) (w : Wd) : Option (Int32 × Wd) :=
  if a1 < (0 : Int32) then
    (some ((-1 : Int32), w))
  else
    (if a1 ≤ (255 : Int32) then
      (bR (f_X4_isFull w) fun r1 =>
      if r1 = (0 : Int32) then
        (bW (f_X4_add a1 w) fun r2 w3 =>
        some (r2, w3))
      else
        (some ((-3 : Int32), w)))
    else
      (some ((-1 : Int32), w)))
def f_X11_law (w : Wd) : Option (Int32 × Wd) :=
  bW (f_X4_takeTape w) fun r1 w2 =>
  if (0 : Int32) ≤ r1 then
    (some (((-100 : Int32) - r1), w2))
  else
    (some ((1 : Int32), w2))
def f_X11_twelfthsIn_b73 (s0 : Int32) (w : Wd) : Option (Int32 × Wd) :=
  some ((imax (0 : Int32) (imin (12 : Int32) s0)), w)
def f_X11_twelfthsIn (a1 : Int32) (a2 : Int32) (a3 : Int32) (w : Wd) : Option (Int32 × Wd) :=
  bR (f_X6_get a1 (5 : Int32) w) fun r1 =>
  bR (f_X6_get (0 : Int32) (7 : Int32) w) fun r2 =>
  bR (f_X6_get (0 : Int32) (8 : Int32) w) fun r3 =>
  bR (f_X4_isTold w) fun r4 =>
  if r4 = (0 : Int32) then
    (f_X11_twelfthsIn_b73 (((r1 - r2) - a3) + (1 : Int32)) w)
  else
    (bW (f_X4_workOut r1 r2 r3 a3 a2 a1 w) fun r5 w6 =>
    f_X11_twelfthsIn_b73 r5 w6)
def f_X11_twelfths (a1 : Int32) (a2 : Int32) (w : Wd) : Option (Int32 × Wd) :=
  bR (f_X6_get (0 : Int32) (9 : Int32) w) fun r1 =>
  bW (f_X11_twelfthsIn a1 a2 r1 w) fun r2 w3 =>
  some (r2, w3)
def f_X11_finds (a1 : Int32) (a2 : Int32) (w : Wd) : Option (Int32 × Wd) :=
  bR (f_X6_isLooker a1 w) fun r1 =>
  if r1 = (0 : Int32) then
    (some ((-1 : Int32), w))
  else
    (if a2 < (0 : Int32) then
      (some ((-1 : Int32), w))
    else
      (if a2 ≤ (9 : Int32) then
        (bW (f_X11_twelfths a1 a2 w) fun r2 w3 =>
        some (r2, w3))
      else
        (some ((-1 : Int32), w))))
def f_X11_isThinkable (a1 : Int32) (a2 : Int32) (w : Wd) : Option Int32 :=
  bR (f_X11_isShelf a1) fun r1 =>
  if r1 = (0 : Int32) then
    (some (0 : Int32))
  else
    (bR (f_X11_isBag a2) fun r2 =>
    if r2 = (0 : Int32) then
      (some (0 : Int32))
    else
      (ldR a1 fun c3 =>
      bR (f_X9_isBytes c3 w) fun r4 =>
      if r4 = (0 : Int32) then
        (some (0 : Int32))
      else
        (some (1 : Int32))))
def f_X11_isPart (a0 : Int32) : Option Int32 :=
  if a0 = (0 : Int32) then
    (some (1 : Int32))
  else
    (if a0 = (1 : Int32) then
      (some (1 : Int32))
    else
      (some (0 : Int32)))
def f_X11_think_b35_y (k35 : Int32 → Wd → Option (Int32 × Wd)) (x3 : Int32) (w : Wd) : Option (Int32 × Wd) :=
  if (gi w 13 2) ≤ x3 then
    (some ((gi w 13 2), w))
  else
    (bR (f_X5_by x3 w) fun r4 =>
    bW (f_X11_twelfths r4 x3 w) fun r5 w6 =>
    bR (f_X5_found x3 w6) fun r7 =>
    bV (f_X1_step 16 x3 r5 r7 w6) fun w8 =>
    k35 (x3 + (1 : Int32)) w8)
def f_X11_think_b35 : Nat → Int32 → Wd → Option (Int32 × Wd)
  | 0 => fun _ _ => none
  | n + 1 => f_X11_think_b35_y (f_X11_think_b35 n)
def f_X11_think (a1 : Int32) (a2 : Int32) (w : Wd) : Option (Int32 × Wd) :=
  ldR a1 fun c1 =>
  bV (f_X5_read c1 (gi w 1 1) (0 : Int32) w) fun w2 =>
  bV (f_X1_begin 16 a2 w2) fun w3 =>
  f_X11_think_b35 fu (0 : Int32) w3
def f_X11_inLowest_b47 (x0 : Int64) (x2 : Int64) (x4 : Int32) (x5 : Int64) : Option Int64 :=
  if x5 = (0 : Int64) then
    (some (Int32.toInt64 x4))
  else
    (if x4 = (0 : Int32) then
      (dvL x0 x5 fun v3 =>
      some v3)
    else
      (dvL x2 x5 fun v2 =>
      some v2))
def f_X11_inLowest_b12_y (k12 : Int64 → Int64 → Int32 → Int64 → Int64 → Int32 → Option Int64) (x0 : Int64) (x2 : Int64) (x4 : Int32) (x5 : Int64) (x7 : Int64) (x9 : Int32) : Option Int64 :=
  if (100 : Int32) ≤ x9 then
    (f_X11_inLowest_b47 x0 x2 x4 x5)
  else
    (if x7 = (0 : Int64) then
      (f_X11_inLowest_b47 x0 x2 x4 x5)
    else
      (rmL x5 x7 fun v4 =>
      k12 x0 x2 x4 x7 v4 (x9 + (1 : Int32))))
def f_X11_inLowest_b12 : Nat → Int64 → Int64 → Int32 → Int64 → Int64 → Int32 → Option Int64
  | 0 => fun _ _ _ _ _ _ => none
  | n + 1 => f_X11_inLowest_b12_y (f_X11_inLowest_b12 n)
def f_X11_inLowest (a0 : Int64) (a2 : Int64) (a4 : Int32) : Option Int64 :=
  lt (labs a0) fun y1 =>
  f_X11_inLowest_b12 fu a0 a2 a4 y1 a2 (0 : Int32)
def f_X11_left (a1 : Int32) (a2 : Int32) (a3 : Int32) (a4 : Int32) (w : Wd) : Option (Int64 × Wd) :=
  bR (f_X11_isThinkable a1 a2 w) fun r1 =>
  if r1 = (0 : Int32) then
    (some ((-9223372036854775808 : Int64), w))
  else
    (if a3 < (0 : Int32) then
      (some ((-9223372036854775808 : Int64), w))
    else
      (if (3 : Int32) < a3 then
        (some ((-9223372036854775808 : Int64), w))
      else
        (bR (f_X11_isPart a4) fun r2 =>
        if r2 = (0 : Int32) then
          (some ((-9223372036854775808 : Int64), w))
        else
          (bW (f_X11_think a1 a2 w) fun r3 w4 =>
          bR (f_X1_all 16 r3 w4) fun r5 =>
          if r5 = (0 : Int64) then
            (some ((-2 : Int64), w4))
          else
            (bR (f_X1_at 16 r3 a3 w4) fun r6 =>
            bR (f_X11_inLowest r6 r5 a4) fun r7 =>
            some (r7, w4))))))
def f_X11_mean_b108 (x4 : Int32) (x6 : Int64) (s0 : Int64) (w : Wd) : Option (Int64 × Wd) :=
  bR (f_X11_inLowest s0 x6 x4) fun r7 =>
  some (r7, w)
def f_X11_mean (a1 : Int32) (a2 : Int32) (a3 : Int32) (a4 : Int32) (w : Wd) : Option (Int64 × Wd) :=
  bR (f_X11_isThinkable a1 a2 w) fun r1 =>
  if r1 = (0 : Int32) then
    (some ((-9223372036854775808 : Int64), w))
  else
    (if a3 < (0 : Int32) then
      (some ((-9223372036854775808 : Int64), w))
    else
      (if (2 : Int32) < a3 then
        (some ((-9223372036854775808 : Int64), w))
      else
        (bR (f_X11_isPart a4) fun r2 =>
        if r2 = (0 : Int32) then
          (some ((-9223372036854775808 : Int64), w))
        else
          (bW (f_X11_think a1 a2 w) fun r3 w4 =>
          bR (f_X1_all 16 r3 w4) fun r5 =>
          if a3 = (2 : Int32) then
            (bR (f_X1_allAhead 16 r3 w4) fun r9 =>
            bR (f_X11_inLowest r5 r9 a4) fun r10 =>
            some (r10, w4))
          else
            (if r5 = (0 : Int64) then
              (some ((-2 : Int64), w4))
            else
              (if a3 = (0 : Int32) then
                (bR (f_X1_stones 16 r3 w4) fun r8 =>
                f_X11_mean_b108 a4 r5 r8 w4)
              else
                (bR (f_X1_at 16 r3 (0 : Int32) w4) fun r6 =>
                f_X11_mean_b108 a4 r5 r6 w4)))))))
def f_X11_gain_b46 (x2 : Int32) (x3 : Int32) (s0 : Int32) (w : Wd) : Option (Int64 × Wd) :=
  bR (f_X6_get (0 : Int32) (10 : Int32) w) fun r4 =>
  bR (f_X1_stones 16 x2 w) fun r5 =>
  bR (f_X1_all 16 x2 w) fun r6 =>
  some ((((Int32.toInt64 (r4 * x3)) * r5) - ((Int32.toInt64 ((12 : Int32) * s0)) * r6)), w)
def f_X11_gain_b25 (x1 : Int32) (x2 : Int32) (s0 : Int32) (w : Wd) : Option (Int64 × Wd) :=
  if x1 = (6 : Int32) then
    (f_X11_gain_b46 x2 s0 (1 : Int32) w)
  else
    (bR (f_X6_get x1 (6 : Int32) w) fun r3 =>
    f_X11_gain_b46 x2 s0 r3 w)
def f_X11_gain (a1 : Int32) (a2 : Int32) (w : Wd) : Option (Int64 × Wd) :=
  if a1 = (6 : Int32) then
    (bR (f_X6_get (0 : Int32) (11 : Int32) w) fun r7 =>
    f_X11_gain_b25 a1 a2 r7 w)
  else
    (bW (f_X11_twelfths a1 a2 w) fun r1 w2 =>
    f_X11_gain_b25 a1 a2 r1 w2)
def f_X11_worth_b56 (x1 : Int32) (x2 : Int32) (x3 : Int32) (x4 : Int32) (w : Wd) : Option (Int64 × Wd) :=
  bW (f_X11_think x1 (x2 / (10 : Int32)) w) fun r4 w5 =>
  bR (f_X1_all 16 r4 w5) fun r6 =>
  if r6 = (0 : Int64) then
    (some ((-2 : Int64), w5))
  else
    (bW (f_X11_gain x4 r4 w5) fun r7 w8 =>
    bR (f_X11_inLowest r7 ((12 : Int64) * r6) x3) fun r9 =>
    some (r9, w8))
def f_X11_worth (a1 : Int32) (a2 : Int32) (a3 : Int32) (w : Wd) : Option (Int64 × Wd) :=
  if a2 < (0 : Int32) then
    (some ((-9223372036854775808 : Int64), w))
  else
    (bR (f_X11_isThinkable a1 (a2 / (10 : Int32)) w) fun r1 =>
    if r1 = (0 : Int32) then
      (some ((-9223372036854775808 : Int64), w))
    else
      (bR (f_X11_isPart a3) fun r2 =>
      if r2 = (0 : Int32) then
        (some ((-9223372036854775808 : Int64), w))
      else
        (lt (ire a2 (10 : Int32)) fun y3 =>
        if y3 = (6 : Int32) then
          (f_X11_worth_b56 a1 a2 a3 y3 w)
        else
          (bR (f_X6_isLooker y3 w) fun r10 =>
          if r10 = (0 : Int32) then
            (some ((-9223372036854775808 : Int64), w))
          else
            (f_X11_worth_b56 a1 a2 a3 y3 w)))))
def f_X11_next_b105 (k50 : Int32 → Int32 → Int64 → Int32 → Wd → Option (Int32 × Wd)) (x4 : Int32) (x5 : Int32) (x6 : Int64) (x8 : Int32) (w : Wd) : Option (Int32 × Wd) :=
  k50 x4 x5 x6 (x8 + (1 : Int32)) w
def f_X11_next_b79 (k50 : Int32 → Int32 → Int64 → Int32 → Wd → Option (Int32 × Wd)) (x4 : Int32) (x5 : Int32) (x6 : Int64) (x8 : Int32) (w : Wd) : Option (Int32 × Wd) :=
  bW (f_X11_gain x8 x4 w) fun r7 w8 =>
  if r7 ≤ x6 then
    (f_X11_next_b105 k50 x4 x5 x6 x8 w8)
  else
    (f_X11_next_b105 k50 x4 x8 r7 x8 w8)
def f_X11_next_b50_y (k50 : Int32 → Int32 → Int64 → Int32 → Wd → Option (Int32 × Wd)) (x4 : Int32) (x5 : Int32) (x6 : Int64) (x8 : Int32) (w : Wd) : Option (Int32 × Wd) :=
  if (6 : Int32) < x8 then
    (some (x5, w))
  else
    (if x8 = (6 : Int32) then
      (f_X11_next_b79 k50 x4 x5 x6 x8 w)
    else
      (bR (f_X6_isLooker x8 w) fun r9 =>
      if r9 = (0 : Int32) then
        (f_X11_next_b105 k50 x4 x5 x6 x8 w)
      else
        (f_X11_next_b79 k50 x4 x5 x6 x8 w)))
def f_X11_next_b50 : Nat → Int32 → Int32 → Int64 → Int32 → Wd → Option (Int32 × Wd)
  | 0 => fun _ _ _ _ _ => none
  | n + 1 => f_X11_next_b50_y (f_X11_next_b50 n)
def f_X11_next (a1 : Int32) (a2 : Int32) (w : Wd) : Option (Int32 × Wd) :=
  bR (f_X11_isShelf a1) fun r1 =>
  if r1 = (0 : Int32) then
    (some ((-1 : Int32), w))
  else
    (bR (f_X11_isBag a2) fun r2 =>
    if r2 = (0 : Int32) then
      (some ((-1 : Int32), w))
    else
      (ldR a1 fun c3 =>
      bR (f_X9_refusalAsBytes c3 w) fun r4 =>
      if (0 : Int32) ≤ r4 then
        (bW (f_X11_think a1 a2 w) fun r5 w6 =>
        f_X11_next_b50 fu r5 (-2 : Int32) (0 : Int64) (0 : Int32) w6)
      else
        (some (r4, w))))
def f_X11_fillShares_b44 (k2 : Nat → Int32 → Wd → Option Wd) (k15 : Nat → Int32 → Int32 → Wd → Option Wd) (c1 : Nat) (x2 : Int32) (x3 : Int32) (w : Wd) : Option Wd :=
  k15 c1 x2 (x3 + (1 : Int32)) w
def f_X11_fillShares_b15_y (k2 : Nat → Int32 → Wd → Option Wd) (k15 : Nat → Int32 → Int32 → Wd → Option Wd) (c1 : Nat) (x2 : Int32) (x3 : Int32) (w : Wd) : Option Wd :=
  if (4 : Int32) ≤ x3 then
    (k2 c1 (x2 + (1 : Int32)) w)
  else
    (lt ((x2 * (4 : Int32)) + x3) fun y1 =>
    if (24 : Int32) ≤ y1 then
      (f_X11_fillShares_b44 k2 k15 c1 x2 x3 w)
    else
      (bW (f_X11_twelfths x2 x3 w) fun r2 w3 =>
      saI w3 c1 24 y1 r2 fun w4 =>
      f_X11_fillShares_b44 k2 k15 c1 x2 x3 w4))
def f_X11_fillShares_b15 (k2 : Nat → Int32 → Wd → Option Wd) : Nat → Nat → Int32 → Int32 → Wd → Option Wd
  | 0 => fun _ _ _ _ => none
  | n + 1 => f_X11_fillShares_b15_y k2 (f_X11_fillShares_b15 k2 n)
def f_X11_fillShares_b2_y (k2 : Nat → Int32 → Wd → Option Wd) (c1 : Nat) (x2 : Int32) (w : Wd) : Option Wd :=
  if (gi w 1 1) ≤ x2 then
    (some w)
  else
    (f_X11_fillShares_b15 k2 fu c1 x2 (0 : Int32) w)
def f_X11_fillShares_b2 : Nat → Nat → Int32 → Wd → Option Wd
  | 0 => fun _ _ _ => none
  | n + 1 => f_X11_fillShares_b2_y (f_X11_fillShares_b2 n)
def f_X11_fillShares (c1 : Nat) (w : Wd) : Option Wd :=
  f_X11_fillShares_b2 fu c1 (0 : Int32) w
def f_X11_tellPlanner_b44_y (k44 : Int32 → Wd → Option Wd) (x1 : Int32) (w : Wd) : Option Wd :=
  if (6 : Int32) ≤ x1 then
    (some w)
  else
    (bR (f_X6_get x1 (6 : Int32) w) fun r5 =>
    saI w 22 6 x1 r5 fun w6 =>
    k44 (x1 + (1 : Int32)) w6)
def f_X11_tellPlanner_b44 : Nat → Int32 → Wd → Option Wd
  | 0 => fun _ _ => none
  | n + 1 => f_X11_tellPlanner_b44_y (f_X11_tellPlanner_b44 n)
def f_X11_tellPlanner (w : Wd) : Option Wd :=
  bV (f_X11_fillShares 21 w) fun w1 =>
  stI w1 18 3 (gi w1 1 1) fun w2 =>
  bR (f_X6_get (0 : Int32) (10 : Int32) w2) fun r3 =>
  stI w2 18 4 r3 fun w4 =>
  f_X11_tellPlanner_b44 fu (0 : Int32) w4
def f_X11_leastFor (a1 : Int32) (a2 : Int32) (w : Wd) : Option (Int64 × Wd) :=
  bV (f_X1_begin 19 a1 w) fun w1 =>
  bW (f_X8_leastOf a2 w1) fun r2 w3 =>
  some (r2, w3)
def f_X11_plan (a1 : Int32) (a2 : Int32) (a3 : Int32) (w : Wd) : Option (Int64 × Wd) :=
  bR (f_X11_isBag a1) fun r1 =>
  if r1 = (0 : Int32) then
    (some ((-9223372036854775808 : Int64), w))
  else
    (if a2 < (0 : Int32) then
      (some ((-9223372036854775808 : Int64), w))
    else
      (if (3 : Int32) < a2 then
        (some ((-9223372036854775808 : Int64), w))
      else
        (if a3 < (0 : Int32) then
          (some ((-9223372036854775808 : Int64), w))
        else
          (if a3 ≤ (2 : Int32) then
            (bV (f_X11_tellPlanner w) fun w2 =>
            bW (f_X11_leastFor a1 a2 w2) fun r3 w4 =>
            if a3 = (2 : Int32) then
              (some ((Int32.toInt64 (gi w4 18 5)), w4))
            else
              (bR (f_X1_allAhead 19 a2 w4) fun r5 =>
              bR (f_X11_inLowest r3 r5 a3) fun r6 =>
              some (r6, w4)))
          else
            (some ((-9223372036854775808 : Int64), w))))))
def f_X11_buy_b111 (k27 : Int32 → Int32 → Int64 → Int64 → Int32 → Wd → Option (Int64 × Wd)) (x1 : Int32) (x2 : Int32) (x3 : Int64) (x5 : Int64) (x7 : Int32) (w : Wd) : Option (Int64 × Wd) :=
  k27 x1 x2 x3 x5 (x7 + (1 : Int32)) w
def f_X11_buy_b101 (k27 : Int32 → Int32 → Int64 → Int64 → Int32 → Wd → Option (Int64 × Wd)) (x1 : Int32) (x7 : Int32) (x10 : Int64) (x12 : Int64) (w : Wd) : Option (Int64 × Wd) :=
  f_X11_buy_b111 k27 x1 x7 x12 x10 x7 w
def f_X11_buy_b27_y (k27 : Int32 → Int32 → Int64 → Int64 → Int32 → Wd → Option (Int64 × Wd)) (x1 : Int32) (x2 : Int32) (x3 : Int64) (x5 : Int64) (x7 : Int32) (w : Wd) : Option (Int64 × Wd) :=
  if (4 : Int32) ≤ x7 then
    (if x1 = (2 : Int32) then
      (some ((Int32.toInt64 x2), w))
    else
      (bR (f_X11_inLowest x3 ((x5 * (1728 : Int64)) * (1728 : Int64)) x1) fun r2 =>
      some (r2, w)))
  else
    (bW (f_X11_leastFor x7 (2 : Int32) w) fun r3 w4 =>
    bR (f_X1_all 19 (0 : Int32) w4) fun r5 =>
    bR (f_X6_get x7 (4 : Int32) w4) fun r6 =>
    bR (f_X1_allAhead 19 (2 : Int32) w4) fun r7 =>
    lt (r3 + ((Int32.toInt64 r6) * r7)) fun y8 =>
    if x7 = (0 : Int32) then
      (f_X11_buy_b101 k27 x1 x7 r5 y8 w4)
    else
      (if (x3 * r5) ≤ (y8 * x5) then
        (f_X11_buy_b111 k27 x1 x2 x3 x5 x7 w4)
      else
        (f_X11_buy_b101 k27 x1 x7 r5 y8 w4)))
def f_X11_buy_b27 : Nat → Int32 → Int32 → Int64 → Int64 → Int32 → Wd → Option (Int64 × Wd)
  | 0 => fun _ _ _ _ _ _ => none
  | n + 1 => f_X11_buy_b27_y (f_X11_buy_b27 n)
def f_X11_buy (a1 : Int32) (w : Wd) : Option (Int64 × Wd) :=
  if a1 < (0 : Int32) then
    (some ((-9223372036854775808 : Int64), w))
  else
    (if a1 ≤ (2 : Int32) then
      (bV (f_X11_tellPlanner w) fun w1 =>
      f_X11_buy_b27 fu a1 (0 : Int32) (0 : Int64) (1 : Int64) (0 : Int32) w1)
    else
      (some ((-9223372036854775808 : Int64), w)))
def f_X11_areLists (a0 : Int32) : Option Int32 :=
  if (0 : Int32) ≤ a0 then
    (lt (a0 / (10000 : Int32)) fun y1 =>
    lt (ire (a0 / (100 : Int32)) (100 : Int32)) fun y2 =>
    lt (ire a0 (100 : Int32)) fun y3 =>
    if (20 : Int32) < y1 then
      (some (0 : Int32))
    else
      (if (20 : Int32) < y2 then
        (some (0 : Int32))
      else
        (if (imin y1 y2) < y3 then
          (some (0 : Int32))
        else
          (some (1 : Int32)))))
  else
    (some (0 : Int32))
def f_X11_lists (a1 : Int32) (a2 : Int32) (a3 : Int32) : Option Int64 :=
  bR (f_X11_areLists a1) fun r1 =>
  if r1 = (0 : Int32) then
    (some (-9223372036854775808 : Int64))
  else
    (if a2 < (0 : Int32) then
      (some (-9223372036854775808 : Int64))
    else
      (if (1 : Int32) < a2 then
        (some (-9223372036854775808 : Int64))
      else
        (bR (f_X11_isPart a3) fun r2 =>
        if r2 = (0 : Int32) then
          (some (-9223372036854775808 : Int64))
        else
          (lt (a1 / (10000 : Int32)) fun y3 =>
          lt (ire (a1 / (100 : Int32)) (100 : Int32)) fun y4 =>
          lt (ire a1 (100 : Int32)) fun y5 =>
          if y5 = (0 : Int32) then
            (some (-2 : Int64))
          else
            (if a2 = (0 : Int32) then
              (bR (f_X11_inLowest (Int32.toInt64 (y3 * y4)) (Int32.toInt64 y5) a3) fun r7 =>
              some r7)
            else
              (bR (f_X11_inLowest (Int32.toInt64 ((y3 - y5) * (y4 - y5))) (Int32.toInt64 y5) a3) fun r6 =>
              some r6))))))
def f_X11_likeliest_b37_y (k37 : Int32 → Int32 → Int32 → Int32 → Option Int32) (x2 : Int32) (x3 : Int32) (x4 : Int32) (x5 : Int32) : Option Int32 :=
  if (60 : Int32) ≤ x5 then
    (some x5)
  else
    (if (x2 * x3) ≤ ((x5 + (1 : Int32)) * x4) then
      (some x5)
    else
      (k37 x2 x3 x4 (x5 + (1 : Int32))))
def f_X11_likeliest_b37 : Nat → Int32 → Int32 → Int32 → Int32 → Option Int32
  | 0 => fun _ _ _ _ => none
  | n + 1 => f_X11_likeliest_b37_y (f_X11_likeliest_b37 n)
def f_X11_likeliest (a1 : Int32) : Option Int32 :=
  bR (f_X11_areLists a1) fun r1 =>
  if r1 = (0 : Int32) then
    (some (-1 : Int32))
  else
    (lt (a1 / (10000 : Int32)) fun y2 =>
    lt (ire (a1 / (100 : Int32)) (100 : Int32)) fun y3 =>
    lt (ire a1 (100 : Int32)) fun y4 =>
    lt ((y2 + y3) - y4) fun y5 =>
    f_X11_likeliest_b37 fu y2 y3 y4 y5)
def f_X11_isPutIn (a0 : Int32) : Option Int32 :=
  if a0 < (100 : Int32) then
    (some (0 : Int32))
  else
    (if (20 : Int32) < (a0 / (100 : Int32)) then
      (some (0 : Int32))
    else
      (if (a0 / (100 : Int32)) < (ire a0 (100 : Int32)) then
        (some (0 : Int32))
      else
        (some (1 : Int32))))
def f_X11_limbOf_b34 (k14 : Int32 → Int32 → Int32 → Int32 → Int64 → Int64 → Int64 → Int32 → Option Int64) (x0 : Int32) (x1 : Int32) (x2 : Int32) (x3 : Int32) (x4 : Int64) (x6 : Int64) (x8 : Int64) (x10 : Int32) (s0 : Int32) : Option Int64 :=
  lt (x8 * (Int32.toInt64 s0)) fun y1 =>
  dvL y1 x4 fun v2 =>
  lt ((x6 * (Int32.toInt64 s0)) + v2) fun y3 =>
  rmL y1 x4 fun v4 =>
  k14 x0 x1 x2 x3 x4 y3 v4 (x10 + (1 : Int32))
def f_X11_limbOf_b14_y (k14 : Int32 → Int32 → Int32 → Int32 → Int64 → Int64 → Int64 → Int32 → Option Int64) (x0 : Int32) (x1 : Int32) (x2 : Int32) (x3 : Int32) (x4 : Int64) (x6 : Int64) (x8 : Int64) (x10 : Int32) : Option Int64 :=
  if x1 ≤ x10 then
    (if x3 = (0 : Int32) then
      (some x8)
    else
      (some x6))
  else
    (if x2 ≤ x10 then
      (f_X11_limbOf_b34 k14 x0 x1 x2 x3 x4 x6 x8 x10 ((12 : Int32) - x0))
    else
      (f_X11_limbOf_b34 k14 x0 x1 x2 x3 x4 x6 x8 x10 x0))
def f_X11_limbOf_b14 : Nat → Int32 → Int32 → Int32 → Int32 → Int64 → Int64 → Int64 → Int32 → Option Int64
  | 0 => fun _ _ _ _ _ _ _ _ => none
  | n + 1 => f_X11_limbOf_b14_y (f_X11_limbOf_b14 n)
def f_X11_limbOf (a0 : Int32) (a1 : Int32) (a2 : Int32) (a3 : Int32) : Option Int64 :=
  f_X11_limbOf_b14 fu a0 a1 a2 a3 (1099511627776 : Int64) (0 : Int64) (1 : Int64) (0 : Int32)
def f_X11_isLikelier (a0 : Int32) (a1 : Int32) (a2 : Int32) (a3 : Int32) : Option Int32 :=
  bR (f_X11_limbOf a0 a2 a3 (1 : Int32)) fun r1 =>
  bR (f_X11_limbOf a1 a2 a3 (1 : Int32)) fun r2 =>
  if r2 < r1 then
    (some (1 : Int32))
  else
    (if r1 = r2 then
      (bR (f_X11_limbOf a0 a2 a3 (0 : Int32)) fun r3 =>
      bR (f_X11_limbOf a1 a2 a3 (0 : Int32)) fun r4 =>
      if r3 ≤ r4 then
        (some (0 : Int32))
      else
        (some (1 : Int32)))
    else
      (some (0 : Int32)))
def f_X11_likeliestTwelfths_b22 (k4 : Int32 → Int32 → Int32 → Int32 → Option Int32) (x0 : Int32) (x1 : Int32) (x2 : Int32) (x3 : Int32) : Option Int32 :=
  k4 x0 x1 x2 (x3 + (1 : Int32))
def f_X11_likeliestTwelfths_b4_y (k4 : Int32 → Int32 → Int32 → Int32 → Option Int32) (x0 : Int32) (x1 : Int32) (x2 : Int32) (x3 : Int32) : Option Int32 :=
  if (12 : Int32) < x3 then
    (some x2)
  else
    (bR (f_X11_isLikelier x3 x2 x0 x1) fun r1 =>
    if r1 = (0 : Int32) then
      (f_X11_likeliestTwelfths_b22 k4 x0 x1 x2 x3)
    else
      (f_X11_likeliestTwelfths_b22 k4 x0 x1 x3 x3))
def f_X11_likeliestTwelfths_b4 : Nat → Int32 → Int32 → Int32 → Int32 → Option Int32
  | 0 => fun _ _ _ _ => none
  | n + 1 => f_X11_likeliestTwelfths_b4_y (f_X11_likeliestTwelfths_b4 n)
def f_X11_likeliestTwelfths (a0 : Int32) (a1 : Int32) : Option Int32 :=
  f_X11_likeliestTwelfths_b4 fu a0 a1 (0 : Int32) (1 : Int32)
def f_X11_seesFor (a1 : Int32) : Option Int32 :=
  bR (f_X11_isPutIn a1) fun r1 =>
  if r1 = (0 : Int32) then
    (some (-1 : Int32))
  else
    (bR (f_X11_likeliestTwelfths (a1 / (100 : Int32)) (ire a1 (100 : Int32))) fun r2 =>
    some r2)
def f_X11_besides (a1 : Int32) (a2 : Int32) (a3 : Int32) : Option Int64 :=
  bR (f_X11_isPutIn a1) fun r1 =>
  if r1 = (0 : Int32) then
    (some (-9223372036854775808 : Int64))
  else
    (if a2 < (0 : Int32) then
      (some (-9223372036854775808 : Int64))
    else
      (if (99 : Int32) < a2 then
        (some (-9223372036854775808 : Int64))
      else
        (bR (f_X11_isPart a3) fun r2 =>
        if r2 = (0 : Int32) then
          (some (-9223372036854775808 : Int64))
        else
          (bR (f_X11_likeliestTwelfths (a1 / (100 : Int32)) (ire a1 (100 : Int32))) fun r3 =>
          if r3 = (0 : Int32) then
            (some (-2 : Int64))
          else
            (bR (f_X11_inLowest (Int32.toInt64 (a2 * (12 : Int32))) (Int32.toInt64 r3) a3) fun r4 =>
            some r4)))))
def f_X11_falling_b5_y (k5 : Int32 → Int32 → Int64 → Int32 → Option Int64) (x0 : Int32) (x2 : Int32) (x3 : Int64) (x5 : Int32) : Option Int64 :=
  if x2 ≤ x5 then
    (some x3)
  else
    (lt (x3 * (Int32.toInt64 (x0 - x5))) fun y1 =>
    k5 x0 x2 y1 (x5 + (1 : Int32)))
def f_X11_falling_b5 : Nat → Int32 → Int32 → Int64 → Int32 → Option Int64
  | 0 => fun _ _ _ _ => none
  | n + 1 => f_X11_falling_b5_y (f_X11_falling_b5 n)
def f_X11_falling (a0 : Int32) (a1 : Int32) (a2 : Int32) : Option Int64 :=
  f_X11_falling_b5 fu a0 a2 (1 : Int64) a1
def f_X11_handful_b190 (w : Wd) (x3 : Int32) (x4 : Int32) (x8 : Int64) (x10 : Int64) (x12 : Int64) (x14 : Int64) : Option Int64 :=
  if x3 = (0 : Int32) then
    (bR (f_X11_inLowest x10 (x8 * x12) x4) fun r10 =>
    some r10)
  else
    (if x10 = (0 : Int64) then
      (some (-2 : Int64))
    else
      (bR (f_X11_inLowest x14 x10 x4) fun r9 =>
      some r9))
def f_X11_handful_b85_y (w : Wd) (k85 : Int32 → Int32 → Int32 → Int32 → Int32 → Int32 → Int64 → Int64 → Int32 → Option Int64) (x1 : Int32) (x3 : Int32) (x4 : Int32) (x5 : Int32) (x6 : Int32) (x7 : Int32) (x8 : Int64) (x10 : Int64) (x12 : Int32) : Option Int64 :=
  if x7 < x12 then
    (bR (f_X11_falling x5 (0 : Int32) x7) fun r6 =>
    bR (f_X6_get x1 (0 : Int32) w) fun r7 =>
    lt ((Int32.toInt64 r7) * r6) fun y8 =>
    if x8 = (0 : Int64) then
      (f_X11_handful_b190 w x3 x4 (1 : Int64) r6 r6 r6)
    else
      (f_X11_handful_b190 w x3 x4 x8 x10 r6 y8))
  else
    (bR (f_X6_get x1 x12 w) fun r11 =>
    lt (Int32.toInt64 r11) fun y12 =>
    lt (x8 + y12) fun y13 =>
    bR (f_X11_falling (x5 - x6) (0 : Int32) x12) fun r14 =>
    bR (f_X11_falling x5 x12 x7) fun r15 =>
    lt (x10 + ((y12 * r14) * r15)) fun y16 =>
    k85 x1 x3 x4 x5 x6 x7 y13 y16 (x12 + (1 : Int32)))
def f_X11_handful_b85 (w : Wd) : Nat → Int32 → Int32 → Int32 → Int32 → Int32 → Int32 → Int64 → Int64 → Int32 → Option Int64
  | 0 => fun _ _ _ _ _ _ _ _ _ => none
  | n + 1 => f_X11_handful_b85_y w (f_X11_handful_b85 w n)
def f_X11_handful (a1 : Int32) (a2 : Int32) (a3 : Int32) (a4 : Int32) (w : Wd) : Option Int64 :=
  bR (f_X11_isBag a1) fun r1 =>
  if r1 = (0 : Int32) then
    (some (-9223372036854775808 : Int64))
  else
    (if a2 < (0 : Int32) then
      (some (-9223372036854775808 : Int64))
    else
      (if a3 < (0 : Int32) then
        (some (-9223372036854775808 : Int64))
      else
        (if (1 : Int32) < a3 then
          (some (-9223372036854775808 : Int64))
        else
          (bR (f_X11_isPart a4) fun r2 =>
          if r2 = (0 : Int32) then
            (some (-9223372036854775808 : Int64))
          else
            (lt (a2 / (100 : Int32)) fun y3 =>
            lt (ire a2 (100 : Int32)) fun y4 =>
            if y3 < (1 : Int32) then
              (some (-9223372036854775808 : Int64))
            else
              (if (60 : Int32) < y3 then
                (some (-9223372036854775808 : Int64))
              else
                (if y4 ≤ y3 then
                  (lt (imin y3 (3 : Int32)) fun y5 =>
                  f_X11_handful_b85 w fu a1 a3 a4 y3 y4 y5 (0 : Int64) (0 : Int64) (0 : Int32))
                else
                  (some (-9223372036854775808 : Int64)))))))))
def f_X11_fillParting_b44 (k17 : Int32 → Int32 → Int32 → Int32 → Int32 → Wd → Option Wd) (x1 : Int32) (x2 : Int32) (x3 : Int32) (x4 : Int32) (x5 : Int32) (w : Wd) : Option Wd :=
  bV (f_X7_tell x1 x5 (x5 * x4) w) fun w4 =>
  k17 x1 x2 x3 x4 (x5 + (1 : Int32)) w4
def f_X11_fillParting_b17_y (k17 : Int32 → Int32 → Int32 → Int32 → Int32 → Wd → Option Wd) (x1 : Int32) (x2 : Int32) (x3 : Int32) (x4 : Int32) (x5 : Int32) (w : Wd) : Option Wd :=
  if x2 < x5 then
    (bR (f_X6_get x1 (6 : Int32) w) fun r2 =>
    bV (f_X7_add x1 x2 r2 w) fun w3 =>
    some w3)
  else
    (if (ire x5 (5 : Int32)) = (0 : Int32) then
      (bW (f_X11_twelfthsIn x1 (0 : Int32) (x3 + (x5 / (5 : Int32))) w) fun r5 w6 =>
      f_X11_fillParting_b44 k17 x1 x2 x3 r5 x5 w6)
    else
      (f_X11_fillParting_b44 k17 x1 x2 x3 x4 x5 w))
def f_X11_fillParting_b17 : Nat → Int32 → Int32 → Int32 → Int32 → Int32 → Wd → Option Wd
  | 0 => fun _ _ _ _ _ _ => none
  | n + 1 => f_X11_fillParting_b17_y (f_X11_fillParting_b17 n)
def f_X11_fillParting (a1 : Int32) (a2 : Int32) (w : Wd) : Option Wd :=
  bR (f_X6_get (0 : Int32) (9 : Int32) w) fun r1 =>
  f_X11_fillParting_b17 fu a1 a2 r1 (0 : Int32) (0 : Int32) w
def f_X11_heaps_b65_y (k65 : Int32 → Int32 → Int32 → Int32 → Wd → Option (Int32 × Wd)) (x1 : Int32) (x2 : Int32) (x3 : Int32) (x4 : Int32) (w : Wd) : Option (Int32 × Wd) :=
  if (gi w 1 1) ≤ x4 then
    (bV (f_X7_search x1 x2 w) fun w1 =>
    if x3 = (0 : Int32) then
      (some ((gi w1 31 4), w1))
    else
      (if x3 = (1 : Int32) then
        (some ((gi w1 31 5), w1))
      else
        (bR (f_X7_heapsOf (x3 - (2 : Int32)) w1) fun r2 =>
        some (r2, w1))))
  else
    (bV (f_X11_fillParting x4 x1 w) fun w3 =>
    k65 x1 x2 x3 (x4 + (1 : Int32)) w3)
def f_X11_heaps_b65 : Nat → Int32 → Int32 → Int32 → Int32 → Wd → Option (Int32 × Wd)
  | 0 => fun _ _ _ _ _ => none
  | n + 1 => f_X11_heaps_b65_y (f_X11_heaps_b65 n)
def f_X11_heaps_b48 (x1 : Int32) (x2 : Int32) (x3 : Int32) (w : Wd) : Option (Int32 × Wd) :=
  if (gi w 1 1) ≤ (3 : Int32) then
    (f_X11_heaps_b65 fu x1 x2 x3 (0 : Int32) w)
  else
    (some ((-5 : Int32), w))
def f_X11_heaps (a1 : Int32) (a2 : Int32) (a3 : Int32) (w : Wd) : Option (Int32 × Wd) :=
  if a1 < (1 : Int32) then
    (some ((-1 : Int32), w))
  else
    (if (40 : Int32) < a1 then
      (some ((-1 : Int32), w))
    else
      (if a2 < (0 : Int32) then
        (some ((-1 : Int32), w))
      else
        (if a2 ≤ (999 : Int32) then
          (if a3 < (0 : Int32) then
            (some ((-1 : Int32), w))
          else
            (if a3 ≤ (1 : Int32) then
              (f_X11_heaps_b48 a1 a2 a3 w)
            else
              (bR (f_X6_isLooker (a3 - (2 : Int32)) w) fun r4 =>
              if r4 = (0 : Int32) then
                (some ((-1 : Int32), w))
              else
                (f_X11_heaps_b48 a1 a2 a3 w))))
        else
          (some ((-1 : Int32), w)))))
def f_X11_who_b42 (x1 : Int32) (x2 : Int32) (x3 : Int32) (x4 : Int32) (w : Wd) : Option (Int32 × Wd) :=
  ldR x1 fun c3 =>
  bR (f_X9_refusalAsBytes c3 w) fun r4 =>
  if (0 : Int32) ≤ r4 then
    (bV (f_X11_fillShares 26 w) fun w5 =>
    bV (f_X1_begin 24 x2 w5) fun w6 =>
    ldR x1 fun c7 =>
    bV (f_X10_hear c7 (gi w6 1 1) w6) fun w8 =>
    if x3 = (0 : Int32) then
      (some ((gi w8 23 8), w8))
    else
      (if x3 = (1 : Int32) then
        (bR (f_X10_sureBy x4 w8) fun r10 =>
        some (r10, w8))
      else
        (bR (f_X10_most x4 w8) fun r9 =>
        some (r9, w8))))
  else
    (some (r4, w))
def f_X11_who (a1 : Int32) (a2 : Int32) (a3 : Int32) (a4 : Int32) (w : Wd) : Option (Int32 × Wd) :=
  bR (f_X11_isShelf a1) fun r1 =>
  if r1 = (0 : Int32) then
    (some ((-1 : Int32), w))
  else
    (bR (f_X11_isBag a2) fun r2 =>
    if r2 = (0 : Int32) then
      (some ((-1 : Int32), w))
    else
      (if a3 < (0 : Int32) then
        (some ((-1 : Int32), w))
      else
        (if a3 ≤ (2 : Int32) then
          (if a3 ≤ (0 : Int32) then
            (f_X11_who_b42 a1 a2 a3 a4 w)
          else
            (if a4 < (0 : Int32) then
              (some ((-1 : Int32), w))
            else
              (if a4 < (4 : Int32) then
                (f_X11_who_b42 a1 a2 a3 a4 w)
              else
                (some ((-1 : Int32), w)))))
        else
          (some ((-1 : Int32), w)))))
def f_X11_stillInOneMore_b15_y (k15 : Int32 → Int32 → Wd → Option (Int32 × Wd)) (x2 : Int32) (x3 : Int32) (w : Wd) : Option (Int32 × Wd) :=
  if (gi w 13 2) ≤ x3 then
    (some (x2, w))
  else
    (bR (f_X5_by x3 w) fun r3 =>
    bW (f_X11_twelfths r3 x3 w) fun r4 w5 =>
    bW (f_X3_found x2 r4 w5) fun r6 w7 =>
    lt (x2 - r6) fun y8 =>
    k15 y8 (x3 + (1 : Int32)) w7)
def f_X11_stillInOneMore_b15 : Nat → Int32 → Int32 → Wd → Option (Int32 × Wd)
  | 0 => fun _ _ _ => none
  | n + 1 => f_X11_stillInOneMore_b15_y (f_X11_stillInOneMore_b15 n)
def f_X11_stillInOneMore (a1 : Int32) (w : Wd) : Option (Int32 × Wd) :=
  bW (f_X3_stones a1 w) fun r1 w2 =>
  f_X11_stillInOneMore_b15 fu r1 (0 : Int32) w2
def f_X11_drawn_b149_y (k149 : Int32 → Int32 → Int32 → Int32 → Wd → Option (Int32 × Wd)) (x5 : Int32) (x7 : Int32) (x8 : Int32) (x9 : Int32) (w : Wd) : Option (Int32 × Wd) :=
  if (gi w 13 2) ≤ x9 then
    (bR (f_X6_get (0 : Int32) (10 : Int32) w) fun r9 =>
    some (((x5 * x8) + (x7 * r9)), w))
  else
    (bR (f_X5_by x9 w) fun r10 =>
    bR (f_X6_get r10 (6 : Int32) w) fun r11 =>
    lt (x8 + r11) fun y12 =>
    k149 x5 x7 y12 (x9 + (1 : Int32)) w)
def f_X11_drawn_b149 : Nat → Int32 → Int32 → Int32 → Int32 → Wd → Option (Int32 × Wd)
  | 0 => fun _ _ _ _ _ => none
  | n + 1 => f_X11_drawn_b149_y (f_X11_drawn_b149 n)
def f_X11_drawn_b109_y (k109 : Int32 → Int32 → Int32 → Int32 → Int32 → Wd → Option (Int32 × Wd)) (x3 : Int32) (x4 : Int32) (x5 : Int32) (x7 : Int32) (x8 : Int32) (w : Wd) : Option (Int32 × Wd) :=
  if x5 ≤ x8 then
    (if x4 = (0 : Int32) then
      (some (x7, w))
    else
      (f_X11_drawn_b149 fu x5 x7 (0 : Int32) (0 : Int32) w))
  else
    (bW (f_X11_stillInOneMore (x3 / (100 : Int32)) w) fun r13 w14 =>
    lt (x7 + r13) fun y15 =>
    k109 x3 x4 x5 y15 (x8 + (1 : Int32)) w14)
def f_X11_drawn_b109 : Nat → Int32 → Int32 → Int32 → Int32 → Int32 → Wd → Option (Int32 × Wd)
  | 0 => fun _ _ _ _ _ _ => none
  | n + 1 => f_X11_drawn_b109_y (f_X11_drawn_b109 n)
def f_X11_drawn (a1 : Int32) (a2 : Int32) (a3 : Int32) (a4 : Int32) (w : Wd) : Option (Int32 × Wd) :=
  bR (f_X11_isShelf a1) fun r1 =>
  if r1 = (0 : Int32) then
    (some ((-1 : Int32), w))
  else
    (if a3 < (0 : Int32) then
      (some ((-1 : Int32), w))
    else
      (bR (f_X11_isBag (a3 / (100 : Int32))) fun r2 =>
      if r2 = (0 : Int32) then
        (some ((-1 : Int32), w))
      else
        (lt (ire a3 (100 : Int32)) fun y3 =>
        if y3 < (1 : Int32) then
          (some ((-1 : Int32), w))
        else
          (if (30 : Int32) < y3 then
            (some ((-1 : Int32), w))
          else
            (if a4 < (0 : Int32) then
              (some ((-1 : Int32), w))
            else
              (if a4 ≤ (1 : Int32) then
                (ldR a1 fun c4 =>
                bR (f_X9_refusalAsBytes c4 w) fun r5 =>
                if (0 : Int32) ≤ r5 then
                  (ldR a1 fun c6 =>
                  bV (f_X5_read c6 (gi w 1 1) (1 : Int32) w) fun w7 =>
                  stI w7 36 0 a2 fun w8 =>
                  f_X11_drawn_b109 fu a3 a4 y3 (0 : Int32) (0 : Int32) w8)
                else
                  (some (r5, w)))
              else
                (some ((-1 : Int32), w))))))))
def f_X11_open (a1 : Int32) (a2 : Int32) (w : Wd) : Option (Int32 × Wd) :=
  bR (f_X11_isBag a1) fun r1 =>
  if r1 = (0 : Int32) then
    (some ((-1 : Int32), w))
  else
    (if (gi w 37 0) = (0 : Int32) then
      (stI w 36 0 a2 fun w2 =>
      bW (f_X3_stones a1 w2) fun r3 w4 =>
      bV (f_X2_begin 37 r3 (gi w4 36 0) w4) fun w5 =>
      some (a1, w5))
    else
      (some ((-5 : Int32), w)))
def f_X11_look (a1 : Int32) (w : Wd) : Option (Int32 × Wd) :=
  bR (f_X6_isLooker a1 w) fun r1 =>
  if r1 = (0 : Int32) then
    (some ((-1 : Int32), w))
  else
    (if (gi w 37 0) = (0 : Int32) then
      (some ((-5 : Int32), w))
    else
      (stI w 36 0 (gi w 37 2) fun w2 =>
      bW (f_X11_twelfths a1 (gi w2 37 3) w2) fun r3 w4 =>
      bW (f_X3_found (gi w2 37 1) r3 w4) fun r5 w6 =>
      bR (f_X6_get a1 (6 : Int32) w6) fun r7 =>
      bV (f_X2_addLook 37 r5 r7 (gi w6 36 0) w6) fun w8 =>
      some (r5, w8)))
def f_X11_eat (w : Wd) : Option (Int32 × Wd) :=
  if (gi w 37 0) = (0 : Int32) then
    (some ((-5 : Int32), w))
  else
    (bR (f_X6_get (0 : Int32) (10 : Int32) w) fun r1 =>
    bW (f_X2_end 37 r1 w) fun r2 w3 =>
    some (r2, w3))
def f_X11_led (a1 : Int32) (w : Wd) : Option Int32 :=
  if a1 = (0 : Int32) then
    (some (gi w 37 4))
  else
    (if a1 = (1 : Int32) then
      (some (gi w 37 5))
    else
      (if a1 = (2 : Int32) then
        (some (gi w 37 6))
      else
        (if a1 = (3 : Int32) then
          (some (gi w 37 7))
        else
          (if a1 = (4 : Int32) then
            (some (gi w 37 8))
          else
            (if a1 = (5 : Int32) then
              (if (gi w 37 0) = (0 : Int32) then
                (some (-5 : Int32))
              else
                (some (gi w 37 3)))
            else
              (some (-1 : Int32)))))))
def f_X11_image (w : Wd) : Option (Int32 × Wd) :=
  bV (f_X2_become 38 37 w) fun w1 =>
  stZ w1 0 11 (1 : Int32) fun w2 =>
  some ((gi w2 37 4), w2)
def f_X11_back (w : Wd) : Option (Int32 × Wd) :=
  if (gi w 0 11) = (0 : Int32) then
    (some ((-5 : Int32), w))
  else
    (bV (f_X2_become 37 38 w) fun w1 =>
    some ((gi w1 37 4), w1))
def f_X11_undo (w : Wd) : Option (Int32 × Wd) :=
  if (gi w 1 5) = (0 : Int32) then
    (some ((-5 : Int32), w))
  else
    (bW (f_X6_stepBack w) fun r1 w2 =>
    some (r1, w2))
def f_X11_redo (w : Wd) : Option (Int32 × Wd) :=
  if (gi w 1 5) = (gi w 1 6) then
    (some ((-5 : Int32), w))
  else
    (bW (f_X6_stepOn w) fun r1 w2 =>
    some (r1, w2))
def f_X11_body (a1 : Int32) (w : Wd) : Option (Int32 × Wd) :=
  bR (f_X0_isKind a1) fun r1 =>
  if r1 = (0 : Int32) then
    (some ((-1 : Int32), w))
  else
    (bW (f_X0_add a1 w) fun r2 w3 =>
    some (r2, w3))
def f_X11_act (a1 : Int32) (a2 : Int32) (a3 : Int32) (w : Wd) : Option (Int32 × Wd) :=
  bV (f_X0_forget w) fun w1 =>
  bR (f_X0_has a1 w1) fun r2 =>
  if r2 = (0 : Int32) then
    (some ((0 : Int32), w1))
  else
    (if a2 < (0 : Int32) then
      (some ((0 : Int32), w1))
    else
      (if a2 < (4 : Int32) then
        (bW (f_X0_perform a1 a2 a3 w1) fun r3 w4 =>
        some (r3, w4))
      else
        (some ((0 : Int32), w1))))
def f_X11_trace (a1 : Int32) (w : Wd) : Option Int32 :=
  if a1 < (0 : Int32) then
    (some (-1 : Int32))
  else
    (if a1 < (imin (gi w 39 3) (24 : Int32)) then
      (bR (f_X0_traced a1 w) fun r1 =>
      some r1)
    else
      (some (-1 : Int32)))
def f_X11_keep_b25 (x1 : Int32) (x2 : Int32) (w : Wd) : Option (Int32 × Wd) :=
  if x2 = (-1 : Int32) then
    (ldR x1 fun c4 =>
    bV (f_X9_holdNothing c4 w) fun w5 =>
    some ((1 : Int32), w5))
  else
    (ldR x1 fun c2 =>
    bV (f_X9_holdBody c2 x2 w) fun w3 =>
    some ((1 : Int32), w3))
def f_X11_keep (a1 : Int32) (a2 : Int32) (w : Wd) : Option (Int32 × Wd) :=
  bR (f_X11_isShelf a1) fun r1 =>
  if r1 = (0 : Int32) then
    (some ((-1 : Int32), w))
  else
    (if a2 = (-1 : Int32) then
      (f_X11_keep_b25 a1 a2 w)
    else
      (bR (f_X0_has a2 w) fun r6 =>
      if r6 = (0 : Int32) then
        (some ((-1 : Int32), w))
      else
        (f_X11_keep_b25 a1 a2 w)))
def f_X11_row (a1 : Int32) (a2 : Int32) (a3 : Int32) (w : Wd) : Option (Int32 × Wd) :=
  bR (f_X11_isShelf a1) fun r1 =>
  if r1 = (0 : Int32) then
    (some ((-1 : Int32), w))
  else
    (if a2 < (0 : Int32) then
      (some ((-1 : Int32), w))
    else
      (if (4 : Int32) < a2 then
        (some ((-1 : Int32), w))
      else
        (if a3 ≤ (60 : Int32) then
          (if (0 : Int32) ≤ a3 then
            (ldR a1 fun c2 =>
            bV (f_X9_holdRow c2 a2 a3 w) fun w3 =>
            some ((1 : Int32), w3))
          else
            (some ((-14 : Int32), w)))
        else
          (some ((-1 : Int32), w)))))
def f_X11_put (a1 : Int32) (a2 : Int32) (a3 : Int64) (w : Wd) : Option (Int32 × Wd) :=
  bR (f_X11_isShelf a1) fun r1 =>
  if r1 = (0 : Int32) then
    (some ((-1 : Int32), w))
  else
    (ldR a1 fun c2 =>
    bR (f_X9_isEmpty c2 w) fun r3 =>
    if r3 = (0 : Int32) then
      (bR (f_X9_isRow c2 w) fun r4 =>
      if r4 = (0 : Int32) then
        (some ((-12 : Int32), w))
      else
        (bR (f_X9_hasPlace c2 a2 w) fun r5 =>
        if r5 = (0 : Int32) then
          (some ((-13 : Int32), w))
        else
          (bV (f_X9_write c2 a2 a3 w) fun w6 =>
          some ((1 : Int32), w6))))
    else
      (some ((-11 : Int32), w)))
def f_X11_element (a1 : Int32) (a2 : Int32) (w : Wd) : Option Int64 :=
  bR (f_X11_isShelf a1) fun r1 =>
  if r1 = (0 : Int32) then
    (some (-9223372036854775808 : Int64))
  else
    (ldR a1 fun c2 =>
    bR (f_X9_isRow c2 w) fun r3 =>
    if r3 = (0 : Int32) then
      (some (-9223372036854775808 : Int64))
    else
      (ldR a1 fun c4 =>
      bR (f_X9_hasPlace c4 a2 w) fun r5 =>
      if r5 = (0 : Int32) then
        (some (-9223372036854775808 : Int64))
      else
        (ldR a1 fun c6 =>
        bR (f_X9_read c6 a2 w) fun r7 =>
        some r7)))
def f_X11_shift (a1 : Int32) (a2 : Int32) (a3 : Int32) (a4 : Int32) (a5 : Int32) (w : Wd) : Option (Int32 × Wd) :=
  bR (f_X11_isShelf a1) fun r1 =>
  if r1 = (0 : Int32) then
    (some ((-1 : Int32), w))
  else
    (bR (f_X11_isShelf a3) fun r2 =>
    if r2 = (0 : Int32) then
      (some ((-1 : Int32), w))
    else
      (ldR a1 fun c3 =>
      ldR a3 fun c4 =>
      bR (f_X9_isEmpty c3 w) fun r5 =>
      if r5 = (0 : Int32) then
        (bR (f_X9_isEmpty c4 w) fun r6 =>
        if r6 = (0 : Int32) then
          (bR (f_X9_isRow c3 w) fun r7 =>
          if r7 = (0 : Int32) then
            (some ((-12 : Int32), w))
          else
            (bR (f_X9_isRow c4 w) fun r8 =>
            if r8 = (0 : Int32) then
              (some ((-12 : Int32), w))
            else
              (if (gi w c3 2) = (gi w c4 2) then
                (bR (f_X9_hasPlaces c3 a2 a5 w) fun r9 =>
                if r9 = (0 : Int32) then
                  (some ((-13 : Int32), w))
                else
                  (bR (f_X9_hasPlaces c4 a4 a5 w) fun r10 =>
                  if r10 = (0 : Int32) then
                    (some ((-13 : Int32), w))
                  else
                    (bV (f_X9_copyTo c3 a2 c4 a4 a5 w) fun w11 =>
                    some (a5, w11))))
              else
                (some ((-12 : Int32), w)))))
        else
          (some ((-11 : Int32), w)))
      else
        (some ((-11 : Int32), w))))
def f_X11_taken (a1 : Int32) (a2 : Int32) (w : Wd) : Option Int32 :=
  bR (f_X11_isShelf a1) fun r1 =>
  if r1 = (0 : Int32) then
    (some (-1 : Int32))
  else
    (bR (f_X0_isKind a2) fun r2 =>
    if r2 = (0 : Int32) then
      (some (-1 : Int32))
    else
      (ldR a1 fun c3 =>
      bR (f_X9_isEmpty c3 w) fun r4 =>
      if r4 = (0 : Int32) then
        (bR (f_X9_isRow c3 w) fun r5 =>
        if r5 = (0 : Int32) then
          (bR (f_X0_kindOf (gi w c3 1) w) fun r6 =>
          bR (f_X0_isUnder r6 a2 w) fun r7 =>
          if r7 = (0 : Int32) then
            (some (-12 : Int32))
          else
            (some r6))
        else
          (some (-12 : Int32)))
      else
        (some (-11 : Int32))))
def f_X11_count (a1 : Int32) (w : Wd) : Option Int32 :=
  if a1 = (0 : Int32) then
    (some (gi w 1 1))
  else
    (if a1 = (1 : Int32) then
      (some (gi w 6 1))
    else
      (if a1 = (2 : Int32) then
        (some (gi w 1 5))
      else
        (if a1 = (3 : Int32) then
          (some (gi w 39 1))
        else
          (if a1 = (4 : Int32) then
            (some (gi w 39 3))
          else
            (some (-1 : Int32))))))
def f_X12_in (a0 : Int32) (a1 : Int32) (a2 : Int32) : Option Int32 :=
  if a0 < a1 then
    (some (0 : Int32))
  else
    (if a2 < a0 then
      (some (0 : Int32))
    else
      (some (1 : Int32)))
def f_X12_isBag (a0 : Int32) : Option Int32 :=
  bR (f_X12_in a0 (0 : Int32) (3 : Int32)) fun r1 =>
  zb r1 (some r1)
def f_X12_isLooker (a1 : Int32) (w : Wd) : Option Int32 :=
  bR (f_X12_in a1 (0 : Int32) ((gi w 54 3) - (1 : Int32))) fun r1 =>
  zb r1 (some r1)
def f_X12_addLooker (a1 : Int32) (a2 : Int32) (w : Wd) : Option (Int32 × Wd) :=
  saI w 57 6 (gi w 54 3) a1 fun w1 =>
  saI w1 58 6 (gi w1 54 3) a2 fun w2 =>
  stI w2 54 3 ((gi w2 54 3) + (1 : Int32)) fun w3 =>
  some (((gi w3 54 3) - (1 : Int32)), w3)
def f_X12_looker (a1 : Int32) (w : Wd) : Option (Int32 × Wd) :=
  if a1 < (0 : Int32) then
    (some ((-1 : Int32), w))
  else
    (if (a1 / (100 : Int32)) ≤ (12 : Int32) then
      (if (gi w 54 3) = (6 : Int32) then
        (some ((-3 : Int32), w))
      else
        (bW (f_X12_addLooker (a1 / (100 : Int32)) (ire a1 (100 : Int32)) w) fun r1 w2 =>
        some (r1, w2)))
    else
      (some ((-1 : Int32), w)))
def f_X12_isShelf (a0 : Int32) : Option Int32 :=
  bR (f_X12_in a0 (0 : Int32) (5 : Int32)) fun r1 =>
  zb r1 (some r1)
def f_X12_lookers_b58_y (k58 : Int32 → Int32 → Int32 → Int32 → Wd → Option (Int32 × Wd)) (x1 : Int32) (x2 : Int32) (x3 : Int32) (x4 : Int32) (w : Wd) : Option (Int32 × Wd) :=
  if x3 ≤ x4 then
    (some (x3, w))
  else
    (lt ((Int32.toInt64 x2) + (Int32.toInt64 ((2 : Int32) * x4))) fun y5 =>
    if y5 < (0 : Int64) then
      (some (x4, w))
    else
      (ldI w 83 6 x1 fun v6 =>
      if (Int32.toInt64 v6) ≤ (y5 + (1 : Int64)) then
        (some (x4, w))
      else
        (if (gi w 54 3) = (6 : Int32) then
          (some (x4, w))
        else
          (lt (((60 : Int32) * x1) + (Int64.toInt32 y5)) fun y7 =>
          ldL w 84 360 y7 fun v8 =>
          bR (f_X12_in (Int64.toInt32 v8) (0 : Int32) (12 : Int32)) fun r9 =>
          if r9 = (0 : Int32) then
            (some (x4, w))
          else
            (ldL w 84 360 (y7 + (1 : Int32)) fun v10 =>
            bR (f_X12_in (Int64.toInt32 v10) (0 : Int32) (99 : Int32)) fun r11 =>
            if r11 = (0 : Int32) then
              (some (x4, w))
            else
              (ldL w 84 360 y7 fun v12 =>
              ldL w 84 360 (y7 + (1 : Int32)) fun v13 =>
              bW (f_X12_addLooker (Int64.toInt32 v12) (Int64.toInt32 v13) w) fun r14 w15 =>
              k58 x1 x2 x3 (x4 + (1 : Int32)) w15))))))
def f_X12_lookers_b58 : Nat → Int32 → Int32 → Int32 → Int32 → Wd → Option (Int32 × Wd)
  | 0 => fun _ _ _ _ _ => none
  | n + 1 => f_X12_lookers_b58_y (f_X12_lookers_b58 n)
def f_X12_lookers_b43 (x1 : Int32) (x2 : Int32) (x3 : Int32) (w : Wd) : Option (Int32 × Wd) :=
  ldI w 82 6 x1 fun v4 =>
  if v4 = (-1 : Int32) then
    (some ((0 : Int32), w))
  else
    (f_X12_lookers_b58 fu x1 x2 x3 (0 : Int32) w)
def f_X12_lookers (a1 : Int32) (a2 : Int32) (a3 : Int32) (w : Wd) : Option (Int32 × Wd) :=
  bR (f_X12_isShelf a1) fun r1 =>
  if r1 = (0 : Int32) then
    (some ((-1 : Int32), w))
  else
    (bR (f_X12_in a3 (1 : Int32) (6 : Int32)) fun r2 =>
    if r2 = (0 : Int32) then
      (some ((-1 : Int32), w))
    else
      (ldI w 82 6 a1 fun v3 =>
      if v3 = (-1 : Int32) then
        (f_X12_lookers_b43 a1 a2 a3 w)
      else
        (ldI w 82 6 a1 fun v16 =>
        if v16 = (-2 : Int32) then
          (f_X12_lookers_b43 a1 a2 a3 w)
        else
          (some ((-12 : Int32), w)))))
def f_X12_valueAt (a1 : Int32) (a2 : Int32) (w : Wd) : Option Int32 :=
  if (4 : Int32) ≤ a1 then
    (if a1 = (4 : Int32) then
      (ldI w 56 4 a2 fun v1 =>
      some v1)
    else
      (if a1 = (5 : Int32) then
        (ldI w 57 6 a2 fun v2 =>
        some v2)
      else
        (if a1 = (6 : Int32) then
          (ldI w 58 6 a2 fun v3 =>
          some v3)
        else
          (if a1 = (7 : Int32) then
            (some (gi w 54 6))
          else
            (if a1 = (8 : Int32) then
              (some (gi w 54 7))
            else
              (if a1 = (9 : Int32) then
                (some (gi w 54 8))
              else
                (if a1 = (10 : Int32) then
                  (some (gi w 54 9))
                else
                  (some (gi w 54 10)))))))))
  else
    (ldI w 55 16 (((4 : Int32) * a2) + a1) fun v4 =>
    some v4)
def f_X12_lays (a1 : Int32) (a2 : Int32) (a3 : Int32) (w : Wd) : Option Wd :=
  if a1 = (4 : Int32) then
    (saI w 56 4 a2 a3 fun w1 =>
    some w1)
  else
    (if a1 = (5 : Int32) then
      (saI w 57 6 a2 a3 fun w2 =>
      some w2)
    else
      (if a1 = (6 : Int32) then
        (saI w 58 6 a2 a3 fun w3 =>
        some w3)
      else
        (if a1 = (7 : Int32) then
          (stI w 54 6 a3 fun w4 =>
          some w4)
        else
          (if a1 = (8 : Int32) then
            (stI w 54 7 a3 fun w5 =>
            some w5)
          else
            (if a1 = (9 : Int32) then
              (stI w 54 8 a3 fun w6 =>
              some w6)
            else
              (if a1 = (10 : Int32) then
                (stI w 54 9 a3 fun w7 =>
                some w7)
              else
                (if a1 = (11 : Int32) then
                  (stI w 54 10 a3 fun w8 =>
                  some w8)
                else
                  (saI w 55 16 (((4 : Int32) * a2) + a1) a3 fun w9 =>
                  some w9))))))))
def f_X12_changes_b121 (x1 : Int32) (x2 : Int32) (x3 : Int32) (x4 : Int32) (w : Wd) : Option (Int32 × Wd) :=
  saI w 59 40 (gi w 54 11) x1 fun w3 =>
  saI w3 60 40 (gi w3 54 11) x2 fun w4 =>
  saI w4 61 40 (gi w4 54 11) x4 fun w5 =>
  saI w5 62 40 (gi w5 54 11) x3 fun w6 =>
  stI w6 54 11 ((gi w6 54 11) + (1 : Int32)) fun w7 =>
  bV (f_X12_lays x1 x2 x3 w7) fun w8 =>
  some (x4, w8)
def f_X12_changes_b34_y (k34 : Int32 → Int32 → Int32 → Int32 → Int32 → Wd → Option (Int32 × Wd)) (x1 : Int32) (x2 : Int32) (x3 : Int32) (x4 : Int32) (x5 : Int32) (w : Wd) : Option (Int32 × Wd) :=
  if (40 : Int32) ≤ x5 then
    (stI w 54 11 ((gi w 54 11) - (1 : Int32)) fun w9 =>
    f_X12_changes_b121 x1 x2 x3 x4 w9)
  else
    (ldI w 59 40 x5 fun v10 =>
    saI w 59 40 (x5 - (1 : Int32)) v10 fun w11 =>
    ldI w11 60 40 x5 fun v12 =>
    saI w11 60 40 (x5 - (1 : Int32)) v12 fun w13 =>
    ldI w13 61 40 x5 fun v14 =>
    saI w13 61 40 (x5 - (1 : Int32)) v14 fun w15 =>
    ldI w15 62 40 x5 fun v16 =>
    saI w15 62 40 (x5 - (1 : Int32)) v16 fun w17 =>
    k34 x1 x2 x3 x4 (x5 + (1 : Int32)) w17)
def f_X12_changes_b34 : Nat → Int32 → Int32 → Int32 → Int32 → Int32 → Wd → Option (Int32 × Wd)
  | 0 => fun _ _ _ _ _ _ => none
  | n + 1 => f_X12_changes_b34_y (f_X12_changes_b34 n)
def f_X12_changes (a1 : Int32) (a2 : Int32) (a3 : Int32) (w : Wd) : Option (Int32 × Wd) :=
  bR (f_X12_valueAt a1 a2 w) fun r1 =>
  if r1 = a3 then
    (some (r1, w))
  else
    (stI w 54 12 (0 : Int32) fun w2 =>
    if (gi w2 54 11) = (40 : Int32) then
      (f_X12_changes_b34 fu a1 a2 a3 r1 (1 : Int32) w2)
    else
      (f_X12_changes_b121 a1 a2 a3 r1 w2))
def f_X12_undo (w : Wd) : Option (Int32 × Wd) :=
  if (gi w 54 11) = (0 : Int32) then
    (some ((-5 : Int32), w))
  else
    (stI w 54 11 ((gi w 54 11) - (1 : Int32)) fun w1 =>
    stI w1 54 12 ((gi w1 54 12) + (1 : Int32)) fun w2 =>
    ldI w2 59 40 (gi w2 54 11) fun v3 =>
    ldI w2 60 40 (gi w2 54 11) fun v4 =>
    ldI w2 61 40 (gi w2 54 11) fun v5 =>
    bV (f_X12_lays v3 v4 v5 w2) fun w6 =>
    some ((gi w6 54 11), w6))
def f_X12_redo (w : Wd) : Option (Int32 × Wd) :=
  if (gi w 54 12) = (0 : Int32) then
    (some ((-5 : Int32), w))
  else
    (ldI w 59 40 (gi w 54 11) fun v1 =>
    ldI w 60 40 (gi w 54 11) fun v2 =>
    ldI w 62 40 (gi w 54 11) fun v3 =>
    bV (f_X12_lays v1 v2 v3 w) fun w4 =>
    stI w4 54 11 ((gi w4 54 11) + (1 : Int32)) fun w5 =>
    stI w5 54 12 ((gi w5 54 12) - (1 : Int32)) fun w6 =>
    some ((gi w6 54 12), w6))
def f_X12_isOne (a1 : Int32) (a2 : Int32) (w : Wd) : Option Int32 :=
  bR (f_X12_in a2 (0 : Int32) (4 : Int32)) fun r1 =>
  if r1 = (0 : Int32) then
    (bR (f_X12_in a2 (5 : Int32) (6 : Int32)) fun r2 =>
    if r2 = (0 : Int32) then
      (bR (f_X12_in a2 (7 : Int32) (11 : Int32)) fun r3 =>
      if r3 = (0 : Int32) then
        (some (0 : Int32))
      else
        (if a1 = (0 : Int32) then
          (some (1 : Int32))
        else
          (some (0 : Int32))))
    else
      (bR (f_X12_isLooker a1 w) fun r4 =>
      zb r4 (some r4)))
  else
    (bR (f_X12_isBag a1) fun r5 =>
    zb r5 (some r5))
def f_X12_mayBe_b97 (x1 : Int32) : Option Int32 :=
  bR (f_X12_in x1 (0 : Int32) (9 : Int32)) fun r7 =>
  zb r7 (some r7)
def f_X12_mayBe (a0 : Int32) (a1 : Int32) : Option Int32 :=
  if a0 = (4 : Int32) then
    (bR (f_X12_in a1 (0 : Int32) (99 : Int32)) fun r1 =>
    zb r1 (some r1))
  else
    (if a0 = (5 : Int32) then
      (bR (f_X12_in a1 (0 : Int32) (12 : Int32)) fun r2 =>
      zb r2 (some r2))
    else
      (if a0 = (6 : Int32) then
        (bR (f_X12_in a1 (0 : Int32) (99 : Int32)) fun r3 =>
        zb r3 (some r3))
      else
        (if a0 = (9 : Int32) then
          (bR (f_X12_in a1 (1 : Int32) (9 : Int32)) fun r4 =>
          zb r4 (some r4))
        else
          (if a0 = (10 : Int32) then
            (bR (f_X12_in a1 (0 : Int32) (999 : Int32)) fun r5 =>
            zb r5 (some r5))
          else
            (if a0 = (11 : Int32) then
              (bR (f_X12_in a1 (0 : Int32) (12 : Int32)) fun r6 =>
              zb r6 (some r6))
            else
              (f_X12_mayBe_b97 a1))))))
def f_X12_mend (a1 : Int32) (a2 : Int32) (a3 : Int32) (w : Wd) : Option (Int32 × Wd) :=
  bR (f_X12_isOne a1 a2 w) fun r1 =>
  if r1 = (0 : Int32) then
    (some ((-1 : Int32), w))
  else
    (bR (f_X12_mayBe a2 a3) fun r2 =>
    if r2 = (0 : Int32) then
      (some ((-1 : Int32), w))
    else
      (bW (f_X12_changes a2 a1 a3 w) fun r3 w4 =>
      some (r3, w4)))
def f_X12_of (a1 : Int32) (a2 : Int32) (w : Wd) : Option Int32 :=
  bR (f_X12_isOne a1 a2 w) fun r1 =>
  if r1 = (0 : Int32) then
    (some (-1 : Int32))
  else
    (bR (f_X12_valueAt a2 a1 w) fun r2 =>
    some r2)
def f_X12_feed (a1 : Int32) (w : Wd) : Option (Int32 × Wd) :=
  bR (f_X12_in a1 (0 : Int32) (255 : Int32)) fun r1 =>
  if r1 = (0 : Int32) then
    (some ((-1 : Int32), w))
  else
    (if (gi w 54 18) = (120 : Int32) then
      (some ((-3 : Int32), w))
    else
      (saI w 63 120 (gi w 54 18) (i2b (i2b a1)) fun w2 =>
      stI w2 54 18 ((gi w2 54 18) + (1 : Int32)) fun w3 =>
      some ((gi w3 54 18), w3)))
def f_X12_looksOn (w : Wd) : Option Int32 :=
  if (gi w 54 18) ≤ (gi w 54 19) then
    (some (-1 : Int32))
  else
    (ldI w 63 120 (gi w 54 19) fun v1 =>
    some v1)
def f_X12_faulty (w : Wd) : Option Wd :=
  if (0 : Int32) ≤ (gi w 54 20) then
    (some w)
  else
    (stI w 54 20 (gi w 54 19) fun w1 =>
    some w1)
def f_X12_addStep (a1 : Int32) (a2 : Int32) (w : Wd) : Option Wd :=
  saI w 64 260 ((130 : Int32) + (gi w 54 22)) (i2b (i2b a1)) fun w1 =>
  saI w1 65 260 ((130 : Int32) + (gi w1 54 22)) a2 fun w2 =>
  stI w2 54 22 ((gi w2 54 22) + (1 : Int32)) fun w3 =>
  some w3
def f_X12_nameOf (a0 : Int32) : Option Int32 :=
  if a0 = (104 : Int32) then
    (some (3 : Int32))
  else
    (if a0 = (107 : Int32) then
      (some (5 : Int32))
    else
      (if a0 = (108 : Int32) then
        (some (2 : Int32))
      else
        (if a0 = (110 : Int32) then
          (some (4 : Int32))
        else
          (if a0 = (115 : Int32) then
            (some (0 : Int32))
          else
            (if a0 = (116 : Int32) then
              (some (1 : Int32))
            else
              (some (-1 : Int32)))))))
def f_X12_opens (w : Wd) : Option (Int32 × Wd) :=
  if (gi w 54 21) = (6 : Int32) then
    (bV (f_X12_faulty w) fun w3 =>
    some ((0 : Int32), w3))
  else
    (stI w 54 21 ((gi w 54 21) + (1 : Int32)) fun w1 =>
    stI w1 54 19 ((gi w1 54 19) + (1 : Int32)) fun w2 =>
    some ((1 : Int32), w2))
def f_X12_figure_b74 (x1 : Int32) (w : Wd) : Option Wd :=
  bV (f_X12_addStep (1 : Int32) x1 w) fun w2 =>
  some w2
def f_X12_figure_b70 (x1 : Int32) (w : Wd) : Option Wd :=
  bV (f_X12_faulty w) fun w1 =>
  f_X12_figure_b74 x1 w1
def f_X12_figure_b52 (x1 : Int32) (x2 : Int32) (w : Wd) : Option Wd :=
  if x2 = (0 : Int32) then
    (f_X12_figure_b70 x1 w)
  else
    (bR (f_X12_looksOn w) fun r3 =>
    bR (f_X12_in r3 (48 : Int32) (57 : Int32)) fun r4 =>
    if r4 = (0 : Int32) then
      (f_X12_figure_b74 x1 w)
    else
      (f_X12_figure_b70 x1 w))
def f_X12_figure_b4_y (k4 : Int32 → Int32 → Wd → Option Wd) (x1 : Int32) (x2 : Int32) (w : Wd) : Option Wd :=
  if (4 : Int32) ≤ x2 then
    (f_X12_figure_b52 x1 x2 w)
  else
    (bR (f_X12_looksOn w) fun r5 =>
    bR (f_X12_in r5 (48 : Int32) (57 : Int32)) fun r6 =>
    if r6 = (0 : Int32) then
      (f_X12_figure_b52 x1 x2 w)
    else
      (bR (f_X12_looksOn w) fun r7 =>
      lt ((((10 : Int32) * x1) + r7) - (48 : Int32)) fun y8 =>
      stI w 54 19 ((gi w 54 19) + (1 : Int32)) fun w9 =>
      k4 y8 (x2 + (1 : Int32)) w9))
def f_X12_figure_b4 : Nat → Int32 → Int32 → Wd → Option Wd
  | 0 => fun _ _ _ => none
  | n + 1 => f_X12_figure_b4_y (f_X12_figure_b4 n)
def f_X12_figure (w : Wd) : Option Wd :=
  f_X12_figure_b4 fu (0 : Int32) (0 : Int32) w
def f_X12_operand_b80 (r_X12_operand : Wd → Option Wd) (r_X12_product : Wd → Option Wd) (r_X12_sum : Wd → Option Wd) (r_X12_compared : Wd → Option Wd) (r_X12_both : Wd → Option Wd) (r_X12_either : Wd → Option Wd) (s0 : Int32) (w : Wd) : Option Wd :=
  bV (f_X12_addStep s0 (0 : Int32) w) fun w7 =>
  some w7
def f_X12_operand_b46 (r_X12_operand : Wd → Option Wd) (r_X12_product : Wd → Option Wd) (r_X12_sum : Wd → Option Wd) (r_X12_compared : Wd → Option Wd) (r_X12_both : Wd → Option Wd) (r_X12_either : Wd → Option Wd) (x1 : Int32) (w : Wd) : Option Wd :=
  bW (f_X12_opens w) fun r3 w4 =>
  if r3 = (0 : Int32) then
    (some w4)
  else
    (bV (r_X12_operand w4) fun w5 =>
    stI w5 54 21 ((gi w5 54 21) - (1 : Int32)) fun w6 =>
    if x1 = (33 : Int32) then
      (f_X12_operand_b80 r_X12_operand r_X12_product r_X12_sum r_X12_compared r_X12_both r_X12_either (3 : Int32) w6)
    else
      (f_X12_operand_b80 r_X12_operand r_X12_product r_X12_sum r_X12_compared r_X12_both r_X12_either (4 : Int32) w6))
def f_X12_operand_y (r_X12_operand : Wd → Option Wd) (r_X12_product : Wd → Option Wd) (r_X12_sum : Wd → Option Wd) (r_X12_compared : Wd → Option Wd) (r_X12_both : Wd → Option Wd) (r_X12_either : Wd → Option Wd) (w : Wd) : Option Wd :=
  bR (f_X12_looksOn w) fun r1 =>
  bR (f_X12_nameOf r1) fun r2 =>
  if r2 < (0 : Int32) then
    (if r1 = (33 : Int32) then
      (f_X12_operand_b46 r_X12_operand r_X12_product r_X12_sum r_X12_compared r_X12_both r_X12_either r1 w)
    else
      (if r1 = (45 : Int32) then
        (f_X12_operand_b46 r_X12_operand r_X12_product r_X12_sum r_X12_compared r_X12_both r_X12_either r1 w)
      else
        (if r1 = (40 : Int32) then
          (bW (f_X12_opens w) fun r9 w10 =>
          if r9 = (0 : Int32) then
            (some w10)
          else
            (bV (r_X12_either w10) fun w11 =>
            if (gi w11 54 20) < (0 : Int32) then
              (bR (f_X12_looksOn w11) fun r12 =>
              if r12 = (41 : Int32) then
                (stI w11 54 19 ((gi w11 54 19) + (1 : Int32)) fun w13 =>
                stI w13 54 21 ((gi w13 54 21) - (1 : Int32)) fun w14 =>
                some w14)
              else
                (bV (f_X12_faulty w11) fun w15 =>
                some w15))
            else
              (some w11)))
        else
          (bV (f_X12_figure w) fun w8 =>
          some w8))))
  else
    (bR (f_X12_nameOf r1) fun r16 =>
    bV (f_X12_addStep (2 : Int32) r16 w) fun w17 =>
    stI w17 54 19 ((gi w17 54 19) + (1 : Int32)) fun w18 =>
    some w18)
def f_X12_product_b38 (r_X12_operand : Wd → Option Wd) (r_X12_product : Wd → Option Wd) (r_X12_sum : Wd → Option Wd) (r_X12_compared : Wd → Option Wd) (r_X12_both : Wd → Option Wd) (r_X12_either : Wd → Option Wd) (k4 : Wd → Option Wd) (w : Wd) : Option Wd :=
  bR (f_X12_looksOn w) fun r3 =>
  stI w 54 19 ((gi w 54 19) + (1 : Int32)) fun w4 =>
  bV (r_X12_operand w4) fun w5 =>
  bV (f_X12_addStep r3 (0 : Int32) w5) fun w6 =>
  k4 w6
def f_X12_product_b4_y (r_X12_operand : Wd → Option Wd) (r_X12_product : Wd → Option Wd) (r_X12_sum : Wd → Option Wd) (r_X12_compared : Wd → Option Wd) (r_X12_both : Wd → Option Wd) (r_X12_either : Wd → Option Wd) (k4 : Wd → Option Wd) (w : Wd) : Option Wd :=
  if (0 : Int32) ≤ (gi w 54 20) then
    (some w)
  else
    (bR (f_X12_looksOn w) fun r2 =>
    if r2 = (42 : Int32) then
      (f_X12_product_b38 r_X12_operand r_X12_product r_X12_sum r_X12_compared r_X12_both r_X12_either k4 w)
    else
      (bR (f_X12_looksOn w) fun r7 =>
      if r7 = (47 : Int32) then
        (f_X12_product_b38 r_X12_operand r_X12_product r_X12_sum r_X12_compared r_X12_both r_X12_either k4 w)
      else
        (bR (f_X12_looksOn w) fun r8 =>
        if r8 = (37 : Int32) then
          (f_X12_product_b38 r_X12_operand r_X12_product r_X12_sum r_X12_compared r_X12_both r_X12_either k4 w)
        else
          (some w))))
def f_X12_product_b4 (r_X12_operand : Wd → Option Wd) (r_X12_product : Wd → Option Wd) (r_X12_sum : Wd → Option Wd) (r_X12_compared : Wd → Option Wd) (r_X12_both : Wd → Option Wd) (r_X12_either : Wd → Option Wd) : Nat → Wd → Option Wd
  | 0 => fun _ => none
  | n + 1 => f_X12_product_b4_y r_X12_operand r_X12_product r_X12_sum r_X12_compared r_X12_both r_X12_either (f_X12_product_b4 r_X12_operand r_X12_product r_X12_sum r_X12_compared r_X12_both r_X12_either n)
def f_X12_product_y (r_X12_operand : Wd → Option Wd) (r_X12_product : Wd → Option Wd) (r_X12_sum : Wd → Option Wd) (r_X12_compared : Wd → Option Wd) (r_X12_both : Wd → Option Wd) (r_X12_either : Wd → Option Wd) (w : Wd) : Option Wd :=
  bV (r_X12_operand w) fun w1 =>
  f_X12_product_b4 r_X12_operand r_X12_product r_X12_sum r_X12_compared r_X12_both r_X12_either fu w1
def f_X12_sum_b29 (r_X12_operand : Wd → Option Wd) (r_X12_product : Wd → Option Wd) (r_X12_sum : Wd → Option Wd) (r_X12_compared : Wd → Option Wd) (r_X12_both : Wd → Option Wd) (r_X12_either : Wd → Option Wd) (k4 : Wd → Option Wd) (w : Wd) : Option Wd :=
  bR (f_X12_looksOn w) fun r3 =>
  stI w 54 19 ((gi w 54 19) + (1 : Int32)) fun w4 =>
  bV (r_X12_product w4) fun w5 =>
  bV (f_X12_addStep r3 (0 : Int32) w5) fun w6 =>
  k4 w6
def f_X12_sum_b4_y (r_X12_operand : Wd → Option Wd) (r_X12_product : Wd → Option Wd) (r_X12_sum : Wd → Option Wd) (r_X12_compared : Wd → Option Wd) (r_X12_both : Wd → Option Wd) (r_X12_either : Wd → Option Wd) (k4 : Wd → Option Wd) (w : Wd) : Option Wd :=
  if (0 : Int32) ≤ (gi w 54 20) then
    (some w)
  else
    (bR (f_X12_looksOn w) fun r2 =>
    if r2 = (43 : Int32) then
      (f_X12_sum_b29 r_X12_operand r_X12_product r_X12_sum r_X12_compared r_X12_both r_X12_either k4 w)
    else
      (bR (f_X12_looksOn w) fun r7 =>
      if r7 = (45 : Int32) then
        (f_X12_sum_b29 r_X12_operand r_X12_product r_X12_sum r_X12_compared r_X12_both r_X12_either k4 w)
      else
        (some w)))
def f_X12_sum_b4 (r_X12_operand : Wd → Option Wd) (r_X12_product : Wd → Option Wd) (r_X12_sum : Wd → Option Wd) (r_X12_compared : Wd → Option Wd) (r_X12_both : Wd → Option Wd) (r_X12_either : Wd → Option Wd) : Nat → Wd → Option Wd
  | 0 => fun _ => none
  | n + 1 => f_X12_sum_b4_y r_X12_operand r_X12_product r_X12_sum r_X12_compared r_X12_both r_X12_either (f_X12_sum_b4 r_X12_operand r_X12_product r_X12_sum r_X12_compared r_X12_both r_X12_either n)
def f_X12_sum_y (r_X12_operand : Wd → Option Wd) (r_X12_product : Wd → Option Wd) (r_X12_sum : Wd → Option Wd) (r_X12_compared : Wd → Option Wd) (r_X12_both : Wd → Option Wd) (r_X12_either : Wd → Option Wd) (w : Wd) : Option Wd :=
  bV (r_X12_product w) fun w1 =>
  f_X12_sum_b4 r_X12_operand r_X12_product r_X12_sum r_X12_compared r_X12_both r_X12_either fu w1
def f_X12_compared_b35 (r_X12_operand : Wd → Option Wd) (r_X12_product : Wd → Option Wd) (r_X12_sum : Wd → Option Wd) (r_X12_compared : Wd → Option Wd) (r_X12_both : Wd → Option Wd) (r_X12_either : Wd → Option Wd) (x1 : Int32) (w : Wd) : Option Wd :=
  stI w 54 19 ((gi w 54 19) + (1 : Int32)) fun w3 =>
  bV (r_X12_sum w3) fun w4 =>
  bV (f_X12_addStep x1 (0 : Int32) w4) fun w5 =>
  some w5
def f_X12_compared_y (r_X12_operand : Wd → Option Wd) (r_X12_product : Wd → Option Wd) (r_X12_sum : Wd → Option Wd) (r_X12_compared : Wd → Option Wd) (r_X12_both : Wd → Option Wd) (r_X12_either : Wd → Option Wd) (w : Wd) : Option Wd :=
  bV (r_X12_sum w) fun w1 =>
  bR (f_X12_looksOn w1) fun r2 =>
  if (0 : Int32) ≤ (gi w1 54 20) then
    (some w1)
  else
    (if r2 = (60 : Int32) then
      (f_X12_compared_b35 r_X12_operand r_X12_product r_X12_sum r_X12_compared r_X12_both r_X12_either r2 w1)
    else
      (if r2 = (61 : Int32) then
        (f_X12_compared_b35 r_X12_operand r_X12_product r_X12_sum r_X12_compared r_X12_both r_X12_either r2 w1)
      else
        (if r2 = (62 : Int32) then
          (f_X12_compared_b35 r_X12_operand r_X12_product r_X12_sum r_X12_compared r_X12_both r_X12_either r2 w1)
        else
          (some w1))))
def f_X12_both_b4_y (r_X12_operand : Wd → Option Wd) (r_X12_product : Wd → Option Wd) (r_X12_sum : Wd → Option Wd) (r_X12_compared : Wd → Option Wd) (r_X12_both : Wd → Option Wd) (r_X12_either : Wd → Option Wd) (k4 : Wd → Option Wd) (w : Wd) : Option Wd :=
  if (0 : Int32) ≤ (gi w 54 20) then
    (some w)
  else
    (bR (f_X12_looksOn w) fun r2 =>
    if r2 = (38 : Int32) then
      (stI w 54 19 ((gi w 54 19) + (1 : Int32)) fun w3 =>
      bV (r_X12_compared w3) fun w4 =>
      bV (f_X12_addStep (38 : Int32) (0 : Int32) w4) fun w5 =>
      k4 w5)
    else
      (some w))
def f_X12_both_b4 (r_X12_operand : Wd → Option Wd) (r_X12_product : Wd → Option Wd) (r_X12_sum : Wd → Option Wd) (r_X12_compared : Wd → Option Wd) (r_X12_both : Wd → Option Wd) (r_X12_either : Wd → Option Wd) : Nat → Wd → Option Wd
  | 0 => fun _ => none
  | n + 1 => f_X12_both_b4_y r_X12_operand r_X12_product r_X12_sum r_X12_compared r_X12_both r_X12_either (f_X12_both_b4 r_X12_operand r_X12_product r_X12_sum r_X12_compared r_X12_both r_X12_either n)
def f_X12_both_y (r_X12_operand : Wd → Option Wd) (r_X12_product : Wd → Option Wd) (r_X12_sum : Wd → Option Wd) (r_X12_compared : Wd → Option Wd) (r_X12_both : Wd → Option Wd) (r_X12_either : Wd → Option Wd) (w : Wd) : Option Wd :=
  bV (r_X12_compared w) fun w1 =>
  f_X12_both_b4 r_X12_operand r_X12_product r_X12_sum r_X12_compared r_X12_both r_X12_either fu w1
def f_X12_either_b4_y (r_X12_operand : Wd → Option Wd) (r_X12_product : Wd → Option Wd) (r_X12_sum : Wd → Option Wd) (r_X12_compared : Wd → Option Wd) (r_X12_both : Wd → Option Wd) (r_X12_either : Wd → Option Wd) (k4 : Wd → Option Wd) (w : Wd) : Option Wd :=
  if (0 : Int32) ≤ (gi w 54 20) then
    (some w)
  else
    (bR (f_X12_looksOn w) fun r2 =>
    if r2 = (124 : Int32) then
      (stI w 54 19 ((gi w 54 19) + (1 : Int32)) fun w3 =>
      bV (r_X12_both w3) fun w4 =>
      bV (f_X12_addStep (124 : Int32) (0 : Int32) w4) fun w5 =>
      k4 w5)
    else
      (some w))
def f_X12_either_b4 (r_X12_operand : Wd → Option Wd) (r_X12_product : Wd → Option Wd) (r_X12_sum : Wd → Option Wd) (r_X12_compared : Wd → Option Wd) (r_X12_both : Wd → Option Wd) (r_X12_either : Wd → Option Wd) : Nat → Wd → Option Wd
  | 0 => fun _ => none
  | n + 1 => f_X12_either_b4_y r_X12_operand r_X12_product r_X12_sum r_X12_compared r_X12_both r_X12_either (f_X12_either_b4 r_X12_operand r_X12_product r_X12_sum r_X12_compared r_X12_both r_X12_either n)
def f_X12_either_y (r_X12_operand : Wd → Option Wd) (r_X12_product : Wd → Option Wd) (r_X12_sum : Wd → Option Wd) (r_X12_compared : Wd → Option Wd) (r_X12_both : Wd → Option Wd) (r_X12_either : Wd → Option Wd) (w : Wd) : Option Wd :=
  bV (r_X12_both w) fun w1 =>
  f_X12_either_b4 r_X12_operand r_X12_product r_X12_sum r_X12_compared r_X12_both r_X12_either fu w1
def sc_X12_operand : Nat → (Wd → Option Wd) × (Wd → Option Wd) × (Wd → Option Wd) × (Wd → Option Wd) × (Wd → Option Wd) × (Wd → Option Wd)
  | 0 => (fun _ => none, fun _ => none, fun _ => none, fun _ => none, fun _ => none, fun _ => none)
  | n + 1 => (f_X12_operand_y ((sc_X12_operand n).1) ((sc_X12_operand n).2.1) ((sc_X12_operand n).2.2.1) ((sc_X12_operand n).2.2.2.1) ((sc_X12_operand n).2.2.2.2.1) ((sc_X12_operand n).2.2.2.2.2), f_X12_product_y ((sc_X12_operand n).1) ((sc_X12_operand n).2.1) ((sc_X12_operand n).2.2.1) ((sc_X12_operand n).2.2.2.1) ((sc_X12_operand n).2.2.2.2.1) ((sc_X12_operand n).2.2.2.2.2), f_X12_sum_y ((sc_X12_operand n).1) ((sc_X12_operand n).2.1) ((sc_X12_operand n).2.2.1) ((sc_X12_operand n).2.2.2.1) ((sc_X12_operand n).2.2.2.2.1) ((sc_X12_operand n).2.2.2.2.2), f_X12_compared_y ((sc_X12_operand n).1) ((sc_X12_operand n).2.1) ((sc_X12_operand n).2.2.1) ((sc_X12_operand n).2.2.2.1) ((sc_X12_operand n).2.2.2.2.1) ((sc_X12_operand n).2.2.2.2.2), f_X12_both_y ((sc_X12_operand n).1) ((sc_X12_operand n).2.1) ((sc_X12_operand n).2.2.1) ((sc_X12_operand n).2.2.2.1) ((sc_X12_operand n).2.2.2.2.1) ((sc_X12_operand n).2.2.2.2.2), f_X12_either_y ((sc_X12_operand n).1) ((sc_X12_operand n).2.1) ((sc_X12_operand n).2.2.1) ((sc_X12_operand n).2.2.2.1) ((sc_X12_operand n).2.2.2.2.1) ((sc_X12_operand n).2.2.2.2.2))
def f_X12_operand (n : Nat) : Wd → Option Wd := ((sc_X12_operand n).1)
def f_X12_product (n : Nat) : Wd → Option Wd := ((sc_X12_operand n).2.1)
def f_X12_sum (n : Nat) : Wd → Option Wd := ((sc_X12_operand n).2.2.1)
def f_X12_compared (n : Nat) : Wd → Option Wd := ((sc_X12_operand n).2.2.2.1)
def f_X12_both (n : Nat) : Wd → Option Wd := ((sc_X12_operand n).2.2.2.2.1)
def f_X12_either (n : Nat) : Wd → Option Wd := ((sc_X12_operand n).2.2.2.2.2)
def f_X12_line_b66 (x1 : Int32) (w : Wd) : Option Wd :=
  saI w 68 122 x1 (i2s (i2s (gi w 54 22))) fun w5 =>
  ldI w5 66 2 (1 : Int32) fun v6 =>
  saI w5 66 2 (1 : Int32) (v6 + (1 : Int32)) fun w7 =>
  some w7
def f_X12_line (w : Wd) : Option Wd :=
  ldI w 66 2 (1 : Int32) fun v1 =>
  lt ((61 : Int32) + v1) fun y2 =>
  saI w 67 122 y2 (i2s (i2s (gi w 54 22))) fun w3 =>
  bV (f_X12_either rf w3) fun w4 =>
  if (0 : Int32) ≤ (gi w4 54 20) then
    (f_X12_line_b66 y2 w4)
  else
    (bR (f_X12_looksOn w4) fun r8 =>
    if r8 = (63 : Int32) then
      (stI w4 54 19 ((gi w4 54 19) + (1 : Int32)) fun w9 =>
      saI w9 67 122 y2 (i2s (i2s (gi w9 54 22))) fun w10 =>
      bV (f_X12_either rf w10) fun w11 =>
      f_X12_line_b66 y2 w11)
    else
      (f_X12_line_b66 y2 w4))
def f_X12_readText_b177_y (k177 : Int32 → Int32 → Wd → Option (Int32 × Wd)) (x1 : Int32) (x2 : Int32) (w : Wd) : Option (Int32 × Wd) :=
  ldI w 66 2 x1 fun v10 =>
  if v10 ≤ x2 then
    (some ((-1 : Int32), w))
  else
    (ldI w 67 122 ((61 : Int32) + x2) fun v11 =>
    saI w 67 122 (((61 : Int32) * x1) + x2) (i2s v11) fun w12 =>
    ldI w12 68 122 ((61 : Int32) + x2) fun v13 =>
    saI w12 68 122 (((61 : Int32) * x1) + x2) (i2s v13) fun w14 =>
    k177 x1 (x2 + (1 : Int32)) w14)
def f_X12_readText_b177 : Nat → Int32 → Int32 → Wd → Option (Int32 × Wd)
  | 0 => fun _ _ _ => none
  | n + 1 => f_X12_readText_b177_y (f_X12_readText_b177 n)
def f_X12_readText_b105_y (k105 : Int32 → Int32 → Wd → Option (Int32 × Wd)) (x1 : Int32) (x2 : Int32) (w : Wd) : Option (Int32 × Wd) :=
  if (gi w 54 22) ≤ x2 then
    (ldI w 66 2 (1 : Int32) fun v8 =>
    saI w 66 2 x1 v8 fun w9 =>
    f_X12_readText_b177 fu x1 (0 : Int32) w9)
  else
    (ldI w 64 260 ((130 : Int32) + x2) fun v15 =>
    saI w 64 260 (((130 : Int32) * x1) + x2) (i2b v15) fun w16 =>
    ldI w16 65 260 ((130 : Int32) + x2) fun v17 =>
    saI w16 65 260 (((130 : Int32) * x1) + x2) v17 fun w18 =>
    k105 x1 (x2 + (1 : Int32)) w18)
def f_X12_readText_b105 : Nat → Int32 → Int32 → Wd → Option (Int32 × Wd)
  | 0 => fun _ _ _ => none
  | n + 1 => f_X12_readText_b105_y (f_X12_readText_b105 n)
def f_X12_readText_b86 (x1 : Int32) (w : Wd) : Option (Int32 × Wd) :=
  stI w 54 18 (0 : Int32) fun w7 =>
  if (gi w7 54 20) < (0 : Int32) then
    (f_X12_readText_b105 fu x1 (0 : Int32) w7)
  else
    (some ((gi w7 54 20), w7))
def f_X12_readText_b64 (x1 : Int32) (w : Wd) : Option (Int32 × Wd) :=
  if (0 : Int32) ≤ (gi w 54 20) then
    (f_X12_readText_b86 x1 w)
  else
    (if (gi w 54 18) ≤ (gi w 54 19) then
      (f_X12_readText_b86 x1 w)
    else
      (bV (f_X12_faulty w) fun w19 =>
      f_X12_readText_b86 x1 w19))
def f_X12_readText_b31_y (k31 : Int32 → Wd → Option (Int32 × Wd)) (x1 : Int32) (w : Wd) : Option (Int32 × Wd) :=
  if (0 : Int32) ≤ (gi w 54 20) then
    (f_X12_readText_b64 x1 w)
  else
    (bR (f_X12_looksOn w) fun r20 =>
    if r20 = (59 : Int32) then
      (stI w 54 19 ((gi w 54 19) + (1 : Int32)) fun w21 =>
      bV (f_X12_line w21) fun w22 =>
      k31 x1 w22)
    else
      (f_X12_readText_b64 x1 w))
def f_X12_readText_b31 : Nat → Int32 → Wd → Option (Int32 × Wd)
  | 0 => fun _ _ => none
  | n + 1 => f_X12_readText_b31_y (f_X12_readText_b31 n)
def f_X12_readText (a1 : Int32) (w : Wd) : Option (Int32 × Wd) :=
  stI w 54 19 (0 : Int32) fun w1 =>
  stI w1 54 20 (-1 : Int32) fun w2 =>
  stI w2 54 21 (0 : Int32) fun w3 =>
  stI w3 54 22 (0 : Int32) fun w4 =>
  saI w4 66 2 (1 : Int32) (0 : Int32) fun w5 =>
  bV (f_X12_line w5) fun w6 =>
  f_X12_readText_b31 fu a1 w6
def f_X12_twoOf_b218 (x1 : Int32) (x2 : Int32) : Option Int32 :=
  if x1 = (0 : Int32) then
    (if x2 = (0 : Int32) then
      (some (0 : Int32))
    else
      (some (1 : Int32)))
  else
    (some (1 : Int32))
def f_X12_twoOf (a0 : Int32) (a1 : Int32) (a2 : Int32) : Option Int32 :=
  if a0 = (37 : Int32) then
    (if a2 = (0 : Int32) then
      (some (0 : Int32))
    else
      (if a2 = (-1 : Int32) then
        (some (0 : Int32))
      else
        (rmI a1 a2 fun v1 =>
        some v1)))
  else
    (if a0 = (38 : Int32) then
      (if a1 = (0 : Int32) then
        (some (0 : Int32))
      else
        (if a2 = (0 : Int32) then
          (some (0 : Int32))
        else
          (some (1 : Int32))))
    else
      (if a0 = (42 : Int32) then
        (some (a1 * a2))
      else
        (if a0 = (43 : Int32) then
          (some (a1 + a2))
        else
          (if a0 = (45 : Int32) then
            (some (a1 - a2))
          else
            (if a0 = (47 : Int32) then
              (if a2 = (0 : Int32) then
                (some (0 : Int32))
              else
                (if a2 = (-1 : Int32) then
                  (some (-a1))
                else
                  (dvI a1 a2 fun v2 =>
                  some v2)))
            else
              (if a0 = (60 : Int32) then
                (if a2 ≤ a1 then
                  (some (0 : Int32))
                else
                  (some (1 : Int32)))
              else
                (if a0 = (61 : Int32) then
                  (if a1 = a2 then
                    (some (1 : Int32))
                  else
                    (some (0 : Int32)))
                else
                  (if a0 = (62 : Int32) then
                    (if a1 ≤ a2 then
                      (some (0 : Int32))
                    else
                      (some (1 : Int32)))
                  else
                    (f_X12_twoOf_b218 a1 a2)))))))))
def f_X12_worked_b182 (k12 : Int32 → Int32 → Int32 → Int32 → Wd → Option (Int32 × Wd)) (x1 : Int32) (x3 : Int32) (x4 : Int32) (x5 : Int32) (w : Wd) : Option (Int32 × Wd) :=
  k12 x1 x3 x4 (x5 + (1 : Int32)) w
def f_X12_worked_b79 (k12 : Int32 → Int32 → Int32 → Int32 → Wd → Option (Int32 × Wd)) (x1 : Int32) (x3 : Int32) (x4 : Int32) (x5 : Int32) (s0 : Int32) (s1 : Int32) (w : Wd) : Option (Int32 × Wd) :=
  saI w 70 130 s1 s0 fun w6 =>
  f_X12_worked_b182 k12 x1 x3 (x4 + (1 : Int32)) x5 w6
def f_X12_worked_b45 (k12 : Int32 → Int32 → Int32 → Int32 → Wd → Option (Int32 × Wd)) (x1 : Int32) (x3 : Int32) (x4 : Int32) (x5 : Int32) (x6 : Int32) (w : Wd) : Option (Int32 × Wd) :=
  if x6 = (1 : Int32) then
    (ldI w 65 260 x5 fun v7 =>
    f_X12_worked_b79 k12 x1 x3 x4 x5 v7 x4 w)
  else
    (ldI w 65 260 x5 fun v4 =>
    ldI w 69 6 v4 fun v5 =>
    f_X12_worked_b79 k12 x1 x3 x4 x5 v5 x4 w)
def f_X12_worked_b117 (k12 : Int32 → Int32 → Int32 → Int32 → Wd → Option (Int32 × Wd)) (x1 : Int32) (x3 : Int32) (x4 : Int32) (x5 : Int32) (s0 : Int32) (s1 : Int32) (w : Wd) : Option (Int32 × Wd) :=
  saI w 70 130 s1 s0 fun w15 =>
  f_X12_worked_b182 k12 x1 x3 x4 x5 w15
def f_X12_worked_b12_y (k12 : Int32 → Int32 → Int32 → Int32 → Wd → Option (Int32 × Wd)) (x1 : Int32) (x3 : Int32) (x4 : Int32) (x5 : Int32) (w : Wd) : Option (Int32 × Wd) :=
  if (((130 : Int32) * x1) + x3) ≤ x5 then
    (ldI w 70 130 (0 : Int32) fun v2 =>
    some (v2, w))
  else
    (ldI w 64 260 x5 fun v3 =>
    if v3 = (1 : Int32) then
      (f_X12_worked_b45 k12 x1 x3 x4 x5 v3 w)
    else
      (if v3 = (2 : Int32) then
        (f_X12_worked_b45 k12 x1 x3 x4 x5 v3 w)
      else
        (if v3 = (3 : Int32) then
          (ldI w 70 130 (x4 - (1 : Int32)) fun v14 =>
          if v14 = (0 : Int32) then
            (f_X12_worked_b117 k12 x1 x3 x4 x5 (1 : Int32) (x4 - (1 : Int32)) w)
          else
            (f_X12_worked_b117 k12 x1 x3 x4 x5 (0 : Int32) (x4 - (1 : Int32)) w))
        else
          (if v3 = (4 : Int32) then
            (ldI w 70 130 (x4 - (1 : Int32)) fun v12 =>
            saI w 70 130 (x4 - (1 : Int32)) (-v12) fun w13 =>
            f_X12_worked_b182 k12 x1 x3 x4 x5 w13)
          else
            (ldI w 70 130 ((x4 + (-1 : Int32)) - (1 : Int32)) fun v8 =>
            ldI w 70 130 (x4 + (-1 : Int32)) fun v9 =>
            bR (f_X12_twoOf v3 v8 v9) fun r10 =>
            saI w 70 130 ((x4 + (-1 : Int32)) - (1 : Int32)) r10 fun w11 =>
            f_X12_worked_b182 k12 x1 x3 (x4 + (-1 : Int32)) x5 w11)))))
def f_X12_worked_b12 : Nat → Int32 → Int32 → Int32 → Int32 → Wd → Option (Int32 × Wd)
  | 0 => fun _ _ _ _ _ => none
  | n + 1 => f_X12_worked_b12_y (f_X12_worked_b12 n)
def f_X12_worked (a1 : Int32) (a2 : Int32) (a3 : Int32) (w : Wd) : Option (Int32 × Wd) :=
  lt (((130 : Int32) * a1) + a2) fun y1 =>
  f_X12_worked_b12 fu a1 a3 (0 : Int32) y1 w
def f_X12_gives_b47 (x1 : Int32) (x3 : Int32) (w : Wd) : Option (Int32 × Wd) :=
  ldI w 67 122 x3 fun v4 =>
  ldI w 68 122 x3 fun v5 =>
  bW (f_X12_worked x1 v4 v5 w) fun r6 w7 =>
  some (r6, w7)
def f_X12_gives_b7_y (k7 : Int32 → Int32 → Int32 → Wd → Option (Int32 × Wd)) (x1 : Int32) (x2 : Int32) (x3 : Int32) (w : Wd) : Option (Int32 × Wd) :=
  ldI w 66 2 x1 fun v2 =>
  if (((61 : Int32) * x1) + v2) ≤ x3 then
    (some ((0 : Int32), w))
  else
    (ldI w 67 122 x3 fun v3 =>
    if v3 = x2 then
      (f_X12_gives_b47 x1 x3 w)
    else
      (ldI w 67 122 x3 fun v8 =>
      bW (f_X12_worked x1 x2 v8 w) fun r9 w10 =>
      if r9 = (0 : Int32) then
        (ldI w10 68 122 x3 fun v11 =>
        k7 x1 v11 (x3 + (1 : Int32)) w10)
      else
        (f_X12_gives_b47 x1 x3 w10)))
def f_X12_gives_b7 : Nat → Int32 → Int32 → Int32 → Wd → Option (Int32 × Wd)
  | 0 => fun _ _ _ _ => none
  | n + 1 => f_X12_gives_b7_y (f_X12_gives_b7 n)
def f_X12_gives (a1 : Int32) (w : Wd) : Option (Int32 × Wd) :=
  lt ((61 : Int32) * a1) fun y1 =>
  f_X12_gives_b7 fu a1 (0 : Int32) y1 w
def f_X12_law (w : Wd) : Option (Int32 × Wd) :=
  bW (f_X12_readText (0 : Int32) w) fun r1 w2 =>
  if r1 < (0 : Int32) then
    (stZ w2 54 30 (1 : Int32) fun w3 =>
    some ((1 : Int32), w3))
  else
    (some (((-100 : Int32) - r1), w2))
def f_X12_findsBy_b84 (x4 : Int32) (w : Wd) : Option (Int32 × Wd) :=
  if (0 : Int32) ≤ x4 then
    (if x4 ≤ (12 : Int32) then
      (some (x4, w))
    else
      (some ((12 : Int32), w)))
  else
    (some ((0 : Int32), w))
def f_X12_findsBy (a1 : Int32) (a2 : Int32) (a3 : Int32) (w : Wd) : Option (Int32 × Wd) :=
  ldI w 57 6 a1 fun v1 =>
  lt (((v1 - (gi w 54 6)) - a3) + (1 : Int32)) fun y2 =>
  if (gi w 54 30) = (0 : Int32) then
    (f_X12_findsBy_b84 y2 w)
  else
    (ldI w 57 6 a1 fun v3 =>
    saI w 69 6 (0 : Int32) v3 fun w4 =>
    saI w4 69 6 (1 : Int32) (gi w4 54 6) fun w5 =>
    saI w5 69 6 (2 : Int32) (gi w5 54 7) fun w6 =>
    saI w6 69 6 (3 : Int32) a3 fun w7 =>
    saI w7 69 6 (4 : Int32) a2 fun w8 =>
    saI w8 69 6 (5 : Int32) a1 fun w9 =>
    bW (f_X12_gives (0 : Int32) w9) fun r10 w11 =>
    f_X12_findsBy_b84 r10 w11)
def f_X12_finds (a1 : Int32) (a2 : Int32) (w : Wd) : Option (Int32 × Wd) :=
  bR (f_X12_isLooker a1 w) fun r1 =>
  if r1 = (0 : Int32) then
    (some ((-1 : Int32), w))
  else
    (bR (f_X12_in a2 (0 : Int32) (9 : Int32)) fun r2 =>
    if r2 = (0 : Int32) then
      (some ((-1 : Int32), w))
    else
      (bW (f_X12_findsBy a1 a2 (gi w 54 8) w) fun r3 w4 =>
      some (r3, w4)))
def f_X12_allWeights (a1 : Int32) (w : Wd) : Option Int32 :=
  ldI w 55 16 ((4 : Int32) * a1) fun v1 =>
  ldI w 55 16 (((4 : Int32) * a1) + (1 : Int32)) fun v2 =>
  ldI w 55 16 (((4 : Int32) * a1) + (2 : Int32)) fun v3 =>
  ldI w 55 16 (((4 : Int32) * a1) + (3 : Int32)) fun v4 =>
  some (((v1 + v2) + v3) + v4)
def f_X12_weightAt (a1 : Int32) (a2 : Int32) (w : Wd) : Option Int32 :=
  bR (f_X12_allWeights a1 w) fun r1 =>
  if r1 = (0 : Int32) then
    (if a2 = (0 : Int32) then
      (some (1 : Int32))
    else
      (some (0 : Int32)))
  else
    (ldI w 55 16 (((4 : Int32) * a1) + a2) fun v2 =>
    some v2)
def f_X12_measureOf (a1 : Int32) (w : Wd) : Option Int32 :=
  bR (f_X12_allWeights a1 w) fun r1 =>
  if r1 = (0 : Int32) then
    (some (1 : Int32))
  else
    (bR (f_X12_allWeights a1 w) fun r2 =>
    some r2)
def f_X12_beginParts_b2_y (k2 : Int32 → Int32 → Int32 → Wd → Option Wd) (x1 : Int32) (x2 : Int32) (x3 : Int32) (w : Wd) : Option Wd :=
  if (3 : Int32) < x3 then
    (some w)
  else
    (bR (f_X12_weightAt x1 x3 w) fun r1 =>
    saL w 71 32 (((4 : Int32) * x2) + x3) (Int32.toInt64 r1) fun w2 =>
    k2 x1 x2 (x3 + (1 : Int32)) w2)
def f_X12_beginParts_b2 : Nat → Int32 → Int32 → Int32 → Wd → Option Wd
  | 0 => fun _ _ _ _ => none
  | n + 1 => f_X12_beginParts_b2_y (f_X12_beginParts_b2 n)
def f_X12_beginParts (a1 : Int32) (a2 : Int32) (w : Wd) : Option Wd :=
  f_X12_beginParts_b2 fu a1 a2 (0 : Int32) w
def f_X12_power_b5_y (k5 : Int64 → Int32 → Int64 → Int32 → Option Int64) (x0 : Int64) (x2 : Int32) (x3 : Int64) (x5 : Int32) : Option Int64 :=
  if x2 ≤ x5 then
    (some x3)
  else
    (lt (x3 * x0) fun y1 =>
    k5 x0 x2 y1 (x5 + (1 : Int32)))
def f_X12_power_b5 : Nat → Int64 → Int32 → Int64 → Int32 → Option Int64
  | 0 => fun _ _ _ _ => none
  | n + 1 => f_X12_power_b5_y (f_X12_power_b5 n)
def f_X12_power (a0 : Int64) (a2 : Int32) : Option Int64 :=
  f_X12_power_b5 fu a0 a2 (1 : Int64) (0 : Int32)
def f_X12_choose_b24 (s0 : Int32) (s1 : Int32) : Option Int32 :=
  some (s1 - s0)
def f_X12_choose (a0 : Int32) (a1 : Int32) : Option Int32 :=
  if a1 = (0 : Int32) then
    (some (1 : Int32))
  else
    (if a1 = a0 then
      (some (1 : Int32))
    else
      (if a0 = (2 : Int32) then
        (f_X12_choose_b24 (1 : Int32) (3 : Int32))
      else
        (f_X12_choose_b24 (0 : Int32) (3 : Int32))))
def f_X12_lookTo_b32_y (k32 : Int32 → Int32 → Int32 → Int32 → Wd → Option Wd) (x1 : Int32) (x2 : Int32) (x3 : Int32) (x4 : Int32) (w : Wd) : Option Wd :=
  if (3 : Int32) < x4 then
    (some w)
  else
    (ldL w 71 32 (((4 : Int32) * x1) + x4) fun v1 =>
    bR (f_X12_choose x4 x3) fun r2 =>
    bR (f_X12_power (Int32.toInt64 x2) x3) fun r3 =>
    bR (f_X12_power (Int32.toInt64 ((12 : Int32) - x2)) (x4 - x3)) fun r4 =>
    bR (f_X12_power (12 : Int64) ((3 : Int32) - x4)) fun r5 =>
    saL w 71 32 (((((4 : Int32) * x1) + (4 : Int32)) + x4) - x3) ((((v1 * (Int32.toInt64 r2)) * r3) * r4) * r5) fun w6 =>
    k32 x1 x2 x3 (x4 + (1 : Int32)) w6)
def f_X12_lookTo_b32 : Nat → Int32 → Int32 → Int32 → Int32 → Wd → Option Wd
  | 0 => fun _ _ _ _ _ => none
  | n + 1 => f_X12_lookTo_b32_y (f_X12_lookTo_b32 n)
def f_X12_lookTo_b3_y (k3 : Int32 → Int32 → Int32 → Int32 → Wd → Option Wd) (x1 : Int32) (x2 : Int32) (x3 : Int32) (x4 : Int32) (w : Wd) : Option Wd :=
  if (3 : Int32) < x4 then
    (f_X12_lookTo_b32 fu x1 x2 x3 x3 w)
  else
    (saL w 71 32 ((((4 : Int32) * x1) + (4 : Int32)) + x4) (0 : Int64) fun w7 =>
    k3 x1 x2 x3 (x4 + (1 : Int32)) w7)
def f_X12_lookTo_b3 : Nat → Int32 → Int32 → Int32 → Int32 → Wd → Option Wd
  | 0 => fun _ _ _ _ _ => none
  | n + 1 => f_X12_lookTo_b3_y (f_X12_lookTo_b3 n)
def f_X12_lookTo (a1 : Int32) (a2 : Int32) (a3 : Int32) (w : Wd) : Option Wd :=
  f_X12_lookTo_b3 fu a1 a2 a3 (0 : Int32) w
def f_X12_allParts (a1 : Int32) (w : Wd) : Option Int64 :=
  ldL w 71 32 ((4 : Int32) * a1) fun v1 =>
  ldL w 71 32 (((4 : Int32) * a1) + (1 : Int32)) fun v2 =>
  ldL w 71 32 (((4 : Int32) * a1) + (2 : Int32)) fun v3 =>
  ldL w 71 32 (((4 : Int32) * a1) + (3 : Int32)) fun v4 =>
  some (((v1 + v2) + v3) + v4)
def f_X12_stonesIn (a1 : Int32) (w : Wd) : Option Int64 :=
  ldL w 71 32 (((4 : Int32) * a1) + (1 : Int32)) fun v1 =>
  ldL w 71 32 (((4 : Int32) * a1) + (2 : Int32)) fun v2 =>
  ldL w 71 32 (((4 : Int32) * a1) + (3 : Int32)) fun v3 =>
  some ((v1 + ((2 : Int64) * v2)) + ((3 : Int64) * v3))
def f_X12_rowFault (a1 : Int32) (w : Wd) : Option Int32 :=
  ldI w 82 6 a1 fun v1 =>
  if v1 = (-1 : Int32) then
    (some (-11 : Int32))
  else
    (ldI w 82 6 a1 fun v2 =>
    if v2 = (-2 : Int32) then
      (some (0 : Int32))
    else
      (some (-12 : Int32)))
def f_X12_byteAt (a1 : Int32) (a2 : Int32) (w : Wd) : Option Int32 :=
  ldL w 84 360 (((60 : Int32) * a1) + a2) fun v1 =>
  some (Int64.toInt32 v1)
def f_X12_goLooks_b8_y (k8 : Int32 → Int32 → Wd → Option (Int32 × Wd)) (x1 : Int32) (x3 : Int32) (w : Wd) : Option (Int32 × Wd) :=
  if (4 : Int32) ≤ x3 then
    (some (x3, w))
  else
    (ldI w 83 6 x1 fun v2 =>
    if v2 ≤ (((2 : Int32) * x3) + (1 : Int32)) then
      (some (x3, w))
    else
      (bR (f_X12_byteAt x1 ((2 : Int32) * x3) w) fun r3 =>
      bR (f_X12_isLooker r3 w) fun r4 =>
      if r4 = (0 : Int32) then
        (some (x3, w))
      else
        (bR (f_X12_byteAt x1 (((2 : Int32) * x3) + (1 : Int32)) w) fun r5 =>
        bR (f_X12_in r5 (0 : Int32) (3 : Int32)) fun r6 =>
        if r6 = (0 : Int32) then
          (some (x3, w))
        else
          (bR (f_X12_byteAt x1 ((2 : Int32) * x3) w) fun r7 =>
          bW (f_X12_findsBy r7 x3 (gi w 54 8) w) fun r8 w9 =>
          bR (f_X12_byteAt x1 (((2 : Int32) * x3) + (1 : Int32)) w9) fun r10 =>
          bV (f_X12_lookTo x3 r8 r10 w9) fun w11 =>
          k8 x1 (x3 + (1 : Int32)) w11))))
def f_X12_goLooks_b8 : Nat → Int32 → Int32 → Wd → Option (Int32 × Wd)
  | 0 => fun _ _ _ => none
  | n + 1 => f_X12_goLooks_b8_y (f_X12_goLooks_b8 n)
def f_X12_goLooks (a1 : Int32) (a2 : Int32) (w : Wd) : Option (Int32 × Wd) :=
  bV (f_X12_beginParts a2 (0 : Int32) w) fun w1 =>
  f_X12_goLooks_b8 fu a1 (0 : Int32) w1
def f_X12_asPart_b17_y (k17 : Int64 → Int64 → Int32 → Int64 → Int64 → Option Int64) (x0 : Int64) (x2 : Int64) (x4 : Int32) (x5 : Int64) (x7 : Int64) : Option Int64 :=
  if x7 = (0 : Int64) then
    (if x4 = (0 : Int32) then
      (dvL x0 x5 fun v2 =>
      some v2)
    else
      (dvL x2 x5 fun v1 =>
      some v1))
  else
    (rmL x5 x7 fun v3 =>
    k17 x0 x2 x4 x7 v3)
def f_X12_asPart_b17 : Nat → Int64 → Int64 → Int32 → Int64 → Int64 → Option Int64
  | 0 => fun _ _ _ _ _ => none
  | n + 1 => f_X12_asPart_b17_y (f_X12_asPart_b17 n)
def f_X12_asPart_b12 (x0 : Int64) (x2 : Int64) (x4 : Int32) (s0 : Int64) : Option Int64 :=
  f_X12_asPart_b17 fu x0 x2 x4 s0 x2
def f_X12_asPart (a0 : Int64) (a2 : Int64) (a4 : Int32) : Option Int64 :=
  if (0 : Int64) ≤ a0 then
    (f_X12_asPart_b12 a0 a2 a4 a0)
  else
    (f_X12_asPart_b12 a0 a2 a4 (-a0))
def f_X12_isPart (a0 : Int32) : Option Int32 :=
  bR (f_X12_in a0 (0 : Int32) (1 : Int32)) fun r1 =>
  zb r1 (some r1)
def f_X12_left (a1 : Int32) (a2 : Int32) (a3 : Int32) (a4 : Int32) (w : Wd) : Option (Int64 × Wd) :=
  bR (f_X12_isShelf a1) fun r1 =>
  if r1 = (0 : Int32) then
    (some ((-9223372036854775808 : Int64), w))
  else
    (bR (f_X12_isBag a2) fun r2 =>
    if r2 = (0 : Int32) then
      (some ((-9223372036854775808 : Int64), w))
    else
      (bR (f_X12_in a3 (0 : Int32) (3 : Int32)) fun r3 =>
      if r3 = (0 : Int32) then
        (some ((-9223372036854775808 : Int64), w))
      else
        (bR (f_X12_isPart a4) fun r4 =>
        if r4 = (0 : Int32) then
          (some ((-9223372036854775808 : Int64), w))
        else
          (bR (f_X12_rowFault a1 w) fun r5 =>
          if (0 : Int32) ≤ r5 then
            (bW (f_X12_goLooks a1 a2 w) fun r6 w7 =>
            bR (f_X12_allParts r6 w7) fun r8 =>
            if r8 = (0 : Int64) then
              (some ((-2 : Int64), w7))
            else
              (ldL w7 71 32 (((4 : Int32) * r6) + a3) fun v9 =>
              bR (f_X12_allParts r6 w7) fun r10 =>
              bR (f_X12_asPart v9 r10 a4) fun r11 =>
              some (r11, w7)))
          else
            (some ((-9223372036854775808 : Int64), w))))))
def f_X12_mean_b120 (x4 : Int32) (x5 : Int32) (s0 : Int64) (w : Wd) : Option (Int64 × Wd) :=
  bR (f_X12_allParts x5 w) fun r10 =>
  bR (f_X12_asPart s0 r10 x4) fun r11 =>
  some (r11, w)
def f_X12_mean (a1 : Int32) (a2 : Int32) (a3 : Int32) (a4 : Int32) (w : Wd) : Option (Int64 × Wd) :=
  bR (f_X12_isShelf a1) fun r1 =>
  if r1 = (0 : Int32) then
    (some ((-9223372036854775808 : Int64), w))
  else
    (bR (f_X12_isBag a2) fun r2 =>
    if r2 = (0 : Int32) then
      (some ((-9223372036854775808 : Int64), w))
    else
      (bR (f_X12_in a3 (0 : Int32) (2 : Int32)) fun r3 =>
      if r3 = (0 : Int32) then
        (some ((-9223372036854775808 : Int64), w))
      else
        (bR (f_X12_isPart a4) fun r4 =>
        if r4 = (0 : Int32) then
          (some ((-9223372036854775808 : Int64), w))
        else
          (bR (f_X12_rowFault a1 w) fun r5 =>
          if (0 : Int32) ≤ r5 then
            (bW (f_X12_goLooks a1 a2 w) fun r6 w7 =>
            if a3 = (2 : Int32) then
              (bR (f_X12_allParts r6 w7) fun r13 =>
              bR (f_X12_measureOf a2 w7) fun r14 =>
              bR (f_X12_power (1728 : Int64) r6) fun r15 =>
              bR (f_X12_asPart r13 ((Int32.toInt64 r14) * r15) a4) fun r16 =>
              some (r16, w7))
            else
              (bR (f_X12_allParts r6 w7) fun r8 =>
              if r8 = (0 : Int64) then
                (some ((-2 : Int64), w7))
              else
                (if a3 = (0 : Int32) then
                  (bR (f_X12_stonesIn r6 w7) fun r12 =>
                  f_X12_mean_b120 a4 r6 r12 w7)
                else
                  (ldL w7 71 32 ((4 : Int32) * r6) fun v9 =>
                  f_X12_mean_b120 a4 r6 v9 w7))))
          else
            (some ((-9223372036854775808 : Int64), w))))))
def f_X12_asBy_b6_y (k6 : Int64 → Int64 → Option Int64) (x4 : Int64) (x6 : Int64) : Option Int64 :=
  if x6 = (0 : Int64) then
    (some x4)
  else
    (rmL x4 x6 fun v1 =>
    k6 x6 v1)
def f_X12_asBy_b6 : Nat → Int64 → Int64 → Option Int64
  | 0 => fun _ _ => none
  | n + 1 => f_X12_asBy_b6_y (f_X12_asBy_b6 n)
def f_X12_asBy (a0 : Int64) (a2 : Int64) : Option Int64 :=
  f_X12_asBy_b6 fu a0 a2
def f_X12_findWorth_b40 (x1 : Int32) (x3 : Int32) (s0 : Int32) (w : Wd) : Option Wd :=
  bR (f_X12_stonesIn x1 w) fun r4 =>
  bR (f_X12_allParts x1 w) fun r5 =>
  bR (f_X12_asBy r4 r5) fun r6 =>
  dvL r4 r6 fun v7 =>
  dvL r5 r6 fun v8 =>
  stL w 54 32 ((((Int32.toInt64 (gi w 54 9)) * v7) * (Int32.toInt64 x3)) - (((Int32.toInt64 s0) * v8) * (12 : Int64))) fun w9 =>
  dvL r5 r6 fun v10 =>
  stL w9 54 33 (v10 * (12 : Int64)) fun w11 =>
  some w11
def f_X12_findWorth_b23 (x1 : Int32) (x2 : Int32) (s0 : Int32) (w : Wd) : Option Wd :=
  if x2 = (6 : Int32) then
    (f_X12_findWorth_b40 x1 s0 (1 : Int32) w)
  else
    (ldI w 58 6 x2 fun v3 =>
    f_X12_findWorth_b40 x1 s0 v3 w)
def f_X12_findWorth (a1 : Int32) (a2 : Int32) (w : Wd) : Option Wd :=
  if a2 = (6 : Int32) then
    (f_X12_findWorth_b23 a1 a2 (gi w 54 10) w)
  else
    (bW (f_X12_findsBy a2 a1 (gi w 54 8) w) fun r1 w2 =>
    f_X12_findWorth_b23 a1 a2 r1 w2)
def f_X12_worth_b41 (x1 : Int32) (x2 : Int32) (x3 : Int32) (w : Wd) : Option (Int64 × Wd) :=
  bR (f_X12_isPart x3) fun r3 =>
  if r3 = (0 : Int32) then
    (some ((-9223372036854775808 : Int64), w))
  else
    (bR (f_X12_rowFault x1 w) fun r4 =>
    if (0 : Int32) ≤ r4 then
      (bW (f_X12_goLooks x1 (x2 / (10 : Int32)) w) fun r5 w6 =>
      bR (f_X12_allParts r5 w6) fun r7 =>
      if r7 = (0 : Int64) then
        (some ((-2 : Int64), w6))
      else
        (bV (f_X12_findWorth r5 (ire x2 (10 : Int32)) w6) fun w8 =>
        bR (f_X12_asPart (gl w8 54 32) (gl w8 54 33) x3) fun r9 =>
        some (r9, w8)))
    else
      (some ((-9223372036854775808 : Int64), w)))
def f_X12_worth (a1 : Int32) (a2 : Int32) (a3 : Int32) (w : Wd) : Option (Int64 × Wd) :=
  bR (f_X12_isShelf a1) fun r1 =>
  if r1 = (0 : Int32) then
    (some ((-9223372036854775808 : Int64), w))
  else
    (if a2 < (0 : Int32) then
      (some ((-9223372036854775808 : Int64), w))
    else
      (bR (f_X12_isBag (a2 / (10 : Int32))) fun r2 =>
      if r2 = (0 : Int32) then
        (some ((-9223372036854775808 : Int64), w))
      else
        (if (ire a2 (10 : Int32)) = (6 : Int32) then
          (f_X12_worth_b41 a1 a2 a3 w)
        else
          (bR (f_X12_isLooker (ire a2 (10 : Int32)) w) fun r10 =>
          if r10 = (0 : Int32) then
            (some ((-9223372036854775808 : Int64), w))
          else
            (f_X12_worth_b41 a1 a2 a3 w)))))
def f_X12_next_b116 (k60 : Int32 → Int32 → Int64 → Int32 → Wd → Option (Int32 × Wd)) (x3 : Int32) (x4 : Int32) (x5 : Int64) (x7 : Int32) (w : Wd) : Option (Int32 × Wd) :=
  k60 x3 x4 x5 (x7 + (1 : Int32)) w
def f_X12_next_b86 (k60 : Int32 → Int32 → Int64 → Int32 → Wd → Option (Int32 × Wd)) (x3 : Int32) (x4 : Int32) (x5 : Int64) (x7 : Int32) (w : Wd) : Option (Int32 × Wd) :=
  bV (f_X12_findWorth x3 x7 w) fun w7 =>
  if x5 < (gl w7 54 32) then
    (lt (gl w7 54 32) fun y8 =>
    f_X12_next_b116 k60 x3 x7 y8 x7 w7)
  else
    (f_X12_next_b116 k60 x3 x4 x5 x7 w7)
def f_X12_next_b60_y (k60 : Int32 → Int32 → Int64 → Int32 → Wd → Option (Int32 × Wd)) (x3 : Int32) (x4 : Int32) (x5 : Int64) (x7 : Int32) (w : Wd) : Option (Int32 × Wd) :=
  if (6 : Int32) < x7 then
    (some (x4, w))
  else
    (if x7 = (6 : Int32) then
      (f_X12_next_b86 k60 x3 x4 x5 x7 w)
    else
      (bR (f_X12_isLooker x7 w) fun r9 =>
      if r9 = (0 : Int32) then
        (f_X12_next_b116 k60 x3 x4 x5 x7 w)
      else
        (f_X12_next_b86 k60 x3 x4 x5 x7 w)))
def f_X12_next_b60 : Nat → Int32 → Int32 → Int64 → Int32 → Wd → Option (Int32 × Wd)
  | 0 => fun _ _ _ _ _ => none
  | n + 1 => f_X12_next_b60_y (f_X12_next_b60 n)
def f_X12_next (a1 : Int32) (a2 : Int32) (w : Wd) : Option (Int32 × Wd) :=
  bR (f_X12_isShelf a1) fun r1 =>
  if r1 = (0 : Int32) then
    (some ((-1 : Int32), w))
  else
    (bR (f_X12_isBag a2) fun r2 =>
    if r2 = (0 : Int32) then
      (some ((-1 : Int32), w))
    else
      (bR (f_X12_rowFault a1 w) fun r3 =>
      if (0 : Int32) ≤ r3 then
        (bW (f_X12_goLooks a1 a2 w) fun r4 w5 =>
        bR (f_X12_allParts r4 w5) fun r6 =>
        if r6 = (0 : Int64) then
          (some ((-2 : Int32), w5))
        else
          (f_X12_next_b60 fu r4 (-2 : Int32) (0 : Int64) (0 : Int32) w5))
      else
        (bR (f_X12_rowFault a1 w) fun r10 =>
        some (r10, w))))
def f_X12_planFrom_b147 (r_X12_planFrom : Int32 → Int32 → Wd → Option (Int64 × Wd)) (x3 : Int64) (x5 : Int32) (w : Wd) : Option (Int64 × Wd) :=
  stI w 54 34 x5 fun w4 =>
  some (x3, w4)
def f_X12_planFrom_b141 (r_X12_planFrom : Int32 → Int32 → Wd → Option (Int64 × Wd)) (k27 : Int32 → Int32 → Int64 → Int32 → Int32 → Wd → Option (Int64 × Wd)) (x1 : Int32) (x2 : Int32) (x3 : Int64) (x5 : Int32) (x6 : Int32) (w : Wd) : Option (Int64 × Wd) :=
  k27 x1 x2 x3 x5 (x6 + (1 : Int32)) w
def f_X12_planFrom_b118 (r_X12_planFrom : Int32 → Int32 → Wd → Option (Int64 × Wd)) (k27 : Int32 → Int32 → Int64 → Int32 → Int32 → Wd → Option (Int64 × Wd)) (k67 : Int32 → Int32 → Int64 → Int32 → Int32 → Int64 → Int32 → Wd → Option (Int64 × Wd)) (x1 : Int32) (x2 : Int32) (x3 : Int64) (x5 : Int32) (x6 : Int32) (x7 : Int64) (x9 : Int32) (w : Wd) : Option (Int64 × Wd) :=
  k67 x1 x2 x3 x5 x6 x7 (x9 + (1 : Int32)) w
def f_X12_planFrom_b67_y (r_X12_planFrom : Int32 → Int32 → Wd → Option (Int64 × Wd)) (k27 : Int32 → Int32 → Int64 → Int32 → Int32 → Wd → Option (Int64 × Wd)) (k67 : Int32 → Int32 → Int64 → Int32 → Int32 → Int64 → Int32 → Wd → Option (Int64 × Wd)) (x1 : Int32) (x2 : Int32) (x3 : Int64) (x5 : Int32) (x6 : Int32) (x7 : Int64) (x9 : Int32) (w : Wd) : Option (Int64 × Wd) :=
  if (3 : Int32) < x9 then
    (if x7 < x3 then
      (f_X12_planFrom_b141 r_X12_planFrom k27 x1 x2 x7 x6 x6 w)
    else
      (f_X12_planFrom_b141 r_X12_planFrom k27 x1 x2 x3 x5 x6 w))
  else
    (bW (f_X12_findsBy x6 x1 (gi w 54 8) w) fun r9 w10 =>
    bV (f_X12_lookTo x1 r9 x9 w10) fun w11 =>
    bR (f_X12_allParts (x1 + (1 : Int32)) w11) fun r12 =>
    if r12 ≤ (0 : Int64) then
      (f_X12_planFrom_b118 r_X12_planFrom k27 k67 x1 x2 x3 x5 x6 x7 x9 w11)
    else
      (bW (r_X12_planFrom (x1 + (1 : Int32)) (x2 - (1 : Int32)) w11) fun r13 w14 =>
      lt (x7 + r13) fun y15 =>
      f_X12_planFrom_b118 r_X12_planFrom k27 k67 x1 x2 x3 x5 x6 y15 x9 w14))
def f_X12_planFrom_b67 (r_X12_planFrom : Int32 → Int32 → Wd → Option (Int64 × Wd)) (k27 : Int32 → Int32 → Int64 → Int32 → Int32 → Wd → Option (Int64 × Wd)) : Nat → Int32 → Int32 → Int64 → Int32 → Int32 → Int64 → Int32 → Wd → Option (Int64 × Wd)
  | 0 => fun _ _ _ _ _ _ _ _ => none
  | n + 1 => f_X12_planFrom_b67_y r_X12_planFrom k27 (f_X12_planFrom_b67 r_X12_planFrom k27 n)
def f_X12_planFrom_b27_y (r_X12_planFrom : Int32 → Int32 → Wd → Option (Int64 × Wd)) (k27 : Int32 → Int32 → Int64 → Int32 → Int32 → Wd → Option (Int64 × Wd)) (x1 : Int32) (x2 : Int32) (x3 : Int64) (x5 : Int32) (x6 : Int32) (w : Wd) : Option (Int64 × Wd) :=
  if (gi w 54 3) ≤ x6 then
    (f_X12_planFrom_b147 r_X12_planFrom x3 x5 w)
  else
    (if x2 ≤ (0 : Int32) then
      (f_X12_planFrom_b147 r_X12_planFrom x3 x5 w)
    else
      (ldI w 58 6 x6 fun v5 =>
      bR (f_X12_allParts x1 w) fun r6 =>
      bR (f_X12_power (1728 : Int64) x2) fun r7 =>
      lt (((Int32.toInt64 v5) * r6) * r7) fun y8 =>
      f_X12_planFrom_b67 r_X12_planFrom k27 fu x1 x2 x3 x5 x6 y8 (0 : Int32) w))
def f_X12_planFrom_b27 (r_X12_planFrom : Int32 → Int32 → Wd → Option (Int64 × Wd)) : Nat → Int32 → Int32 → Int64 → Int32 → Int32 → Wd → Option (Int64 × Wd)
  | 0 => fun _ _ _ _ _ _ => none
  | n + 1 => f_X12_planFrom_b27_y r_X12_planFrom (f_X12_planFrom_b27 r_X12_planFrom n)
def f_X12_planFrom_y (r_X12_planFrom : Int32 → Int32 → Wd → Option (Int64 × Wd)) (a1 : Int32) (a2 : Int32) (w : Wd) : Option (Int64 × Wd) :=
  bR (f_X12_stonesIn a1 w) fun r1 =>
  bR (f_X12_power (1728 : Int64) a2) fun r2 =>
  lt (((Int32.toInt64 (gi w 54 9)) * r1) * r2) fun y3 =>
  f_X12_planFrom_b27 r_X12_planFrom fu a1 a2 y3 (-2 : Int32) (0 : Int32) w
def f_X12_planFrom : Nat → Int32 → Int32 → Wd → Option (Int64 × Wd)
  | 0 => fun _ _ _ => none
  | n + 1 => f_X12_planFrom_y (f_X12_planFrom n)
def f_X12_planOf (a1 : Int32) (a2 : Int32) (w : Wd) : Option (Int64 × Wd) :=
  bV (f_X12_beginParts a1 (0 : Int32) w) fun w1 =>
  bW (f_X12_planFrom rf (0 : Int32) a2 w1) fun r2 w3 =>
  some (r2, w3)
def f_X12_plan (a1 : Int32) (a2 : Int32) (a3 : Int32) (w : Wd) : Option (Int64 × Wd) :=
  bR (f_X12_isBag a1) fun r1 =>
  if r1 = (0 : Int32) then
    (some ((-9223372036854775808 : Int64), w))
  else
    (bR (f_X12_in a2 (0 : Int32) (3 : Int32)) fun r2 =>
    if r2 = (0 : Int32) then
      (some ((-9223372036854775808 : Int64), w))
    else
      (bR (f_X12_in a3 (0 : Int32) (2 : Int32)) fun r3 =>
      if r3 = (0 : Int32) then
        (some ((-9223372036854775808 : Int64), w))
      else
        (bW (f_X12_planOf a1 a2 w) fun r4 w5 =>
        if a3 = (2 : Int32) then
          (some ((Int32.toInt64 (gi w5 54 34)), w5))
        else
          (bR (f_X12_measureOf a1 w5) fun r6 =>
          bR (f_X12_power (1728 : Int64) a2) fun r7 =>
          bR (f_X12_asPart r4 ((Int32.toInt64 r6) * r7) a3) fun r8 =>
          some (r8, w5)))))
def f_X12_buy_b118 (k23 : Int32 → Int32 → Int64 → Int64 → Int32 → Wd → Option (Int64 × Wd)) (x1 : Int32) (x2 : Int32) (x3 : Int64) (x5 : Int64) (x7 : Int32) (w : Wd) : Option (Int64 × Wd) :=
  k23 x1 x2 x3 x5 (x7 + (1 : Int32)) w
def f_X12_buy_b102 (k23 : Int32 → Int32 → Int64 → Int64 → Int32 → Wd → Option (Int64 × Wd)) (x1 : Int32) (x7 : Int32) (x8 : Int64) (x10 : Int64) (x12 : Int64) (w : Wd) : Option (Int64 × Wd) :=
  dvL x10 x12 fun v11 =>
  dvL x8 x12 fun v12 =>
  f_X12_buy_b118 k23 x1 x7 v11 v12 x7 w
def f_X12_buy_b23_y (k23 : Int32 → Int32 → Int64 → Int64 → Int32 → Wd → Option (Int64 × Wd)) (x1 : Int32) (x2 : Int32) (x3 : Int64) (x5 : Int64) (x7 : Int32) (w : Wd) : Option (Int64 × Wd) :=
  if (4 : Int32) ≤ x7 then
    (if x1 = (2 : Int32) then
      (some ((Int32.toInt64 x2), w))
    else
      (bR (f_X12_asPart x3 x5 x1) fun r2 =>
      some (r2, w)))
  else
    (bR (f_X12_measureOf x7 w) fun r3 =>
    bR (f_X12_power (1728 : Int64) (2 : Int32)) fun r4 =>
    lt ((Int32.toInt64 r3) * r4) fun y5 =>
    bW (f_X12_planOf x7 (2 : Int32) w) fun r6 w7 =>
    ldI w7 56 4 x7 fun v8 =>
    lt (r6 + ((Int32.toInt64 v8) * y5)) fun y9 =>
    bR (f_X12_asBy y9 y5) fun r10 =>
    if x2 < (0 : Int32) then
      (f_X12_buy_b102 k23 x1 x7 y5 y9 r10 w7)
    else
      (dvL y9 r10 fun v13 =>
      dvL y5 r10 fun v14 =>
      if (v13 * x5) < (x3 * v14) then
        (f_X12_buy_b102 k23 x1 x7 y5 y9 r10 w7)
      else
        (f_X12_buy_b118 k23 x1 x2 x3 x5 x7 w7)))
def f_X12_buy_b23 : Nat → Int32 → Int32 → Int64 → Int64 → Int32 → Wd → Option (Int64 × Wd)
  | 0 => fun _ _ _ _ _ _ => none
  | n + 1 => f_X12_buy_b23_y (f_X12_buy_b23 n)
def f_X12_buy (a1 : Int32) (w : Wd) : Option (Int64 × Wd) :=
  bR (f_X12_in a1 (0 : Int32) (2 : Int32)) fun r1 =>
  if r1 = (0 : Int32) then
    (some ((-9223372036854775808 : Int64), w))
  else
    (f_X12_buy_b23 fu a1 (-1 : Int32) (0 : Int64) (1 : Int64) (0 : Int32) w)
def f_X12_areLists (a0 : Int32) : Option Int32 :=
  if a0 < (0 : Int32) then
    (some (0 : Int32))
  else
    (if (20 : Int32) < (a0 / (10000 : Int32)) then
      (some (0 : Int32))
    else
      (if (20 : Int32) < (ire (a0 / (100 : Int32)) (100 : Int32)) then
        (some (0 : Int32))
      else
        (if (a0 / (10000 : Int32)) < (ire a0 (100 : Int32)) then
          (some (0 : Int32))
        else
          (if (ire (a0 / (100 : Int32)) (100 : Int32)) < (ire a0 (100 : Int32)) then
            (some (0 : Int32))
          else
            (some (1 : Int32))))))
def f_X12_lists_b89 (x3 : Int32) (x6 : Int32) (s0 : Int64) : Option Int64 :=
  bR (f_X12_asPart s0 (Int32.toInt64 x6) x3) fun r7 =>
  some r7
def f_X12_lists (a1 : Int32) (a2 : Int32) (a3 : Int32) : Option Int64 :=
  bR (f_X12_areLists a1) fun r1 =>
  if r1 = (0 : Int32) then
    (some (-9223372036854775808 : Int64))
  else
    (bR (f_X12_in a2 (0 : Int32) (1 : Int32)) fun r2 =>
    if r2 = (0 : Int32) then
      (some (-9223372036854775808 : Int64))
    else
      (bR (f_X12_isPart a3) fun r3 =>
      if r3 = (0 : Int32) then
        (some (-9223372036854775808 : Int64))
      else
        (lt (a1 / (10000 : Int32)) fun y4 =>
        lt (ire (a1 / (100 : Int32)) (100 : Int32)) fun y5 =>
        lt (ire a1 (100 : Int32)) fun y6 =>
        if y6 = (0 : Int32) then
          (some (-2 : Int64))
        else
          (if a2 = (0 : Int32) then
            (f_X12_lists_b89 a3 y6 (Int32.toInt64 (y4 * y5)))
          else
            (f_X12_lists_b89 a3 y6 (Int32.toInt64 ((y4 * y5) - (((y4 + y5) - y6) * y6))))))))
def f_X12_likeliest_b37_y (k37 : Int32 → Int32 → Int32 → Int32 → Option Int32) (x2 : Int32) (x3 : Int32) (x4 : Int32) (x5 : Int32) : Option Int32 :=
  if (60 : Int32) ≤ x5 then
    (some x5)
  else
    (if (x2 * x3) ≤ (x4 * (x5 + (1 : Int32))) then
      (some x5)
    else
      (k37 x2 x3 x4 (x5 + (1 : Int32))))
def f_X12_likeliest_b37 : Nat → Int32 → Int32 → Int32 → Int32 → Option Int32
  | 0 => fun _ _ _ _ => none
  | n + 1 => f_X12_likeliest_b37_y (f_X12_likeliest_b37 n)
def f_X12_likeliest (a1 : Int32) : Option Int32 :=
  bR (f_X12_areLists a1) fun r1 =>
  if r1 = (0 : Int32) then
    (some (-1 : Int32))
  else
    (lt (a1 / (10000 : Int32)) fun y2 =>
    lt (ire (a1 / (100 : Int32)) (100 : Int32)) fun y3 =>
    lt (ire a1 (100 : Int32)) fun y4 =>
    lt ((y2 + y3) - y4) fun y5 =>
    f_X12_likeliest_b37 fu y2 y3 y4 y5)
def f_X12_layProduct_b57_y (k28 : Int32 → Int32 → Int32 → Int32 → Int32 → Wd → Option Wd) (k57 : Int32 → Int32 → Int32 → Int32 → Int32 → Int32 → Int64 → Int32 → Wd → Option Wd) (x1 : Int32) (x2 : Int32) (x3 : Int32) (x4 : Int32) (x5 : Int32) (x6 : Int32) (x7 : Int64) (x9 : Int32) (w : Wd) : Option Wd :=
  if (3 : Int32) ≤ x9 then
    (k28 x1 x2 x3 x4 (x5 + (1 : Int32)) w)
  else
    (ldL w 72 6 (x1 + x9) fun v4 =>
    lt ((v4 * (Int32.toInt64 x6)) + x7) fun y5 =>
    saL w 72 6 (x1 + x9) (lre y5 (1000000000 : Int64)) fun w6 =>
    lt (y5 / (1000000000 : Int64)) fun y7 =>
    k57 x1 x2 x3 x4 x5 x6 y7 (x9 + (1 : Int32)) w6)
def f_X12_layProduct_b57 (k28 : Int32 → Int32 → Int32 → Int32 → Int32 → Wd → Option Wd) : Nat → Int32 → Int32 → Int32 → Int32 → Int32 → Int32 → Int64 → Int32 → Wd → Option Wd
  | 0 => fun _ _ _ _ _ _ _ _ _ => none
  | n + 1 => f_X12_layProduct_b57_y k28 (f_X12_layProduct_b57 k28 n)
def f_X12_layProduct_b49 (k28 : Int32 → Int32 → Int32 → Int32 → Int32 → Wd → Option Wd) (x1 : Int32) (x2 : Int32) (x3 : Int32) (x4 : Int32) (x5 : Int32) (s0 : Int32) (w : Wd) : Option Wd :=
  f_X12_layProduct_b57 k28 fu x1 x2 x3 x4 x5 s0 (0 : Int64) (0 : Int32) w
def f_X12_layProduct_b28_y (k28 : Int32 → Int32 → Int32 → Int32 → Int32 → Wd → Option Wd) (x1 : Int32) (x2 : Int32) (x3 : Int32) (x4 : Int32) (x5 : Int32) (w : Wd) : Option Wd :=
  if x4 ≤ x5 then
    (some w)
  else
    (if x3 ≤ x5 then
      (f_X12_layProduct_b49 k28 x1 x2 x3 x4 x5 ((12 : Int32) - x2) w)
    else
      (f_X12_layProduct_b49 k28 x1 x2 x3 x4 x5 x2 w))
def f_X12_layProduct_b28 : Nat → Int32 → Int32 → Int32 → Int32 → Int32 → Wd → Option Wd
  | 0 => fun _ _ _ _ _ _ => none
  | n + 1 => f_X12_layProduct_b28_y (f_X12_layProduct_b28 n)
def f_X12_layProduct (a1 : Int32) (a2 : Int32) (a3 : Int32) (a4 : Int32) (w : Wd) : Option Wd :=
  saL w 72 6 a1 (1 : Int64) fun w1 =>
  saL w1 72 6 (a1 + (1 : Int32)) (0 : Int64) fun w2 =>
  saL w2 72 6 (a1 + (2 : Int32)) (0 : Int64) fun w3 =>
  f_X12_layProduct_b28 fu a1 a2 a3 a4 (0 : Int32) w3
def f_X12_isMore_b2_y (w : Wd) (k2 : Int32 → Option Int32) (x1 : Int32) : Option Int32 :=
  if x1 < (0 : Int32) then
    (some (0 : Int32))
  else
    (ldL w 72 6 x1 fun v1 =>
    ldL w 72 6 ((3 : Int32) + x1) fun v2 =>
    if v1 = v2 then
      (k2 (x1 + (-1 : Int32)))
    else
      (ldL w 72 6 x1 fun v3 =>
      ldL w 72 6 ((3 : Int32) + x1) fun v4 =>
      if v3 ≤ v4 then
        (some (0 : Int32))
      else
        (some (1 : Int32))))
def f_X12_isMore_b2 (w : Wd) : Nat → Int32 → Option Int32
  | 0 => fun _ => none
  | n + 1 => f_X12_isMore_b2_y w (f_X12_isMore_b2 w n)
def f_X12_isMore (w : Wd) : Option Int32 :=
  f_X12_isMore_b2 w fu (2 : Int32)
def f_X12_isPutIn (a0 : Int32) : Option Int32 :=
  if a0 < (0 : Int32) then
    (some (0 : Int32))
  else
    (bR (f_X12_in (a0 / (100 : Int32)) (1 : Int32) (20 : Int32)) fun r1 =>
    if r1 = (0 : Int32) then
      (some (0 : Int32))
    else
      (if (a0 / (100 : Int32)) < (ire a0 (100 : Int32)) then
        (some (0 : Int32))
      else
        (some (1 : Int32))))
def f_X12_likeliestSees_b81 (k18 : Int32 → Int32 → Int32 → Wd → Option (Int32 × Wd)) (x1 : Int32) (x2 : Int32) (x3 : Int32) (w : Wd) : Option (Int32 × Wd) :=
  k18 x1 x2 (x3 + (1 : Int32)) w
def f_X12_likeliestSees_b53_y (k18 : Int32 → Int32 → Int32 → Wd → Option (Int32 × Wd)) (k53 : Int32 → Int32 → Int32 → Int32 → Wd → Option (Int32 × Wd)) (x1 : Int32) (x2 : Int32) (x3 : Int32) (x4 : Int32) (w : Wd) : Option (Int32 × Wd) :=
  if (3 : Int32) ≤ x4 then
    (f_X12_likeliestSees_b81 k18 x1 x2 x3 w)
  else
    (ldL w 72 6 x4 fun v4 =>
    saL w 72 6 ((3 : Int32) + x4) v4 fun w5 =>
    k53 x1 x2 x3 (x4 + (1 : Int32)) w5)
def f_X12_likeliestSees_b53 (k18 : Int32 → Int32 → Int32 → Wd → Option (Int32 × Wd)) : Nat → Int32 → Int32 → Int32 → Int32 → Wd → Option (Int32 × Wd)
  | 0 => fun _ _ _ _ _ => none
  | n + 1 => f_X12_likeliestSees_b53_y k18 (f_X12_likeliestSees_b53 k18 n)
def f_X12_likeliestSees_b18_y (k18 : Int32 → Int32 → Int32 → Wd → Option (Int32 × Wd)) (x1 : Int32) (x2 : Int32) (x3 : Int32) (w : Wd) : Option (Int32 × Wd) :=
  if (12 : Int32) < x3 then
    (some (x2, w))
  else
    (bV (f_X12_layProduct (0 : Int32) x3 (ire x1 (100 : Int32)) (x1 / (100 : Int32)) w) fun w2 =>
    bR (f_X12_isMore w2) fun r3 =>
    if r3 = (0 : Int32) then
      (f_X12_likeliestSees_b81 k18 x1 x2 x3 w2)
    else
      (f_X12_likeliestSees_b53 k18 fu x1 x3 x3 (0 : Int32) w2))
def f_X12_likeliestSees_b18 : Nat → Int32 → Int32 → Int32 → Wd → Option (Int32 × Wd)
  | 0 => fun _ _ _ _ => none
  | n + 1 => f_X12_likeliestSees_b18_y (f_X12_likeliestSees_b18 n)
def f_X12_likeliestSees (a1 : Int32) (w : Wd) : Option (Int32 × Wd) :=
  bV (f_X12_layProduct (3 : Int32) (0 : Int32) (ire a1 (100 : Int32)) (a1 / (100 : Int32)) w) fun w1 =>
  f_X12_likeliestSees_b18 fu a1 (0 : Int32) (1 : Int32) w1
def f_X12_seesFor (a1 : Int32) (w : Wd) : Option (Int32 × Wd) :=
  bR (f_X12_isPutIn a1) fun r1 =>
  if r1 = (0 : Int32) then
    (some ((-1 : Int32), w))
  else
    (bW (f_X12_likeliestSees a1 w) fun r2 w3 =>
    some (r2, w3))
def f_X12_besides (a1 : Int32) (a2 : Int32) (a3 : Int32) (w : Wd) : Option (Int64 × Wd) :=
  bR (f_X12_isPutIn a1) fun r1 =>
  if r1 = (0 : Int32) then
    (some ((-9223372036854775808 : Int64), w))
  else
    (bR (f_X12_in a2 (0 : Int32) (99 : Int32)) fun r2 =>
    if r2 = (0 : Int32) then
      (some ((-9223372036854775808 : Int64), w))
    else
      (bR (f_X12_isPart a3) fun r3 =>
      if r3 = (0 : Int32) then
        (some ((-9223372036854775808 : Int64), w))
      else
        (bW (f_X12_likeliestSees a1 w) fun r4 w5 =>
        if r4 = (0 : Int32) then
          (some ((-2 : Int64), w5))
        else
          (bR (f_X12_asPart (Int32.toInt64 (a2 * (12 : Int32))) (Int32.toInt64 r4) a3) fun r6 =>
          some (r6, w5)))))
def f_X12_noneOf_b59 (k6 : Int32 → Int32 → Int32 → Int64 → Int32 → Option Int64) (x1 : Int32) (x2 : Int32) (x3 : Int32) (x6 : Int32) (s0 : Int64) (s1 : Int64) : Option Int64 :=
  lt (s1 * s0) fun y1 =>
  k6 x1 x2 x3 y1 (x6 + (1 : Int32))
def f_X12_noneOf_b39 (k6 : Int32 → Int32 → Int32 → Int64 → Int32 → Option Int64) (x1 : Int32) (x2 : Int32) (x3 : Int32) (x6 : Int32) (s0 : Int32) (s1 : Int64) : Option Int64 :=
  f_X12_noneOf_b59 k6 x1 x2 x3 x6 (Int32.toInt64 s0) s1
def f_X12_noneOf_b6_y (k6 : Int32 → Int32 → Int32 → Int64 → Int32 → Option Int64) (x1 : Int32) (x2 : Int32) (x3 : Int32) (x4 : Int64) (x6 : Int32) : Option Int64 :=
  if (3 : Int32) ≤ x6 then
    (some x4)
  else
    (if x3 ≤ x6 then
      (if (x1 - x6) ≤ (0 : Int32) then
        (f_X12_noneOf_b59 k6 x1 x2 x3 x6 (1 : Int64) x4)
      else
        (f_X12_noneOf_b59 k6 x1 x2 x3 x6 (Int32.toInt64 (x1 - x6)) x4))
    else
      (if ((x1 - x2) - x6) ≤ (0 : Int32) then
        (f_X12_noneOf_b39 k6 x1 x2 x3 x6 (0 : Int32) x4)
      else
        (f_X12_noneOf_b39 k6 x1 x2 x3 x6 ((x1 - x2) - x6) x4)))
def f_X12_noneOf_b6 : Nat → Int32 → Int32 → Int32 → Int64 → Int32 → Option Int64
  | 0 => fun _ _ _ _ _ => none
  | n + 1 => f_X12_noneOf_b6_y (f_X12_noneOf_b6 n)
def f_X12_noneOf (a1 : Int32) (a2 : Int32) (a3 : Int32) : Option Int64 :=
  f_X12_noneOf_b6 fu a1 a2 a3 (1 : Int64) (0 : Int32)
def f_X12_allOf_b24 (k4 : Int32 → Int64 → Int32 → Option Int64) (x0 : Int32) (x3 : Int32) (s0 : Int64) (s1 : Int64) : Option Int64 :=
  lt (s1 * s0) fun y1 =>
  k4 x0 y1 (x3 + (1 : Int32))
def f_X12_allOf_b4_y (k4 : Int32 → Int64 → Int32 → Option Int64) (x0 : Int32) (x1 : Int64) (x3 : Int32) : Option Int64 :=
  if (3 : Int32) ≤ x3 then
    (some x1)
  else
    (if (x0 - x3) ≤ (0 : Int32) then
      (f_X12_allOf_b24 k4 x0 x3 (1 : Int64) x1)
    else
      (f_X12_allOf_b24 k4 x0 x3 (Int32.toInt64 (x0 - x3)) x1))
def f_X12_allOf_b4 : Nat → Int32 → Int64 → Int32 → Option Int64
  | 0 => fun _ _ _ => none
  | n + 1 => f_X12_allOf_b4_y (f_X12_allOf_b4 n)
def f_X12_allOf (a0 : Int32) : Option Int64 :=
  f_X12_allOf_b4 fu a0 (1 : Int64) (0 : Int32)
def f_X12_handful_b238 (w : Wd) (x4 : Int32) (x5 : Int32) (x6 : Int32) (x8 : Int64) (s0 : Int32) : Option Int64 :=
  bR (f_X12_noneOf x5 x6 (0 : Int32)) fun r8 =>
  bR (f_X12_asPart ((Int32.toInt64 s0) * r8) x8 x4) fun r9 =>
  some r9
def f_X12_handful_b197 (w : Wd) (x4 : Int32) (x5 : Int32) (s0 : Int32) (s1 : Int64) : Option Int64 :=
  bR (f_X12_allOf x5) fun r10 =>
  bR (f_X12_asPart s1 ((Int32.toInt64 s0) * r10) x4) fun r11 =>
  some r11
def f_X12_handful_b180 (w : Wd) (x1 : Int32) (x3 : Int32) (x4 : Int32) (x5 : Int32) (x6 : Int32) (x7 : Int32) (x8 : Int64) : Option Int64 :=
  if x3 = (0 : Int32) then
    (if x7 = (0 : Int32) then
      (f_X12_handful_b197 w x4 x5 (1 : Int32) x8)
    else
      (f_X12_handful_b197 w x4 x5 x7 x8))
  else
    (if x8 = (0 : Int64) then
      (some (-2 : Int64))
    else
      (if x7 = (0 : Int32) then
        (f_X12_handful_b238 w x4 x5 x6 x8 (1 : Int32))
      else
        (ldI w 55 16 ((4 : Int32) * x1) fun v7 =>
        f_X12_handful_b238 w x4 x5 x6 x8 v7)))
def f_X12_handful_b159 (w : Wd) (k115 : Int32 → Int32 → Int32 → Int32 → Int32 → Int32 → Int64 → Int32 → Option Int64) (x1 : Int32) (x3 : Int32) (x4 : Int32) (x5 : Int32) (x6 : Int32) (x7 : Int32) (x10 : Int32) (s0 : Int32) (s1 : Int64) : Option Int64 :=
  bR (f_X12_noneOf x5 x6 x10) fun r13 =>
  lt (s1 + ((Int32.toInt64 s0) * r13)) fun y14 =>
  k115 x1 x3 x4 x5 x6 x7 y14 (x10 + (1 : Int32))
def f_X12_handful_b115_y (w : Wd) (k115 : Int32 → Int32 → Int32 → Int32 → Int32 → Int32 → Int64 → Int32 → Option Int64) (x1 : Int32) (x3 : Int32) (x4 : Int32) (x5 : Int32) (x6 : Int32) (x7 : Int32) (x8 : Int64) (x10 : Int32) : Option Int64 :=
  if (3 : Int32) < x10 then
    (f_X12_handful_b180 w x1 x3 x4 x5 x6 x7 x8)
  else
    (if x5 < x10 then
      (f_X12_handful_b180 w x1 x3 x4 x5 x6 x7 x8)
    else
      (if x7 = (0 : Int32) then
        (if x10 = (0 : Int32) then
          (f_X12_handful_b159 w k115 x1 x3 x4 x5 x6 x7 x10 (1 : Int32) x8)
        else
          (f_X12_handful_b159 w k115 x1 x3 x4 x5 x6 x7 x10 (0 : Int32) x8))
      else
        (ldI w 55 16 (((4 : Int32) * x1) + x10) fun v12 =>
        f_X12_handful_b159 w k115 x1 x3 x4 x5 x6 x7 x10 v12 x8)))
def f_X12_handful_b115 (w : Wd) : Nat → Int32 → Int32 → Int32 → Int32 → Int32 → Int32 → Int64 → Int32 → Option Int64
  | 0 => fun _ _ _ _ _ _ _ _ => none
  | n + 1 => f_X12_handful_b115_y w (f_X12_handful_b115 w n)
def f_X12_handful_b112 (w : Wd) (x1 : Int32) (x3 : Int32) (x4 : Int32) (x5 : Int32) (x6 : Int32) (x7 : Int32) (x8 : Int64) : Option Int64 :=
  f_X12_handful_b115 w fu x1 x3 x4 x5 x6 x7 x8 (0 : Int32)
def f_X12_handful_b77_y (w : Wd) (k77 : Int32 → Int32 → Int32 → Int32 → Int32 → Int32 → Int64 → Int32 → Option Int64) (x1 : Int32) (x3 : Int32) (x4 : Int32) (x5 : Int32) (x6 : Int32) (x7 : Int32) (x8 : Int64) (x10 : Int32) : Option Int64 :=
  if (3 : Int32) < x10 then
    (f_X12_handful_b112 w x1 x3 x4 x5 x6 x7 x8)
  else
    (if x5 < x10 then
      (f_X12_handful_b112 w x1 x3 x4 x5 x6 x7 x8)
    else
      (ldI w 55 16 (((4 : Int32) * x1) + x10) fun v15 =>
      lt (x7 + v15) fun y16 =>
      k77 x1 x3 x4 x5 x6 y16 x8 (x10 + (1 : Int32))))
def f_X12_handful_b77 (w : Wd) : Nat → Int32 → Int32 → Int32 → Int32 → Int32 → Int32 → Int64 → Int32 → Option Int64
  | 0 => fun _ _ _ _ _ _ _ _ => none
  | n + 1 => f_X12_handful_b77_y w (f_X12_handful_b77 w n)
def f_X12_handful (a1 : Int32) (a2 : Int32) (a3 : Int32) (a4 : Int32) (w : Wd) : Option Int64 :=
  bR (f_X12_isBag a1) fun r1 =>
  if r1 = (0 : Int32) then
    (some (-9223372036854775808 : Int64))
  else
    (if a2 < (0 : Int32) then
      (some (-9223372036854775808 : Int64))
    else
      (bR (f_X12_in (a2 / (100 : Int32)) (1 : Int32) (60 : Int32)) fun r2 =>
      if r2 = (0 : Int32) then
        (some (-9223372036854775808 : Int64))
      else
        (if (a2 / (100 : Int32)) < (ire a2 (100 : Int32)) then
          (some (-9223372036854775808 : Int64))
        else
          (bR (f_X12_in a3 (0 : Int32) (1 : Int32)) fun r3 =>
          if r3 = (0 : Int32) then
            (some (-9223372036854775808 : Int64))
          else
            (bR (f_X12_isPart a4) fun r4 =>
            if r4 = (0 : Int32) then
              (some (-9223372036854775808 : Int64))
            else
              (lt (a2 / (100 : Int32)) fun y5 =>
              lt (ire a2 (100 : Int32)) fun y6 =>
              f_X12_handful_b77 w fu a1 a3 a4 y5 y6 (0 : Int32) (0 : Int64) (0 : Int32)))))))
def f_X12_heaps_b358 (k137 : Int32 → Int32 → Int32 → Int32 → Int32 → Int32 → Int32 → Int32 → Int32 → Wd → Option (Int32 × Wd)) (k157 : Int32 → Int32 → Int32 → Int32 → Int32 → Int32 → Int32 → Int32 → Int32 → Int32 → Wd → Option (Int32 × Wd)) (k181 : Int32 → Int32 → Int32 → Int32 → Int32 → Int32 → Int32 → Int32 → Int32 → Int32 → Int32 → Wd → Option (Int32 × Wd)) (x1 : Int32) (x2 : Int32) (x3 : Int32) (x4 : Int32) (x5 : Int32) (x6 : Int32) (x7 : Int32) (x8 : Int32) (x9 : Int32) (x10 : Int32) (x11 : Int32) (w : Wd) : Option (Int32 × Wd) :=
  k181 x1 x2 x3 x4 x5 x6 x7 x8 x9 x10 (x11 + (1 : Int32)) w
def f_X12_heaps_b338 (k137 : Int32 → Int32 → Int32 → Int32 → Int32 → Int32 → Int32 → Int32 → Int32 → Wd → Option (Int32 × Wd)) (k157 : Int32 → Int32 → Int32 → Int32 → Int32 → Int32 → Int32 → Int32 → Int32 → Int32 → Wd → Option (Int32 × Wd)) (k181 : Int32 → Int32 → Int32 → Int32 → Int32 → Int32 → Int32 → Int32 → Int32 → Int32 → Int32 → Wd → Option (Int32 × Wd)) (x1 : Int32) (x2 : Int32) (x3 : Int32) (x9 : Int32) (x10 : Int32) (x11 : Int32) (x12 : Int32) (x13 : Int32) (w : Wd) : Option (Int32 × Wd) :=
  f_X12_heaps_b358 k137 k157 k181 x1 x2 x3 x13 x12 x9 x10 x11 x9 x10 x11 w
def f_X12_heaps_b304 (k137 : Int32 → Int32 → Int32 → Int32 → Int32 → Int32 → Int32 → Int32 → Int32 → Wd → Option (Int32 × Wd)) (k157 : Int32 → Int32 → Int32 → Int32 → Int32 → Int32 → Int32 → Int32 → Int32 → Int32 → Wd → Option (Int32 × Wd)) (k181 : Int32 → Int32 → Int32 → Int32 → Int32 → Int32 → Int32 → Int32 → Int32 → Int32 → Int32 → Wd → Option (Int32 × Wd)) (x1 : Int32) (x2 : Int32) (x3 : Int32) (x4 : Int32) (x5 : Int32) (x6 : Int32) (x7 : Int32) (x8 : Int32) (x9 : Int32) (x10 : Int32) (x11 : Int32) (x12 : Int32) (s0 : Int32) (s1 : Int32) (s2 : Int32) (w : Wd) : Option (Int32 × Wd) :=
  lt (s2 + (s1 * s0)) fun y11 =>
  if x2 < x12 then
    (f_X12_heaps_b358 k137 k157 k181 x1 x2 x3 x4 x5 x6 x7 x8 x9 x10 x11 w)
  else
    (if y11 < x4 then
      (f_X12_heaps_b358 k137 k157 k181 x1 x2 x3 x4 x5 x6 x7 x8 x9 x10 x11 w)
    else
      (if y11 = x4 then
        (if x12 < x5 then
          (f_X12_heaps_b338 k137 k157 k181 x1 x2 x3 x9 x10 x11 x12 y11 w)
        else
          (f_X12_heaps_b358 k137 k157 k181 x1 x2 x3 x4 x5 x6 x7 x8 x9 x10 x11 w))
      else
        (f_X12_heaps_b338 k137 k157 k181 x1 x2 x3 x9 x10 x11 x12 y11 w)))
def f_X12_heaps_b279 (k137 : Int32 → Int32 → Int32 → Int32 → Int32 → Int32 → Int32 → Int32 → Int32 → Wd → Option (Int32 × Wd)) (k157 : Int32 → Int32 → Int32 → Int32 → Int32 → Int32 → Int32 → Int32 → Int32 → Int32 → Wd → Option (Int32 × Wd)) (k181 : Int32 → Int32 → Int32 → Int32 → Int32 → Int32 → Int32 → Int32 → Int32 → Int32 → Int32 → Wd → Option (Int32 × Wd)) (x1 : Int32) (x2 : Int32) (x3 : Int32) (x4 : Int32) (x5 : Int32) (x6 : Int32) (x7 : Int32) (x8 : Int32) (x9 : Int32) (x10 : Int32) (x11 : Int32) (x12 : Int32) (s0 : Int32) (s1 : Int32) (s2 : Int32) (w : Wd) : Option (Int32 × Wd) :=
  ldI w 73 123 ((82 : Int32) + x11) fun v10 =>
  if (gi w 54 3) ≤ (2 : Int32) then
    (f_X12_heaps_b304 k137 k157 k181 x1 x2 x3 x4 x5 x6 x7 x8 x9 x10 x11 x12 (0 : Int32) v10 (s2 + (s1 * s0)) w)
  else
    (f_X12_heaps_b304 k137 k157 k181 x1 x2 x3 x4 x5 x6 x7 x8 x9 x10 x11 x12 (1 : Int32) v10 (s2 + (s1 * s0)) w)
def f_X12_heaps_b255 (k137 : Int32 → Int32 → Int32 → Int32 → Int32 → Int32 → Int32 → Int32 → Int32 → Wd → Option (Int32 × Wd)) (k157 : Int32 → Int32 → Int32 → Int32 → Int32 → Int32 → Int32 → Int32 → Int32 → Int32 → Wd → Option (Int32 × Wd)) (k181 : Int32 → Int32 → Int32 → Int32 → Int32 → Int32 → Int32 → Int32 → Int32 → Int32 → Int32 → Wd → Option (Int32 × Wd)) (x1 : Int32) (x2 : Int32) (x3 : Int32) (x4 : Int32) (x5 : Int32) (x6 : Int32) (x7 : Int32) (x8 : Int32) (x9 : Int32) (x10 : Int32) (x11 : Int32) (x12 : Int32) (s0 : Int32) (s1 : Int32) (w : Wd) : Option (Int32 × Wd) :=
  ldI w 73 123 ((41 : Int32) + x10) fun v9 =>
  if (gi w 54 3) ≤ (1 : Int32) then
    (f_X12_heaps_b279 k137 k157 k181 x1 x2 x3 x4 x5 x6 x7 x8 x9 x10 x11 x12 (0 : Int32) v9 (s1 * s0) w)
  else
    (f_X12_heaps_b279 k137 k157 k181 x1 x2 x3 x4 x5 x6 x7 x8 x9 x10 x11 x12 (1 : Int32) v9 (s1 * s0) w)
def f_X12_heaps_b202 (k137 : Int32 → Int32 → Int32 → Int32 → Int32 → Int32 → Int32 → Int32 → Int32 → Wd → Option (Int32 × Wd)) (k157 : Int32 → Int32 → Int32 → Int32 → Int32 → Int32 → Int32 → Int32 → Int32 → Int32 → Wd → Option (Int32 × Wd)) (k181 : Int32 → Int32 → Int32 → Int32 → Int32 → Int32 → Int32 → Int32 → Int32 → Int32 → Int32 → Wd → Option (Int32 × Wd)) (x1 : Int32) (x2 : Int32) (x3 : Int32) (x4 : Int32) (x5 : Int32) (x6 : Int32) (x7 : Int32) (x8 : Int32) (x9 : Int32) (x10 : Int32) (x11 : Int32) (s0 : Int32) (s1 : Int32) (w : Wd) : Option (Int32 × Wd) :=
  if s0 < s1 then
    (k157 x1 x2 x3 x4 x5 x6 x7 x8 x9 (x10 + (1 : Int32)) w)
  else
    (ldI w 58 6 (0 : Int32) fun v4 =>
    ldI w 58 6 (1 : Int32) fun v5 =>
    ldI w 58 6 (2 : Int32) fun v6 =>
    lt (((v4 * x9) + (v5 * x10)) + (v6 * x11)) fun y7 =>
    ldI w 73 123 x9 fun v8 =>
    if (gi w 54 3) ≤ (0 : Int32) then
      (f_X12_heaps_b255 k137 k157 k181 x1 x2 x3 x4 x5 x6 x7 x8 x9 x10 x11 y7 (0 : Int32) v8 w)
    else
      (f_X12_heaps_b255 k137 k157 k181 x1 x2 x3 x4 x5 x6 x7 x8 x9 x10 x11 y7 (1 : Int32) v8 w))
def f_X12_heaps_b181_y (k137 : Int32 → Int32 → Int32 → Int32 → Int32 → Int32 → Int32 → Int32 → Int32 → Wd → Option (Int32 × Wd)) (k157 : Int32 → Int32 → Int32 → Int32 → Int32 → Int32 → Int32 → Int32 → Int32 → Int32 → Wd → Option (Int32 × Wd)) (k181 : Int32 → Int32 → Int32 → Int32 → Int32 → Int32 → Int32 → Int32 → Int32 → Int32 → Int32 → Wd → Option (Int32 × Wd)) (x1 : Int32) (x2 : Int32) (x3 : Int32) (x4 : Int32) (x5 : Int32) (x6 : Int32) (x7 : Int32) (x8 : Int32) (x9 : Int32) (x10 : Int32) (x11 : Int32) (w : Wd) : Option (Int32 × Wd) :=
  if (gi w 54 3) ≤ (2 : Int32) then
    (f_X12_heaps_b202 k137 k157 k181 x1 x2 x3 x4 x5 x6 x7 x8 x9 x10 x11 (0 : Int32) x11 w)
  else
    (f_X12_heaps_b202 k137 k157 k181 x1 x2 x3 x4 x5 x6 x7 x8 x9 x10 x11 ((x1 - x9) - x10) x11 w)
def f_X12_heaps_b181 (k137 : Int32 → Int32 → Int32 → Int32 → Int32 → Int32 → Int32 → Int32 → Int32 → Wd → Option (Int32 × Wd)) (k157 : Int32 → Int32 → Int32 → Int32 → Int32 → Int32 → Int32 → Int32 → Int32 → Int32 → Wd → Option (Int32 × Wd)) : Nat → Int32 → Int32 → Int32 → Int32 → Int32 → Int32 → Int32 → Int32 → Int32 → Int32 → Int32 → Wd → Option (Int32 × Wd)
  | 0 => fun _ _ _ _ _ _ _ _ _ _ _ _ => none
  | n + 1 => f_X12_heaps_b181_y k137 k157 (f_X12_heaps_b181 k137 k157 n)
def f_X12_heaps_b175 (k137 : Int32 → Int32 → Int32 → Int32 → Int32 → Int32 → Int32 → Int32 → Int32 → Wd → Option (Int32 × Wd)) (k157 : Int32 → Int32 → Int32 → Int32 → Int32 → Int32 → Int32 → Int32 → Int32 → Int32 → Wd → Option (Int32 × Wd)) (x1 : Int32) (x2 : Int32) (x3 : Int32) (x4 : Int32) (x5 : Int32) (x6 : Int32) (x7 : Int32) (x8 : Int32) (x9 : Int32) (x10 : Int32) (s0 : Int32) (s1 : Int32) (w : Wd) : Option (Int32 × Wd) :=
  if s0 < s1 then
    (k137 x1 x2 x3 x4 x5 x6 x7 x8 (x9 + (1 : Int32)) w)
  else
    (f_X12_heaps_b181 k137 k157 fu x1 x2 x3 x4 x5 x6 x7 x8 x9 x10 (0 : Int32) w)
def f_X12_heaps_b157_y (k137 : Int32 → Int32 → Int32 → Int32 → Int32 → Int32 → Int32 → Int32 → Int32 → Wd → Option (Int32 × Wd)) (k157 : Int32 → Int32 → Int32 → Int32 → Int32 → Int32 → Int32 → Int32 → Int32 → Int32 → Wd → Option (Int32 × Wd)) (x1 : Int32) (x2 : Int32) (x3 : Int32) (x4 : Int32) (x5 : Int32) (x6 : Int32) (x7 : Int32) (x8 : Int32) (x9 : Int32) (x10 : Int32) (w : Wd) : Option (Int32 × Wd) :=
  if (gi w 54 3) ≤ (1 : Int32) then
    (f_X12_heaps_b175 k137 k157 x1 x2 x3 x4 x5 x6 x7 x8 x9 x10 (0 : Int32) x10 w)
  else
    (f_X12_heaps_b175 k137 k157 x1 x2 x3 x4 x5 x6 x7 x8 x9 x10 (x1 - x9) x10 w)
def f_X12_heaps_b157 (k137 : Int32 → Int32 → Int32 → Int32 → Int32 → Int32 → Int32 → Int32 → Int32 → Wd → Option (Int32 × Wd)) : Nat → Int32 → Int32 → Int32 → Int32 → Int32 → Int32 → Int32 → Int32 → Int32 → Int32 → Wd → Option (Int32 × Wd)
  | 0 => fun _ _ _ _ _ _ _ _ _ _ _ => none
  | n + 1 => f_X12_heaps_b157_y k137 (f_X12_heaps_b157 k137 n)
def f_X12_heaps_b151 (k137 : Int32 → Int32 → Int32 → Int32 → Int32 → Int32 → Int32 → Int32 → Int32 → Wd → Option (Int32 × Wd)) (x1 : Int32) (x2 : Int32) (x3 : Int32) (x4 : Int32) (x5 : Int32) (x6 : Int32) (x7 : Int32) (x8 : Int32) (x9 : Int32) (s0 : Int32) (s1 : Int32) (w : Wd) : Option (Int32 × Wd) :=
  if s0 < s1 then
    (if x3 = (0 : Int32) then
      (some (x4, w))
    else
      (if x3 = (1 : Int32) then
        (some (x5, w))
      else
        (if x3 = (2 : Int32) then
          (some (x6, w))
        else
          (if x3 = (3 : Int32) then
            (some (x7, w))
          else
            (some (x8, w))))))
  else
    (f_X12_heaps_b157 k137 fu x1 x2 x3 x4 x5 x6 x7 x8 x9 (0 : Int32) w)
def f_X12_heaps_b137_y (k137 : Int32 → Int32 → Int32 → Int32 → Int32 → Int32 → Int32 → Int32 → Int32 → Wd → Option (Int32 × Wd)) (x1 : Int32) (x2 : Int32) (x3 : Int32) (x4 : Int32) (x5 : Int32) (x6 : Int32) (x7 : Int32) (x8 : Int32) (x9 : Int32) (w : Wd) : Option (Int32 × Wd) :=
  if (gi w 54 3) ≤ (0 : Int32) then
    (f_X12_heaps_b151 k137 x1 x2 x3 x4 x5 x6 x7 x8 x9 (0 : Int32) x9 w)
  else
    (f_X12_heaps_b151 k137 x1 x2 x3 x4 x5 x6 x7 x8 x9 x1 x9 w)
def f_X12_heaps_b137 : Nat → Int32 → Int32 → Int32 → Int32 → Int32 → Int32 → Int32 → Int32 → Int32 → Wd → Option (Int32 × Wd)
  | 0 => fun _ _ _ _ _ _ _ _ _ _ => none
  | n + 1 => f_X12_heaps_b137_y (f_X12_heaps_b137 n)
def f_X12_heaps_b68_y (k56 : Int32 → Int32 → Int32 → Int32 → Wd → Option (Int32 × Wd)) (k68 : Int32 → Int32 → Int32 → Int32 → Int32 → Wd → Option (Int32 × Wd)) (x1 : Int32) (x2 : Int32) (x3 : Int32) (x4 : Int32) (x5 : Int32) (w : Wd) : Option (Int32 × Wd) :=
  if (40 : Int32) < x5 then
    (k56 x1 x2 x3 (x4 + (1 : Int32)) w)
  else
    (bW (f_X12_findsBy x4 (0 : Int32) ((gi w 54 8) + (x5 / (5 : Int32))) w) fun r12 w13 =>
    saI w13 73 123 (((41 : Int32) * x4) + x5) (x5 * r12) fun w14 =>
    k68 x1 x2 x3 x4 (x5 + (1 : Int32)) w14)
def f_X12_heaps_b68 (k56 : Int32 → Int32 → Int32 → Int32 → Wd → Option (Int32 × Wd)) : Nat → Int32 → Int32 → Int32 → Int32 → Int32 → Wd → Option (Int32 × Wd)
  | 0 => fun _ _ _ _ _ _ => none
  | n + 1 => f_X12_heaps_b68_y k56 (f_X12_heaps_b68 k56 n)
def f_X12_heaps_b56_y (k56 : Int32 → Int32 → Int32 → Int32 → Wd → Option (Int32 × Wd)) (x1 : Int32) (x2 : Int32) (x3 : Int32) (x4 : Int32) (w : Wd) : Option (Int32 × Wd) :=
  if (gi w 54 3) ≤ x4 then
    (f_X12_heaps_b137 fu x1 x2 x3 (-1 : Int32) (0 : Int32) (0 : Int32) (0 : Int32) (0 : Int32) (0 : Int32) w)
  else
    (f_X12_heaps_b68 k56 fu x1 x2 x3 x4 (0 : Int32) w)
def f_X12_heaps_b56 : Nat → Int32 → Int32 → Int32 → Int32 → Wd → Option (Int32 × Wd)
  | 0 => fun _ _ _ _ _ => none
  | n + 1 => f_X12_heaps_b56_y (f_X12_heaps_b56 n)
def f_X12_heaps_b42 (x1 : Int32) (x2 : Int32) (x3 : Int32) (w : Wd) : Option (Int32 × Wd) :=
  if (gi w 54 3) ≤ (3 : Int32) then
    (f_X12_heaps_b56 fu x1 x2 x3 (0 : Int32) w)
  else
    (some ((-5 : Int32), w))
def f_X12_heaps (a1 : Int32) (a2 : Int32) (a3 : Int32) (w : Wd) : Option (Int32 × Wd) :=
  bR (f_X12_in a1 (1 : Int32) (40 : Int32)) fun r1 =>
  if r1 = (0 : Int32) then
    (some ((-1 : Int32), w))
  else
    (bR (f_X12_in a2 (0 : Int32) (999 : Int32)) fun r2 =>
    if r2 = (0 : Int32) then
      (some ((-1 : Int32), w))
    else
      (bR (f_X12_in a3 (0 : Int32) (1 : Int32)) fun r3 =>
      if r3 = (0 : Int32) then
        (bR (f_X12_isLooker (a3 - (2 : Int32)) w) fun r15 =>
        if r15 = (0 : Int32) then
          (some ((-1 : Int32), w))
        else
          (f_X12_heaps_b42 a1 a2 a3 w))
      else
        (f_X12_heaps_b42 a1 a2 a3 w)))
def f_X12_goRows_b160 (r_X12_goRows : Int32 → Wd → Option Wd) (k105 : Int32 → Int32 → Wd → Option Wd) (x1 : Int32) (x2 : Int32) (w : Wd) : Option Wd :=
  k105 x1 (x2 + (1 : Int32)) w
def f_X12_goRows_b105_y (r_X12_goRows : Int32 → Wd → Option Wd) (k105 : Int32 → Int32 → Wd → Option Wd) (x1 : Int32) (x2 : Int32) (w : Wd) : Option Wd :=
  if (gi w 54 3) ≤ x2 then
    (some w)
  else
    (saI w 75 4 x1 x2 fun w1 =>
    bW (f_X12_findsBy x2 x1 (gi w1 54 8) w1) fun r2 w3 =>
    ldI w3 74 4 x1 fun v4 =>
    bV (f_X12_lookTo x1 r2 v4 w3) fun w5 =>
    bR (f_X12_allParts (x1 + (1 : Int32)) w5) fun r6 =>
    if r6 ≤ (0 : Int64) then
      (f_X12_goRows_b160 r_X12_goRows k105 x1 x2 w5)
    else
      (bV (r_X12_goRows (x1 + (1 : Int32)) w5) fun w7 =>
      f_X12_goRows_b160 r_X12_goRows k105 x1 x2 w7))
def f_X12_goRows_b105 (r_X12_goRows : Int32 → Wd → Option Wd) : Nat → Int32 → Int32 → Wd → Option Wd
  | 0 => fun _ _ _ => none
  | n + 1 => f_X12_goRows_b105_y r_X12_goRows (f_X12_goRows_b105 r_X12_goRows n)
def f_X12_goRows_b76_y (r_X12_goRows : Int32 → Wd → Option Wd) (k76 : Int32 → Wd → Option Wd) (x2 : Int32) (w : Wd) : Option Wd :=
  if (gi w 54 38) ≤ x2 then
    (some w)
  else
    (ldI w 75 4 x2 fun v12 =>
    saI w 76 4 x2 v12 fun w13 =>
    k76 (x2 + (1 : Int32)) w13)
def f_X12_goRows_b76 (r_X12_goRows : Int32 → Wd → Option Wd) : Nat → Int32 → Wd → Option Wd
  | 0 => fun _ _ => none
  | n + 1 => f_X12_goRows_b76_y r_X12_goRows (f_X12_goRows_b76 r_X12_goRows n)
def f_X12_goRows_b20_y (r_X12_goRows : Int32 → Wd → Option Wd) (k20 : Int32 → Int32 → Wd → Option Wd) (x1 : Int32) (x2 : Int32) (w : Wd) : Option Wd :=
  if (gi w 54 38) ≤ x2 then
    (bR (f_X12_allParts x1 w) fun r9 =>
    if (gl w 54 43) < r9 then
      (bR (f_X12_allParts x1 w) fun r10 =>
      stL w 54 43 r10 fun w11 =>
      f_X12_goRows_b76 r_X12_goRows fu (0 : Int32) w11)
    else
      (some w))
  else
    (ldI w 77 4 x2 fun v14 =>
    ldI w 75 4 x2 fun v15 =>
    saI w 77 4 x2 (v14 &&& (ishl (1 : Int32) v15)) fun w16 =>
    k20 x1 (x2 + (1 : Int32)) w16)
def f_X12_goRows_b20 (r_X12_goRows : Int32 → Wd → Option Wd) : Nat → Int32 → Int32 → Wd → Option Wd
  | 0 => fun _ _ _ => none
  | n + 1 => f_X12_goRows_b20_y r_X12_goRows (f_X12_goRows_b20 r_X12_goRows n)
def f_X12_goRows_y (r_X12_goRows : Int32 → Wd → Option Wd) (a1 : Int32) (w : Wd) : Option Wd :=
  if a1 = (gi w 54 38) then
    (stI w 54 42 ((gi w 54 42) + (1 : Int32)) fun w8 =>
    f_X12_goRows_b20 r_X12_goRows fu a1 (0 : Int32) w8)
  else
    (f_X12_goRows_b105 r_X12_goRows fu a1 (0 : Int32) w)
def f_X12_goRows : Nat → Int32 → Wd → Option Wd
  | 0 => fun _ _ => none
  | n + 1 => f_X12_goRows_y (f_X12_goRows n)
def f_X12_who_b165_y (k165 : Int32 → Int32 → Int32 → Int32 → Wd → Option (Int32 × Wd)) (x2 : Int32) (x3 : Int32) (x4 : Int32) (x5 : Int32) (w : Wd) : Option (Int32 × Wd) :=
  if (4 : Int32) ≤ x5 then
    (bV (f_X12_beginParts x2 (0 : Int32) w) fun w8 =>
    bV (f_X12_goRows rf (0 : Int32) w8) fun w9 =>
    if x3 = (0 : Int32) then
      (some ((gi w9 54 42), w9))
    else
      (if x3 = (1 : Int32) then
        (if (gi w9 54 42) = (0 : Int32) then
          (some ((0 : Int32), w9))
        else
          (ldI w9 77 4 x4 fun v11 =>
          some (v11, w9)))
      else
        (if (gi w9 54 42) = (0 : Int32) then
          (some ((-2 : Int32), w9))
        else
          (ldI w9 76 4 x4 fun v10 =>
          some (v10, w9)))))
  else
    (saI w 77 4 x5 ((ishl (1 : Int32) (gi w 54 3)) - (1 : Int32)) fun w12 =>
    k165 x2 x3 x4 (x5 + (1 : Int32)) w12)
def f_X12_who_b165 : Nat → Int32 → Int32 → Int32 → Int32 → Wd → Option (Int32 × Wd)
  | 0 => fun _ _ _ _ _ => none
  | n + 1 => f_X12_who_b165_y (f_X12_who_b165 n)
def f_X12_who_b152 (x2 : Int32) (x3 : Int32) (x4 : Int32) (w : Wd) : Option (Int32 × Wd) :=
  stI w 54 42 (0 : Int32) fun w6 =>
  stL w6 54 43 (0 : Int64) fun w7 =>
  f_X12_who_b165 fu x2 x3 x4 (0 : Int32) w7
def f_X12_who_b131 (x2 : Int32) (x3 : Int32) (x4 : Int32) (w : Wd) : Option (Int32 × Wd) :=
  if x3 ≤ (0 : Int32) then
    (f_X12_who_b152 x2 x3 x4 w)
  else
    (bR (f_X12_in x4 (0 : Int32) ((gi w 54 38) - (1 : Int32))) fun r13 =>
    if r13 = (0 : Int32) then
      (some ((-1 : Int32), w))
    else
      (f_X12_who_b152 x2 x3 x4 w))
def f_X12_who_b62_y (k62 : Int32 → Int32 → Int32 → Int32 → Wd → Option (Int32 × Wd)) (x1 : Int32) (x2 : Int32) (x3 : Int32) (x4 : Int32) (w : Wd) : Option (Int32 × Wd) :=
  if (4 : Int32) ≤ (gi w 54 38) then
    (f_X12_who_b131 x2 x3 x4 w)
  else
    (ldI w 83 6 x1 fun v14 =>
    if v14 ≤ (gi w 54 38) then
      (f_X12_who_b131 x2 x3 x4 w)
    else
      (bR (f_X12_byteAt x1 (gi w 54 38) w) fun r15 =>
      bR (f_X12_in r15 (0 : Int32) (3 : Int32)) fun r16 =>
      if r16 = (0 : Int32) then
        (f_X12_who_b131 x2 x3 x4 w)
      else
        (bR (f_X12_byteAt x1 (gi w 54 38) w) fun r17 =>
        saI w 74 4 (gi w 54 38) r17 fun w18 =>
        stI w18 54 38 ((gi w18 54 38) + (1 : Int32)) fun w19 =>
        k62 x1 x2 x3 x4 w19)))
def f_X12_who_b62 : Nat → Int32 → Int32 → Int32 → Int32 → Wd → Option (Int32 × Wd)
  | 0 => fun _ _ _ _ _ => none
  | n + 1 => f_X12_who_b62_y (f_X12_who_b62 n)
def f_X12_who_b51 (x1 : Int32) (w : Wd) : Option (Int32 × Wd) :=
  bR (f_X12_rowFault x1 w) fun r20 =>
  some (r20, w)
def f_X12_who (a1 : Int32) (a2 : Int32) (a3 : Int32) (a4 : Int32) (w : Wd) : Option (Int32 × Wd) :=
  bR (f_X12_isShelf a1) fun r1 =>
  if r1 = (0 : Int32) then
    (some ((-1 : Int32), w))
  else
    (bR (f_X12_isBag a2) fun r2 =>
    if r2 = (0 : Int32) then
      (some ((-1 : Int32), w))
    else
      (bR (f_X12_in a3 (0 : Int32) (2 : Int32)) fun r3 =>
      if r3 = (0 : Int32) then
        (some ((-1 : Int32), w))
      else
        (bR (f_X12_rowFault a1 w) fun r4 =>
        if (0 : Int32) ≤ r4 then
          (stI w 54 38 (0 : Int32) fun w5 =>
          f_X12_who_b62 fu a1 a2 a3 a4 w5)
        else
          (if a3 ≤ (0 : Int32) then
            (f_X12_who_b51 a1 w)
          else
            (bR (f_X12_in a4 (0 : Int32) (3 : Int32)) fun r21 =>
            if r21 = (0 : Int32) then
              (some ((-1 : Int32), w))
            else
              (f_X12_who_b51 a1 w))))))
def f_X12_draw (a1 : Int32) (w : Wd) : Option (Int32 × Wd) :=
  stI w 54 44 (((gi w 54 44) * (1103515245 : Int32)) + (12345 : Int32)) fun w1 =>
  rmI (iushr (gi w1 54 44) (8 : Int32)) a1 fun v2 =>
  some (v2, w1)
def f_X12_drawStones_b22_y (k22 : Int32 → Int32 → Int32 → Wd → Option (Int32 × Wd)) (x1 : Int32) (x2 : Int32) (x3 : Int32) (w : Wd) : Option (Int32 × Wd) :=
  ldI w 55 16 (((4 : Int32) * x1) + x3) fun v5 =>
  if x2 < v5 then
    (some (x3, w))
  else
    (ldI w 55 16 (((4 : Int32) * x1) + x3) fun v6 =>
    lt (x2 - v6) fun y7 =>
    k22 x1 y7 (x3 + (1 : Int32)) w)
def f_X12_drawStones_b22 : Nat → Int32 → Int32 → Int32 → Wd → Option (Int32 × Wd)
  | 0 => fun _ _ _ _ => none
  | n + 1 => f_X12_drawStones_b22_y (f_X12_drawStones_b22 n)
def f_X12_drawStones (a1 : Int32) (w : Wd) : Option (Int32 × Wd) :=
  bR (f_X12_allWeights a1 w) fun r1 =>
  if r1 = (0 : Int32) then
    (some ((0 : Int32), w))
  else
    (bR (f_X12_allWeights a1 w) fun r2 =>
    bW (f_X12_draw r2 w) fun r3 w4 =>
    f_X12_drawStones_b22 fu a1 r3 (0 : Int32) w4)
def f_X12_drawFound_b24 (k5 : Int32 → Int32 → Int32 → Int32 → Wd → Option (Int32 × Wd)) (x1 : Int32) (x2 : Int32) (x3 : Int32) (x4 : Int32) (w : Wd) : Option (Int32 × Wd) :=
  k5 x1 x2 x3 (x4 + (1 : Int32)) w
def f_X12_drawFound_b5_y (k5 : Int32 → Int32 → Int32 → Int32 → Wd → Option (Int32 × Wd)) (x1 : Int32) (x2 : Int32) (x3 : Int32) (x4 : Int32) (w : Wd) : Option (Int32 × Wd) :=
  if x1 ≤ x4 then
    (some (x3, w))
  else
    (bW (f_X12_draw (12 : Int32) w) fun r1 w2 =>
    if x2 ≤ r1 then
      (f_X12_drawFound_b24 k5 x1 x2 x3 x4 w2)
    else
      (f_X12_drawFound_b24 k5 x1 x2 (x3 + (1 : Int32)) x4 w2))
def f_X12_drawFound_b5 : Nat → Int32 → Int32 → Int32 → Int32 → Wd → Option (Int32 × Wd)
  | 0 => fun _ _ _ _ _ => none
  | n + 1 => f_X12_drawFound_b5_y (f_X12_drawFound_b5 n)
def f_X12_drawFound (a1 : Int32) (a2 : Int32) (w : Wd) : Option (Int32 × Wd) :=
  f_X12_drawFound_b5 fu a1 a2 (0 : Int32) (0 : Int32) w
def f_X12_drawn_b188 (k74 : Int32 → Int32 → Int32 → Int32 → Int32 → Int32 → Wd → Option (Int32 × Wd)) (x1 : Int32) (x3 : Int32) (x4 : Int32) (x5 : Int32) (x6 : Int32) (x7 : Int32) (x8 : Int32) (w : Wd) : Option (Int32 × Wd) :=
  lt (x5 + x8) fun y9 =>
  k74 x1 x3 x4 y9 x6 (x7 + (1 : Int32)) w
def f_X12_drawn_b96_y (k74 : Int32 → Int32 → Int32 → Int32 → Int32 → Int32 → Wd → Option (Int32 × Wd)) (k96 : Int32 → Int32 → Int32 → Int32 → Int32 → Int32 → Int32 → Int32 → Wd → Option (Int32 × Wd)) (x1 : Int32) (x3 : Int32) (x4 : Int32) (x5 : Int32) (x6 : Int32) (x7 : Int32) (x8 : Int32) (x9 : Int32) (w : Wd) : Option (Int32 × Wd) :=
  if (4 : Int32) ≤ x9 then
    (f_X12_drawn_b188 k74 x1 x3 x4 x5 x6 x7 x8 w)
  else
    (ldI w 83 6 x1 fun v10 =>
    if v10 ≤ (((2 : Int32) * x9) + (1 : Int32)) then
      (f_X12_drawn_b188 k74 x1 x3 x4 x5 x6 x7 x8 w)
    else
      (bR (f_X12_byteAt x1 ((2 : Int32) * x9) w) fun r11 =>
      bR (f_X12_isLooker r11 w) fun r12 =>
      if r12 = (0 : Int32) then
        (f_X12_drawn_b188 k74 x1 x3 x4 x5 x6 x7 x8 w)
      else
        (bR (f_X12_byteAt x1 ((2 : Int32) * x9) w) fun r13 =>
        bW (f_X12_findsBy r13 x9 (gi w 54 8) w) fun r14 w15 =>
        bW (f_X12_drawFound x8 r14 w15) fun r16 w17 =>
        lt (x8 - r16) fun y18 =>
        bR (f_X12_byteAt x1 ((2 : Int32) * x9) w17) fun r19 =>
        ldI w17 58 6 r19 fun v20 =>
        lt (x6 + v20) fun y21 =>
        k96 x1 x3 x4 x5 y21 x7 y18 (x9 + (1 : Int32)) w17)))
def f_X12_drawn_b96 (k74 : Int32 → Int32 → Int32 → Int32 → Int32 → Int32 → Wd → Option (Int32 × Wd)) : Nat → Int32 → Int32 → Int32 → Int32 → Int32 → Int32 → Int32 → Int32 → Wd → Option (Int32 × Wd)
  | 0 => fun _ _ _ _ _ _ _ _ _ => none
  | n + 1 => f_X12_drawn_b96_y k74 (f_X12_drawn_b96 k74 n)
def f_X12_drawn_b74_y (k74 : Int32 → Int32 → Int32 → Int32 → Int32 → Int32 → Wd → Option (Int32 × Wd)) (x1 : Int32) (x3 : Int32) (x4 : Int32) (x5 : Int32) (x6 : Int32) (x7 : Int32) (w : Wd) : Option (Int32 × Wd) :=
  if (ire x3 (100 : Int32)) ≤ x7 then
    (if x4 = (0 : Int32) then
      (some (x5, w))
    else
      (some ((x6 + ((gi w 54 9) * x5)), w)))
  else
    (bW (f_X12_drawStones (x3 / (100 : Int32)) w) fun r7 w8 =>
    f_X12_drawn_b96 k74 fu x1 x3 x4 x5 x6 x7 r7 (0 : Int32) w8)
def f_X12_drawn_b74 : Nat → Int32 → Int32 → Int32 → Int32 → Int32 → Int32 → Wd → Option (Int32 × Wd)
  | 0 => fun _ _ _ _ _ _ _ => none
  | n + 1 => f_X12_drawn_b74_y (f_X12_drawn_b74 n)
def f_X12_drawn (a1 : Int32) (a2 : Int32) (a3 : Int32) (a4 : Int32) (w : Wd) : Option (Int32 × Wd) :=
  bR (f_X12_isShelf a1) fun r1 =>
  if r1 = (0 : Int32) then
    (some ((-1 : Int32), w))
  else
    (if a3 < (0 : Int32) then
      (some ((-1 : Int32), w))
    else
      (bR (f_X12_isBag (a3 / (100 : Int32))) fun r2 =>
      if r2 = (0 : Int32) then
        (some ((-1 : Int32), w))
      else
        (bR (f_X12_in (ire a3 (100 : Int32)) (1 : Int32) (30 : Int32)) fun r3 =>
        if r3 = (0 : Int32) then
          (some ((-1 : Int32), w))
        else
          (bR (f_X12_in a4 (0 : Int32) (1 : Int32)) fun r4 =>
          if r4 = (0 : Int32) then
            (some ((-1 : Int32), w))
          else
            (bR (f_X12_rowFault a1 w) fun r5 =>
            if (0 : Int32) ≤ r5 then
              (stI w 54 44 a2 fun w6 =>
              f_X12_drawn_b74 fu a1 a3 a4 (0 : Int32) (0 : Int32) (0 : Int32) w6)
            else
              (bR (f_X12_rowFault a1 w) fun r22 =>
              some (r22, w)))))))
def f_X12_open (a1 : Int32) (a2 : Int32) (w : Wd) : Option (Int32 × Wd) :=
  bR (f_X12_isBag a1) fun r1 =>
  if r1 = (0 : Int32) then
    (some ((-1 : Int32), w))
  else
    (ldI w 78 8 (5 : Int32) fun v2 =>
    if v2 < (0 : Int32) then
      (stI w 54 44 a2 fun w3 =>
      bW (f_X12_drawStones a1 w3) fun r4 w5 =>
      saI w5 78 8 (5 : Int32) r4 fun w6 =>
      saI w6 78 8 (6 : Int32) (0 : Int32) fun w7 =>
      saI w7 78 8 (7 : Int32) (gi w7 54 44) fun w8 =>
      some (a1, w8))
    else
      (some ((-5 : Int32), w)))
def f_X12_look (a1 : Int32) (w : Wd) : Option (Int32 × Wd) :=
  bR (f_X12_isLooker a1 w) fun r1 =>
  if r1 = (0 : Int32) then
    (some ((-1 : Int32), w))
  else
    (ldI w 78 8 (5 : Int32) fun v2 =>
    if (0 : Int32) ≤ v2 then
      (ldI w 78 8 (7 : Int32) fun v3 =>
      stI w 54 44 v3 fun w4 =>
      ldI w4 78 8 (5 : Int32) fun v5 =>
      ldI w4 78 8 (6 : Int32) fun v6 =>
      bW (f_X12_findsBy a1 v6 (gi w4 54 8) w4) fun r7 w8 =>
      bW (f_X12_drawFound v5 r7 w8) fun r9 w10 =>
      saI w10 78 8 (7 : Int32) (gi w10 54 44) fun w11 =>
      ldI w11 78 8 (5 : Int32) fun v12 =>
      saI w11 78 8 (5 : Int32) (v12 - r9) fun w13 =>
      ldI w13 78 8 (6 : Int32) fun v14 =>
      saI w13 78 8 (6 : Int32) (v14 + (1 : Int32)) fun w15 =>
      ldI w15 78 8 (1 : Int32) fun v16 =>
      saI w15 78 8 (1 : Int32) (v16 + (1 : Int32)) fun w17 =>
      ldI w17 78 8 (2 : Int32) fun v18 =>
      saI w17 78 8 (2 : Int32) (v18 + r9) fun w19 =>
      ldI w19 78 8 (4 : Int32) fun v20 =>
      ldI w19 58 6 a1 fun v21 =>
      saI w19 78 8 (4 : Int32) (v20 + v21) fun w22 =>
      some (r9, w22))
    else
      (some ((-5 : Int32), w)))
def f_X12_eat (w : Wd) : Option (Int32 × Wd) :=
  ldI w 78 8 (5 : Int32) fun v1 =>
  if (0 : Int32) ≤ v1 then
    (ldI w 78 8 (5 : Int32) fun v2 =>
    ldI w 78 8 (0 : Int32) fun v3 =>
    saI w 78 8 (0 : Int32) (v3 + (1 : Int32)) fun w4 =>
    ldI w4 78 8 (3 : Int32) fun v5 =>
    saI w4 78 8 (3 : Int32) (v5 + v2) fun w6 =>
    ldI w6 78 8 (4 : Int32) fun v7 =>
    saI w6 78 8 (4 : Int32) (v7 + ((gi w6 54 9) * v2)) fun w8 =>
    saI w8 78 8 (5 : Int32) (-1 : Int32) fun w9 =>
    some (v2, w9))
  else
    (some ((-5 : Int32), w))
def f_X12_led (a1 : Int32) (w : Wd) : Option Int32 :=
  if a1 = (5 : Int32) then
    (ldI w 78 8 (5 : Int32) fun v3 =>
    if (0 : Int32) ≤ v3 then
      (ldI w 78 8 (6 : Int32) fun v4 =>
      some v4)
    else
      (some (-5 : Int32)))
  else
    (bR (f_X12_in a1 (0 : Int32) (4 : Int32)) fun r1 =>
    if r1 = (0 : Int32) then
      (some (-1 : Int32))
    else
      (ldI w 78 8 a1 fun v2 =>
      some v2))
def f_X12_image_b7_y (k7 : Int32 → Wd → Option (Int32 × Wd)) (x1 : Int32) (w : Wd) : Option (Int32 × Wd) :=
  if (8 : Int32) ≤ x1 then
    (ldI w 78 8 (0 : Int32) fun v2 =>
    some (v2, w))
  else
    (ldI w 78 8 x1 fun v3 =>
    saI w 79 8 x1 v3 fun w4 =>
    k7 (x1 + (1 : Int32)) w4)
def f_X12_image_b7 : Nat → Int32 → Wd → Option (Int32 × Wd)
  | 0 => fun _ _ => none
  | n + 1 => f_X12_image_b7_y (f_X12_image_b7 n)
def f_X12_image (w : Wd) : Option (Int32 × Wd) :=
  stZ w 54 47 (1 : Int32) fun w1 =>
  f_X12_image_b7 fu (0 : Int32) w1
def f_X12_back_b12_y (k12 : Int32 → Wd → Option (Int32 × Wd)) (x1 : Int32) (w : Wd) : Option (Int32 × Wd) :=
  if (8 : Int32) ≤ x1 then
    (ldI w 78 8 (0 : Int32) fun v1 =>
    some (v1, w))
  else
    (ldI w 79 8 x1 fun v2 =>
    saI w 78 8 x1 v2 fun w3 =>
    k12 (x1 + (1 : Int32)) w3)
def f_X12_back_b12 : Nat → Int32 → Wd → Option (Int32 × Wd)
  | 0 => fun _ _ => none
  | n + 1 => f_X12_back_b12_y (f_X12_back_b12 n)
def f_X12_back (w : Wd) : Option (Int32 × Wd) :=
  if (gi w 54 47) = (0 : Int32) then
    (some ((-5 : Int32), w))
  else
    (f_X12_back_b12 fu (0 : Int32) w)
def f_X12_isBody (a1 : Int32) (w : Wd) : Option Int32 :=
  bR (f_X12_in a1 (0 : Int32) ((gi w 54 48) - (1 : Int32))) fun r1 =>
  zb r1 (some r1)
def f_X12_ran_b19 (w : Wd) : Option Wd :=
  stI w 54 50 ((gi w 54 50) + (1 : Int32)) fun w1 =>
  some w1
def f_X12_ran (a1 : Int32) (w : Wd) : Option Wd :=
  if (24 : Int32) ≤ (gi w 54 50) then
    (f_X12_ran_b19 w)
  else
    (saI w 81 24 (gi w 54 50) a1 fun w2 =>
    f_X12_ran_b19 w2)
def f_X12_trace (a1 : Int32) (w : Wd) : Option Int32 :=
  if a1 < (0 : Int32) then
    (some (-1 : Int32))
  else
    (if (gi w 54 50) ≤ a1 then
      (some (-1 : Int32))
    else
      (if (24 : Int32) ≤ a1 then
        (some (-1 : Int32))
      else
        (ldI w 81 24 a1 fun v1 =>
        some v1)))
def f_X12_body (a1 : Int32) (w : Wd) : Option (Int32 × Wd) :=
  bR (f_X12_in a1 (0 : Int32) (7 : Int32)) fun r1 =>
  if r1 = (0 : Int32) then
    (some ((-1 : Int32), w))
  else
    (if (gi w 54 48) = (50 : Int32) then
      (some ((-3 : Int32), w))
    else
      (saI w 80 50 (gi w 54 48) a1 fun w2 =>
      stI w2 54 48 ((gi w2 54 48) + (1 : Int32)) fun w3 =>
      some (((gi w3 54 48) - (1 : Int32)), w3)))
def f_X12_isUnder_b44 (x0 : Int32) (x1 : Int32) : Option Int32 :=
  if x1 = (6 : Int32) then
    (if x0 = (7 : Int32) then
      (some (1 : Int32))
    else
      (some (0 : Int32)))
  else
    (some (0 : Int32))
def f_X12_isUnder_b34 (x0 : Int32) (x1 : Int32) : Option Int32 :=
  if x1 = (3 : Int32) then
    (if x0 = (5 : Int32) then
      (some (1 : Int32))
    else
      (f_X12_isUnder_b44 x0 x1))
  else
    (f_X12_isUnder_b44 x0 x1)
def f_X12_isUnder_b19 (x0 : Int32) (x1 : Int32) : Option Int32 :=
  if x1 = (2 : Int32) then
    (if x0 = (3 : Int32) then
      (some (1 : Int32))
    else
      (if x0 = (5 : Int32) then
        (some (1 : Int32))
      else
        (f_X12_isUnder_b34 x0 x1)))
  else
    (f_X12_isUnder_b34 x0 x1)
def f_X12_isUnder (a0 : Int32) (a1 : Int32) : Option Int32 :=
  if a1 = (0 : Int32) then
    (some (1 : Int32))
  else
    (if a0 = a1 then
      (some (1 : Int32))
    else
      (if a1 = (1 : Int32) then
        (if a0 = (4 : Int32) then
          (some (1 : Int32))
        else
          (f_X12_isUnder_b19 a0 a1))
      else
        (f_X12_isUnder_b19 a0 a1)))
def f_X12_plainPicks (a1 : Int32) (a2 : Int32) (w : Wd) : Option (Int32 × Wd) :=
  bV (f_X12_ran (1 : Int32) w) fun w1 =>
  some ((a2 + a1), w1)
def f_X12_countedPicks (a1 : Int32) (a2 : Int32) (w : Wd) : Option (Int32 × Wd) :=
  bV (f_X12_ran (70 : Int32) w) fun w1 =>
  bW (f_X12_plainPicks a1 a2 w1) fun r2 w3 =>
  some ((r2 * (2 : Int32)), w3)
def f_X12_picking (a1 : Int32) (a2 : Int32) (w : Wd) : Option (Int32 × Wd) :=
  ldI w 80 50 a1 fun v1 =>
  bR (f_X12_isUnder v1 (1 : Int32)) fun r2 =>
  if r2 = (0 : Int32) then
    (ldI w 80 50 a1 fun v3 =>
    if v3 = (7 : Int32) then
      (bV (f_X12_ran (81 : Int32) w) fun w9 =>
      bW (f_X12_countedPicks a1 a2 w9) fun r10 w11 =>
      some ((r10 - (1 : Int32)), w11))
    else
      (ldI w 80 50 a1 fun v4 =>
      if v4 = (6 : Int32) then
        (bW (f_X12_countedPicks a1 a2 w) fun r7 w8 =>
        some (r7, w8))
      else
        (bW (f_X12_plainPicks a1 a2 w) fun r5 w6 =>
        some (r5, w6))))
  else
    (bV (f_X12_ran (20 : Int32) w) fun w12 =>
    bW (f_X12_plainPicks a1 a2 w12) fun r13 w14 =>
    some ((r13 + (3 : Int32)), w14))
def f_X12_plainFinds (a1 : Int32) (a2 : Int32) (w : Wd) : Option (Int32 × Wd) :=
  bV (f_X12_ran (10 : Int32) w) fun w1 =>
  bW (f_X12_picking a1 a2 w1) fun r2 w3 =>
  some ((r2 * (2 : Int32)), w3)
def f_X12_slowFinds (a1 : Int32) (a2 : Int32) (w : Wd) : Option (Int32 × Wd) :=
  bV (f_X12_ran (30 : Int32) w) fun w1 =>
  bW (f_X12_plainFinds a1 a2 w1) fun r2 w3 =>
  some ((-r2), w3)
def f_X12_plainLeaves (a1 : Int32) (a2 : Int32) (w : Wd) : Option (Int32 × Wd) :=
  bV (f_X12_ran (11 : Int32) w) fun w1 =>
  some ((a2 ^^^ a1), w1)
def f_X12_lampedLeaves (a1 : Int32) (a2 : Int32) (w : Wd) : Option (Int32 × Wd) :=
  bV (f_X12_ran (40 : Int32) w) fun w1 =>
  bW (f_X12_plainLeaves a1 a2 w1) fun r2 w3 =>
  some ((r2 * (3 : Int32)), w3)
def f_X12_leaving (a1 : Int32) (a2 : Int32) (w : Wd) : Option (Int32 × Wd) :=
  ldI w 80 50 a1 fun v1 =>
  if v1 = (5 : Int32) then
    (bV (f_X12_ran (60 : Int32) w) fun w7 =>
    bW (f_X12_lampedLeaves a1 a2 w7) fun r8 w9 =>
    bW (f_X12_picking a1 (2 : Int32) w9) fun r10 w11 =>
    some ((r8 - r10), w11))
  else
    (ldI w 80 50 a1 fun v2 =>
    if v2 = (3 : Int32) then
      (bW (f_X12_lampedLeaves a1 a2 w) fun r5 w6 =>
      some (r5, w6))
    else
      (bW (f_X12_plainLeaves a1 a2 w) fun r3 w4 =>
      some (r3, w4)))
def f_X12_finding (a1 : Int32) (a2 : Int32) (w : Wd) : Option (Int32 × Wd) :=
  ldI w 80 50 a1 fun v1 =>
  bR (f_X12_isUnder v1 (3 : Int32)) fun r2 =>
  if r2 = (0 : Int32) then
    (ldI w 80 50 a1 fun v3 =>
    if v3 = (7 : Int32) then
      (bV (f_X12_ran (80 : Int32) w) fun w9 =>
      bW (f_X12_plainFinds a1 a2 w9) fun r10 w11 =>
      bW (f_X12_leaving a1 (2 : Int32) w11) fun r12 w13 =>
      some ((r10 + r12), w13))
    else
      (ldI w 80 50 a1 fun v4 =>
      if v4 = (2 : Int32) then
        (bW (f_X12_slowFinds a1 a2 w) fun r7 w8 =>
        some (r7, w8))
      else
        (bW (f_X12_plainFinds a1 a2 w) fun r5 w6 =>
        some (r5, w6))))
  else
    (bV (f_X12_ran (41 : Int32) w) fun w14 =>
    bW (f_X12_slowFinds a1 (a2 + (1 : Int32)) w14) fun r15 w16 =>
    some (r15, w16))
def f_X12_plainTells (a1 : Int32) (a2 : Int32) (w : Wd) : Option (Int32 × Wd) :=
  bV (f_X12_ran (2 : Int32) w) fun w1 =>
  bW (f_X12_finding a1 a2 w1) fun r2 w3 =>
  bW (f_X12_leaving a1 (1 : Int32) w3) fun r4 w5 =>
  some ((r2 - r4), w5)
def f_X12_telling (a1 : Int32) (a2 : Int32) (w : Wd) : Option (Int32 × Wd) :=
  ldI w 80 50 a1 fun v1 =>
  if v1 = (4 : Int32) then
    (bV (f_X12_ran (50 : Int32) w) fun w8 =>
    bW (f_X12_plainTells a1 a2 w8) fun r9 w10 =>
    some ((r9 ^^^ (5 : Int32)), w10))
  else
    (ldI w 80 50 a1 fun v2 =>
    if v2 = (5 : Int32) then
      (bV (f_X12_ran (61 : Int32) w) fun w5 =>
      bW (f_X12_plainTells a1 a2 w5) fun r6 w7 =>
      some ((r6 + (1 : Int32)), w7))
    else
      (bW (f_X12_plainTells a1 a2 w) fun r3 w4 =>
      some (r3, w4)))
def f_X12_act (a1 : Int32) (a2 : Int32) (a3 : Int32) (w : Wd) : Option (Int32 × Wd) :=
  stI w 54 50 (0 : Int32) fun w1 =>
  bR (f_X12_isBody a1 w1) fun r2 =>
  if r2 = (0 : Int32) then
    (some ((0 : Int32), w1))
  else
    (bR (f_X12_in a2 (0 : Int32) (3 : Int32)) fun r3 =>
    if r3 = (0 : Int32) then
      (some ((0 : Int32), w1))
    else
      (if a2 = (0 : Int32) then
        (bW (f_X12_picking a1 a3 w1) fun r10 w11 =>
        some (r10, w11))
      else
        (if a2 = (1 : Int32) then
          (bW (f_X12_finding a1 a3 w1) fun r8 w9 =>
          some (r8, w9))
        else
          (if a2 = (2 : Int32) then
            (bW (f_X12_leaving a1 a3 w1) fun r6 w7 =>
            some (r6, w7))
          else
            (bW (f_X12_telling a1 a3 w1) fun r4 w5 =>
            some (r4, w5))))))
def f_X12_count (a1 : Int32) (w : Wd) : Option Int32 :=
  if a1 = (0 : Int32) then
    (some (gi w 54 3))
  else
    (if a1 = (1 : Int32) then
      (some (gi w 54 18))
    else
      (if a1 = (2 : Int32) then
        (some (gi w 54 11))
      else
        (if a1 = (3 : Int32) then
          (some (gi w 54 48))
        else
          (if a1 = (4 : Int32) then
            (some (gi w 54 50))
          else
            (some (-1 : Int32))))))
def f_X12_keep_b22 (x1 : Int32) (x2 : Int32) (w : Wd) : Option (Int32 × Wd) :=
  saI w 82 6 x1 x2 fun w2 =>
  some ((1 : Int32), w2)
def f_X12_keep (a1 : Int32) (a2 : Int32) (w : Wd) : Option (Int32 × Wd) :=
  bR (f_X12_isShelf a1) fun r1 =>
  if r1 = (0 : Int32) then
    (some ((-1 : Int32), w))
  else
    (if a2 = (-1 : Int32) then
      (f_X12_keep_b22 a1 a2 w)
    else
      (bR (f_X12_isBody a2 w) fun r3 =>
      if r3 = (0 : Int32) then
        (some ((-1 : Int32), w))
      else
        (f_X12_keep_b22 a1 a2 w)))
def f_X12_row_b54_y (k54 : Int32 → Int32 → Wd → Option (Int32 × Wd)) (x1 : Int32) (x4 : Int32) (w : Wd) : Option (Int32 × Wd) :=
  if (((60 : Int32) * x1) + (60 : Int32)) ≤ x4 then
    (some ((1 : Int32), w))
  else
    (saL w 84 360 x4 (0 : Int64) fun w6 =>
    k54 x1 (x4 + (1 : Int32)) w6)
def f_X12_row_b54 : Nat → Int32 → Int32 → Wd → Option (Int32 × Wd)
  | 0 => fun _ _ _ => none
  | n + 1 => f_X12_row_b54_y (f_X12_row_b54 n)
def f_X12_row (a1 : Int32) (a2 : Int32) (a3 : Int32) (w : Wd) : Option (Int32 × Wd) :=
  bR (f_X12_isShelf a1) fun r1 =>
  if r1 = (0 : Int32) then
    (some ((-1 : Int32), w))
  else
    (bR (f_X12_in a2 (0 : Int32) (4 : Int32)) fun r2 =>
    if r2 = (0 : Int32) then
      (some ((-1 : Int32), w))
    else
      (if a3 ≤ (60 : Int32) then
        (if (0 : Int32) ≤ a3 then
          (saI w 82 6 a1 ((-2 : Int32) - a2) fun w3 =>
          saI w3 83 6 a1 a3 fun w4 =>
          lt ((60 : Int32) * a1) fun y5 =>
          f_X12_row_b54 fu a1 y5 w4)
        else
          (some ((-14 : Int32), w)))
      else
        (some ((-1 : Int32), w))))
def f_X12_whyNoPlace (a1 : Int32) (a2 : Int32) (w : Wd) : Option Int32 :=
  bR (f_X12_isShelf a1) fun r1 =>
  if r1 = (0 : Int32) then
    (some (-1 : Int32))
  else
    (ldI w 82 6 a1 fun v2 =>
    if v2 = (-1 : Int32) then
      (some (-11 : Int32))
    else
      (ldI w 82 6 a1 fun v3 =>
      if v3 < (0 : Int32) then
        (ldI w 83 6 a1 fun v4 =>
        bR (f_X12_in a2 (0 : Int32) (v4 - (1 : Int32))) fun r5 =>
        if r5 = (0 : Int32) then
          (some (-13 : Int32))
        else
          (some (0 : Int32)))
      else
        (some (-12 : Int32))))
def f_X12_put_b95 (s0 : Int64) (s1 : Int32) (w : Wd) : Option (Int32 × Wd) :=
  saL w 84 360 s1 s0 fun w4 =>
  some ((1 : Int32), w4)
def f_X12_put (a1 : Int32) (a2 : Int32) (a3 : Int64) (w : Wd) : Option (Int32 × Wd) :=
  bR (f_X12_whyNoPlace a1 a2 w) fun r1 =>
  if (0 : Int32) ≤ r1 then
    (ldI w 82 6 a1 fun v2 =>
    lt ((-2 : Int32) - v2) fun y3 =>
    if y3 = (0 : Int32) then
      (f_X12_put_b95 (Int32.toInt64 (i2b (Int64.toInt32 a3))) (((60 : Int32) * a1) + a2) w)
    else
      (if y3 = (1 : Int32) then
        (f_X12_put_b95 (Int32.toInt64 (i2s (Int64.toInt32 a3))) (((60 : Int32) * a1) + a2) w)
      else
        (if y3 = (2 : Int32) then
          (f_X12_put_b95 (Int32.toInt64 (Int64.toInt32 a3)) (((60 : Int32) * a1) + a2) w)
        else
          (if y3 = (3 : Int32) then
            (f_X12_put_b95 a3 (((60 : Int32) * a1) + a2) w)
          else
            (if a3 = (0 : Int64) then
              (f_X12_put_b95 (0 : Int64) (((60 : Int32) * a1) + a2) w)
            else
              (f_X12_put_b95 (1 : Int64) (((60 : Int32) * a1) + a2) w))))))
  else
    (some (r1, w))
def f_X12_element (a1 : Int32) (a2 : Int32) (w : Wd) : Option Int64 :=
  bR (f_X12_whyNoPlace a1 a2 w) fun r1 =>
  if (0 : Int32) ≤ r1 then
    (ldL w 84 360 (((60 : Int32) * a1) + a2) fun v2 =>
    some v2)
  else
    (some (-9223372036854775808 : Int64))
def f_X12_shift_b150_y (k150 : Int32 → Int32 → Int32 → Int32 → Wd → Option (Int32 × Wd)) (x3 : Int32) (x4 : Int32) (x5 : Int32) (x6 : Int32) (w : Wd) : Option (Int32 × Wd) :=
  if x5 ≤ x6 then
    (some (x5, w))
  else
    (ldL w 85 60 x6 fun v10 =>
    saL w 84 360 ((((60 : Int32) * x3) + x4) + x6) v10 fun w11 =>
    k150 x3 x4 x5 (x6 + (1 : Int32)) w11)
def f_X12_shift_b150 : Nat → Int32 → Int32 → Int32 → Int32 → Wd → Option (Int32 × Wd)
  | 0 => fun _ _ _ _ _ => none
  | n + 1 => f_X12_shift_b150_y (f_X12_shift_b150 n)
def f_X12_shift_b113_y (k113 : Int32 → Int32 → Int32 → Int32 → Int32 → Int32 → Wd → Option (Int32 × Wd)) (x1 : Int32) (x2 : Int32) (x3 : Int32) (x4 : Int32) (x5 : Int32) (x6 : Int32) (w : Wd) : Option (Int32 × Wd) :=
  if x5 ≤ x6 then
    (f_X12_shift_b150 fu x3 x4 x5 (0 : Int32) w)
  else
    (ldL w 84 360 ((((60 : Int32) * x1) + x2) + x6) fun v12 =>
    saL w 85 60 x6 v12 fun w13 =>
    k113 x1 x2 x3 x4 x5 (x6 + (1 : Int32)) w13)
def f_X12_shift_b113 : Nat → Int32 → Int32 → Int32 → Int32 → Int32 → Int32 → Wd → Option (Int32 × Wd)
  | 0 => fun _ _ _ _ _ _ _ => none
  | n + 1 => f_X12_shift_b113_y (f_X12_shift_b113 n)
def f_X12_shift (a1 : Int32) (a2 : Int32) (a3 : Int32) (a4 : Int32) (a5 : Int32) (w : Wd) : Option (Int32 × Wd) :=
  bR (f_X12_isShelf a1) fun r1 =>
  if r1 = (0 : Int32) then
    (some ((-1 : Int32), w))
  else
    (bR (f_X12_isShelf a3) fun r2 =>
    if r2 = (0 : Int32) then
      (some ((-1 : Int32), w))
    else
      (ldI w 82 6 a1 fun v3 =>
      if v3 = (-1 : Int32) then
        (some ((-11 : Int32), w))
      else
        (ldI w 82 6 a3 fun v4 =>
        if v4 = (-1 : Int32) then
          (some ((-11 : Int32), w))
        else
          (ldI w 82 6 a1 fun v5 =>
          if (0 : Int32) ≤ v5 then
            (some ((-12 : Int32), w))
          else
            (ldI w 82 6 a1 fun v6 =>
            ldI w 82 6 a3 fun v7 =>
            if v6 = v7 then
              (if a5 < (0 : Int32) then
                (some ((-13 : Int32), w))
              else
                (if a2 < (0 : Int32) then
                  (some ((-13 : Int32), w))
                else
                  (if a4 < (0 : Int32) then
                    (some ((-13 : Int32), w))
                  else
                    (ldI w 83 6 a1 fun v8 =>
                    if (v8 - a5) < a2 then
                      (some ((-13 : Int32), w))
                    else
                      (ldI w 83 6 a3 fun v9 =>
                      if a4 ≤ (v9 - a5) then
                        (f_X12_shift_b113 fu a1 a2 a3 a4 a5 (0 : Int32) w)
                      else
                        (some ((-13 : Int32), w)))))))
            else
              (some ((-12 : Int32), w)))))))
def f_X12_taken (a1 : Int32) (a2 : Int32) (w : Wd) : Option Int32 :=
  bR (f_X12_isShelf a1) fun r1 =>
  if r1 = (0 : Int32) then
    (some (-1 : Int32))
  else
    (bR (f_X12_in a2 (0 : Int32) (7 : Int32)) fun r2 =>
    if r2 = (0 : Int32) then
      (some (-1 : Int32))
    else
      (ldI w 82 6 a1 fun v3 =>
      if v3 = (-1 : Int32) then
        (some (-11 : Int32))
      else
        (ldI w 82 6 a1 fun v4 =>
        if v4 < (0 : Int32) then
          (some (-12 : Int32))
        else
          (ldI w 82 6 a1 fun v5 =>
          ldI w 80 50 v5 fun v6 =>
          bR (f_X12_isUnder v6 a2) fun r7 =>
          if r7 = (0 : Int32) then
            (some (-12 : Int32))
          else
            (ldI w 82 6 a1 fun v8 =>
            ldI w 80 50 v8 fun v9 =>
            some v9)))))
