def Co_clear (r0 : Nat) (u : zM) : Option (Unit × zM) :=
  if layC r0 = (10, 16) then (zlet (sI u (r0 + 1) 1 0) (fun u1 => zlet (sI u1 (r0 + 3) 1 0) (fun u2 => zlet (sI u2 (r0 + 5) 1 0) (fun u3 => zlet (sI u3 (r0 + 7) 1 0) (fun u4 => zlet (sI u4 r0 14 0) (fun u5 => zlet (sI u5 r0 15 0) (fun u6 => zlet (sI u6 (r0 + 18) 2 0) (fun u7 => some ((), u7))))))))) else none
def Ta_readWord_74 (u : zM) : Option (Unit × zM) :=
  if 8 < ((gI u 2 2) - (gI u 2 3)) then (zlet (sI u 2 4 4) (fun u1 => some ((), u1))) else (zlet (sI u 2 4 1) (fun u2 => some ((), u2)))
def Ta_readWord_0b (zr0 : zM → Option (Unit × zM)) (u : zM) : Option (Unit × zM) :=
  if (gI u 2 1) ≤ (gI u 2 2) then (Ta_readWord_74 u) else (if ib (gI u 2 2) 1000 = true then (if (gI u 3 (ix (gI u 2 2))) < 97 then (Ta_readWord_74 u) else (if ib (gI u 2 2) 1000 = true then (if 122 < (gI u 3 (ix (gI u 2 2))) then (Ta_readWord_74 u) else (if ib (gI u 2 2) 1000 = true then (zlet (sL u 2 5 (((gL u 2 5) <<< (Int32.toInt64 8 &&& 63)) ||| (Int32.toInt64 (gI u 3 (ix (gI u 2 2)))))) (fun u1 => zlet (sI u1 2 2 ((gI u1 2 2) + 1)) (fun u2 => zr0 u2))) else none)) else none)) else none)
def Ta_readWord_0 : Nat → zM → Option (Unit × zM)
  | 0 => fun _ => none
  | zf + 1 => Ta_readWord_0b (Ta_readWord_0 zf)
def Ta_readWord (u : zM) : Option (Unit × zM) :=
  Ta_readWord_0 zF u
def Ta_readNumber_78 (u : zM) : Option (Unit × zM) :=
  if 4 < ((gI u 2 2) - (gI u 2 3)) then (zlet (sI u 2 4 4) (fun u1 => some ((), u1))) else (zlet (sI u 2 4 2) (fun u2 => some ((), u2)))
def Ta_readNumber_0b (zr0 : zM → Option (Unit × zM)) (u : zM) : Option (Unit × zM) :=
  if (gI u 2 1) ≤ (gI u 2 2) then (Ta_readNumber_78 u) else (if ib (gI u 2 2) 1000 = true then (if (gI u 3 (ix (gI u 2 2))) < 48 then (Ta_readNumber_78 u) else (if ib (gI u 2 2) 1000 = true then (if 57 < (gI u 3 (ix (gI u 2 2))) then (Ta_readNumber_78 u) else (if ib (gI u 2 2) 1000 = true then (zlet (sL u 2 5 (((gL u 2 5) * 10) + (Int32.toInt64 ((gI u 3 (ix (gI u 2 2))) - 48)))) (fun u1 => zlet (sI u1 2 2 ((gI u1 2 2) + 1)) (fun u2 => zr0 u2))) else none)) else none)) else none)
def Ta_readNumber_0 : Nat → zM → Option (Unit × zM)
  | 0 => fun _ => none
  | zf + 1 => Ta_readNumber_0b (Ta_readNumber_0 zf)
def Ta_readNumber (u : zM) : Option (Unit × zM) :=
  Ta_readNumber_0 zF u
def Ta_isSign (v0 : Int32) (u : zM) : Option (Int32 × zM) :=
  if v0 = 40 then (some (1, u)) else (if v0 = 41 then (some (1, u)) else (if v0 = 60 then (some (1, u)) else (if v0 = 61 then (some (1, u)) else (if v0 = 43 then (some (1, u)) else (if v0 = 45 then (some (1, u)) else (if v0 = 42 then (some (1, u)) else (if v0 = 59 then (some (1, u)) else (some (0, u)))))))))
def Ta_step_154 (u : zM) : Option (Unit × zM) :=
  if ib (gI u 2 2) 1000 = true then (zlet (sL u 2 5 (Int32.toInt64 (gI u 3 (ix (gI u 2 2))))) (fun u1 => if ib (gI u1 2 2) 1000 = true then (zb (Ta_isSign (gI u1 3 (ix (gI u1 2 2))) u1) (fun c1 u2 => if c1 = 0 then (zlet (sI u2 2 4 4) (fun u3 => zlet (sI u3 2 2 ((gI u3 2 2) + 1)) (fun u4 => some ((), u4)))) else (zlet (sI u2 2 4 3) (fun u5 => zlet (sI u5 2 2 ((gI u5 2 2) + 1)) (fun u6 => some ((), u6)))))) else none)) else none
def Ta_step_119 (u : zM) : Option (Unit × zM) :=
  if ib (gI u 2 2) 1000 = true then (if (gI u 3 (ix (gI u 2 2))) < 48 then (Ta_step_154 u) else (if ib (gI u 2 2) 1000 = true then (if 57 < (gI u 3 (ix (gI u 2 2))) then (Ta_step_154 u) else (zb (Ta_readNumber u) (fun _ u1 => some ((), u1)))) else none)) else none
def Ta_step_52 (u : zM) : Option (Unit × zM) :=
  zlet (sI u 2 3 (gI u 2 2)) (fun u1 => zlet (sL u1 2 5 0) (fun u2 => if (gI u2 2 2) < (gI u2 2 1) then (if ib (gI u2 2 2) 1000 = true then (if (gI u2 3 (ix (gI u2 2 2))) < 97 then (Ta_step_119 u2) else (if ib (gI u2 2 2) 1000 = true then (if 122 < (gI u2 3 (ix (gI u2 2 2))) then (Ta_step_119 u2) else (zb (Ta_readWord u2) (fun _ u3 => some ((), u3)))) else none)) else none) else (zlet (sI u2 2 4 0) (fun u4 => some ((), u4)))))
def Ta_step_0b (zr0 : zM → Option (Unit × zM)) (u : zM) : Option (Unit × zM) :=
  if (gI u 2 1) ≤ (gI u 2 2) then (Ta_step_52 u) else (if ib (gI u 2 2) 1000 = true then (if (gI u 3 (ix (gI u 2 2))) = 10 then (zlet (sI u 2 2 ((gI u 2 2) + 1)) (fun u1 => zr0 u1)) else (if ib (gI u 2 2) 1000 = true then (if (gI u 3 (ix (gI u 2 2))) = 32 then (zlet (sI u 2 2 ((gI u 2 2) + 1)) (fun u2 => zr0 u2)) else (Ta_step_52 u)) else none)) else none)
def Ta_step_0 : Nat → zM → Option (Unit × zM)
  | 0 => fun _ => none
  | zf + 1 => Ta_step_0b (Ta_step_0 zf)
def Ta_step (u : zM) : Option (Unit × zM) :=
  Ta_step_0 zF u
def Ta_begin (u : zM) : Option (Unit × zM) :=
  zlet (sI u 2 2 0) (fun u1 => zlet (sI u1 2 6 0) (fun u2 => zb (Ta_step u2) (fun _ u3 => some ((), u3))))
def Ta_isFine (u : zM) : Option (Int32 × zM) :=
  if (gI u 2 6) = 0 then (some (1, u)) else (some (0, u))
def Ta_atWord (v1 : Int64) (u : zM) : Option (Int32 × zM) :=
  if (gI u 2 6) = 0 then (if (gI u 2 4) = 1 then (if (lg_cmp (gL u 2 5) v1) = 0 then (some (1, u)) else (some (0, u))) else (some (0, u))) else (some (0, u))
def Na_isFull (r0 : Nat) (u : zM) : Option (Int32 × zM) :=
  if layC r0 = (13, 2) then (if (gI u r0 1) < (Nat.toInt32 ((layC (r0 + 1)).2)) then (some (0, u)) else (some (1, u))) else none
def Ta_failAt (v1 : Int32) (v2 : Int32) (u : zM) : Option (Unit × zM) :=
  if (gI u 2 6) = 0 then (zlet (sI u 2 6 (v1 + (16 * v2))) (fun u1 => some ((), u1))) else (some ((), u))
def Ta_fail (v1 : Int32) (u : zM) : Option (Unit × zM) :=
  zb (Ta_failAt v1 (gI u 2 3) u) (fun _ u1 => some ((), u1))
def Co_passFirst (v1 : Int32) (u : zM) : Option (Unit × zM) :=
  if v1 = 0 then (zb (Ta_step u) (fun _ u1 => some ((), u1))) else (zb (Ta_fail 5 u) (fun _ u2 => some ((), u2)))
def Ta_isKept_2b (zr2 : Int64 → Int32 → zM → Option (Int32 × zM)) (v0 : Int64) (v2 : Int32) (u : zM) : Option (Int32 × zM) :=
  if 23 ≤ v2 then (some (0, u)) else (if ib v2 23 = true then (if (lg_cmp (zKept.getD (ix v2) 0) v0) = 0 then (some (1, u)) else (zr2 v0 (v2 + 1) u)) else none)
def Ta_isKept_2 : Nat → Int64 → Int32 → zM → Option (Int32 × zM)
  | 0 => fun _ _ _ => none
  | zf + 1 => Ta_isKept_2b (Ta_isKept_2 zf)
def Ta_isKept (v0 : Int64) (u : zM) : Option (Int32 × zM) :=
  Ta_isKept_2 zF v0 0 u
def Ta_atName (u : zM) : Option (Int32 × zM) :=
  if (gI u 2 6) = 0 then (if (gI u 2 4) = 1 then (zb (Ta_isKept (gL u 2 5) u) (fun c2 u2 => if c2 = 0 then (some (1, u2)) else (zb (Ta_fail 1 u2) (fun _ u3 => some (0, u3))))) else (zb (Ta_fail 1 u) (fun _ u1 => some (0, u1)))) else (some (0, u))
def Na_find_2b (zr2 : Nat → Int64 → Int32 → zM → Option (Int32 × zM)) (r0 : Nat) (v1 : Int64) (v3 : Int32) (u : zM) : Option (Int32 × zM) :=
  if layC r0 = (13, 2) then (if (gI u r0 1) ≤ v3 then (some ((-1), u)) else (if ib v3 ((layC (r0 + 1)).2) = true then (if (lg_cmp (gL u (r0 + 1) (ix v3)) v1) = 0 then (some (v3, u)) else (zr2 r0 v1 (v3 + 1) u)) else none)) else none
def Na_find_2 : Nat → Nat → Int64 → Int32 → zM → Option (Int32 × zM)
  | 0 => fun _ _ _ _ => none
  | zf + 1 => Na_find_2b (Na_find_2 zf)
def Na_find (r0 : Nat) (v1 : Int64) (u : zM) : Option (Int32 × zM) :=
  if layC r0 = (13, 2) then (Na_find_2 zF r0 v1 0 u) else none
def Co_isTold (r0 : Nat) (v1 : Int64) (u : zM) : Option (Int32 × zM) :=
  if layC r0 = (10, 16) then (zb (Na_find (r0 + 1) v1 u) (fun c1 u1 => if c1 = (-1) then (zb (Na_find (r0 + 3) v1 u1) (fun c2 u2 => if c2 = (-1) then (zb (Na_find (r0 + 5) v1 u2) (fun c3 u3 => if c3 = (-1) then (zb (Na_find (r0 + 7) v1 u3) (fun c4 u4 => if c4 = (-1) then (some (0, u4)) else (some (1, u4)))) else (some (1, u3)))) else (some (1, u2)))) else (some (1, u1)))) else none
def Co_passNewName (r0 : Nat) (u : zM) : Option (Int64 × zM) :=
  if layC r0 = (10, 16) then (zb (Ta_atName u) (fun c1 u1 => if c1 = 0 then (some (0, u1)) else (zlet (gL u1 2 5) (fun x1 => zb (Co_isTold r0 x1 u1) (fun c2 u2 => if c2 = 0 then (zb (Ta_step u2) (fun _ u3 => some (x1, u3))) else (zb (Ta_fail 3 u2) (fun _ u4 => some (x1, u4)))))))) else none
def Ta_passWord (v1 : Int64) (u : zM) : Option (Unit × zM) :=
  zb (Ta_atWord v1 u) (fun c1 u1 => if c1 = 0 then (zb (Ta_fail 1 u1) (fun _ u2 => some ((), u2))) else (zb (Ta_step u1) (fun _ u3 => some ((), u3))))
def Ta_atNumber (u : zM) : Option (Int32 × zM) :=
  if (gI u 2 6) = 0 then (if (gI u 2 4) = 2 then (some (1, u)) else (some (0, u))) else (some (0, u))
def Ta_passNumber (v1 : Int32) (v2 : Int32) (u : zM) : Option (Int32 × zM) :=
  zb (Ta_atNumber u) (fun c1 u1 => if c1 = 0 then (zb (Ta_fail 1 u1) (fun _ u5 => some (v1, u5))) else (if (lg_cmp (gL u1 2 5) (Int32.toInt64 v1)) < 0 then (zb (Ta_fail 4 u1) (fun _ u2 => some (v1, u2))) else (if (lg_cmp (gL u1 2 5) (Int32.toInt64 v2)) ≤ 0 then (zlet (Int64.toInt32 (gL u1 2 5)) (fun x1 => zb (Ta_step u1) (fun _ u3 => some (x1, u3)))) else (zb (Ta_fail 4 u1) (fun _ u4 => some (v1, u4))))))
def Ta_atSign (v1 : Int32) (u : zM) : Option (Int32 × zM) :=
  if (gI u 2 6) = 0 then (if (gI u 2 4) = 3 then (if (lg_cmp (gL u 2 5) (Int32.toInt64 v1)) = 0 then (some (1, u)) else (some (0, u))) else (some (0, u))) else (some (0, u))
def Ta_passSign (v1 : Int32) (u : zM) : Option (Unit × zM) :=
  zb (Ta_atSign v1 u) (fun c1 u1 => if c1 = 0 then (zb (Ta_fail 1 u1) (fun _ u2 => some ((), u2))) else (zb (Ta_step u1) (fun _ u3 => some ((), u3))))
def Na_put (r0 : Nat) (v1 : Int64) (u : zM) : Option (Int32 × zM) :=
  if layC r0 = (13, 2) then (if (gI u r0 1) < (Nat.toInt32 ((layC (r0 + 1)).2)) then (if ib (gI u r0 1) ((layC (r0 + 1)).2) = true then (zlet (sL u (r0 + 1) (ix (gI u r0 1)) v1) (fun u1 => zlet (sI u1 r0 1 ((gI u1 r0 1) + 1)) (fun u2 => some (((gI u2 r0 1) - 1), u2)))) else none) else (some ((-1), u))) else none
def Co_readPlace_58 (r0 : Nat) (v4 : Int32) (s0 : Int32) (u : zM) : Option (Unit × zM) :=
  if layC r0 = (10, 16) then (if s0 = (-1) then (some ((), u)) else (if ib s0 7 = true then (zlet (sI u (r0 + 9) (ix s0) v4) (fun u1 => if ib s0 7 = true then (zlet (sI u1 (r0 + 10) (ix s0) 0) (fun u2 => some ((), u2))) else none)) else none)) else none
def Co_readPlace (r0 : Nat) (u : zM) : Option (Unit × zM) :=
  if layC r0 = (10, 16) then (zb (Na_isFull (r0 + 1) u) (fun c1 u1 => zb (Co_passFirst c1 u1) (fun _ u2 => zb (Co_passNewName r0 u2) (fun c3 u3 => zb (Ta_passWord 512736126322 u3) (fun _ u4 => zb (Ta_passNumber 0 9 u4) (fun c5 u5 => zb (Ta_passSign 59 u5) (fun _ u6 => zb (Ta_isFine u6) (fun c7 u7 => if c7 = 0 then (Co_readPlace_58 r0 c5 (-1) u7) else (zb (Na_put (r0 + 1) c3 u7) (fun c8 u8 => Co_readPlace_58 r0 c5 c8 u8)))))))))) else none
def Ta_passTold (r1 : Nat) (u : zM) : Option (Int32 × zM) :=
  if layC r1 = (13, 2) then (zb (Ta_atName u) (fun c1 u1 => if c1 = 0 then (some ((-1), u1)) else (zb (Na_find r1 (gL u1 2 5) u1) (fun c2 u2 => if c2 = (-1) then (zb (Ta_fail 2 u2) (fun _ u4 => some ((-1), u4))) else (zb (Ta_step u2) (fun _ u3 => some (c2, u3))))))) else none
def Co_isLinked (r0 : Nat) (v1 : Int32) (v2 : Int32) (u : zM) : Option (Int32 × zM) :=
  if layC r0 = (10, 16) then (if ib v1 7 = true then (if (((gI u (r0 + 10) (ix v1)) >>> (v2 &&& 31)) &&& 1) = 0 then (some (0, u)) else (some (1, u))) else none) else none
def Co_flipLink (r0 : Nat) (v1 : Int32) (v2 : Int32) (u : zM) : Option (Unit × zM) :=
  if layC r0 = (10, 16) then (if ib v1 7 = true then (if ib v1 7 = true then (zlet (sI u (r0 + 10) (ix v1) ((gI u (r0 + 10) (ix v1)) ^^^ ((1 <<< (v2 &&& 31)) : Int32))) (fun u1 => if ib v2 7 = true then (if ib v2 7 = true then (zlet (sI u1 (r0 + 10) (ix v2) ((gI u1 (r0 + 10) (ix v2)) ^^^ ((1 <<< (v1 &&& 31)) : Int32))) (fun u2 => some ((), u2))) else none) else none)) else none) else none) else none
def Co_readStream_71 (r0 : Nat) (v2 : Int32) (v4 : Int32) (u : zM) : Option (Unit × zM) :=
  if layC r0 = (10, 16) then (zb (Ta_passSign 59 u) (fun _ u1 => zb (Ta_isFine u1) (fun c2 u2 => if c2 = 0 then (some ((), u2)) else (zb (Co_flipLink r0 v2 v4 u2) (fun _ u3 => zlet (sI u3 r0 15 ((gI u3 r0 15) + 1)) (fun u4 => some ((), u4))))))) else none
def Co_readStream_65 (r0 : Nat) (v2 : Int32) (v3 : Int32) (v4 : Int32) (u : zM) : Option (Unit × zM) :=
  if layC r0 = (10, 16) then (zb (Ta_failAt 3 v3 u) (fun _ u1 => Co_readStream_71 r0 v2 v4 u1)) else none
def Co_readStream_15 (r0 : Nat) (s1 : Int32) (u : zM) : Option (Unit × zM) :=
  if layC r0 = (10, 16) then (zb (Co_passFirst s1 u) (fun _ u1 => zb (Ta_passTold (r0 + 1) u1) (fun c2 u2 => zlet (gI u2 2 3) (fun x1 => zb (Ta_passTold (r0 + 1) u2) (fun c3 u3 => zb (Ta_isFine u3) (fun c4 u4 => if c4 = 0 then (Co_readStream_71 r0 c2 c3 u4) else (if c2 = c3 then (Co_readStream_65 r0 c2 x1 c3 u4) else (zb (Co_isLinked r0 c2 c3 u4) (fun c5 u5 => if c5 = 0 then (Co_readStream_71 r0 c2 c3 u5) else (Co_readStream_65 r0 c2 x1 c3 u5)))))))))) else none
def Co_readStream (r0 : Nat) (u : zM) : Option (Unit × zM) :=
  if layC r0 = (10, 16) then (if (gI u r0 15) < 10 then (Co_readStream_15 r0 0 u) else (Co_readStream_15 r0 1 u)) else none
def Co_passKind_59 (v1 : Int32) (u : zM) : Option (Int32 × zM) :=
  if v1 = (-1) then (zb (Ta_fail 1 u) (fun _ u2 => some (v1, u2))) else (zb (Ta_step u) (fun _ u1 => some (v1, u1)))
def Co_passKind (u : zM) : Option (Int32 × zM) :=
  zb (Ta_atWord 482854660462 u) (fun c1 u1 => if c1 = 0 then (zb (Ta_atWord 2002875001 u1) (fun c2 u2 => if c2 = 0 then (zb (Ta_atWord 108170704348530 u2) (fun c3 u3 => if c3 = 0 then (zb (Ta_atWord 1684371321 u3) (fun c4 u4 => if c4 = 0 then (Co_passKind_59 (-1) u4) else (Co_passKind_59 3 u4))) else (Co_passKind_59 2 u3))) else (Co_passKind_59 1 u2))) else (Co_passKind_59 0 u1))
def Co_readPerson_65 (r0 : Nat) (v4 : Int32) (v5 : Int32) (s0 : Int32) (u : zM) : Option (Unit × zM) :=
  if layC r0 = (10, 16) then (if s0 = (-1) then (some ((), u)) else (if ib s0 5 = true then (zlet (sI u (r0 + 11) (ix s0) v4) (fun u1 => if ib s0 5 = true then (zlet (sI u1 (r0 + 12) (ix s0) v5) (fun u2 => some ((), u2))) else none)) else none)) else none
def Co_readPerson (r0 : Nat) (u : zM) : Option (Unit × zM) :=
  if layC r0 = (10, 16) then (zb (Na_isFull (r0 + 3) u) (fun c1 u1 => zb (Co_passFirst c1 u1) (fun _ u2 => zb (Co_passNewName r0 u2) (fun c3 u3 => zb (Co_passKind u3) (fun c4 u4 => zb (Ta_passWord 26990 u4) (fun _ u5 => zb (Ta_passTold (r0 + 1) u5) (fun c6 u6 => zb (Ta_passSign 59 u6) (fun _ u7 => zb (Ta_isFine u7) (fun c8 u8 => if c8 = 0 then (Co_readPerson_65 r0 c4 c6 (-1) u8) else (zb (Na_put (r0 + 3) c3 u8) (fun c9 u9 => Co_readPerson_65 r0 c4 c6 c9 u9))))))))))) else none
def Co_readOtter_74 (r0 : Nat) (v4 : Int32) (v5 : Int32) (s0 : Int32) (u : zM) : Option (Unit × zM) :=
  if layC r0 = (10, 16) then (if s0 = (-1) then (some ((), u)) else (if ib s0 3 = true then (zlet (sI u (r0 + 13) (ix s0) v4) (fun u1 => if ib s0 3 = true then (zlet (sI u1 (r0 + 14) (ix s0) v5) (fun u2 => some ((), u2))) else none)) else none)) else none
def Co_readOtter (r0 : Nat) (u : zM) : Option (Unit × zM) :=
  if layC r0 = (10, 16) then (zb (Na_isFull (r0 + 5) u) (fun c1 u1 => zb (Co_passFirst c1 u1) (fun _ u2 => zb (Co_passNewName r0 u2) (fun c3 u3 => zb (Ta_passWord 26990 u3) (fun _ u4 => zb (Ta_passTold (r0 + 1) u4) (fun c5 u5 => zb (Ta_passWord 1885430629 u5) (fun _ u6 => zb (Ta_passNumber 1 3 u6) (fun c7 u7 => zb (Ta_passSign 59 u7) (fun _ u8 => zb (Ta_isFine u8) (fun c9 u9 => if c9 = 0 then (Co_readOtter_74 r0 c5 c7 (-1) u9) else (zb (Na_put (r0 + 5) c3 u9) (fun c10 u10 => Co_readOtter_74 r0 c5 c7 c10 u10)))))))))))) else none
def Co_readWrit_75 (r0 : Nat) (v4 : Int32) (v5 : Int32) (s0 : Int32) (u : zM) : Option (Unit × zM) :=
  if layC r0 = (10, 16) then (if s0 = (-1) then (some ((), u)) else (if ib s0 6 = true then (zlet (sI u (r0 + 15) (ix s0) v4) (fun u1 => if ib s0 6 = true then (zlet (sI u1 (r0 + 16) (ix s0) v5) (fun u2 => some ((), u2))) else none)) else none)) else none
def Co_readWrit (r0 : Nat) (u : zM) : Option (Unit × zM) :=
  if layC r0 = (10, 16) then (zb (Na_isFull (r0 + 7) u) (fun c1 u1 => zb (Co_passFirst c1 u1) (fun _ u2 => zb (Co_passNewName r0 u2) (fun c3 u3 => zb (Ta_passWord 6713202 u3) (fun _ u4 => zb (Ta_passTold (r0 + 3) u4) (fun c5 u5 => zb (Ta_passWord 25209 u5) (fun _ u6 => zb (Ta_passNumber 0 60 u6) (fun c7 u7 => zb (Ta_passSign 59 u7) (fun _ u8 => zb (Ta_isFine u8) (fun c9 u9 => if c9 = 0 then (Co_readWrit_75 r0 c5 c7 (-1) u9) else (zb (Na_put (r0 + 7) c3 u9) (fun c10 u10 => Co_readWrit_75 r0 c5 c7 c10 u10)))))))))))) else none
def Co_readMoreRain (r0 : Nat) (u : zM) : Option (Unit × zM) :=
  if layC r0 = (10, 16) then (zlet (gI u 2 3) (fun x1 => zb (Ta_passNumber 0 9 u) (fun c1 u1 => zb (Ta_isFine u1) (fun c2 u2 => if c2 = 0 then (some ((), u2)) else (if (gI u2 r0 14) < 12 then (if ib (gI u2 r0 14) 12 = true then (zlet (sI u2 (r0 + 17) (ix (gI u2 r0 14)) c1) (fun u3 => zlet (sI u3 r0 14 ((gI u3 r0 14) + 1)) (fun u4 => some ((), u4)))) else none) else (zb (Ta_failAt 5 x1 u2) (fun _ u5 => some ((), u5)))))))) else none
def Co_readRain_37b (zr37 : Nat → Int32 → zM → Option (Unit × zM)) (r0 : Nat) (v2 : Int32) (u : zM) : Option (Unit × zM) :=
  if layC r0 = (10, 16) then (if 12 < v2 then (zb (Ta_passSign 59 u) (fun _ u1 => some ((), u1))) else (zb (Ta_atNumber u) (fun c2 u2 => if c2 = 0 then (zb (Ta_passSign 59 u2) (fun _ u3 => some ((), u3))) else (zb (Co_readMoreRain r0 u2) (fun _ u4 => zr37 r0 (v2 + 1) u4))))) else none
def Co_readRain_37 : Nat → Nat → Int32 → zM → Option (Unit × zM)
  | 0 => fun _ _ _ => none
  | zf + 1 => Co_readRain_37b (Co_readRain_37 zf)
def Co_readRain (r0 : Nat) (u : zM) : Option (Unit × zM) :=
  if layC r0 = (10, 16) then (if (gI u r0 14) ≤ 0 then (zb (Ta_step u) (fun _ u1 => zb (Ta_passNumber 0 9 u1) (fun c2 u2 => zlet (sI u2 (r0 + 17) 0 c2) (fun u3 => zlet (sI u3 r0 14 1) (fun u4 => Co_readRain_37 zF r0 1 u4))))) else (zb (Ta_fail 3 u) (fun _ u5 => some ((), u5)))) else none
def La_simpleStep (u : zM) : Option (Int32 × zM) :=
  zb (Ta_atNumber u) (fun c1 u1 => if c1 = 0 then (zb (Ta_atWord 465558725996 u1) (fun c2 u2 => if c2 = 0 then (zb (Ta_atWord 439721159795 u2) (fun c3 u3 => if c3 = 0 then (zb (Ta_atWord 2002876787 u3) (fun c4 u4 => if c4 = 0 then (zb (Ta_atWord 1684108389 u4) (fun c5 u5 => if c5 = 0 then (some ((-13), u5)) else (some ((-4), u5)))) else (some ((-3), u4)))) else (some ((-2), u3)))) else (some ((-1), u2)))) else (some ((Int64.toInt32 (gL u1 2 5)), u1)))
def La_put (r0 : Nat) (v1 : Int32) (u : zM) : Option (Unit × zM) :=
  if layC r0 = (11, 3) then (if 1000 ≤ (gI u r0 2) then (some ((), u)) else (if ib (gI u r0 2) 1000 = true then (zlet (sI u (r0 + 1) (ix (gI u r0 2)) v1) (fun u1 => zlet (sI u1 r0 2 ((gI u1 r0 2) + 1)) (fun u2 => some ((), u2)))) else none)) else none
def La_readPart_44 (zq : Nat → Nat → Int32 → zM → Option (Unit × zM)) (r0 : Nat) (v2 : Int32) (v3 : Int32) (v4 : Int32) (v5 : Int32) (u : zM) : Option (Unit × zM) :=
  if layC r0 = (11, 3) then (if v2 < 5 then (zb (Ta_step u) (fun _ u1 => if v3 = 0 then (if v4 = 0 then (zb (La_put r0 v5 u1) (fun _ u2 => some ((), u2))) else (zb (zq 0 r0 (v2 + 1) u1) (fun _ u3 => zb (Ta_passSign 41 u3) (fun _ u4 => some ((), u4))))) else (zb (zq 4 r0 (v2 + 1) u1) (fun _ u5 => zb (La_put r0 (-5) u5) (fun _ u6 => some ((), u6)))))) else (zb (Ta_fail 5 u) (fun _ u7 => some ((), u7)))) else none
def La_readPart (zq : Nat → Nat → Int32 → zM → Option (Unit × zM)) (r0 : Nat) (v2 : Int32) (u : zM) : Option (Unit × zM) :=
  if layC r0 = (11, 3) then (zb (Ta_atWord 7237492 u) (fun c1 u1 => zb (Ta_atSign 40 u1) (fun c2 u2 => zb (La_simpleStep u2) (fun c3 u3 => if c1 = 0 then (if c2 = 0 then (if c3 = (-13) then (zb (Ta_fail 1 u3) (fun _ u4 => some ((), u4))) else (La_readPart_44 zq r0 v2 c1 c2 c3 u3)) else (La_readPart_44 zq r0 v2 c1 c2 c3 u3)) else (La_readPart_44 zq r0 v2 c1 c2 c3 u3))))) else none
def La_readProduct_8b (zq : Nat → Nat → Int32 → zM → Option (Unit × zM)) (zr8 : Nat → Int32 → Int32 → zM → Option (Unit × zM)) (r0 : Nat) (v2 : Int32) (v3 : Int32) (u : zM) : Option (Unit × zM) :=
  if layC r0 = (11, 3) then (if 1000 ≤ v3 then (some ((), u)) else (zb (Ta_atSign 42 u) (fun c1 u1 => if c1 = 0 then (some ((), u1)) else (zb (Ta_step u1) (fun _ u2 => zb (zq 4 r0 v2 u2) (fun _ u3 => zb (La_put r0 (-12) u3) (fun _ u4 => zr8 r0 v2 (v3 + 1) u4))))))) else none
def La_readProduct_8 : Nat → (Nat → Nat → Int32 → zM → Option (Unit × zM)) → Nat → Int32 → Int32 → zM → Option (Unit × zM)
  | 0 => fun _ _ _ _ _ => none
  | zf + 1 => fun zq => La_readProduct_8b zq (La_readProduct_8 zf zq)
def La_readProduct (zq : Nat → Nat → Int32 → zM → Option (Unit × zM)) (r0 : Nat) (v2 : Int32) (u : zM) : Option (Unit × zM) :=
  if layC r0 = (11, 3) then (zb (zq 4 r0 v2 u) (fun _ u1 => La_readProduct_8 zF zq r0 v2 0 u1)) else none
def La_readSum_49 (zq : Nat → Nat → Int32 → zM → Option (Unit × zM)) (zr8 : Nat → Int32 → Int32 → zM → Option (Unit × zM)) (r0 : Nat) (v2 : Int32) (v3 : Int32) (s0 : Int32) (u : zM) : Option (Unit × zM) :=
  if layC r0 = (11, 3) then (zb (Ta_step u) (fun _ u1 => zb (zq 3 r0 v2 u1) (fun _ u2 => zb (La_put r0 s0 u2) (fun _ u3 => zr8 r0 v2 (v3 + 1) u3)))) else none
def La_readSum_33 (zq : Nat → Nat → Int32 → zM → Option (Unit × zM)) (zr8 : Nat → Int32 → Int32 → zM → Option (Unit × zM)) (r0 : Nat) (v2 : Int32) (v3 : Int32) (u : zM) : Option (Unit × zM) :=
  if layC r0 = (11, 3) then (zb (Ta_atSign 43 u) (fun c1 u1 => if c1 = 0 then (La_readSum_49 zq zr8 r0 v2 v3 (-11) u1) else (La_readSum_49 zq zr8 r0 v2 v3 (-10) u1))) else none
def La_readSum_8b (zq : Nat → Nat → Int32 → zM → Option (Unit × zM)) (zr8 : Nat → Int32 → Int32 → zM → Option (Unit × zM)) (r0 : Nat) (v2 : Int32) (v3 : Int32) (u : zM) : Option (Unit × zM) :=
  if layC r0 = (11, 3) then (if 1000 ≤ v3 then (some ((), u)) else (zb (Ta_atSign 43 u) (fun c1 u1 => if c1 = 0 then (zb (Ta_atSign 45 u1) (fun c2 u2 => if c2 = 0 then (some ((), u2)) else (La_readSum_33 zq zr8 r0 v2 v3 u2))) else (La_readSum_33 zq zr8 r0 v2 v3 u1)))) else none
def La_readSum_8 : Nat → (Nat → Nat → Int32 → zM → Option (Unit × zM)) → Nat → Int32 → Int32 → zM → Option (Unit × zM)
  | 0 => fun _ _ _ _ _ => none
  | zf + 1 => fun zq => La_readSum_8b zq (La_readSum_8 zf zq)
def La_readSum (zq : Nat → Nat → Int32 → zM → Option (Unit × zM)) (r0 : Nat) (v2 : Int32) (u : zM) : Option (Unit × zM) :=
  if layC r0 = (11, 3) then (zb (zq 3 r0 v2 u) (fun _ u1 => La_readSum_8 zF zq r0 v2 0 u1)) else none
def La_readTest_40 (zq : Nat → Nat → Int32 → zM → Option (Unit × zM)) (r0 : Nat) (v2 : Int32) (s0 : Int32) (u : zM) : Option (Unit × zM) :=
  if layC r0 = (11, 3) then (zb (Ta_step u) (fun _ u1 => zb (zq 2 r0 v2 u1) (fun _ u2 => zb (La_put r0 s0 u2) (fun _ u3 => some ((), u3))))) else none
def La_readTest_24 (zq : Nat → Nat → Int32 → zM → Option (Unit × zM)) (r0 : Nat) (v2 : Int32) (u : zM) : Option (Unit × zM) :=
  if layC r0 = (11, 3) then (zb (Ta_atSign 60 u) (fun c1 u1 => if c1 = 0 then (La_readTest_40 zq r0 v2 (-9) u1) else (La_readTest_40 zq r0 v2 (-8) u1))) else none
def La_readTest (zq : Nat → Nat → Int32 → zM → Option (Unit × zM)) (r0 : Nat) (v2 : Int32) (u : zM) : Option (Unit × zM) :=
  if layC r0 = (11, 3) then (zb (zq 2 r0 v2 u) (fun _ u1 => zb (Ta_atSign 60 u1) (fun c2 u2 => if c2 = 0 then (zb (Ta_atSign 61 u2) (fun c3 u3 => if c3 = 0 then (some ((), u3)) else (La_readTest_24 zq r0 v2 u3))) else (La_readTest_24 zq r0 v2 u2)))) else none
def La_readExpression_52 (zq : Nat → Nat → Int32 → zM → Option (Unit × zM)) (zr8 : Nat → Int32 → Int32 → zM → Option (Unit × zM)) (r0 : Nat) (v2 : Int32) (v3 : Int32) (s0 : Int32) (u : zM) : Option (Unit × zM) :=
  if layC r0 = (11, 3) then (zb (Ta_step u) (fun _ u1 => zb (zq 1 r0 v2 u1) (fun _ u2 => zb (La_put r0 s0 u2) (fun _ u3 => zr8 r0 v2 (v3 + 1) u3)))) else none
def La_readExpression_35 (zq : Nat → Nat → Int32 → zM → Option (Unit × zM)) (zr8 : Nat → Int32 → Int32 → zM → Option (Unit × zM)) (r0 : Nat) (v2 : Int32) (v3 : Int32) (u : zM) : Option (Unit × zM) :=
  if layC r0 = (11, 3) then (zb (Ta_atWord 6385252 u) (fun c1 u1 => if c1 = 0 then (La_readExpression_52 zq zr8 r0 v2 v3 (-7) u1) else (La_readExpression_52 zq zr8 r0 v2 v3 (-6) u1))) else none
def La_readExpression_8b (zq : Nat → Nat → Int32 → zM → Option (Unit × zM)) (zr8 : Nat → Int32 → Int32 → zM → Option (Unit × zM)) (r0 : Nat) (v2 : Int32) (v3 : Int32) (u : zM) : Option (Unit × zM) :=
  if layC r0 = (11, 3) then (if 1000 ≤ v3 then (some ((), u)) else (zb (Ta_atWord 6385252 u) (fun c1 u1 => if c1 = 0 then (zb (Ta_atWord 28530 u1) (fun c2 u2 => if c2 = 0 then (some ((), u2)) else (La_readExpression_35 zq zr8 r0 v2 v3 u2))) else (La_readExpression_35 zq zr8 r0 v2 v3 u1)))) else none
def La_readExpression_8 : Nat → (Nat → Nat → Int32 → zM → Option (Unit × zM)) → Nat → Int32 → Int32 → zM → Option (Unit × zM)
  | 0 => fun _ _ _ _ _ => none
  | zf + 1 => fun zq => La_readExpression_8b zq (La_readExpression_8 zf zq)
def La_readExpression (zq : Nat → Nat → Int32 → zM → Option (Unit × zM)) (r0 : Nat) (v2 : Int32) (u : zM) : Option (Unit × zM) :=
  if layC r0 = (11, 3) then (zb (zq 1 r0 v2 u) (fun _ u1 => La_readExpression_8 zF zq r0 v2 0 u1)) else none
def La_rd : Nat → Nat → Nat → Int32 → zM → Option (Unit × zM)
  | 0 => fun _ _ _ _ => none
  | zf + 1 => fun i => match i with
    | 0 => La_readExpression (La_rd zf)
    | 1 => La_readTest (La_rd zf)
    | 2 => La_readSum (La_rd zf)
    | 3 => La_readProduct (La_rd zf)
    | _ => La_readPart (La_rd zf)
def Co_readWets (r0 : Nat) (u : zM) : Option (Unit × zM) :=
  if layC r0 = (10, 16) then (if (gI u (r0 + 18) 2) ≤ 0 then (zb (Ta_step u) (fun _ u1 => zb (La_rd 40 0 (r0 + 18) 0 u1) (fun _ u2 => zb (Ta_passSign 59 u2) (fun _ u3 => some ((), u3))))) else (zb (Ta_fail 3 u) (fun _ u4 => some ((), u4)))) else none
def Co_readStatement (r0 : Nat) (u : zM) : Option (Unit × zM) :=
  if layC r0 = (10, 16) then (zb (Ta_atWord 482854658917 u) (fun c1 u1 => if c1 = 0 then (zb (Ta_atWord 126943972647277 u1) (fun c2 u2 => if c2 = 0 then (zb (Ta_atWord 123581014175598 u2) (fun c3 u3 => if c3 = 0 then (zb (Ta_atWord 478695155058 u3) (fun c4 u4 => if c4 = 0 then (zb (Ta_atWord 2003986804 u4) (fun c5 u5 => if c5 = 0 then (zb (Ta_atWord 1918986606 u5) (fun c6 u6 => if c6 = 0 then (zb (Ta_atWord 2003137651 u6) (fun c7 u7 => if c7 = 0 then (zb (Ta_fail 1 u7) (fun _ u8 => some ((), u8))) else (zb (Co_readWets r0 u7) (fun _ u9 => some ((), u9))))) else (zb (Co_readRain r0 u6) (fun _ u10 => some ((), u10))))) else (zb (Co_readWrit r0 u5) (fun _ u11 => some ((), u11))))) else (zb (Co_readOtter r0 u4) (fun _ u12 => some ((), u12))))) else (zb (Co_readPerson r0 u3) (fun _ u13 => some ((), u13))))) else (zb (Co_readStream r0 u2) (fun _ u14 => some ((), u14))))) else (zb (Co_readPlace r0 u1) (fun _ u15 => some ((), u15))))) else none
def Co_read_10b (zr10 : Nat → Int32 → zM → Option (Unit × zM)) (r0 : Nat) (v2 : Int32) (u : zM) : Option (Unit × zM) :=
  if layC r0 = (10, 16) then (if 1000 ≤ v2 then (some ((), u)) else (zb (Ta_isFine u) (fun c1 u1 => if c1 = 0 then (some ((), u1)) else (if (gI u1 2 4) = 0 then (some ((), u1)) else (zb (Co_readStatement r0 u1) (fun _ u2 => zr10 r0 (v2 + 1) u2)))))) else none
def Co_read_10 : Nat → Nat → Int32 → zM → Option (Unit × zM)
  | 0 => fun _ _ _ => none
  | zf + 1 => Co_read_10b (Co_read_10 zf)
def Co_read (r0 : Nat) (u : zM) : Option (Unit × zM) :=
  if layC r0 = (10, 16) then (zb (Co_clear r0 u) (fun _ u1 => zb (Ta_begin u1) (fun _ u2 => Co_read_10 zF r0 0 u2))) else none
def Co_allPlaces (r0 : Nat) (u : zM) : Option (Int32 × zM) :=
  if layC r0 = (10, 16) then (some (((1 <<< ((gI u (r0 + 1) 1) &&& 31)) - 1), u)) else none
def Co_allWrits (r0 : Nat) (u : zM) : Option (Int32 × zM) :=
  if layC r0 = (10, 16) then (some (((1 <<< ((gI u (r0 + 7) 1) &&& 31)) - 1), u)) else none
def Jm_floorMod (v0 : Int32) (v1 : Int32) (u : zM) : Option (Int32 × zM) :=
  if v1 = 0 then none else (zlet (v0 - v0 / v1 * v1) (fun x1 => if 0 ≤ (v0 ^^^ (v1 : Int32)) then (some (x1, u)) else (if x1 = 0 then (some (x1, u)) else (some ((x1 + v1), u)))))
def Co_rainOf (r0 : Nat) (v1 : Int32) (u : zM) : Option (Int32 × zM) :=
  if layC r0 = (10, 16) then (if (gI u r0 14) ≤ 0 then (some (1, u)) else (zb (Jm_floorMod v1 (gI u r0 14) u) (fun c1 u1 => if ib c1 12 = true then (some ((gI u1 (r0 + 17) (ix c1)), u1)) else none))) else none
def Ji_bitCount (v0 : Int32) (u : zM) : Option (Int32 × zM) :=
  zlet (v0 - ((v0.toUInt32 >>> (Int32.toUInt32 1 &&& Int32.toUInt32 31)).toInt32 &&& 1431655765)) (fun x1 => zlet ((x1 &&& 858993459) + ((x1.toUInt32 >>> (Int32.toUInt32 2 &&& Int32.toUInt32 31)).toInt32 &&& 858993459)) (fun x2 => zlet ((x2 + (x2.toUInt32 >>> (Int32.toUInt32 4 &&& Int32.toUInt32 31)).toInt32) &&& 252645135) (fun x3 => zlet (x3 + (x3.toUInt32 >>> (Int32.toUInt32 8 &&& Int32.toUInt32 31)).toInt32) (fun x4 => zlet (x4 + (x4.toUInt32 >>> (Int32.toUInt32 16 &&& Int32.toUInt32 31)).toInt32) (fun x5 => some ((x5 &&& 63), u))))))
def La_simple (v0 : Int32) (v1 : Int32) (v2 : Int32) (v3 : Int32) (v4 : Int32) (u : zM) : Option (Int32 × zM) :=
  if v0 = (-4) then (some (v4, u)) else (if v0 = (-3) then (some (v3, u)) else (if v0 = (-2) then (some (v2, u)) else (if v0 = (-1) then (some (v1, u)) else (some (v0, u)))))
def La_join (v0 : Int32) (v1 : Int32) (v2 : Int32) (u : zM) : Option (Int32 × zM) :=
  if v0 = (-11) then (some ((v1 - v2), u)) else (if v0 = (-10) then (some ((v1 + v2), u)) else (if v0 = (-9) then (if v1 = v2 then (some (1, u)) else (some (0, u))) else (if v0 = (-8) then (if v2 ≤ v1 then (some (0, u)) else (some (1, u))) else (if v0 = (-7) then (if v1 = 0 then (if v2 = 0 then (some (0, u)) else (some (1, u))) else (some (1, u))) else (if v0 = (-6) then (if v1 = 0 then (some (0, u)) else (if v2 = 0 then (some (0, u)) else (some (1, u)))) else (some ((v1 * v2), u)))))))
def La_tells_19b (zr19 : Nat → Int32 → Int32 → Int32 → Int32 → Int32 → Int32 → zM → Option (Int32 × zM)) (r0 : Nat) (v1 : Int32) (v2 : Int32) (v3 : Int32) (v4 : Int32) (v5 : Int32) (v6 : Int32) (u : zM) : Option (Int32 × zM) :=
  if layC r0 = (11, 3) then (if (gI u r0 2) ≤ v6 then (some ((gI u (r0 + 2) 0), u)) else (if ib v6 1000 = true then (zlet (gI u (r0 + 1) (ix v6)) (fun x1 => if x1 ≤ (-5) then (if x1 = (-5) then (if v5 < 1 then (zr19 r0 v1 v2 v3 v4 v5 (v6 + 1) u) else (if ib (v5 - 1) 32 = true then (if (gI u (r0 + 2) (ix (v5 - 1))) = 0 then (if ib (v5 - 1) 32 = true then (zlet (sI u (r0 + 2) (ix (v5 - 1)) 1) (fun u4 => zr19 r0 v1 v2 v3 v4 v5 (v6 + 1) u4)) else none) else (if ib (v5 - 1) 32 = true then (zlet (sI u (r0 + 2) (ix (v5 - 1)) 0) (fun u3 => zr19 r0 v1 v2 v3 v4 v5 (v6 + 1) u3)) else none)) else none)) else (if v5 < 2 then (zr19 r0 v1 v2 v3 v4 v5 (v6 + 1) u) else (if ib ((v5 + (-1)) - 1) 32 = true then (if ib (v5 + (-1)) 32 = true then (zb (La_join x1 (gI u (r0 + 2) (ix ((v5 + (-1)) - 1))) (gI u (r0 + 2) (ix (v5 + (-1)))) u) (fun c1 u1 => if ib ((v5 + (-1)) - 1) 32 = true then (zlet (sI u1 (r0 + 2) (ix ((v5 + (-1)) - 1)) c1) (fun u2 => zr19 r0 v1 v2 v3 v4 (v5 + (-1)) (v6 + 1) u2)) else none)) else none) else none))) else (if 32 ≤ v5 then (zr19 r0 v1 v2 v3 v4 v5 (v6 + 1) u) else (zb (La_simple x1 v1 v2 v3 v4 u) (fun c2 u5 => if ib v5 32 = true then (zlet (sI u5 (r0 + 2) (ix v5) c2) (fun u6 => zr19 r0 v1 v2 v3 v4 (v5 + 1) (v6 + 1) u6)) else none))))) else none)) else none
def La_tells_19 : Nat → Nat → Int32 → Int32 → Int32 → Int32 → Int32 → Int32 → zM → Option (Int32 × zM)
  | 0 => fun _ _ _ _ _ _ _ _ => none
  | zf + 1 => La_tells_19b (La_tells_19 zf)
def La_tells (r0 : Nat) (v1 : Int32) (v2 : Int32) (v3 : Int32) (v4 : Int32) (u : zM) : Option (Int32 × zM) :=
  if layC r0 = (11, 3) then (if (gI u r0 2) = 0 then (some (((v1 + v2) - 1), u)) else (La_tells_19 zF r0 v1 v2 v3 v4 0 0 u)) else none
def Jm_min (v0 : Int32) (v1 : Int32) (u : zM) : Option (Int32 × zM) :=
  if v1 < v0 then (some (v1, u)) else (some (v0, u))
def Jm_max (v0 : Int32) (v1 : Int32) (u : zM) : Option (Int32 × zM) :=
  if v0 < v1 then (some (v1, u)) else (some (v0, u))
def Co_waterBehind (r0 : Nat) (v1 : Int32) (v2 : Int32) (v3 : Int32) (v4 : Int32) (u : zM) : Option (Int32 × zM) :=
  if layC r0 = (10, 16) then (if ib v1 7 = true then (zb (Ji_bitCount (gI u (r0 + 10) (ix v1)) u) (fun c1 u1 => zb (La_tells (r0 + 18) v2 v3 c1 v4 u1) (fun c2 u2 => zb (Jm_min 9 c2 u2) (fun c3 u3 => zb (Jm_max 0 c3 u3) (fun c4 u4 => some (c4, u4)))))) else none) else none
def Co_spread_5b (zr5 : Nat → Int32 → Int32 → Int32 → Int32 → zM → Option (Int32 × zM)) (r0 : Nat) (v1 : Int32) (v2 : Int32) (v3 : Int32) (v4 : Int32) (u : zM) : Option (Int32 × zM) :=
  if layC r0 = (10, 16) then (if (gI u (r0 + 1) 1) ≤ v4 then (some (v3, u)) else (if ((v1 &&& v2) &&& (1 <<< (v4 &&& 31))) = 0 then (zr5 r0 v1 v2 v3 (v4 + 1) u) else (if ib v4 7 = true then (zlet (v3 ||| ((gI u (r0 + 10) (ix v4)) &&& v2)) (fun x1 => zr5 r0 v1 v2 x1 (v4 + 1) u)) else none))) else none
def Co_spread_5 : Nat → Nat → Int32 → Int32 → Int32 → Int32 → zM → Option (Int32 × zM)
  | 0 => fun _ _ _ _ _ _ => none
  | zf + 1 => Co_spread_5b (Co_spread_5 zf)
def Co_spread (r0 : Nat) (v1 : Int32) (v2 : Int32) (u : zM) : Option (Int32 × zM) :=
  if layC r0 = (10, 16) then (Co_spread_5 zF r0 v1 v2 v1 0 u) else none
def Co_spreadAll_5b (zr5 : Nat → Int32 → Int32 → Int32 → zM → Option (Int32 × zM)) (r0 : Nat) (v2 : Int32) (v3 : Int32) (v4 : Int32) (u : zM) : Option (Int32 × zM) :=
  if layC r0 = (10, 16) then (if 7 ≤ v4 then (some (v3, u)) else (zb (Co_spread r0 v3 v2 u) (fun c1 u1 => zr5 r0 v2 c1 (v4 + 1) u1))) else none
def Co_spreadAll_5 : Nat → Nat → Int32 → Int32 → Int32 → zM → Option (Int32 × zM)
  | 0 => fun _ _ _ _ _ => none
  | zf + 1 => Co_spreadAll_5b (Co_spreadAll_5 zf)
def Co_spreadAll (r0 : Nat) (v1 : Int32) (v2 : Int32) (u : zM) : Option (Int32 × zM) :=
  if layC r0 = (10, 16) then (Co_spreadAll_5 zF r0 v2 v1 0 u) else none
def St_copy (r0 : Nat) (r1 : Nat) (u : zM) : Option (Unit × zM) :=
  if layC r0 = (17, 6) then (if layC r1 = (17, 6) then (zlet (sC u (r1 + 1) 0 (r0 + 1) 0 7) (fun u1 => zlet (sC u1 (r1 + 2) 0 (r0 + 2) 0 5) (fun u2 => zlet (sC u2 (r1 + 3) 0 (r0 + 3) 0 3) (fun u3 => zlet (sC u3 (r1 + 4) 0 (r0 + 4) 0 3) (fun u4 => zlet (sC u4 (r1 + 5) 0 (r0 + 5) 0 6) (fun u5 => zlet (sI u5 r0 5 (gI u5 r1 5)) (fun u6 => some ((), u6)))))))) else none) else none
def Ss_copy (r0 : Nat) (r1 : Nat) (u : zM) : Option (Unit × zM) :=
  if layC r0 = (16, 4) then (if layC r1 = (16, 4) then (zlet (sC u (r1 + 1) 0 (r0 + 1) 0 40) (fun u1 => zlet (sC u1 (r1 + 2) 0 (r0 + 2) 0 40) (fun u2 => zlet (sC u2 (r1 + 3) 0 (r0 + 3) 0 40) (fun u3 => zlet (sI u3 r0 3 (gI u3 r1 3)) (fun u4 => some ((), u4)))))) else none) else none
def Se_copy_2b (zr2 : Nat → Nat → Int32 → zM → Option (Unit × zM)) (r0 : Nat) (r1 : Nat) (v2 : Int32) (u : zM) : Option (Unit × zM) :=
  if layC r0 = (15, 4) then (if layC r1 = (15, 4) then (if 8 ≤ v2 then (zlet (sI u r0 3 (gI u r1 3)) (fun u1 => some ((), u1))) else (if ib v2 8 = true then (if ib v2 8 = true then (zlet (sI u (r0 + 1) (ix v2) (gI u (r1 + 1) (ix v2))) (fun u2 => if ib v2 8 = true then (if ib v2 8 = true then (zlet (sI u2 (r0 + 2) (ix v2) (gI u2 (r1 + 2) (ix v2))) (fun u3 => if ib v2 8 = true then (if ib v2 8 = true then (zlet (sI u3 (r0 + 3) (ix v2) (vp_nar .boolean (gI u3 (r1 + 3) (ix v2)))) (fun u4 => zr2 r0 r1 (v2 + 1) u4)) else none) else none)) else none) else none)) else none) else none)) else none) else none
def Se_copy_2 : Nat → Nat → Nat → Int32 → zM → Option (Unit × zM)
  | 0 => fun _ _ _ _ => none
  | zf + 1 => Se_copy_2b (Se_copy_2 zf)
def Se_copy (r0 : Nat) (r1 : Nat) (u : zM) : Option (Unit × zM) :=
  if layC r0 = (15, 4) then (if layC r1 = (15, 4) then (Se_copy_2 zF r0 r1 0 u) else none) else none
def Mk_lay (r0 : Nat) (r1 : Nat) (r2 : Nat) (r3 : Nat) (u : zM) : Option (Unit × zM) :=
  if layC r0 = (12, 4) then (if layC r1 = (17, 6) then (if layC r2 = (16, 4) then (if layC r3 = (15, 4) then (zb (St_copy (r0 + 1) r1 u) (fun _ u1 => zb (Ss_copy (r0 + 7) r2 u1) (fun _ u2 => zb (Se_copy (r0 + 11) r3 u2) (fun _ u3 => zlet (sI u3 r0 3 1) (fun u4 => some ((), u4)))))) else none) else none) else none) else none
def Ou_forget (u : zM) : Option (Unit × zM) :=
  zlet (sI u 70 6 0) (fun u1 => some ((), u1))
def St_bestPlace_6b (zr6 : Nat → Nat → Int32 → Int32 → Int32 → Int32 → zM → Option (Int32 × zM)) (r0 : Nat) (r1 : Nat) (v2 : Int32) (v3 : Int32) (v4 : Int32) (v5 : Int32) (u : zM) : Option (Int32 × zM) :=
  if layC r0 = (17, 6) then (if layC r1 = (10, 16) then (if (gI u (r1 + 1) 1) ≤ v5 then (some (v4, u)) else (zb (Co_isLinked r1 v2 v5 u) (fun c1 u1 => if c1 = 0 then (zr6 r0 r1 v2 v3 v4 (v5 + 1) u1) else (if ib v5 7 = true then (if ib v4 7 = true then (if (v3 * (gI u1 (r0 + 1) (ix v5))) ≤ (v3 * (gI u1 (r0 + 1) (ix v4))) then (zr6 r0 r1 v2 v3 v4 (v5 + 1) u1) else (zr6 r0 r1 v2 v3 v5 (v5 + 1) u1)) else none) else none)))) else none) else none
def St_bestPlace_6 : Nat → Nat → Nat → Int32 → Int32 → Int32 → Int32 → zM → Option (Int32 × zM)
  | 0 => fun _ _ _ _ _ _ _ => none
  | zf + 1 => St_bestPlace_6b (St_bestPlace_6 zf)
def St_bestPlace (r0 : Nat) (r1 : Nat) (v2 : Int32) (v3 : Int32) (u : zM) : Option (Int32 × zM) :=
  if layC r0 = (17, 6) then (if layC r1 = (10, 16) then (St_bestPlace_6 zF r0 r1 v2 v3 v2 0 u) else none) else none
def St_rest_2b (zr2 : Nat → Int32 → zM → Option (Unit × zM)) (r0 : Nat) (v1 : Int32) (u : zM) : Option (Unit × zM) :=
  if layC r0 = (17, 6) then (if 3 ≤ v1 then (some ((), u)) else (if ib v1 3 = true then (zlet (sI u (r0 + 4) (ix v1) 0) (fun u1 => zr2 r0 (v1 + 1) u1)) else none)) else none
def St_rest_2 : Nat → Nat → Int32 → zM → Option (Unit × zM)
  | 0 => fun _ _ _ => none
  | zf + 1 => St_rest_2b (St_rest_2 zf)
def St_rest (r0 : Nat) (u : zM) : Option (Unit × zM) :=
  if layC r0 = (17, 6) then (St_rest_2 zF r0 0 u) else none
def St_nextDay_52b (zr52 : Nat → Nat → Int32 → zM → Option (Unit × zM)) (r0 : Nat) (r1 : Nat) (v3 : Int32) (u : zM) : Option (Unit × zM) :=
  if layC r0 = (17, 6) then (if layC r1 = (10, 16) then (if (gI u (r1 + 3) 1) ≤ v3 then (zb (St_rest r0 u) (fun _ u1 => zlet (sI u1 r0 5 ((gI u1 r0 5) + 1)) (fun u2 => some ((), u2)))) else (if ib v3 5 = true then (if (gI u (r1 + 11) (ix v3)) = 1 then (if ib v3 5 = true then (zb (St_bestPlace r0 r1 (gI u (r0 + 2) (ix v3)) (-1) u) (fun c3 u5 => if ib v3 5 = true then (zlet (sI u5 (r0 + 2) (ix v3) c3) (fun u6 => zr52 r0 r1 (v3 + 1) u6)) else none)) else none) else (if ib v3 5 = true then (if (gI u (r1 + 11) (ix v3)) = 2 then (if ib v3 5 = true then (zb (St_bestPlace r0 r1 (gI u (r0 + 2) (ix v3)) 1 u) (fun c2 u3 => if ib v3 5 = true then (zlet (sI u3 (r0 + 2) (ix v3) c2) (fun u4 => zr52 r0 r1 (v3 + 1) u4)) else none)) else none) else (zr52 r0 r1 (v3 + 1) u)) else none)) else none)) else none) else none
def St_nextDay_52 : Nat → Nat → Nat → Int32 → zM → Option (Unit × zM)
  | 0 => fun _ _ _ _ => none
  | zf + 1 => St_nextDay_52b (St_nextDay_52 zf)
def St_nextDay_11b (zr11 : Nat → Nat → Int32 → Int32 → zM → Option (Unit × zM)) (r0 : Nat) (r1 : Nat) (v2 : Int32) (v3 : Int32) (u : zM) : Option (Unit × zM) :=
  if layC r0 = (17, 6) then (if layC r1 = (10, 16) then (if (gI u (r1 + 1) 1) ≤ v3 then (St_nextDay_52 zF r0 r1 0 u) else (if ib v3 7 = true then (zb (Co_waterBehind r1 v3 (gI u (r0 + 1) (ix v3)) v2 (gI u r0 5) u) (fun c1 u1 => if ib v3 7 = true then (zlet (sI u1 (r0 + 1) (ix v3) c1) (fun u2 => zr11 r0 r1 v2 (v3 + 1) u2)) else none)) else none)) else none) else none
def St_nextDay_11 : Nat → Nat → Nat → Int32 → Int32 → zM → Option (Unit × zM)
  | 0 => fun _ _ _ _ _ => none
  | zf + 1 => St_nextDay_11b (St_nextDay_11 zf)
def St_nextDay (r0 : Nat) (r1 : Nat) (u : zM) : Option (Unit × zM) :=
  if layC r0 = (17, 6) then (if layC r1 = (10, 16) then (zb (Co_rainOf r1 (gI u r0 5) u) (fun c1 u1 => St_nextDay_11 zF r0 r1 c1 0 u1)) else none) else none
def St_wetBits_4b (zr4 : Nat → Nat → Int32 → Int32 → zM → Option (Int32 × zM)) (r0 : Nat) (r1 : Nat) (v2 : Int32) (v3 : Int32) (u : zM) : Option (Int32 × zM) :=
  if layC r0 = (17, 6) then (if layC r1 = (10, 16) then (if (gI u (r1 + 1) 1) ≤ v3 then (some (v2, u)) else (if ib v3 7 = true then (if (gI u (r0 + 1) (ix v3)) < 1 then (zr4 r0 r1 v2 (v3 + 1) u) else (zlet (v2 ||| (1 <<< (v3 &&& 31))) (fun x1 => zr4 r0 r1 x1 (v3 + 1) u))) else none)) else none) else none
def St_wetBits_4 : Nat → Nat → Nat → Int32 → Int32 → zM → Option (Int32 × zM)
  | 0 => fun _ _ _ _ _ => none
  | zf + 1 => St_wetBits_4b (St_wetBits_4 zf)
def St_wetBits (r0 : Nat) (r1 : Nat) (u : zM) : Option (Int32 × zM) :=
  if layC r0 = (17, 6) then (if layC r1 = (10, 16) then (St_wetBits_4 zF r0 r1 0 0 u) else none) else none
def Ou_foretell_43 (zr6 : Nat → Nat → Int32 → Int32 → zM → Option (Unit × zM)) (r1 : Nat) (r2 : Nat) (v3 : Int32) (v4 : Int32) (u : zM) : Option (Unit × zM) :=
  if layC r1 = (10, 16) then (if layC r2 = (17, 6) then (if ib (v4 * 7) (427 + 1) = true then (if ix (v4 * 7) + 7 ≤ 427 then (zlet (sC u 72 0 77 (ix (v4 * 7)) 7) (fun u1 => if ib (v4 * 5) (305 + 1) = true then (if ix (v4 * 5) + 5 ≤ 305 then (zlet (sC u1 73 0 78 (ix (v4 * 5)) 5) (fun u2 => zb (St_wetBits 71 r1 u2) (fun c1 u3 => if ib v4 61 = true then (zlet (sI u3 79 (ix v4) c1) (fun u4 => zlet (sI u4 70 6 (v4 + 1)) (fun u5 => zr6 r1 r2 v3 (v4 + 1) u5))) else none))) else none) else none)) else none) else none) else none) else none
def Ou_foretell_6b (zr6 : Nat → Nat → Int32 → Int32 → zM → Option (Unit × zM)) (r1 : Nat) (r2 : Nat) (v3 : Int32) (v4 : Int32) (u : zM) : Option (Unit × zM) :=
  if layC r1 = (10, 16) then (if layC r2 = (17, 6) then (if v3 < v4 then (some ((), u)) else (if 60 < v4 then (some ((), u)) else (if v4 = 0 then (zb (St_copy 71 r2 u) (fun _ u2 => Ou_foretell_43 zr6 r1 r2 v3 v4 u2)) else (zb (St_nextDay 71 r1 u) (fun _ u1 => Ou_foretell_43 zr6 r1 r2 v3 v4 u1))))) else none) else none
def Ou_foretell_6 : Nat → Nat → Nat → Int32 → Int32 → zM → Option (Unit × zM)
  | 0 => fun _ _ _ _ _ => none
  | zf + 1 => Ou_foretell_6b (Ou_foretell_6 zf)
def Ou_foretell (r1 : Nat) (r2 : Nat) (v3 : Int32) (u : zM) : Option (Unit × zM) :=
  if layC r1 = (10, 16) then (if layC r2 = (17, 6) then (zlet (gI u 70 6) (fun x1 => Ou_foretell_6 zF r1 r2 v3 x1 u)) else none) else none
def Ou_waterOn (v1 : Int32) (v2 : Int32) (u : zM) : Option (Int32 × zM) :=
  if ib ((v1 * 7) + v2) 427 = true then (some ((gI u 77 (ix ((v1 * 7) + v2))), u)) else none
def Ou_placeOn (v1 : Int32) (v2 : Int32) (u : zM) : Option (Int32 × zM) :=
  if ib ((v1 * 5) + v2) 305 = true then (some ((gI u 78 (ix ((v1 * 5) + v2))), u)) else none
def Ou_wetOn (v1 : Int32) (u : zM) : Option (Int32 × zM) :=
  if ib v1 61 = true then (some ((gI u 79 (ix v1)), u)) else none
def Ou_swimsOn (v0 : Int32) (r1 : Nat) (r2 : Nat) (v3 : Int32) (u : zM) : Option (Int32 × zM) :=
  if layC r1 = (10, 16) then (if layC r2 = (17, 6) then (if ib v3 3 = true then (if v0 = 0 then (if ib v3 3 = true then (some (((gI u (r1 + 14) (ix v3)) - (gI u (r2 + 4) (ix v3))), u)) else none) else (some (((gI u (r1 + 14) (ix v3)) - 0), u))) else none) else none) else none
def Ou_daysToPlace_33b (zr13 : Nat → Nat → Int32 → Int32 → Int32 → Int32 → zM → Option (Int32 × zM)) (zr33 : Nat → Nat → Int32 → Int32 → Int32 → Int32 → Int32 → Int32 → zM → Option (Int32 × zM)) (r1 : Nat) (r2 : Nat) (v3 : Int32) (v4 : Int32) (v5 : Int32) (v6 : Int32) (v7 : Int32) (v8 : Int32) (u : zM) : Option (Int32 × zM) :=
  if layC r1 = (10, 16) then (if layC r2 = (17, 6) then (if v7 ≤ v8 then (if ((v5 >>> (v4 &&& 31)) &&& 1) = 0 then (zr13 r1 r2 v3 v4 v5 (v6 + 1) u) else (some (v6, u))) else (if ib v6 61 = true then (zb (Co_spread r1 v5 (gI u 79 (ix v6)) u) (fun c1 u1 => zr33 r1 r2 v3 v4 c1 v6 v7 (v8 + 1) u1)) else none)) else none) else none
def Ou_daysToPlace_33 : Nat → (Nat → Nat → Int32 → Int32 → Int32 → Int32 → zM → Option (Int32 × zM)) → Nat → Nat → Int32 → Int32 → Int32 → Int32 → Int32 → Int32 → zM → Option (Int32 × zM)
  | 0 => fun _ _ _ _ _ _ _ _ _ _ => none
  | zf + 1 => fun zr13 => Ou_daysToPlace_33b zr13 (Ou_daysToPlace_33 zf zr13)
def Ou_daysToPlace_13b (zr13 : Nat → Nat → Int32 → Int32 → Int32 → Int32 → zM → Option (Int32 × zM)) (r1 : Nat) (r2 : Nat) (v3 : Int32) (v4 : Int32) (v5 : Int32) (v6 : Int32) (u : zM) : Option (Int32 × zM) :=
  if layC r1 = (10, 16) then (if layC r2 = (17, 6) then (if 60 < v6 then (some ((-1), u)) else (zb (Ou_swimsOn v6 r1 r2 v3 u) (fun c1 u1 => Ou_daysToPlace_33 zF zr13 r1 r2 v3 v4 v5 v6 c1 0 u1))) else none) else none
def Ou_daysToPlace_13 : Nat → Nat → Nat → Int32 → Int32 → Int32 → Int32 → zM → Option (Int32 × zM)
  | 0 => fun _ _ _ _ _ _ _ => none
  | zf + 1 => Ou_daysToPlace_13b (Ou_daysToPlace_13 zf)
def Ou_daysToPlace (r1 : Nat) (r2 : Nat) (v3 : Int32) (v4 : Int32) (u : zM) : Option (Int32 × zM) :=
  if layC r1 = (10, 16) then (if layC r2 = (17, 6) then (if ib v3 3 = true then (zlet (1 <<< ((gI u (r2 + 3) (ix v3)) &&& 31)) (fun x1 => Ou_daysToPlace_13 zF r1 r2 v3 v4 x1 0 u)) else none) else none) else none
def St_isServable (v0 : Int32) (v1 : Int32) (u : zM) : Option (Int32 × zM) :=
  if v0 = 3 then (some (1, u)) else (if v0 = 1 then (if v1 < 3 then (some (0, u)) else (some (1, u))) else (if v1 < 1 then (some (0, u)) else (some (1, u))))
def Ou_daysToServe_99b (zr69 : Nat → Nat → Int32 → Int32 → Int32 → Int32 → Int32 → zM → Option (Int32 × zM)) (zr99 : Nat → Nat → Int32 → Int32 → Int32 → Int32 → Int32 → Int32 → Int32 → zM → Option (Int32 × zM)) (r1 : Nat) (r2 : Nat) (v4 : Int32) (v6 : Int32) (v7 : Int32) (v8 : Int32) (v9 : Int32) (v10 : Int32) (v11 : Int32) (u : zM) : Option (Int32 × zM) :=
  if layC r1 = (10, 16) then (if layC r2 = (17, 6) then (if v10 ≤ v11 then (zb (Ou_placeOn v9 v8 u) (fun c1 u1 => if ((v7 >>> (c1 &&& 31)) &&& 1) = 0 then (zr69 r1 r2 v4 v6 v7 v8 (v9 + 1) u1) else (if ib v8 5 = true then (zb (Ou_waterOn v9 c1 u1) (fun c2 u2 => zb (St_isServable (gI u1 (r1 + 11) (ix v8)) c2 u2) (fun c3 u3 => if c3 = 0 then (zr69 r1 r2 v4 v6 v7 v8 (v9 + 1) u3) else (some (v9, u3))))) else none))) else (if ib v9 61 = true then (zb (Co_spread r1 v6 (gI u 79 (ix v9)) u) (fun c4 u4 => if ib v9 61 = true then (zb (Co_spread r1 v7 (gI u4 79 (ix v9)) u4) (fun c5 u5 => zlet (c5 ||| (c4 &&& 1)) (fun x1 => zr99 r1 r2 v4 c4 x1 v8 v9 v10 (v11 + 1) u5))) else none)) else none)) else none) else none
def Ou_daysToServe_99 : Nat → (Nat → Nat → Int32 → Int32 → Int32 → Int32 → Int32 → zM → Option (Int32 × zM)) → Nat → Nat → Int32 → Int32 → Int32 → Int32 → Int32 → Int32 → Int32 → zM → Option (Int32 × zM)
  | 0 => fun _ _ _ _ _ _ _ _ _ _ _ => none
  | zf + 1 => fun zr69 => Ou_daysToServe_99b zr69 (Ou_daysToServe_99 zf zr69)
def Ou_daysToServe_69b (zr69 : Nat → Nat → Int32 → Int32 → Int32 → Int32 → Int32 → zM → Option (Int32 × zM)) (r1 : Nat) (r2 : Nat) (v4 : Int32) (v6 : Int32) (v7 : Int32) (v8 : Int32) (v9 : Int32) (u : zM) : Option (Int32 × zM) :=
  if layC r1 = (10, 16) then (if layC r2 = (17, 6) then (if 60 < v9 then (some ((-1), u)) else (zb (Ou_swimsOn v9 r1 r2 v4 u) (fun c1 u1 => zlet (v7 ||| (v6 &&& 1)) (fun x1 => Ou_daysToServe_99 zF zr69 r1 r2 v4 v6 x1 v8 v9 c1 0 u1)))) else none) else none
def Ou_daysToServe_69 : Nat → Nat → Nat → Int32 → Int32 → Int32 → Int32 → Int32 → zM → Option (Int32 × zM)
  | 0 => fun _ _ _ _ _ _ _ _ => none
  | zf + 1 => Ou_daysToServe_69b (Ou_daysToServe_69 zf)
def Ou_daysToServe_46 (r1 : Nat) (r2 : Nat) (v3 : Int32) (v4 : Int32) (v6 : Int32) (s0 : Int32) (u : zM) : Option (Int32 × zM) :=
  if layC r1 = (10, 16) then (if layC r2 = (17, 6) then (if ib v3 6 = true then (zlet (gI u (r1 + 15) (ix v3)) (fun x1 => if (v6 ||| s0) = 0 then (some ((-1), u)) else (Ou_daysToServe_69 zF r1 r2 v4 v6 s0 x1 0 u))) else none) else none) else none
def Ou_daysToServe_27 (r1 : Nat) (r2 : Nat) (v3 : Int32) (v4 : Int32) (v5 : Int32) (s0 : Int32) (u : zM) : Option (Int32 × zM) :=
  if layC r1 = (10, 16) then (if layC r2 = (17, 6) then (if ib v3 6 = true then (if (gI u (r2 + 5) (ix v3)) = v4 then (Ou_daysToServe_46 r1 r2 v3 v4 s0 v5 u) else (Ou_daysToServe_46 r1 r2 v3 v4 s0 0 u)) else none) else none) else none
def Ou_daysToServe (r1 : Nat) (r2 : Nat) (v3 : Int32) (v4 : Int32) (u : zM) : Option (Int32 × zM) :=
  if layC r1 = (10, 16) then (if layC r2 = (17, 6) then (if ib v4 3 = true then (zlet (1 <<< ((gI u (r2 + 3) (ix v4)) &&& 31)) (fun x1 => if ib v3 6 = true then (if (gI u (r2 + 5) (ix v3)) = (-1) then (Ou_daysToServe_27 r1 r2 v3 v4 x1 x1 u) else (Ou_daysToServe_27 r1 r2 v3 v4 x1 0 u)) else none)) else none) else none) else none
def Ou_keepRow_8b (zr8 : Int32 → Int32 → Int32 → zM → Option (Unit × zM)) (v3 : Int32) (v4 : Int32) (v5 : Int32) (u : zM) : Option (Unit × zM) :=
  if v5 < 0 then (some ((), u)) else (if (v3 + 1) = 0 then none else (zlet (v4 - v4 / (v3 + 1) * (v3 + 1)) (fun x1 => if (v3 + 1) = 0 then none else (zlet (v4 / (v3 + 1)) (fun x2 => if v3 ≤ x1 then (if ib v5 3 = true then (zlet (sI u 81 (ix v5) (-1)) (fun u1 => zr8 v3 x2 (v5 + (-1)) u1)) else none) else (if ib v5 3 = true then (zlet (sI u 81 (ix v5) x1) (fun u2 => zr8 v3 x2 (v5 + (-1)) u2)) else none))))))
def Ou_keepRow_8 : Nat → Int32 → Int32 → Int32 → zM → Option (Unit × zM)
  | 0 => fun _ _ _ _ => none
  | zf + 1 => Ou_keepRow_8b (Ou_keepRow_8 zf)
def Ou_keepRow (v1 : Int32) (v2 : Int32) (v3 : Int32) (u : zM) : Option (Unit × zM) :=
  zlet (v2 - 1) (fun x1 => Ou_keepRow_8 zF v3 v1 x1 u)
def Ou_weighRow_129 (v1 : Int32) (v2 : Int32) (v3 : Int32) (v5 : Int32) (v7 : Int32) (u : zM) : Option (Unit × zM) :=
  zlet (sI u 70 7 v7) (fun u1 => zlet (sI u1 70 8 v5) (fun u2 => zb (Ou_keepRow v1 v2 v3 u2) (fun _ u3 => some ((), u3))))
def Ou_weighRow_14b (zr14 : Int32 → Int32 → Int32 → Int32 → Int32 → Int32 → Int32 → zM → Option (Unit × zM)) (v1 : Int32) (v2 : Int32) (v3 : Int32) (v4 : Int32) (v5 : Int32) (v6 : Int32) (v7 : Int32) (u : zM) : Option (Unit × zM) :=
  if v7 < 0 then (zb (Ji_bitCount v4 u) (fun c1 u1 => if (gI u1 70 7) < c1 then (Ou_weighRow_129 v1 v2 v3 v5 c1 u1) else (if c1 = (gI u1 70 7) then (if (gI u1 70 8) ≤ v5 then (some ((), u1)) else (Ou_weighRow_129 v1 v2 v3 v5 c1 u1)) else (some ((), u1))))) else (if (v3 + 1) = 0 then none else (zlet (v6 - v6 / (v3 + 1) * (v3 + 1)) (fun x1 => if (v3 + 1) = 0 then none else (zlet (v6 / (v3 + 1)) (fun x2 => if v3 ≤ x1 then (zr14 v1 v2 v3 v4 v5 x2 (v7 + (-1)) u) else (if ib ((v7 * 6) + x1) 18 = true then (zlet (gI u 80 (ix ((v7 * 6) + x1))) (fun x3 => if x3 = (-1) then (some ((), u)) else (if ((v4 >>> (x1 &&& 31)) &&& 1) = 0 then (zlet (v4 ||| (1 <<< (x1 &&& 31))) (fun x4 => zlet (v5 + x3) (fun x5 => zr14 v1 v2 v3 x4 x5 x2 (v7 + (-1)) u))) else (some ((), u))))) else none))))))
def Ou_weighRow_14 : Nat → Int32 → Int32 → Int32 → Int32 → Int32 → Int32 → Int32 → zM → Option (Unit × zM)
  | 0 => fun _ _ _ _ _ _ _ _ => none
  | zf + 1 => Ou_weighRow_14b (Ou_weighRow_14 zf)
def Ou_weighRow (v1 : Int32) (v2 : Int32) (v3 : Int32) (u : zM) : Option (Unit × zM) :=
  zlet (v2 - 1) (fun x1 => Ou_weighRow_14 zF v1 v2 v3 0 0 v1 x1 u)
def Ou_allot_41b (zr23 : Nat → Nat → Int32 → Int32 → Int32 → Int32 → zM → Option (Unit × zM)) (zr41 : Nat → Nat → Int32 → Int32 → Int32 → Int32 → Int32 → zM → Option (Unit × zM)) (r1 : Nat) (r2 : Nat) (v3 : Int32) (v4 : Int32) (v5 : Int32) (v6 : Int32) (v7 : Int32) (u : zM) : Option (Unit × zM) :=
  if layC r1 = (10, 16) then (if layC r2 = (17, 6) then (if v4 ≤ v7 then (zr23 r1 r2 v3 v4 v5 (v6 + 1) u) else (zb (Ou_daysToServe r1 r2 v7 v6 u) (fun c1 u1 => if ib ((v6 * 6) + v7) 18 = true then (zlet (sI u1 80 (ix ((v6 * 6) + v7)) c1) (fun u2 => zr41 r1 r2 v3 v4 v5 v6 (v7 + 1) u2)) else none))) else none) else none
def Ou_allot_41 : Nat → (Nat → Nat → Int32 → Int32 → Int32 → Int32 → zM → Option (Unit × zM)) → Nat → Nat → Int32 → Int32 → Int32 → Int32 → Int32 → zM → Option (Unit × zM)
  | 0 => fun _ _ _ _ _ _ _ _ _ => none
  | zf + 1 => fun zr23 => Ou_allot_41b zr23 (Ou_allot_41 zf zr23)
def Ou_allot_91b (zr91 : Int32 → Int32 → Int32 → Int32 → zM → Option (Unit × zM)) (v3 : Int32) (v4 : Int32) (v5 : Int32) (v6 : Int32) (u : zM) : Option (Unit × zM) :=
  if v5 ≤ v6 then (some ((), u)) else (zb (Ou_weighRow v6 v3 v4 u) (fun _ u1 => zr91 v3 v4 v5 (v6 + 1) u1))
def Ou_allot_91 : Nat → Int32 → Int32 → Int32 → Int32 → zM → Option (Unit × zM)
  | 0 => fun _ _ _ _ _ => none
  | zf + 1 => Ou_allot_91b (Ou_allot_91 zf)
def Ou_allot_23b (zr23 : Nat → Nat → Int32 → Int32 → Int32 → Int32 → zM → Option (Unit × zM)) (r1 : Nat) (r2 : Nat) (v3 : Int32) (v4 : Int32) (v5 : Int32) (v6 : Int32) (u : zM) : Option (Unit × zM) :=
  if layC r1 = (10, 16) then (if layC r2 = (17, 6) then (if v3 ≤ v6 then (zlet (sI u 70 7 (-1)) (fun u1 => Ou_allot_91 zF v3 v4 v5 0 u1)) else (zlet (v5 * (v4 + 1)) (fun x1 => Ou_allot_41 zF zr23 r1 r2 v3 v4 x1 v6 0 u))) else none) else none
def Ou_allot_23 : Nat → Nat → Nat → Int32 → Int32 → Int32 → Int32 → zM → Option (Unit × zM)
  | 0 => fun _ _ _ _ _ _ _ => none
  | zf + 1 => Ou_allot_23b (Ou_allot_23 zf)
def Ou_allot (r1 : Nat) (r2 : Nat) (u : zM) : Option (Unit × zM) :=
  if layC r1 = (10, 16) then (if layC r2 = (17, 6) then (zlet (gI u (r1 + 5) 1) (fun x1 => zlet (gI u (r1 + 7) 1) (fun x2 => Ou_allot_23 zF r1 r2 x1 x2 1 0 u))) else none) else none
def Se_put (r0 : Nat) (v1 : Int32) (v2 : Int32) (v3 : Int32) (u : zM) : Option (Int32 × zM) :=
  if layC r0 = (15, 4) then (if (gI u r0 3) < 8 then (if ib (gI u r0 3) 8 = true then (zlet (sI u (r0 + 1) (ix (gI u r0 3)) v1) (fun u1 => if ib (gI u1 r0 3) 8 = true then (zlet (sI u1 (r0 + 2) (ix (gI u1 r0 3)) v2) (fun u2 => if ib (gI u2 r0 3) 8 = true then (zlet (sI u2 (r0 + 3) (ix (gI u2 r0 3)) (vp_nar .boolean v3)) (fun u3 => zlet (sI u3 r0 3 ((gI u3 r0 3) + 1)) (fun u4 => some (1, u4)))) else none)) else none)) else none) else (some (0, u))) else none
def Ss_sortOf (u : zM) : Option (Int32 × zM) :=
  zb (Ta_atWord 6578553 u) (fun c1 u1 => if c1 = 0 then (zb (Ta_atWord 1952541541 u1) (fun c2 u2 => if c2 = 0 then (zb (Ta_atWord 1937205613 u2) (fun c3 u3 => if c3 = 0 then (zb (Ta_atWord 495623239269 u3) (fun c4 u4 => if c4 = 0 then (some ((-1), u4)) else (some (3, u4)))) else (some (2, u3)))) else (some (1, u2)))) else (some (0, u1)))
def Ss_readLine_136 (r0 : Nat) (s0 : Nat) (s1 : Int32) (s3 : Nat) (u : zM) : Option (Unit × zM) :=
  if layC r0 = (16, 4) then (if (layC s0).1 = 1 then (if layC s3 = (13, 2) then (zb (Ta_passTold s3 u) (fun c1 u1 => if ib s1 ((layC s0).2) = true then (zlet (sI u1 s0 (ix s1) c1) (fun u2 => zb (Ta_passSign 59 u2) (fun _ u3 => zlet (sI u3 r0 3 ((gI u3 r0 3) + 1)) (fun u4 => some ((), u4))))) else none)) else none) else none) else none
def Ss_readLine (r0 : Nat) (r2 : Nat) (u : zM) : Option (Unit × zM) :=
  if layC r0 = (16, 4) then (if layC r2 = (10, 16) then (zb (Ss_sortOf u) (fun c1 u1 => if c1 = (-1) then (zb (Ta_fail 1 u1) (fun _ u15 => some ((), u15))) else (if (gI u1 r0 3) < 40 then (zb (Ta_step u1) (fun _ u2 => if ib (gI u2 r0 3) 40 = true then (zlet (sI u2 (r0 + 1) (ix (gI u2 r0 3)) c1) (fun u3 => if ib (gI u3 r0 3) 40 = true then (zlet (sI u3 (r0 + 2) (ix (gI u3 r0 3)) (-1)) (fun u4 => if ib (gI u4 r0 3) 40 = true then (zlet (sI u4 (r0 + 3) (ix (gI u4 r0 3)) (-1)) (fun u5 => if c1 = 3 then (zb (Ta_passTold (r2 + 7) u5) (fun c5 u10 => if ib (gI u5 r0 3) 40 = true then (zlet (sI u10 (r0 + 2) (ix (gI u5 r0 3)) c5) (fun u11 => zb (Ta_passSign 59 u11) (fun _ u12 => zlet (sI u12 r0 3 ((gI u12 r0 3) + 1)) (fun u13 => some ((), u13))))) else none)) else (if c1 = 0 then (zb (Ta_passSign 59 u5) (fun _ u6 => zlet (sI u6 r0 3 ((gI u6 r0 3) + 1)) (fun u7 => some ((), u7)))) else (zb (Ta_passTold (r2 + 5) u5) (fun c4 u8 => if ib (gI u5 r0 3) 40 = true then (zlet (sI u8 (r0 + 2) (ix (gI u5 r0 3)) c4) (fun u9 => if c1 = 1 then (Ss_readLine_136 r0 (r0 + 3) (gI u9 r0 3) (r2 + 7) u9) else (Ss_readLine_136 r0 (r0 + 3) (gI u9 r0 3) (r2 + 1) u9))) else none))))) else none)) else none)) else none)) else (zb (Ta_fail 5 u1) (fun _ u14 => some ((), u14)))))) else none) else none
def Ss_read_11b (zr11 : Nat → Nat → Int32 → zM → Option (Unit × zM)) (r0 : Nat) (r2 : Nat) (v3 : Int32) (u : zM) : Option (Unit × zM) :=
  if layC r0 = (16, 4) then (if layC r2 = (10, 16) then (if 1000 ≤ v3 then (some ((), u)) else (zb (Ta_isFine u) (fun c1 u1 => if c1 = 0 then (some ((), u1)) else (if (gI u1 2 4) = 0 then (some ((), u1)) else (zb (Ss_readLine r0 r2 u1) (fun _ u2 => zr11 r0 r2 (v3 + 1) u2)))))) else none) else none
def Ss_read_11 : Nat → Nat → Nat → Int32 → zM → Option (Unit × zM)
  | 0 => fun _ _ _ _ => none
  | zf + 1 => Ss_read_11b (Ss_read_11 zf)
def Ss_read (r0 : Nat) (r2 : Nat) (u : zM) : Option (Unit × zM) :=
  if layC r0 = (16, 4) then (if layC r2 = (10, 16) then (zlet (sI u r0 3 0) (fun u1 => zb (Ta_begin u1) (fun _ u2 => Ss_read_11 zF r0 r2 0 u2))) else none) else none
def St_begin_49b (zr49 : Nat → Int32 → zM → Option (Unit × zM)) (r0 : Nat) (v2 : Int32) (u : zM) : Option (Unit × zM) :=
  if layC r0 = (17, 6) then (if 6 ≤ v2 then (zlet (sI u r0 5 0) (fun u1 => some ((), u1))) else (if ib v2 6 = true then (zlet (sI u (r0 + 5) (ix v2) (-1)) (fun u2 => zr49 r0 (v2 + 1) u2)) else none)) else none
def St_begin_49 : Nat → Nat → Int32 → zM → Option (Unit × zM)
  | 0 => fun _ _ _ => none
  | zf + 1 => St_begin_49b (St_begin_49 zf)
def St_begin (r0 : Nat) (r1 : Nat) (u : zM) : Option (Unit × zM) :=
  if layC r0 = (17, 6) then (if layC r1 = (10, 16) then (zlet (sC u (r1 + 9) 0 (r0 + 1) 0 7) (fun u1 => zlet (sC u1 (r1 + 12) 0 (r0 + 2) 0 5) (fun u2 => zlet (sC u2 (r1 + 13) 0 (r0 + 3) 0 3) (fun u3 => zb (St_rest r0 u3) (fun _ u4 => St_begin_49 zF r0 0 u4))))) else none) else none
def OW_within (v0 : Int32) (v1 : Int32) (v2 : Int32) (u : zM) : Option (Int32 × zM) :=
  if v0 < v1 then (some (0, u)) else (if v2 < v0 then (some (0, u)) else (some (1, u)))
def OW_bitsOf_5b (zr5 : Nat → Int32 → Int32 → Int32 → Int32 → zM → Option (Int32 × zM)) (r0 : Nat) (v1 : Int32) (v2 : Int32) (v3 : Int32) (v4 : Int32) (u : zM) : Option (Int32 × zM) :=
  if (layC r0).1 = 1 then (if v1 ≤ v4 then (some (v3, u)) else (if (Nat.toInt32 ((layC r0).2)) ≤ v4 then (some (v3, u)) else (if ib v4 ((layC r0).2) = true then (if (gI u r0 (ix v4)) = v2 then (zlet (v3 ||| (1 <<< (v4 &&& 31))) (fun x1 => zr5 r0 v1 v2 x1 (v4 + 1) u)) else (zr5 r0 v1 v2 v3 (v4 + 1) u)) else none))) else none
def OW_bitsOf_5 : Nat → Nat → Int32 → Int32 → Int32 → Int32 → zM → Option (Int32 × zM)
  | 0 => fun _ _ _ _ _ _ => none
  | zf + 1 => OW_bitsOf_5b (OW_bitsOf_5 zf)
def OW_bitsOf (r0 : Nat) (v1 : Int32) (v2 : Int32) (u : zM) : Option (Int32 × zM) :=
  if (layC r0).1 = 1 then (OW_bitsOf_5 zF r0 v1 v2 0 0 u) else none
def St_mayTake (r0 : Nat) (r1 : Nat) (v2 : Int32) (v3 : Int32) (u : zM) : Option (Int32 × zM) :=
  if layC r0 = (17, 6) then (if layC r1 = (10, 16) then (zb (OW_within v2 0 ((gI u (r1 + 5) 1) - 1) u) (fun c1 u1 => if c1 = 0 then (some (0, u1)) else (zb (OW_within v3 0 ((gI u1 (r1 + 7) 1) - 1) u1) (fun c2 u2 => if c2 = 0 then (some (0, u2)) else (if ib v2 3 = true then (if (gI u2 (r0 + 3) (ix v2)) = 0 then (if ib v3 6 = true then (if (gI u2 (r0 + 5) (ix v3)) = (-1) then (zb (OW_bitsOf (r0 + 5) (gI u2 (r1 + 7) 1) v2 u2) (fun c3 u3 => zb (Ji_bitCount c3 u3) (fun c4 u4 => if 2 ≤ c4 then (some (0, u4)) else (some (1, u4))))) else (some (0, u2))) else none) else (some (0, u2))) else none))))) else none) else none
def St_maySwim (r0 : Nat) (r1 : Nat) (v2 : Int32) (v3 : Int32) (u : zM) : Option (Int32 × zM) :=
  if layC r0 = (17, 6) then (if layC r1 = (10, 16) then (zb (OW_within v2 0 ((gI u (r1 + 5) 1) - 1) u) (fun c1 u1 => if c1 = 0 then (some (0, u1)) else (zb (OW_within v3 0 ((gI u1 (r1 + 1) 1) - 1) u1) (fun c2 u2 => if c2 = 0 then (some (0, u2)) else (if ib v2 3 = true then (zlet (gI u2 (r0 + 3) (ix v2)) (fun x1 => zb (Co_isLinked r1 x1 v3 u2) (fun c3 u3 => if c3 = 0 then (some (0, u3)) else (if ib x1 7 = true then (if (gI u3 (r0 + 1) (ix x1)) < 1 then (some (0, u3)) else (if ib v3 7 = true then (if (gI u3 (r0 + 1) (ix v3)) < 1 then (some (0, u3)) else (if ib v2 3 = true then (if ib v2 3 = true then (if (gI u3 (r1 + 14) (ix v2)) ≤ (gI u3 (r0 + 4) (ix v2)) then (some (0, u3)) else (some (1, u3))) else none) else none)) else none)) else none)))) else none))))) else none) else none
def St_mayServe (r0 : Nat) (r1 : Nat) (v2 : Int32) (u : zM) : Option (Int32 × zM) :=
  if layC r0 = (17, 6) then (if layC r1 = (10, 16) then (zb (OW_within v2 0 ((gI u (r1 + 7) 1) - 1) u) (fun c1 u1 => if c1 = 0 then (some (0, u1)) else (if ib v2 6 = true then (zb (OW_within (gI u1 (r0 + 5) (ix v2)) 0 ((gI u1 (r1 + 5) 1) - 1) u1) (fun c2 u2 => if c2 = 0 then (some (0, u2)) else (if ib v2 6 = true then (if (gI u2 (r0 + 5) (ix v2)) = 3 then (some (0, u2)) else (if ib v2 6 = true then (zlet (gI u2 (r1 + 15) (ix v2)) (fun x1 => if ib x1 5 = true then (zlet (gI u2 (r0 + 2) (ix x1)) (fun x2 => if ib v2 6 = true then (if ib (gI u2 (r0 + 5) (ix v2)) 3 = true then (if (gI u2 (r0 + 3) (ix (gI u2 (r0 + 5) (ix v2)))) = x2 then (if ib x1 5 = true then (if ib x2 7 = true then (zb (St_isServable (gI u2 (r1 + 11) (ix x1)) (gI u2 (r0 + 1) (ix x2)) u2) (fun c3 u3 => if c3 = 0 then (some (0, u3)) else (some (1, u3)))) else none) else none) else (some (0, u2))) else none) else none)) else none)) else none)) else none))) else none))) else none) else none
def St_doSwim (r0 : Nat) (v1 : Int32) (v2 : Int32) (u : zM) : Option (Unit × zM) :=
  if layC r0 = (17, 6) then (if ib v1 3 = true then (zlet (sI u (r0 + 3) (ix v1) v2) (fun u1 => if ib v1 3 = true then (if ib v1 3 = true then (zlet (sI u1 (r0 + 4) (ix v1) ((gI u1 (r0 + 4) (ix v1)) + 1)) (fun u2 => some ((), u2))) else none) else none)) else none) else none
def St_doLine (r0 : Nat) (r1 : Nat) (v2 : Int32) (v3 : Int32) (v4 : Int32) (u : zM) : Option (Int32 × zM) :=
  if layC r0 = (17, 6) then (if layC r1 = (10, 16) then (if v2 = 1 then (zb (St_mayTake r0 r1 v3 v4 u) (fun c1 u1 => if c1 = 0 then (some (0, u1)) else (if ib v4 6 = true then (zlet (sI u1 (r0 + 5) (ix v4) v3) (fun u2 => some (1, u2))) else none))) else (if v2 = 2 then (zb (St_maySwim r0 r1 v3 v4 u) (fun c2 u3 => if c2 = 0 then (some (0, u3)) else (zb (St_doSwim r0 v3 v4 u3) (fun _ u4 => some (1, u4))))) else (if v2 = 3 then (zb (St_mayServe r0 r1 v3 u) (fun c4 u5 => if c4 = 0 then (some (0, u5)) else (if ib v3 6 = true then (zlet (sI u5 (r0 + 5) (ix v3) 3) (fun u6 => some (1, u6))) else none))) else (zb (St_nextDay r0 r1 u) (fun _ u7 => some (1, u7)))))) else none) else none
def St_waterTogether_4b (zr4 : Nat → Nat → Int32 → Int32 → zM → Option (Int32 × zM)) (r0 : Nat) (r1 : Nat) (v2 : Int32) (v3 : Int32) (u : zM) : Option (Int32 × zM) :=
  if layC r0 = (17, 6) then (if layC r1 = (10, 16) then (if (gI u (r1 + 1) 1) ≤ v3 then (some (v2, u)) else (if ib v3 7 = true then (zlet (v2 + (gI u (r0 + 1) (ix v3))) (fun x1 => zr4 r0 r1 x1 (v3 + 1) u)) else none)) else none) else none
def St_waterTogether_4 : Nat → Nat → Nat → Int32 → Int32 → zM → Option (Int32 × zM)
  | 0 => fun _ _ _ _ _ => none
  | zf + 1 => St_waterTogether_4b (St_waterTogether_4 zf)
def St_waterTogether (r0 : Nat) (r1 : Nat) (u : zM) : Option (Int32 × zM) :=
  if layC r0 = (17, 6) then (if layC r1 = (10, 16) then (St_waterTogether_4 zF r0 r1 0 0 u) else none) else none
def Ta_append_36 (zr3 : Int64 → Int32 → zM → Option (Unit × zM)) (v1 : Int64) (v3 : Int32) (v4 : Int32) (u : zM) : Option (Unit × zM) :=
  if 1000 ≤ (gI u 2 1) then (zr3 v1 (v3 + (-8)) u) else (if ib (gI u 2 1) 1000 = true then (zlet (sI u 3 (ix (gI u 2 1)) ((Int32.toInt8 ((Int32.toInt8 v4).toInt32)).toInt32)) (fun u1 => zlet (sI u1 2 1 ((gI u1 2 1) + 1)) (fun u2 => zr3 v1 (v3 + (-8)) u2))) else none)
def Ta_append_3b (zr3 : Int64 → Int32 → zM → Option (Unit × zM)) (v1 : Int64) (v3 : Int32) (u : zM) : Option (Unit × zM) :=
  if v3 < 0 then (some ((), u)) else (zlet (Int64.toInt32 ((v1.toUInt64 >>> ((Int32.toInt64 v3).toUInt64 &&& Int64.toUInt64 63)).toInt64 &&& 255)) (fun x1 => if x1 = 10 then (Ta_append_36 zr3 v1 v3 x1 u) else (zb (OW_within x1 32 126 u) (fun c1 u1 => if c1 = 0 then (zr3 v1 (v3 + (-8)) u1) else (Ta_append_36 zr3 v1 v3 x1 u1)))))
def Ta_append_3 : Nat → Int64 → Int32 → zM → Option (Unit × zM)
  | 0 => fun _ _ _ => none
  | zf + 1 => Ta_append_3b (Ta_append_3 zf)
def Ta_append (v1 : Int64) (u : zM) : Option (Unit × zM) :=
  Ta_append_3 zF v1 56 u
def Ta_finish (u : zM) : Option (Int32 × zM) :=
  zlet (sI u 2 1 0) (fun u1 => some ((gI u1 2 6), u1))
def OW_feed (v1 : Int64) (v3 : Int64) (v5 : Int64) (u : zM) : Option (Int32 × zM) :=
  zb (Ta_append v1 u) (fun _ u1 => zb (Ta_append v3 u1) (fun _ u2 => zb (Ta_append v5 u2) (fun _ u3 => some ((gI u3 2 1), u3))))
def OW_forgetPast (u : zM) : Option (Unit × zM) :=
  zlet (sI u 1 12 0) (fun u1 => zlet (sI u1 1 13 0) (fun u2 => some ((), u2)))
def OW_startAnew_29b (zr29 : Int32 → zM → Option (Unit × zM)) (v1 : Int32) (u : zM) : Option (Unit × zM) :=
  if 4 ≤ v1 then (zb (OW_forgetPast u) (fun _ u1 => zb (Ou_forget u1) (fun _ u2 => some ((), u2)))) else (if ib v1 4 = true then (zlet (sI u (83 + (98 + 15 * (ix v1))) 3 0) (fun u3 => zr29 (v1 + 1) u3)) else none)
def OW_startAnew_29 : Nat → Int32 → zM → Option (Unit × zM)
  | 0 => fun _ _ => none
  | zf + 1 => OW_startAnew_29b (OW_startAnew_29 zf)
def OW_startAnew (u : zM) : Option (Unit × zM) :=
  if layC (gR u 1 1) = (10, 16) then (zb (St_begin 54 (gR u 1 1) u) (fun _ u1 => if layC (gR u1 1 3) = (16, 4) then (zlet (sI u1 (gR u1 1 3) 3 0) (fun u2 => zlet (sI u2 66 3 0) (fun u3 => OW_startAnew_29 zF 0 u3))) else none)) else none
def OW_county (u : zM) : Option (Int32 × zM) :=
  if layC (gR u 1 2) = (10, 16) then (zb (Co_read (gR u 1 2) u) (fun _ u1 => zb (Ta_finish u1) (fun c2 u2 => if c2 = 0 then (if layC (gR u2 1 1) = (10, 16) then (if layC (gR u2 1 2) = (10, 16) then (zlet (sR u2 1 1 (gR u2 1 2)) (fun u3 => zlet (sR u3 1 2 (gR u2 1 1)) (fun u4 => zb (OW_startAnew u4) (fun _ u5 => some (c2, u5))))) else none) else none) else (some (c2, u2))))) else none
def OW_session (u : zM) : Option (Int32 × zM) :=
  if layC (gR u 1 4) = (16, 4) then (if layC (gR u 1 1) = (10, 16) then (zb (Ss_read (gR u 1 4) (gR u 1 1) u) (fun _ u1 => zb (Ta_finish u1) (fun c2 u2 => if c2 = 0 then (if layC (gR u2 1 3) = (16, 4) then (if layC (gR u2 1 4) = (16, 4) then (zlet (sR u2 1 3 (gR u2 1 4)) (fun u3 => zlet (sR u3 1 4 (gR u2 1 3)) (fun u4 => some (c2, u4)))) else none) else none) else (some (c2, u2))))) else none) else none
def OW_isPlace (v1 : Int32) (u : zM) : Option (Int32 × zM) :=
  if v1 < 0 then (some (0, u)) else (if layC (gR u 1 1) = (10, 16) then (if (gI u ((gR u 1 1) + 1) 1) ≤ v1 then (some (0, u)) else (some (1, u))) else none)
def OW_isPerson (v1 : Int32) (u : zM) : Option (Int32 × zM) :=
  if v1 < 0 then (some (0, u)) else (if layC (gR u 1 1) = (10, 16) then (if (gI u ((gR u 1 1) + 3) 1) ≤ v1 then (some (0, u)) else (some (1, u))) else none)
def OW_isOtter (v1 : Int32) (u : zM) : Option (Int32 × zM) :=
  if v1 < 0 then (some (0, u)) else (if layC (gR u 1 1) = (10, 16) then (if (gI u ((gR u 1 1) + 5) 1) ≤ v1 then (some (0, u)) else (some (1, u))) else none)
def OW_isWrit (v1 : Int32) (u : zM) : Option (Int32 × zM) :=
  if v1 < 0 then (some (0, u)) else (if layC (gR u 1 1) = (10, 16) then (if (gI u ((gR u 1 1) + 7) 1) ≤ v1 then (some (0, u)) else (some (1, u))) else none)
def OW_place (v1 : Int32) (v2 : Int32) (u : zM) : Option (Int32 × zM) :=
  zb (OW_isPlace v1 u) (fun c1 u1 => if c1 = 0 then (some ((-1), u1)) else (if v2 = 0 then (if ib v1 7 = true then (some ((gI u1 55 (ix v1)), u1)) else none) else (if v2 = 1 then (if layC (gR u1 1 1) = (10, 16) then (if ib v1 7 = true then (some ((gI u1 ((gR u1 1 1) + 10) (ix v1)), u1)) else none) else none) else (if v2 = 2 then (if layC (gR u1 1 1) = (10, 16) then (zb (OW_bitsOf 56 (gI u1 ((gR u1 1 1) + 3) 1) v1 u1) (fun c2 u2 => some (c2, u2))) else none) else (if v2 = 3 then (if layC (gR u1 1 1) = (10, 16) then (zb (OW_bitsOf 57 (gI u1 ((gR u1 1 1) + 5) 1) v1 u1) (fun c3 u3 => some (c3, u3))) else none) else (some ((-1), u1)))))))
def OW_person (v1 : Int32) (v2 : Int32) (u : zM) : Option (Int32 × zM) :=
  zb (OW_isPerson v1 u) (fun c1 u1 => if c1 = 0 then (some ((-1), u1)) else (if v2 = 0 then (if layC (gR u1 1 1) = (10, 16) then (if ib v1 5 = true then (some ((gI u1 ((gR u1 1 1) + 11) (ix v1)), u1)) else none) else none) else (if v2 = 1 then (if ib v1 5 = true then (some ((gI u1 56 (ix v1)), u1)) else none) else (some ((-1), u1)))))
def OW_otter (v1 : Int32) (v2 : Int32) (u : zM) : Option (Int32 × zM) :=
  zb (OW_isOtter v1 u) (fun c1 u1 => if c1 = 0 then (some ((-1), u1)) else (if v2 = 0 then (if layC (gR u1 1 1) = (10, 16) then (if ib v1 3 = true then (some ((gI u1 ((gR u1 1 1) + 14) (ix v1)), u1)) else none) else none) else (if v2 = 1 then (if ib v1 3 = true then (some ((gI u1 57 (ix v1)), u1)) else none) else (if v2 = 2 then (if ib v1 3 = true then (some ((gI u1 58 (ix v1)), u1)) else none) else (if v2 = 3 then (if layC (gR u1 1 1) = (10, 16) then (zb (OW_bitsOf 59 (gI u1 ((gR u1 1 1) + 7) 1) v1 u1) (fun c2 u2 => some (c2, u2))) else none) else (some ((-1), u1)))))))
def OW_writ (v1 : Int32) (v2 : Int32) (u : zM) : Option (Int32 × zM) :=
  zb (OW_isWrit v1 u) (fun c1 u1 => if c1 = 0 then (some ((-2), u1)) else (if v2 = 0 then (if layC (gR u1 1 1) = (10, 16) then (if ib v1 6 = true then (some ((gI u1 ((gR u1 1 1) + 15) (ix v1)), u1)) else none) else none) else (if v2 = 1 then (if layC (gR u1 1 1) = (10, 16) then (if ib v1 6 = true then (some ((gI u1 ((gR u1 1 1) + 16) (ix v1)), u1)) else none) else none) else (if v2 = 2 then (if ib v1 6 = true then (some ((gI u1 59 (ix v1)), u1)) else none) else (some ((-2), u1))))))
def OW_count (v1 : Int32) (u : zM) : Option (Int32 × zM) :=
  if v1 = 0 then (if layC (gR u 1 1) = (10, 16) then (some ((gI u ((gR u 1 1) + 1) 1), u)) else none) else (if v1 = 1 then (if layC (gR u 1 1) = (10, 16) then (some ((gI u (gR u 1 1) 15), u)) else none) else (if v1 = 2 then (if layC (gR u 1 1) = (10, 16) then (some ((gI u ((gR u 1 1) + 3) 1), u)) else none) else (if v1 = 3 then (if layC (gR u 1 1) = (10, 16) then (some ((gI u ((gR u 1 1) + 5) 1), u)) else none) else (if v1 = 4 then (if layC (gR u 1 1) = (10, 16) then (some ((gI u ((gR u 1 1) + 7) 1), u)) else none) else (if v1 = 5 then (some ((gI u 54 5), u)) else (if v1 = 6 then (if layC (gR u 1 1) = (10, 16) then (zb (Co_rainOf (gR u 1 1) (gI u 54 5) u) (fun c1 u1 => some (c1, u1))) else none) else (if v1 = 7 then (if layC (gR u 1 1) = (10, 16) then (zb (St_wetBits 54 (gR u 1 1) u) (fun c2 u2 => some (c2, u2))) else none) else (if v1 = 8 then (if layC (gR u 1 1) = (10, 16) then (zb (OW_bitsOf 59 (gI u ((gR u 1 1) + 7) 1) 3 u) (fun c3 u3 => some (c3, u3))) else none) else (if v1 = 9 then (if layC (gR u 1 3) = (16, 4) then (some ((gI u (gR u 1 3) 3), u)) else none) else (if v1 = 10 then (some ((gI u 66 3), u)) else (if v1 = 11 then (some ((gI u 1 12), u)) else (if v1 = 12 then (some ((gI u 2 1), u)) else (some ((-1), u))))))))))))))
def OW_keepPast (u : zM) : Option (Unit × zM) :=
  if ib (gI u 1 13) 16 = true then (zb (St_copy (82 + (3 + 6 * (ix (gI u 1 13)))) 54 u) (fun _ u1 => zlet (sI u1 1 13 (((gI u1 1 13) + 1) - ((gI u1 1 13) + 1) / 16 * 16)) (fun u2 => zb (Jm_min ((gI u2 1 12) + 1) 16 u2) (fun c2 u3 => zlet (sI u3 1 12 c2) (fun u4 => some ((), u4)))))) else none
def OW_take (v1 : Int32) (v2 : Int32) (u : zM) : Option (Int32 × zM) :=
  if layC (gR u 1 1) = (10, 16) then (zb (St_mayTake 54 (gR u 1 1) v1 v2 u) (fun c1 u1 => if c1 = 0 then (some (0, u1)) else (zb (OW_keepPast u1) (fun _ u2 => if ib v2 6 = true then (zlet (sI u2 59 (ix v2) v1) (fun u3 => some (1, u3))) else none)))) else none
def OW_swim (v1 : Int32) (v2 : Int32) (u : zM) : Option (Int32 × zM) :=
  if layC (gR u 1 1) = (10, 16) then (zb (St_maySwim 54 (gR u 1 1) v1 v2 u) (fun c1 u1 => if c1 = 0 then (some ((-1), u1)) else (zb (OW_keepPast u1) (fun _ u2 => zb (St_doSwim 54 v1 v2 u2) (fun _ u3 => if ib v1 3 = true then (some ((gI u3 58 (ix v1)), u3)) else none))))) else none
def OW_serve (v1 : Int32) (u : zM) : Option (Int32 × zM) :=
  if layC (gR u 1 1) = (10, 16) then (zb (St_mayServe 54 (gR u 1 1) v1 u) (fun c1 u1 => if c1 = 0 then (some ((-1), u1)) else (zb (OW_keepPast u1) (fun _ u2 => if ib v1 6 = true then (zlet (gI u2 59 (ix v1)) (fun x1 => if ib v1 6 = true then (zlet (sI u2 59 (ix v1) 3) (fun u3 => some (x1, u3))) else none)) else none)))) else none
def OW_day (u : zM) : Option (Int32 × zM) :=
  zb (OW_keepPast u) (fun _ u1 => if layC (gR u1 1 1) = (10, 16) then (zb (St_nextDay 54 (gR u1 1 1) u1) (fun _ u2 => zb (Ou_forget u2) (fun _ u3 => if layC (gR u3 1 1) = (10, 16) then (zb (St_wetBits 54 (gR u3 1 1) u3) (fun c4 u4 => some (c4, u4))) else none))) else none)
def OW_undo (u : zM) : Option (Int32 × zM) :=
  if (gI u 1 12) = 0 then (some (0, u)) else (zlet (sI u 1 12 ((gI u 1 12) - 1)) (fun u1 => zlet (sI u1 1 13 ((((gI u1 1 13) + 16) - 1) - (((gI u1 1 13) + 16) - 1) / 16 * 16)) (fun u2 => if ib (gI u2 1 13) 16 = true then (zb (St_copy 54 (82 + (3 + 6 * (ix (gI u2 1 13)))) u2) (fun _ u3 => zb (Ou_forget u3) (fun _ u4 => some (1, u4)))) else none)))
def OW_mark (v1 : Int32) (v2 : Int32) (u : zM) : Option (Int32 × zM) :=
  zb (OW_within v1 0 3 u) (fun c1 u1 => if c1 = 0 then (some (0, u1)) else (if ib v1 4 = true then (if v2 = 0 then (if layC (gR u1 1 3) = (16, 4) then (zb (Mk_lay (83 + (98 + 15 * (ix v1))) 54 (gR u1 1 3) 66 u1) (fun _ u7 => some (1, u7))) else none) else (if (gI u1 (83 + (98 + 15 * (ix v1))) 3) = 0 then (some (0, u1)) else (zb (St_copy 54 ((83 + (98 + 15 * (ix v1))) + 1) u1) (fun _ u2 => if layC (gR u2 1 3) = (16, 4) then (zb (Ss_copy (gR u2 1 3) ((83 + (98 + 15 * (ix v1))) + 7) u2) (fun _ u3 => zb (Se_copy 66 ((83 + (98 + 15 * (ix v1))) + 11) u3) (fun _ u4 => zb (OW_forgetPast u4) (fun _ u5 => zb (Ou_forget u5) (fun _ u6 => some (1, u6)))))) else none)))) else none))
def OW_judged_101 (zr33 : Int32 → Int32 → Int32 → Int32 → Int32 → zM → Option (Int32 × zM)) (v1 : Int32) (v2 : Int32) (v3 : Int32) (v4 : Int32) (v5 : Int32) (v6 : Int32) (u : zM) : Option (Int32 × zM) :=
  if v6 = 0 then (zr33 v1 v2 v3 v4 (v5 + 1) u) else (if layC (gR u 1 3) = (16, 4) then (if ib v5 40 = true then (if (gI u ((gR u 1 3) + 1) (ix v5)) = 3 then (if v3 = (-1) then (zr33 v1 v2 v5 (v4 + 1) (v5 + 1) u) else (zr33 v1 v2 v3 (v4 + 1) (v5 + 1) u)) else (zr33 v1 v2 v3 v4 (v5 + 1) u)) else none) else none)
def OW_judged_33b (zr33 : Int32 → Int32 → Int32 → Int32 → Int32 → zM → Option (Int32 × zM)) (v1 : Int32) (v2 : Int32) (v3 : Int32) (v4 : Int32) (v5 : Int32) (u : zM) : Option (Int32 × zM) :=
  if layC (gR u 1 3) = (16, 4) then (if (gI u (gR u 1 3) 3) ≤ v5 then (if v1 = 0 then (some (v2, u)) else (if v1 = 1 then (some (v3, u)) else (some (v4, u)))) else (if layC (gR u 1 1) = (10, 16) then (if layC (gR u 1 3) = (16, 4) then (if ib v5 40 = true then (if layC (gR u 1 3) = (16, 4) then (if ib v5 40 = true then (if layC (gR u 1 3) = (16, 4) then (if ib v5 40 = true then (zb (St_doLine 60 (gR u 1 1) (gI u ((gR u 1 3) + 1) (ix v5)) (gI u ((gR u 1 3) + 2) (ix v5)) (gI u ((gR u 1 3) + 3) (ix v5)) u) (fun c1 u1 => if c1 = 0 then (if v2 = (-1) then (OW_judged_101 zr33 v1 v5 v3 v4 v5 c1 u1) else (OW_judged_101 zr33 v1 v2 v3 v4 v5 c1 u1)) else (OW_judged_101 zr33 v1 v2 v3 v4 v5 c1 u1))) else none) else none) else none) else none) else none) else none) else none)) else none
def OW_judged_33 : Nat → Int32 → Int32 → Int32 → Int32 → Int32 → zM → Option (Int32 × zM)
  | 0 => fun _ _ _ _ _ _ => none
  | zf + 1 => OW_judged_33b (OW_judged_33 zf)
def OW_judged (v1 : Int32) (u : zM) : Option (Int32 × zM) :=
  zb (OW_within v1 0 2 u) (fun c1 u1 => if c1 = 0 then (some ((-2), u1)) else (if layC (gR u1 1 1) = (10, 16) then (zb (St_begin 60 (gR u1 1 1) u1) (fun _ u2 => OW_judged_33 zF v1 (-1) (-1) 0 0 u2)) else none))
def OW_later (v1 : Int32) (v2 : Int32) (u : zM) : Option (Int32 × zM) :=
  zb (OW_isPlace v1 u) (fun c1 u1 => if c1 = 0 then (some ((-1), u1)) else (zb (OW_within v2 0 60 u1) (fun c2 u2 => if c2 = 0 then (some ((-1), u2)) else (if layC (gR u2 1 1) = (10, 16) then (zb (Ou_foretell (gR u2 1 1) 54 v2 u2) (fun _ u3 => zb (Ou_waterOn v2 v1 u3) (fun c4 u4 => some (c4, u4)))) else none))))
def OW_where (v1 : Int32) (v2 : Int32) (u : zM) : Option (Int32 × zM) :=
  zb (OW_isPerson v1 u) (fun c1 u1 => if c1 = 0 then (some ((-1), u1)) else (zb (OW_within v2 0 60 u1) (fun c2 u2 => if c2 = 0 then (some ((-1), u2)) else (if layC (gR u2 1 1) = (10, 16) then (zb (Ou_foretell (gR u2 1 1) 54 v2 u2) (fun _ u3 => zb (Ou_placeOn v2 v1 u3) (fun c4 u4 => some (c4, u4)))) else none))))
def OW_firstDay_2b (zr2 : Int32 → Int32 → Int32 → zM → Option (Int32 × zM)) (v1 : Int32) (v2 : Int32) (v3 : Int32) (u : zM) : Option (Int32 × zM) :=
  if 60 < v3 then (some ((-1), u)) else (if layC (gR u 1 1) = (10, 16) then (zb (Ou_foretell (gR u 1 1) 54 v3 u) (fun _ u1 => zb (Ou_wetOn v3 u1) (fun c2 u2 => if (c2 &&& v1) = v2 then (some (v3, u2)) else (zr2 v1 v2 (v3 + 1) u2)))) else none)
def OW_firstDay_2 : Nat → Int32 → Int32 → Int32 → zM → Option (Int32 × zM)
  | 0 => fun _ _ _ _ => none
  | zf + 1 => OW_firstDay_2b (OW_firstDay_2 zf)
def OW_firstDay (v1 : Int32) (v2 : Int32) (u : zM) : Option (Int32 × zM) :=
  OW_firstDay_2 zF v1 v2 0 u
def OW_dry (v1 : Int32) (u : zM) : Option (Int32 × zM) :=
  zb (OW_isPlace v1 u) (fun c1 u1 => if c1 = 0 then (some ((-1), u1)) else (zb (OW_firstDay (1 <<< (v1 &&& 31)) 0 u1) (fun c2 u2 => some (c2, u2))))
def OW_wet (v1 : Int32) (u : zM) : Option (Int32 × zM) :=
  zb (OW_isPlace v1 u) (fun c1 u1 => if c1 = 0 then (some ((-1), u1)) else (zb (OW_firstDay (1 <<< (v1 &&& 31)) (1 <<< (v1 &&& 31)) u1) (fun c2 u2 => some (c2, u2))))
def OW_flood (u : zM) : Option (Int32 × zM) :=
  if layC (gR u 1 1) = (10, 16) then (zb (Co_allPlaces (gR u 1 1) u) (fun c1 u1 => if layC (gR u1 1 1) = (10, 16) then (zb (Co_allPlaces (gR u1 1 1) u1) (fun c2 u2 => zb (OW_firstDay c1 c2 u2) (fun c3 u3 => some (c3, u3)))) else none)) else none
def OW_crest_31b (zr31 : Int32 → Int32 → Int32 → zM → Option (Int32 × zM)) (v1 : Int32) (v2 : Int32) (v3 : Int32) (u : zM) : Option (Int32 × zM) :=
  if 60 < v3 then (some (v2, u)) else (zb (Ou_waterOn v3 v1 u) (fun c1 u1 => zb (Ou_waterOn v2 v1 u1) (fun c2 u2 => if c1 ≤ c2 then (zr31 v1 v2 (v3 + 1) u2) else (zr31 v1 v3 (v3 + 1) u2))))
def OW_crest_31 : Nat → Int32 → Int32 → Int32 → zM → Option (Int32 × zM)
  | 0 => fun _ _ _ _ => none
  | zf + 1 => OW_crest_31b (OW_crest_31 zf)
def OW_crest (v1 : Int32) (u : zM) : Option (Int32 × zM) :=
  zb (OW_isPlace v1 u) (fun c1 u1 => if c1 = 0 then (some ((-1), u1)) else (if layC (gR u1 1 1) = (10, 16) then (zb (Ou_foretell (gR u1 1 1) 54 60 u1) (fun _ u2 => OW_crest_31 zF v1 0 1 u2)) else none))
def OW_isSafe_3b (zr3 : Int32 → Int32 → Int32 → Int32 → zM → Option (Int32 × zM)) (v1 : Int32) (v2 : Int32) (v3 : Int32) (v4 : Int32) (u : zM) : Option (Int32 × zM) :=
  if v3 < v4 then (some (1, u)) else (zb (Ou_waterOn v4 v2 u) (fun c1 u1 => zb (St_isServable v1 c1 u1) (fun c2 u2 => if c2 = 0 then (zr3 v1 v2 v3 (v4 + 1) u2) else (some (0, u2)))))
def OW_isSafe_3 : Nat → Int32 → Int32 → Int32 → Int32 → zM → Option (Int32 × zM)
  | 0 => fun _ _ _ _ _ => none
  | zf + 1 => OW_isSafe_3b (OW_isSafe_3 zf)
def OW_isSafe (v1 : Int32) (v2 : Int32) (v3 : Int32) (u : zM) : Option (Int32 × zM) :=
  OW_isSafe_3 zF v1 v2 v3 0 u
def OW_safe_41b (zr41 : Int32 → Int32 → Int32 → Int32 → zM → Option (Int32 × zM)) (v1 : Int32) (v2 : Int32) (v3 : Int32) (v4 : Int32) (u : zM) : Option (Int32 × zM) :=
  if layC (gR u 1 1) = (10, 16) then (if (gI u ((gR u 1 1) + 1) 1) ≤ v4 then (some (v3, u)) else (if layC (gR u 1 1) = (10, 16) then (if ib v1 5 = true then (zb (OW_isSafe (gI u ((gR u 1 1) + 11) (ix v1)) v4 v2 u) (fun c1 u1 => if c1 = 0 then (zr41 v1 v2 v3 (v4 + 1) u1) else (zlet (v3 ||| (1 <<< (v4 &&& 31))) (fun x1 => zr41 v1 v2 x1 (v4 + 1) u1)))) else none) else none)) else none
def OW_safe_41 : Nat → Int32 → Int32 → Int32 → Int32 → zM → Option (Int32 × zM)
  | 0 => fun _ _ _ _ _ => none
  | zf + 1 => OW_safe_41b (OW_safe_41 zf)
def OW_safe (v1 : Int32) (v2 : Int32) (u : zM) : Option (Int32 × zM) :=
  zb (OW_isPerson v1 u) (fun c1 u1 => if c1 = 0 then (some ((-1), u1)) else (zb (OW_within v2 1 60 u1) (fun c2 u2 => if c2 = 0 then (some ((-1), u2)) else (if layC (gR u2 1 1) = (10, 16) then (zb (Ou_foretell (gR u2 1 1) 54 v2 u2) (fun _ u3 => OW_safe_41 zF v1 v2 0 0 u3)) else none))))
def OW_soon (v1 : Int32) (v2 : Int32) (u : zM) : Option (Int32 × zM) :=
  zb (OW_isOtter v1 u) (fun c1 u1 => if c1 = 0 then (some ((-1), u1)) else (zb (OW_isPlace v2 u1) (fun c2 u2 => if c2 = 0 then (some ((-1), u2)) else (if layC (gR u2 1 1) = (10, 16) then (zb (Ou_foretell (gR u2 1 1) 54 60 u2) (fun _ u3 => if layC (gR u3 1 1) = (10, 16) then (zb (Ou_daysToPlace (gR u3 1 1) 54 v1 v2 u3) (fun c4 u4 => some (c4, u4))) else none)) else none))))
def OW_serves (v1 : Int32) (v2 : Int32) (u : zM) : Option (Int32 × zM) :=
  zb (OW_isWrit v1 u) (fun c1 u1 => if c1 = 0 then (some ((-1), u1)) else (zb (OW_isOtter v2 u1) (fun c2 u2 => if c2 = 0 then (some ((-1), u2)) else (if layC (gR u2 1 1) = (10, 16) then (zb (Ou_foretell (gR u2 1 1) 54 60 u2) (fun _ u3 => if layC (gR u3 1 1) = (10, 16) then (zb (Ou_daysToServe (gR u3 1 1) 54 v1 v2 u3) (fun c4 u4 => some (c4, u4))) else none)) else none))))
def OW_intime_31b (zr31 : Int32 → Int32 → Int32 → zM → Option (Int32 × zM)) (v1 : Int32) (v2 : Int32) (v3 : Int32) (u : zM) : Option (Int32 × zM) :=
  if layC (gR u 1 1) = (10, 16) then (if (gI u ((gR u 1 1) + 5) 1) ≤ v3 then (some (v2, u)) else (if layC (gR u 1 1) = (10, 16) then (zb (Ou_daysToServe (gR u 1 1) 54 v1 v3 u) (fun c1 u1 => if c1 = (-1) then (zr31 v1 v2 (v3 + 1) u1) else (if layC (gR u1 1 1) = (10, 16) then (if ib v1 6 = true then (if (gI u1 ((gR u1 1 1) + 16) (ix v1)) < ((gI u1 54 5) + c1) then (zr31 v1 v2 (v3 + 1) u1) else (zlet (v2 ||| (1 <<< (v3 &&& 31))) (fun x1 => zr31 v1 x1 (v3 + 1) u1))) else none) else none))) else none)) else none
def OW_intime_31 : Nat → Int32 → Int32 → Int32 → zM → Option (Int32 × zM)
  | 0 => fun _ _ _ _ => none
  | zf + 1 => OW_intime_31b (OW_intime_31 zf)
def OW_intime (v1 : Int32) (u : zM) : Option (Int32 × zM) :=
  zb (OW_isWrit v1 u) (fun c1 u1 => if c1 = 0 then (some ((-1), u1)) else (if layC (gR u1 1 1) = (10, 16) then (zb (Ou_foretell (gR u1 1 1) 54 60 u1) (fun _ u2 => OW_intime_31 zF v1 0 0 u2)) else none))
def OW_share (v1 : Int32) (u : zM) : Option (Int32 × zM) :=
  if layC (gR u 1 1) = (10, 16) then (zb (OW_within v1 (-2) ((gI u ((gR u 1 1) + 5) 1) - 1) u) (fun c1 u1 => if c1 = 0 then (some ((-3), u1)) else (if layC (gR u1 1 1) = (10, 16) then (zb (Ou_foretell (gR u1 1 1) 54 60 u1) (fun _ u2 => if layC (gR u2 1 1) = (10, 16) then (zb (Ou_allot (gR u2 1 1) 54 u2) (fun _ u3 => if v1 = (-1) then (some ((gI u3 70 7), u3)) else (if v1 = (-2) then (some ((gI u3 70 8), u3)) else (if ib v1 3 = true then (some ((gI u3 81 (ix v1)), u3)) else none)))) else none)) else none))) else none
def OW_late_4b (zr4 : Int32 → Int32 → zM → Option (Int32 × zM)) (v1 : Int32) (v2 : Int32) (u : zM) : Option (Int32 × zM) :=
  if layC (gR u 1 1) = (10, 16) then (if (gI u ((gR u 1 1) + 7) 1) ≤ v2 then (some (v1, u)) else (if ib v2 6 = true then (if (gI u 59 (ix v2)) = 3 then (zr4 v1 (v2 + 1) u) else (if layC (gR u 1 1) = (10, 16) then (if ib v2 6 = true then (if (gI u 54 5) ≤ (gI u ((gR u 1 1) + 16) (ix v2)) then (zr4 v1 (v2 + 1) u) else (zlet (v1 ||| (1 <<< (v2 &&& 31))) (fun x1 => zr4 x1 (v2 + 1) u))) else none) else none)) else none)) else none
def OW_late_4 : Nat → Int32 → Int32 → zM → Option (Int32 × zM)
  | 0 => fun _ _ _ => none
  | zf + 1 => OW_late_4b (OW_late_4 zf)
def OW_late (u : zM) : Option (Int32 × zM) :=
  OW_late_4 zF 0 0 u
def OW_may (v1 : Int32) (u : zM) : Option (Int32 × zM) :=
  if layC (gR u 1 1) = (10, 16) then (zb (St_mayServe 54 (gR u 1 1) v1 u) (fun c1 u1 => zbo c1 u1)) else none
def OW_can_14b (zr14 : Int32 → Int32 → Int32 → zM → Option (Int32 × zM)) (v1 : Int32) (v2 : Int32) (v3 : Int32) (u : zM) : Option (Int32 × zM) :=
  if layC (gR u 1 1) = (10, 16) then (if (gI u ((gR u 1 1) + 1) 1) ≤ v3 then (some (v2, u)) else (if layC (gR u 1 1) = (10, 16) then (zb (St_maySwim 54 (gR u 1 1) v1 v3 u) (fun c1 u1 => if c1 = 0 then (zr14 v1 v2 (v3 + 1) u1) else (zlet (v2 ||| (1 <<< (v3 &&& 31))) (fun x1 => zr14 v1 x1 (v3 + 1) u1)))) else none)) else none
def OW_can_14 : Nat → Int32 → Int32 → Int32 → zM → Option (Int32 × zM)
  | 0 => fun _ _ _ _ => none
  | zf + 1 => OW_can_14b (OW_can_14 zf)
def OW_can (v1 : Int32) (u : zM) : Option (Int32 × zM) :=
  zb (OW_isOtter v1 u) (fun c1 u1 => if c1 = 0 then (some ((-1), u1)) else (OW_can_14 zF v1 0 0 u1))
def OW_warm_6b (zr6 : Int32 → Int32 → Int32 → zM → Option (Int32 × zM)) (v1 : Int32) (v2 : Int32) (v3 : Int32) (u : zM) : Option (Int32 × zM) :=
  if layC (gR u 1 1) = (10, 16) then (if (gI u ((gR u 1 1) + 1) 1) ≤ v3 then (some (v1, u)) else (if layC (gR u 1 1) = (10, 16) then (zb (OW_bitsOf 56 (gI u ((gR u 1 1) + 3) 1) v3 u) (fun c1 u1 => zb (Ji_bitCount c1 u1) (fun c2 u2 => if c2 ≤ v2 then (zr6 v1 v2 (v3 + 1) u2) else (zr6 v3 c2 (v3 + 1) u2)))) else none)) else none
def OW_warm_6 : Nat → Int32 → Int32 → Int32 → zM → Option (Int32 × zM)
  | 0 => fun _ _ _ _ => none
  | zf + 1 => OW_warm_6b (OW_warm_6 zf)
def OW_warm (u : zM) : Option (Int32 × zM) :=
  OW_warm_6 zF (-1) 0 0 u
def OW_hunted_39b (zr39 : Int32 → Int32 → Int32 → Int32 → zM → Option (Int32 × zM)) (v1 : Int32) (v2 : Int32) (v3 : Int32) (v4 : Int32) (u : zM) : Option (Int32 × zM) :=
  if layC (gR u 1 1) = (10, 16) then (if (gI u ((gR u 1 1) + 3) 1) ≤ v4 then (some (v1, u)) else (if layC (gR u 1 1) = (10, 16) then (if layC (gR u 1 1) = (10, 16) then (zb (OW_bitsOf ((gR u 1 1) + 15) (gI u ((gR u 1 1) + 7) 1) v4 u) (fun c1 u1 => zb (Ji_bitCount (v3 &&& c1) u1) (fun c2 u2 => if c2 ≤ v2 then (zr39 v1 v2 v3 (v4 + 1) u2) else (zr39 v4 c2 v3 (v4 + 1) u2)))) else none) else none)) else none
def OW_hunted_39 : Nat → Int32 → Int32 → Int32 → Int32 → zM → Option (Int32 × zM)
  | 0 => fun _ _ _ _ _ => none
  | zf + 1 => OW_hunted_39b (OW_hunted_39 zf)
def OW_hunted (u : zM) : Option (Int32 × zM) :=
  if layC (gR u 1 1) = (10, 16) then (zb (Co_allWrits (gR u 1 1) u) (fun c1 u1 => if layC (gR u1 1 1) = (10, 16) then (zb (OW_bitsOf 59 (gI u1 ((gR u1 1 1) + 7) 1) 3 u1) (fun c2 u2 => zlet (c1 &&& (c2 ^^^ ((-1) : Int32))) (fun x1 => OW_hunted_39 zF (-1) 0 x1 0 u2))) else none)) else none
def OW_reach (v1 : Int32) (u : zM) : Option (Int32 × zM) :=
  zb (OW_isPlace v1 u) (fun c1 u1 => if c1 = 0 then (some ((-1), u1)) else (if layC (gR u1 1 1) = (10, 16) then (if layC (gR u1 1 1) = (10, 16) then (zb (Co_allPlaces (gR u1 1 1) u1) (fun c2 u2 => zb (Co_spreadAll (gR u1 1 1) (1 <<< (v1 &&& 31)) c2 u2) (fun c3 u3 => some (c3, u3)))) else none) else none))
def OW_poolOf (v1 : Int32) (v2 : Int32) (u : zM) : Option (Int32 × zM) :=
  zlet (v2 &&& (1 <<< (v1 &&& 31))) (fun x1 => if x1 = 0 then (some (0, u)) else (if layC (gR u 1 1) = (10, 16) then (zb (Co_spreadAll (gR u 1 1) x1 v2 u) (fun c1 u1 => some (c1, u1))) else none))
def OW_pool (v1 : Int32) (u : zM) : Option (Int32 × zM) :=
  zb (OW_isPlace v1 u) (fun c1 u1 => if c1 = 0 then (some ((-1), u1)) else (if layC (gR u1 1 1) = (10, 16) then (zb (St_wetBits 54 (gR u1 1 1) u1) (fun c2 u2 => zb (OW_poolOf v1 c2 u2) (fun c3 u3 => some (c3, u3)))) else none))
def OW_far_25b (zr25 : Int32 → Int32 → Int32 → zM → Option (Int32 × zM)) (v2 : Int32) (v3 : Int32) (v4 : Int32) (u : zM) : Option (Int32 × zM) :=
  if 7 ≤ v4 then (some ((-1), u)) else (if ((v3 >>> (v2 &&& 31)) &&& 1) = 0 then (if layC (gR u 1 1) = (10, 16) then (if layC (gR u 1 1) = (10, 16) then (zb (Co_allPlaces (gR u 1 1) u) (fun c1 u1 => zb (Co_spread (gR u 1 1) v3 c1 u1) (fun c2 u2 => zr25 v2 c2 (v4 + 1) u2))) else none) else none) else (some (v4, u)))
def OW_far_25 : Nat → Int32 → Int32 → Int32 → zM → Option (Int32 × zM)
  | 0 => fun _ _ _ _ => none
  | zf + 1 => OW_far_25b (OW_far_25 zf)
def OW_far (v1 : Int32) (v2 : Int32) (u : zM) : Option (Int32 × zM) :=
  zb (OW_isPlace v1 u) (fun c1 u1 => if c1 = 0 then (some ((-1), u1)) else (zb (OW_isPlace v2 u1) (fun c2 u2 => if c2 = 0 then (some ((-1), u2)) else (zlet (1 <<< (v1 &&& 31)) (fun x1 => OW_far_25 zF v2 x1 0 u2)))))
def OW_pools_19b (zr19 : Int32 → Int32 → Int32 → Int32 → zM → Option (Int32 × zM)) (v1 : Int32) (v2 : Int32) (v3 : Int32) (v4 : Int32) (u : zM) : Option (Int32 × zM) :=
  if layC (gR u 1 1) = (10, 16) then (if (gI u ((gR u 1 1) + 1) 1) ≤ v4 then (some (v3, u)) else (if ((v1 &&& (v2 ^^^ ((-1) : Int32))) &&& (1 <<< (v4 &&& 31))) = 0 then (zr19 v1 v2 v3 (v4 + 1) u) else (zb (OW_poolOf v4 v1 u) (fun c1 u1 => zlet (v2 ||| c1) (fun x1 => zr19 v1 x1 (v3 + 1) (v4 + 1) u1))))) else none
def OW_pools_19 : Nat → Int32 → Int32 → Int32 → Int32 → zM → Option (Int32 × zM)
  | 0 => fun _ _ _ _ _ => none
  | zf + 1 => OW_pools_19b (OW_pools_19 zf)
def OW_pools (u : zM) : Option (Int32 × zM) :=
  if layC (gR u 1 1) = (10, 16) then (zb (St_wetBits 54 (gR u 1 1) u) (fun c1 u1 => OW_pools_19 zF c1 0 0 0 u1)) else none
def OW_isBridge (v1 : Int32) (v2 : Int32) (u : zM) : Option (Int32 × zM) :=
  if layC (gR u 1 1) = (10, 16) then (zb (Co_flipLink (gR u 1 1) v1 v2 u) (fun _ u1 => if layC (gR u1 1 1) = (10, 16) then (if layC (gR u1 1 1) = (10, 16) then (zb (Co_allPlaces (gR u1 1 1) u1) (fun c2 u2 => zb (Co_spreadAll (gR u1 1 1) (1 <<< (v1 &&& 31)) c2 u2) (fun c3 u3 => if layC (gR u3 1 1) = (10, 16) then (zb (Co_flipLink (gR u3 1 1) v1 v2 u3) (fun _ u4 => if ((c3 >>> (v2 &&& 31)) &&& 1) = 0 then (some (1, u4)) else (some (0, u4)))) else none))) else none) else none)) else none
def OW_bridges_22b (zr4 : Int32 → Int32 → zM → Option (Int32 × zM)) (zr22 : Int32 → Int32 → Int32 → zM → Option (Int32 × zM)) (v1 : Int32) (v2 : Int32) (v3 : Int32) (u : zM) : Option (Int32 × zM) :=
  if layC (gR u 1 1) = (10, 16) then (if (gI u ((gR u 1 1) + 1) 1) ≤ v3 then (zr4 v1 (v2 + 1) u) else (if layC (gR u 1 1) = (10, 16) then (zb (Co_isLinked (gR u 1 1) v2 v3 u) (fun c1 u1 => if c1 = 0 then (zr22 v1 v2 (v3 + 1) u1) else (zb (OW_isBridge v2 v3 u1) (fun c2 u2 => if c2 = 0 then (zr22 v1 v2 (v3 + 1) u2) else (zr22 (v1 + 1) v2 (v3 + 1) u2))))) else none)) else none
def OW_bridges_22 : Nat → (Int32 → Int32 → zM → Option (Int32 × zM)) → Int32 → Int32 → Int32 → zM → Option (Int32 × zM)
  | 0 => fun _ _ _ _ _ => none
  | zf + 1 => fun zr4 => OW_bridges_22b zr4 (OW_bridges_22 zf zr4)
def OW_bridges_4b (zr4 : Int32 → Int32 → zM → Option (Int32 × zM)) (v1 : Int32) (v2 : Int32) (u : zM) : Option (Int32 × zM) :=
  if layC (gR u 1 1) = (10, 16) then (if (gI u ((gR u 1 1) + 1) 1) ≤ v2 then (some (v1, u)) else (zlet (v2 + 1) (fun x1 => OW_bridges_22 zF zr4 v1 v2 x1 u))) else none
def OW_bridges_4 : Nat → Int32 → Int32 → zM → Option (Int32 × zM)
  | 0 => fun _ _ _ => none
  | zf + 1 => OW_bridges_4b (OW_bridges_4 zf)
def OW_bridges (u : zM) : Option (Int32 × zM) :=
  OW_bridges_4 zF 0 0 u
def OW_see (v1 : Int32) (v2 : Int32) (v3 : Int32) (u : zM) : Option (Int32 × zM) :=
  zb (OW_isPlace v1 u) (fun c1 u1 => if c1 = 0 then (some (0, u1)) else (zb (OW_within v2 0 9 u1) (fun c2 u2 => if c2 = 0 then (some (0, u2)) else (zb (Se_put 66 v1 v2 v3 u2) (fun c3 u3 => zbo c3 u3)))))
def OW_isAsSeen_69 (zr2 : Int32 → Int32 → zM → Option (Int32 × zM)) (v1 : Int32) (v2 : Int32) (s0 : Int32) (u : zM) : Option (Int32 × zM) :=
  if ib v2 8 = true then (if s0 = (gI u 69 (ix v2)) then (zr2 v1 (v2 + 1) u) else (some (0, u))) else none
def OW_isAsSeen_2b (zr2 : Int32 → Int32 → zM → Option (Int32 × zM)) (v1 : Int32) (v2 : Int32) (u : zM) : Option (Int32 × zM) :=
  if (gI u 66 3) ≤ v2 then (some (1, u)) else (if ib v2 8 = true then (zlet (gI u 67 (ix v2)) (fun x1 => if layC (gR u 1 1) = (10, 16) then (if ib x1 7 = true then (zb (Co_waterBehind (gR u 1 1) x1 (gI u 55 (ix x1)) v1 (gI u 54 5) u) (fun c1 u1 => if ib v2 8 = true then (if c1 < (gI u1 68 (ix v2)) then (OW_isAsSeen_69 zr2 v1 v2 0 u1) else (OW_isAsSeen_69 zr2 v1 v2 1 u1)) else none)) else none) else none)) else none)
def OW_isAsSeen_2 : Nat → Int32 → Int32 → zM → Option (Int32 × zM)
  | 0 => fun _ _ _ => none
  | zf + 1 => OW_isAsSeen_2b (OW_isAsSeen_2 zf)
def OW_isAsSeen (v1 : Int32) (u : zM) : Option (Int32 × zM) :=
  OW_isAsSeen_2 zF v1 0 u
def OW_rains_4b (zr4 : Int32 → Int32 → zM → Option (Int32 × zM)) (v1 : Int32) (v2 : Int32) (u : zM) : Option (Int32 × zM) :=
  if 9 < v2 then (some (v1, u)) else (zb (OW_isAsSeen v2 u) (fun c1 u1 => if c1 = 0 then (zr4 v1 (v2 + 1) u1) else (zlet (v1 ||| (1 <<< (v2 &&& 31))) (fun x1 => zr4 x1 (v2 + 1) u1))))
def OW_rains_4 : Nat → Int32 → Int32 → zM → Option (Int32 × zM)
  | 0 => fun _ _ _ => none
  | zf + 1 => OW_rains_4b (OW_rains_4 zf)
def OW_rains (u : zM) : Option (Int32 × zM) :=
  OW_rains_4 zF 0 0 u
def OW_fillTomorrow_2b (zr2 : Int32 → Int32 → zM → Option (Unit × zM)) (v1 : Int32) (v2 : Int32) (u : zM) : Option (Unit × zM) :=
  if 9 < v2 then (some ((), u)) else (if layC (gR u 1 1) = (10, 16) then (if ib v1 7 = true then (zb (Co_waterBehind (gR u 1 1) v1 (gI u 55 (ix v1)) v2 (gI u 54 5) u) (fun c1 u1 => if ib v2 10 = true then (zlet (sI u1 84 (ix v2) c1) (fun u2 => zr2 v1 (v2 + 1) u2)) else none)) else none) else none)
def OW_fillTomorrow_2 : Nat → Int32 → Int32 → zM → Option (Unit × zM)
  | 0 => fun _ _ _ => none
  | zf + 1 => OW_fillTomorrow_2b (OW_fillTomorrow_2 zf)
def OW_fillTomorrow (v1 : Int32) (u : zM) : Option (Unit × zM) :=
  OW_fillTomorrow_2 zF v1 0 u
def OW_rainsWithSoMuch_5b (zr5 : Int32 → Int32 → Int32 → Int32 → zM → Option (Int32 × zM)) (v1 : Int32) (v2 : Int32) (v3 : Int32) (v4 : Int32) (u : zM) : Option (Int32 × zM) :=
  if 9 < v4 then (some (v3, u)) else (if ((v2 >>> (v4 &&& 31)) &&& 1) = 0 then (zr5 v1 v2 v3 (v4 + 1) u) else (if ib v4 10 = true then (if (gI u 84 (ix v4)) < v1 then (zr5 v1 v2 v3 (v4 + 1) u) else (zr5 v1 v2 (v3 + 1) (v4 + 1) u)) else none))
def OW_rainsWithSoMuch_5 : Nat → Int32 → Int32 → Int32 → Int32 → zM → Option (Int32 × zM)
  | 0 => fun _ _ _ _ _ => none
  | zf + 1 => OW_rainsWithSoMuch_5b (OW_rainsWithSoMuch_5 zf)
def OW_rainsWithSoMuch (v1 : Int32) (v2 : Int32) (u : zM) : Option (Int32 × zM) :=
  OW_rainsWithSoMuch_5 zF v1 v2 0 0 u
def OW_look_42b (zr18 : Int32 → Int32 → Int32 → Int32 → Int32 → zM → Option (Int32 × zM)) (zr42 : Int32 → Int32 → Int32 → Int32 → Int32 → Int32 → zM → Option (Int32 × zM)) (v1 : Int32) (v2 : Int32) (v3 : Int32) (v4 : Int32) (v5 : Int32) (v6 : Int32) (u : zM) : Option (Int32 × zM) :=
  if 9 < v6 then (zr18 v1 v2 v3 v4 (v5 + 1) u) else (zb (OW_rainsWithSoMuch v6 v1 u) (fun c1 u1 => zb (Jm_max c1 (v2 - c1) u1) (fun c2 u2 => if v3 ≤ c2 then (zr42 v1 v2 v3 v4 v5 (v6 + 1) u2) else (zlet ((10 * v5) + v6) (fun x1 => zr42 v1 v2 c2 x1 v5 (v6 + 1) u2)))))
def OW_look_42 : Nat → (Int32 → Int32 → Int32 → Int32 → Int32 → zM → Option (Int32 × zM)) → Int32 → Int32 → Int32 → Int32 → Int32 → Int32 → zM → Option (Int32 × zM)
  | 0 => fun _ _ _ _ _ _ _ _ => none
  | zf + 1 => fun zr18 => OW_look_42b zr18 (OW_look_42 zf zr18)
def OW_look_18b (zr18 : Int32 → Int32 → Int32 → Int32 → Int32 → zM → Option (Int32 × zM)) (v1 : Int32) (v2 : Int32) (v3 : Int32) (v4 : Int32) (v5 : Int32) (u : zM) : Option (Int32 × zM) :=
  if layC (gR u 1 1) = (10, 16) then (if (gI u ((gR u 1 1) + 1) 1) ≤ v5 then (some (v4, u)) else (zb (OW_fillTomorrow v5 u) (fun _ u1 => OW_look_42 zF zr18 v1 v2 v3 v4 v5 1 u1))) else none
def OW_look_18 : Nat → Int32 → Int32 → Int32 → Int32 → Int32 → zM → Option (Int32 × zM)
  | 0 => fun _ _ _ _ _ _ => none
  | zf + 1 => OW_look_18b (OW_look_18 zf)
def OW_look (u : zM) : Option (Int32 × zM) :=
  zb (OW_rains u) (fun c1 u1 => zb (Ji_bitCount c1 u1) (fun c2 u2 => OW_look_18 zF c1 c2 c2 (-1) 0 u2))
def OW_weighWet_b (zq : Nat → Int32 → Int32 → Int32 → Int32 → Int32 → zM → Option (Int32 × zM)) (r0 : Nat) (v1 : Int32) (v2 : Int32) (v3 : Int32) (v4 : Int32) (v5 : Int32) (u : zM) : Option (Int32 × zM) :=
  if layC r0 = (10, 16) then (if 0 < v4 then (zb (Co_waterBehind r0 v1 v2 9 v3 u) (fun c1 u1 => zb (Co_waterBehind r0 v1 v2 0 v3 u1) (fun c2 u2 => zb (zq r0 v1 c1 (v3 + 1) (v4 - 1) v5 u2) (fun c3 u3 => zb (zq r0 v1 c2 (v3 + 1) (v4 - 1) v5 u3) (fun c4 u4 => some (((v5 * c3) + ((10 - v5) * c4)), u4)))))) else (if v2 < 1 then (some (0, u)) else (some (1, u)))) else none
def OW_weighWet : Nat → Nat → Int32 → Int32 → Int32 → Int32 → Int32 → zM → Option (Int32 × zM)
  | 0 => fun _ _ _ _ _ _ _ => none
  | zf + 1 => OW_weighWet_b (OW_weighWet zf)
def OW_chance_61b (zr61 : Int32 → Int32 → zM → Option (Int32 × zM)) (v4 : Int32) (v5 : Int32) (u : zM) : Option (Int32 × zM) :=
  if 6 ≤ v5 then (some (v4, u)) else (zlet (v4 * 10) (fun x1 => zr61 x1 (v5 + 1) u))
def OW_chance_61 : Nat → Int32 → Int32 → zM → Option (Int32 × zM)
  | 0 => fun _ _ _ => none
  | zf + 1 => OW_chance_61b (OW_chance_61 zf)
def OW_chance (v1 : Int32) (v2 : Int32) (v3 : Int32) (u : zM) : Option (Int32 × zM) :=
  zb (OW_isPlace v1 u) (fun c1 u1 => if c1 = 0 then (some ((-1), u1)) else (zb (OW_within v2 1 6 u1) (fun c2 u2 => if c2 = 0 then (some ((-1), u2)) else (zb (OW_within v3 0 10 u2) (fun c3 u3 => if c3 = 0 then (some ((-1), u3)) else (if layC (gR u3 1 1) = (10, 16) then (if ib v1 7 = true then (zb (OW_weighWet 8 (gR u3 1 1) v1 (gI u3 55 (ix v1)) (gI u3 54 5) v2 v3 u3) (fun c4 u4 => OW_chance_61 zF c4 v2 u4)) else none) else none))))))
def OW_pay (v0 : Int32) (v1 : Int32) (v2 : Int32) (v3 : Int32) (v4 : Int32) (u : zM) : Option (Int32 × zM) :=
  if v3 = 1 then (if v4 = 1 then (some (v0, u)) else (some ((-v1), u))) else (if v4 = 1 then (some (v2, u)) else (some (0, u)))
def OW_isRest (v0 : Int32) (v1 : Int32) (v2 : Int32) (v3 : Int32) (u : zM) : Option (Int32 × zM) :=
  zlet (v3 / 2) (fun x1 => zlet (v3 - v3 / 2 * 2) (fun x2 => zb (OW_pay v0 v1 v2 x1 x2 u) (fun c1 u1 => zb (OW_pay v0 v1 v2 (1 - x1) x2 u1) (fun c2 u2 => if c1 < c2 then (some (0, u2)) else (zb (OW_pay v0 v1 v2 x2 x1 u2) (fun c3 u3 => zb (OW_pay v0 v1 v2 (1 - x2) x1 u3) (fun c4 u4 => if c3 < c4 then (some (0, u4)) else (some (1, u4)))))))))
def OW_draw (v1 : Int32) (u : zM) : Option (Int32 × zM) :=
  zlet (sL u 1 14 ((((gL u 1 14) * 1103515245) + 12345) - (((gL u 1 14) * 1103515245) + 12345) / 2147483648 * 2147483648)) (fun u1 => if v1 ≤ 0 then (some (0, u1)) else (if (Int32.toInt64 v1) = 0 then none else (some ((Int64.toInt32 (((gL u1 1 14) / 65536) - ((gL u1 1 14) / 65536) / (Int32.toInt64 v1) * (Int32.toInt64 v1))), u1))))
def OW_doDrawn (u : zM) : Option (Int32 × zM) :=
  if layC (gR u 1 1) = (10, 16) then (zb (OW_draw (gI u ((gR u 1 1) + 5) 1) u) (fun c1 u1 => if layC (gR u1 1 1) = (10, 16) then (zb (OW_draw (gI u1 ((gR u1 1 1) + 1) 1) u1) (fun c2 u2 => zb (OW_draw 5 u2) (fun c3 u3 => if 3 ≤ c3 then (if layC (gR u3 1 1) = (10, 16) then (if (gI u3 ((gR u3 1 1) + 7) 1) = 0 then (some (0, u3)) else (if layC (gR u3 1 1) = (10, 16) then (zb (OW_draw (gI u3 ((gR u3 1 1) + 7) 1) u3) (fun c4 u4 => if c3 = 3 then (if layC (gR u4 1 1) = (10, 16) then (zb (St_doLine 60 (gR u4 1 1) 1 c1 c4 u4) (fun c6 u6 => some (0, u6))) else none) else (if layC (gR u4 1 1) = (10, 16) then (zb (St_doLine 60 (gR u4 1 1) 3 c4 (-1) u4) (fun c5 u5 => zbo c5 u5)) else none))) else none)) else none) else (if layC (gR u3 1 1) = (10, 16) then (zb (St_doLine 60 (gR u3 1 1) 2 c1 c2 u3) (fun c7 u7 => some (0, u7))) else none)))) else none)) else none
def OW_sessions_55b (zr55 : Int32 → Int32 → Int32 → Int32 → zM → Option (Int32 × zM)) (v2 : Int32) (v3 : Int32) (v4 : Int32) (v5 : Int32) (u : zM) : Option (Int32 × zM) :=
  if v2 ≤ v5 then (if v3 = 0 then (some (v4, u)) else (if v3 = 1 then (if layC (gR u 1 1) = (10, 16) then (zb (St_waterTogether 60 (gR u 1 1) u) (fun c2 u2 => some (c2, u2))) else none) else (if layC (gR u 1 1) = (10, 16) then (zb (OW_bitsOf 62 (gI u ((gR u 1 1) + 3) 1) 0 u) (fun c1 u1 => some (c1, u1))) else none))) else (if layC (gR u 1 1) = (10, 16) then (if (gI u ((gR u 1 1) + 5) 1) ≤ 0 then (if layC (gR u 1 1) = (10, 16) then (zb (St_nextDay 60 (gR u 1 1) u) (fun _ u3 => zr55 v2 v3 v4 (v5 + 1) u3)) else none) else (zb (OW_doDrawn u) (fun c4 u4 => if c4 = 0 then (if layC (gR u4 1 1) = (10, 16) then (zb (St_nextDay 60 (gR u4 1 1) u4) (fun _ u5 => zr55 v2 v3 v4 (v5 + 1) u5)) else none) else (if layC (gR u4 1 1) = (10, 16) then (zb (St_nextDay 60 (gR u4 1 1) u4) (fun _ u6 => zr55 v2 v3 (v4 + 1) (v5 + 1) u6)) else none)))) else none)
def OW_sessions_55 : Nat → Int32 → Int32 → Int32 → Int32 → zM → Option (Int32 × zM)
  | 0 => fun _ _ _ _ _ => none
  | zf + 1 => OW_sessions_55b (OW_sessions_55 zf)
def OW_sessions (v1 : Int32) (v2 : Int32) (v3 : Int32) (u : zM) : Option (Int32 × zM) :=
  zb (OW_within v1 0 9999 u) (fun c1 u1 => if c1 = 0 then (some ((-1), u1)) else (zb (OW_within v2 1 99 u1) (fun c2 u2 => if c2 = 0 then (some ((-1), u2)) else (zb (OW_within v3 0 2 u2) (fun c3 u3 => if c3 = 0 then (some ((-1), u3)) else (zb (St_copy 60 54 u3) (fun _ u4 => zlet (sL u4 1 14 (Int32.toInt64 v1)) (fun u5 => OW_sessions_55 zF v2 v3 0 0 u5))))))))
def Mo_thrown (u : zM) : Option (Int32 × zM) :=
  some ((gI u 1 0), u)
def Mo_within (v0 : Int32) (v1 : Int32) (v2 : Int32) (u : zM) : Option (Int32 × zM) :=
  if v0 < v1 then (some (0, u)) else (if v2 < v0 then (some (0, u)) else (some (1, u)))
def Mo_between (v0 : Int32) (v1 : Int32) (v2 : Int32) (u : zM) : Option (Int32 × zM) :=
  if v1 ≤ v0 then (if v0 ≤ v2 then (some (v0, u)) else (some (v2, u))) else (some (v1, u))
def Mo_bits_4b (zr4 : Int32 → Int32 → Int32 → zM → Option (Int32 × zM)) (v0 : Int32) (v1 : Int32) (v2 : Int32) (u : zM) : Option (Int32 × zM) :=
  if 10 ≤ v2 then (some (v1, u)) else (zlet (v1 + ((v0 >>> (v2 &&& 31)) &&& 1)) (fun x1 => zr4 v0 x1 (v2 + 1) u))
def Mo_bits_4 : Nat → Int32 → Int32 → Int32 → zM → Option (Int32 × zM)
  | 0 => fun _ _ _ _ => none
  | zf + 1 => Mo_bits_4b (Mo_bits_4 zf)
def Mo_bits (v0 : Int32) (u : zM) : Option (Int32 × zM) :=
  Mo_bits_4 zF v0 0 0 u
def Mo_lowest_2b (zr2 : Int32 → Int32 → zM → Option (Int32 × zM)) (v0 : Int32) (v1 : Int32) (u : zM) : Option (Int32 × zM) :=
  if 10 ≤ v1 then (some ((-1), u)) else (if ((v0 >>> (v1 &&& 31)) &&& 1) = 1 then (some (v1, u)) else (zr2 v0 (v1 + 1) u))
def Mo_lowest_2 : Nat → Int32 → Int32 → zM → Option (Int32 × zM)
  | 0 => fun _ _ _ => none
  | zf + 1 => Mo_lowest_2b (Mo_lowest_2 zf)
def Mo_lowest (v0 : Int32) (u : zM) : Option (Int32 × zM) :=
  Mo_lowest_2 zF v0 0 u
def Mo_feed_93 (zr8 : Int64 → Int64 → Int64 → Int32 → zM → Option (Int32 × zM)) (v1 : Int64) (v3 : Int64) (v5 : Int64) (v7 : Int32) (v10 : Int32) (u : zM) : Option (Int32 × zM) :=
  if ib (gI u 1 1) 1000 = true then (zlet (sI u 2 (ix (gI u 1 1)) v10) (fun u1 => zlet (sI u1 1 1 ((gI u1 1 1) + 1)) (fun u2 => zr8 v1 v3 v5 (v7 + 1) u2))) else none
def Mo_feed_39 (zr8 : Int64 → Int64 → Int64 → Int32 → zM → Option (Int32 × zM)) (v1 : Int64) (v3 : Int64) (v5 : Int64) (v7 : Int32) (s0 : Int64) (u : zM) : Option (Int32 × zM) :=
  zlet (Int64.toInt32 ((s0.toUInt64 >>> ((Int32.toInt64 (56 - (8 * (v7 &&& 7)))).toUInt64 &&& Int64.toUInt64 63)).toInt64 &&& 255)) (fun x1 => if 1000 ≤ (gI u 1 1) then (zr8 v1 v3 v5 (v7 + 1) u) else (if x1 = 10 then (Mo_feed_93 zr8 v1 v3 v5 v7 x1 u) else (if x1 < 32 then (zr8 v1 v3 v5 (v7 + 1) u) else (if 126 < x1 then (zr8 v1 v3 v5 (v7 + 1) u) else (Mo_feed_93 zr8 v1 v3 v5 v7 x1 u)))))
def Mo_feed_8b (zr8 : Int64 → Int64 → Int64 → Int32 → zM → Option (Int32 × zM)) (v1 : Int64) (v3 : Int64) (v5 : Int64) (v7 : Int32) (u : zM) : Option (Int32 × zM) :=
  if 24 ≤ v7 then (some ((gI u 1 1), u)) else (if 8 ≤ v7 then (if 16 ≤ v7 then (Mo_feed_39 zr8 v1 v3 v5 v7 v5 u) else (Mo_feed_39 zr8 v1 v3 v5 v7 v3 u)) else (Mo_feed_39 zr8 v1 v3 v5 v7 v1 u))
def Mo_feed_8 : Nat → Int64 → Int64 → Int64 → Int32 → zM → Option (Int32 × zM)
  | 0 => fun _ _ _ _ _ => none
  | zf + 1 => Mo_feed_8b (Mo_feed_8 zf)
def Mo_feed (v1 : Int64) (v3 : Int64) (v5 : Int64) (u : zM) : Option (Int32 × zM) :=
  zlet (sI u 1 0 0) (fun u1 => Mo_feed_8 zF v1 v3 v5 0 u1)
def Mo_signAt (v1 : Int32) (u : zM) : Option (Int32 × zM) :=
  if (gI u 1 3) ≤ v1 then (some (0, u)) else (if ib v1 1000 = true then (some ((gI u 2 (ix v1)), u)) else none)
def Mo_nextToken_188 (u : zM) : Option (Unit × zM) :=
  if ((gI u 1 4) - (gI u 1 5)) ≤ 8 then (zlet (sI u 1 6 1) (fun u1 => some ((), u1))) else (zlet (sI u 1 6 4) (fun u2 => some ((), u2)))
def Mo_nextToken_109b (zr109 : zM → Option (Unit × zM)) (u : zM) : Option (Unit × zM) :=
  zb (Mo_signAt (gI u 1 4) u) (fun c1 u1 => if c1 < 97 then (Mo_nextToken_188 u1) else (zb (Mo_signAt (gI u1 1 4) u1) (fun c2 u2 => if 122 < c2 then (Mo_nextToken_188 u2) else (if 8 ≤ ((gI u2 1 4) - (gI u2 1 5)) then (zlet (sI u2 1 4 ((gI u2 1 4) + 1)) (fun u3 => zr109 u3)) else (zb (Mo_signAt (gI u2 1 4) u2) (fun c3 u4 => zlet (sL u4 1 7 ((((gL u2 1 7) * 27) + (Int32.toInt64 c3)) - 96)) (fun u5 => zlet (sI u5 1 4 ((gI u5 1 4) + 1)) (fun u6 => zr109 u6))))))))
def Mo_nextToken_109 : Nat → zM → Option (Unit × zM)
  | 0 => fun _ => none
  | zf + 1 => Mo_nextToken_109b (Mo_nextToken_109 zf)
def Mo_nextToken_299 (u : zM) : Option (Unit × zM) :=
  if ((gI u 1 4) - (gI u 1 5)) ≤ 4 then (zlet (sI u 1 6 2) (fun u1 => some ((), u1))) else (zlet (sI u 1 6 4) (fun u2 => some ((), u2)))
def Mo_nextToken_224b (zr224 : zM → Option (Unit × zM)) (u : zM) : Option (Unit × zM) :=
  zb (Mo_signAt (gI u 1 4) u) (fun c1 u1 => if c1 < 48 then (Mo_nextToken_299 u1) else (zb (Mo_signAt (gI u1 1 4) u1) (fun c2 u2 => if 57 < c2 then (Mo_nextToken_299 u2) else (if 4 ≤ ((gI u2 1 4) - (gI u2 1 5)) then (zlet (sI u2 1 4 ((gI u2 1 4) + 1)) (fun u3 => zr224 u3)) else (zb (Mo_signAt (gI u2 1 4) u2) (fun c3 u4 => zlet (sI u4 1 8 ((((gI u2 1 8) * 10) + c3) - 48)) (fun u5 => zlet (sI u5 1 4 ((gI u5 1 4) + 1)) (fun u6 => zr224 u6))))))))
def Mo_nextToken_224 : Nat → zM → Option (Unit × zM)
  | 0 => fun _ => none
  | zf + 1 => Mo_nextToken_224b (Mo_nextToken_224 zf)
def Mo_nextToken_345 (v1 : Int32) (u : zM) : Option (Unit × zM) :=
  if v1 = 45 then (zlet (sI u 1 6 3) (fun u1 => some ((), u1))) else (if v1 < 59 then (zlet (sI u 1 6 4) (fun u2 => some ((), u2))) else (if 61 < v1 then (zlet (sI u 1 6 4) (fun u3 => some ((), u3))) else (zlet (sI u 1 6 3) (fun u4 => some ((), u4)))))
def Mo_nextToken_322 (v1 : Int32) (u : zM) : Option (Unit × zM) :=
  zlet (sI u 1 4 ((gI u 1 4) + 1)) (fun u1 => if v1 < 40 then (Mo_nextToken_345 v1 u1) else (if v1 ≤ 43 then (zlet (sI u1 1 6 3) (fun u2 => some ((), u2))) else (Mo_nextToken_345 v1 u1)))
def Mo_nextToken_212 (v1 : Int32) (u : zM) : Option (Unit × zM) :=
  if v1 < 48 then (Mo_nextToken_322 v1 u) else (if 57 < v1 then (Mo_nextToken_322 v1 u) else (Mo_nextToken_224 zF u))
def Mo_nextToken_52 (u : zM) : Option (Unit × zM) :=
  zlet (sI u 1 5 (gI u 1 4)) (fun u1 => zlet (sL u1 1 7 0) (fun u2 => zlet (sI u2 1 8 0) (fun u3 => if (gI u3 1 4) = (gI u3 1 3) then (zlet (sI u3 1 6 0) (fun u4 => some ((), u4))) else (if ib (gI u3 1 4) 1000 = true then (zlet (gI u3 2 (ix (gI u3 1 4))) (fun x1 => if x1 < 97 then (Mo_nextToken_212 x1 u3) else (if 122 < x1 then (Mo_nextToken_212 x1 u3) else (Mo_nextToken_109 zF u3)))) else none))))
def Mo_nextToken_0b (zr0 : zM → Option (Unit × zM)) (u : zM) : Option (Unit × zM) :=
  if (gI u 1 3) ≤ (gI u 1 4) then (Mo_nextToken_52 u) else (if ib (gI u 1 4) 1000 = true then (if (gI u 2 (ix (gI u 1 4))) = 32 then (zlet (sI u 1 4 ((gI u 1 4) + 1)) (fun u1 => zr0 u1)) else (if ib (gI u 1 4) 1000 = true then (if (gI u 2 (ix (gI u 1 4))) = 10 then (zlet (sI u 1 4 ((gI u 1 4) + 1)) (fun u2 => zr0 u2)) else (Mo_nextToken_52 u)) else none)) else none)
def Mo_nextToken_0 : Nat → zM → Option (Unit × zM)
  | 0 => fun _ => none
  | zf + 1 => Mo_nextToken_0b (Mo_nextToken_0 zf)
def Mo_nextToken (u : zM) : Option (Unit × zM) :=
  Mo_nextToken_0 zF u
def Mo_isWord (v1 : Int64) (u : zM) : Option (Int32 × zM) :=
  if (gI u 1 6) = 1 then (if (lg_cmp (gL u 1 7) v1) = 0 then (some (1, u)) else (some (0, u))) else (some (0, u))
def Mo_isSign (v1 : Int32) (u : zM) : Option (Int32 × zM) :=
  if (gI u 1 6) = 3 then (if ib (gI u 1 5) 1000 = true then (if (gI u 2 (ix (gI u 1 5))) = v1 then (some (1, u)) else (some (0, u))) else none) else (some (0, u))
def Mo_fails (v1 : Int32) (u : zM) : Option (Int32 × zM) :=
  zlet (sI u 1 9 (v1 + (16 * (gI u 1 5)))) (fun u1 => some (0, u1))
def Mo_puts (v1 : Int32) (u : zM) : Option (Unit × zM) :=
  if ib (gI u 1 27) 2000 = true then (zlet (sI u 19 (ix (gI u 1 27)) v1) (fun u1 => zlet (sI u1 1 27 ((gI u1 1 27) + 1)) (fun u2 => some ((), u2)))) else none
def Mo_fact (u : zM) : Option (Int32 × zM) :=
  if (gI u 1 6) = 1 then (if (lg_cmp (gL u 1 7) 6491892) = 0 then (some (1, u)) else (if (lg_cmp (gL u 1 7) 3217420) = 0 then (some (2, u)) else (if (lg_cmp (gL u 1 7) 454132) = 0 then (some (3, u)) else (if (lg_cmp (gL u 1 7) 80006) = 0 then (some (4, u)) else (some (0, u)))))) else (some (0, u))
def Mo_reads_120 (zr11 : Int32 → Int32 → zM → Option (Int32 × zM)) (v1 : Int32) (v2 : Int32) (s1 : Int32) (s2 : Int32) (u : zM) : Option (Int32 × zM) :=
  if ib s1 7 = true then (zlet (sI u 20 (ix s1) s2) (fun u1 => if ib v1 7 = true then (zlet (sI u1 21 (ix v1) (vp_nar .boolean 0)) (fun u2 => zb (Mo_nextToken u2) (fun _ u3 => zr11 v1 v2 u3))) else none)) else none
def Mo_reads_99 (zr11 : Int32 → Int32 → zM → Option (Int32 × zM)) (v1 : Int32) (v2 : Int32) (v4 : Int32) (s1 : Int32) (u : zM) : Option (Int32 × zM) :=
  zb (Mo_puts s1 u) (fun _ u1 => if v4 = 0 then (Mo_reads_120 zr11 (v1 + 1) v2 (v1 + 1) 2 u1) else (Mo_reads_120 zr11 (v1 + 1) v2 (v1 + 1) 1 u1))
def Mo_reads_86 (zr11 : Int32 → Int32 → zM → Option (Int32 × zM)) (v1 : Int32) (v2 : Int32) (v4 : Int32) (u : zM) : Option (Int32 × zM) :=
  if v4 = 0 then (Mo_reads_99 zr11 v1 v2 v4 28 u) else (Mo_reads_99 zr11 v1 v2 v4 30 u)
def Mo_reads_152b (zr11 : Int32 → Int32 → zM → Option (Int32 × zM)) (zr152 : Int32 → Int32 → zM → Option (Int32 × zM)) (v1 : Int32) (v2 : Int32) (u : zM) : Option (Int32 × zM) :=
  if v1 ≤ 0 then (zb (Mo_nextToken u) (fun _ u1 => zr11 v1 v2 u1)) else (if ib v1 7 = true then (if (gI u 20 (ix v1)) = 1 then (zr152 (v1 + (-1)) v2 u) else (zb (Mo_nextToken u) (fun _ u2 => zr11 v1 v2 u2))) else none)
def Mo_reads_152 : Nat → (Int32 → Int32 → zM → Option (Int32 × zM)) → Int32 → Int32 → zM → Option (Int32 × zM)
  | 0 => fun _ _ _ _ => none
  | zf + 1 => fun zr11 => Mo_reads_152b zr11 (Mo_reads_152 zf zr11)
def Mo_reads_65 (zr11 : Int32 → Int32 → zM → Option (Int32 × zM)) (v1 : Int32) (v2 : Int32) (v3 : Int32) (v4 : Int32) (v5 : Int32) (u : zM) : Option (Int32 × zM) :=
  if v1 = 5 then (zb (Mo_fails 5 u) (fun c3 u3 => zbo c3 u3)) else (if v4 = 0 then (if v5 = 0 then (if v3 ≤ 0 then (zb (Mo_puts (100 + (gI u 1 8)) u) (fun _ u1 => Mo_reads_152 zF zr11 v1 0 u1)) else (zb (Mo_puts v3 u) (fun _ u2 => Mo_reads_152 zF zr11 v1 0 u2))) else (Mo_reads_86 zr11 v1 v2 v4 u)) else (Mo_reads_86 zr11 v1 v2 v4 u))
def Mo_reads_206 (zr11 : Int32 → Int32 → zM → Option (Int32 × zM)) (v1 : Int32) (u : zM) : Option (Int32 × zM) :=
  zb (Mo_isSign 43 u) (fun c1 u1 => if c1 = 0 then (zb (Mo_isSign 45 u1) (fun c2 u2 => if c2 = 0 then (zb (Mo_puts 22 u2) (fun _ u3 => zb (Mo_nextToken u3) (fun _ u4 => zr11 v1 1 u4))) else (zb (Mo_puts 21 u2) (fun _ u5 => zb (Mo_nextToken u5) (fun _ u6 => zr11 v1 1 u6))))) else (zb (Mo_puts 20 u1) (fun _ u7 => zb (Mo_nextToken u7) (fun _ u8 => zr11 v1 1 u8))))
def Mo_reads_289 (zr11 : Int32 → Int32 → zM → Option (Int32 × zM)) (v1 : Int32) (s1 : Int32) (u : zM) : Option (Int32 × zM) :=
  zb (Mo_puts s1 u) (fun _ u1 => if ib v1 7 = true then (zlet (sI u1 21 (ix v1) (vp_nar .boolean 1)) (fun u2 => zb (Mo_nextToken u2) (fun _ u3 => zr11 v1 1 u3))) else none)
def Mo_reads_342 (zr11 : Int32 → Int32 → zM → Option (Int32 × zM)) (v1 : Int32) (s1 : Int32) (u : zM) : Option (Int32 × zM) :=
  zb (Mo_puts s1 u) (fun _ u1 => if ib v1 7 = true then (zlet (sI u1 21 (ix v1) (vp_nar .boolean 0)) (fun u2 => zb (Mo_nextToken u2) (fun _ u3 => zr11 v1 1 u3))) else none)
def Mo_reads_324 (zr11 : Int32 → Int32 → zM → Option (Int32 × zM)) (v1 : Int32) (u : zM) : Option (Int32 × zM) :=
  zb (Mo_isWord 1111 u) (fun c1 u1 => if c1 = 0 then (Mo_reads_342 zr11 v1 27 u1) else (Mo_reads_342 zr11 v1 26 u1))
def Mo_reads_379b (zr11 : Int32 → Int32 → zM → Option (Int32 × zM)) (zr379 : Int32 → Int32 → zM → Option (Int32 × zM)) (v1 : Int32) (v2 : Int32) (u : zM) : Option (Int32 × zM) :=
  if v1 ≤ 0 then (zb (Mo_nextToken u) (fun _ u1 => zr11 v1 v2 u1)) else (if ib v1 7 = true then (if (gI u 20 (ix v1)) = 1 then (zr379 (v1 + (-1)) v2 u) else (zb (Mo_nextToken u) (fun _ u2 => zr11 v1 v2 u2))) else none)
def Mo_reads_379 : Nat → (Int32 → Int32 → zM → Option (Int32 × zM)) → Int32 → Int32 → zM → Option (Int32 × zM)
  | 0 => fun _ _ _ _ => none
  | zf + 1 => fun zr11 => Mo_reads_379b zr11 (Mo_reads_379 zf zr11)
def Mo_reads_399 (v1 : Int32) (u : zM) : Option (Int32 × zM) :=
  if v1 = 0 then (zb (Mo_isSign 59 u) (fun c2 u2 => if c2 = 0 then (zb (Mo_fails 1 u2) (fun c3 u3 => zbo c3 u3)) else (zb (Mo_nextToken u2) (fun _ u4 => some (1, u4))))) else (zb (Mo_fails 1 u) (fun c1 u1 => zbo c1 u1))
def Mo_reads_304 (zr11 : Int32 → Int32 → zM → Option (Int32 × zM)) (v1 : Int32) (v2 : Int32) (u : zM) : Option (Int32 × zM) :=
  zb (Mo_isWord 1111 u) (fun c1 u1 => if c1 = 0 then (zb (Mo_isWord 423 u1) (fun c2 u2 => if c2 = 0 then (zb (Mo_isSign 41 u2) (fun c3 u3 => if c3 = 0 then (Mo_reads_399 v1 u3) else (if v1 ≤ 0 then (Mo_reads_399 v1 u3) else (zb (Mo_puts 29 u3) (fun _ u4 => Mo_reads_379 zF zr11 (v1 + (-1)) v2 u4))))) else (Mo_reads_324 zr11 v1 u2))) else (Mo_reads_324 zr11 v1 u1))
def Mo_reads_263 (zr11 : Int32 → Int32 → zM → Option (Int32 × zM)) (v1 : Int32) (v2 : Int32) (u : zM) : Option (Int32 × zM) :=
  if ib v1 7 = true then (if (gI u 21 (ix v1)) = 0 then (zb (Mo_isSign 60 u) (fun c1 u1 => if c1 = 0 then (Mo_reads_289 zr11 v1 25 u1) else (Mo_reads_289 zr11 v1 24 u1))) else (Mo_reads_304 zr11 v1 v2 u)) else none
def Mo_reads_11b (zr11 : Int32 → Int32 → zM → Option (Int32 × zM)) (v1 : Int32) (v2 : Int32) (u : zM) : Option (Int32 × zM) :=
  if v2 = 0 then (zb (Mo_isSign 43 u) (fun c1 u1 => if c1 = 0 then (zb (Mo_isSign 45 u1) (fun c2 u2 => if c2 = 0 then (zb (Mo_isSign 42 u2) (fun c3 u3 => if c3 = 0 then (zb (Mo_isSign 60 u3) (fun c4 u4 => if c4 = 0 then (zb (Mo_isSign 61 u4) (fun c5 u5 => if c5 = 0 then (Mo_reads_304 zr11 v1 v2 u5) else (Mo_reads_263 zr11 v1 v2 u5))) else (Mo_reads_263 zr11 v1 v2 u4))) else (Mo_reads_206 zr11 v1 u3))) else (Mo_reads_206 zr11 v1 u2))) else (Mo_reads_206 zr11 v1 u1))) else (zb (Mo_fact u) (fun c6 u6 => zb (Mo_isWord 10631 u6) (fun c7 u7 => zb (Mo_isSign 40 u7) (fun c8 u8 => if c6 = 0 then (if c7 = 0 then (if c8 = 0 then (if (gI u8 1 6) = 2 then (Mo_reads_65 zr11 v1 v2 c6 c7 c8 u8) else (zb (Mo_fails 1 u8) (fun c9 u9 => zbo c9 u9))) else (Mo_reads_65 zr11 v1 v2 c6 c7 c8 u8)) else (Mo_reads_65 zr11 v1 v2 c6 c7 c8 u8)) else (Mo_reads_65 zr11 v1 v2 c6 c7 c8 u8)))))
def Mo_reads_11 : Nat → Int32 → Int32 → zM → Option (Int32 × zM)
  | 0 => fun _ _ _ => none
  | zf + 1 => Mo_reads_11b (Mo_reads_11 zf)
def Mo_reads (u : zM) : Option (Int32 × zM) :=
  zlet (sI u 21 0 (vp_nar .boolean 0)) (fun u1 => Mo_reads_11 zF 0 1 u1)
def Mo_opens (v1 : Int32) (u : zM) : Option (Unit × zM) :=
  if ib v1 7 = true then (zlet (sI u 23 (ix v1) 0) (fun u1 => if ib v1 7 = true then (zlet (sI u1 25 (ix v1) 0) (fun u2 => if ib v1 7 = true then (zlet (sI u2 26 (ix v1) 0) (fun u3 => if ib v1 7 = true then (zlet (sI u3 27 (ix v1) 20) (fun u4 => if ib v1 7 = true then (zlet (sI u4 29 (ix v1) 0) (fun u5 => some ((), u5))) else none)) else none)) else none)) else none)) else none
def Mo_sums (v1 : Int32) (u : zM) : Option (Unit × zM) :=
  if ib v1 7 = true then (if (gI u 27 (ix v1)) = 21 then (if ib v1 7 = true then (if ib v1 7 = true then (if ib v1 7 = true then (zlet (sI u 26 (ix v1) ((gI u 26 (ix v1)) - (gI u 28 (ix v1)))) (fun u3 => if ib v1 7 = true then (zlet (sI u3 29 (ix v1) 0) (fun u4 => some ((), u4))) else none)) else none) else none) else none) else (if ib v1 7 = true then (if ib v1 7 = true then (if ib v1 7 = true then (zlet (sI u 26 (ix v1) ((gI u 26 (ix v1)) + (gI u 28 (ix v1)))) (fun u1 => if ib v1 7 = true then (zlet (sI u1 29 (ix v1) 0) (fun u2 => some ((), u2))) else none)) else none) else none) else none)) else none
def Mo_tests_136 (v1 : Int32) (v2 : Int32) (u : zM) : Option (Unit × zM) :=
  if ib v1 7 = true then (zlet (sI u 22 (ix v1) v2) (fun u1 => if ib v1 7 = true then (zlet (sI u1 25 (ix v1) 0) (fun u2 => if ib v1 7 = true then (zlet (sI u2 26 (ix v1) 0) (fun u3 => if ib v1 7 = true then (zlet (sI u3 27 (ix v1) 20) (fun u4 => some ((), u4))) else none)) else none)) else none)) else none
def Mo_tests_135 (v1 : Int32) (s0 : Int32) (u : zM) : Option (Unit × zM) :=
  Mo_tests_136 v1 s0 u
def Mo_tests_130 (v1 : Int32) (u : zM) : Option (Unit × zM) :=
  Mo_tests_135 v1 1 u
def Mo_tests_106 (v1 : Int32) (v2 : Int32) (u : zM) : Option (Unit × zM) :=
  if ib v1 7 = true then (if (gI u 23 (ix v1)) = 27 then (if ib v1 7 = true then (if (gI u 22 (ix v1)) = 0 then (if v2 = 0 then (Mo_tests_135 v1 0 u) else (Mo_tests_130 v1 u)) else (Mo_tests_130 v1 u)) else none) else (Mo_tests_136 v1 v2 u)) else none
def Mo_tests_105 (v1 : Int32) (s0 : Int32) (u : zM) : Option (Unit × zM) :=
  Mo_tests_106 v1 s0 u
def Mo_tests_104 (v1 : Int32) (u : zM) : Option (Unit × zM) :=
  Mo_tests_105 v1 0 u
def Mo_tests_76 (v1 : Int32) (v2 : Int32) (u : zM) : Option (Unit × zM) :=
  if ib v1 7 = true then (if (gI u 23 (ix v1)) = 26 then (if ib v1 7 = true then (if (gI u 22 (ix v1)) = 0 then (Mo_tests_104 v1 u) else (if v2 = 0 then (Mo_tests_104 v1 u) else (Mo_tests_105 v1 1 u))) else none) else (Mo_tests_106 v1 v2 u)) else none
def Mo_tests_75 (v1 : Int32) (s0 : Int32) (u : zM) : Option (Unit × zM) :=
  Mo_tests_76 v1 s0 u
def Mo_tests_44 (v1 : Int32) (v2 : Int32) (u : zM) : Option (Unit × zM) :=
  if ib v1 7 = true then (if (gI u 25 (ix v1)) = 25 then (if ib v1 7 = true then (if ib v1 7 = true then (if (gI u 24 (ix v1)) = (gI u 26 (ix v1)) then (Mo_tests_75 v1 1 u) else (Mo_tests_75 v1 0 u)) else none) else none) else (Mo_tests_76 v1 v2 u)) else none
def Mo_tests_43 (v1 : Int32) (s0 : Int32) (u : zM) : Option (Unit × zM) :=
  Mo_tests_44 v1 s0 u
def Mo_tests (v1 : Int32) (u : zM) : Option (Unit × zM) :=
  zb (Mo_sums v1 u) (fun _ u1 => if ib v1 7 = true then (zlet (gI u1 26 (ix v1)) (fun x1 => if ib v1 7 = true then (if (gI u1 25 (ix v1)) = 24 then (if ib v1 7 = true then (if ib v1 7 = true then (if (gI u1 26 (ix v1)) ≤ (gI u1 24 (ix v1)) then (Mo_tests_43 v1 0 u1) else (Mo_tests_43 v1 1 u1)) else none) else none) else (Mo_tests_44 v1 x1 u1)) else none)) else none)
def Mo_worked_46 (zr14 : Int32 → Int32 → Int32 → zM → Option (Int32 × zM)) (v1 : Int32) (v2 : Int32) (v3 : Int32) (v4 : Int32) (u : zM) : Option (Int32 × zM) :=
  if v4 = 30 then (if ib (v2 + 1) 7 = true then (zlet (sI u 30 (ix (v2 + 1)) 1) (fun u3 => zb (Mo_opens (v2 + 1) u3) (fun _ u4 => zr14 v1 (v2 + 1) (v3 + 1) u4))) else none) else (if ib (v2 + 1) 7 = true then (zlet (sI u 30 (ix (v2 + 1)) 0) (fun u1 => zb (Mo_opens (v2 + 1) u1) (fun _ u2 => zr14 v1 (v2 + 1) (v3 + 1) u2))) else none)
def Mo_worked_89 (zr14 : Int32 → Int32 → Int32 → zM → Option (Int32 × zM)) (v1 : Int32) (v2 : Int32) (v3 : Int32) (v4 : Int32) (u : zM) : Option (Int32 × zM) :=
  zb (Mo_sums v2 u) (fun _ u1 => if ib v2 7 = true then (zlet (sI u1 27 (ix v2) v4) (fun u2 => zr14 v1 v2 (v3 + 1) u2)) else none)
def Mo_worked_137 (zr14 : Int32 → Int32 → Int32 → zM → Option (Int32 × zM)) (v1 : Int32) (v2 : Int32) (v3 : Int32) (v4 : Int32) (u : zM) : Option (Int32 × zM) :=
  zb (Mo_sums v2 u) (fun _ u1 => if ib v2 7 = true then (if ib v2 7 = true then (zlet (sI u1 24 (ix v2) (gI u1 26 (ix v2))) (fun u2 => if ib v2 7 = true then (zlet (sI u2 25 (ix v2) v4) (fun u3 => if ib v2 7 = true then (zlet (sI u3 26 (ix v2) 0) (fun u4 => if ib v2 7 = true then (zlet (sI u4 27 (ix v2) 20) (fun u5 => zr14 v1 v2 (v3 + 1) u5)) else none)) else none)) else none)) else none) else none)
def Mo_worked_194 (zr14 : Int32 → Int32 → Int32 → zM → Option (Int32 × zM)) (v1 : Int32) (v2 : Int32) (v3 : Int32) (v4 : Int32) (u : zM) : Option (Int32 × zM) :=
  zb (Mo_tests v2 u) (fun _ u1 => if ib v2 7 = true then (zlet (sI u1 23 (ix v2) v4) (fun u2 => zr14 v1 v2 (v3 + 1) u2)) else none)
def Mo_worked_300 (zr14 : Int32 → Int32 → Int32 → zM → Option (Int32 × zM)) (v1 : Int32) (v2 : Int32) (v3 : Int32) (v5 : Int32) (u : zM) : Option (Int32 × zM) :=
  if ib v2 7 = true then (if (gI u 29 (ix v2)) = 0 then (if ib v2 7 = true then (zlet (sI u 28 (ix v2) v5) (fun u2 => zr14 v1 v2 (v3 + 1) u2)) else none) else (if ib v2 7 = true then (if ib v2 7 = true then (zlet (sI u 28 (ix v2) ((gI u 28 (ix v2)) * v5)) (fun u1 => zr14 v1 v2 (v3 + 1) u1)) else none) else none)) else none
def Mo_worked_268b (zr14 : Int32 → Int32 → Int32 → zM → Option (Int32 × zM)) (zr268 : Int32 → Int32 → Int32 → Int32 → zM → Option (Int32 × zM)) (v1 : Int32) (v2 : Int32) (v3 : Int32) (v5 : Int32) (u : zM) : Option (Int32 × zM) :=
  if v2 ≤ 0 then (Mo_worked_300 zr14 v1 v2 v3 v5 u) else (if ib v2 7 = true then (if (gI u 30 (ix v2)) = 1 then (if v5 = 0 then (zr268 v1 (v2 + (-1)) v3 1 u) else (zr268 v1 (v2 + (-1)) v3 0 u)) else (Mo_worked_300 zr14 v1 v2 v3 v5 u)) else none)
def Mo_worked_268 : Nat → (Int32 → Int32 → Int32 → zM → Option (Int32 × zM)) → Int32 → Int32 → Int32 → Int32 → zM → Option (Int32 × zM)
  | 0 => fun _ _ _ _ _ _ => none
  | zf + 1 => fun zr14 => Mo_worked_268b zr14 (Mo_worked_268 zf zr14)
def Mo_worked_243 (zr14 : Int32 → Int32 → Int32 → zM → Option (Int32 × zM)) (v1 : Int32) (v2 : Int32) (v3 : Int32) (v4 : Int32) (s0 : Int32) (u : zM) : Option (Int32 × zM) :=
  if v4 = 29 then (zb (Mo_tests v2 u) (fun _ u1 => if ib v2 7 = true then (zlet (gI u1 22 (ix v2)) (fun x1 => Mo_worked_268 zF zr14 v1 (v2 + (-1)) v3 x1 u1)) else none)) else (Mo_worked_268 zF zr14 v1 v2 v3 s0 u)
def Mo_worked_14b (zr14 : Int32 → Int32 → Int32 → zM → Option (Int32 × zM)) (v1 : Int32) (v2 : Int32) (v3 : Int32) (u : zM) : Option (Int32 × zM) :=
  if ib v1 2 = true then (if (gI u 18 (ix v1)) ≤ v3 then (zb (Mo_tests 0 u) (fun _ u1 => some ((gI u1 22 0), u1))) else (if ib v3 2000 = true then (zlet (gI u 19 (ix v3)) (fun x1 => if x1 = 28 then (Mo_worked_46 zr14 v1 v2 v3 x1 u) else (if x1 = 30 then (Mo_worked_46 zr14 v1 v2 v3 x1 u) else (if x1 = 20 then (Mo_worked_89 zr14 v1 v2 v3 x1 u) else (if x1 = 21 then (Mo_worked_89 zr14 v1 v2 v3 x1 u) else (if x1 = 22 then (if ib v2 7 = true then (zlet (sI u 29 (ix v2) x1) (fun u2 => zr14 v1 v2 (v3 + 1) u2)) else none) else (if x1 = 24 then (Mo_worked_137 zr14 v1 v2 v3 x1 u) else (if x1 = 25 then (Mo_worked_137 zr14 v1 v2 v3 x1 u) else (if x1 = 26 then (Mo_worked_194 zr14 v1 v2 v3 x1 u) else (if x1 = 27 then (Mo_worked_194 zr14 v1 v2 v3 x1 u) else (if x1 < 100 then (if 20 ≤ x1 then (Mo_worked_243 zr14 v1 v2 v3 x1 0 u) else (if ib x1 20 = true then (Mo_worked_243 zr14 v1 v2 v3 x1 (gI u 31 (ix x1)) u) else none)) else (Mo_worked_243 zr14 v1 v2 v3 x1 (x1 - 100) u)))))))))))) else none)) else none
def Mo_worked_14 : Nat → Int32 → Int32 → Int32 → zM → Option (Int32 × zM)
  | 0 => fun _ _ _ _ => none
  | zf + 1 => Mo_worked_14b (Mo_worked_14 zf)
def Mo_worked (v1 : Int32) (u : zM) : Option (Int32 × zM) :=
  zb (Mo_opens 0 u) (fun _ u1 => if ib v1 2 = true then (zlet (gI u1 17 (ix v1)) (fun x1 => Mo_worked_14 zF v1 0 x1 u1)) else none)
def Mo_isKept (u : zM) : Option (Int32 × zM) :=
  if (gI u 1 6) = 1 then (if (lg_cmp (gL u 1 7) 8740067) = 0 then (some (1, u)) else (if (lg_cmp (gL u 1 7) 12257559) = 0 then (some (1, u)) else (if (lg_cmp (gL u 1 7) 283616032) = 0 then (some (1, u)) else (if (lg_cmp (gL u 1 7) 232608281) = 0 then (some (1, u)) else (if (lg_cmp (gL u 1 7) 257) = 0 then (some (1, u)) else (if (lg_cmp (gL u 1 7) 8380008) = 0 then (some (1, u)) else (if (lg_cmp (gL u 1 7) 315743) = 0 then (some (1, u)) else (if (lg_cmp (gL u 1 7) 466094) = 0 then (some (1, u)) else (if (lg_cmp (gL u 1 7) 4797) = 0 then (some (1, u)) else (if (lg_cmp (gL u 1 7) 79) = 0 then (some (1, u)) else (if (lg_cmp (gL u 1 7) 355280) = 0 then (some (1, u)) else (if (lg_cmp (gL u 1 7) 456913) = 0 then (some (1, u)) else (if (lg_cmp (gL u 1 7) 2968) = 0 then (some (1, u)) else (if (lg_cmp (gL u 1 7) 394691) = 0 then (some (1, u)) else (if (lg_cmp (gL u 1 7) 391000) = 0 then (some (1, u)) else (if (lg_cmp (gL u 1 7) 10209515) = 0 then (some (1, u)) else (if (lg_cmp (gL u 1 7) 8740238) = 0 then (some (1, u)) else (if (lg_cmp (gL u 1 7) 453949) = 0 then (some (1, u)) else (if (lg_cmp (gL u 1 7) 29628900) = 0 then (some (1, u)) else (if (lg_cmp (gL u 1 7) 83023) = 0 then (some (1, u)) else (if (lg_cmp (gL u 1 7) 10631) = 0 then (some (1, u)) else (if (lg_cmp (gL u 1 7) 1111) = 0 then (some (1, u)) else (if (lg_cmp (gL u 1 7) 423) = 0 then (some (1, u)) else (some (0, u))))))))))))))))))))))))) else (some (1, u))
def Mo_namedIn_3b (zr3 : Nat → Int32 → Int32 → Int32 → zM → Option (Int32 × zM)) (r1 : Nat) (v2 : Int32) (v3 : Int32) (v4 : Int32) (u : zM) : Option (Int32 × zM) :=
  if (layM r1).1 = 2 then (if (v2 + v3) ≤ v4 then (some ((-1), u)) else (if ib v4 ((layM r1).2) = true then (if (lg_cmp (gL u r1 (ix v4)) (gL u 1 7)) = 0 then (some ((v4 - v2), u)) else (zr3 r1 v2 v3 (v4 + 1) u)) else none)) else none
def Mo_namedIn_3 : Nat → Nat → Int32 → Int32 → Int32 → zM → Option (Int32 × zM)
  | 0 => fun _ _ _ _ _ => none
  | zf + 1 => Mo_namedIn_3b (Mo_namedIn_3 zf)
def Mo_namedIn (r1 : Nat) (v2 : Int32) (v3 : Int32) (u : zM) : Option (Int32 × zM) :=
  if (layM r1).1 = 2 then (Mo_namedIn_3 zF r1 v2 v3 v2 u) else none
def Mo_placeNamed (v1 : Int32) (u : zM) : Option (Int32 × zM) :=
  if ib ((6 * v1) + 0) 12 = true then (zb (Mo_namedIn 4 (7 * v1) (gI u 3 (ix ((6 * v1) + 0))) u) (fun c1 u1 => some (c1, u1))) else none
def Mo_personNamed (v1 : Int32) (u : zM) : Option (Int32 × zM) :=
  if ib ((6 * v1) + 2) 12 = true then (zb (Mo_namedIn 5 (5 * v1) (gI u 3 (ix ((6 * v1) + 2))) u) (fun c1 u1 => some (c1, u1))) else none
def Mo_otterNamed (v1 : Int32) (u : zM) : Option (Int32 × zM) :=
  if ib ((6 * v1) + 3) 12 = true then (zb (Mo_namedIn 6 (3 * v1) (gI u 3 (ix ((6 * v1) + 3))) u) (fun c1 u1 => some (c1, u1))) else none
def Mo_writNamed (v1 : Int32) (u : zM) : Option (Int32 × zM) :=
  if ib ((6 * v1) + 4) 12 = true then (zb (Mo_namedIn 7 (6 * v1) (gI u 3 (ix ((6 * v1) + 4))) u) (fun c1 u1 => some (c1, u1))) else none
def Mo_needsNumber (v1 : Int32) (v2 : Int32) (u : zM) : Option (Int32 × zM) :=
  if (gI u 1 6) = 2 then (zb (Mo_within (gI u 1 8) v1 v2 u) (fun c1 u1 => if c1 = 0 then (zb (Mo_fails 4 u1) (fun c3 u4 => zbo c3 u4)) else (zlet (sI u1 1 40 (gI u1 1 8)) (fun u2 => zb (Mo_nextToken u2) (fun _ u3 => some (1, u3)))))) else (zb (Mo_fails 1 u) (fun c4 u5 => zbo c4 u5))
def Mo_needsWord (v1 : Int64) (u : zM) : Option (Int32 × zM) :=
  zb (Mo_isWord v1 u) (fun c1 u1 => if c1 = 0 then (zb (Mo_fails 1 u1) (fun c3 u3 => zbo c3 u3)) else (zb (Mo_nextToken u1) (fun _ u2 => some (1, u2))))
def Mo_needsBoth (v1 : Int64) (v3 : Int32) (v4 : Int32) (u : zM) : Option (Int32 × zM) :=
  zb (Mo_needsWord v1 u) (fun c1 u1 => if c1 = 0 then (some (0, u1)) else (zb (Mo_needsNumber v3 v4 u1) (fun c2 u2 => if c2 = 0 then (some (0, u2)) else (some (1, u2)))))
def Mo_closes (u : zM) : Option (Int32 × zM) :=
  zb (Mo_isSign 59 u) (fun c1 u1 => if c1 = 0 then (zb (Mo_fails 1 u1) (fun c3 u3 => zbo c3 u3)) else (zb (Mo_nextToken u1) (fun _ u2 => some (1, u2))))
def Mo_needsNew (u : zM) : Option (Int32 × zM) :=
  zb (Mo_isKept u) (fun c1 u1 => if c1 = 0 then (zb (Mo_placeNamed 1 u1) (fun c2 u2 => if 0 ≤ c2 then (zb (Mo_fails 3 u2) (fun c3 u3 => zbo c3 u3)) else (zb (Mo_personNamed 1 u2) (fun c4 u4 => if 0 ≤ c4 then (zb (Mo_fails 3 u4) (fun c5 u5 => zbo c5 u5)) else (zb (Mo_otterNamed 1 u4) (fun c6 u6 => if 0 ≤ c6 then (zb (Mo_fails 3 u6) (fun c7 u7 => zbo c7 u7)) else (zb (Mo_writNamed 1 u6) (fun c8 u8 => if c8 < 0 then (zlet (sL u8 1 41 (gL u8 1 7)) (fun u9 => zb (Mo_nextToken u9) (fun _ u10 => some (1, u10)))) else (zb (Mo_fails 3 u8) (fun c10 u11 => zbo c10 u11)))))))))) else (zb (Mo_fails 1 u1) (fun c11 u12 => zbo c11 u12)))
def Mo_isFound (v1 : Int32) (u : zM) : Option (Int32 × zM) :=
  zb (Mo_isKept u) (fun c1 u1 => if c1 = 0 then (zlet (sI u1 1 40 v1) (fun u2 => if 0 ≤ (gI u2 1 40) then (some (1, u2)) else (zb (Mo_fails 2 u2) (fun c2 u3 => if c2 = 0 then (some (0, u3)) else (some (1, u3)))))) else (zb (Mo_fails 1 u1) (fun c3 u4 => zbo c3 u4)))
def Mo_passesFound (v1 : Int32) (u : zM) : Option (Int32 × zM) :=
  zb (Mo_isFound v1 u) (fun c1 u1 => if c1 = 0 then (some (0, u1)) else (zb (Mo_nextToken u1) (fun _ u2 => some (1, u2))))
def Mo_readsPlace (u : zM) : Option (Int32 × zM) :=
  zlet (7 + (gI u 3 6)) (fun x1 => if x1 = 14 then (zb (Mo_fails 5 u) (fun c5 u9 => zbo c5 u9)) else (zb (Mo_nextToken u) (fun _ u1 => zb (Mo_needsNew u1) (fun c2 u2 => if c2 = 0 then (some (0, u2)) else (zb (Mo_needsBoth 12257559 0 9 u2) (fun c3 u3 => if c3 = 0 then (some (0, u3)) else (if ib x1 14 = true then (zlet (sI u3 8 (ix x1) (gI u3 1 40)) (fun u4 => if ib x1 14 = true then (zlet (sI u4 9 (ix x1) 0) (fun u5 => if ib x1 14 = true then (zlet (sL u5 4 (ix x1) (gL u5 1 41)) (fun u6 => zlet (sI u6 3 6 ((gI u6 3 6) + 1)) (fun u7 => zb (Mo_closes u7) (fun c4 u8 => zbo c4 u8)))) else none)) else none)) else none)))))))
def Mo_readsStream (u : zM) : Option (Int32 × zM) :=
  if (gI u 3 7) = 10 then (zb (Mo_fails 5 u) (fun c10 u13 => zbo c10 u13)) else (zb (Mo_nextToken u) (fun _ u1 => zb (Mo_placeNamed 1 u1) (fun c2 u2 => zb (Mo_passesFound c2 u2) (fun c3 u3 => if c3 = 0 then (some (0, u3)) else (zlet (gI u3 1 40) (fun x1 => zb (Mo_placeNamed 1 u3) (fun c4 u4 => zb (Mo_isFound c4 u4) (fun c5 u5 => if c5 = 0 then (some (0, u5)) else (if x1 = (gI u5 1 40) then (zb (Mo_fails 3 u5) (fun c6 u6 => zbo c6 u6)) else (if ib (7 + x1) 14 = true then (if (((gI u5 9 (ix (7 + x1))) >>> ((gI u5 1 40) &&& 31)) &&& 1) = 1 then (zb (Mo_fails 3 u5) (fun c9 u12 => zbo c9 u12)) else (if ib (7 + x1) 14 = true then (if ib (7 + x1) 14 = true then (zlet (sI u5 9 (ix (7 + x1)) ((gI u5 9 (ix (7 + x1))) ||| (1 <<< ((gI u5 1 40) &&& 31)))) (fun u7 => if ib (7 + (gI u7 1 40)) 14 = true then (if ib (7 + (gI u7 1 40)) 14 = true then (zlet (sI u7 9 (ix (7 + (gI u7 1 40))) ((gI u7 9 (ix (7 + (gI u7 1 40)))) ||| (1 <<< (x1 &&& 31)))) (fun u8 => zlet (sI u8 3 7 ((gI u8 3 7) + 1)) (fun u9 => zb (Mo_nextToken u9) (fun _ u10 => zb (Mo_closes u10) (fun c8 u11 => zbo c8 u11))))) else none) else none)) else none) else none)) else none))))))))))
def Mo_readsPerson_97 (v1 : Int32) (s1 : Int32) (s2 : Int32) (u : zM) : Option (Int32 × zM) :=
  if ib s1 10 = true then (zlet (sI u 10 (ix s1) s2) (fun u1 => if ib v1 10 = true then (if 0 ≤ (gI u1 10 (ix v1)) then (zb (Mo_nextToken u1) (fun _ u2 => zb (Mo_needsWord 257 u2) (fun c2 u3 => if c2 = 0 then (some (0, u3)) else (zb (Mo_placeNamed 1 u3) (fun c3 u4 => zb (Mo_passesFound c3 u4) (fun c4 u5 => if c4 = 0 then (some (0, u5)) else (if ib v1 10 = true then (zlet (sI u5 11 (ix v1) (gI u5 1 40)) (fun u6 => if ib v1 10 = true then (zlet (sL u6 5 (ix v1) (gL u6 1 41)) (fun u7 => zlet (sI u7 3 8 ((gI u7 3 8) + 1)) (fun u8 => zb (Mo_closes u8) (fun c5 u9 => zbo c5 u9)))) else none)) else none))))))) else (zb (Mo_fails 1 u1) (fun c6 u10 => zbo c6 u10))) else none)) else none
def Mo_readsPerson (u : zM) : Option (Int32 × zM) :=
  zlet (5 + (gI u 3 8)) (fun x1 => if x1 = 10 then (zb (Mo_fails 5 u) (fun c7 u7 => zbo c7 u7)) else (zb (Mo_nextToken u) (fun _ u1 => zb (Mo_needsNew u1) (fun c2 u2 => if c2 = 0 then (some (0, u2)) else (zb (Mo_isWord 8740238 u2) (fun c3 u3 => if c3 = 0 then (zb (Mo_isWord 453949 u3) (fun c4 u4 => if c4 = 0 then (zb (Mo_isWord 29628900 u4) (fun c5 u5 => if c5 = 0 then (zb (Mo_isWord 83023 u5) (fun c6 u6 => if c6 = 0 then (Mo_readsPerson_97 x1 x1 (-1) u6) else (Mo_readsPerson_97 x1 x1 3 u6))) else (Mo_readsPerson_97 x1 x1 2 u5))) else (Mo_readsPerson_97 x1 x1 1 u4))) else (Mo_readsPerson_97 x1 x1 0 u3)))))))
def Mo_readsOtter (u : zM) : Option (Int32 × zM) :=
  zlet (3 + (gI u 3 9)) (fun x1 => if x1 = 6 then (zb (Mo_fails 5 u) (fun c8 u12 => zbo c8 u12)) else (zb (Mo_nextToken u) (fun _ u1 => zb (Mo_needsNew u1) (fun c2 u2 => if c2 = 0 then (some (0, u2)) else (zb (Mo_needsWord 257 u2) (fun c3 u3 => if c3 = 0 then (some (0, u3)) else (zb (Mo_placeNamed 1 u3) (fun c4 u4 => zb (Mo_passesFound c4 u4) (fun c5 u5 => if c5 = 0 then (some (0, u5)) else (if ib x1 6 = true then (zlet (sI u5 12 (ix x1) (gI u5 1 40)) (fun u6 => zb (Mo_needsBoth 315743 1 3 u6) (fun c6 u7 => if c6 = 0 then (some (0, u7)) else (if ib x1 6 = true then (zlet (sI u7 13 (ix x1) (gI u7 1 40)) (fun u8 => if ib x1 6 = true then (zlet (sL u8 6 (ix x1) (gL u8 1 41)) (fun u9 => zlet (sI u9 3 9 ((gI u9 3 9) + 1)) (fun u10 => zb (Mo_closes u10) (fun c7 u11 => zbo c7 u11)))) else none)) else none)))) else none))))))))))
def Mo_readsWrit (u : zM) : Option (Int32 × zM) :=
  zlet (6 + (gI u 3 10)) (fun x1 => if x1 = 12 then (zb (Mo_fails 5 u) (fun c8 u12 => zbo c8 u12)) else (zb (Mo_nextToken u) (fun _ u1 => zb (Mo_needsNew u1) (fun c2 u2 => if c2 = 0 then (some (0, u2)) else (zb (Mo_needsWord 4797 u2) (fun c3 u3 => if c3 = 0 then (some (0, u3)) else (zb (Mo_personNamed 1 u3) (fun c4 u4 => zb (Mo_passesFound c4 u4) (fun c5 u5 => if c5 = 0 then (some (0, u5)) else (if ib x1 12 = true then (zlet (sI u5 14 (ix x1) (gI u5 1 40)) (fun u6 => zb (Mo_needsBoth 79 0 60 u6) (fun c6 u7 => if c6 = 0 then (some (0, u7)) else (if ib x1 12 = true then (zlet (sI u7 15 (ix x1) (gI u7 1 40)) (fun u8 => if ib x1 12 = true then (zlet (sL u8 7 (ix x1) (gL u8 1 41)) (fun u9 => zlet (sI u9 3 10 ((gI u9 3 10) + 1)) (fun u10 => zb (Mo_closes u10) (fun c7 u11 => zbo c7 u11)))) else none)) else none)))) else none))))))))))
def Mo_readsRain_38 (zr20 : zM → Option (Int32 × zM)) (u : zM) : Option (Int32 × zM) :=
  if (gI u 1 6) = 2 then (if (gI u 1 8) ≤ 9 then (if (gI u 3 11) = 12 then (zb (Mo_fails 5 u) (fun c2 u4 => zbo c2 u4)) else (if ib (12 + (gI u 3 11)) 24 = true then (zlet (sI u 16 (ix (12 + (gI u 3 11))) (gI u 1 8)) (fun u1 => zlet (sI u1 3 11 ((gI u1 3 11) + 1)) (fun u2 => zb (Mo_nextToken u2) (fun _ u3 => zr20 u3)))) else none)) else (zb (Mo_fails 4 u) (fun c3 u5 => zbo c3 u5))) else (zb (Mo_fails 1 u) (fun c4 u6 => zbo c4 u6))
def Mo_readsRain_20b (zr20 : zM → Option (Int32 × zM)) (u : zM) : Option (Int32 × zM) :=
  if (gI u 3 11) = 0 then (Mo_readsRain_38 zr20 u) else (if (gI u 1 6) = 2 then (Mo_readsRain_38 zr20 u) else (zb (Mo_closes u) (fun c1 u1 => zbo c1 u1)))
def Mo_readsRain_20 : Nat → zM → Option (Int32 × zM)
  | 0 => fun _ => none
  | zf + 1 => Mo_readsRain_20b (Mo_readsRain_20 zf)
def Mo_readsRain (u : zM) : Option (Int32 × zM) :=
  if (gI u 3 11) ≤ 0 then (zb (Mo_nextToken u) (fun _ u1 => Mo_readsRain_20 zF u1)) else (zb (Mo_fails 3 u) (fun c2 u2 => zbo c2 u2))
def Mo_readsWets (u : zM) : Option (Int32 × zM) :=
  if (gI u 18 1) ≤ (gI u 17 1) then (zb (Mo_nextToken u) (fun _ u1 => zlet (sI u1 17 1 (gI u1 1 27)) (fun u2 => zb (Mo_reads u2) (fun c2 u3 => if c2 = 0 then (some (0, u3)) else (zlet (sI u3 18 1 (gI u3 1 27)) (fun u4 => some (1, u4))))))) else (zb (Mo_fails 3 u) (fun c3 u5 => zbo c3 u5))
def Mo_begins (u : zM) : Option (Unit × zM) :=
  zlet (sI u 1 3 (gI u 1 1)) (fun u1 => zlet (sI u1 1 1 0) (fun u2 => zlet (sI u2 1 4 0) (fun u3 => zb (Mo_nextToken u3) (fun _ u4 => some ((), u4)))))
def Mo_readsAll_53b (zr53 : zM → Option (Int32 × zM)) (u : zM) : Option (Int32 × zM) :=
  if (gI u 1 6) = 0 then (some (1, u)) else (zb (Mo_isWord 8740067 u) (fun c1 u1 => if c1 = 0 then (zb (Mo_isWord 283616032 u1) (fun c2 u2 => if c2 = 0 then (zb (Mo_isWord 232608281 u2) (fun c3 u3 => if c3 = 0 then (zb (Mo_isWord 8380008 u3) (fun c4 u4 => if c4 = 0 then (zb (Mo_isWord 466094 u4) (fun c5 u5 => if c5 = 0 then (zb (Mo_isWord 355280 u5) (fun c6 u6 => if c6 = 0 then (zb (Mo_isWord 456913 u6) (fun c7 u7 => if c7 = 0 then (zb (Mo_fails 1 u7) (fun c8 u8 => if c8 = 0 then (some (0, u8)) else (zr53 u8))) else (zb (Mo_readsWets u7) (fun c9 u9 => if c9 = 0 then (some (0, u9)) else (zr53 u9))))) else (zb (Mo_readsRain u6) (fun c10 u10 => if c10 = 0 then (some (0, u10)) else (zr53 u10))))) else (zb (Mo_readsWrit u5) (fun c11 u11 => if c11 = 0 then (some (0, u11)) else (zr53 u11))))) else (zb (Mo_readsOtter u4) (fun c12 u12 => if c12 = 0 then (some (0, u12)) else (zr53 u12))))) else (zb (Mo_readsPerson u3) (fun c13 u13 => if c13 = 0 then (some (0, u13)) else (zr53 u13))))) else (zb (Mo_readsStream u2) (fun c14 u14 => if c14 = 0 then (some (0, u14)) else (zr53 u14))))) else (zb (Mo_readsPlace u1) (fun c15 u15 => if c15 = 0 then (some (0, u15)) else (zr53 u15)))))
def Mo_readsAll_53 : Nat → zM → Option (Int32 × zM)
  | 0 => fun _ => none
  | zf + 1 => Mo_readsAll_53b (Mo_readsAll_53 zf)
def Mo_readsAll_2b (zr2 : Int32 → zM → Option (Int32 × zM)) (v1 : Int32) (u : zM) : Option (Int32 × zM) :=
  if 6 ≤ v1 then (zlet (sI u 17 1 1000) (fun u1 => zlet (sI u1 18 1 1000) (fun u2 => zlet (sI u2 1 27 1000) (fun u3 => zb (Mo_begins u3) (fun _ u4 => Mo_readsAll_53 zF u4))))) else (if ib (6 + v1) 12 = true then (zlet (sI u 3 (ix (6 + v1)) 0) (fun u5 => zr2 (v1 + 1) u5)) else none)
def Mo_readsAll_2 : Nat → Int32 → zM → Option (Int32 × zM)
  | 0 => fun _ _ => none
  | zf + 1 => Mo_readsAll_2b (Mo_readsAll_2 zf)
def Mo_readsAll (u : zM) : Option (Int32 × zM) :=
  Mo_readsAll_2 zF 0 u
def Mo_shifts_2b (zr2 : Nat → Int32 → Int32 → zM → Option (Unit × zM)) (r0 : Nat) (v1 : Int32) (v2 : Int32) (u : zM) : Option (Unit × zM) :=
  if (layM r0).1 = 1 then (if v1 ≤ v2 then (some ((), u)) else (if ib (v1 + v2) ((layM r0).2) = true then (if ib v2 ((layM r0).2) = true then (zlet (sI u r0 (ix v2) (gI u r0 (ix (v1 + v2)))) (fun u1 => zr2 r0 v1 (v2 + 1) u1)) else none) else none)) else none
def Mo_shifts_2 : Nat → Nat → Int32 → Int32 → zM → Option (Unit × zM)
  | 0 => fun _ _ _ _ => none
  | zf + 1 => Mo_shifts_2b (Mo_shifts_2 zf)
def Mo_shifts (r0 : Nat) (v1 : Int32) (u : zM) : Option (Unit × zM) :=
  if (layM r0).1 = 1 then (Mo_shifts_2 zF r0 v1 0 u) else none
def Mo_shiftsNames_2b (zr2 : Nat → Int32 → Int32 → zM → Option (Unit × zM)) (r0 : Nat) (v1 : Int32) (v2 : Int32) (u : zM) : Option (Unit × zM) :=
  if (layM r0).1 = 2 then (if v1 ≤ v2 then (some ((), u)) else (if ib (v1 + v2) ((layM r0).2) = true then (if ib v2 ((layM r0).2) = true then (zlet (sL u r0 (ix v2) (gL u r0 (ix (v1 + v2)))) (fun u1 => zr2 r0 v1 (v2 + 1) u1)) else none) else none)) else none
def Mo_shiftsNames_2 : Nat → Nat → Int32 → Int32 → zM → Option (Unit × zM)
  | 0 => fun _ _ _ _ => none
  | zf + 1 => Mo_shiftsNames_2b (Mo_shiftsNames_2 zf)
def Mo_shiftsNames (r0 : Nat) (v1 : Int32) (u : zM) : Option (Unit × zM) :=
  if (layM r0).1 = 2 then (Mo_shiftsNames_2 zF r0 v1 0 u) else none
def Mo_lays (u : zM) : Option (Unit × zM) :=
  zb (Mo_shifts 3 6 u) (fun _ u1 => zb (Mo_shiftsNames 4 7 u1) (fun _ u2 => zb (Mo_shiftsNames 5 5 u2) (fun _ u3 => zb (Mo_shiftsNames 6 3 u3) (fun _ u4 => zb (Mo_shiftsNames 7 6 u4) (fun _ u5 => zb (Mo_shifts 8 7 u5) (fun _ u6 => zb (Mo_shifts 9 7 u6) (fun _ u7 => zb (Mo_shifts 10 5 u7) (fun _ u8 => zb (Mo_shifts 11 5 u8) (fun _ u9 => zb (Mo_shifts 12 3 u9) (fun _ u10 => zb (Mo_shifts 13 3 u10) (fun _ u11 => zb (Mo_shifts 14 6 u11) (fun _ u12 => zb (Mo_shifts 15 6 u12) (fun _ u13 => zb (Mo_shifts 16 12 u13) (fun _ u14 => zb (Mo_shifts 19 1000 u14) (fun _ u15 => zlet (sI u15 17 0 ((gI u15 17 1) - 1000)) (fun u16 => zlet (sI u16 18 0 ((gI u16 18 1) - 1000)) (fun u17 => some ((), u17))))))))))))))))))
def Mo_copies_3b (zr3 : Nat → Int32 → Nat → Int32 → Int32 → zM → Option (Unit × zM)) (r0 : Nat) (v1 : Int32) (r2 : Nat) (v3 : Int32) (v4 : Int32) (u : zM) : Option (Unit × zM) :=
  if (layM r0).1 = 1 then (if (layM r2).1 = 1 then (if 25 ≤ v4 then (some ((), u)) else (if ib (v1 + v4) ((layM r0).2) = true then (if ib (v3 + v4) ((layM r2).2) = true then (zlet (sI u r2 (ix (v3 + v4)) (gI u r0 (ix (v1 + v4)))) (fun u1 => zr3 r0 v1 r2 v3 (v4 + 1) u1)) else none) else none)) else none) else none
def Mo_copies_3 : Nat → Nat → Int32 → Nat → Int32 → Int32 → zM → Option (Unit × zM)
  | 0 => fun _ _ _ _ _ _ => none
  | zf + 1 => Mo_copies_3b (Mo_copies_3 zf)
def Mo_copies (r0 : Nat) (v1 : Int32) (r2 : Nat) (v3 : Int32) (u : zM) : Option (Unit × zM) :=
  if (layM r0).1 = 1 then (if (layM r2).1 = 1 then (Mo_copies_3 zF r0 v1 r2 v3 0 u) else none) else none
def Mo_readsLine_182 (u : zM) : Option (Int32 × zM) :=
  zlet (sI u 32 5 ((gI u 32 5) + 1)) (fun u1 => zb (Mo_closes u1) (fun c1 u2 => zbo c1 u2))
def Mo_readsLine_164 (v2 : Int32) (s1 : Int32) (u : zM) : Option (Int32 × zM) :=
  zb (Mo_passesFound s1 u) (fun c1 u1 => if c1 = 0 then (some (0, u1)) else (if ib v2 240 = true then (zlet (sI u1 35 (ix v2) (gI u1 1 40)) (fun u2 => Mo_readsLine_182 u2)) else none))
def Mo_readsLine_141 (v1 : Int32) (v2 : Int32) (u : zM) : Option (Int32 × zM) :=
  if v1 = 0 then (Mo_readsLine_182 u) else (if v1 = 2 then (zb (Mo_placeNamed 0 u) (fun c2 u2 => Mo_readsLine_164 v2 c2 u2)) else (zb (Mo_writNamed 0 u) (fun c1 u1 => Mo_readsLine_164 v2 c1 u1)))
def Mo_readsLine_117 (v1 : Int32) (v2 : Int32) (u : zM) : Option (Int32 × zM) :=
  zb (Mo_otterNamed 0 u) (fun c1 u1 => zb (Mo_passesFound c1 u1) (fun c2 u2 => if c2 = 0 then (some (0, u2)) else (if ib v2 240 = true then (zlet (sI u2 34 (ix v2) (gI u2 1 40)) (fun u3 => Mo_readsLine_141 v1 v2 u3)) else none)))
def Mo_readsLine_57 (s0 : Int32) (u : zM) : Option (Int32 × zM) :=
  if 0 ≤ s0 then (if (gI u 32 5) = 40 then (zb (Mo_fails 5 u) (fun c2 u3 => zbo c2 u3)) else (zb (Mo_nextToken u) (fun _ u1 => zlet (200 + (gI u1 32 5)) (fun x1 => if ib x1 240 = true then (zlet (sI u1 33 (ix x1) s0) (fun u2 => if s0 = 1 then (Mo_readsLine_117 s0 x1 u2) else (if s0 = 2 then (Mo_readsLine_117 s0 x1 u2) else (Mo_readsLine_141 s0 x1 u2)))) else none)))) else (zb (Mo_fails 1 u) (fun c3 u4 => zbo c3 u4))
def Mo_readsLine (u : zM) : Option (Int32 × zM) :=
  zb (Mo_isWord 2968 u) (fun c1 u1 => if c1 = 0 then (zb (Mo_isWord 394691 u1) (fun c2 u2 => if c2 = 0 then (zb (Mo_isWord 391000 u2) (fun c3 u3 => if c3 = 0 then (zb (Mo_isWord 10209515 u3) (fun c4 u4 => if c4 = 0 then (Mo_readsLine_57 (-1) u4) else (Mo_readsLine_57 3 u4))) else (Mo_readsLine_57 2 u3))) else (Mo_readsLine_57 1 u2))) else (Mo_readsLine_57 0 u1))
def Mo_laysLines_14b (zr14 : Int32 → Int32 → Int32 → zM → Option (Unit × zM)) (v1 : Int32) (v2 : Int32) (v3 : Int32) (u : zM) : Option (Unit × zM) :=
  if 40 ≤ v3 then (some ((), u)) else (if ib ((40 * v1) + v3) 240 = true then (if ib ((40 * v2) + v3) 240 = true then (zlet (sI u 33 (ix ((40 * v2) + v3)) (gI u 33 (ix ((40 * v1) + v3)))) (fun u1 => if ib ((40 * v1) + v3) 240 = true then (if ib ((40 * v2) + v3) 240 = true then (zlet (sI u1 34 (ix ((40 * v2) + v3)) (gI u1 34 (ix ((40 * v1) + v3)))) (fun u2 => if ib ((40 * v1) + v3) 240 = true then (if ib ((40 * v2) + v3) 240 = true then (zlet (sI u2 35 (ix ((40 * v2) + v3)) (gI u2 35 (ix ((40 * v1) + v3)))) (fun u3 => zr14 v1 v2 (v3 + 1) u3)) else none) else none)) else none) else none)) else none) else none)
def Mo_laysLines_14 : Nat → Int32 → Int32 → Int32 → zM → Option (Unit × zM)
  | 0 => fun _ _ _ _ => none
  | zf + 1 => Mo_laysLines_14b (Mo_laysLines_14 zf)
def Mo_laysLines (v1 : Int32) (v2 : Int32) (u : zM) : Option (Unit × zM) :=
  if ib v1 6 = true then (if ib v2 6 = true then (zlet (sI u 32 (ix v2) (gI u 32 (ix v1))) (fun u1 => Mo_laysLines_14 zF v1 v2 0 u1)) else none) else none
def Mo_laysSeen_14b (zr14 : Int32 → Int32 → Int32 → zM → Option (Unit × zM)) (v1 : Int32) (v2 : Int32) (v3 : Int32) (u : zM) : Option (Unit × zM) :=
  if 8 ≤ v3 then (some ((), u)) else (if ib ((8 * v1) + v3) 40 = true then (if ib ((8 * v2) + v3) 40 = true then (zlet (sI u 37 (ix ((8 * v2) + v3)) (gI u 37 (ix ((8 * v1) + v3)))) (fun u1 => if ib ((8 * v1) + v3) 40 = true then (if ib ((8 * v2) + v3) 40 = true then (zlet (sI u1 38 (ix ((8 * v2) + v3)) (gI u1 38 (ix ((8 * v1) + v3)))) (fun u2 => if ib ((8 * v1) + v3) 40 = true then (if ib ((8 * v2) + v3) 40 = true then (zlet (sI u2 39 (ix ((8 * v2) + v3)) (vp_nar .boolean (gI u2 39 (ix ((8 * v1) + v3))))) (fun u3 => zr14 v1 v2 (v3 + 1) u3)) else none) else none)) else none) else none)) else none) else none)
def Mo_laysSeen_14 : Nat → Int32 → Int32 → Int32 → zM → Option (Unit × zM)
  | 0 => fun _ _ _ _ => none
  | zf + 1 => Mo_laysSeen_14b (Mo_laysSeen_14 zf)
def Mo_laysSeen (v1 : Int32) (v2 : Int32) (u : zM) : Option (Unit × zM) :=
  if ib v1 5 = true then (if ib v2 5 = true then (zlet (sI u 36 (ix v2) (gI u 36 (ix v1))) (fun u1 => Mo_laysSeen_14 zF v1 v2 0 u1)) else none) else none
def Mo_fresh0_25 (zr2 : Int32 → zM → Option (Unit × zM)) (v1 : Int32) (s1 : Int32) (u : zM) : Option (Unit × zM) :=
  if v1 < 19 then (if ib s1 25 = true then (zlet (sI u 40 (ix s1) 0) (fun u1 => zr2 (v1 + 1) u1)) else none) else (if ib s1 25 = true then (zlet (sI u 40 (ix s1) (-1)) (fun u2 => zr2 (v1 + 1) u2)) else none)
def Mo_fresh0_110b (zr110 : Int32 → zM → Option (Unit × zM)) (v1 : Int32) (u : zM) : Option (Unit × zM) :=
  if (gI u 3 3) ≤ v1 then (some ((), u)) else (if ib v1 6 = true then (if ib (13 + v1) 25 = true then (zlet (sI u 40 (ix (13 + v1)) (gI u 12 (ix v1))) (fun u1 => zr110 (v1 + 1) u1)) else none) else none)
def Mo_fresh0_110 : Nat → Int32 → zM → Option (Unit × zM)
  | 0 => fun _ _ => none
  | zf + 1 => Mo_fresh0_110b (Mo_fresh0_110 zf)
def Mo_fresh0_77b (zr77 : Int32 → zM → Option (Unit × zM)) (v1 : Int32) (u : zM) : Option (Unit × zM) :=
  if (gI u 3 2) ≤ v1 then (Mo_fresh0_110 zF 0 u) else (if ib v1 10 = true then (if ib (8 + v1) 25 = true then (zlet (sI u 40 (ix (8 + v1)) (gI u 11 (ix v1))) (fun u1 => zr77 (v1 + 1) u1)) else none) else none)
def Mo_fresh0_77 : Nat → Int32 → zM → Option (Unit × zM)
  | 0 => fun _ _ => none
  | zf + 1 => Mo_fresh0_77b (Mo_fresh0_77 zf)
def Mo_fresh0_45b (zr45 : Int32 → zM → Option (Unit × zM)) (v1 : Int32) (u : zM) : Option (Unit × zM) :=
  if (gI u 3 0) ≤ v1 then (Mo_fresh0_77 zF 0 u) else (if ib v1 14 = true then (if ib (1 + v1) 25 = true then (zlet (sI u 40 (ix (1 + v1)) (gI u 8 (ix v1))) (fun u1 => zr45 (v1 + 1) u1)) else none) else none)
def Mo_fresh0_45 : Nat → Int32 → zM → Option (Unit × zM)
  | 0 => fun _ _ => none
  | zf + 1 => Mo_fresh0_45b (Mo_fresh0_45 zf)
def Mo_fresh0_2b (zr2 : Int32 → zM → Option (Unit × zM)) (v1 : Int32) (u : zM) : Option (Unit × zM) :=
  if 25 ≤ v1 then (Mo_fresh0_45 zF 0 u) else (if v1 < 8 then (Mo_fresh0_25 zr2 v1 v1 u) else (if v1 < 16 then (if ib v1 25 = true then (zlet (sI u 40 (ix v1) (-1)) (fun u1 => zr2 (v1 + 1) u1)) else none) else (Mo_fresh0_25 zr2 v1 v1 u)))
def Mo_fresh0_2 : Nat → Int32 → zM → Option (Unit × zM)
  | 0 => fun _ _ => none
  | zf + 1 => Mo_fresh0_2b (Mo_fresh0_2 zf)
def Mo_fresh0 (u : zM) : Option (Unit × zM) :=
  Mo_fresh0_2 zF 0 u
def Mo_county_46b (zr46 : Int32 → zM → Option (Int32 × zM)) (v1 : Int32) (u : zM) : Option (Int32 × zM) :=
  if 4 ≤ v1 then (some (0, u)) else (if ib v1 4 = true then (zlet (sI u 45 (ix v1) (vp_nar .boolean 0)) (fun u1 => zr46 (v1 + 1) u1)) else none)
def Mo_county_46 : Nat → Int32 → zM → Option (Int32 × zM)
  | 0 => fun _ _ => none
  | zf + 1 => Mo_county_46b (Mo_county_46 zf)
def Mo_county (u : zM) : Option (Int32 × zM) :=
  zlet (sI u 1 0 0) (fun u1 => zb (Mo_readsAll u1) (fun c1 u2 => if c1 = 0 then (some ((gI u2 1 9), u2)) else (zb (Mo_lays u2) (fun _ u3 => zb (Mo_fresh0 u3) (fun _ u4 => zlet (sI u4 32 0 0) (fun u5 => zlet (sI u5 36 0 0) (fun u6 => zlet (sI u6 1 56 0) (fun u7 => Mo_county_46 zF 0 u7))))))))
def Mo_session_16b (zr16 : zM → Option (Int32 × zM)) (u : zM) : Option (Int32 × zM) :=
  if (gI u 1 6) = 0 then (zb (Mo_laysLines 5 0 u) (fun _ u1 => some (0, u1))) else (zb (Mo_readsLine u) (fun c2 u2 => if c2 = 0 then (some ((gI u2 1 9), u2)) else (zr16 u2)))
def Mo_session_16 : Nat → zM → Option (Int32 × zM)
  | 0 => fun _ => none
  | zf + 1 => Mo_session_16b (Mo_session_16 zf)
def Mo_session (u : zM) : Option (Int32 × zM) :=
  zlet (sI u 1 0 0) (fun u1 => zlet (sI u1 32 5 0) (fun u2 => zb (Mo_begins u2) (fun _ u3 => Mo_session_16 zF u3)))
def Mo_isPlace (v1 : Int32) (u : zM) : Option (Int32 × zM) :=
  if v1 < 0 then (some (0, u)) else (if (gI u 3 0) ≤ v1 then (some (0, u)) else (some (1, u)))
def Mo_isPerson (v1 : Int32) (u : zM) : Option (Int32 × zM) :=
  if v1 < 0 then (some (0, u)) else (if (gI u 3 2) ≤ v1 then (some (0, u)) else (some (1, u)))
def Mo_isOtter (v1 : Int32) (u : zM) : Option (Int32 × zM) :=
  if v1 < 0 then (some (0, u)) else (if (gI u 3 3) ≤ v1 then (some (0, u)) else (some (1, u)))
def Mo_isWrit (v1 : Int32) (u : zM) : Option (Int32 × zM) :=
  if v1 < 0 then (some (0, u)) else (if (gI u 3 4) ≤ v1 then (some (0, u)) else (some (1, u)))
def Mo_rainOf (v1 : Int32) (u : zM) : Option (Int32 × zM) :=
  if (gI u 3 5) = 0 then (some (1, u)) else (if (gI u 3 5) = 0 then none else (if ib (v1 - v1 / (gI u 3 5) * (gI u 3 5)) 24 = true then (some ((gI u 16 (ix (v1 - v1 / (gI u 3 5) * (gI u 3 5)))), u)) else none))
def Mo_wets_4b (zr4 : Int32 → Int32 → zM → Option (Int32 × zM)) (v1 : Int32) (v2 : Int32) (u : zM) : Option (Int32 × zM) :=
  if (gI u 3 0) ≤ v2 then (some (v1, u)) else (if ib (1 + v2) 25 = true then (if (gI u 40 (ix (1 + v2))) ≤ 0 then (zlet (v1 ||| 0) (fun x1 => zr4 x1 (v2 + 1) u)) else (zlet (v1 ||| (1 <<< (v2 &&& 31))) (fun x2 => zr4 x2 (v2 + 1) u))) else none)
def Mo_wets_4 : Nat → Int32 → Int32 → zM → Option (Int32 × zM)
  | 0 => fun _ _ _ => none
  | zf + 1 => Mo_wets_4b (Mo_wets_4 zf)
def Mo_wets (u : zM) : Option (Int32 × zM) :=
  Mo_wets_4 zF 0 0 u
def Mo_wetBy (v1 : Int32) (v2 : Int32) (u : zM) : Option (Int32 × zM) :=
  if ib (1 + v1) 25 = true then (zlet (((gI u 40 (ix (1 + v1))) + v2) - 1) (fun x1 => if (gI u 18 0) ≤ (gI u 17 0) then (zb (Mo_between x1 0 9 u) (fun c1 u1 => some (c1, u1))) else (if ib (1 + v1) 25 = true then (zlet (sI u 31 1 (gI u 40 (ix (1 + v1)))) (fun u2 => zlet (sI u2 31 2 v2) (fun u3 => if ib v1 14 = true then (zb (Mo_bits (gI u3 9 (ix v1)) u3) (fun c2 u4 => zlet (sI u4 31 3 c2) (fun u5 => zlet (sI u5 31 4 (gI u5 40 0)) (fun u6 => zb (Mo_worked 0 u6) (fun c3 u7 => zb (Mo_between c3 0 9 u7) (fun c4 u8 => some (c4, u8))))))) else none))) else none))) else none
def Mo_goesTo_46b (zr46 : Int32 → Int32 → Int32 → Int32 → zM → Option (Int32 × zM)) (v2 : Int32) (v3 : Int32) (v4 : Int32) (v5 : Int32) (u : zM) : Option (Int32 × zM) :=
  if (gI u 3 0) ≤ v5 then (some (v4, u)) else (if v3 = 0 then (some (v4, u)) else (if ib v2 14 = true then (if (((gI u 9 (ix v2)) >>> (v5 &&& 31)) &&& 1) = 1 then (if ib (1 + v5) 25 = true then (if ib (1 + v4) 25 = true then (if (v3 * (gI u 40 (ix (1 + v5)))) ≤ (v3 * (gI u 40 (ix (1 + v4)))) then (zr46 v2 v3 v4 (v5 + 1) u) else (zr46 v2 v3 v5 (v5 + 1) u)) else none) else none) else (zr46 v2 v3 v4 (v5 + 1) u)) else none))
def Mo_goesTo_46 : Nat → Int32 → Int32 → Int32 → Int32 → zM → Option (Int32 × zM)
  | 0 => fun _ _ _ _ _ => none
  | zf + 1 => Mo_goesTo_46b (Mo_goesTo_46 zf)
def Mo_goesTo (v1 : Int32) (u : zM) : Option (Int32 × zM) :=
  if ib (8 + v1) 25 = true then (zlet (gI u 40 (ix (8 + v1))) (fun x1 => if ib v1 10 = true then (if (gI u 10 (ix v1)) = 1 then (Mo_goesTo_46 zF x1 (-1) x1 0 u) else (if ib v1 10 = true then (if (gI u 10 (ix v1)) = 2 then (Mo_goesTo_46 zF x1 1 x1 0 u) else (Mo_goesTo_46 zF x1 0 x1 0 u)) else none)) else none)) else none
def Mo_passes_96b (zr96 : Int32 → zM → Option (Unit × zM)) (v2 : Int32) (u : zM) : Option (Unit × zM) :=
  if 3 ≤ v2 then (zlet (sI u 40 0 ((gI u 40 0) + 1)) (fun u1 => some ((), u1))) else (if ib (16 + v2) 25 = true then (zlet (sI u 40 (ix (16 + v2)) 0) (fun u2 => zr96 (v2 + 1) u2)) else none)
def Mo_passes_96 : Nat → Int32 → zM → Option (Unit × zM)
  | 0 => fun _ _ => none
  | zf + 1 => Mo_passes_96b (Mo_passes_96 zf)
def Mo_passes_64b (zr64 : Int32 → zM → Option (Unit × zM)) (v2 : Int32) (u : zM) : Option (Unit × zM) :=
  if (gI u 3 2) ≤ v2 then (Mo_passes_96 zF 0 u) else (zb (Mo_goesTo v2 u) (fun c1 u1 => if ib (8 + v2) 25 = true then (zlet (sI u1 40 (ix (8 + v2)) c1) (fun u2 => zr64 (v2 + 1) u2)) else none))
def Mo_passes_64 : Nat → Int32 → zM → Option (Unit × zM)
  | 0 => fun _ _ => none
  | zf + 1 => Mo_passes_64b (Mo_passes_64 zf)
def Mo_passes_32b (zr32 : Int32 → zM → Option (Unit × zM)) (v2 : Int32) (u : zM) : Option (Unit × zM) :=
  if (gI u 3 0) ≤ v2 then (Mo_passes_64 zF 0 u) else (if ib v2 7 = true then (if ib (1 + v2) 25 = true then (zlet (sI u 40 (ix (1 + v2)) (gI u 46 (ix v2))) (fun u1 => zr32 (v2 + 1) u1)) else none) else none)
def Mo_passes_32 : Nat → Int32 → zM → Option (Unit × zM)
  | 0 => fun _ _ => none
  | zf + 1 => Mo_passes_32b (Mo_passes_32 zf)
def Mo_passes_2b (zr2 : Int32 → Int32 → zM → Option (Unit × zM)) (v1 : Int32) (v2 : Int32) (u : zM) : Option (Unit × zM) :=
  if (gI u 3 0) ≤ v2 then (Mo_passes_32 zF 0 u) else (zb (Mo_wetBy v2 v1 u) (fun c1 u1 => if ib v2 7 = true then (zlet (sI u1 46 (ix v2) c1) (fun u2 => zr2 v1 (v2 + 1) u2)) else none))
def Mo_passes_2 : Nat → Int32 → Int32 → zM → Option (Unit × zM)
  | 0 => fun _ _ _ => none
  | zf + 1 => Mo_passes_2b (Mo_passes_2 zf)
def Mo_passes (v1 : Int32) (u : zM) : Option (Unit × zM) :=
  Mo_passes_2 zF v1 0 u
def Mo_passesAsTold (u : zM) : Option (Unit × zM) :=
  zb (Mo_rainOf (gI u 40 0) u) (fun c1 u1 => zb (Mo_passes c1 u1) (fun _ u2 => some ((), u2)))
def Mo_whoAt_4b (zr4 : Int32 → Int32 → Int32 → zM → Option (Int32 × zM)) (v1 : Int32) (v2 : Int32) (v3 : Int32) (u : zM) : Option (Int32 × zM) :=
  if (gI u 3 2) ≤ v3 then (some (v2, u)) else (if ib (8 + v3) 25 = true then (if (gI u 40 (ix (8 + v3))) = v1 then (zlet (v2 ||| (1 <<< (v3 &&& 31))) (fun x2 => zr4 v1 x2 (v3 + 1) u)) else (zlet (v2 ||| 0) (fun x1 => zr4 v1 x1 (v3 + 1) u))) else none)
def Mo_whoAt_4 : Nat → Int32 → Int32 → Int32 → zM → Option (Int32 × zM)
  | 0 => fun _ _ _ _ => none
  | zf + 1 => Mo_whoAt_4b (Mo_whoAt_4 zf)
def Mo_whoAt (v1 : Int32) (u : zM) : Option (Int32 × zM) :=
  Mo_whoAt_4 zF v1 0 0 u
def Mo_place_69b (zr69 : Int32 → Int32 → Int32 → zM → Option (Int32 × zM)) (v1 : Int32) (v3 : Int32) (v4 : Int32) (u : zM) : Option (Int32 × zM) :=
  if (gI u 3 3) ≤ v4 then (some (v3, u)) else (if ib (13 + v4) 25 = true then (if (gI u 40 (ix (13 + v4))) = v1 then (zlet (v3 ||| (1 <<< (v4 &&& 31))) (fun x2 => zr69 v1 x2 (v4 + 1) u)) else (zlet (v3 ||| 0) (fun x1 => zr69 v1 x1 (v4 + 1) u))) else none)
def Mo_place_69 : Nat → Int32 → Int32 → Int32 → zM → Option (Int32 × zM)
  | 0 => fun _ _ _ _ => none
  | zf + 1 => Mo_place_69b (Mo_place_69 zf)
def Mo_place (v1 : Int32) (v2 : Int32) (u : zM) : Option (Int32 × zM) :=
  zlet (sI u 1 0 0) (fun u1 => zb (Mo_isPlace v1 u1) (fun c1 u2 => if c1 = 0 then (some ((-1), u2)) else (zb (Mo_within v2 0 3 u2) (fun c2 u3 => if c2 = 0 then (some ((-1), u3)) else (if 3 ≤ v2 then (Mo_place_69 zF v1 0 0 u3) else (if v2 = 0 then (if ib (1 + v1) 25 = true then (some ((gI u3 40 (ix (1 + v1))), u3)) else none) else (if v2 = 1 then (if ib v1 14 = true then (some ((gI u3 9 (ix v1)), u3)) else none) else (zb (Mo_whoAt v1 u3) (fun c3 u4 => some (c3, u4))))))))))
def Mo_person (v1 : Int32) (v2 : Int32) (u : zM) : Option (Int32 × zM) :=
  zlet (sI u 1 0 0) (fun u1 => zb (Mo_isPerson v1 u1) (fun c1 u2 => if c1 = 0 then (some ((-1), u2)) else (zb (Mo_within v2 0 1 u2) (fun c2 u3 => if c2 = 0 then (some ((-1), u3)) else (if v2 = 0 then (if ib v1 10 = true then (some ((gI u3 10 (ix v1)), u3)) else none) else (if ib (8 + v1) 25 = true then (some ((gI u3 40 (ix (8 + v1))), u3)) else none))))))
def Mo_writsOf_4b (zr4 : Int32 → Int32 → Int32 → zM → Option (Int32 × zM)) (v1 : Int32) (v2 : Int32) (v3 : Int32) (u : zM) : Option (Int32 × zM) :=
  if (gI u 3 4) ≤ v3 then (some (v2, u)) else (if ib (19 + v3) 25 = true then (if (gI u 40 (ix (19 + v3))) = v1 then (zlet (v2 ||| (1 <<< (v3 &&& 31))) (fun x2 => zr4 v1 x2 (v3 + 1) u)) else (zlet (v2 ||| 0) (fun x1 => zr4 v1 x1 (v3 + 1) u))) else none)
def Mo_writsOf_4 : Nat → Int32 → Int32 → Int32 → zM → Option (Int32 × zM)
  | 0 => fun _ _ _ _ => none
  | zf + 1 => Mo_writsOf_4b (Mo_writsOf_4 zf)
def Mo_writsOf (v1 : Int32) (u : zM) : Option (Int32 × zM) :=
  Mo_writsOf_4 zF v1 0 0 u
def Mo_otter (v1 : Int32) (v2 : Int32) (u : zM) : Option (Int32 × zM) :=
  zlet (sI u 1 0 0) (fun u1 => zb (Mo_isOtter v1 u1) (fun c1 u2 => if c1 = 0 then (some ((-1), u2)) else (zb (Mo_within v2 0 3 u2) (fun c2 u3 => if c2 = 0 then (some ((-1), u3)) else (if 2 ≤ v2 then (if v2 = 2 then (if ib (16 + v1) 25 = true then (some ((gI u3 40 (ix (16 + v1))), u3)) else none) else (zb (Mo_writsOf v1 u3) (fun c3 u4 => some (c3, u4)))) else (if v2 = 0 then (if ib v1 6 = true then (some ((gI u3 13 (ix v1)), u3)) else none) else (if ib (13 + v1) 25 = true then (some ((gI u3 40 (ix (13 + v1))), u3)) else none)))))))
def Mo_writ (v1 : Int32) (v2 : Int32) (u : zM) : Option (Int32 × zM) :=
  zlet (sI u 1 0 0) (fun u1 => zb (Mo_isWrit v1 u1) (fun c1 u2 => if c1 = 0 then (some ((-2), u2)) else (zb (Mo_within v2 0 2 u2) (fun c2 u3 => if c2 = 0 then (some ((-2), u3)) else (if v2 = 0 then (if ib v1 12 = true then (some ((gI u3 14 (ix v1)), u3)) else none) else (if v2 = 1 then (if ib v1 12 = true then (some ((gI u3 15 (ix v1)), u3)) else none) else (if ib (19 + v1) 25 = true then (some ((gI u3 40 (ix (19 + v1))), u3)) else none)))))))
def Mo_keeps_49 (u : zM) : Option (Unit × zM) :=
  zb (Mo_copies 40 0 44 (25 * (gI u 1 56)) u) (fun _ u1 => zlet (sI u1 1 56 ((gI u1 1 56) + 1)) (fun u2 => some ((), u2)))
def Mo_keeps_11b (zr11 : Int32 → zM → Option (Unit × zM)) (v1 : Int32) (u : zM) : Option (Unit × zM) :=
  if 375 ≤ v1 then (zlet (sI u 1 56 ((gI u 1 56) - 1)) (fun u1 => Mo_keeps_49 u1)) else (if ib (v1 + 25) 400 = true then (if ib v1 400 = true then (zlet (sI u 44 (ix v1) (gI u 44 (ix (v1 + 25)))) (fun u2 => zr11 (v1 + 1) u2)) else none) else none)
def Mo_keeps_11 : Nat → Int32 → zM → Option (Unit × zM)
  | 0 => fun _ _ => none
  | zf + 1 => Mo_keeps_11b (Mo_keeps_11 zf)
def Mo_keeps (u : zM) : Option (Unit × zM) :=
  if (gI u 1 56) = 16 then (Mo_keeps_11 zF 0 u) else (Mo_keeps_49 u)
def Mo_canTake (v1 : Int32) (v2 : Int32) (u : zM) : Option (Int32 × zM) :=
  if ib (19 + v2) 25 = true then (if (gI u 40 (ix (19 + v2))) = (-1) then (if ib (13 + v1) 25 = true then (if (gI u 40 (ix (13 + v1))) = 0 then (zb (Mo_writsOf v1 u) (fun c1 u1 => zb (Mo_bits c1 u1) (fun c2 u2 => if 2 ≤ c2 then (some (0, u2)) else (some (1, u2))))) else (some (0, u))) else none) else (some (0, u))) else none
def Mo_canSwim (v1 : Int32) (u : zM) : Option (Int32 × zM) :=
  if ib (13 + v1) 25 = true then (zlet (gI u 40 (ix (13 + v1))) (fun x1 => if ib (16 + v1) 25 = true then (if ib v1 6 = true then (if (gI u 13 (ix v1)) ≤ (gI u 40 (ix (16 + v1))) then (some (0, u)) else (if ib (1 + x1) 25 = true then (if 1 ≤ (gI u 40 (ix (1 + x1))) then (if ib x1 14 = true then (zb (Mo_wets u) (fun c1 u1 => some (((gI u 9 (ix x1)) &&& c1), u1))) else none) else (some (0, u))) else none)) else none) else none)) else none
def Mo_isServed (v1 : Int32) (v2 : Int32) (u : zM) : Option (Int32 × zM) :=
  if ib v1 10 = true then (if (gI u 10 (ix v1)) = 3 then (some (1, u)) else (if ib v1 10 = true then (if (gI u 10 (ix v1)) = 1 then (if v2 < 3 then (some (0, u)) else (some (1, u))) else (if v2 < 1 then (some (0, u)) else (some (1, u)))) else none)) else none
def Mo_canServe (v1 : Int32) (u : zM) : Option (Int32 × zM) :=
  if ib (19 + v1) 25 = true then (zlet (gI u 40 (ix (19 + v1))) (fun x1 => if ib v1 12 = true then (zlet (gI u 14 (ix v1)) (fun x2 => zb (Mo_isOtter x1 u) (fun c1 u1 => if c1 = 0 then (some (0, u1)) else (if ib (13 + x1) 25 = true then (if ib (8 + x2) 25 = true then (if (gI u1 40 (ix (13 + x1))) = (gI u1 40 (ix (8 + x2))) then (if ib (8 + x2) 25 = true then (if ib (1 + (gI u1 40 (ix (8 + x2)))) 25 = true then (zb (Mo_isServed x2 (gI u1 40 (ix (1 + (gI u1 40 (ix (8 + x2)))))) u1) (fun c2 u2 => if c2 = 0 then (some (0, u2)) else (some (1, u2)))) else none) else none) else (some (0, u1))) else none) else none)))) else none)) else none
def Mo_take (v1 : Int32) (v2 : Int32) (u : zM) : Option (Int32 × zM) :=
  zlet (sI u 1 0 0) (fun u1 => zb (Mo_isOtter v1 u1) (fun c1 u2 => if c1 = 0 then (some (0, u2)) else (zb (Mo_isWrit v2 u2) (fun c2 u3 => if c2 = 0 then (some (0, u3)) else (zb (Mo_canTake v1 v2 u3) (fun c3 u4 => if c3 = 0 then (some (0, u4)) else (zb (Mo_keeps u4) (fun _ u5 => if ib (19 + v2) 25 = true then (zlet (sI u5 40 (ix (19 + v2)) v1) (fun u6 => some (1, u6))) else none))))))))
def Mo_swims (v1 : Int32) (v2 : Int32) (u : zM) : Option (Unit × zM) :=
  if ib (13 + v1) 25 = true then (zlet (sI u 40 (ix (13 + v1)) v2) (fun u1 => if ib (16 + v1) 25 = true then (if ib (16 + v1) 25 = true then (zlet (sI u1 40 (ix (16 + v1)) ((gI u1 40 (ix (16 + v1))) + 1)) (fun u2 => some ((), u2))) else none) else none)) else none
def Mo_swim (v1 : Int32) (v2 : Int32) (u : zM) : Option (Int32 × zM) :=
  zlet (sI u 1 0 0) (fun u1 => zb (Mo_isOtter v1 u1) (fun c1 u2 => if c1 = 0 then (some ((-1), u2)) else (zb (Mo_isPlace v2 u2) (fun c2 u3 => if c2 = 0 then (some ((-1), u3)) else (zb (Mo_canSwim v1 u3) (fun c3 u4 => if ((c3 >>> (v2 &&& 31)) &&& 1) = 0 then (some ((-1), u4)) else (zb (Mo_keeps u4) (fun _ u5 => zb (Mo_swims v1 v2 u5) (fun _ u6 => if ib (16 + v1) 25 = true then (some ((gI u6 40 (ix (16 + v1))), u6)) else none)))))))))
def Mo_serve (v1 : Int32) (u : zM) : Option (Int32 × zM) :=
  zlet (sI u 1 0 0) (fun u1 => zb (Mo_isWrit v1 u1) (fun c1 u2 => if c1 = 0 then (some ((-1), u2)) else (zb (Mo_canServe v1 u2) (fun c2 u3 => if c2 = 0 then (some ((-1), u3)) else (zb (Mo_keeps u3) (fun _ u4 => if ib (19 + v1) 25 = true then (zlet (gI u4 40 (ix (19 + v1))) (fun x1 => if ib (19 + v1) 25 = true then (zlet (sI u4 40 (ix (19 + v1)) 3) (fun u5 => some (x1, u5))) else none)) else none))))))
def Mo_day (u : zM) : Option (Int32 × zM) :=
  zlet (sI u 1 0 0) (fun u1 => zb (Mo_keeps u1) (fun _ u2 => zb (Mo_passesAsTold u2) (fun _ u3 => zb (Mo_wets u3) (fun c3 u4 => some (c3, u4)))))
def Mo_undo (u : zM) : Option (Int32 × zM) :=
  zlet (sI u 1 0 0) (fun u1 => if (gI u1 1 56) = 0 then (some (0, u1)) else (zlet (sI u1 1 56 ((gI u1 1 56) - 1)) (fun u2 => zb (Mo_copies 44 (25 * (gI u2 1 56)) 40 0 u2) (fun _ u3 => some (1, u3)))))
def Mo_judged_216 (zr41 : Int32 → Int32 → Int32 → Int32 → zM → Option (Int32 × zM)) (v1 : Int32) (v2 : Int32) (v3 : Int32) (v4 : Int32) (v7 : Int32) (u : zM) : Option (Int32 × zM) :=
  if v7 = 0 then (if 0 ≤ v2 then (zr41 v1 v2 v3 (v4 + 1) u) else (zr41 v1 v4 v3 (v4 + 1) u)) else (zr41 v1 v2 v3 (v4 + 1) u)
def Mo_judged_162 (zr41 : Int32 → Int32 → Int32 → Int32 → zM → Option (Int32 × zM)) (v1 : Int32) (v2 : Int32) (v3 : Int32) (v4 : Int32) (v5 : Int32) (v6 : Int32) (s0 : Int32) (u : zM) : Option (Int32 × zM) :=
  if s0 = 0 then (Mo_judged_216 zr41 v1 v2 v3 v4 s0 u) else (zb (Mo_swims v5 v6 u) (fun _ u1 => Mo_judged_216 zr41 v1 v2 v3 v4 s0 u1))
def Mo_judged_204 (zr41 : Int32 → Int32 → Int32 → Int32 → zM → Option (Int32 × zM)) (v1 : Int32) (v2 : Int32) (v3 : Int32) (v4 : Int32) (v7 : Int32) (u : zM) : Option (Int32 × zM) :=
  if v7 = 0 then (Mo_judged_216 zr41 v1 v2 v3 v4 v7 u) else (if 0 ≤ v3 then (Mo_judged_216 zr41 v1 v2 v3 v4 v7 u) else (Mo_judged_216 zr41 v1 v2 v4 v4 v7 u))
def Mo_judged_41b (zr41 : Int32 → Int32 → Int32 → Int32 → zM → Option (Int32 × zM)) (v1 : Int32) (v2 : Int32) (v3 : Int32) (v4 : Int32) (u : zM) : Option (Int32 × zM) :=
  if (gI u 32 0) ≤ v4 then (zb (Mo_writsOf 3 u) (fun c1 u1 => zb (Mo_bits c1 u1) (fun c2 u2 => zb (Mo_copies 41 0 40 0 u2) (fun _ u3 => if v1 = 0 then (some (v2, u3)) else (if v1 = 1 then (some (v3, u3)) else (some (c2, u3))))))) else (if ib v4 240 = true then (zlet (gI u 34 (ix v4)) (fun x1 => if ib v4 240 = true then (zlet (gI u 35 (ix v4)) (fun x2 => if ib v4 240 = true then (if (gI u 33 (ix v4)) = 0 then (zb (Mo_passesAsTold u) (fun _ u9 => Mo_judged_216 zr41 v1 v2 v3 v4 1 u9)) else (if ib v4 240 = true then (if (gI u 33 (ix v4)) = 1 then (zb (Mo_canTake x1 x2 u) (fun c6 u7 => if c6 = 0 then (Mo_judged_216 zr41 v1 v2 v3 v4 c6 u7) else (if ib (19 + x2) 25 = true then (zlet (sI u7 40 (ix (19 + x2)) x1) (fun u8 => Mo_judged_216 zr41 v1 v2 v3 v4 c6 u8)) else none))) else (if ib v4 240 = true then (if (gI u 33 (ix v4)) = 2 then (zb (Mo_canSwim x1 u) (fun c5 u6 => if ((c5 >>> (x2 &&& 31)) &&& 1) = 1 then (Mo_judged_162 zr41 v1 v2 v3 v4 x1 x2 1 u6) else (Mo_judged_162 zr41 v1 v2 v3 v4 x1 x2 0 u6))) else (zb (Mo_canServe x2 u) (fun c4 u4 => if c4 = 0 then (Mo_judged_204 zr41 v1 v2 v3 v4 c4 u4) else (if ib (19 + x2) 25 = true then (zlet (sI u4 40 (ix (19 + x2)) 3) (fun u5 => Mo_judged_204 zr41 v1 v2 v3 v4 c4 u5)) else none)))) else none)) else none)) else none)) else none)) else none)
def Mo_judged_41 : Nat → Int32 → Int32 → Int32 → Int32 → zM → Option (Int32 × zM)
  | 0 => fun _ _ _ _ _ => none
  | zf + 1 => Mo_judged_41b (Mo_judged_41 zf)
def Mo_judged (v1 : Int32) (u : zM) : Option (Int32 × zM) :=
  zlet (sI u 1 0 0) (fun u1 => zb (Mo_within v1 0 2 u1) (fun c1 u2 => if c1 = 0 then (some ((-2), u2)) else (zb (Mo_copies 40 0 41 0 u2) (fun _ u3 => zb (Mo_fresh0 u3) (fun _ u4 => Mo_judged_41 zF v1 (-1) (-1) 0 u4)))))
def Mo_later_40b (zr40 : Int32 → Int32 → Int32 → zM → Option (Int32 × zM)) (v1 : Int32) (v2 : Int32) (v3 : Int32) (u : zM) : Option (Int32 × zM) :=
  if v2 ≤ v3 then (if ib (1 + v1) 25 = true then (zlet (gI u 40 (ix (1 + v1))) (fun x1 => zb (Mo_copies 42 0 40 0 u) (fun _ u1 => some (x1, u1)))) else none) else (zb (Mo_passesAsTold u) (fun _ u2 => zr40 v1 v2 (v3 + 1) u2))
def Mo_later_40 : Nat → Int32 → Int32 → Int32 → zM → Option (Int32 × zM)
  | 0 => fun _ _ _ _ => none
  | zf + 1 => Mo_later_40b (Mo_later_40 zf)
def Mo_later (v1 : Int32) (v2 : Int32) (u : zM) : Option (Int32 × zM) :=
  zlet (sI u 1 0 0) (fun u1 => zb (Mo_isPlace v1 u1) (fun c1 u2 => if c1 = 0 then (some ((-1), u2)) else (zb (Mo_within v2 0 60 u2) (fun c2 u3 => if c2 = 0 then (some ((-1), u3)) else (zb (Mo_copies 40 0 42 0 u3) (fun _ u4 => Mo_later_40 zF v1 v2 0 u4))))))
def Mo_where_40b (zr40 : Int32 → Int32 → Int32 → zM → Option (Int32 × zM)) (v1 : Int32) (v2 : Int32) (v3 : Int32) (u : zM) : Option (Int32 × zM) :=
  if v2 ≤ v3 then (if ib (8 + v1) 25 = true then (zlet (gI u 40 (ix (8 + v1))) (fun x1 => zb (Mo_copies 42 0 40 0 u) (fun _ u1 => some (x1, u1)))) else none) else (zb (Mo_passesAsTold u) (fun _ u2 => zr40 v1 v2 (v3 + 1) u2))
def Mo_where_40 : Nat → Int32 → Int32 → Int32 → zM → Option (Int32 × zM)
  | 0 => fun _ _ _ _ => none
  | zf + 1 => Mo_where_40b (Mo_where_40 zf)
def Mo_where (v1 : Int32) (v2 : Int32) (u : zM) : Option (Int32 × zM) :=
  zlet (sI u 1 0 0) (fun u1 => zb (Mo_isPerson v1 u1) (fun c1 u2 => if c1 = 0 then (some ((-1), u2)) else (zb (Mo_within v2 0 60 u2) (fun c2 u3 => if c2 = 0 then (some ((-1), u3)) else (zb (Mo_copies 40 0 42 0 u3) (fun _ u4 => Mo_where_40 zF v1 v2 0 u4))))))
def Mo_comes_49 (v3 : Int32) (u : zM) : Option (Int32 × zM) :=
  zb (Mo_copies 42 0 40 0 u) (fun _ u1 => if v3 ≤ 60 then (some (v3, u1)) else (some ((-1), u1)))
def Mo_comes_36 (zr15 : Int32 → Int32 → Int32 → zM → Option (Int32 × zM)) (v1 : Int32) (v2 : Int32) (v3 : Int32) (s0 : Int32) (s1 : Int32) (u : zM) : Option (Int32 × zM) :=
  if s0 = s1 then (Mo_comes_49 v3 u) else (zb (Mo_passesAsTold u) (fun _ u1 => zr15 v1 v2 (v3 + 1) u1))
def Mo_comes_15b (zr15 : Int32 → Int32 → Int32 → zM → Option (Int32 × zM)) (v1 : Int32) (v2 : Int32) (v3 : Int32) (u : zM) : Option (Int32 × zM) :=
  if 60 < v3 then (Mo_comes_49 v3 u) else (zb (Mo_wets u) (fun c1 u1 => if v2 = 0 then (Mo_comes_36 zr15 v1 v2 v3 (c1 &&& v1) 0 u1) else (Mo_comes_36 zr15 v1 v2 v3 (c1 &&& v1) v1 u1)))
def Mo_comes_15 : Nat → Int32 → Int32 → Int32 → zM → Option (Int32 × zM)
  | 0 => fun _ _ _ _ => none
  | zf + 1 => Mo_comes_15b (Mo_comes_15 zf)
def Mo_comes (v1 : Int32) (v2 : Int32) (u : zM) : Option (Int32 × zM) :=
  zb (Mo_copies 40 0 42 0 u) (fun _ u1 => Mo_comes_15 zF v1 v2 0 u1)
def Mo_dry (v1 : Int32) (u : zM) : Option (Int32 × zM) :=
  zlet (sI u 1 0 0) (fun u1 => zb (Mo_isPlace v1 u1) (fun c1 u2 => if c1 = 0 then (some ((-1), u2)) else (zb (Mo_comes (1 <<< (v1 &&& 31)) 0 u2) (fun c2 u3 => some (c2, u3)))))
def Mo_wet (v1 : Int32) (u : zM) : Option (Int32 × zM) :=
  zlet (sI u 1 0 0) (fun u1 => zb (Mo_isPlace v1 u1) (fun c1 u2 => if c1 = 0 then (some ((-1), u2)) else (zb (Mo_comes (1 <<< (v1 &&& 31)) 1 u2) (fun c2 u3 => some (c2, u3)))))
def Mo_flood (u : zM) : Option (Int32 × zM) :=
  zlet (sI u 1 0 0) (fun u1 => zb (Mo_comes ((1 <<< ((gI u1 3 0) &&& 31)) - 1) 1 u1) (fun c1 u2 => some (c1, u2)))
def Mo_crest_35b (zr35 : Int32 → Int32 → Int32 → Int32 → zM → Option (Int32 × zM)) (v1 : Int32) (v2 : Int32) (v3 : Int32) (v4 : Int32) (u : zM) : Option (Int32 × zM) :=
  if 60 < v4 then (zb (Mo_copies 42 0 40 0 u) (fun _ u1 => some (v2, u1))) else (if ib (1 + v1) 25 = true then (if (gI u 40 (ix (1 + v1))) ≤ v3 then (zb (Mo_passesAsTold u) (fun _ u2 => zr35 v1 v2 v3 (v4 + 1) u2)) else (if ib (1 + v1) 25 = true then (zlet (gI u 40 (ix (1 + v1))) (fun x1 => zb (Mo_passesAsTold u) (fun _ u3 => zr35 v1 v4 x1 (v4 + 1) u3))) else none)) else none)
def Mo_crest_35 : Nat → Int32 → Int32 → Int32 → Int32 → zM → Option (Int32 × zM)
  | 0 => fun _ _ _ _ _ => none
  | zf + 1 => Mo_crest_35b (Mo_crest_35 zf)
def Mo_crest (v1 : Int32) (u : zM) : Option (Int32 × zM) :=
  zlet (sI u 1 0 0) (fun u1 => zb (Mo_isPlace v1 u1) (fun c1 u2 => if c1 = 0 then (some ((-1), u2)) else (zb (Mo_copies 40 0 42 0 u2) (fun _ u3 => Mo_crest_35 zF v1 0 (-1) 0 u3))))
def Mo_safe_61b (zr52 : Int32 → Int32 → Int32 → Int32 → zM → Option (Int32 × zM)) (zr61 : Int32 → Int32 → Int32 → Int32 → Int32 → zM → Option (Int32 × zM)) (v1 : Int32) (v2 : Int32) (v3 : Int32) (v4 : Int32) (v5 : Int32) (u : zM) : Option (Int32 × zM) :=
  if (gI u 3 0) ≤ v5 then (zb (Mo_passesAsTold u) (fun _ u1 => zr52 v1 v2 v3 (v4 + 1) u1)) else (if ib (1 + v5) 25 = true then (zb (Mo_isServed v1 (gI u 40 (ix (1 + v5))) u) (fun c2 u2 => if c2 = 0 then (zr61 v1 v2 v3 v4 (v5 + 1) u2) else (zlet (v3 &&& ((1 <<< (v5 &&& 31)) ^^^ ((-1) : Int32))) (fun x1 => zr61 v1 v2 x1 v4 (v5 + 1) u2)))) else none)
def Mo_safe_61 : Nat → (Int32 → Int32 → Int32 → Int32 → zM → Option (Int32 × zM)) → Int32 → Int32 → Int32 → Int32 → Int32 → zM → Option (Int32 × zM)
  | 0 => fun _ _ _ _ _ _ _ => none
  | zf + 1 => fun zr52 => Mo_safe_61b zr52 (Mo_safe_61 zf zr52)
def Mo_safe_52b (zr52 : Int32 → Int32 → Int32 → Int32 → zM → Option (Int32 × zM)) (v1 : Int32) (v2 : Int32) (v3 : Int32) (v4 : Int32) (u : zM) : Option (Int32 × zM) :=
  if v2 < v4 then (zb (Mo_copies 42 0 40 0 u) (fun _ u1 => some (v3, u1))) else (Mo_safe_61 zF zr52 v1 v2 v3 v4 0 u)
def Mo_safe_52 : Nat → Int32 → Int32 → Int32 → Int32 → zM → Option (Int32 × zM)
  | 0 => fun _ _ _ _ _ => none
  | zf + 1 => Mo_safe_52b (Mo_safe_52 zf)
def Mo_safe (v1 : Int32) (v2 : Int32) (u : zM) : Option (Int32 × zM) :=
  zlet (sI u 1 0 0) (fun u1 => zb (Mo_isPerson v1 u1) (fun c1 u2 => if c1 = 0 then (some ((-1), u2)) else (zb (Mo_within v2 1 60 u2) (fun c2 u3 => if c2 = 0 then (some ((-1), u3)) else (zb (Mo_copies 40 0 42 0 u3) (fun _ u4 => zlet ((1 <<< ((gI u4 3 0) &&& 31)) - 1) (fun x1 => Mo_safe_52 zF v1 v2 x1 0 u4)))))))
def Mo_nextTo_4b (zr4 : Int32 → Int32 → Int32 → zM → Option (Int32 × zM)) (v1 : Int32) (v2 : Int32) (v3 : Int32) (u : zM) : Option (Int32 × zM) :=
  if (gI u 3 0) ≤ v3 then (some (v2, u)) else (if ((v1 >>> (v3 &&& 31)) &&& 1) = 1 then (if ib v3 14 = true then (zlet (v2 ||| (gI u 9 (ix v3))) (fun x2 => zr4 v1 x2 (v3 + 1) u)) else none) else (zlet (v2 ||| 0) (fun x1 => zr4 v1 x1 (v3 + 1) u)))
def Mo_nextTo_4 : Nat → Int32 → Int32 → Int32 → zM → Option (Int32 × zM)
  | 0 => fun _ _ _ _ => none
  | zf + 1 => Mo_nextTo_4b (Mo_nextTo_4 zf)
def Mo_nextTo (v1 : Int32) (u : zM) : Option (Int32 × zM) :=
  Mo_nextTo_4 zF v1 0 0 u
def Mo_swimsAll_38 (zr8 : Int32 → Int32 → Int32 → Int32 → zM → Option (Unit × zM)) (v1 : Int32) (v2 : Int32) (v3 : Int32) (v4 : Int32) (u : zM) : Option (Unit × zM) :=
  if v4 = v1 then (zr8 v1 v2 v3 (v4 + 1) u) else (zb (Mo_nextTo ((gI u 1 58) &&& v3) u) (fun c1 u1 => zlet (sI u1 1 58 ((gI u 1 58) ||| (c1 &&& v3))) (fun u2 => zb (Mo_nextTo ((gI u2 1 59) &&& v3) u2) (fun c2 u3 => zlet (sI u3 1 59 ((gI u2 1 59) ||| (c2 &&& v3))) (fun u4 => zr8 v1 v2 v3 (v4 + 1) u4)))))
def Mo_swimsAll_8b (zr8 : Int32 → Int32 → Int32 → Int32 → zM → Option (Unit × zM)) (v1 : Int32) (v2 : Int32) (v3 : Int32) (v4 : Int32) (u : zM) : Option (Unit × zM) :=
  if v1 < v4 then (some ((), u)) else (if v2 = 0 then (Mo_swimsAll_38 zr8 v1 v2 v3 v4 u) else (if ((gI u 1 58) &&& 1) = 1 then (zlet (sI u 1 59 ((gI u 1 59) ||| 1)) (fun u1 => Mo_swimsAll_38 zr8 v1 v2 v3 v4 u1)) else (Mo_swimsAll_38 zr8 v1 v2 v3 v4 u)))
def Mo_swimsAll_8 : Nat → Int32 → Int32 → Int32 → Int32 → zM → Option (Unit × zM)
  | 0 => fun _ _ _ _ _ => none
  | zf + 1 => Mo_swimsAll_8b (Mo_swimsAll_8 zf)
def Mo_swimsAll (v1 : Int32) (v2 : Int32) (u : zM) : Option (Unit × zM) :=
  zb (Mo_wets u) (fun c1 u1 => Mo_swimsAll_8 zF v1 v2 c1 0 u1)
def Mo_soon_61b (zr61 : Int32 → Int32 → Int32 → Int32 → zM → Option (Int32 × zM)) (v1 : Int32) (v2 : Int32) (v3 : Int32) (v4 : Int32) (u : zM) : Option (Int32 × zM) :=
  if 60 < v4 then (zb (Mo_copies 42 0 40 0 u) (fun _ u1 => some (v3, u1))) else (if 0 ≤ v3 then (zb (Mo_copies 42 0 40 0 u) (fun _ u2 => some (v3, u2))) else (if ib v1 6 = true then (if ib (16 + v1) 25 = true then (zb (Jm_max 0 ((gI u 13 (ix v1)) - (gI u 40 (ix (16 + v1)))) u) (fun c3 u3 => zb (Mo_swimsAll c3 0 u3) (fun _ u4 => if (((gI u4 1 58) >>> (v2 &&& 31)) &&& 1) = 1 then (zb (Mo_passesAsTold u4) (fun _ u6 => zr61 v1 v2 v4 (v4 + 1) u6)) else (zb (Mo_passesAsTold u4) (fun _ u5 => zr61 v1 v2 v3 (v4 + 1) u5))))) else none) else none))
def Mo_soon_61 : Nat → Int32 → Int32 → Int32 → Int32 → zM → Option (Int32 × zM)
  | 0 => fun _ _ _ _ _ => none
  | zf + 1 => Mo_soon_61b (Mo_soon_61 zf)
def Mo_soon (v1 : Int32) (v2 : Int32) (u : zM) : Option (Int32 × zM) :=
  zlet (sI u 1 0 0) (fun u1 => zb (Mo_isOtter v1 u1) (fun c1 u2 => if c1 = 0 then (some ((-1), u2)) else (zb (Mo_isPlace v2 u2) (fun c2 u3 => if c2 = 0 then (some ((-1), u3)) else (zb (Mo_copies 40 0 42 0 u3) (fun _ u4 => if ib (13 + v1) 25 = true then (zlet (sI u4 1 58 (1 <<< ((gI u4 40 (ix (13 + v1))) &&& 31))) (fun u5 => zlet (sI u5 1 59 0) (fun u6 => Mo_soon_61 zF v1 v2 (-1) 0 u6))) else none))))))
def Mo_servesIn_111b (zr111 : Int32 → Int32 → Int32 → Int32 → Int32 → zM → Option (Int32 × zM)) (v2 : Int32) (v3 : Int32) (v4 : Int32) (v5 : Int32) (v6 : Int32) (u : zM) : Option (Int32 × zM) :=
  if 60 < v6 then (zb (Mo_copies 42 0 40 0 u) (fun _ u1 => some (v5, u1))) else (if 0 ≤ v5 then (zb (Mo_copies 42 0 40 0 u) (fun _ u2 => some (v5, u2))) else (if ib v2 6 = true then (if ib (16 + v2) 25 = true then (zb (Jm_max 0 ((gI u 13 (ix v2)) - (gI u 40 (ix (16 + v2)))) u) (fun c3 u3 => zb (Mo_swimsAll c3 v3 u3) (fun _ u4 => if ib (8 + v4) 25 = true then (if (((gI u4 1 59) >>> ((gI u4 40 (ix (8 + v4))) &&& 31)) &&& 1) = 1 then (if ib (8 + v4) 25 = true then (if ib (1 + (gI u4 40 (ix (8 + v4)))) 25 = true then (zb (Mo_isServed v4 (gI u4 40 (ix (1 + (gI u4 40 (ix (8 + v4)))))) u4) (fun c6 u6 => if c6 = 0 then (zb (Mo_passesAsTold u6) (fun _ u7 => zr111 v2 v3 v4 v5 (v6 + 1) u7)) else (zb (Mo_passesAsTold u6) (fun _ u8 => zr111 v2 v3 v4 v6 (v6 + 1) u8)))) else none) else none) else (zb (Mo_passesAsTold u4) (fun _ u5 => zr111 v2 v3 v4 v5 (v6 + 1) u5))) else none))) else none) else none))
def Mo_servesIn_111 : Nat → Int32 → Int32 → Int32 → Int32 → Int32 → zM → Option (Int32 × zM)
  | 0 => fun _ _ _ _ _ _ => none
  | zf + 1 => Mo_servesIn_111b (Mo_servesIn_111 zf)
def Mo_servesIn_94 (v1 : Int32) (v2 : Int32) (v3 : Int32) (s1 : Int32) (u : zM) : Option (Int32 × zM) :=
  zlet (sI u 1 59 s1) (fun u1 => if ib v1 12 = true then (zlet (gI u1 14 (ix v1)) (fun x1 => Mo_servesIn_111 zF v2 v3 x1 (-1) 0 u1)) else none)
def Mo_servesIn_71 (v1 : Int32) (v2 : Int32) (v3 : Int32) (s1 : Int32) (u : zM) : Option (Int32 × zM) :=
  zlet (sI u 1 58 s1) (fun u1 => if v3 = 0 then (if ib (13 + v2) 25 = true then (Mo_servesIn_94 v1 v2 v3 (1 <<< ((gI u1 40 (ix (13 + v2))) &&& 31)) u1) else none) else (Mo_servesIn_94 v1 v2 v3 0 u1))
def Mo_servesIn_38 (v1 : Int32) (v2 : Int32) (v3 : Int32) (u : zM) : Option (Int32 × zM) :=
  zb (Mo_copies 40 0 42 0 u) (fun _ u1 => if v3 = 0 then (Mo_servesIn_71 v1 v2 v3 0 u1) else (if ib (13 + v2) 25 = true then (Mo_servesIn_71 v1 v2 v3 (1 <<< ((gI u1 40 (ix (13 + v2))) &&& 31)) u1) else none))
def Mo_servesIn_18 (v1 : Int32) (v2 : Int32) (s0 : Int32) (u : zM) : Option (Int32 × zM) :=
  if s0 = 0 then (if ib (19 + v1) 25 = true then (if (gI u 40 (ix (19 + v1))) = v2 then (Mo_servesIn_38 v1 v2 s0 u) else (some ((-1), u))) else none) else (Mo_servesIn_38 v1 v2 s0 u)
def Mo_servesIn (v1 : Int32) (v2 : Int32) (u : zM) : Option (Int32 × zM) :=
  if ib (19 + v1) 25 = true then (if (gI u 40 (ix (19 + v1))) = (-1) then (Mo_servesIn_18 v1 v2 1 u) else (Mo_servesIn_18 v1 v2 0 u)) else none
def Mo_serves (v1 : Int32) (v2 : Int32) (u : zM) : Option (Int32 × zM) :=
  zlet (sI u 1 0 0) (fun u1 => zb (Mo_isWrit v1 u1) (fun c1 u2 => if c1 = 0 then (some ((-1), u2)) else (zb (Mo_isOtter v2 u2) (fun c2 u3 => if c2 = 0 then (some ((-1), u3)) else (zb (Mo_servesIn v1 v2 u3) (fun c3 u4 => some (c3, u4)))))))
def Mo_intime_19b (zr19 : Int32 → Int32 → Int32 → zM → Option (Int32 × zM)) (v1 : Int32) (v2 : Int32) (v3 : Int32) (u : zM) : Option (Int32 × zM) :=
  if (gI u 3 3) ≤ v3 then (some (v2, u)) else (zb (Mo_servesIn v1 v3 u) (fun c1 u1 => if c1 < 0 then (zlet (v2 ||| 0) (fun x1 => zr19 v1 x1 (v3 + 1) u1)) else (if ib v1 12 = true then (if (gI u1 15 (ix v1)) < ((gI u1 40 0) + c1) then (zlet (v2 ||| 0) (fun x2 => zr19 v1 x2 (v3 + 1) u1)) else (zlet (v2 ||| (1 <<< (v3 &&& 31))) (fun x3 => zr19 v1 x3 (v3 + 1) u1))) else none)))
def Mo_intime_19 : Nat → Int32 → Int32 → Int32 → zM → Option (Int32 × zM)
  | 0 => fun _ _ _ _ => none
  | zf + 1 => Mo_intime_19b (Mo_intime_19 zf)
def Mo_intime (v1 : Int32) (u : zM) : Option (Int32 × zM) :=
  zlet (sI u 1 0 0) (fun u1 => zb (Mo_isWrit v1 u1) (fun c1 u2 => if c1 = 0 then (some ((-1), u2)) else (Mo_intime_19 zF v1 0 0 u2)))
def Mo_shares_50b (zq : Int32 → Int32 → Int32 → Int32 → zM → Option (Unit × zM)) (zr50 : Int32 → zM → Option (Unit × zM)) (v5 : Int32) (u : zM) : Option (Unit × zM) :=
  if 3 ≤ v5 then (some ((), u)) else (if ib v5 3 = true then (if ib v5 3 = true then (zlet (sI u 49 (ix v5) (gI u 48 (ix v5))) (fun u1 => zr50 (v5 + 1) u1)) else none) else none)
def Mo_shares_50 : Nat → (Int32 → Int32 → Int32 → Int32 → zM → Option (Unit × zM)) → Int32 → zM → Option (Unit × zM)
  | 0 => fun _ _ _ => none
  | zf + 1 => fun zq => Mo_shares_50b zq (Mo_shares_50 zf zq)
def Mo_shares_80b (zq : Int32 → Int32 → Int32 → Int32 → zM → Option (Unit × zM)) (zr80 : Int32 → Int32 → Int32 → Int32 → Int32 → zM → Option (Unit × zM)) (v1 : Int32) (v2 : Int32) (v3 : Int32) (v4 : Int32) (v5 : Int32) (u : zM) : Option (Unit × zM) :=
  if (gI u 3 4) ≤ v5 then (if ib v1 3 = true then (zlet (sI u 48 (ix v1) (-1)) (fun u1 => zb (zq (v1 + 1) v2 v3 v4 u1) (fun _ u2 => some ((), u2)))) else none) else (if ((v2 >>> (v5 &&& 31)) &&& 1) = 1 then (zr80 v1 v2 v3 v4 (v5 + 1) u) else (if ib ((6 * v1) + v5) 18 = true then (if 0 ≤ (gI u 47 (ix ((6 * v1) + v5))) then (if ib v1 3 = true then (zlet (sI u 48 (ix v1) v5) (fun u3 => if ib ((6 * v1) + v5) 18 = true then (zb (zq (v1 + 1) (v2 ||| (1 <<< (v5 &&& 31))) (v3 + 1) (v4 + (gI u3 47 (ix ((6 * v1) + v5)))) u3) (fun _ u4 => zr80 v1 v2 v3 v4 (v5 + 1) u4)) else none)) else none) else (zr80 v1 v2 v3 v4 (v5 + 1) u)) else none))
def Mo_shares_80 : Nat → (Int32 → Int32 → Int32 → Int32 → zM → Option (Unit × zM)) → Int32 → Int32 → Int32 → Int32 → Int32 → zM → Option (Unit × zM)
  | 0 => fun _ _ _ _ _ _ _ => none
  | zf + 1 => fun zq => Mo_shares_80b zq (Mo_shares_80 zf zq)
def Mo_shares_b (zq : Int32 → Int32 → Int32 → Int32 → zM → Option (Unit × zM)) (v1 : Int32) (v2 : Int32) (v3 : Int32) (v4 : Int32) (u : zM) : Option (Unit × zM) :=
  if v1 = (gI u 3 3) then (if v3 < (gI u 1 63) then (some ((), u)) else (if v3 = (gI u 1 63) then (if v4 < (gI u 1 64) then (zlet (sI u 1 63 v3) (fun u3 => zlet (sI u3 1 64 v4) (fun u4 => Mo_shares_50 zF zq 0 u4))) else (some ((), u))) else (zlet (sI u 1 63 v3) (fun u1 => zlet (sI u1 1 64 v4) (fun u2 => Mo_shares_50 zF zq 0 u2))))) else (Mo_shares_80 zF zq v1 v2 v3 v4 0 u)
def Mo_shares : Nat → Int32 → Int32 → Int32 → Int32 → zM → Option (Unit × zM)
  | 0 => fun _ _ _ _ _ => none
  | zf + 1 => Mo_shares_b (Mo_shares zf)
def Mo_share_38b (zr26 : Int32 → Int32 → zM → Option (Int32 × zM)) (zr38 : Int32 → Int32 → Int32 → zM → Option (Int32 × zM)) (v1 : Int32) (v2 : Int32) (v3 : Int32) (u : zM) : Option (Int32 × zM) :=
  if (gI u 3 4) ≤ v3 then (zr26 v1 (v2 + 1) u) else (zb (Mo_servesIn v3 v2 u) (fun c1 u1 => if ib ((6 * v2) + v3) 18 = true then (zlet (sI u1 47 (ix ((6 * v2) + v3)) c1) (fun u2 => zr38 v1 v2 (v3 + 1) u2)) else none))
def Mo_share_38 : Nat → (Int32 → Int32 → zM → Option (Int32 × zM)) → Int32 → Int32 → Int32 → zM → Option (Int32 × zM)
  | 0 => fun _ _ _ _ _ => none
  | zf + 1 => fun zr26 => Mo_share_38b zr26 (Mo_share_38 zf zr26)
def Mo_share_26b (zr26 : Int32 → Int32 → zM → Option (Int32 × zM)) (v1 : Int32) (v2 : Int32) (u : zM) : Option (Int32 × zM) :=
  if (gI u 3 3) ≤ v2 then (zlet (sI u 1 63 (-1)) (fun u1 => zb (Mo_shares 8 0 0 0 0 u1) (fun _ u2 => if v1 = (-1) then (some ((gI u2 1 63), u2)) else (if v1 = (-2) then (some ((gI u2 1 64), u2)) else (if ib v1 3 = true then (some ((gI u2 49 (ix v1)), u2)) else none))))) else (Mo_share_38 zF zr26 v1 v2 0 u)
def Mo_share_26 : Nat → Int32 → Int32 → zM → Option (Int32 × zM)
  | 0 => fun _ _ _ => none
  | zf + 1 => Mo_share_26b (Mo_share_26 zf)
def Mo_share (v1 : Int32) (u : zM) : Option (Int32 × zM) :=
  zlet (sI u 1 0 0) (fun u1 => if v1 < (-2) then (some ((-3), u1)) else (if v1 < (gI u1 3 3) then (Mo_share_26 zF v1 0 u1) else (some ((-3), u1))))
def Mo_late_9b (zr9 : Int32 → Int32 → zM → Option (Int32 × zM)) (v1 : Int32) (v2 : Int32) (u : zM) : Option (Int32 × zM) :=
  if (gI u 3 4) ≤ v2 then (some (v1, u)) else (if ib (19 + v2) 25 = true then (if (gI u 40 (ix (19 + v2))) = 3 then (zlet (v1 ||| 0) (fun x1 => zr9 x1 (v2 + 1) u)) else (if ib v2 12 = true then (if (gI u 40 0) ≤ (gI u 15 (ix v2)) then (zlet (v1 ||| 0) (fun x2 => zr9 x2 (v2 + 1) u)) else (zlet (v1 ||| (1 <<< (v2 &&& 31))) (fun x3 => zr9 x3 (v2 + 1) u))) else none)) else none)
def Mo_late_9 : Nat → Int32 → Int32 → zM → Option (Int32 × zM)
  | 0 => fun _ _ _ => none
  | zf + 1 => Mo_late_9b (Mo_late_9 zf)
def Mo_late (u : zM) : Option (Int32 × zM) :=
  zlet (sI u 1 0 0) (fun u1 => Mo_late_9 zF 0 0 u1)
def Mo_may (v1 : Int32) (u : zM) : Option (Int32 × zM) :=
  zlet (sI u 1 0 0) (fun u1 => zb (Mo_isWrit v1 u1) (fun c1 u2 => if c1 = 0 then (some (0, u2)) else (zb (Mo_canServe v1 u2) (fun c2 u3 => if c2 = 0 then (some (0, u3)) else (some (1, u3))))))
def Mo_can (v1 : Int32) (u : zM) : Option (Int32 × zM) :=
  zlet (sI u 1 0 0) (fun u1 => zb (Mo_isOtter v1 u1) (fun c1 u2 => if c1 = 0 then (some ((-1), u2)) else (zb (Mo_canSwim v1 u2) (fun c2 u3 => some (c2, u3)))))
def Mo_spreads_7b (zr7 : Int32 → Int32 → Int32 → zM → Option (Int32 × zM)) (v2 : Int32) (v3 : Int32) (v4 : Int32) (u : zM) : Option (Int32 × zM) :=
  if 7 ≤ v4 then (some (v3, u)) else (zb (Mo_nextTo v3 u) (fun c1 u1 => zlet (v3 ||| (c1 &&& v2)) (fun x1 => zr7 v2 x1 (v4 + 1) u1)))
def Mo_spreads_7 : Nat → Int32 → Int32 → Int32 → zM → Option (Int32 × zM)
  | 0 => fun _ _ _ _ => none
  | zf + 1 => Mo_spreads_7b (Mo_spreads_7 zf)
def Mo_spreads (v1 : Int32) (v2 : Int32) (u : zM) : Option (Int32 × zM) :=
  zlet (v1 &&& v2) (fun x1 => Mo_spreads_7 zF v2 x1 0 u)
def Mo_every (u : zM) : Option (Int32 × zM) :=
  some (((1 <<< ((gI u 3 0) &&& 31)) - 1), u)
def Mo_reach (v1 : Int32) (u : zM) : Option (Int32 × zM) :=
  zlet (sI u 1 0 0) (fun u1 => zb (Mo_isPlace v1 u1) (fun c1 u2 => if c1 = 0 then (some ((-1), u2)) else (zb (Mo_every u2) (fun c2 u3 => zb (Mo_spreads (1 <<< (v1 &&& 31)) c2 u3) (fun c3 u4 => some (c3, u4))))))
def Mo_pool (v1 : Int32) (u : zM) : Option (Int32 × zM) :=
  zlet (sI u 1 0 0) (fun u1 => zb (Mo_isPlace v1 u1) (fun c1 u2 => if c1 = 0 then (some ((-1), u2)) else (zb (Mo_wets u2) (fun c2 u3 => zb (Mo_spreads (1 <<< (v1 &&& 31)) c2 u3) (fun c3 u4 => some (c3, u4))))))
def Mo_far_30b (zr30 : Int32 → Int32 → Int32 → zM → Option (Int32 × zM)) (v2 : Int32) (v3 : Int32) (v4 : Int32) (u : zM) : Option (Int32 × zM) :=
  if 7 ≤ v4 then (some ((-1), u)) else (if ((v3 >>> (v2 &&& 31)) &&& 1) = 1 then (some (v4, u)) else (zb (Mo_nextTo v3 u) (fun c1 u1 => zlet (v3 ||| c1) (fun x1 => zr30 v2 x1 (v4 + 1) u1))))
def Mo_far_30 : Nat → Int32 → Int32 → Int32 → zM → Option (Int32 × zM)
  | 0 => fun _ _ _ _ => none
  | zf + 1 => Mo_far_30b (Mo_far_30 zf)
def Mo_far (v1 : Int32) (v2 : Int32) (u : zM) : Option (Int32 × zM) :=
  zlet (sI u 1 0 0) (fun u1 => zb (Mo_isPlace v1 u1) (fun c1 u2 => if c1 = 0 then (some ((-1), u2)) else (zb (Mo_isPlace v2 u2) (fun c2 u3 => if c2 = 0 then (some ((-1), u3)) else (zlet (1 <<< (v1 &&& 31)) (fun x1 => Mo_far_30 zF v2 x1 0 u3))))))
def Mo_pools_12b (zr12 : Int32 → Int32 → zM → Option (Int32 × zM)) (v1 : Int32) (v2 : Int32) (u : zM) : Option (Int32 × zM) :=
  if v1 = 0 then (some (v2, u)) else (zb (Mo_lowest v1 u) (fun c1 u1 => zb (Mo_wets u1) (fun c2 u2 => zb (Mo_spreads (1 <<< (c1 &&& 31)) c2 u2) (fun c3 u3 => zlet (v1 &&& (c3 ^^^ ((-1) : Int32))) (fun x1 => zr12 x1 (v2 + 1) u3)))))
def Mo_pools_12 : Nat → Int32 → Int32 → zM → Option (Int32 × zM)
  | 0 => fun _ _ _ => none
  | zf + 1 => Mo_pools_12b (Mo_pools_12 zf)
def Mo_pools (u : zM) : Option (Int32 × zM) :=
  zlet (sI u 1 0 0) (fun u1 => zb (Mo_wets u1) (fun c1 u2 => Mo_pools_12 zF c1 0 u2))
def Mo_bridges_90 (zr21 : Int32 → Int32 → Int32 → zM → Option (Int32 × zM)) (v2 : Int32) (v3 : Int32) (s0 : Int32) (s1 : Int32) (u : zM) : Option (Int32 × zM) :=
  zlet (s0 + s1) (fun x1 => if ib v2 14 = true then (if ib v2 14 = true then (zlet (sI u 9 (ix v2) ((gI u 9 (ix v2)) ^^^ ((1 <<< (v3 &&& 31)) : Int32))) (fun u1 => if ib v3 14 = true then (if ib v3 14 = true then (zlet (sI u1 9 (ix v3) ((gI u1 9 (ix v3)) ^^^ ((1 <<< (v2 &&& 31)) : Int32))) (fun u2 => zr21 x1 v2 (v3 + 1) u2)) else none) else none)) else none) else none)
def Mo_bridges_21b (zr9 : Int32 → Int32 → zM → Option (Int32 × zM)) (zr21 : Int32 → Int32 → Int32 → zM → Option (Int32 × zM)) (v1 : Int32) (v2 : Int32) (v3 : Int32) (u : zM) : Option (Int32 × zM) :=
  if v2 ≤ v3 then (zr9 v1 (v2 + 1) u) else (if ib v2 14 = true then (if (((gI u 9 (ix v2)) >>> (v3 &&& 31)) &&& 1) = 0 then (zr21 v1 v2 (v3 + 1) u) else (if ib v2 14 = true then (if ib v2 14 = true then (zlet (sI u 9 (ix v2) ((gI u 9 (ix v2)) ^^^ ((1 <<< (v3 &&& 31)) : Int32))) (fun u1 => if ib v3 14 = true then (if ib v3 14 = true then (zlet (sI u1 9 (ix v3) ((gI u1 9 (ix v3)) ^^^ ((1 <<< (v2 &&& 31)) : Int32))) (fun u2 => zb (Mo_every u2) (fun c1 u3 => zb (Mo_spreads (1 <<< (v2 &&& 31)) c1 u3) (fun c2 u4 => if ((c2 >>> (v3 &&& 31)) &&& 1) = 0 then (Mo_bridges_90 zr21 v2 v3 v1 1 u4) else (Mo_bridges_90 zr21 v2 v3 v1 0 u4))))) else none) else none)) else none) else none)) else none)
def Mo_bridges_21 : Nat → (Int32 → Int32 → zM → Option (Int32 × zM)) → Int32 → Int32 → Int32 → zM → Option (Int32 × zM)
  | 0 => fun _ _ _ _ _ => none
  | zf + 1 => fun zr9 => Mo_bridges_21b zr9 (Mo_bridges_21 zf zr9)
def Mo_bridges_9b (zr9 : Int32 → Int32 → zM → Option (Int32 × zM)) (v1 : Int32) (v2 : Int32) (u : zM) : Option (Int32 × zM) :=
  if (gI u 3 0) ≤ v2 then (some (v1, u)) else (Mo_bridges_21 zF zr9 v1 v2 0 u)
def Mo_bridges_9 : Nat → Int32 → Int32 → zM → Option (Int32 × zM)
  | 0 => fun _ _ _ => none
  | zf + 1 => Mo_bridges_9b (Mo_bridges_9 zf)
def Mo_bridges (u : zM) : Option (Int32 × zM) :=
  zlet (sI u 1 0 0) (fun u1 => Mo_bridges_9 zF 0 0 u1)
def Mo_warm_11b (zr11 : Int32 → Int32 → Int32 → zM → Option (Int32 × zM)) (v1 : Int32) (v2 : Int32) (v3 : Int32) (u : zM) : Option (Int32 × zM) :=
  if (gI u 3 0) ≤ v3 then (some (v1, u)) else (zb (Mo_whoAt v3 u) (fun c1 u1 => zb (Mo_bits c1 u1) (fun c2 u2 => if v2 < c2 then (zr11 v3 c2 (v3 + 1) u2) else (zr11 v1 v2 (v3 + 1) u2))))
def Mo_warm_11 : Nat → Int32 → Int32 → Int32 → zM → Option (Int32 × zM)
  | 0 => fun _ _ _ _ => none
  | zf + 1 => Mo_warm_11b (Mo_warm_11 zf)
def Mo_warm (u : zM) : Option (Int32 × zM) :=
  zlet (sI u 1 0 0) (fun u1 => Mo_warm_11 zF (-1) 0 0 u1)
def Mo_hunted_27b (zr11 : Int32 → Int32 → Int32 → zM → Option (Int32 × zM)) (zr27 : Int32 → Int32 → Int32 → Int32 → Int32 → zM → Option (Int32 × zM)) (v1 : Int32) (v2 : Int32) (v3 : Int32) (v4 : Int32) (v5 : Int32) (u : zM) : Option (Int32 × zM) :=
  if (gI u 3 4) ≤ v5 then (if v2 < v4 then (zr11 v3 v4 (v3 + 1) u) else (zr11 v1 v2 (v3 + 1) u)) else (if ib v5 12 = true then (if (gI u 14 (ix v5)) = v3 then (if ib (19 + v5) 25 = true then (if (gI u 40 (ix (19 + v5))) = 3 then (zlet (v4 + 0) (fun x2 => zr27 v1 v2 v3 x2 (v5 + 1) u)) else (zlet (v4 + 1) (fun x3 => zr27 v1 v2 v3 x3 (v5 + 1) u))) else none) else (zlet (v4 + 0) (fun x1 => zr27 v1 v2 v3 x1 (v5 + 1) u))) else none)
def Mo_hunted_27 : Nat → (Int32 → Int32 → Int32 → zM → Option (Int32 × zM)) → Int32 → Int32 → Int32 → Int32 → Int32 → zM → Option (Int32 × zM)
  | 0 => fun _ _ _ _ _ _ _ => none
  | zf + 1 => fun zr11 => Mo_hunted_27b zr11 (Mo_hunted_27 zf zr11)
def Mo_hunted_11b (zr11 : Int32 → Int32 → Int32 → zM → Option (Int32 × zM)) (v1 : Int32) (v2 : Int32) (v3 : Int32) (u : zM) : Option (Int32 × zM) :=
  if (gI u 3 2) ≤ v3 then (some (v1, u)) else (Mo_hunted_27 zF zr11 v1 v2 v3 0 0 u)
def Mo_hunted_11 : Nat → Int32 → Int32 → Int32 → zM → Option (Int32 × zM)
  | 0 => fun _ _ _ _ => none
  | zf + 1 => Mo_hunted_11b (Mo_hunted_11 zf)
def Mo_hunted (u : zM) : Option (Int32 × zM) :=
  zlet (sI u 1 0 0) (fun u1 => Mo_hunted_11 zF (-1) 0 0 u1)
def Mo_laysRains_10b (zr2 : Int32 → zM → Option (Unit × zM)) (zr10 : Int32 → Int32 → zM → Option (Unit × zM)) (v1 : Int32) (v2 : Int32) (u : zM) : Option (Unit × zM) :=
  if (gI u 3 0) ≤ v2 then (zr2 (v1 + 1) u) else (zb (Mo_wetBy v2 v1 u) (fun c1 u1 => if ib ((7 * v1) + v2) 70 = true then (zlet (sI u1 50 (ix ((7 * v1) + v2)) c1) (fun u2 => zr10 v1 (v2 + 1) u2)) else none))
def Mo_laysRains_10 : Nat → (Int32 → zM → Option (Unit × zM)) → Int32 → Int32 → zM → Option (Unit × zM)
  | 0 => fun _ _ _ _ => none
  | zf + 1 => fun zr2 => Mo_laysRains_10b zr2 (Mo_laysRains_10 zf zr2)
def Mo_laysRains_2b (zr2 : Int32 → zM → Option (Unit × zM)) (v1 : Int32) (u : zM) : Option (Unit × zM) :=
  if 10 ≤ v1 then (some ((), u)) else (Mo_laysRains_10 zF zr2 v1 0 u)
def Mo_laysRains_2 : Nat → Int32 → zM → Option (Unit × zM)
  | 0 => fun _ _ => none
  | zf + 1 => Mo_laysRains_2b (Mo_laysRains_2 zf)
def Mo_laysRains (u : zM) : Option (Unit × zM) :=
  Mo_laysRains_2 zF 0 u
def Mo_see (v1 : Int32) (v2 : Int32) (v3 : Int32) (u : zM) : Option (Int32 × zM) :=
  zlet (sI u 1 0 0) (fun u1 => zb (Mo_isPlace v1 u1) (fun c1 u2 => if c1 = 0 then (some (0, u2)) else (zb (Mo_within v2 0 9 u2) (fun c2 u3 => if c2 = 0 then (some (0, u3)) else (if (gI u3 36 0) = 8 then (some (0, u3)) else (if ib (gI u3 36 0) 40 = true then (zlet (sI u3 37 (ix (gI u3 36 0)) v1) (fun u4 => if ib (gI u4 36 0) 40 = true then (zlet (sI u4 38 (ix (gI u4 36 0)) v2) (fun u5 => if ib (gI u5 36 0) 40 = true then (zlet (sI u5 39 (ix (gI u5 36 0)) (vp_nar .boolean v3)) (fun u6 => zlet (sI u6 36 0 ((gI u6 36 0) + 1)) (fun u7 => some (1, u7)))) else none)) else none)) else none))))))
def Mo_isAsSeen_2b (zr2 : Int32 → Int32 → zM → Option (Int32 × zM)) (v1 : Int32) (v2 : Int32) (u : zM) : Option (Int32 × zM) :=
  if (gI u 36 0) ≤ v2 then (some (1, u)) else (if ib v2 40 = true then (if ib ((7 * v1) + (gI u 37 (ix v2))) 70 = true then (if ib v2 40 = true then (if (gI u 50 (ix ((7 * v1) + (gI u 37 (ix v2))))) < (gI u 38 (ix v2)) then (if ib v2 40 = true then (if 0 = (gI u 39 (ix v2)) then (zr2 v1 (v2 + 1) u) else (some (0, u))) else none) else (if ib v2 40 = true then (if 1 = (gI u 39 (ix v2)) then (zr2 v1 (v2 + 1) u) else (some (0, u))) else none)) else none) else none) else none)
def Mo_isAsSeen_2 : Nat → Int32 → Int32 → zM → Option (Int32 × zM)
  | 0 => fun _ _ _ => none
  | zf + 1 => Mo_isAsSeen_2b (Mo_isAsSeen_2 zf)
def Mo_isAsSeen (v1 : Int32) (u : zM) : Option (Int32 × zM) :=
  Mo_isAsSeen_2 zF v1 0 u
def Mo_rains_13b (zr13 : Int32 → Int32 → zM → Option (Int32 × zM)) (v1 : Int32) (v2 : Int32) (u : zM) : Option (Int32 × zM) :=
  if 10 ≤ v2 then (some (v1, u)) else (zb (Mo_isAsSeen v2 u) (fun c1 u1 => if c1 = 0 then (zlet (v1 ||| 0) (fun x1 => zr13 x1 (v2 + 1) u1)) else (zlet (v1 ||| (1 <<< (v2 &&& 31))) (fun x2 => zr13 x2 (v2 + 1) u1))))
def Mo_rains_13 : Nat → Int32 → Int32 → zM → Option (Int32 × zM)
  | 0 => fun _ _ _ => none
  | zf + 1 => Mo_rains_13b (Mo_rains_13 zf)
def Mo_rains (u : zM) : Option (Int32 × zM) :=
  zlet (sI u 1 0 0) (fun u1 => zb (Mo_laysRains u1) (fun _ u2 => Mo_rains_13 zF 0 0 u2))
def Mo_look_50b (zr37 : Int32 → Int32 → Int32 → Int32 → Int32 → Int32 → zM → Option (Int32 × zM)) (zr50 : Int32 → Int32 → Int32 → Int32 → Int32 → Int32 → Int32 → Int32 → zM → Option (Int32 × zM)) (v1 : Int32) (v2 : Int32) (v3 : Int32) (v4 : Int32) (v5 : Int32) (v6 : Int32) (v7 : Int32) (v8 : Int32) (u : zM) : Option (Int32 × zM) :=
  if 10 ≤ v8 then (zb (Jm_max v7 (v2 - v7) u) (fun c1 u1 => if c1 < v3 then (zlet ((10 * v5) + v6) (fun x1 => zr37 v1 v2 c1 x1 v5 (v6 + 1) u1)) else (zr37 v1 v2 v3 v4 v5 (v6 + 1) u1))) else (if ((v1 >>> (v8 &&& 31)) &&& 1) = 1 then (if ib ((7 * v8) + v5) 70 = true then (if (gI u 50 (ix ((7 * v8) + v5))) < v6 then (zlet (v7 + 0) (fun x3 => zr50 v1 v2 v3 v4 v5 v6 x3 (v8 + 1) u)) else (zlet (v7 + 1) (fun x4 => zr50 v1 v2 v3 v4 v5 v6 x4 (v8 + 1) u))) else none) else (zlet (v7 + 0) (fun x2 => zr50 v1 v2 v3 v4 v5 v6 x2 (v8 + 1) u)))
def Mo_look_50 : Nat → (Int32 → Int32 → Int32 → Int32 → Int32 → Int32 → zM → Option (Int32 × zM)) → Int32 → Int32 → Int32 → Int32 → Int32 → Int32 → Int32 → Int32 → zM → Option (Int32 × zM)
  | 0 => fun _ _ _ _ _ _ _ _ _ _ => none
  | zf + 1 => fun zr37 => Mo_look_50b zr37 (Mo_look_50 zf zr37)
def Mo_look_37b (zr23 : Int32 → Int32 → Int32 → Int32 → Int32 → zM → Option (Int32 × zM)) (zr37 : Int32 → Int32 → Int32 → Int32 → Int32 → Int32 → zM → Option (Int32 × zM)) (v1 : Int32) (v2 : Int32) (v3 : Int32) (v4 : Int32) (v5 : Int32) (v6 : Int32) (u : zM) : Option (Int32 × zM) :=
  if 10 ≤ v6 then (zr23 v1 v2 v3 v4 (v5 + 1) u) else (Mo_look_50 zF zr37 v1 v2 v3 v4 v5 v6 0 0 u)
def Mo_look_37 : Nat → (Int32 → Int32 → Int32 → Int32 → Int32 → zM → Option (Int32 × zM)) → Int32 → Int32 → Int32 → Int32 → Int32 → Int32 → zM → Option (Int32 × zM)
  | 0 => fun _ _ _ _ _ _ _ _ => none
  | zf + 1 => fun zr23 => Mo_look_37b zr23 (Mo_look_37 zf zr23)
def Mo_look_23b (zr23 : Int32 → Int32 → Int32 → Int32 → Int32 → zM → Option (Int32 × zM)) (v1 : Int32) (v2 : Int32) (v3 : Int32) (v4 : Int32) (v5 : Int32) (u : zM) : Option (Int32 × zM) :=
  if (gI u 3 0) ≤ v5 then (some (v4, u)) else (Mo_look_37 zF zr23 v1 v2 v3 v4 v5 1 u)
def Mo_look_23 : Nat → Int32 → Int32 → Int32 → Int32 → Int32 → zM → Option (Int32 × zM)
  | 0 => fun _ _ _ _ _ _ => none
  | zf + 1 => Mo_look_23b (Mo_look_23 zf)
def Mo_look (u : zM) : Option (Int32 × zM) :=
  zlet (sI u 1 0 0) (fun u1 => zb (Mo_rains u1) (fun c1 u2 => zb (Mo_bits c1 u2) (fun c2 u3 => Mo_look_23 zF c1 c2 c2 (-1) 0 u3)))
def Mo_chance_135 (zr94 : Int32 → Int32 → Int32 → Int64 → Int64 → Int32 → Int64 → Int32 → zM → Option (Int32 × zM)) (v1 : Int32) (v2 : Int32) (v3 : Int32) (v4 : Int64) (v6 : Int64) (v8 : Int32) (v11 : Int32) (v12 : Int32) (s0 : Int64) (s1 : Int64) (u : zM) : Option (Int32 × zM) :=
  zlet (s0 * s1) (fun x1 => if v12 = 0 then (zb (Mo_passes 0 u) (fun _ u1 => zr94 v1 v2 v3 v4 v6 v8 x1 (v11 + 1) u1)) else (zb (Mo_passes 9 u) (fun _ u2 => zr94 v1 v2 v3 v4 v6 v8 x1 (v11 + 1) u2)))
def Mo_chance_116 (zr94 : Int32 → Int32 → Int32 → Int64 → Int64 → Int32 → Int64 → Int32 → zM → Option (Int32 × zM)) (v1 : Int32) (v2 : Int32) (v3 : Int32) (v4 : Int64) (v6 : Int64) (v8 : Int32) (v9 : Int64) (v11 : Int32) (s0 : Int32) (u : zM) : Option (Int32 × zM) :=
  if s0 = 0 then (Mo_chance_135 zr94 v1 v2 v3 v4 v6 v8 v11 s0 v9 (Int32.toInt64 (10 - v3)) u) else (Mo_chance_135 zr94 v1 v2 v3 v4 v6 v8 v11 s0 v9 (Int32.toInt64 v3) u)
def Mo_chance_94b (zr80 : Int32 → Int32 → Int32 → Int64 → Int64 → Int32 → zM → Option (Int32 × zM)) (zr94 : Int32 → Int32 → Int32 → Int64 → Int64 → Int32 → Int64 → Int32 → zM → Option (Int32 × zM)) (v1 : Int32) (v2 : Int32) (v3 : Int32) (v4 : Int64) (v6 : Int64) (v8 : Int32) (v9 : Int64) (v11 : Int32) (u : zM) : Option (Int32 × zM) :=
  if v2 ≤ v11 then (if ib (1 + v1) 25 = true then (if (gI u 40 (ix (1 + v1))) ≤ 0 then (zb (Mo_copies 42 0 40 0 u) (fun _ u1 => zr80 v1 v2 v3 v4 v6 (v8 + 1) u1)) else (zlet (v4 + v9) (fun x1 => zb (Mo_copies 42 0 40 0 u) (fun _ u2 => zr80 v1 v2 v3 x1 v6 (v8 + 1) u2)))) else none) else (if ((v8 >>> (v11 &&& 31)) &&& 1) = 1 then (Mo_chance_116 zr94 v1 v2 v3 v4 v6 v8 v9 v11 1 u) else (Mo_chance_116 zr94 v1 v2 v3 v4 v6 v8 v9 v11 0 u))
def Mo_chance_94 : Nat → (Int32 → Int32 → Int32 → Int64 → Int64 → Int32 → zM → Option (Int32 × zM)) → Int32 → Int32 → Int32 → Int64 → Int64 → Int32 → Int64 → Int32 → zM → Option (Int32 × zM)
  | 0 => fun _ _ _ _ _ _ _ _ _ _ => none
  | zf + 1 => fun zr80 => Mo_chance_94b zr80 (Mo_chance_94 zf zr80)
def Mo_chance_80b (zr80 : Int32 → Int32 → Int32 → Int64 → Int64 → Int32 → zM → Option (Int32 × zM)) (v1 : Int32) (v2 : Int32) (v3 : Int32) (v4 : Int64) (v6 : Int64) (v8 : Int32) (u : zM) : Option (Int32 × zM) :=
  if (1 <<< (v2 &&& 31)) ≤ v8 then (if v6 = 0 then none else (some ((Int64.toInt32 ((v4 * 1000000) / v6)), u))) else (Mo_chance_94 zF zr80 v1 v2 v3 v4 v6 v8 1 0 u)
def Mo_chance_80 : Nat → Int32 → Int32 → Int32 → Int64 → Int64 → Int32 → zM → Option (Int32 × zM)
  | 0 => fun _ _ _ _ _ _ _ => none
  | zf + 1 => Mo_chance_80b (Mo_chance_80 zf)
def Mo_chance_44b (zr44 : Int32 → Int32 → Int32 → Int64 → Int64 → Int32 → zM → Option (Int32 × zM)) (v1 : Int32) (v2 : Int32) (v3 : Int32) (v4 : Int64) (v6 : Int64) (v8 : Int32) (u : zM) : Option (Int32 × zM) :=
  if v2 ≤ v8 then (zb (Mo_copies 40 0 42 0 u) (fun _ u1 => Mo_chance_80 zF v1 v2 v3 v4 v6 0 u1)) else (zlet (v6 * 10) (fun x1 => zr44 v1 v2 v3 v4 x1 (v8 + 1) u))
def Mo_chance_44 : Nat → Int32 → Int32 → Int32 → Int64 → Int64 → Int32 → zM → Option (Int32 × zM)
  | 0 => fun _ _ _ _ _ _ _ => none
  | zf + 1 => Mo_chance_44b (Mo_chance_44 zf)
def Mo_chance (v1 : Int32) (v2 : Int32) (v3 : Int32) (u : zM) : Option (Int32 × zM) :=
  zlet (sI u 1 0 0) (fun u1 => zb (Mo_isPlace v1 u1) (fun c1 u2 => if c1 = 0 then (some ((-1), u2)) else (zb (Mo_within v2 1 6 u2) (fun c2 u3 => if c2 = 0 then (some ((-1), u3)) else (zb (Mo_within v3 0 10 u3) (fun c3 u4 => if c3 = 0 then (some ((-1), u4)) else (Mo_chance_44 zF v1 v2 v3 0 1 0 u4)))))))
def Mo_getsBy (v0 : Int32) (v1 : Int32) (v2 : Int32) (v3 : Int32) (v4 : Int32) (u : zM) : Option (Int32 × zM) :=
  if v3 = 1 then (if v4 = 1 then (some (v0, u)) else (some ((-v1), u))) else (if v4 = 1 then (some (v2, u)) else (some (0, u)))
def Mo_rests_61b (zr61 : Int32 → Int32 → Int32 → Int32 → Int32 → Int32 → zM → Option (Int32 × zM)) (v1 : Int32) (v2 : Int32) (v3 : Int32) (v4 : Int32) (v5 : Int32) (v6 : Int32) (u : zM) : Option (Int32 × zM) :=
  if 4 ≤ v6 then (if v4 = (-1) then (zlet (sI u 1 0 0) (fun u2 => if v4 = (-1) then (some (v5, u2)) else (some (0, u2)))) else (zlet (sI u 1 0 1) (fun u1 => if v4 = (-1) then (some (v5, u1)) else (some (0, u1))))) else (zlet (v6 / 2) (fun x1 => zlet (v6 - v6 / 2 * 2) (fun x2 => zb (Mo_getsBy v1 v2 v3 (1 - x1) x2 u) (fun c1 u3 => zb (Mo_getsBy v1 v2 v3 x1 x2 u3) (fun c2 u4 => if c2 < c1 then (zr61 v1 v2 v3 v4 v5 (v6 + 1) u4) else (zb (Mo_getsBy v1 v2 v3 (1 - x2) x1 u4) (fun c3 u5 => zb (Mo_getsBy v1 v2 v3 x2 x1 u5) (fun c4 u6 => if c3 ≤ c4 then (if v5 = v4 then (some (v6, u6)) else (zr61 v1 v2 v3 v4 (v5 + 1) (v6 + 1) u6)) else (zr61 v1 v2 v3 v4 v5 (v6 + 1) u6)))))))))
def Mo_rests_61 : Nat → Int32 → Int32 → Int32 → Int32 → Int32 → Int32 → zM → Option (Int32 × zM)
  | 0 => fun _ _ _ _ _ _ _ => none
  | zf + 1 => Mo_rests_61b (Mo_rests_61 zf)
def Mo_rests_42 (v1 : Int32) (v2 : Int32) (v3 : Int32) (v4 : Int32) (s1 : Int32) (u : zM) : Option (Int32 × zM) :=
  zlet (sI u 1 0 s1) (fun u1 => if (gI u1 1 0) = 1 then (some (0, u1)) else (Mo_rests_61 zF v1 v2 v3 v4 0 0 u1))
def Mo_rests_41 (v1 : Int32) (v2 : Int32) (v3 : Int32) (v4 : Int32) (u : zM) : Option (Int32 × zM) :=
  Mo_rests_42 v1 v2 v3 v4 1 u
def Mo_rests (v1 : Int32) (v2 : Int32) (v3 : Int32) (v4 : Int32) (u : zM) : Option (Int32 × zM) :=
  zb (Mo_within v1 0 9 u) (fun c1 u1 => if c1 = 0 then (Mo_rests_41 v1 v2 v3 v4 u1) else (zb (Mo_within v2 0 9 u1) (fun c2 u2 => if c2 = 0 then (Mo_rests_41 v1 v2 v3 v4 u2) else (zb (Mo_within v3 0 9 u2) (fun c3 u3 => if c3 = 0 then (Mo_rests_41 v1 v2 v3 v4 u3) else (if v4 < (-1) then (Mo_rests_41 v1 v2 v3 v4 u3) else (Mo_rests_42 v1 v2 v3 v4 0 u3)))))))
def Mo_draws (v1 : Int32) (u : zM) : Option (Int32 × zM) :=
  zlet (sL u 1 66 ((((gL u 1 66) * 1103515245) + 12345) - (((gL u 1 66) * 1103515245) + 12345) / 2147483648 * 2147483648)) (fun u1 => if (Int32.toInt64 v1) = 0 then none else (some ((Int64.toInt32 (((gL u1 1 66) / 65536) - ((gL u1 1 66) / 65536) / (Int32.toInt64 v1) * (Int32.toInt64 v1))), u1)))
def Mo_livesDay_113 (v3 : Int32) (v4 : Int32) (u : zM) : Option (Unit × zM) :=
  if v3 = 4 then (zb (Mo_canServe v4 u) (fun c2 u2 => if c2 = 0 then (zb (Mo_passesAsTold u2) (fun _ u3 => some ((), u3))) else (if ib (19 + v4) 25 = true then (zlet (sI u2 40 (ix (19 + v4)) 3) (fun u4 => zb (Mo_passesAsTold u4) (fun _ u5 => some ((), u5)))) else none))) else (zb (Mo_passesAsTold u) (fun _ u1 => some ((), u1)))
def Mo_livesDay_61 (v1 : Int32) (v3 : Int32) (u : zM) : Option (Unit × zM) :=
  if v3 ≤ 2 then (zb (Mo_passesAsTold u) (fun _ u1 => some ((), u1))) else (if (gI u 3 4) ≤ 0 then (zb (Mo_passesAsTold u) (fun _ u2 => some ((), u2))) else (zb (Mo_draws (gI u 3 4) u) (fun c3 u3 => if v3 = 3 then (zb (Mo_canTake v1 c3 u3) (fun c4 u4 => if c4 = 0 then (Mo_livesDay_113 v3 c3 u4) else (if ib (19 + c3) 25 = true then (zlet (sI u4 40 (ix (19 + c3)) v1) (fun u5 => Mo_livesDay_113 v3 c3 u5)) else none))) else (Mo_livesDay_113 v3 c3 u3))))
def Mo_livesDay (u : zM) : Option (Unit × zM) :=
  if (gI u 3 3) ≤ 0 then (zb (Mo_passesAsTold u) (fun _ u1 => some ((), u1))) else (zb (Mo_draws (gI u 3 3) u) (fun c2 u2 => zb (Mo_draws (gI u2 3 0) u2) (fun c3 u3 => zb (Mo_draws 5 u3) (fun c4 u4 => if 3 ≤ c4 then (Mo_livesDay_61 c2 c4 u4) else (zb (Mo_canSwim c2 u4) (fun c5 u5 => if ((c5 >>> (c3 &&& 31)) &&& 1) = 1 then (zb (Mo_swims c2 c3 u5) (fun _ u6 => Mo_livesDay_61 c2 c4 u6)) else (Mo_livesDay_61 c2 c4 u5)))))))
def Mo_sessions_104b (zr104 : Int32 → Int32 → Int32 → Int32 → zM → Option (Int32 × zM)) (v3 : Int32) (v5 : Int32) (v6 : Int32) (v7 : Int32) (u : zM) : Option (Int32 × zM) :=
  if (gI u 3 0) ≤ v7 then (zb (Mo_whoAt 0 u) (fun c1 u1 => zb (Mo_copies 41 0 40 0 u1) (fun _ u2 => if v3 = 0 then (some (v5, u2)) else (if v3 = 1 then (some (v6, u2)) else (some (c1, u2)))))) else (if ib (1 + v7) 25 = true then (zlet (v6 + (gI u 40 (ix (1 + v7)))) (fun x1 => zr104 v3 v5 x1 (v7 + 1) u)) else none)
def Mo_sessions_104 : Nat → Int32 → Int32 → Int32 → Int32 → zM → Option (Int32 × zM)
  | 0 => fun _ _ _ _ _ => none
  | zf + 1 => Mo_sessions_104b (Mo_sessions_104 zf)
def Mo_sessions_69b (zr69 : Int32 → Int32 → Int32 → Int32 → zM → Option (Int32 × zM)) (v2 : Int32) (v3 : Int32) (v4 : Int32) (v5 : Int32) (u : zM) : Option (Int32 × zM) :=
  if v2 ≤ v5 then (zb (Mo_writsOf 3 u) (fun c1 u1 => zb (Mo_bits c1 u1) (fun c2 u2 => zlet (c2 - v4) (fun x1 => Mo_sessions_104 zF v3 x1 0 0 u2)))) else (zb (Mo_livesDay u) (fun _ u3 => zr69 v2 v3 v4 (v5 + 1) u3))
def Mo_sessions_69 : Nat → Int32 → Int32 → Int32 → Int32 → zM → Option (Int32 × zM)
  | 0 => fun _ _ _ _ _ => none
  | zf + 1 => Mo_sessions_69b (Mo_sessions_69 zf)
def Mo_sessions (v1 : Int32) (v2 : Int32) (v3 : Int32) (u : zM) : Option (Int32 × zM) :=
  zlet (sI u 1 0 0) (fun u1 => zb (Mo_within v1 0 9999 u1) (fun c1 u2 => if c1 = 0 then (some ((-1), u2)) else (zb (Mo_within v2 1 99 u2) (fun c2 u3 => if c2 = 0 then (some ((-1), u3)) else (zb (Mo_within v3 0 2 u3) (fun c3 u4 => if c3 = 0 then (some ((-1), u4)) else (zlet (sL u4 1 66 (Int32.toInt64 v1)) (fun u5 => zb (Mo_copies 40 0 41 0 u5) (fun _ u6 => zb (Mo_writsOf 3 u6) (fun c5 u7 => zb (Mo_bits c5 u7) (fun c6 u8 => Mo_sessions_69 zF v2 v3 c6 0 u8)))))))))))
def Mo_mark_59 (v1 : Int32) (v2 : Int32) (v3 : Int32) (s0 : Int32) (u : zM) : Option (Int32 × zM) :=
  zb (Mo_laysLines v3 s0 u) (fun _ u1 => zb (Mo_laysSeen v3 s0 u1) (fun _ u2 => if v2 = 0 then (zb (Mo_copies 40 0 43 (25 * v1) u2) (fun _ u3 => some (1, u3))) else (zb (Mo_copies 43 (25 * v1) 40 0 u2) (fun _ u4 => zlet (sI u4 1 56 0) (fun u5 => some (1, u5))))))
def Mo_mark_47 (v1 : Int32) (v2 : Int32) (s0 : Int32) (u : zM) : Option (Int32 × zM) :=
  if v2 = 0 then (Mo_mark_59 v1 v2 s0 (1 + v1) u) else (Mo_mark_59 v1 v2 s0 0 u)
def Mo_mark_29 (v1 : Int32) (v2 : Int32) (u : zM) : Option (Int32 × zM) :=
  if ib v1 4 = true then (zlet (sI u 45 (ix v1) (vp_nar .boolean 1)) (fun u1 => if v2 = 0 then (Mo_mark_47 v1 v2 0 u1) else (Mo_mark_47 v1 v2 (1 + v1) u1))) else none
def Mo_mark (v1 : Int32) (v2 : Int32) (u : zM) : Option (Int32 × zM) :=
  zlet (sI u 1 0 0) (fun u1 => zb (Mo_within v1 0 3 u1) (fun c1 u2 => if c1 = 0 then (some (0, u2)) else (if v2 = 0 then (Mo_mark_29 v1 v2 u2) else (if ib v1 4 = true then (if (gI u2 45 (ix v1)) = 0 then (some (0, u2)) else (Mo_mark_29 v1 v2 u2)) else none))))
def Mo_count (v1 : Int32) (u : zM) : Option (Int32 × zM) :=
  zlet (sI u 1 0 0) (fun u1 => zb (Mo_within v1 0 12 u1) (fun c1 u2 => if c1 = 0 then (some ((-1), u2)) else (if 5 ≤ v1 then (if 7 ≤ v1 then (if 9 ≤ v1 then (if 11 ≤ v1 then (if v1 = 11 then (some ((gI u2 1 56), u2)) else (some ((gI u2 1 1), u2))) else (if v1 = 9 then (some ((gI u2 32 0), u2)) else (some ((gI u2 36 0), u2)))) else (if v1 = 7 then (zb (Mo_wets u2) (fun c3 u4 => some (c3, u4))) else (zb (Mo_writsOf 3 u2) (fun c2 u3 => some (c2, u3))))) else (if v1 = 5 then (some ((gI u2 40 0), u2)) else (zb (Mo_rainOf (gI u2 40 0) u2) (fun c4 u5 => some (c4, u5))))) else (if ib v1 12 = true then (some ((gI u2 3 (ix v1)), u2)) else none))))
