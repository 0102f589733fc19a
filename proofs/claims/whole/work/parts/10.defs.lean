def FU : Nat := 20000
def lett {α β : Type} (x : α) (f : α → β) : β := f x
def mxI (x y : Int32) : Int32 := if x < y then y else x
def bz (x : Int32) : Option Int32 := if x = 0 ∨ x = 1 then some x else none
def X0_init (h : HA) (t : Nat) : Option HA :=
  if (kd h t).1 = 1 then
    (nA h 20 30 30).bind fun h1 =>
    (pR h1 t 1 7 (some (hz h))).bind fun h2 =>
    (nA h2 20 4 4).bind fun h3 =>
    (pR h3 t 1 9 (some (hz h2))).bind fun h4 =>
    (nA h4 20 4 4).bind fun h5 =>
    (pR h5 t 1 10 (some (hz h4))).bind fun h6 =>
    (nA h6 21 114 114).bind fun h7 =>
    (pR h7 t 1 12 (some (hz h6))).bind fun h8 =>
    (nA h8 21 24 24).bind fun h9 =>
    (pR h9 t 1 13 (some (hz h8))).bind fun h10 =>
    some h10
  else none
def J7_fill_53178_L5 (l0 : Nat) (l1 : Int32) (l3 : Int32) : Nat → HA → Int32 → Option HA
  | 0, _, _ => none
  | n + 1, h, l2 =>
    if l2 < l3 then
      (asI h l0 20 l2 l1).bind fun h2 =>
      J7_fill_53178_L5 l0 l1 l3 n h2 (l2 + 1)
    else
      some h
def J7_fill_53178 (h : HA) (l0 : Nat) (l1 : Int32) : Option HA :=
  (aL h l0).bind fun x1 =>
  (J7_fill_53178_L5 l0 l1 x1 FU h 0).bind fun h4 =>
  some h4
def X0_reset (h : HA) (t : Nat) : Option HA :=
  if (kd h t).1 = 1 then
    (pI h t 1 0 5).bind fun h1 =>
    (pI h1 t 1 1 5).bind fun h2 =>
    (pJ h2 t 1 2 0).bind fun h3 =>
    (pI h3 t 1 6 0).bind fun h4 =>
    (pI h4 t 1 8 0).bind fun h5 =>
    (gR h5 t 1 10).bind fun x6 =>
    (J7_fill_53178 h5 x6 (-1)).bind fun h8 =>
    some h8
  else none
def X0_all (h : HA) (t : Nat) : Option Int64 :=
  if (kd h t).1 = 1 then
    (gI h t 1 0).bind fun x1 =>
    (gI h t 1 1).bind fun x2 =>
    if (x1 * x2) < 64 then
      some ((shlJ 1 (x1 * x2)) - 1)
    else
      some (-1)
  else none
def X0_measure_L4 (h : HA) (t : Nat) : Nat → Int64 → Int32 → Option Int64
  | 0, _, _ => none
  | n + 1, l1, l3 =>
    (gI h t 1 1).bind fun x1 =>
    if l3 < x1 then
      (gI h t 1 0).bind fun x2 =>
      X0_measure_L4 h t n (l1 ||| (shlJ 1 (l3 * x2))) (l3 + 1)
    else
      some l1
def X0_measure (h : HA) (t : Nat) : Option HA :=
  if (kd h t).1 = 1 then
    (X0_measure_L4 h t FU 0 0).bind fun y4 =>
    (X0_all h t).bind fun x6 =>
    (gJ h t 1 2).bind fun x7 =>
    (pJ h t 1 3 (x6 &&& (x7 ^^^ (-1)))).bind fun h8 =>
    (gJ h8 t 1 3).bind fun x9 =>
    (pJ h8 t 1 4 (x9 &&& (y4 ^^^ (-1)))).bind fun h10 =>
    (gJ h10 t 1 3).bind fun x11 =>
    (gI h10 t 1 0).bind fun x12 =>
    (pJ h10 t 1 5 (x11 &&& ((shlJ y4 (x12 - 1)) ^^^ (-1)))).bind fun h13 =>
    (pI h13 t 1 11 0).bind fun h14 =>
    some h14
  else none
def X0_copyFrom (h : HA) (t : Nat) (l1 : Nat) : Option HA :=
  if (kd h t).1 = 1 then
    (gI h l1 1 0).bind fun x1 =>
    (pI h t 1 0 x1).bind fun h2 =>
    (gI h2 l1 1 1).bind fun x3 =>
    (pI h2 t 1 1 x3).bind fun h4 =>
    (gJ h4 l1 1 2).bind fun x5 =>
    (pJ h4 t 1 2 x5).bind fun h6 =>
    (gI h6 l1 1 6).bind fun x7 =>
    (pI h6 t 1 6 x7).bind fun h8 =>
    (gI h8 l1 1 8).bind fun x9 =>
    (pI h8 t 1 8 x9).bind fun h10 =>
    (gR h10 l1 1 7).bind fun x11 =>
    (gR h10 t 1 7).bind fun x12 =>
    (gR h10 t 1 7).bind fun x13 =>
    (aL h10 x13).bind fun x14 =>
    (cpI h10 20 x11 0 x12 0 x14).bind fun h15 =>
    (gR h15 l1 1 9).bind fun x16 =>
    (gR h15 t 1 9).bind fun x17 =>
    (cpI h15 20 x16 0 x17 0 4).bind fun h18 =>
    (gR h18 l1 1 10).bind fun x19 =>
    (gR h18 t 1 10).bind fun x20 =>
    (cpI h18 20 x19 0 x20 0 4).bind fun h21 =>
    (X0_measure h21 t).bind fun h23 =>
    some h23
  else none
def X7_has (l0 : Int64) (l2 : Int32) : Option Int32 :=
  if ((ushJ l0 l2) &&& 1) = 0 then
    some 0
  else
    some 1
def X0_isOpen (h : HA) (t : Nat) (l1 : Int32) : Option Int32 :=
  if (kd h t).1 = 1 then
    if l1 < 0 then
      some 0
    else
    if l1 < 64 then
      (gJ h t 1 3).bind fun x1 =>
      (X7_has x1 l1).bind fun x3 =>
      if x3 = 0 then
        some 0
      else
        some 1
    else
      some 0
  else none
def X0_hasJudge (h : HA) (t : Nat) (l1 : Int32) : Option Int32 :=
  if (kd h t).1 = 1 then
    if l1 < 0 then
      some 0
    else
      (gI h t 1 6).bind fun x1 =>
      if l1 < x1 then
        some 1
      else
        some 0
  else none
def X0_hasPleader (h : HA) (t : Nat) (l1 : Int32) : Option Int32 :=
  if (kd h t).1 = 1 then
    if l1 < 0 then
      some 0
    else
      (gI h t 1 8).bind fun x1 =>
      if l1 < x1 then
        some 1
      else
        some 0
  else none
def X0_of (h : HA) (t : Nat) (l1 : Int32) (l2 : Int32) : Option Int32 :=
  if (kd h t).1 = 1 then
    (gR h t 1 7).bind fun x1 =>
    (ldI h x1 20 ((l1 * 5) + l2)).bind fun x2 =>
    some x2
  else none
def X0_faces (h : HA) (t : Nat) (l1 : Int32) (l2 : Int32) : Option Int32 :=
  if (kd h t).1 = 1 then
    (X0_of h t l1 1).bind fun x2 =>
    (X0_of h t l1 4).bind fun x4 =>
    some ((x2 + (l2 * x4)) &&& 3)
  else none
def X0_grow (h : HA) (t : Nat) (l1 : Int64) : Option Int64 :=
  if (kd h t).1 = 1 then
    (gJ h t 1 4).bind fun x1 =>
    (gJ h t 1 5).bind fun x2 =>
    (gI h t 1 0).bind fun x3 =>
    (gI h t 1 0).bind fun x4 =>
    (gJ h t 1 3).bind fun x5 =>
    some (((((ushJ (l1 &&& x1) 1) ||| (shlJ (l1 &&& x2) 1)) ||| (ushJ l1 x3)) ||| (shlJ l1 x4)) &&& x5)
  else none
def X0_beside (h : HA) (t : Nat) (l1 : Int32) (l2 : Int32) : Option Int64 :=
  if (kd h t).1 = 1 then
    if l2 = 0 then
      (gI h t 1 0).bind fun x1 =>
      (gJ h t 1 3).bind fun x2 =>
      some ((ushJ (shlJ 1 l1) x1) &&& x2)
    else
    if l2 = 1 then
      (gJ h t 1 5).bind fun x3 =>
      (gJ h t 1 3).bind fun x4 =>
      some ((shlJ ((shlJ 1 l1) &&& x3) 1) &&& x4)
    else
    if l2 = 2 then
      (gI h t 1 0).bind fun x5 =>
      (gJ h t 1 3).bind fun x6 =>
      some ((shlJ (shlJ 1 l1) x5) &&& x6)
    else
      (gJ h t 1 4).bind fun x7 =>
      (gJ h t 1 3).bind fun x8 =>
      some ((ushJ ((shlJ 1 l1) &&& x7) 1) &&& x8)
  else none
def J6_numberOfTrailingZeros_0f7a4 (l0 : Int32) : Option Int32 :=
  if 0 < ((l0 ^^^ (-1)) &&& (l0 - 1)) then
    (show Option (Int32 × Int32) from
      if 65536 < ((l0 ^^^ (-1)) &&& (l0 - 1)) then
        some (ushI ((l0 ^^^ (-1)) &&& (l0 - 1)) 16, 1 + 16)
      else
        some ((l0 ^^^ (-1)) &&& (l0 - 1), 1)).bind fun (j1, j2) =>
    (show Option (Int32 × Int32) from
      if 256 < j1 then
        some (ushI j1 8, j2 + 8)
      else
        some (j1, j2)).bind fun (j5, j6) =>
    (show Option (Int32 × Int32) from
      if 16 < j5 then
        some (ushI j5 4, j6 + 4)
      else
        some (j5, j6)).bind fun (j9, j10) =>
    if 4 < j9 then
      some ((j10 + 2) + (ushI (ushI j9 2) 1))
    else
      some (j10 + (ushI j9 1))
  else
    some (((l0 ^^^ (-1)) &&& (l0 - 1)) &&& 32)
def J13_numberOfTrailingZeros_95d88 (l0 : Int64) : Option Int32 :=
  if l0.toInt32 = 0 then
    (J6_numberOfTrailingZeros_0f7a4 ((ushJ l0 32).toInt32)).bind fun x2 =>
    some (32 + x2)
  else
    (J6_numberOfTrailingZeros_0f7a4 l0.toInt32).bind fun x4 =>
    some x4
def X0_stepTo (h : HA) (t : Nat) (l1 : Int32) (l2 : Int32) : Option Int32 :=
  if (kd h t).1 = 1 then
    (X0_beside h t l1 l2).bind fun x2 =>
    if x2 = 0 then
      some (-1)
    else
      (J13_numberOfTrailingZeros_95d88 x2).bind fun x4 =>
      some x4
  else none
def X0_ray_L13 (h : HA) (t : Nat) (l2 : Int32) : Nat → Int64 → Int32 → Int32 → Option Int64
  | 0, _, _, _ => none
  | n + 1, l3, l5, l6 =>
    if l6 < 64 then
      if l5 = (-1) then
        some l3
      else
        (X0_stepTo h t l5 l2).bind fun x4 =>
        X0_ray_L13 h t l2 n (l3 ||| (shlJ 1 l5)) x4 (l6 + 1)
    else
      some l3
def X0_ray (h : HA) (t : Nat) (l1 : Int32) (l2 : Int32) : Option Int64 :=
  if (kd h t).1 = 1 then
    (X0_stepTo h t l1 l2).bind fun x2 =>
    (X0_ray_L13 h t l2 FU 0 x2 0).bind fun y6 =>
    some y6
  else none
def X0_steps_L8 (h : HA) (t : Nat) (l2 : Int64) : Nat → Int64 → Int32 → Option Int32
  | 0, _, _ => none
  | n + 1, l4, l6 =>
    if l6 < 64 then
      if (l4 &&& l2) = 0 then
        (X0_grow h t l4).bind fun x2 =>
        X0_steps_L8 h t l2 n (l4 ||| x2) (l6 + 1)
      else
        some l6
    else
      some (-1)
def X0_steps (h : HA) (t : Nat) (l1 : Int32) (l2 : Int64) : Option Int32 :=
  if (kd h t).1 = 1 then
    X0_steps_L8 h t l2 FU (shlJ 1 l1) 0
  else none
def J13_lowestOneBit_067f4 (l0 : Int64) : Option Int64 :=
  some (l0 &&& (-l0))
def X0_connected_L2 (h : HA) (t : Nat) : Nat → Int64 → Int32 → Option Int64
  | 0, _, _ => none
  | n + 1, l1, l3 =>
    if l3 < 64 then
      (X0_grow h t l1).bind fun x2 =>
      if (l1 ||| x2) = l1 then
        some l1
      else
        X0_connected_L2 h t n (l1 ||| x2) (l3 + 1)
    else
      some l1
def X0_connected (h : HA) (t : Nat) (l1 : Int64) : Option Int64 :=
  if (kd h t).1 = 1 then
    (X0_connected_L2 h t FU l1 0).bind fun y4 =>
    some y4
  else none
def X0_parts_L10 (h : HA) (t : Nat) : Nat → Int64 → Int32 → Int32 → Option Int32
  | 0, _, _, _ => none
  | n + 1, l1, l3, l4 =>
    if l4 < 64 then
      if l1 = 0 then
        some l3
      else
        (J13_lowestOneBit_067f4 l1).bind fun x3 =>
        (X0_connected h t x3).bind fun x5 =>
        X0_parts_L10 h t n (l1 &&& (x5 ^^^ (-1))) (l3 + 1) (l4 + 1)
    else
      some l3
def X0_parts (h : HA) (t : Nat) : Option Int32 :=
  if (kd h t).1 = 1 then
    (gJ h t 1 3).bind fun x1 =>
    (X0_parts_L10 h t FU x1 0 0).bind fun y7 =>
    some y7
  else none
def X0_layVia_L3 (t : Nat) (l1 : Int32) (l2 : Int64) : Nat → HA → Int32 → Option HA
  | 0, _, _ => none
  | n + 1, h, l4 =>
    if l4 < 4 then
      (gR h t 1 13).bind fun x1 =>
      (ldJ h x1 ((l1 * 4) + l4)).bind fun x2 =>
      (gR h t 1 13).bind fun x3 =>
      (X0_grow h t x2).bind fun x5 =>
      (asJ h x3 ((l1 * 4) + l4) (x2 ||| (x5 &&& l2))).bind fun h6 =>
      X0_layVia_L3 t l1 l2 n h6 (l4 + 1)
    else
      some h
def X0_layVia (h : HA) (t : Nat) (l1 : Int32) (l2 : Int64) : Option HA :=
  if (kd h t).1 = 1 then
    (X0_layVia_L3 t l1 l2 FU h 0).bind fun h8 =>
    some h8
  else none
def X0_layOf_L24 (t : Nat) (l1 : Int32) (l2 : Int32) : Nat → HA → Int32 → Option HA
  | 0, _, _ => none
  | n + 1, h, l5 =>
    if l5 < 4 then
      (gR h t 1 13).bind fun x5 =>
      (X0_beside h t l2 l5).bind fun x7 =>
      (asJ h x5 ((l1 * 4) + l5) x7).bind fun h8 =>
      X0_layOf_L24 t l1 l2 n h8 (l5 + 1)
    else
      some h
def X0_layOf_L57 (t : Nat) (l1 : Int32) : Nat → HA → Int64 → Int32 → Option HA
  | 0, _, _, _ => none
  | n + 1, h, l3, l5 =>
    if l5 < 64 then
      (X0_grow h t l3).bind fun x12 =>
      if l5 < 19 then
        (gR h t 1 12).bind fun x13 =>
        (asJ h x13 ((l1 * 19) + l5) (l3 ||| (x12 &&& (l3 ^^^ (-1))))).bind fun h14 =>
        if (x12 &&& (l3 ^^^ (-1))) = 0 then
          X0_layOf_L57 t l1 n h14 (l3 ||| (x12 &&& (l3 ^^^ (-1)))) (l5 + 1)
        else
          (X0_layVia h14 t l1 (x12 &&& (l3 ^^^ (-1)))).bind fun h16 =>
          X0_layOf_L57 t l1 n h16 (l3 ||| (x12 &&& (l3 ^^^ (-1)))) (l5 + 1)
      else
      if (x12 &&& (l3 ^^^ (-1))) = 0 then
        some h
      else
      if (x12 &&& (l3 ^^^ (-1))) = 0 then
        X0_layOf_L57 t l1 n h (l3 ||| (x12 &&& (l3 ^^^ (-1)))) (l5 + 1)
      else
        (X0_layVia h t l1 (x12 &&& (l3 ^^^ (-1)))).bind fun h18 =>
        X0_layOf_L57 t l1 n h18 (l3 ||| (x12 &&& (l3 ^^^ (-1)))) (l5 + 1)
    else
      some h
def X0_layOf (h : HA) (t : Nat) (l1 : Int32) : Option HA :=
  if (kd h t).1 = 1 then
    (X0_of h t l1 0).bind fun x2 =>
    (gR h t 1 12).bind fun x3 =>
    (asJ h x3 (l1 * 19) (shlJ 1 x2)).bind fun h4 =>
    (X0_layOf_L24 t l1 x2 FU h4 0).bind fun h10 =>
    (X0_layOf_L57 t l1 FU h10 (shlJ 1 x2) 1).bind fun h20 =>
    some h20
  else none
def X0_lay_L10 (t : Nat) : Nat → HA → Int32 → Option HA
  | 0, _, _ => none
  | n + 1, h, l1 =>
    (gI h t 1 6).bind fun x2 =>
    if l1 < x2 then
      (X0_layOf h t l1).bind fun h4 =>
      X0_lay_L10 t n h4 (l1 + 1)
    else
      some h
def X0_lay (h : HA) (t : Nat) : Option HA :=
  if (kd h t).1 = 1 then
    (gI h t 1 11).bind fun x1 =>
    if x1 = 0 then
      (X0_lay_L10 t FU h 0).bind fun h6 =>
      (pI h6 t 1 11 1).bind fun h7 =>
      some h7
    else
      some h
  else none
def X0_turned (l0 : Int32) (l1 : Int32) : Option Int32 :=
  some (((shlI l0 (l1 &&& 3)) ||| (ushI l0 (4 - (l1 &&& 3)))) &&& 15)
def X0_sidesFrom_L5 (h : HA) (t : Nat) (l1 : Int32) (l2 : Int32) : Nat → Int32 → Int32 → Option Int32
  | 0, _, _ => none
  | n + 1, l3, l4 =>
    if l4 < 4 then
      (gR h t 1 13).bind fun x1 =>
      (ldJ h x1 ((l1 * 4) + l4)).bind fun x2 =>
      (X7_has x2 l2).bind fun x4 =>
      if x4 = 0 then
        X0_sidesFrom_L5 h t l1 l2 n l3 (l4 + 1)
      else
        X0_sidesFrom_L5 h t l1 l2 n (l3 ||| (shlI 1 l4)) (l4 + 1)
    else
      some l3
def X0_sidesFrom (h : HA) (t : Nat) (l1 : Int32) (l2 : Int32) : Option Int32 :=
  if (kd h t).1 = 1 then
    (X0_sidesFrom_L5 h t l1 l2 FU 0 0).bind fun y6 =>
    some y6
  else none
def X0_audibleFrom_L14 (h : HA) (t : Nat) (l1 : Int32) (l2 : Int32) : Nat → Int64 → Int32 → Option Int64
  | 0, _, _ => none
  | n + 1, l4, l6 =>
    if l6 < 4 then
      if ((ushI l2 l6) &&& 1) = 0 then
        X0_audibleFrom_L14 h t l1 l2 n l4 (l6 + 1)
      else
        (gR h t 1 13).bind fun x3 =>
        (ldJ h x3 ((l1 * 4) + l6)).bind fun x4 =>
        X0_audibleFrom_L14 h t l1 l2 n (l4 ||| x4) (l6 + 1)
    else
      some l4
def X0_audibleFrom (h : HA) (t : Nat) (l1 : Int32) (l2 : Int32) (l3 : Int32) : Option Int64 :=
  if (kd h t).1 = 1 then
    (gR h t 1 12).bind fun x1 =>
    (ldJ h x1 (l1 * 19)).bind fun x2 =>
    (X0_audibleFrom_L14 h t l1 l2 FU x2 0).bind fun y6 =>
    (gR h t 1 12).bind fun x7 =>
    (ldJ h x7 ((l1 * 19) + l3)).bind fun x8 =>
    some (y6 &&& x8)
  else none
def X0_sidesOf (l0 : Int32) : Option Int32 :=
  if l0 = 0 then
    some 9
  else
    some 3
def X0_audible (h : HA) (t : Nat) (l1 : Int32) (l2 : Int32) (l3 : Int32) : Option Int64 :=
  if (kd h t).1 = 1 then
    (X0_of h t l1 2).bind fun x2 =>
    (X0_sidesOf x2).bind fun x4 =>
    (X0_faces h t l1 l2).bind fun x6 =>
    (X0_turned x4 x6).bind fun x8 =>
    (X0_of h t l1 3).bind fun x10 =>
    (X0_audibleFrom h t l1 x8 (x10 + l3)).bind fun x12 =>
    some x12
  else none
def X0_earsAt_L6 (h : HA) (t : Nat) (l1 : Int32) (l2 : Int32) (l3 : Int32) : Nat → Int32 → Int32 → Option Int32
  | 0, _, _ => none
  | n + 1, l4, l5 =>
    (gI h t 1 6).bind fun x1 =>
    if l5 < x1 then
      (X0_audible h t l5 l2 l3).bind fun x3 =>
      (X7_has x3 l1).bind fun x5 =>
      if x5 = 0 then
        X0_earsAt_L6 h t l1 l2 l3 n l4 (l5 + 1)
      else
        X0_earsAt_L6 h t l1 l2 l3 n (l4 ||| (shlI 1 l5)) (l5 + 1)
    else
      some l4
def X0_earsAt (h : HA) (t : Nat) (l1 : Int32) (l2 : Int32) (l3 : Int32) : Option Int32 :=
  if (kd h t).1 = 1 then
    (X0_earsAt_L6 h t l1 l2 l3 FU 0 0).bind fun y7 =>
    some y7
  else none
def J13_bitCount_95d88 (l0 : Int64) : Option Int32 :=
  lett (α := Int64) (((l0 - ((ushJ l0 1) &&& 6148914691236517205)) &&& 3689348814741910323) + ((ushJ (l0 - ((ushJ l0 1) &&& 6148914691236517205)) 2) &&& 3689348814741910323)) fun y1 =>
  lett (α := Int64) (((y1 + (ushJ y1 4)) &&& 1085102592571150095) + (ushJ ((y1 + (ushJ y1 4)) &&& 1085102592571150095) 8)) fun y2 =>
  some ((((y2 + (ushJ y2 16)) + (ushJ (y2 + (ushJ y2 16)) 32)).toInt32) &&& 127)
def X0_blind_L8 (h : HA) (t : Nat) (l1 : Int32) (l2 : Int32) : Nat → Int64 → Int32 → Option Int64
  | 0, _, _ => none
  | n + 1, l3, l5 =>
    (gI h t 1 6).bind fun x2 =>
    if l5 < x2 then
      (X0_audible h t l5 l1 l2).bind fun x4 =>
      X0_blind_L8 h t l1 l2 n (l3 &&& (x4 ^^^ (-1))) (l5 + 1)
    else
      some l3
def X0_blind (h : HA) (t : Nat) (l1 : Int32) (l2 : Int32) : Option Int32 :=
  if (kd h t).1 = 1 then
    (gJ h t 1 3).bind fun x1 =>
    (X0_blind_L8 h t l1 l2 FU x1 0).bind fun y6 =>
    (J13_bitCount_95d88 y6).bind fun x8 =>
    some x8
  else none
def X0_quarter_L4 (h : HA) (t : Nat) : Nat → Int32 → Int32 → Option Int32
  | 0, _, _ => none
  | n + 1, l1, l2 =>
    if l2 < 4 then
      (X0_blind h t l2 0).bind fun x2 =>
      (X0_blind h t l1 0).bind fun x4 =>
      if x2 < x4 then
        X0_quarter_L4 h t n l2 (l2 + 1)
      else
        X0_quarter_L4 h t n l1 (l2 + 1)
    else
      some l1
def X0_quarter (h : HA) (t : Nat) : Option Int32 :=
  if (kd h t).1 = 1 then
    (X0_quarter_L4 h t FU 0 1).bind fun y6 =>
    some y6
  else none
def X1_init (h : HA) (t : Nat) : Option HA :=
  if (kd h t).1 = 2 then
    (nA h 20 4 4).bind fun h1 =>
    (pR h1 t 2 3 (some (hz h))).bind fun h2 =>
    (nA h2 20 4 4).bind fun h3 =>
    (pR h3 t 2 4 (some (hz h2))).bind fun h4 =>
    (nA h4 20 6 6).bind fun h5 =>
    (pR h5 t 2 5 (some (hz h4))).bind fun h6 =>
    (nA h6 21 30 30).bind fun h7 =>
    (pR h7 t 2 6 (some (hz h6))).bind fun h8 =>
    (nA h8 20 30 30).bind fun h9 =>
    (pR h9 t 2 7 (some (hz h8))).bind fun h10 =>
    some h10
  else none
def X2_at (h : HA) (t : Nat) (l1 : Int32) (l2 : Int32) : Option Int32 :=
  if (kd h t).1 = 3 then
    (gR h t 3 1).bind fun x1 =>
    (gI h t 3 0).bind fun x2 =>
    (ldI h x1 20 ((l1 * x2) + l2)).bind fun x3 =>
    some x3
  else none
def X1_step (h : HA) (t : Nat) (l1 : Int32) (l2 : Int32) : Option (Int32 × HA) :=
  if (kd h t).1 = 2 then
    (gR h t 2 0).bind fun x1 =>
    (gR h t 2 3).bind fun x2 =>
    (ldI h x2 20 l1).bind fun x3 =>
    (X0_stepTo h x1 x3 l2).bind fun x5 =>
    if x5 = (-1) then
      some (0, h)
    else
      (gR h t 2 3).bind fun x6 =>
      (asI h x6 20 l1 x5).bind fun h7 =>
      (gR h7 t 2 4).bind fun x8 =>
      (ldI h7 x8 20 l1).bind fun x9 =>
      if x9 = (-1) then
        some (1, h7)
      else
        (gR h7 t 2 0).bind fun x10 =>
        (gR h7 t 2 4).bind fun x11 =>
        (ldI h7 x11 20 l1).bind fun x12 =>
        (X0_stepTo h7 x10 x12 ((l2 + 2) &&& 3)).bind fun x14 =>
        (gR h7 t 2 4).bind fun x15 =>
        if x14 = (-1) then
          (gR h7 t 2 4).bind fun x16 =>
          (ldI h7 x16 20 l1).bind fun x17 =>
          (asI h7 x15 20 l1 x17).bind fun h18 =>
          some (1, h18)
        else
          (asI h7 x15 20 l1 x14).bind fun h19 =>
          some (1, h19)
  else none
def X1_canBe (h : HA) (t : Nat) (l1 : Int32) : Option (Int32 × HA) :=
  if (kd h t).1 = 2 then
    (gR h t 2 1).bind fun x1 =>
    (X2_at h x1 l1 0).bind fun x3 =>
    (gR h t 2 1).bind fun x4 =>
    (X2_at h x4 l1 1).bind fun x6 =>
    (show Option ((Int32 × HA) ⊕ Unit) from
      if x3 = 0 then
        some (.inr ())
      else
      if x3 = 1 then
        some (.inr ())
      else
        some (.inl (1, h))).bind fun s9 =>
    match s9 with
    | .inl r30 =>
      some r30
    | .inr () =>
      (gR h t 2 0).bind fun x9 =>
      (X0_hasPleader h x9 x6).bind fun x11 =>
      if x11 = 0 then
        some (0, h)
      else
      if x3 = 0 then
        (gR h t 2 1).bind fun x12 =>
        (X2_at h x12 l1 2).bind fun x14 =>
        (X1_step h t x6 x14).bind fun (x17, h16) =>
        (bz x17).bind fun x18 =>
        some (x18, h16)
      else
        (gR h t 2 6).bind fun x19 =>
        (gR h t 2 3).bind fun x20 =>
        (ldI h x20 20 x6).bind fun x21 =>
        (asJ h x19 l1 (shlJ 1 x21)).bind fun h22 =>
        (gR h22 t 2 4).bind fun x23 =>
        (ldI h22 x23 20 x6).bind fun x24 =>
        if x24 = (-1) then
          some (1, h22)
        else
          (gR h22 t 2 6).bind fun x25 =>
          (ldJ h22 x25 l1).bind fun x26 =>
          (gR h22 t 2 4).bind fun x27 =>
          (ldI h22 x27 20 x6).bind fun x28 =>
          (asJ h22 x25 l1 (x26 ||| (shlJ 1 x28))).bind fun h29 =>
          some (1, h29)
  else none
def X1_play_L13 (t : Nat) : Nat → HA → Int32 → Option HA
  | 0, _, _ => none
  | n + 1, h, l4 =>
    (gR h t 2 0).bind fun x3 =>
    (gI h x3 1 8).bind fun x4 =>
    if l4 < x4 then
      (gR h t 2 3).bind fun x5 =>
      (gR h t 2 0).bind fun x6 =>
      (gR h x6 1 9).bind fun x7 =>
      (ldI h x7 20 l4).bind fun x8 =>
      (asI h x5 20 l4 x8).bind fun h9 =>
      (gR h9 t 2 4).bind fun x10 =>
      (gR h9 t 2 0).bind fun x11 =>
      (gR h9 x11 1 10).bind fun x12 =>
      (ldI h9 x12 20 l4).bind fun x13 =>
      (asI h9 x10 20 l4 x13).bind fun h14 =>
      X1_play_L13 t n h14 (l4 + 1)
    else
      some h
def X1_play_L73 (t : Nat) (l2 : Nat) (l3 : Int32) : Nat → HA → Int32 → Option HA
  | 0, _, _ => none
  | n + 1, h, l4 =>
    (gI h l2 3 2).bind fun x18 =>
    if l4 < x18 then
      if l4 < l3 then
        if l4 < 30 then
          (gR h t 2 6).bind fun x19 =>
          (asJ h x19 l4 0).bind fun h20 =>
          (gR h20 t 2 7).bind fun x21 =>
          (asI h20 x21 20 l4 0).bind fun h22 =>
          (X1_canBe h22 t l4).bind fun (x25, h24) =>
          if x25 = 0 then
            some h24
          else
            (gI h24 t 2 2).bind fun x26 =>
            (pI h24 t 2 2 (x26 + 1)).bind fun h27 =>
            X1_play_L73 t l2 l3 n h27 (l4 + 1)
        else
          some h
      else
        some h
    else
      some h
def X1_play (h : HA) (t : Nat) (l1 : Nat) (l2 : Nat) (l3 : Int32) : Option HA :=
  if (kd h t).1 = 2 then
    (pR h t 2 0 (some l1)).bind fun h1 =>
    (pR h1 t 2 1 (some l2)).bind fun h2 =>
    (X1_play_L13 t FU h2 0).bind fun h16 =>
    (pI h16 t 2 2 0).bind fun h17 =>
    (X1_play_L73 t l2 l3 FU h17 0).bind fun h29 =>
    some h29
  else none
def X1_isSaid (h : HA) (t : Nat) (l1 : Int32) : Option Int32 :=
  if (kd h t).1 = 2 then
    (gR h t 2 1).bind fun x1 =>
    (X2_at h x1 l1 0).bind fun x3 =>
    if x3 = 1 then
      some 1
    else
      some 0
  else none
def X1_isHeard (h : HA) (t : Nat) (l1 : Int32) (l2 : Int32) (l3 : Int32) (l4 : Int32) : Option Int32 :=
  if (kd h t).1 = 2 then
    (gR h t 2 1).bind fun x1 =>
    (X2_at h x1 l1 3).bind fun x3 =>
    (gR h t 2 0).bind fun x4 =>
    (gR h t 2 7).bind fun x5 =>
    (ldI h x5 20 l1).bind fun x6 =>
    (X0_audibleFrom h x4 l2 (l4 &&& (x6 ^^^ (-1))) (l3 + x3)).bind fun x8 =>
    (gR h t 2 6).bind fun x9 =>
    (ldJ h x9 l1).bind fun x10 =>
    if (x8 &&& x10) = 0 then
      some 0
    else
      some 1
  else none
def X1_wordsOn_L6 (h : HA) (t : Nat) (l1 : Int32) (l2 : Int32) (l3 : Int32) (l4 : Int32) (l5 : Int32) (l6 : Int32) : Nat → Int32 → Int32 → Option Int32
  | 0, _, _ => none
  | n + 1, l7, l8 =>
    if l8 < l6 then
      (X1_isSaid h t l8).bind fun x2 =>
      if x2 = 0 then
        X1_wordsOn_L6 h t l1 l2 l3 l4 l5 l6 n l7 (l8 + 1)
      else
        (gR h t 2 0).bind fun x3 =>
        (X0_faces h x3 l1 (l8 + l5)).bind fun x5 =>
        (X0_turned l3 (x5 + l4)).bind fun x7 =>
        (X1_isHeard h t l8 l1 l2 x7).bind fun x9 =>
        if x9 = 0 then
          X1_wordsOn_L6 h t l1 l2 l3 l4 l5 l6 n l7 (l8 + 1)
        else
          (gR h t 2 1).bind fun x10 =>
          (X2_at h x10 l8 2).bind fun x12 =>
          X1_wordsOn_L6 h t l1 l2 l3 l4 l5 l6 n (l7 ||| (shlI 1 x12)) (l8 + 1)
    else
      some l7
def X1_wordsOn (h : HA) (t : Nat) (l1 : Int32) (l2 : Int32) (l3 : Int32) (l4 : Int32) (l5 : Int32) (l6 : Int32) : Option Int32 :=
  if (kd h t).1 = 2 then
    (X1_wordsOn_L6 h t l1 l2 l3 l4 l5 l6 FU 0 0).bind fun y14 =>
    some y14
  else none
def X1_learnedFrom (h : HA) (t : Nat) (l1 : Int32) (l2 : Int32) : Option Int32 :=
  if (kd h t).1 = 2 then
    (gR h t 2 0).bind fun x1 =>
    (X0_of h x1 l1 3).bind fun x3 =>
    (gI h t 2 2).bind fun x4 =>
    (X1_wordsOn h t l1 x3 l2 0 0 x4).bind fun x6 =>
    some x6
  else none
def X1_ownSides (h : HA) (t : Nat) (l1 : Int32) : Option Int32 :=
  if (kd h t).1 = 2 then
    (gR h t 2 0).bind fun x1 =>
    (X0_of h x1 l1 2).bind fun x3 =>
    (X0_sidesOf x3).bind fun x5 =>
    some x5
  else none
def X1_learned (h : HA) (t : Nat) (l1 : Int32) (l2 : Int32) : Option Int32 :=
  if (kd h t).1 = 2 then
    (gR h t 2 0).bind fun x1 =>
    (X0_of h x1 l1 3).bind fun x3 =>
    (X1_ownSides h t l1).bind fun x5 =>
    (X1_wordsOn h t l1 x3 x5 0 0 l2).bind fun x7 =>
    some x7
  else none
def X1_learnedByOtherEar (h : HA) (t : Nat) (l1 : Int32) : Option Int32 :=
  if (kd h t).1 = 2 then
    (gR h t 2 0).bind fun x1 =>
    (X0_of h x1 l1 2).bind fun x3 =>
    lett (α := Int32) (if x3 = 0 then 1 else 0) fun j4 =>
    (X0_sidesOf j4).bind fun x8 =>
    (X1_learnedFrom h t l1 x8).bind fun x10 =>
    some x10
  else none
def X1_learnAll_L2 (t : Nat) : Nat → HA → Int32 → Option HA
  | 0, _, _ => none
  | n + 1, h, l1 =>
    (gR h t 2 0).bind fun x1 =>
    (gI h x1 1 6).bind fun x2 =>
    if l1 < x2 then
      (gR h t 2 5).bind fun x3 =>
      (gI h t 2 2).bind fun x4 =>
      (X1_learned h t l1 x4).bind fun x6 =>
      (asI h x3 20 l1 x6).bind fun h7 =>
      X1_learnAll_L2 t n h7 (l1 + 1)
    else
      some h
def X1_learnAll (h : HA) (t : Nat) : Option HA :=
  if (kd h t).1 = 2 then
    (X1_learnAll_L2 t FU h 0).bind fun h9 =>
    some h9
  else none
def J6_bitCount_0f7a4 (l0 : Int32) : Option Int32 :=
  lett (α := Int32) (((l0 - ((ushI l0 1) &&& 1431655765)) &&& 858993459) + ((ushI (l0 - ((ushI l0 1) &&& 1431655765)) 2) &&& 858993459)) fun y1 =>
  lett (α := Int32) ((((y1 + (ushI y1 4)) &&& 252645135) + (ushI ((y1 + (ushI y1 4)) &&& 252645135) 8)) + (ushI (((y1 + (ushI y1 4)) &&& 252645135) + (ushI ((y1 + (ushI y1 4)) &&& 252645135) 8)) 16)) fun y2 =>
  some (y2 &&& 63)
def X1_allLearned_L4 (h : HA) (t : Nat) (l1 : Int32) : Nat → Int32 → Int32 → Option Int32
  | 0, _, _ => none
  | n + 1, l2, l3 =>
    (gR h t 2 0).bind fun x1 =>
    (gI h x1 1 6).bind fun x2 =>
    if l3 < x2 then
      (gR h t 2 0).bind fun x3 =>
      (X0_of h x3 l3 3).bind fun x5 =>
      (X1_ownSides h t l3).bind fun x7 =>
      (gI h t 2 2).bind fun x8 =>
      (X1_wordsOn h t l3 x5 x7 0 l1 x8).bind fun x10 =>
      (J6_bitCount_0f7a4 x10).bind fun x12 =>
      X1_allLearned_L4 h t l1 n (l2 + x12) (l3 + 1)
    else
      some l2
def X1_allLearned (h : HA) (t : Nat) (l1 : Int32) : Option Int32 :=
  if (kd h t).1 = 2 then
    (X1_allLearned_L4 h t l1 FU 0 0).bind fun y14 =>
    some y14
  else none
def X1_knownFacing (h : HA) (t : Nat) (l1 : Int32) (l2 : Int32) : Option Int32 :=
  if (kd h t).1 = 2 then
    (gR h t 2 0).bind fun x1 =>
    (X0_of h x1 l1 1).bind fun x3 =>
    (gR h t 2 0).bind fun x4 =>
    (X0_of h x4 l1 3).bind fun x6 =>
    (X1_ownSides h t l1).bind fun x8 =>
    (gI h t 2 2).bind fun x9 =>
    (X1_wordsOn h t l1 x6 x8 (l2 - x3) 0 x9).bind fun x11 =>
    (J6_bitCount_0f7a4 x11).bind fun x13 =>
    some x13
  else none
def X1_knownOnSeat (h : HA) (t : Nat) (l1 : Int32) (l2 : Int32) : Option Int32 :=
  if (kd h t).1 = 2 then
    (gR h t 2 0).bind fun x1 =>
    (X0_of h x1 l1 3).bind fun x3 =>
    (X1_ownSides h t l1).bind fun x5 =>
    (gI h t 2 2).bind fun x6 =>
    (X1_wordsOn h t l2 x3 x5 0 0 x6).bind fun x8 =>
    (J6_bitCount_0f7a4 x8).bind fun x10 =>
    some x10
  else none
def X1_common_L20 (h : HA) (t : Nat) (l1 : Int32) : Nat → Int32 → Int32 → Option Int32
  | 0, _, _ => none
  | n + 1, l2, l3 =>
    (gR h t 2 0).bind fun x6 =>
    (gI h x6 1 6).bind fun x7 =>
    if l3 < x7 then
      (X1_learned h t l3 l1).bind fun x9 =>
      X1_common_L20 h t l1 n (l2 &&& x9) (l3 + 1)
    else
      some l2
def X1_common (h : HA) (t : Nat) (l1 : Int32) : Option Int32 :=
  if (kd h t).1 = 2 then
    (gR h t 2 0).bind fun x1 =>
    (gI h x1 1 6).bind fun x2 =>
    lett (α := Int32) (if x2 = 0 then 0 else 1023) fun j3 =>
    (X1_common_L20 h t l1 FU j3 0).bind fun y11 =>
    some y11
  else none
def X1_lost_L4 (h : HA) (t : Nat) (l1 : Int32) : Nat → Int32 → Int32 → Option Int32
  | 0, _, _ => none
  | n + 1, l2, l3 =>
    if l3 < l1 then
      (X1_isSaid h t l3).bind fun x2 =>
      if x2 = 0 then
        X1_lost_L4 h t l1 n (l2 ||| 0) (l3 + 1)
      else
        (gR h t 2 1).bind fun x3 =>
        (X2_at h x3 l3 2).bind fun x5 =>
        X1_lost_L4 h t l1 n (l2 ||| (shlI 1 x5)) (l3 + 1)
    else
      some l2
def X1_lost_L43 (h : HA) (t : Nat) (l1 : Int32) : Nat → Int32 → Int32 → Option Int32
  | 0, _, _ => none
  | n + 1, l2, l3 =>
    (gR h t 2 0).bind fun x8 =>
    (gI h x8 1 6).bind fun x9 =>
    if l3 < x9 then
      (X1_learned h t l3 l1).bind fun x11 =>
      X1_lost_L43 h t l1 n (l2 &&& (x11 ^^^ (-1))) (l3 + 1)
    else
      some l2
def X1_lost (h : HA) (t : Nat) (l1 : Int32) : Option Int32 :=
  if (kd h t).1 = 2 then
    (X1_lost_L4 h t l1 FU 0 0).bind fun y7 =>
    (X1_lost_L43 h t l1 FU y7 0).bind fun y13 =>
    some y13
  else none
def X1_hearers_L4 (h : HA) (t : Nat) (l1 : Int32) : Nat → Int32 → Int32 → Option Int32
  | 0, _, _ => none
  | n + 1, l2, l3 =>
    (gR h t 2 0).bind fun x1 =>
    (gI h x1 1 6).bind fun x2 =>
    if l3 < x2 then
      (X1_ownSides h t l3).bind fun x4 =>
      (gR h t 2 0).bind fun x5 =>
      (X0_faces h x5 l3 l1).bind fun x7 =>
      (X0_turned x4 x7).bind fun x9 =>
      (gR h t 2 0).bind fun x10 =>
      (X0_of h x10 l3 3).bind fun x12 =>
      (X1_isHeard h t l1 l3 x12 x9).bind fun x14 =>
      if x14 = 0 then
        X1_hearers_L4 h t l1 n l2 (l3 + 1)
      else
        X1_hearers_L4 h t l1 n (l2 ||| (shlI 1 l3)) (l3 + 1)
    else
      some l2
def X1_hearers (h : HA) (t : Nat) (l1 : Int32) : Option Int32 :=
  if (kd h t).1 = 2 then
    (X1_hearers_L4 h t l1 FU 0 0).bind fun y16 =>
    some y16
  else none
def X1_hearersOf_L4 (h : HA) (t : Nat) (l1 : Int32) : Nat → Int32 → Int32 → Option Int32
  | 0, _, _ => none
  | n + 1, l2, l3 =>
    (gI h t 2 2).bind fun x1 =>
    if l3 < x1 then
      (X1_isSaid h t l3).bind fun x3 =>
      if x3 = 0 then
        X1_hearersOf_L4 h t l1 n l2 (l3 + 1)
      else
        (gR h t 2 1).bind fun x4 =>
        (X2_at h x4 l3 1).bind fun x6 =>
        if x6 = l1 then
          (X1_hearers h t l3).bind fun x8 =>
          (J6_bitCount_0f7a4 x8).bind fun x10 =>
          X1_hearersOf_L4 h t l1 n (l2 + x10) (l3 + 1)
        else
          X1_hearersOf_L4 h t l1 n l2 (l3 + 1)
    else
      some l2
def X1_hearersOf (h : HA) (t : Nat) (l1 : Int32) : Option Int32 :=
  if (kd h t).1 = 2 then
    (X1_hearersOf_L4 h t l1 FU 0 0).bind fun y12 =>
    some y12
  else none
def X1_lossOfSold (h : HA) (t : Nat) (l1 : Int32) : Option Int32 :=
  if (kd h t).1 = 2 then
    (gR h t 2 5).bind fun x1 =>
    (ldI h x1 20 l1).bind fun x2 =>
    (J6_bitCount_0f7a4 x2).bind fun x4 =>
    (X1_learnedFrom h t l1 1).bind fun x6 =>
    (J6_bitCount_0f7a4 x6).bind fun x8 =>
    some (x4 - x8)
  else none
def X1_gainOfThird (h : HA) (t : Nat) (l1 : Int32) : Option Int32 :=
  if (kd h t).1 = 2 then
    (X1_learnedFrom h t l1 11).bind fun x2 =>
    (J6_bitCount_0f7a4 x2).bind fun x4 =>
    (gR h t 2 5).bind fun x5 =>
    (ldI h x5 20 l1).bind fun x6 =>
    (J6_bitCount_0f7a4 x6).bind fun x8 =>
    some (x4 - x8)
  else none
def X1_dearest_L6 (h : HA) (t : Nat) : Nat → Int32 → Int32 → Int32 → Option Int32
  | 0, _, _, _ => none
  | n + 1, l1, l2, l3 =>
    (gR h t 2 0).bind fun x1 =>
    (gI h x1 1 6).bind fun x2 =>
    if l3 < x2 then
      (X1_lossOfSold h t l3).bind fun x4 =>
      if l2 < x4 then
        X1_dearest_L6 h t n l3 x4 (l3 + 1)
      else
        X1_dearest_L6 h t n l1 l2 (l3 + 1)
    else
      some l1
def X1_dearest (h : HA) (t : Nat) : Option Int32 :=
  if (kd h t).1 = 2 then
    (X1_dearest_L6 h t FU (-1) (-1) 0).bind fun y6 =>
    some y6
  else none
def X1_wordsSeen_L4 (h : HA) (t : Nat) (l1 : Int32) : Nat → Int32 → Int32 → Option Int32
  | 0, _, _ => none
  | n + 1, l2, l3 =>
    (gI h t 2 2).bind fun x1 =>
    if l3 < x1 then
      (X1_isSaid h t l3).bind fun x3 =>
      if x3 = 0 then
        X1_wordsSeen_L4 h t l1 n l2 (l3 + 1)
      else
        (gR h t 2 0).bind fun x4 =>
        (gR h t 2 0).bind fun x5 =>
        (X0_of h x5 l1 0).bind fun x7 =>
        (gR h t 2 0).bind fun x8 =>
        (X0_faces h x8 l1 l3).bind fun x10 =>
        (X0_ray h x4 x7 x10).bind fun x12 =>
        (gR h t 2 6).bind fun x13 =>
        (ldJ h x13 l3).bind fun x14 =>
        if (x12 &&& x14) = 0 then
          X1_wordsSeen_L4 h t l1 n (l2 ||| 0) (l3 + 1)
        else
          (gR h t 2 1).bind fun x15 =>
          (X2_at h x15 l3 2).bind fun x17 =>
          X1_wordsSeen_L4 h t l1 n (l2 ||| (shlI 1 x17)) (l3 + 1)
    else
      some l2
def X1_wordsSeen (h : HA) (t : Nat) (l1 : Int32) : Option Int32 :=
  if (kd h t).1 = 2 then
    (X1_wordsSeen_L4 h t l1 FU 0 0).bind fun y19 =>
    some y19
  else none
def X1_drawBelow (h : HA) (t : Nat) (l1 : Int32) : Option (Int32 × HA) :=
  if (kd h t).1 = 2 then
    (gI h t 2 8).bind fun x1 =>
    (pI h t 2 8 ((x1 * 1103515245) + 12345)).bind fun h2 =>
    if 0 < l1 then
      (gI h2 t 2 8).bind fun x3 =>
      (rm (ushI x3 16) l1).bind fun x4 =>
      some (x4, h2)
    else
      some (0, h2)
  else none
def X1_thunder_L10 (t : Nat) (l2 : Int32) : Nat → HA → Int32 → Int32 → Option (Int32 × HA)
  | 0, _, _, _ => none
  | n + 1, h, l3, l4 =>
    (gI h t 2 2).bind fun x2 =>
    if l4 < x2 then
      (X1_drawBelow h t 100).bind fun (x5, h4) =>
      if x5 < l2 then
        (gR h4 t 2 7).bind fun x6 =>
        (X1_drawBelow h4 t 4).bind fun (x9, h8) =>
        (asI h8 x6 20 l4 (shlI 1 x9)).bind fun h10 =>
        X1_thunder_L10 t l2 n h10 (l3 + 1) (l4 + 1)
      else
        X1_thunder_L10 t l2 n h4 l3 (l4 + 1)
    else
      some (l3, h)
def X1_thunder (h : HA) (t : Nat) (l1 : Int32) (l2 : Int32) : Option (Int32 × HA) :=
  if (kd h t).1 = 2 then
    (pI h t 2 8 l1).bind fun h1 =>
    (X1_thunder_L10 t l2 FU h1 0 0).bind fun (y12, h13) =>
    some (y12, h13)
  else none
def X2_init (h : HA) (t : Nat) (l1 : Int32) (l2 : Int32) : Option HA :=
  if (kd h t).1 = 3 then
    (pI h t 3 0 l2).bind fun h1 =>
    (nA h1 20 (l1 * l2) 120).bind fun h2 =>
    (pR h2 t 3 1 (some (hz h1))).bind fun h3 =>
    some h3
  else none
def X2_ofSort (h : HA) (l0 : Int32) : Option (Nat × HA) :=
  if l0 = 1 then
    lett (α := HA) (nw h 3 0) fun h1 =>
    (X2_init h1 (hz h) 30 4).bind fun h3 =>
    some ((hz h), h3)
  else
  if l0 = 2 then
    lett (α := HA) (nw h 3 0) fun h4 =>
    (X2_init h4 (hz h) 8 3).bind fun h6 =>
    some ((hz h), h6)
  else
    lett (α := HA) (nw h 3 0) fun h7 =>
    (X2_init h7 (hz h) 12 2).bind fun h9 =>
    some ((hz h), h9)
def X2_isFull (h : HA) (t : Nat) : Option Int32 :=
  if (kd h t).1 = 3 then
    (gI h t 3 2).bind fun x1 =>
    (gI h t 3 0).bind fun x2 =>
    (gR h t 3 1).bind fun x3 =>
    (aL h x3).bind fun x4 =>
    if x4 < ((x1 + 1) * x2) then
      some 1
    else
      some 0
  else none
def X2_put (h : HA) (t : Nat) (l1 : Int32) (l2 : Int32) : Option HA :=
  if (kd h t).1 = 3 then
    (gR h t 3 1).bind fun x1 =>
    (gI h t 3 2).bind fun x2 =>
    (gI h t 3 0).bind fun x3 =>
    (asI h x1 20 ((x2 * x3) + l1) l2).bind fun h4 =>
    some h4
  else none
def X2_copyFrom (h : HA) (t : Nat) (l1 : Nat) : Option HA :=
  if (kd h t).1 = 3 then
    (gI h l1 3 2).bind fun x1 =>
    (pI h t 3 2 x1).bind fun h2 =>
    (gR h2 l1 3 1).bind fun x3 =>
    (gR h2 t 3 1).bind fun x4 =>
    (gI h2 t 3 2).bind fun x5 =>
    (gI h2 t 3 0).bind fun x6 =>
    (cpI h2 20 x3 0 x4 0 (x5 * x6)).bind fun h7 =>
    some h7
  else none
def X3_init_L32 (t : Nat) : Nat → HA → Int32 → Option HA
  | 0, _, _ => none
  | n + 1, h, l1 =>
    if l1 < 4 then
      (gR h t 4 1).bind fun x9 =>
      (X2_ofSort h l1).bind fun (x12, h11) =>
      (asR h11 x9 26 l1 x12).bind fun h13 =>
      X3_init_L32 t n h13 (l1 + 1)
    else
      some h
def X3_init (h : HA) (t : Nat) : Option HA :=
  if (kd h t).1 = 4 then
    lett (α := HA) (nw h 1 0) fun h1 =>
    (X0_init h1 (hz h)).bind fun h3 =>
    (pR h3 t 4 0 (some (hz h))).bind fun h4 =>
    (nA h4 26 4 4).bind fun h5 =>
    (pR h5 t 4 1 (some (hz h4))).bind fun h6 =>
    (nA h6 20 4 4).bind fun h7 =>
    (pR h7 t 4 10 (some (hz h6))).bind fun h8 =>
    (X3_init_L32 t 4 h8 1).bind fun h15 =>
    some h15
  else none
def X3_clearDraft (h : HA) (t : Nat) (l1 : Int32) : Option HA :=
  if (kd h t).1 = 4 then
    if l1 = 0 then
      (gR h t 4 0).bind fun x1 =>
      (X0_reset h x1).bind fun h3 =>
      some h3
    else
      (gR h t 4 1).bind fun x4 =>
      (ldR h x4 26 l1).bind fun x5 =>
      (pI h x5 3 2 0).bind fun h6 =>
      some h6
  else none
def X3_isLetter (l0 : Int32) : Option Int32 :=
  if l0 < 97 then
    some 0
  else
  if 122 < l0 then
    some 0
  else
    some 1
def X3_passWord_L5 (t : Nat) : Nat → HA → Option HA
  | 0, _ => none
  | n + 1, h =>
    (gI h t 4 6).bind fun x2 =>
    (gI h t 4 5).bind fun x3 =>
    if x2 < x3 then
      (gR h t 4 4).bind fun x4 =>
      (gI h t 4 6).bind fun x5 =>
      (ldI h x4 22 x5).bind fun x6 =>
      (X3_isLetter x6).bind fun x8 =>
      if x8 = 0 then
        some h
      else
        (gI h t 4 6).bind fun x9 =>
        (pI h t 4 6 (x9 + 1)).bind fun h10 =>
        X3_passWord_L5 t n h10
    else
      some h
def X3_passWord (h : HA) (t : Nat) : Option HA :=
  if (kd h t).1 = 4 then
    (pI h t 4 7 1).bind fun h1 =>
    (X3_passWord_L5 t FU h1).bind fun h12 =>
    some h12
  else none
def X3_isDigit (l0 : Int32) : Option Int32 :=
  if l0 < 48 then
    some 0
  else
  if 57 < l0 then
    some 0
  else
    some 1
def X3_passDigits_L5 (t : Nat) : Nat → HA → Option HA
  | 0, _ => none
  | n + 1, h =>
    (gI h t 4 6).bind fun x2 =>
    (gI h t 4 5).bind fun x3 =>
    if x2 < x3 then
      (gR h t 4 4).bind fun x4 =>
      (gI h t 4 6).bind fun x5 =>
      (ldI h x4 22 x5).bind fun x6 =>
      (X3_isDigit x6).bind fun x8 =>
      if x8 = 0 then
        some h
      else
        (gI h t 4 9).bind fun x9 =>
        (gR h t 4 4).bind fun x10 =>
        (gI h t 4 6).bind fun x11 =>
        (ldI h x10 22 x11).bind fun x12 =>
        (pI h t 4 9 (((x9 * 10) + x12) - 48)).bind fun h13 =>
        (gI h13 t 4 6).bind fun x14 =>
        (pI h13 t 4 6 (x14 + 1)).bind fun h15 =>
        X3_passDigits_L5 t n h15
    else
      some h
def X3_passDigits (h : HA) (t : Nat) : Option HA :=
  if (kd h t).1 = 4 then
    (pI h t 4 9 0).bind fun h1 =>
    (X3_passDigits_L5 t FU h1).bind fun h17 =>
    (gI h17 t 4 6).bind fun x18 =>
    (gI h17 t 4 8).bind fun x19 =>
    if 2 < (x18 - x19) then
      (pI h17 t 4 7 5).bind fun h20 =>
      some h20
    else
      (pI h17 t 4 7 2).bind fun h21 =>
      some h21
  else none
def X3_advance_L0 (t : Nat) : Nat → HA → Option HA
  | 0, _ => none
  | n + 1, h =>
    (gI h t 4 6).bind fun x1 =>
    (gI h t 4 5).bind fun x2 =>
    if x1 < x2 then
      (gR h t 4 4).bind fun x3 =>
      (gI h t 4 6).bind fun x4 =>
      (ldI h x3 22 x4).bind fun x5 =>
      if x5 = 10 then
        (gI h t 4 6).bind fun x6 =>
        (pI h t 4 6 (x6 + 1)).bind fun h7 =>
        X3_advance_L0 t n h7
      else
        (gR h t 4 4).bind fun x8 =>
        (gI h t 4 6).bind fun x9 =>
        (ldI h x8 22 x9).bind fun x10 =>
        if x10 = 32 then
          (gI h t 4 6).bind fun x11 =>
          (pI h t 4 6 (x11 + 1)).bind fun h12 =>
          X3_advance_L0 t n h12
        else
          some h
    else
      some h
def X3_advance (h : HA) (t : Nat) : Option HA :=
  if (kd h t).1 = 4 then
    (X3_advance_L0 t FU h).bind fun h14 =>
    (gI h14 t 4 6).bind fun x15 =>
    (pI h14 t 4 8 x15).bind fun h16 =>
    (gI h16 t 4 6).bind fun x17 =>
    (gI h16 t 4 5).bind fun x18 =>
    if x17 < x18 then
      (gR h16 t 4 4).bind fun x19 =>
      (gI h16 t 4 6).bind fun x20 =>
      (ldI h16 x19 22 x20).bind fun x21 =>
      (X3_isLetter x21).bind fun x23 =>
      if x23 = 0 then
        (gR h16 t 4 4).bind fun x24 =>
        (gI h16 t 4 6).bind fun x25 =>
        (ldI h16 x24 22 x25).bind fun x26 =>
        (X3_isDigit x26).bind fun x28 =>
        if x28 = 0 then
          (gR h16 t 4 4).bind fun x29 =>
          (gI h16 t 4 6).bind fun x30 =>
          (ldI h16 x29 22 x30).bind fun x31 =>
          if x31 = 59 then
            (pI h16 t 4 7 4).bind fun h32 =>
            (gI h32 t 4 6).bind fun x33 =>
            (pI h32 t 4 6 (x33 + 1)).bind fun h34 =>
            some h34
          else
          if x31 = 45 then
            (pI h16 t 4 7 3).bind fun h35 =>
            (gI h35 t 4 6).bind fun x36 =>
            (pI h35 t 4 6 (x36 + 1)).bind fun h37 =>
            some h37
          else
            (pI h16 t 4 7 5).bind fun h38 =>
            (gI h38 t 4 6).bind fun x39 =>
            (pI h38 t 4 6 (x39 + 1)).bind fun h40 =>
            some h40
        else
          (X3_passDigits h16 t).bind fun h42 =>
          some h42
      else
        (X3_passWord h16 t).bind fun h44 =>
        some h44
    else
      (pI h16 t 4 7 0).bind fun h45 =>
      some h45
  else none
def X3_wordOf (l0 : Int32) : Option Nat :=
  if l0 = 0 then
    some 0
  else
  if l0 = 1 then
    some 1
  else
  if l0 = 2 then
    some 2
  else
  if l0 = 3 then
    some 3
  else
  if l0 = 4 then
    some 4
  else
  if l0 = 5 then
    some 5
  else
  if l0 = 6 then
    some 6
  else
  if l0 = 7 then
    some 7
  else
  if l0 = 8 then
    some 8
  else
  if l0 = 9 then
    some 9
  else
  if l0 = 10 then
    some 10
  else
    some 11
def X3_isHere_L20 (h : HA) (t : Nat) (l1 : Nat) : Nat → Int32 → Option Int32
  | 0, _ => none
  | n + 1, l2 =>
    (txl l1).bind fun x4 =>
    if l2 < x4 then
      (gR h t 4 4).bind fun x5 =>
      (gI h t 4 8).bind fun x6 =>
      (ldI h x5 22 (x6 + l2)).bind fun x7 =>
      (txc l1 l2).bind fun x8 =>
      if x7 = x8 then
        X3_isHere_L20 h t l1 n (l2 + 1)
      else
        some 0
    else
      some 1
def X3_isHere (h : HA) (t : Nat) (l1 : Nat) : Option Int32 :=
  if (kd h t).1 = 4 then
    (gI h t 4 6).bind fun x1 =>
    (gI h t 4 8).bind fun x2 =>
    (txl l1).bind fun x3 =>
    if (x1 - x2) = x3 then
      X3_isHere_L20 h t l1 FU 0
    else
      some 0
  else none
def X3_formHere_L10 (h : HA) (t : Nat) (l1 : Int32) : Nat → Int32 → Option Int32
  | 0, _ => none
  | n + 1, l2 =>
    if l2 < 12 then
      (sld 0 l2).bind fun x2 =>
      if x2 = l1 then
        (X3_wordOf l2).bind fun x4 =>
        (X3_isHere h t x4).bind fun x6 =>
        if x6 = 0 then
          X3_formHere_L10 h t l1 n (l2 + 1)
        else
          some l2
      else
        X3_formHere_L10 h t l1 n (l2 + 1)
    else
      some (-1)
def X3_formHere (h : HA) (t : Nat) (l1 : Int32) : Option Int32 :=
  if (kd h t).1 = 4 then
    (gI h t 4 7).bind fun x1 =>
    if x1 = 1 then
      X3_formHere_L10 h t l1 FU 0
    else
      some (-1)
  else none
def X3_isOneTooMany (h : HA) (t : Nat) (l1 : Int32) : Option Int32 :=
  if (kd h t).1 = 4 then
    if l1 = 0 then
      some 0
    else
    if l1 = 1 then
      some 0
    else
    if l1 = 2 then
      (gR h t 4 0).bind fun x1 =>
      (gI h x1 1 6).bind fun x2 =>
      if x2 < 6 then
        some 0
      else
        some 1
    else
    if l1 = 3 then
      (gR h t 4 0).bind fun x3 =>
      (gI h x3 1 6).bind fun x4 =>
      if x4 < 6 then
        some 0
      else
        some 1
    else
    if l1 = 4 then
      (gR h t 4 0).bind fun x5 =>
      (gI h x5 1 8).bind fun x6 =>
      if x6 < 4 then
        some 0
      else
        some 1
    else
    if l1 = 5 then
      some 0
    else
      (gR h t 4 1).bind fun x7 =>
      (sld 0 l1).bind fun x8 =>
      (ldR h x7 26 x8).bind fun x9 =>
      (X2_isFull h x9).bind fun x11 =>
      (bz x11).bind fun x12 =>
      some x12
  else none
def X3_note (h : HA) (t : Nat) (l1 : Int32) (l2 : Int32) : Option HA :=
  if (kd h t).1 = 4 then
    (gI h t 4 2).bind fun x1 =>
    if x1 = 0 then
      (pI h t 4 2 l1).bind fun h2 =>
      (pI h2 t 4 3 l2).bind fun h3 =>
      some h3
    else
      some h
  else none
def X3_readNumber (h : HA) (t : Nat) (l1 : Int32) (l2 : Int32) : Option (Int32 × HA) :=
  if (kd h t).1 = 4 then
    (gI h t 4 7).bind fun x1 =>
    (show Option ((Int32 × HA) ⊕ HA) from
      if x1 = 3 then
        (sld 0 l1).bind fun x5 =>
        if x5 = 2 then
          (X3_advance h t).bind fun h7 =>
          some (.inl (1, h7))
        else
          some (.inr h)
      else
        some (.inr h)).bind fun s9 =>
    match s9 with
    | .inl r42 =>
      some r42
    | .inr h2 =>
      (gI h2 t 4 7).bind fun x8 =>
      if x8 = 2 then
        (sld 3 ((l1 * 4) + l2)).bind fun x9 =>
        (gI h2 t 4 9).bind fun x10 =>
        (show Option HA from
          if x9 < x10 then
            (gI h2 t 4 8).bind fun x14 =>
            (X3_note h2 t 2 x14).bind fun h16 =>
            some h16
          else
          if l1 = 0 then
            (gI h2 t 4 9).bind fun x17 =>
            if x17 < 2 then
              (gI h2 t 4 8).bind fun x18 =>
              (X3_note h2 t 2 x18).bind fun h20 =>
              some h20
            else
            if x9 = 63 then
              (gJ h2 t 4 11).bind fun x21 =>
              (gI h2 t 4 9).bind fun x22 =>
              (pJ h2 t 4 11 (x21 ||| (shlJ 1 x22))).bind fun h23 =>
              (gR h23 t 4 0).bind fun x24 =>
              (gJ h23 x24 1 2).bind fun x25 =>
              if l1 = 1 then
                (gI h23 t 4 9).bind fun x26 =>
                (pJ h23 x24 1 2 (x25 ||| (shlJ 1 x26))).bind fun h27 =>
                some h27
              else
                (pJ h23 x24 1 2 (x25 ||| 0)).bind fun h28 =>
                some h28
            else
              some h2
          else
          if x9 = 63 then
            (gJ h2 t 4 11).bind fun x29 =>
            (gI h2 t 4 9).bind fun x30 =>
            (pJ h2 t 4 11 (x29 ||| (shlJ 1 x30))).bind fun h31 =>
            (gR h31 t 4 0).bind fun x32 =>
            (gJ h31 x32 1 2).bind fun x33 =>
            if l1 = 1 then
              (gI h31 t 4 9).bind fun x34 =>
              (pJ h31 x32 1 2 (x33 ||| (shlJ 1 x34))).bind fun h35 =>
              some h35
            else
              (pJ h31 x32 1 2 (x33 ||| 0)).bind fun h36 =>
              some h36
          else
            some h2).bind fun h11 =>
        (gR h11 t 4 10).bind fun x37 =>
        (gI h11 t 4 9).bind fun x38 =>
        (asI h11 x37 20 l2 x38).bind fun h39 =>
        (X3_advance h39 t).bind fun h41 =>
        some (1, h41)
      else
        some (0, h2)
  else none
def X3_keepJudge (h : HA) (t : Nat) (l1 : Int32) : Option HA :=
  if (kd h t).1 = 4 then
    (gR h t 4 0).bind fun x1 =>
    (gI h x1 1 6).bind fun x2 =>
    (gR h t 4 0).bind fun x3 =>
    (gR h x3 1 7).bind fun x4 =>
    (gR h t 4 10).bind fun x5 =>
    (ldI h x5 20 0).bind fun x6 =>
    (asI h x4 20 ((x2 * 5) + 0) x6).bind fun h7 =>
    (gR h7 t 4 0).bind fun x8 =>
    (gR h7 x8 1 7).bind fun x9 =>
    (gR h7 t 4 10).bind fun x10 =>
    (ldI h7 x10 20 1).bind fun x11 =>
    (asI h7 x9 20 ((x2 * 5) + 1) x11).bind fun h12 =>
    (gR h12 t 4 0).bind fun x13 =>
    (gR h12 x13 1 7).bind fun x14 =>
    lett (α := Int32) (if l1 = 2 then 0 else 1) fun j15 =>
    (asI h12 x14 20 ((x2 * 5) + 2) j15).bind fun h18 =>
    (gR h18 t 4 0).bind fun x19 =>
    (gR h18 x19 1 7).bind fun x20 =>
    (gR h18 t 4 10).bind fun x21 =>
    (ldI h18 x21 20 2).bind fun x22 =>
    (asI h18 x20 20 ((x2 * 5) + 3) x22).bind fun h23 =>
    (gR h23 t 4 0).bind fun x24 =>
    (gR h23 x24 1 7).bind fun x25 =>
    (gR h23 t 4 10).bind fun x26 =>
    (ldI h23 x26 20 3).bind fun x27 =>
    (asI h23 x25 20 ((x2 * 5) + 4) x27).bind fun h28 =>
    (gR h28 t 4 0).bind fun x29 =>
    (gI h28 x29 1 6).bind fun x30 =>
    (pI h28 x29 1 6 (x30 + 1)).bind fun h31 =>
    some h31
  else none
def X3_keepTwin (h : HA) (t : Nat) : Option HA :=
  if (kd h t).1 = 4 then
    (gR h t 4 10).bind fun x1 =>
    (ldI h x1 20 0).bind fun x2 =>
    if x2 < 0 then
      some h
    else
    if x2 < 4 then
      (gI h t 4 12).bind fun x3 =>
      (pI h t 4 12 (x3 ||| (shlI 1 x2))).bind fun h4 =>
      (gR h4 t 4 0).bind fun x5 =>
      (gR h4 x5 1 10).bind fun x6 =>
      (gR h4 t 4 10).bind fun x7 =>
      (ldI h4 x7 20 1).bind fun x8 =>
      (asI h4 x6 20 x2 x8).bind fun h9 =>
      some h9
    else
      some h
  else none
def X3_keepRow_L34 (t : Nat) (l2 : Nat) (l3 : Int32) : Nat → HA → Int32 → Option HA
  | 0, _, _ => none
  | n + 1, h, l4 =>
    (gI h l2 3 0).bind fun x11 =>
    if (l3 + l4) < x11 then
      if l4 < 4 then
        (gR h t 4 10).bind fun x12 =>
        (ldI h x12 20 l4).bind fun x13 =>
        (X2_put h l2 (l3 + l4) x13).bind fun h15 =>
        X3_keepRow_L34 t l2 l3 n h15 (l4 + 1)
      else
        some h
    else
      some h
def X3_keepRow (h : HA) (t : Nat) (l1 : Int32) : Option HA :=
  if (kd h t).1 = 4 then
    (gR h t 4 1).bind fun x1 =>
    (sld 0 l1).bind fun x2 =>
    (ldR h x1 26 x2).bind fun x3 =>
    (show Option (Int32 × HA) from
      if l1 = 11 then
        some (0, h)
      else
        (sld 2 l1).bind fun x8 =>
        (X2_put h x3 0 x8).bind fun h10 =>
        some (1, h10)).bind fun (j4, h5) =>
    (X3_keepRow_L34 t x3 j4 FU h5 0).bind fun h17 =>
    (gI h17 x3 3 2).bind fun x18 =>
    (pI h17 x3 3 2 (x18 + 1)).bind fun h19 =>
    some h19
  else none
def X3_keepLine (h : HA) (t : Nat) (l1 : Int32) : Option HA :=
  if (kd h t).1 = 4 then
    (X3_isOneTooMany h t l1).bind fun x2 =>
    if x2 = 0 then
      if l1 = 0 then
        (gR h t 4 0).bind fun x3 =>
        (gR h t 4 10).bind fun x4 =>
        (ldI h x4 20 0).bind fun x5 =>
        (pI h x3 1 0 x5).bind fun h6 =>
        (gR h6 t 4 0).bind fun x7 =>
        (gR h6 t 4 10).bind fun x8 =>
        (ldI h6 x8 20 1).bind fun x9 =>
        (pI h6 x7 1 1 x9).bind fun h10 =>
        some h10
      else
      if l1 = 1 then
        some h
      else
      if l1 = 2 then
        (X3_keepJudge h t l1).bind fun h12 =>
        some h12
      else
      if l1 = 3 then
        (X3_keepJudge h t l1).bind fun h14 =>
        some h14
      else
      if l1 = 4 then
        (gR h t 4 0).bind fun x15 =>
        (gR h x15 1 9).bind fun x16 =>
        (gR h t 4 0).bind fun x17 =>
        (gI h x17 1 8).bind fun x18 =>
        (gR h t 4 10).bind fun x19 =>
        (ldI h x19 20 0).bind fun x20 =>
        (asI h x16 20 x18 x20).bind fun h21 =>
        (gR h21 t 4 0).bind fun x22 =>
        (gI h21 x22 1 8).bind fun x23 =>
        (pI h21 x22 1 8 (x23 + 1)).bind fun h24 =>
        some h24
      else
      if l1 = 5 then
        (X3_keepTwin h t).bind fun h26 =>
        some h26
      else
        (X3_keepRow h t l1).bind fun h28 =>
        some h28
    else
      some h
  else none
def X3_readLine_L44 (t : Nat) (l2 : Int32) : Nat → HA → Int32 → Option ((Int32 × HA) ⊕ HA)
  | 0, _, _ => none
  | n + 1, h, l3 =>
    (sld 1 l2).bind fun x16 =>
    if l3 < x16 then
      (X3_readNumber h t l2 l3).bind fun (x19, h18) =>
      if x19 = 0 then
        some (.inl (0, h18))
      else
        X3_readLine_L44 t l2 n h18 (l3 + 1)
    else
      some (.inr h)
def X3_readLine_L72 (t : Nat) (l2 : Int32) : Nat → HA → Int32 → Option HA
  | 0, _, _ => none
  | n + 1, h, l3 =>
    (gI h t 4 5).bind fun x22 =>
    if l3 < x22 then
      if l2 = 1 then
        (gI h t 4 7).bind fun x23 =>
        if x23 = 2 then
          (X3_readNumber h t l2 0).bind fun (x26, h25) =>
          X3_readLine_L72 t l2 n h25 (l3 + 1)
        else
          some h
      else
        some h
    else
      some h
def X3_readLine (h : HA) (t : Nat) (l1 : Int32) : Option (Int32 × HA) :=
  if (kd h t).1 = 4 then
    (X3_formHere h t l1).bind fun x2 =>
    if x2 = (-1) then
      some (0, h)
    else
      (X3_isOneTooMany h t x2).bind fun x4 =>
      (show Option HA from
        if x4 = 0 then
          some h
        else
          (gI h t 4 8).bind fun x8 =>
          (X3_note h t 3 x8).bind fun h10 =>
          some h10).bind fun h5 =>
      (X3_advance h5 t).bind fun h12 =>
      (gR h12 t 4 10).bind fun x13 =>
      (J7_fill_53178 h12 x13 (-1)).bind fun h15 =>
      (
        X3_readLine_L44 t x2 FU h15 0).bind fun s9 =>
      match s9 with
      | .inl r34 =>
        some r34
      | .inr h21 =>
        (X3_readLine_L72 t x2 FU h21 0).bind fun h28 =>
        (gI h28 t 4 7).bind fun x29 =>
        if x29 = 4 then
          (X3_advance h28 t).bind fun h31 =>
          (X3_keepLine h31 t x2).bind fun h33 =>
          some (1, h33)
        else
          some (0, h28)
  else none
def X3_isSomebodyInWall_L4 (h : HA) (t : Nat) : Nat → Int64 → Int32 → Option Int64
  | 0, _, _ => none
  | n + 1, l1, l3 =>
    (gR h t 4 0).bind fun x1 =>
    (gI h x1 1 6).bind fun x2 =>
    if l3 < x2 then
      (gR h t 4 0).bind fun x3 =>
      (X0_of h x3 l3 0).bind fun x5 =>
      X3_isSomebodyInWall_L4 h t n (l1 ||| (shlJ 1 x5)) (l3 + 1)
    else
      some l1
def X3_isSomebodyInWall_L37 (h : HA) (t : Nat) : Nat → Int64 → Int32 → Option Int64
  | 0, _, _ => none
  | n + 1, l1, l3 =>
    (gR h t 4 0).bind fun x8 =>
    (gI h x8 1 8).bind fun x9 =>
    if l3 < x9 then
      (gR h t 4 0).bind fun x10 =>
      (gR h x10 1 9).bind fun x11 =>
      (ldI h x11 20 l3).bind fun x12 =>
      (gR h t 4 0).bind fun x13 =>
      (gR h x13 1 10).bind fun x14 =>
      (ldI h x14 20 l3).bind fun x15 =>
      if x15 = (-1) then
        X3_isSomebodyInWall_L37 h t n ((l1 ||| (shlJ 1 x12)) ||| 0) (l3 + 1)
      else
        (gR h t 4 0).bind fun x16 =>
        (gR h x16 1 10).bind fun x17 =>
        (ldI h x17 20 l3).bind fun x18 =>
        X3_isSomebodyInWall_L37 h t n ((l1 ||| (shlJ 1 x12)) ||| (shlJ 1 x18)) (l3 + 1)
    else
      some l1
def X3_isSomebodyInWall (h : HA) (t : Nat) : Option Int32 :=
  if (kd h t).1 = 4 then
    (X3_isSomebodyInWall_L4 h t FU 0 0).bind fun y7 =>
    (X3_isSomebodyInWall_L37 h t FU y7 0).bind fun y20 =>
    (gR h t 4 0).bind fun x21 =>
    (gJ h x21 1 2).bind fun x22 =>
    if (y20 &&& x22) = 0 then
      some 0
    else
      some 1
  else none
def X3_finishCourt (h : HA) (t : Nat) : Option HA :=
  if (kd h t).1 = 4 then
    (gJ h t 4 11).bind fun x1 =>
    (gR h t 4 0).bind fun x2 =>
    (X0_all h x2).bind fun x4 =>
    (show Option Int32 from
      if (x1 &&& (x4 ^^^ (-1))) = 0 then
        (gI h t 4 12).bind fun x8 =>
        (gR h t 4 0).bind fun x9 =>
        (gI h x9 1 8).bind fun x10 =>
        if (ushI x8 x10) = 0 then
          some 0
        else
          some 1
      else
        some 1).bind fun j5 =>
    if j5 = 0 then
      (X3_isSomebodyInWall h t).bind fun x12 =>
      if x12 = 0 then
        (gR h t 4 0).bind fun x13 =>
        (X0_measure h x13).bind fun h15 =>
        some h15
      else
        (gI h t 4 5).bind fun x16 =>
        (X3_note h t 4 x16).bind fun h18 =>
        some h18
    else
      (gI h t 4 5).bind fun x19 =>
      (X3_note h t 4 x19).bind fun h21 =>
      some h21
  else none
def X3_read_L47 (t : Nat) (l3 : Int32) : Nat → HA → Int32 → Option (HA ⊕ HA)
  | 0, _, _ => none
  | n + 1, h, l4 =>
    (gI h t 4 5).bind fun x12 =>
    if x12 < l4 then
      some (.inr h)
    else
      (gI h t 4 7).bind fun x13 =>
      if x13 = 0 then
        some (.inr h)
      else
        (X3_readLine h t l3).bind fun (x16, h15) =>
        if x16 = 0 then
          (pI h15 t 4 2 1).bind fun h17 =>
          (gI h17 t 4 8).bind fun x18 =>
          (pI h17 t 4 3 x18).bind fun h19 =>
          some (.inl h19)
        else
          X3_read_L47 t l3 n h15 (l4 + 1)
def X3_read (h : HA) (t : Nat) (l1 : Nat) (l2 : Int32) (l3 : Int32) : Option HA :=
  if (kd h t).1 = 4 then
    (pR h t 4 4 (some l1)).bind fun h1 =>
    (pI h1 t 4 5 l2).bind fun h2 =>
    (pI h2 t 4 6 0).bind fun h3 =>
    (pI h3 t 4 2 0).bind fun h4 =>
    (pI h4 t 4 3 (-1)).bind fun h5 =>
    (pJ h5 t 4 11 0).bind fun h6 =>
    (pI h6 t 4 12 0).bind fun h7 =>
    (X3_clearDraft h7 t l3).bind fun h9 =>
    (X3_advance h9 t).bind fun h11 =>
    (
      X3_read_L47 t l3 FU h11 0).bind fun s9 =>
    match s9 with
    | .inl r25 =>
      some r25
    | .inr h21 =>
      if l3 = 0 then
        (gI h21 t 4 2).bind fun x22 =>
        if x22 = 0 then
          (X3_finishCourt h21 t).bind fun h24 =>
          some h24
        else
          some h21
      else
        some h21
  else none
def X4_init (h : HA) (t : Nat) : Option HA :=
  if (kd h t).1 = 5 then
    (nA h 20 36 36).bind fun h1 =>
    (pR h1 t 5 0 (some (hz h))).bind fun h2 =>
    (nA h2 20 64 64).bind fun h3 =>
    (pR h3 t 5 1 (some (hz h2))).bind fun h4 =>
    some h4
  else none
def X4_worthWith (h : HA) (t : Nat) (l1 : Int32) (l2 : Int32) : Option Int32 :=
  if (kd h t).1 = 5 then
    (J6_bitCount_0f7a4 l1).bind fun x2 =>
    (gR h t 5 0).bind fun x3 =>
    (ldI h x3 20 ((x2 * 6) + l2)).bind fun x4 =>
    (gR h t 5 1).bind fun x5 =>
    (ldI h x5 20 (l1 ||| (shlI 1 l2))).bind fun x6 =>
    some (x4 + x6)
  else none
def X4_settle_L23 (t : Nat) (l1 : Nat) (l2 : Int32) : Nat → HA → Int32 → Option HA
  | 0, _, _ => none
  | n + 1, h, l3 =>
    (gI h t 5 2).bind fun x5 =>
    if l3 < x5 then
      (gR h t 5 0).bind fun x6 =>
      (X1_knownOnSeat h l1 l2 l3).bind fun x8 =>
      (asI h x6 20 ((l2 * 6) + l3) x8).bind fun h9 =>
      X4_settle_L23 t l1 l2 n h9 (l3 + 1)
    else
      some h
def X4_settle_L13 (t : Nat) (l1 : Nat) : Nat → HA → Int32 → Option HA
  | 0, _, _ => none
  | n + 1, h, l2 =>
    (gI h t 5 2).bind fun x4 =>
    if l2 < x4 then
      (X4_settle_L23 t l1 l2 FU h 0).bind fun h11 =>
      X4_settle_L13 t l1 n h11 (l2 + 1)
    else
      some h
def X4_settle_L94 (t : Nat) (l3 : Int32) : Nat → HA → Int32 → Option HA
  | 0, _, _ => none
  | n + 1, h, l4 =>
    (gI h t 5 2).bind fun x19 =>
    if l4 < x19 then
      (X7_has l3.toInt64 l4).bind fun x21 =>
      if x21 = 0 then
        (gR h t 5 1).bind fun x22 =>
        (gR h t 5 1).bind fun x23 =>
        (ldI h x23 20 l3).bind fun x24 =>
        (X4_worthWith h t l3 l4).bind fun x26 =>
        (asI h x22 20 l3 (mxI x24 x26)).bind fun h27 =>
        X4_settle_L94 t l3 n h27 (l4 + 1)
      else
        X4_settle_L94 t l3 n h (l4 + 1)
    else
      some h
def X4_settle_L80 (t : Nat) : Nat → HA → Int32 → Option HA
  | 0, _, _ => none
  | n + 1, h, l3 =>
    if l3 < 0 then
      some h
    else
      (gR h t 5 1).bind fun x17 =>
      (asI h x17 20 l3 (-1)).bind fun h18 =>
      (X4_settle_L94 t l3 FU h18 0).bind fun h29 =>
      X4_settle_L80 t n h29 (l3 + (-1))
def X4_settle (h : HA) (t : Nat) (l1 : Nat) : Option HA :=
  if (kd h t).1 = 5 then
    (gR h l1 2 0).bind fun x1 =>
    (gI h x1 1 6).bind fun x2 =>
    (pI h t 5 2 x2).bind fun h3 =>
    (X4_settle_L13 t l1 FU h3 0).bind fun h13 =>
    (gI h13 t 5 2).bind fun x14 =>
    (gR h13 t 5 1).bind fun x15 =>
    (asI h13 x15 20 ((shlI 1 x14) - 1) 0).bind fun h16 =>
    (X4_settle_L80 t FU h16 (((shlI 1 x14) - 1) - 1)).bind fun h31 =>
    some h31
  else none
def X4_leastSeat_L2 (h : HA) (t : Nat) (l1 : Int32) : Nat → Int32 → Option Int32
  | 0, _ => none
  | n + 1, l2 =>
    (gI h t 5 2).bind fun x1 =>
    if l2 < x1 then
      (X7_has l1.toInt64 l2).bind fun x3 =>
      if x3 = 0 then
        (X4_worthWith h t l1 l2).bind fun x5 =>
        (gR h t 5 1).bind fun x6 =>
        (ldI h x6 20 l1).bind fun x7 =>
        if x5 = x7 then
          some l2
        else
          X4_leastSeat_L2 h t l1 n (l2 + 1)
      else
        X4_leastSeat_L2 h t l1 n (l2 + 1)
    else
      some 0
def X4_leastSeat (h : HA) (t : Nat) (l1 : Int32) : Option Int32 :=
  if (kd h t).1 = 5 then
    X4_leastSeat_L2 h t l1 FU 0
  else none
def X4_seatOf_L7 (h : HA) (t : Nat) (l1 : Int32) : Nat → Int32 → Int32 → Int32 → Option Int32
  | 0, _, _, _ => none
  | n + 1, l2, l3, l4 =>
    if l1 < l4 then
      some l3
    else
      (X4_leastSeat h t l2).bind fun x2 =>
      X4_seatOf_L7 h t l1 n (l2 ||| (shlI 1 x2)) x2 (l4 + 1)
def X4_seatOf (h : HA) (t : Nat) (l1 : Int32) : Option Int32 :=
  if (kd h t).1 = 5 then
    (X4_seatOf_L7 h t l1 FU 0 (-1) 0).bind fun y4 =>
    some y4
  else none
def X5_slotOf (l0 : Int32) (l1 : Int32) : Option Int32 :=
  some ((l0 * 2) + l1)
def X5_init_L64 (t : Nat) (l1 : Int32) : Nat → HA → Int32 → Option HA
  | 0, _, _ => none
  | n + 1, h, l2 =>
    if l2 < 4 then
      (gR h t 6 6).bind fun x15 =>
      (X5_slotOf l2 l1).bind fun x17 =>
      (X2_ofSort h l2).bind fun (x20, h19) =>
      (asR h19 x15 26 x17 x20).bind fun h21 =>
      X5_init_L64 t l1 n h21 (l2 + 1)
    else
      some h
def X5_init_L44 (t : Nat) : Nat → HA → Int32 → Option HA
  | 0, _, _ => none
  | n + 1, h, l1 =>
    if l1 < 2 then
      (gR h t 6 5).bind fun x10 =>
      lett (α := HA) (nw h 1 0) fun h11 =>
      (X0_init h11 (hz h)).bind fun h13 =>
      (asR h13 x10 25 l1 (hz h)).bind fun h14 =>
      (X5_init_L64 t l1 4 h14 1).bind fun h23 =>
      X5_init_L44 t n h23 (l1 + 1)
    else
      some h
def X5_init (h : HA) (t : Nat) : Option HA :=
  if (kd h t).1 = 6 then
    (nA h 22 600 600).bind fun h1 =>
    (pR h1 t 6 0 (some (hz h))).bind fun h2 =>
    (pI h2 t 6 3 (-1)).bind fun h3 =>
    (nA h3 20 4 4).bind fun h4 =>
    (pR h4 t 6 4 (some (hz h3))).bind fun h5 =>
    (nA h5 25 2 2).bind fun h6 =>
    (pR h6 t 6 5 (some (hz h5))).bind fun h7 =>
    (nA h7 26 8 8).bind fun h8 =>
    (pR h8 t 6 6 (some (hz h7))).bind fun h9 =>
    (X5_init_L44 t 3 h9 0).bind fun h25 =>
    some h25
  else none
def X5_append_L3 (t : Nat) (l1 : Int32) : Nat → HA → Int32 → Option HA
  | 0, _, _ => none
  | n + 1, h, l2 =>
    if l2 < 0 then
      some h
    else
      (gI h t 6 1).bind fun x1 =>
      if x1 < 600 then
        (gR h t 6 0).bind fun x2 =>
        (gI h t 6 1).bind fun x3 =>
        (asI h x2 22 x3 (toB (toB (ushI l1 l2)))).bind fun h4 =>
        (gI h4 t 6 1).bind fun x5 =>
        (pI h4 t 6 1 (x5 + 1)).bind fun h6 =>
        X5_append_L3 t l1 n h6 (l2 + (-8))
      else
        X5_append_L3 t l1 n h (l2 + (-8))
def X5_append (h : HA) (t : Nat) (l1 : Int32) : Option HA :=
  if (kd h t).1 = 6 then
    (X5_append_L3 t l1 FU h 24).bind fun h8 =>
    some h8
  else none
def X5_copyFrom_L57 (t : Nat) (l1 : Nat) : Nat → HA → Int32 → Option HA
  | 0, _, _ => none
  | n + 1, h, l2 =>
    (gR h t 6 4).bind fun x14 =>
    (ldI h x14 20 0).bind fun x15 =>
    if l2 < x15 then
      (gR h t 6 5).bind fun x16 =>
      (ldR h x16 25 l2).bind fun x17 =>
      (gR h l1 6 5).bind fun x18 =>
      (ldR h x18 25 l2).bind fun x19 =>
      (X0_copyFrom h x17 x19).bind fun h21 =>
      X5_copyFrom_L57 t l1 n h21 (l2 + 1)
    else
      some h
def X5_copyFrom_L97 (t : Nat) (l1 : Nat) (l2 : Int32) : Nat → HA → Int32 → Option HA
  | 0, _, _ => none
  | n + 1, h, l3 =>
    (gR h t 6 4).bind fun x24 =>
    (ldI h x24 20 l2).bind fun x25 =>
    if l3 < x25 then
      (gR h t 6 6).bind fun x26 =>
      (X5_slotOf l2 l3).bind fun x28 =>
      (ldR h x26 26 x28).bind fun x29 =>
      (gR h l1 6 6).bind fun x30 =>
      (X5_slotOf l2 l3).bind fun x32 =>
      (ldR h x30 26 x32).bind fun x33 =>
      (X2_copyFrom h x29 x33).bind fun h35 =>
      X5_copyFrom_L97 t l1 l2 n h35 (l3 + 1)
    else
      some h
def X5_copyFrom_L90 (t : Nat) (l1 : Nat) : Nat → HA → Int32 → Option HA
  | 0, _, _ => none
  | n + 1, h, l2 =>
    if l2 < 4 then
      (X5_copyFrom_L97 t l1 l2 FU h 0).bind fun h37 =>
      X5_copyFrom_L90 t l1 n h37 (l2 + 1)
    else
      some h
def X5_copyFrom (h : HA) (t : Nat) (l1 : Nat) : Option HA :=
  if (kd h t).1 = 6 then
    (gR h l1 6 0).bind fun x1 =>
    (gR h t 6 0).bind fun x2 =>
    (gI h l1 6 1).bind fun x3 =>
    (cpI h 22 x1 0 x2 0 x3).bind fun h4 =>
    (gI h4 l1 6 1).bind fun x5 =>
    (pI h4 t 6 1 x5).bind fun h6 =>
    (gI h6 l1 6 2).bind fun x7 =>
    (pI h6 t 6 2 x7).bind fun h8 =>
    (gI h8 l1 6 3).bind fun x9 =>
    (pI h8 t 6 3 x9).bind fun h10 =>
    (gR h10 l1 6 4).bind fun x11 =>
    (gR h10 t 6 4).bind fun x12 =>
    (cpI h10 20 x11 0 x12 0 4).bind fun h13 =>
    (X5_copyFrom_L57 t l1 FU h13 0).bind fun h23 =>
    (X5_copyFrom_L90 t l1 FU h23 1).bind fun h39 =>
    some h39
  else none
def X6_init (h : HA) (t : Nat) : Option HA :=
  if (kd h t).1 = 7 then
    (nA h 21 3904 3904).bind fun h1 =>
    (pR h1 t 7 0 (some (hz h))).bind fun h2 =>
    (nA h2 21 256 256).bind fun h3 =>
    (pR h3 t 7 1 (some (hz h2))).bind fun h4 =>
    some h4
  else none
def J7_fill_d0a16_L6 (l0 : Nat) (l1 : Int64) (l4 : Int32) : Nat → HA → Int32 → Option HA
  | 0, _, _ => none
  | n + 1, h, l3 =>
    if l3 < l4 then
      (asJ h l0 l3 l1).bind fun h2 =>
      J7_fill_d0a16_L6 l0 l1 l4 n h2 (l3 + 1)
    else
      some h
def J7_fill_d0a16 (h : HA) (l0 : Nat) (l1 : Int64) : Option HA :=
  (aL h l0).bind fun x1 =>
  (J7_fill_d0a16_L6 l0 l1 x1 FU h 0).bind fun h4 =>
  some h4
def X6_layBands_L17 (t : Nat) (l1 : Int32) (l2 : Int32) : Nat → HA → Int32 → Option HA
  | 0, _, _ => none
  | n + 1, h, l3 =>
    if l3 < 64 then
      (gR h t 7 2).bind fun x4 =>
      (X0_isOpen h x4 l3).bind fun x6 =>
      if x6 = 0 then
        X6_layBands_L17 t l1 l2 n h (l3 + 1)
      else
        (gR h t 7 2).bind fun x7 =>
        (X0_earsAt h x7 l3 l2 l1).bind fun x9 =>
        (gR h t 7 1).bind fun x10 =>
        (ldJ h x10 ((l2 * 64) + x9)).bind fun x11 =>
        (asJ h x10 ((l2 * 64) + x9) (x11 ||| (shlJ 1 l3))).bind fun h12 =>
        X6_layBands_L17 t l1 l2 n h12 (l3 + 1)
    else
      some h
def X6_layBands_L10 (t : Nat) (l1 : Int32) : Nat → HA → Int32 → Option HA
  | 0, _, _ => none
  | n + 1, h, l2 =>
    if l2 < 4 then
      (X6_layBands_L17 t l1 l2 FU h 0).bind fun h14 =>
      X6_layBands_L10 t l1 n h14 (l2 + 1)
    else
      some h
def X6_layBands (h : HA) (t : Nat) (l1 : Int32) : Option HA :=
  if (kd h t).1 = 7 then
    (gR h t 7 1).bind fun x1 =>
    (J7_fill_d0a16 h x1 0).bind fun h3 =>
    (X6_layBands_L10 t l1 FU h3 0).bind fun h16 =>
    some h16
  else none
def J7_rangeCheck_23922 (l0 : Int32) (l1 : Int32) (l2 : Int32) : Option Unit :=
  if l2 < l1 then
    none
  else
  if l1 < 0 then
    none
  else
  if l0 < l2 then
    none
  else
    some ()
def J7_fill_bad5a_L10 (l0 : Nat) (l2 : Int32) (l3 : Int64) : Nat → HA → Int32 → Option HA
  | 0, _, _ => none
  | n + 1, h, l5 =>
    if l5 < l2 then
      (asJ h l0 l5 l3).bind fun h3 =>
      J7_fill_bad5a_L10 l0 l2 l3 n h3 (l5 + 1)
    else
      some h
def J7_fill_bad5a (h : HA) (l0 : Nat) (l1 : Int32) (l2 : Int32) (l3 : Int64) : Option HA :=
  (aL h l0).bind fun x1 =>
  (J7_rangeCheck_23922 x1 l1 l2).bind fun _ =>
  (J7_fill_bad5a_L10 l0 l2 l3 FU h l1).bind fun h5 =>
  some h5
def X6_band (h : HA) (t : Nat) (l1 : Int32) (l2 : Int32) : Option Int64 :=
  if (kd h t).1 = 7 then
    (gR h t 7 1).bind fun x1 =>
    (ldJ h x1 (((l1 &&& 3) * 64) + l2)).bind fun x2 =>
    some x2
  else none
def X6_spread_L80 (t : Nat) (l1 : Int32) (l3 : Int32) (l4 : Int32) (l5 : Int64) : Nat → HA → Int32 → Option HA
  | 0, _, _ => none
  | n + 1, h, l7 =>
    (gI h t 7 4).bind fun x13 =>
    if x13 < l7 then
      some h
    else
      (gR h t 7 0).bind fun x14 =>
      (ldJ h x14 (l3 + (l4 ||| l7))).bind fun x15 =>
      (X6_band h t l1 l7).bind fun x17 =>
      (asJ h x14 (l3 + (l4 ||| l7)) (x15 ||| (l5 &&& x17))).bind fun h18 =>
      X6_spread_L80 t l1 l3 l4 l5 n h18 (l7 + 1)
def X6_spread_L26 (t : Nat) (l1 : Int32) (l2 : Int32) (l3 : Int32) : Nat → HA → Int32 → Option HA
  | 0, _, _ => none
  | n + 1, h, l4 =>
    (gI h t 7 4).bind fun x4 =>
    if x4 < l4 then
      some h
    else
      (gR h t 7 0).bind fun x5 =>
      (ldJ h x5 (l2 + l4)).bind fun x6 =>
      if x6 = 0 then
        X6_spread_L26 t l1 l2 l3 n h (l4 + 1)
      else
        (gR h t 7 0).bind fun x7 =>
        (ldJ h x7 (l3 + l4)).bind fun x8 =>
        (gR h t 7 2).bind fun x9 =>
        (X0_grow h x9 x6).bind fun x11 =>
        (asJ h x7 (l3 + l4) (x8 ||| (x6 ||| x11))).bind fun h12 =>
        (X6_spread_L80 t l1 l3 l4 x6 FU h12 1).bind fun h20 =>
        X6_spread_L26 t l1 l2 l3 n h20 (l4 + 1)
def X6_spread (h : HA) (t : Nat) (l1 : Int32) : Option HA :=
  if (kd h t).1 = 7 then
    (gR h t 7 0).bind fun x1 =>
    (J7_fill_bad5a h x1 ((l1 * 64) + 64) (((l1 * 64) + 64) + 64) 0).bind fun h3 =>
    (X6_spread_L26 t l1 (l1 * 64) ((l1 * 64) + 64) FU h3 0).bind fun h22 =>
    some h22
  else none
def X6_leading_L34 (h : HA) (t : Nat) (l1 : Int32) (l2 : Int32) (l3 : Int32) : Nat → Int64 → Int32 → Option Int64
  | 0, _, _ => none
  | n + 1, l6, l8 =>
    (gI h t 7 4).bind fun x6 =>
    if x6 < l8 then
      some l6
    else
      (X6_band h t l1 l8).bind fun x8 =>
      (gR h t 7 0).bind fun x9 =>
      (ldJ h x9 (l3 + (l2 ||| l8))).bind fun x10 =>
      X6_leading_L34 h t l1 l2 l3 n (l6 ||| (x8 &&& x10)) (l8 + 1)
def X6_leading (h : HA) (t : Nat) (l1 : Int32) (l2 : Int32) : Option Int64 :=
  if (kd h t).1 = 7 then
    (gR h t 7 0).bind fun x1 =>
    (ldJ h x1 (((l1 + 1) * 64) + l2)).bind fun x2 =>
    (gR h t 7 2).bind fun x3 =>
    (X0_grow h x3 x2).bind fun x5 =>
    (X6_leading_L34 h t l1 l2 ((l1 + 1) * 64) FU (x2 ||| x5) 1).bind fun y12 =>
    some y12
  else none
def X6_prune_L2 (t : Nat) (l1 : Int32) : Nat → HA → Int32 → Option HA
  | 0, _, _ => none
  | n + 1, h, l2 =>
    (gI h t 7 4).bind fun x1 =>
    if l2 < x1 then
      (gR h t 7 0).bind fun x2 =>
      (asJ h x2 ((l1 * 64) + l2) 0).bind fun h3 =>
      X6_prune_L2 t l1 n h3 (l2 + 1)
    else
      some h
def X6_prune_L38 (t : Nat) (l2 : Int32) : Nat → HA → Int32 → Option HA
  | 0, _, _ => none
  | n + 1, h, l3 =>
    (gI h t 7 4).bind fun x6 =>
    if x6 < l3 then
      some h
    else
      (gR h t 7 0).bind fun x7 =>
      (ldJ h x7 ((l2 * 64) + l3)).bind fun x8 =>
      if x8 = 0 then
        X6_prune_L38 t l2 n h (l3 + 1)
      else
        (gR h t 7 0).bind fun x9 =>
        (ldJ h x9 ((l2 * 64) + l3)).bind fun x10 =>
        (X6_leading h t l2 l3).bind fun x12 =>
        (asJ h x9 ((l2 * 64) + l3) (x10 &&& x12)).bind fun h13 =>
        X6_prune_L38 t l2 n h13 (l3 + 1)
def X6_prune_L32 (t : Nat) : Nat → HA → Int32 → Option HA
  | 0, _, _ => none
  | n + 1, h, l2 =>
    if l2 < 0 then
      some h
    else
      (X6_prune_L38 t l2 FU h 0).bind fun h15 =>
      X6_prune_L32 t n h15 (l2 + (-1))
def X6_prune (h : HA) (t : Nat) (l1 : Int32) : Option HA :=
  if (kd h t).1 = 7 then
    (X6_prune_L2 t l1 FU h 0).bind fun h5 =>
    (X6_prune_L32 t FU h5 (l1 - 1)).bind fun h17 =>
    some h17
  else none
def X6_search_L50 (t : Nat) : Nat → HA → Int32 → Option (Int32 × HA)
  | 0, _, _ => none
  | n + 1, h, l4 =>
    if l4 < 60 then
      (X6_spread h t l4).bind fun h13 =>
      (gR h13 t 7 0).bind fun x14 =>
      (gI h13 t 7 4).bind fun x15 =>
      (ldJ h13 x14 (((l4 + 1) * 64) + x15)).bind fun x16 =>
      if x16 = 0 then
        X6_search_L50 t n h13 (l4 + 1)
      else
        (X6_prune h13 t (l4 + 1)).bind fun h18 =>
        some ((l4 + 1), h18)
    else
      some ((-1), h)
def X6_search (h : HA) (t : Nat) (l1 : Nat) (l2 : Int32) (l3 : Int32) : Option (Int32 × HA) :=
  if (kd h t).1 = 7 then
    (pR h t 7 2 (some l1)).bind fun h1 =>
    (pI h1 t 7 3 l2).bind fun h2 =>
    (gI h2 l1 1 6).bind fun x3 =>
    (pI h2 t 7 4 ((shlI 1 x3) - 1)).bind fun h4 =>
    (X6_layBands h4 t l3).bind fun h6 =>
    (gR h6 t 7 0).bind fun x7 =>
    (J7_fill_bad5a h6 x7 0 64 0).bind fun h9 =>
    (gR h9 t 7 0).bind fun x10 =>
    (asJ h9 x10 0 (shlJ 1 l2)).bind fun h11 =>
    X6_search_L50 t FU h11 0
  else none
def X6_earsOn_L2 (h : HA) (t : Nat) (l1 : Int32) (l2 : Int32) : Nat → Int32 → Option Int32
  | 0, _ => none
  | n + 1, l3 =>
    (gI h t 7 4).bind fun x1 =>
    if x1 < l3 then
      some 0
    else
      (X6_band h t l2 l3).bind fun x3 =>
      (X7_has x3 l1).bind fun x5 =>
      if x5 = 0 then
        X6_earsOn_L2 h t l1 l2 n (l3 + 1)
      else
        some l3
def X6_earsOn (h : HA) (t : Nat) (l1 : Int32) (l2 : Int32) : Option Int32 :=
  if (kd h t).1 = 7 then
    X6_earsOn_L2 h t l1 l2 FU 0
  else none
def X6_firstAct_L11 (h : HA) (t : Nat) (l2 : Int32) (l3 : Int32) (l5 : Int32) : Nat → Int32 → Option (Int32 ⊕ Unit)
  | 0, _ => none
  | n + 1, l6 =>
    if l6 < 4 then
      (gR h t 7 2).bind fun x1 =>
      (X0_beside h x1 l2 l6).bind fun x3 =>
      (gR h t 7 0).bind fun x4 =>
      (ldJ h x4 (l5 + l3)).bind fun x5 =>
      if (x3 &&& x5) = 0 then
        X6_firstAct_L11 h t l2 l3 l5 n (l6 + 1)
      else
        some (.inl l6)
    else
      some (.inr ())
def X6_firstAct (h : HA) (t : Nat) (l1 : Int32) (l2 : Int32) (l3 : Int32) (l4 : Int32) : Option Int32 :=
  if (kd h t).1 = 7 then
    (
      X6_firstAct_L11 h t l2 l3 ((l1 + 1) * 64) FU 0).bind fun s9 =>
    match s9 with
    | .inl r11 =>
      some r11
    | .inr _ =>
      (gR h t 7 0).bind fun x7 =>
      (ldJ h x7 (((l1 + 1) * 64) + (l3 ||| l4))).bind fun x8 =>
      (X7_has x8 l2).bind fun x10 =>
      if x10 = 0 then
        some 5
      else
        some 4
  else none
def X6_actAt_L13 (h : HA) (t : Nat) (l1 : Int32) : Nat → Int32 → Int32 → Int32 → Int32 → Option Int32
  | 0, _, _, _, _ => none
  | n + 1, l2, l3, l4, l5 =>
    if l1 < l5 then
      some l4
    else
      (X6_earsOn h t l2 l5).bind fun x3 =>
      (X6_firstAct h t l5 l2 l3 x3).bind fun x5 =>
      if x5 < 4 then
        (gR h t 7 2).bind fun x6 =>
        (X0_stepTo h x6 l2 x5).bind fun x8 =>
        X6_actAt_L13 h t l1 n x8 l3 x5 (l5 + 1)
      else
      if x5 = 4 then
        X6_actAt_L13 h t l1 n l2 (l3 ||| x3) x5 (l5 + 1)
      else
        X6_actAt_L13 h t l1 n l2 l3 x5 (l5 + 1)
def X6_actAt (h : HA) (t : Nat) (l1 : Int32) : Option Int32 :=
  if (kd h t).1 = 7 then
    (gI h t 7 3).bind fun x1 =>
    (X6_actAt_L13 h t l1 FU x1 0 5 0).bind fun y10 =>
    some y10
  else none
def X7_init (h : HA) (t : Nat) : Option HA :=
  if (kd h t).1 = 8 then
    lett (α := HA) (nw h 6 0) fun h1 =>
    (X5_init h1 (hz h)).bind fun h3 =>
    (pR h3 t 8 0 (some (hz h))).bind fun h4 =>
    (nA h4 24 3 3).bind fun h5 =>
    (pR h5 t 8 1 (some (hz h4))).bind fun h6 =>
    lett (α := HA) (nw h6 4 0) fun h7 =>
    (X3_init h7 (hz h6)).bind fun h9 =>
    (pR h9 t 8 2 (some (hz h6))).bind fun h10 =>
    lett (α := HA) (nw h10 2 0) fun h11 =>
    (X1_init h11 (hz h10)).bind fun h13 =>
    (pR h13 t 8 3 (some (hz h10))).bind fun h14 =>
    lett (α := HA) (nw h14 5 0) fun h15 =>
    (X4_init h15 (hz h14)).bind fun h17 =>
    (pR h17 t 8 4 (some (hz h14))).bind fun h18 =>
    some h18
  else none
def X7_feed (h : HA) (t : Nat) (l1 : Int32) (l2 : Int32) (l3 : Int32) (l4 : Int32) (l5 : Int32) : Option (Int32 × HA) :=
  if (kd h t).1 = 8 then
    (gR h t 8 0).bind fun x1 =>
    (gI h x1 6 1).bind fun x2 =>
    if 600 < (x2 + 20) then
      some ((-1), h)
    else
      (gR h t 8 0).bind fun x3 =>
      (X5_append h x3 l1).bind fun h5 =>
      (gR h5 t 8 0).bind fun x6 =>
      (X5_append h5 x6 l2).bind fun h8 =>
      (gR h8 t 8 0).bind fun x9 =>
      (X5_append h8 x9 l3).bind fun h11 =>
      (gR h11 t 8 0).bind fun x12 =>
      (X5_append h11 x12 l4).bind fun h14 =>
      (gR h14 t 8 0).bind fun x15 =>
      (X5_append h14 x15 l5).bind fun h17 =>
      (gR h17 t 8 0).bind fun x18 =>
      (gI h17 x18 6 1).bind fun x19 =>
      some (x19, h17)
  else none
def X7_end (h : HA) (t : Nat) (l1 : Int32) : Option (Int32 × HA) :=
  if (kd h t).1 = 8 then
    if l1 < 0 then
      some ((-1), h)
    else
      (gR h t 8 0).bind fun x1 =>
      (gI h x1 6 1).bind fun x2 =>
      if x2 < l1 then
        some ((-1), h)
      else
        (gR h t 8 0).bind fun x3 =>
        (pI h x3 6 1 l1).bind fun h4 =>
        some (l1, h4)
  else none
def X7_keepDraft (h : HA) (t : Nat) (l1 : Int32) (l2 : Int32) : Option HA :=
  if (kd h t).1 = 8 then
    (show Option HA from
      if l1 = 0 then
        (gR h t 8 0).bind fun x4 =>
        (gR h x4 6 5).bind fun x5 =>
        (ldR h x5 25 l2).bind fun x6 =>
        (gR h t 8 0).bind fun x7 =>
        (gR h x7 6 5).bind fun x8 =>
        (gR h t 8 2).bind fun x9 =>
        (gR h x9 4 0).bind fun x10 =>
        (asR h x8 25 l2 x10).bind fun h11 =>
        (gR h11 t 8 2).bind fun x12 =>
        (pR h11 x12 4 0 (some x6)).bind fun h13 =>
        some h13
      else
        (X5_slotOf l1 l2).bind fun x15 =>
        (gR h t 8 0).bind fun x16 =>
        (gR h x16 6 6).bind fun x17 =>
        (ldR h x17 26 x15).bind fun x18 =>
        (gR h t 8 0).bind fun x19 =>
        (gR h x19 6 6).bind fun x20 =>
        (gR h t 8 2).bind fun x21 =>
        (gR h x21 4 1).bind fun x22 =>
        (ldR h x22 26 l1).bind fun x23 =>
        (asR h x20 26 x15 x23).bind fun h24 =>
        (gR h24 t 8 2).bind fun x25 =>
        (gR h24 x25 4 1).bind fun x26 =>
        (asR h24 x26 26 l1 x18).bind fun h27 =>
        some h27).bind fun h1 =>
    (gR h1 t 8 0).bind fun x28 =>
    (gR h1 x28 6 4).bind fun x29 =>
    (ldI h1 x29 20 l1).bind fun x30 =>
    if l2 = x30 then
      (gR h1 t 8 0).bind fun x31 =>
      (gR h1 x31 6 4).bind fun x32 =>
      (ldI h1 x32 20 l1).bind fun x33 =>
      (asI h1 x32 20 l1 (x33 + 1)).bind fun h34 =>
      some h34
    else
      some h1
  else none
def X7_text (h : HA) (t : Nat) (l1 : Int32) (l2 : Int32) : Option (Int32 × HA) :=
  if (kd h t).1 = 8 then
    (gR h t 8 0).bind fun x1 =>
    (gI h x1 6 1).bind fun x2 =>
    (gR h t 8 0).bind fun x3 =>
    (pI h x3 6 1 0).bind fun h4 =>
    (gR h4 t 8 0).bind fun x5 =>
    (pI h4 x5 6 2 0).bind fun h6 =>
    (gR h6 t 8 0).bind fun x7 =>
    (pI h6 x7 6 3 (-1)).bind fun h8 =>
    if l1 < 0 then
      some ((-2), h8)
    else
    if l1 < 4 then
      (show Option Int32 from
        if l2 = (-1) then
          (gR h8 t 8 0).bind fun x12 =>
          (gR h8 x12 6 4).bind fun x13 =>
          (ldI h8 x13 20 l1).bind fun x14 =>
          some x14
        else
          some l2).bind fun j9 =>
      (show Option Int32 from
        if l2 = (-1) then
          some 2
        else
          (gR h8 t 8 0).bind fun x18 =>
          (gR h8 x18 6 4).bind fun x19 =>
          (ldI h8 x19 20 l1).bind fun x20 =>
          some x20).bind fun j15 =>
      if j9 < 0 then
        some ((-2), h8)
      else
      if j9 < j15 then
        (gR h8 t 8 2).bind fun x21 =>
        (gR h8 t 8 0).bind fun x22 =>
        (gR h8 x22 6 0).bind fun x23 =>
        (X3_read h8 x21 x23 x2 l1).bind fun h25 =>
        (gR h25 t 8 2).bind fun x26 =>
        (gI h25 x26 4 2).bind fun x27 =>
        if x27 = 0 then
          (X7_keepDraft h25 t l1 j9).bind fun h29 =>
          some (j9, h29)
        else
          (gR h25 t 8 0).bind fun x30 =>
          (gR h25 t 8 2).bind fun x31 =>
          (gI h25 x31 4 2).bind fun x32 =>
          (pI h25 x30 6 2 x32).bind fun h33 =>
          (gR h33 t 8 0).bind fun x34 =>
          (gR h33 t 8 2).bind fun x35 =>
          (gI h33 x35 4 3).bind fun x36 =>
          (pI h33 x34 6 3 x36).bind fun h37 =>
          some ((-1), h37)
      else
        some ((-2), h8)
    else
      some ((-2), h8)
  else none
def X7_fault (h : HA) (t : Nat) (l1 : Int32) : Option Int32 :=
  if (kd h t).1 = 8 then
    if l1 = 0 then
      (gR h t 8 0).bind fun x1 =>
      (gI h x1 6 2).bind fun x2 =>
      some x2
    else
    if l1 = 1 then
      (gR h t 8 0).bind fun x3 =>
      (gI h x3 6 3).bind fun x4 =>
      some x4
    else
      some (-1)
  else none
def X7_courtAt (h : HA) (t : Nat) (l1 : Int32) : Option ((Option Nat) × HA) :=
  if (kd h t).1 = 8 then
    if l1 < 0 then
      some (none, h)
    else
      (gR h t 8 0).bind fun x1 =>
      (gR h x1 6 4).bind fun x2 =>
      (ldI h x2 20 0).bind fun x3 =>
      if l1 < x3 then
        (gR h t 8 0).bind fun x4 =>
        (gR h x4 6 5).bind fun x5 =>
        (ldR h x5 25 l1).bind fun x6 =>
        (X0_lay h x6).bind fun h8 =>
        (gR h8 t 8 0).bind fun x9 =>
        (gR h8 x9 6 5).bind fun x10 =>
        (ldR h8 x10 25 l1).bind fun x11 =>
        some ((some x11), h8)
      else
        some (none, h)
  else none
def X7_listAt (h : HA) (t : Nat) (l1 : Int32) (l2 : Int32) : Option (Option Nat) :=
  if (kd h t).1 = 8 then
    (show Option Int32 from
      if l2 < 0 then
        some 0
      else
        (gR h t 8 0).bind fun x4 =>
        (gR h x4 6 4).bind fun x5 =>
        (ldI h x5 20 l1).bind fun x6 =>
        if l2 < x6 then
          some 1
        else
          some 0).bind fun j1 =>
    if j1 = 0 then
      some none
    else
      (gR h t 8 0).bind fun x7 =>
      (gR h x7 6 6).bind fun x8 =>
      (X5_slotOf l1 l2).bind fun x10 =>
      (ldR h x8 26 x10).bind fun x11 =>
      some (some x11)
  else none
def X7_hallOf (h : HA) (t : Nat) (l1 : Int32) (l2 : Int32) : Option ((Option Nat) × HA) :=
  if (kd h t).1 = 8 then
    (X7_courtAt h t l1).bind fun (x3, h2) =>
    match x3 with
    | none =>
      (X7_listAt h2 t 1 l2).bind fun x6 =>
      match x6 with
      | none =>
        some (none, h2)
      | some z7 =>
        some (none, h2)
    | some z4 =>
      (X7_listAt h2 t 1 l2).bind fun x9 =>
      match x9 with
      | none =>
        some (none, h2)
      | some z10 =>
        (gR h2 t 8 3).bind fun x11 =>
        (X1_play h2 x11 z4 z10 30).bind fun h13 =>
        (gR h13 t 8 3).bind fun x14 =>
        some ((some x14), h13)
  else none
def X7_isHour (l0 : Int32) : Option Int32 :=
  if l0 < 0 then
    some 0
  else
  if 99 < l0 then
    some 0
  else
    some 1
def X7_isLoud (l0 : Int32) : Option Int32 :=
  if l0 < 0 then
    some 0
  else
  if 9 < l0 then
    some 0
  else
    some 1
def X7_court (h : HA) (t : Nat) (l1 : Int32) (l2 : Int32) : Option (Int32 × HA) :=
  if (kd h t).1 = 8 then
    (X7_courtAt h t l1).bind fun (x3, h2) =>
    match x3 with
    | none =>
      some ((-1), h2)
    | some z4 =>
      if l2 = 0 then
        (gI h2 z4 1 0).bind fun x5 =>
        some (x5, h2)
      else
      if l2 = 1 then
        (gI h2 z4 1 1).bind fun x6 =>
        some (x6, h2)
      else
      if l2 = 2 then
        (gJ h2 z4 1 2).bind fun x7 =>
        (J13_bitCount_95d88 x7).bind fun x9 =>
        some (x9, h2)
      else
      if l2 = 3 then
        (gI h2 z4 1 6).bind fun x10 =>
        some (x10, h2)
      else
      if l2 = 4 then
        (gI h2 z4 1 8).bind fun x11 =>
        some (x11, h2)
      else
      if l2 = 5 then
        (X0_quarter h2 z4).bind fun x13 =>
        some (x13, h2)
      else
        some ((-1), h2)
  else none
def X7_wall (h : HA) (t : Nat) (l1 : Int32) (l2 : Int32) : Option (Int32 × HA) :=
  if (kd h t).1 = 8 then
    (X7_courtAt h t l1).bind fun (x3, h2) =>
    match x3 with
    | none =>
      some (0, h2)
    | some z4 =>
      if l2 < 0 then
        some (0, h2)
      else
      if l2 < 64 then
        (gJ h2 z4 1 2).bind fun x5 =>
        (X7_has x5 l2).bind fun x7 =>
        if x7 = 0 then
          some (0, h2)
        else
          some (1, h2)
      else
        some (0, h2)
  else none
def X7_judge (h : HA) (t : Nat) (l1 : Int32) (l2 : Int32) (l3 : Int32) : Option (Int32 × HA) :=
  if (kd h t).1 = 8 then
    (X7_courtAt h t l1).bind fun (x3, h2) =>
    match x3 with
    | none =>
      some ((-1), h2)
    | some z4 =>
      (X0_hasJudge h2 z4 l2).bind fun x6 =>
      if x6 = 0 then
        some ((-1), h2)
      else
        (show Option ((Int32 × HA) ⊕ Unit) from
          if l3 < 0 then
            some (.inr ())
          else
          if l3 < 5 then
            (X0_of h2 z4 l2 l3).bind fun x10 =>
            some (.inl (x10, h2))
          else
            some (.inr ())).bind fun s9 =>
        match s9 with
        | .inl r13 =>
          some r13
        | .inr () =>
          if l3 < 10 then
            some ((-1), h2)
          else
          if 109 < l3 then
            some ((-1), h2)
          else
            (X0_faces h2 z4 l2 (l3 - 10)).bind fun x12 =>
            some (x12, h2)
  else none
def X7_pleader (h : HA) (t : Nat) (l1 : Int32) (l2 : Int32) (l3 : Int32) : Option (Int32 × HA) :=
  if (kd h t).1 = 8 then
    (X7_courtAt h t l1).bind fun (x3, h2) =>
    match x3 with
    | none =>
      some ((-2), h2)
    | some z4 =>
      (X0_hasPleader h2 z4 l2).bind fun x6 =>
      if x6 = 0 then
        some ((-2), h2)
      else
      if l3 = 0 then
        (gR h2 z4 1 9).bind fun x7 =>
        (ldI h2 x7 20 l2).bind fun x8 =>
        some (x8, h2)
      else
        (gR h2 z4 1 10).bind fun x9 =>
        (ldI h2 x9 20 l2).bind fun x10 =>
        some (x10, h2)
  else none
def X7_far (h : HA) (t : Nat) (l1 : Int32) (l2 : Int32) (l3 : Int32) : Option (Int32 × HA) :=
  if (kd h t).1 = 8 then
    (X7_courtAt h t l1).bind fun (x3, h2) =>
    match x3 with
    | none =>
      some ((-1), h2)
    | some z4 =>
      (X0_isOpen h2 z4 l2).bind fun x6 =>
      if x6 = 0 then
        some ((-1), h2)
      else
        (X0_isOpen h2 z4 l3).bind fun x8 =>
        if x8 = 0 then
          some ((-1), h2)
        else
          (X0_steps h2 z4 l2 (shlJ 1 l3)).bind fun x10 =>
          some (x10, h2)
  else none
def X7_comes (h : HA) (t : Nat) (l1 : Int32) (l2 : Int32) (l3 : Int32) (l4 : Int32) : Option (Int32 × HA) :=
  if (kd h t).1 = 8 then
    (X7_courtAt h t l1).bind fun (x3, h2) =>
    match x3 with
    | none =>
      some ((-1), h2)
    | some z4 =>
      (X0_hasJudge h2 z4 l2).bind fun x6 =>
      if x6 = 0 then
        some ((-1), h2)
      else
        (X0_isOpen h2 z4 l3).bind fun x8 =>
        if x8 = 0 then
          some ((-1), h2)
        else
          (X7_isHour l4).bind fun x10 =>
          if x10 = 0 then
            some ((-1), h2)
          else
            (X0_of h2 z4 l2 0).bind fun x12 =>
            if l3 = x12 then
              some (15, h2)
            else
              (X0_sidesFrom h2 z4 l2 l3).bind fun x14 =>
              if x14 = 0 then
                some ((-1), h2)
              else
                (X0_faces h2 z4 l2 l4).bind fun x16 =>
                (X0_turned x14 (4 - x16)).bind fun x18 =>
                some (x18, h2)
  else none
def X7_ears (h : HA) (t : Nat) (l1 : Int32) (l2 : Int32) (l3 : Int32) (l4 : Int32) : Option (Int32 × HA) :=
  if (kd h t).1 = 8 then
    (X7_courtAt h t l1).bind fun (x3, h2) =>
    match x3 with
    | none =>
      some ((-1), h2)
    | some z4 =>
      (X0_isOpen h2 z4 l2).bind fun x6 =>
      if x6 = 0 then
        some ((-1), h2)
      else
        (X7_isHour l3).bind fun x8 =>
        if x8 = 0 then
          some ((-1), h2)
        else
          (X7_isLoud l4).bind fun x10 =>
          if x10 = 0 then
            some ((-1), h2)
          else
            (X0_earsAt h2 z4 l2 l3 l4).bind fun x12 =>
            some (x12, h2)
  else none
def X7_pulpit_L37 (h : HA) (l2 : Int32) (l3 : Int32) (l5 : Nat) : Nat → Int32 → Int32 → Int32 → Option (Int32 × Int32)
  | 0, _, _, _ => none
  | n + 1, l6, l7, l8 =>
    if l8 < 64 then
      (X0_isOpen h l5 l8).bind fun x10 =>
      if x10 = 0 then
        X7_pulpit_L37 h l2 l3 l5 n l6 l7 (l8 + 1)
      else
        (X0_earsAt h l5 l8 l2 l3).bind fun x12 =>
        (J6_bitCount_0f7a4 x12).bind fun x14 =>
        if l7 < x14 then
          X7_pulpit_L37 h l2 l3 l5 n l8 x14 (l8 + 1)
        else
          X7_pulpit_L37 h l2 l3 l5 n l6 l7 (l8 + 1)
    else
      some (l6, l7)
def X7_pulpit (h : HA) (t : Nat) (l1 : Int32) (l2 : Int32) (l3 : Int32) (l4 : Int32) : Option (Int32 × HA) :=
  if (kd h t).1 = 8 then
    (X7_courtAt h t l1).bind fun (x3, h2) =>
    match x3 with
    | none =>
      some ((-1), h2)
    | some z4 =>
      (X7_isHour l2).bind fun x6 =>
      if x6 = 0 then
        some ((-1), h2)
      else
        (X7_isLoud l3).bind fun x8 =>
        if x8 = 0 then
          some ((-1), h2)
        else
          (X7_pulpit_L37 h2 l2 l3 z4 FU (-1) (-1) 0).bind fun (y16, y17) =>
          if l4 = 0 then
            some (y16, h2)
          else
            some (y17, h2)
  else none
def X7_near (h : HA) (t : Nat) (l1 : Int32) (l2 : Int32) (l3 : Int32) (l4 : Int32) : Option (Int32 × HA) :=
  if (kd h t).1 = 8 then
    (X7_courtAt h t l1).bind fun (x3, h2) =>
    match x3 with
    | none =>
      some ((-1), h2)
    | some z4 =>
      (X0_hasJudge h2 z4 l2).bind fun x6 =>
      if x6 = 0 then
        some ((-1), h2)
      else
        (X0_hasPleader h2 z4 l3).bind fun x8 =>
        if x8 = 0 then
          some ((-1), h2)
        else
          (X7_isLoud l4).bind fun x10 =>
          if x10 = 0 then
            some ((-1), h2)
          else
            (gR h2 z4 1 9).bind fun x11 =>
            (ldI h2 x11 20 l3).bind fun x12 =>
            (X0_audible h2 z4 l2 0 l4).bind fun x14 =>
            (X0_steps h2 z4 x12 x14).bind fun x16 =>
            some (x16, h2)
  else none
def X7_round (h : HA) (t : Nat) (l1 : Int32) (l2 : Int32) (l3 : Int32) (l4 : Int32) : Option (Int32 × HA) :=
  if (kd h t).1 = 8 then
    (X7_courtAt h t l1).bind fun (x3, h2) =>
    match x3 with
    | none =>
      some ((-1), h2)
    | some z4 =>
      (X0_hasPleader h2 z4 l2).bind fun x6 =>
      if x6 = 0 then
        some ((-1), h2)
      else
        (X7_isLoud l3).bind fun x8 =>
        if x8 = 0 then
          some ((-1), h2)
        else
          (gI h2 z4 1 6).bind fun x9 =>
          if x9 = 0 then
            some ((-1), h2)
          else
            (show Option ((Int32 × HA) ⊕ Unit) from
              if l4 = 0 then
                some (.inr ())
              else
              if l4 < 10 then
                some (.inl ((-1), h2))
              else
              if l4 < 70 then
                some (.inr ())
              else
                some (.inl ((-1), h2))).bind fun s9 =>
            match s9 with
            | .inl r44 =>
              some r44
            | .inr () =>
              (gN h2 t 8 5).bind fun x12 =>
              match x12 with
              | none =>
                lett (α := HA) (nw h2 7 0) fun h14 =>
                (X6_init h14 (hz h2)).bind fun h16 =>
                (pR h16 t 8 5 (some (hz h2))).bind fun h17 =>
                (gN h17 t 8 5).bind fun x18 =>
                match x18 with
                | none =>
                  (gR h17 z4 1 9).bind fun x20 =>
                  (ldI h17 x20 20 l2).bind fun x21 =>
                  none
                | some z19 =>
                  (gR h17 z4 1 9).bind fun x22 =>
                  (ldI h17 x22 20 l2).bind fun x23 =>
                  (X6_search h17 z19 z4 x23 l3).bind fun (x26, h25) =>
                  if l4 = 0 then
                    some (x26, h25)
                  else
                  if x26 = (-1) then
                    some (x26, h25)
                  else
                  if (l4 - 10) < x26 then
                    (gN h25 t 8 5).bind fun x27 =>
                    match x27 with
                    | none =>
                      none
                    | some z28 =>
                      (X6_actAt h25 z28 (l4 - 10)).bind fun x30 =>
                      some (x30, h25)
                  else
                    some ((-1), h25)
              | some z13 =>
                (gN h2 t 8 5).bind fun x31 =>
                match x31 with
                | none =>
                  (gR h2 z4 1 9).bind fun x33 =>
                  (ldI h2 x33 20 l2).bind fun x34 =>
                  none
                | some z32 =>
                  (gR h2 z4 1 9).bind fun x35 =>
                  (ldI h2 x35 20 l2).bind fun x36 =>
                  (X6_search h2 z32 z4 x36 l3).bind fun (x39, h38) =>
                  if l4 = 0 then
                    some (x39, h38)
                  else
                  if x39 = (-1) then
                    some (x39, h38)
                  else
                  if (l4 - 10) < x39 then
                    (gN h38 t 8 5).bind fun x40 =>
                    match x40 with
                    | none =>
                      none
                    | some z41 =>
                      (X6_actAt h38 z41 (l4 - 10)).bind fun x43 =>
                      some (x43, h38)
                  else
                    some ((-1), h38)
  else none
def X7_echo (h : HA) (t : Nat) (l1 : Int32) (l2 : Int32) (l3 : Int32) (l4 : Int32) : Option (Int32 × HA) :=
  if (kd h t).1 = 8 then
    (X7_courtAt h t l1).bind fun (x3, h2) =>
    match x3 with
    | none =>
      some ((-1), h2)
    | some z4 =>
      (X7_isLoud l4).bind fun x6 =>
      if x6 = 0 then
        some ((-1), h2)
      else
        (show Option ((Int32 × HA) ⊕ Unit) from
          if l2 = (-1) then
            if l3 = (-1) then
              (X0_blind h2 z4 0 l4).bind fun x10 =>
              some (.inl (x10, h2))
            else
              some (.inr ())
          else
            some (.inr ())).bind fun s9 =>
        match s9 with
        | .inl r23 =>
          some r23
        | .inr () =>
          (X0_hasJudge h2 z4 l2).bind fun x12 =>
          if x12 = 0 then
            some ((-1), h2)
          else
            (X0_audible h2 z4 l2 0 l4).bind fun x14 =>
            if l3 = (-1) then
              (J13_bitCount_95d88 x14).bind fun x16 =>
              some (x16, h2)
            else
              (X0_hasJudge h2 z4 l3).bind fun x18 =>
              if x18 = 0 then
                some ((-1), h2)
              else
              if l2 = l3 then
                some ((-1), h2)
              else
                (X0_audible h2 z4 l3 0 l4).bind fun x20 =>
                (J13_bitCount_95d88 (x14 &&& x20)).bind fun x22 =>
                some (x22, h2)
  else none
def X7_cellOf (h : HA) (l0 : Option Nat) (l1 : Int32) (l2 : Int32) : Option Int32 :=
  match l0 with
  | none =>
    some (-2)
  | some z0 =>
    if l1 = (-1) then
      if l2 = 0 then
        (gI h z0 3 2).bind fun x1 =>
        some x1
      else
        some (-2)
    else
    if l1 < 0 then
      some (-2)
    else
      (gI h z0 3 2).bind fun x2 =>
      if l1 < x2 then
        if l2 < 0 then
          some (-2)
        else
          (gI h z0 3 0).bind fun x3 =>
          if l2 < x3 then
            (X2_at h z0 l1 l2).bind fun x5 =>
            some x5
          else
            some (-2)
      else
        some (-2)
def X7_deed (h : HA) (t : Nat) (l1 : Int32) (l2 : Int32) (l3 : Int32) : Option Int32 :=
  if (kd h t).1 = 8 then
    (X7_listAt h t 1 l1).bind fun x2 =>
    match x2 with
    | none =>
      (X7_cellOf h none l2 l3).bind fun x5 =>
      some x5
    | some z3 =>
      (X7_cellOf h (some z3) l2 l3).bind fun x7 =>
      some x7
  else none
def X7_stop (h : HA) (t : Nat) (l1 : Int32) (l2 : Int32) : Option (Int32 × HA) :=
  if (kd h t).1 = 8 then
    (X7_hallOf h t l1 l2).bind fun (x3, h2) =>
    match x3 with
    | none =>
      some ((-1), h2)
    | some z4 =>
      (gI h2 z4 2 2).bind fun x5 =>
      some (x5, h2)
  else none
def X7_stands (h : HA) (t : Nat) (l1 : Int32) (l2 : Int32) (l3 : Int32) (l4 : Int32) (l5 : Int32) : Option (Int32 × HA) :=
  if (kd h t).1 = 8 then
    (X7_courtAt h t l1).bind fun (x3, h2) =>
    match x3 with
    | none =>
      (X7_listAt h2 t 1 l2).bind fun x6 =>
      match x6 with
      | none =>
        some ((-2), h2)
      | some z7 =>
        some ((-2), h2)
    | some z4 =>
      (X7_listAt h2 t 1 l2).bind fun x9 =>
      match x9 with
      | none =>
        some ((-2), h2)
      | some z10 =>
        (X0_hasPleader h2 z4 l4).bind fun x12 =>
        if x12 = 0 then
          some ((-2), h2)
        else
        if l3 < 0 then
          some ((-2), h2)
        else
          (gR h2 t 8 3).bind fun x13 =>
          (X1_play h2 x13 z4 z10 l3).bind fun h15 =>
          (gR h15 t 8 3).bind fun x16 =>
          (gI h15 x16 2 2).bind fun x17 =>
          if x17 < l3 then
            some ((-2), h15)
          else
          if l5 = 0 then
            (gR h15 t 8 3).bind fun x18 =>
            (gR h15 x18 2 3).bind fun x19 =>
            (ldI h15 x19 20 l4).bind fun x20 =>
            some (x20, h15)
          else
            (gR h15 t 8 3).bind fun x21 =>
            (gR h15 x21 2 4).bind fun x22 =>
            (ldI h15 x22 20 l4).bind fun x23 =>
            some (x23, h15)
  else none
def X7_knows (h : HA) (t : Nat) (l1 : Int32) (l2 : Int32) (l3 : Int32) (l4 : Int32) : Option (Int32 × HA) :=
  if (kd h t).1 = 8 then
    (X7_hallOf h t l1 l2).bind fun (x3, h2) =>
    match x3 with
    | none =>
      some ((-1), h2)
    | some z4 =>
      if l3 < 0 then
        some ((-1), h2)
      else
        (gI h2 z4 2 2).bind fun x5 =>
        if x5 < l3 then
          some ((-1), h2)
        else
        if l4 = (-1) then
          (X1_common h2 z4 l3).bind fun x7 =>
          some (x7, h2)
        else
        if l4 = (-2) then
          (X1_lost h2 z4 l3).bind fun x9 =>
          some (x9, h2)
        else
          (gR h2 z4 2 0).bind fun x10 =>
          (X0_hasJudge h2 x10 l4).bind fun x12 =>
          if x12 = 0 then
            some ((-1), h2)
          else
            (X1_learned h2 z4 l4 l3).bind fun x14 =>
            some (x14, h2)
  else none
def X7_heard (h : HA) (t : Nat) (l1 : Int32) (l2 : Int32) (l3 : Int32) : Option (Int32 × HA) :=
  if (kd h t).1 = 8 then
    (X7_hallOf h t l1 l2).bind fun (x3, h2) =>
    match x3 with
    | none =>
      some ((-1), h2)
    | some z4 =>
      if l3 < 0 then
        some ((-1), h2)
      else
        (gI h2 z4 2 2).bind fun x5 =>
        if l3 < x5 then
          (X1_isSaid h2 z4 l3).bind fun x7 =>
          if x7 = 0 then
            some ((-1), h2)
          else
            (X1_hearers h2 z4 l3).bind fun x9 =>
            some (x9, h2)
        else
          some ((-1), h2)
  else none
def X7_rule (h : HA) (t : Nat) (l1 : Int32) (l2 : Int32) (l3 : Int32) : Option Int32 :=
  if (kd h t).1 = 8 then
    (X7_listAt h t 2 l1).bind fun x2 =>
    match x2 with
    | none =>
      (X7_cellOf h none l2 l3).bind fun x5 =>
      some x5
    | some z3 =>
      (X7_cellOf h (some z3) l2 l3).bind fun x7 =>
      some x7
  else none
def X7_ruleFor_L2 (h : HA) (l0 : Nat) (l1 : Int32) : Nat → Int32 → Option Int32
  | 0, _ => none
  | n + 1, l2 =>
    (gI h l0 3 2).bind fun x1 =>
    if l2 < x1 then
      (X2_at h l0 l2 1).bind fun x3 =>
      (X2_at h l0 l2 2).bind fun x5 =>
      if x3 = (-1) then
        if x5 = (-1) then
          some l2
        else
          (X7_has l1.toInt64 x5).bind fun x7 =>
          if x7 = 0 then
            some l2
          else
            X7_ruleFor_L2 h l0 l1 n (l2 + 1)
      else
        (X7_has l1.toInt64 x3).bind fun x9 =>
        if x9 = 0 then
          X7_ruleFor_L2 h l0 l1 n (l2 + 1)
        else
        if x5 = (-1) then
          some l2
        else
          (X7_has l1.toInt64 x5).bind fun x11 =>
          if x11 = 0 then
            some l2
          else
            X7_ruleFor_L2 h l0 l1 n (l2 + 1)
    else
      some (-1)
def X7_ruleFor (h : HA) (l0 : Nat) (l1 : Int32) : Option Int32 :=
  X7_ruleFor_L2 h l0 l1 FU 0
def X7_voteBy (h : HA) (l0 : Nat) (l1 : Int32) : Option Int32 :=
  (X7_ruleFor h l0 l1).bind fun x2 =>
  if x2 = (-1) then
    some (-1)
  else
    (X2_at h l0 x2 0).bind fun x4 =>
    some x4
def X7_weight (l0 : Int32) : Option Int32 :=
  if l0 = (-1) then
    some 0
  else
  if l0 = 1 then
    some 1
  else
    some (-1)
def X7_tally_L5 (h : HA) (l0 : Nat) (l1 : Nat) (l2 : Int32) : Nat → Int32 → Int32 → Option Int32
  | 0, _, _ => none
  | n + 1, l3, l4 =>
    (gR h l0 2 0).bind fun x1 =>
    (gI h x1 1 6).bind fun x2 =>
    if l4 < x2 then
      (gR h l0 2 5).bind fun x3 =>
      (ldI h x3 20 l4).bind fun x4 =>
      (X7_voteBy h l1 (x4 ||| l2)).bind fun x6 =>
      (X7_weight x6).bind fun x8 =>
      X7_tally_L5 h l0 l1 l2 n (l3 + x8) (l4 + 1)
    else
      some l3
def X7_tally (h : HA) (l0 : Nat) (l1 : Nat) (l2 : Int32) : Option Int32 :=
  (X7_tally_L5 h l0 l1 l2 FU 0 0).bind fun y10 =>
  some y10
def X7_verdictOf (l0 : Int32) : Option Int32 :=
  if l0 = 0 then
    some (-1)
  else
  if 0 < l0 then
    some 1
  else
    some 0
def X7_votes (h : HA) (t : Nat) (l1 : Int32) (l2 : Int32) (l3 : Int32) (l4 : Int32) : Option (Int32 × HA) :=
  if (kd h t).1 = 8 then
    (X7_listAt h t 2 l3).bind fun x2 =>
    match x2 with
    | none =>
      (X7_hallOf h t l1 l2).bind fun (x6, h5) =>
      match x6 with
      | none =>
        some ((-2), h5)
      | some z7 =>
        some ((-2), h5)
    | some z3 =>
      (X7_hallOf h t l1 l2).bind fun (x10, h9) =>
      match x10 with
      | none =>
        some ((-2), h9)
      | some z11 =>
        (X1_learnAll h9 z11).bind fun h13 =>
        if l4 = (-1) then
          (X7_tally h13 z11 z3 0).bind fun x15 =>
          (X7_verdictOf x15).bind fun x17 =>
          some (x17, h13)
        else
          (gR h13 z11 2 0).bind fun x18 =>
          (X0_hasJudge h13 x18 l4).bind fun x20 =>
          if x20 = 0 then
            some ((-2), h13)
          else
            (gR h13 z11 2 5).bind fun x21 =>
            (ldI h13 x21 20 l4).bind fun x22 =>
            (X7_voteBy h13 z3 x22).bind fun x24 =>
            some (x24, h13)
  else none
def X7_sway_L60 (h : HA) (l4 : Int32) (l5 : Nat) (l6 : Nat) (l7 : Int32) : Nat → Int32 → Int32 → Option Int32
  | 0, _, _ => none
  | n + 1, l8, l9 =>
    (gR h l6 2 0).bind fun x16 =>
    (gI h x16 1 6).bind fun x17 =>
    if l9 < x17 then
      (gR h l6 2 5).bind fun x18 =>
      (ldI h x18 20 l9).bind fun x19 =>
      (X7_voteBy h l5 x19).bind fun x21 =>
      (X7_weight x21).bind fun x23 =>
      (show Option Int32 from
        if l4 = 0 then
          some (-x23)
        else
          (X1_learnedByOtherEar h l6 l9).bind fun x28 =>
          (X7_voteBy h l5 x28).bind fun x30 =>
          (X7_weight x30).bind fun x32 =>
          some x32).bind fun j24 =>
      (X7_verdictOf ((l7 - x23) + j24)).bind fun x34 =>
      (X7_verdictOf l7).bind fun x36 =>
      if x34 = x36 then
        X7_sway_L60 h l4 l5 l6 l7 n l8 (l9 + 1)
      else
        X7_sway_L60 h l4 l5 l6 l7 n (l8 ||| (shlI 1 l9)) (l9 + 1)
    else
      some l8
def X7_sway (h : HA) (t : Nat) (l1 : Int32) (l2 : Int32) (l3 : Int32) (l4 : Int32) : Option (Int32 × HA) :=
  if (kd h t).1 = 8 then
    (X7_listAt h t 2 l3).bind fun x2 =>
    match x2 with
    | none =>
      (X7_hallOf h t l1 l2).bind fun (x6, h5) =>
      match x6 with
      | none =>
        some ((-1), h5)
      | some z7 =>
        some ((-1), h5)
    | some z3 =>
      (X7_hallOf h t l1 l2).bind fun (x10, h9) =>
      match x10 with
      | none =>
        some ((-1), h9)
      | some z11 =>
        if l4 < 0 then
          some ((-1), h9)
        else
        if 1 < l4 then
          some ((-1), h9)
        else
          (X1_learnAll h9 z11).bind fun h13 =>
          (X7_tally h13 z11 z3 0).bind fun x15 =>
          (X7_sway_L60 h13 l4 z3 z11 x15 FU 0 0).bind fun y38 =>
          some (y38, h13)
  else none
def X7_sold (h : HA) (t : Nat) (l1 : Int32) (l2 : Int32) (l3 : Int32) (l4 : Int32) : Option (Int32 × HA) :=
  if (kd h t).1 = 8 then
    (X7_hallOf h t l1 l2).bind fun (x3, h2) =>
    match x3 with
    | none =>
      some ((-1), h2)
    | some z4 =>
      (gR h2 z4 2 0).bind fun x5 =>
      (gI h2 x5 1 6).bind fun x6 =>
      if x6 = 0 then
        some ((-1), h2)
      else
        (X1_learnAll h2 z4).bind fun h8 =>
        if l3 = (-1) then
          (X1_dearest h8 z4).bind fun x10 =>
          some (x10, h8)
        else
          (gR h8 z4 2 0).bind fun x11 =>
          (X0_hasJudge h8 x11 l3).bind fun x13 =>
          if x13 = 0 then
            some ((-1), h8)
          else
          if l4 = 0 then
            (X1_lossOfSold h8 z4 l3).bind fun x15 =>
            some (x15, h8)
          else
            (X1_gainOfThird h8 z4 l3).bind fun x17 =>
            some (x17, h8)
  else none
def X7_seats (h : HA) (t : Nat) (l1 : Int32) (l2 : Int32) (l3 : Int32) : Option (Int32 × HA) :=
  if (kd h t).1 = 8 then
    (X7_hallOf h t l1 l2).bind fun (x3, h2) =>
    match x3 with
    | none =>
      some ((-1), h2)
    | some z4 =>
      (show Option ((Int32 × HA) ⊕ Unit) from
        if l3 = (-1) then
          some (.inr ())
        else
          (gR h2 z4 2 0).bind fun x7 =>
          (X0_hasJudge h2 x7 l3).bind fun x9 =>
          if x9 = 0 then
            some (.inl ((-1), h2))
          else
            some (.inr ())).bind fun s9 =>
      match s9 with
      | .inl r19 =>
        some r19
      | .inr () =>
        (gR h2 t 8 4).bind fun x10 =>
        (X4_settle h2 x10 z4).bind fun h12 =>
        if l3 = (-1) then
          (gR h12 t 8 4).bind fun x13 =>
          (gR h12 x13 5 1).bind fun x14 =>
          (ldI h12 x14 20 0).bind fun x15 =>
          some (x15, h12)
        else
          (gR h12 t 8 4).bind fun x16 =>
          (X4_seatOf h12 x16 l3).bind fun x18 =>
          some (x18, h12)
  else none
def X7_claim (h : HA) (t : Nat) (l1 : Int32) (l2 : Int32) (l3 : Int32) : Option Int32 :=
  if (kd h t).1 = 8 then
    (X7_listAt h t 3 l1).bind fun x2 =>
    match x2 with
    | none =>
      (X7_cellOf h none l2 l3).bind fun x5 =>
      some x5
    | some z3 =>
      (X7_cellOf h (some z3) l2 l3).bind fun x7 =>
      some x7
  else none
def X7_readerOf_L20 (h : HA) (l0 : Nat) (l1 : Int32) (l4 : Int32) : Nat → Int32 → Int32 → Option Int32
  | 0, _, _ => none
  | n + 1, l5, l6 =>
    (gI h l0 3 2).bind fun x1 =>
    if l6 < x1 then
      (X7_has l1.toInt64 l6).bind fun x3 =>
      if x3 = 0 then
        X7_readerOf_L20 h l0 l1 l4 n l5 (l6 + 1)
      else
        (X2_at h l0 l6 0).bind fun x5 =>
        if x5 = l4 then
          X7_readerOf_L20 h l0 l1 l4 n (l5 + 1) (l6 + 1)
        else
          X7_readerOf_L20 h l0 l1 l4 n l5 (l6 + 1)
    else
      some l5
def X7_readerOf_L7 (h : HA) (l0 : Nat) (l1 : Int32) : Nat → Int32 → Int32 → Int32 → Option Int32
  | 0, _, _, _ => none
  | n + 1, l2, l3, l4 =>
    if l4 < 6 then
      (X7_readerOf_L20 h l0 l1 l4 FU 0 0).bind fun y7 =>
      if l3 < y7 then
        X7_readerOf_L7 h l0 l1 n l4 y7 (l4 + 1)
      else
        X7_readerOf_L7 h l0 l1 n l2 l3 (l4 + 1)
    else
      some l2
def X7_readerOf (h : HA) (l0 : Nat) (l1 : Int32) : Option Int32 :=
  (X7_readerOf_L7 h l0 l1 FU (-1) 0 0).bind fun y9 =>
  some y9
def X7_lips_L54 (h : HA) (l5 : Nat) (l6 : Nat) : Nat → Int32 → Int32 → Int32 → Option (Int32 × Int32)
  | 0, _, _, _ => none
  | n + 1, l7, l8, l9 =>
    (gI h l5 3 2).bind fun x14 =>
    if l9 < x14 then
      (X2_at h l5 l9 0).bind fun x16 =>
      (X2_at h l5 l9 1).bind fun x18 =>
      (gR h l6 2 0).bind fun x19 =>
      (X0_hasJudge h x19 x16).bind fun x21 =>
      if x21 = 0 then
        if x21 = 0 then
          X7_lips_L54 h l5 l6 n (l7 ||| (shlI 1 l9)) l8 (l9 + 1)
        else
          (X1_wordsSeen h l6 x16).bind fun x23 =>
          (X7_has x23.toInt64 x18).bind fun x25 =>
          if x25 = 0 then
            X7_lips_L54 h l5 l6 n (l7 ||| (shlI 1 l9)) l8 (l9 + 1)
          else
            X7_lips_L54 h l5 l6 n (l7 ||| (shlI 1 l9)) (l8 ||| (shlI 1 l9)) (l9 + 1)
      else
        (gR h l6 2 5).bind fun x26 =>
        (ldI h x26 20 x16).bind fun x27 =>
        (X7_has x27.toInt64 x18).bind fun x29 =>
        if x29 = 0 then
          if x21 = 0 then
            X7_lips_L54 h l5 l6 n (l7 ||| (shlI 1 l9)) l8 (l9 + 1)
          else
            (X1_wordsSeen h l6 x16).bind fun x31 =>
            (X7_has x31.toInt64 x18).bind fun x33 =>
            if x33 = 0 then
              X7_lips_L54 h l5 l6 n (l7 ||| (shlI 1 l9)) l8 (l9 + 1)
            else
              X7_lips_L54 h l5 l6 n (l7 ||| (shlI 1 l9)) (l8 ||| (shlI 1 l9)) (l9 + 1)
        else
          X7_lips_L54 h l5 l6 n l7 l8 (l9 + 1)
    else
      some (l7, l8)
def X7_lips (h : HA) (t : Nat) (l1 : Int32) (l2 : Int32) (l3 : Int32) (l4 : Int32) : Option (Int32 × HA) :=
  if (kd h t).1 = 8 then
    (X7_listAt h t 3 l3).bind fun x2 =>
    match x2 with
    | none =>
      (X7_hallOf h t l1 l2).bind fun (x6, h5) =>
      match x6 with
      | none =>
        some ((-2), h5)
      | some z7 =>
        some ((-2), h5)
    | some z3 =>
      (X7_hallOf h t l1 l2).bind fun (x10, h9) =>
      match x10 with
      | none =>
        some ((-2), h9)
      | some z11 =>
        if l4 < 0 then
          some ((-2), h9)
        else
        if 3 < l4 then
          some ((-2), h9)
        else
          (X1_learnAll h9 z11).bind fun h13 =>
          (X7_lips_L54 h13 z3 z11 FU 0 0 0).bind fun (y35, y36) =>
          if l4 = 0 then
            some (y35, h13)
          else
          if l4 = 1 then
            some (y36, h13)
          else
          if l4 = 2 then
            some ((y35 &&& (y36 ^^^ (-1))), h13)
          else
            (X7_readerOf h13 z3 y36).bind fun x38 =>
            some (x38, h13)
  else none
def X7_drawn (h : HA) (t : Nat) (l1 : Int32) (l2 : Int32) (l3 : Int32) (l4 : Int32) (l5 : Int32) : Option (Int32 × HA) :=
  if (kd h t).1 = 8 then
    (X7_hallOf h t l1 l2).bind fun (x3, h2) =>
    match x3 with
    | none =>
      some ((-1), h2)
    | some z4 =>
      if l4 < 0 then
        some ((-1), h2)
      else
      if 100 < l4 then
        some ((-1), h2)
      else
        (show Option ((Int32 × HA) ⊕ Unit) from
          if l5 = 0 then
            some (.inr ())
          else
          if l5 = 1 then
            some (.inr ())
          else
          if l5 < 10 then
            some (.inl ((-1), h2))
          else
            (gR h2 z4 2 0).bind fun x7 =>
            (X0_hasJudge h2 x7 (l5 - 10)).bind fun x9 =>
            if x9 = 0 then
              some (.inl ((-1), h2))
            else
              some (.inr ())).bind fun s9 =>
        match s9 with
        | .inl r18 =>
          some r18
        | .inr () =>
          (X1_thunder h2 z4 l3 l4).bind fun (x12, h11) =>
          if l5 = 1 then
            some (x12, h11)
          else
          if l5 = 0 then
            (X1_allLearned h11 z4 0).bind fun x14 =>
            some (x14, h11)
          else
            (gI h11 z4 2 2).bind fun x15 =>
            (X1_learned h11 z4 (l5 - 10) x15).bind fun x17 =>
            some (x17, h11)
  else none
def X7_hush_L46 (h : HA) (l2 : Int32) (l3 : Int32) (l4 : Int32) (l5 : Nat) : Nat → Int32 → Option (Int32 × HA)
  | 0, _ => none
  | n + 1, l6 =>
    if 9 < l6 then
      some ((-1), h)
    else
      (X0_earsAt h l5 l2 l3 l6).bind fun x10 =>
      (J6_bitCount_0f7a4 x10).bind fun x12 =>
      if x12 < l4 then
        X7_hush_L46 h l2 l3 l4 l5 n (l6 + 1)
      else
        some (l6, h)
def X7_hush (h : HA) (t : Nat) (l1 : Int32) (l2 : Int32) (l3 : Int32) (l4 : Int32) : Option (Int32 × HA) :=
  if (kd h t).1 = 8 then
    (X7_courtAt h t l1).bind fun (x3, h2) =>
    match x3 with
    | none =>
      some ((-1), h2)
    | some z4 =>
      (X0_isOpen h2 z4 l2).bind fun x6 =>
      if x6 = 0 then
        some ((-1), h2)
      else
        (X7_isHour l3).bind fun x8 =>
        if x8 = 0 then
          some ((-1), h2)
        else
        if l4 < 1 then
          some ((-1), h2)
        else
        if 6 < l4 then
          some ((-1), h2)
        else
          X7_hush_L46 h2 l2 l3 l4 z4 FU 0
  else none
def X7_bench_L41 (h : HA) (l3 : Int32) (l4 : Nat) : Nat → Int32 → Int32 → Int32 → Option Int32
  | 0, _, _, _ => none
  | n + 1, l5, l6, l7 =>
    if l7 < 4 then
      (show Option Int32 from
        if l3 = (-1) then
          (X1_allLearned h l4 l7).bind fun x14 =>
          some x14
        else
          (X1_knownFacing h l4 l3 l7).bind fun x16 =>
          some x16).bind fun j10 =>
      if l6 < j10 then
        X7_bench_L41 h l3 l4 n l7 j10 (l7 + 1)
      else
        X7_bench_L41 h l3 l4 n l5 l6 (l7 + 1)
    else
      some l5
def X7_bench (h : HA) (t : Nat) (l1 : Int32) (l2 : Int32) (l3 : Int32) : Option (Int32 × HA) :=
  if (kd h t).1 = 8 then
    (X7_hallOf h t l1 l2).bind fun (x3, h2) =>
    match x3 with
    | none =>
      some ((-1), h2)
    | some z4 =>
      (show Option ((Int32 × HA) ⊕ Unit) from
        if l3 = (-1) then
          some (.inr ())
        else
          (gR h2 z4 2 0).bind fun x7 =>
          (X0_hasJudge h2 x7 l3).bind fun x9 =>
          if x9 = 0 then
            some (.inl ((-1), h2))
          else
            some (.inr ())).bind fun s9 =>
      match s9 with
      | .inl r19 =>
        some r19
      | .inr () =>
        (X7_bench_L41 h2 l3 z4 FU 0 (-1) 0).bind fun y18 =>
        some (y18, h2)
  else none
def X7_idle_L47 (h : HA) (l4 : Nat) (l5 : Nat) : Nat → Int32 → Int32 → Option Int32
  | 0, _, _ => none
  | n + 1, l6, l7 =>
    (gR h l5 2 0).bind fun x15 =>
    (gI h x15 1 6).bind fun x16 =>
    if l7 < x16 then
      (gR h l5 2 5).bind fun x17 =>
      (ldI h x17 20 l7).bind fun x18 =>
      (X7_ruleFor h l4 x18).bind fun x20 =>
      if x20 = (-1) then
        X7_idle_L47 h l4 l5 n l6 (l7 + 1)
      else
        X7_idle_L47 h l4 l5 n (l6 &&& ((shlI 1 x20) ^^^ (-1))) (l7 + 1)
    else
      some l6
def X7_idle (h : HA) (t : Nat) (l1 : Int32) (l2 : Int32) (l3 : Int32) : Option (Int32 × HA) :=
  if (kd h t).1 = 8 then
    (X7_listAt h t 2 l3).bind fun x2 =>
    match x2 with
    | none =>
      (X7_hallOf h t l1 l2).bind fun (x6, h5) =>
      match x6 with
      | none =>
        some ((-1), h5)
      | some z7 =>
        some ((-1), h5)
    | some z3 =>
      (X7_hallOf h t l1 l2).bind fun (x10, h9) =>
      match x10 with
      | none =>
        some ((-1), h9)
      | some z11 =>
        (X1_learnAll h9 z11).bind fun h13 =>
        (gI h13 z3 3 2).bind fun x14 =>
        (X7_idle_L47 h13 z3 z11 FU ((shlI 1 x14) - 1) 0).bind fun y22 =>
        some (y22, h13)
  else none
def X7_namedIn_L4 (h : HA) (l0 : Nat) : Nat → Int32 → Int32 → Option Int32
  | 0, _, _ => none
  | n + 1, l1, l2 =>
    (gI h l0 3 2).bind fun x1 =>
    if l2 < x1 then
      (X2_at h l0 l2 1).bind fun x3 =>
      (X2_at h l0 l2 2).bind fun x5 =>
      lett (α := Int32) (if x3 = (-1) then 0 else (shlI 1 x3)) fun j6 =>
      if x5 = (-1) then
        X7_namedIn_L4 h l0 n ((l1 ||| j6) ||| 0) (l2 + 1)
      else
        X7_namedIn_L4 h l0 n ((l1 ||| j6) ||| (shlI 1 x5)) (l2 + 1)
    else
      some l1
def X7_namedIn (h : HA) (l0 : Nat) : Option Int32 :=
  (X7_namedIn_L4 h l0 FU 0 0).bind fun y10 =>
  some y10
def X7_persuade_L66 (h : HA) (l4 : Int32) (l5 : Nat) (l6 : Nat) (l7 : Int32) : Nat → Int32 → Int32 → Int32 → Option Int32
  | 0, _, _, _ => none
  | n + 1, l8, l9, l10 =>
    if l10 < 1024 then
      if (l10 &&& (l7 ^^^ (-1))) = 0 then
        (J6_bitCount_0f7a4 l10).bind fun x19 =>
        if x19 < l9 then
          (X7_tally h l6 l5 l10).bind fun x21 =>
          (X7_verdictOf x21).bind fun x23 =>
          if x23 = l4 then
            (J6_bitCount_0f7a4 l10).bind fun x25 =>
            X7_persuade_L66 h l4 l5 l6 l7 n l10 x25 (l10 + 1)
          else
            X7_persuade_L66 h l4 l5 l6 l7 n l8 l9 (l10 + 1)
        else
          X7_persuade_L66 h l4 l5 l6 l7 n l8 l9 (l10 + 1)
      else
        X7_persuade_L66 h l4 l5 l6 l7 n l8 l9 (l10 + 1)
    else
      some l8
def X7_persuade (h : HA) (t : Nat) (l1 : Int32) (l2 : Int32) (l3 : Int32) (l4 : Int32) : Option (Int32 × HA) :=
  if (kd h t).1 = 8 then
    (X7_listAt h t 2 l3).bind fun x2 =>
    match x2 with
    | none =>
      (X7_hallOf h t l1 l2).bind fun (x6, h5) =>
      match x6 with
      | none =>
        some ((-1), h5)
      | some z7 =>
        some ((-1), h5)
    | some z3 =>
      (X7_hallOf h t l1 l2).bind fun (x10, h9) =>
      match x10 with
      | none =>
        some ((-1), h9)
      | some z11 =>
        if l4 < 0 then
          some ((-1), h9)
        else
        if 1 < l4 then
          some ((-1), h9)
        else
          (X1_learnAll h9 z11).bind fun h13 =>
          (X7_namedIn h13 z3).bind fun x15 =>
          (J6_bitCount_0f7a4 x15).bind fun x17 =>
          (X7_persuade_L66 h13 l4 z3 z11 x15 FU (-1) (x17 + 1) 0).bind fun y27 =>
          some (y27, h13)
  else none
def X7_carve_L9 (t : Nat) (l1 : Nat) (l2 : Int32) : Nat → HA → Int32 → Int32 → Int32 → Option (Int32 × HA)
  | 0, _, _, _, _ => none
  | n + 1, h, l3, l4, l5 =>
    if l5 < 64 then
      (gJ h l1 1 2).bind fun x1 =>
      (X7_has x1 l5).bind fun x3 =>
      if x3 = 0 then
        X7_carve_L9 t l1 l2 n h l3 l4 (l5 + 1)
      else
        (gR h t 8 2).bind fun x4 =>
        (gR h x4 4 0).bind fun x5 =>
        (X0_copyFrom h x5 l1).bind fun h7 =>
        (gJ h7 x5 1 2).bind fun x8 =>
        (pJ h7 x5 1 2 (x8 &&& ((shlJ 1 l5) ^^^ (-1)))).bind fun h9 =>
        (X0_measure h9 x5).bind fun h11 =>
        (X0_lay h11 x5).bind fun h13 =>
        (X0_blind h13 x5 0 l2).bind fun x15 =>
        if x15 < l4 then
          X7_carve_L9 t l1 l2 n h13 l5 x15 (l5 + 1)
        else
          X7_carve_L9 t l1 l2 n h13 l3 l4 (l5 + 1)
    else
      some (l3, h)
def X7_carve (h : HA) (t : Nat) (l1 : Nat) (l2 : Int32) : Option (Int32 × HA) :=
  if (kd h t).1 = 8 then
    (X7_carve_L9 t l1 l2 FU h (-1) 65 0).bind fun (y17, h18) =>
    some (y17, h18)
  else none
def X7_areas (h : HA) (t : Nat) (l1 : Int32) (l2 : Int32) : Option (Int32 × HA) :=
  if (kd h t).1 = 8 then
    (X7_courtAt h t l1).bind fun (x3, h2) =>
    match x3 with
    | none =>
      some ((-1), h2)
    | some z4 =>
      (show Option ((Int32 × HA) ⊕ Unit) from
        if l2 = (-1) then
          some (.inr ())
        else
          (X7_isLoud l2).bind fun x8 =>
          if x8 = 0 then
            some (.inl ((-1), h2))
          else
            some (.inr ())).bind fun s9 =>
      match s9 with
      | .inl r14 =>
        some r14
      | .inr () =>
        if l2 = (-1) then
          (X0_parts h2 z4).bind fun x10 =>
          some (x10, h2)
        else
          (X7_carve h2 t z4 l2).bind fun (x13, h12) =>
          some (x13, h12)
  else none
def X7_mouth_L24 (h : HA) (l4 : Nat) : Nat → Int32 → Int32 → Int32 → Option (Int32 × Int32)
  | 0, _, _, _ => none
  | n + 1, l5, l6, l7 =>
    (gR h l4 2 0).bind fun x5 =>
    (gI h x5 1 8).bind fun x6 =>
    if l7 < x6 then
      (X1_hearersOf h l4 l7).bind fun x8 =>
      if l6 < x8 then
        X7_mouth_L24 h l4 n l7 x8 (l7 + 1)
      else
        X7_mouth_L24 h l4 n l5 l6 (l7 + 1)
    else
      some (l5, l6)
def X7_mouth (h : HA) (t : Nat) (l1 : Int32) (l2 : Int32) (l3 : Int32) : Option (Int32 × HA) :=
  if (kd h t).1 = 8 then
    (X7_hallOf h t l1 l2).bind fun (x3, h2) =>
    match x3 with
    | none =>
      some ((-1), h2)
    | some z4 =>
      (X7_mouth_L24 h2 z4 FU (-1) 0 0).bind fun (y10, y11) =>
      if l3 = 0 then
        some (y10, h2)
      else
      if y10 = (-1) then
        some (y10, h2)
      else
        some (y11, h2)
  else none
def X7_rift_L63 (h : HA) (l4 : Nat) (l8 : Int32) : Nat → Int32 → Int32 → Int32 → Int32 → Option (Int32 × Int32 × Int32)
  | 0, _, _, _, _ => none
  | n + 1, l5, l6, l7, l9 =>
    (gR h l4 2 0).bind fun x11 =>
    (gI h x11 1 6).bind fun x12 =>
    if l9 < x12 then
      (gR h l4 2 5).bind fun x13 =>
      (ldI h x13 20 l8).bind fun x14 =>
      (gR h l4 2 5).bind fun x15 =>
      (ldI h x15 20 l9).bind fun x16 =>
      (J6_bitCount_0f7a4 (x14 ^^^ x16)).bind fun x18 =>
      if l7 < x18 then
        X7_rift_L63 h l4 l8 n l8 l9 x18 (l9 + 1)
      else
        X7_rift_L63 h l4 l8 n l5 l6 l7 (l9 + 1)
    else
      some (l5, l6, l7)
def X7_rift_L44 (h : HA) (l4 : Nat) : Nat → Int32 → Int32 → Int32 → Int32 → Option (Int32 × Int32 × Int32)
  | 0, _, _, _, _ => none
  | n + 1, l5, l6, l7, l8 =>
    (gR h l4 2 0).bind fun x9 =>
    (gI h x9 1 6).bind fun x10 =>
    if l8 < x10 then
      (X7_rift_L63 h l4 l8 FU l5 l6 l7 (l8 + 1)).bind fun (y20, y21, y22) =>
      X7_rift_L44 h l4 n y20 y21 y22 (l8 + 1)
    else
      some (l5, l6, l7)
def X7_rift (h : HA) (t : Nat) (l1 : Int32) (l2 : Int32) (l3 : Int32) : Option (Int32 × HA) :=
  if (kd h t).1 = 8 then
    (X7_hallOf h t l1 l2).bind fun (x3, h2) =>
    match x3 with
    | none =>
      some ((-1), h2)
    | some z4 =>
      (gR h2 z4 2 0).bind fun x5 =>
      (gI h2 x5 1 6).bind fun x6 =>
      if x6 < 2 then
        some ((-1), h2)
      else
        (X1_learnAll h2 z4).bind fun h8 =>
        (X7_rift_L44 h8 z4 FU 0 1 (-1) 0).bind fun (y24, y25, y26) =>
        if l3 = 0 then
          some (y24, h8)
        else
        if l3 = 1 then
          some (y25, h8)
        else
        if l3 = 2 then
          some (y26, h8)
        else
          some ((-1), h8)
  else none
def X7_count (h : HA) (t : Nat) (l1 : Int32) : Option Int32 :=
  if (kd h t).1 = 8 then
    if l1 < 0 then
      some (-2)
    else
    if l1 < 4 then
      (gR h t 8 0).bind fun x1 =>
      (gR h x1 6 4).bind fun x2 =>
      (ldI h x2 20 l1).bind fun x3 =>
      some x3
    else
      some (-2)
  else none
def X7_image (h : HA) (t : Nat) (l1 : Int32) : Option (Int32 × HA) :=
  if (kd h t).1 = 8 then
    if l1 < 0 then
      some (0, h)
    else
    if l1 < 3 then
      (gR h t 8 1).bind fun x1 =>
      (ldN h x1 24 l1).bind fun x2 =>
      match x2 with
      | none =>
        (gR h t 8 1).bind fun x4 =>
        lett (α := HA) (nw h 6 0) fun h5 =>
        (X5_init h5 (hz h)).bind fun h7 =>
        (asR h7 x4 24 l1 (hz h)).bind fun h8 =>
        (gR h8 t 8 1).bind fun x9 =>
        (ldN h8 x9 24 l1).bind fun x10 =>
        match x10 with
        | none =>
          (gR h8 t 8 0).bind fun x12 =>
          none
        | some z11 =>
          (gR h8 t 8 0).bind fun x13 =>
          (X5_copyFrom h8 z11 x13).bind fun h15 =>
          some (1, h15)
      | some z3 =>
        (gR h t 8 1).bind fun x16 =>
        (ldN h x16 24 l1).bind fun x17 =>
        match x17 with
        | none =>
          (gR h t 8 0).bind fun x19 =>
          none
        | some z18 =>
          (gR h t 8 0).bind fun x20 =>
          (X5_copyFrom h z18 x20).bind fun h22 =>
          some (1, h22)
    else
      some (0, h)
  else none
def X7_again (h : HA) (t : Nat) (l1 : Int32) : Option (Int32 × HA) :=
  if (kd h t).1 = 8 then
    if l1 < 0 then
      some (0, h)
    else
    if l1 < 3 then
      (gR h t 8 1).bind fun x1 =>
      (ldN h x1 24 l1).bind fun x2 =>
      match x2 with
      | none =>
        some (0, h)
      | some z3 =>
        (gR h t 8 0).bind fun x4 =>
        (gR h t 8 1).bind fun x5 =>
        (ldN h x5 24 l1).bind fun x6 =>
        match x6 with
        | none =>
          none
        | some z7 =>
          (X5_copyFrom h x4 z7).bind fun h9 =>
          some (1, h9)
    else
      some (0, h)
  else none
def X8_init (h : HA) (t : Nat) : Option HA :=
  if (kd h t).1 = 9 then
    (nA h 22 2400 2400).bind fun h1 =>
    (pR h1 t 9 1 (some (hz h))).bind fun h2 =>
    (nA h2 20 4 4).bind fun h3 =>
    (pR h3 t 9 2 (some (hz h2))).bind fun h4 =>
    (nA h4 20 4 4).bind fun h5 =>
    (pR h5 t 9 3 (some (hz h4))).bind fun h6 =>
    (nA h6 20 4 4).bind fun h7 =>
    (pR h7 t 9 4 (some (hz h6))).bind fun h8 =>
    (nA h8 20 16 16).bind fun h9 =>
    (pR h9 t 9 5 (some (hz h8))).bind fun h10 =>
    (nA h10 20 848 848).bind fun h11 =>
    (pR h11 t 9 6 (some (hz h10))).bind fun h12 =>
    (nA h12 20 968 968).bind fun h13 =>
    (pR h13 t 9 7 (some (hz h12))).bind fun h14 =>
    (nA h14 20 200 200).bind fun h15 =>
    (pR h15 t 9 8 (some (hz h14))).bind fun h16 =>
    (nA h16 20 200 200).bind fun h17 =>
    (pR h17 t 9 9 (some (hz h16))).bind fun h18 =>
    (nA h18 20 121 121).bind fun h19 =>
    (pR h19 t 9 19 (some (hz h18))).bind fun h20 =>
    (nA h20 20 5 5).bind fun h21 =>
    (pR h21 t 9 20 (some (hz h20))).bind fun h22 =>
    (nA h22 20 4 4).bind fun h23 =>
    (pR h23 t 9 23 (some (hz h22))).bind fun h24 =>
    (nA h24 20 4096 4096).bind fun h25 =>
    (pR h25 t 9 30 (some (hz h24))).bind fun h26 =>
    (nA h26 20 64 64).bind fun h27 =>
    (pR h27 t 9 31 (some (hz h26))).bind fun h28 =>
    (nA h28 20 16384 16384).bind fun h29 =>
    (pR h29 t 9 32 (some (hz h28))).bind fun h30 =>
    (nA h30 20 16384 16384).bind fun h31 =>
    (pR h31 t 9 33 (some (hz h30))).bind fun h32 =>
    (nA h32 22 16384 16384).bind fun h33 =>
    (pR h33 t 9 34 (some (hz h32))).bind fun h34 =>
    (nA h34 20 16384 16384).bind fun h35 =>
    (pR h35 t 9 35 (some (hz h34))).bind fun h36 =>
    (nA h36 20 60 60).bind fun h37 =>
    (pR h37 t 9 36 (some (hz h36))).bind fun h38 =>
    (nA h38 20 8 8).bind fun h39 =>
    (pR h39 t 9 41 (some (hz h38))).bind fun h40 =>
    (nA h40 20 30 30).bind fun h41 =>
    (pR h41 t 9 42 (some (hz h40))).bind fun h42 =>
    (nA h42 20 30 30).bind fun h43 =>
    (pR h43 t 9 43 (some (hz h42))).bind fun h44 =>
    (nA h44 20 30 30).bind fun h45 =>
    (pR h45 t 9 44 (some (hz h44))).bind fun h46 =>
    (nA h46 20 30 30).bind fun h47 =>
    (pR h47 t 9 45 (some (hz h46))).bind fun h48 =>
    (nA h48 20 30 30).bind fun h49 =>
    (pR h49 t 9 46 (some (hz h48))).bind fun h50 =>
    (nA h50 20 6 6).bind fun h51 =>
    (pR h51 t 9 48 (some (hz h50))).bind fun h52 =>
    (nA h52 20 36 36).bind fun h53 =>
    (pR h53 t 9 49 (some (hz h52))).bind fun h54 =>
    (nA h54 20 6 6).bind fun h55 =>
    (pR h55 t 9 50 (some (hz h54))).bind fun h56 =>
    (nA h56 20 6 6).bind fun h57 =>
    (pR h57 t 9 51 (some (hz h56))).bind fun h58 =>
    (nA h58 23 3 3).bind fun h59 =>
    (pR h59 t 9 54 (some (hz h58))).bind fun h60 =>
    (gR h60 t 9 4).bind fun x61 =>
    (asI h60 x61 20 0 (-1)).bind fun h62 =>
    some h62
  else none
def X8_in (l0 : Int32) (l1 : Int32) (l2 : Int32) : Option Int32 :=
  if l0 < l1 then
    some 0
  else
  if l2 < l0 then
    some 0
  else
    some 1
def X8_has (l0 : Int32) (l1 : Int32) : Option Int32 :=
  if ((shrI l0 l1) &&& 1) = 1 then
    some 1
  else
    some 0
def X8_ones_L4 (l0 : Int32) : Nat → Int32 → Int32 → Option Int32
  | 0, _, _ => none
  | n + 1, l1, l2 =>
    if l2 < 16 then
      (X8_has l0 l2).bind fun x2 =>
      if x2 = 0 then
        X8_ones_L4 l0 n (l1 + 0) (l2 + 1)
      else
        X8_ones_L4 l0 n (l1 + 1) (l2 + 1)
    else
      some l1
def X8_ones (l0 : Int32) : Option Int32 :=
  (X8_ones_L4 l0 FU 0 0).bind fun y4 =>
  some y4
def X8_greater (l0 : Int32) (l1 : Int32) : Option Int32 :=
  if l1 < l0 then
    some l0
  else
    some l1
def X8_copyRow_L3 (l0 : Nat) (l1 : Int32) (l2 : Int32) (l3 : Int32) : Nat → HA → Int32 → Option HA
  | 0, _, _ => none
  | n + 1, h, l4 =>
    if l4 < l1 then
      (ldI h l0 20 ((l1 * l2) + l4)).bind fun x1 =>
      (asI h l0 20 ((l1 * l3) + l4) x1).bind fun h2 =>
      X8_copyRow_L3 l0 l1 l2 l3 n h2 (l4 + 1)
    else
      some h
def X8_copyRow (h : HA) (l0 : Nat) (l1 : Int32) (l2 : Int32) (l3 : Int32) : Option HA :=
  (X8_copyRow_L3 l0 l1 l2 l3 FU h 0).bind fun h4 =>
  some h4
def X8_copyAll_L2 (t : Nat) (l1 : Int32) (l2 : Int32) : Nat → HA → Int32 → Option HA
  | 0, _, _ => none
  | n + 1, h, l3 =>
    if l3 < 600 then
      (gR h t 9 1).bind fun x1 =>
      (gR h t 9 1).bind fun x2 =>
      (ldI h x2 22 ((600 * l1) + l3)).bind fun x3 =>
      (asI h x1 22 ((600 * l2) + l3) (toB x3)).bind fun h4 =>
      X8_copyAll_L2 t l1 l2 n h4 (l3 + 1)
    else
      some h
def X8_copyAll (h : HA) (t : Nat) (l1 : Int32) (l2 : Int32) : Option HA :=
  if (kd h t).1 = 9 then
    (X8_copyAll_L2 t l1 l2 FU h 0).bind fun h6 =>
    (gR h6 t 9 2).bind fun x7 =>
    (X8_copyRow h6 x7 1 l1 l2).bind fun h9 =>
    (gR h9 t 9 3).bind fun x10 =>
    (X8_copyRow h9 x10 1 l1 l2).bind fun h12 =>
    (gR h12 t 9 4).bind fun x13 =>
    (X8_copyRow h12 x13 1 l1 l2).bind fun h15 =>
    (gR h15 t 9 5).bind fun x16 =>
    (X8_copyRow h15 x16 4 l1 l2).bind fun h18 =>
    (gR h18 t 9 6).bind fun x19 =>
    (X8_copyRow h18 x19 212 l1 l2).bind fun h21 =>
    (gR h21 t 9 7).bind fun x22 =>
    (X8_copyRow h21 x22 242 l1 l2).bind fun h24 =>
    (gR h24 t 9 8).bind fun x25 =>
    (X8_copyRow h24 x25 50 l1 l2).bind fun h27 =>
    (gR h27 t 9 9).bind fun x28 =>
    (X8_copyRow h27 x28 50 l1 l2).bind fun h30 =>
    some h30
  else none
def X8_is (h : HA) (t : Nat) (l1 : Int32) (l2 : Int32) : Option Int32 :=
  if (kd h t).1 = 9 then
    (gR h t 9 5).bind fun x1 =>
    (ldI h x1 20 l1).bind fun x2 =>
    (X8_in l2 0 (x2 - 1)).bind fun x4 =>
    (bz x4).bind fun x5 =>
    some x5
  else none
def X8_four_L3 (t : Nat) (l1 : Int32) : Nat → HA → Int32 → Option HA
  | 0, _, _ => none
  | n + 1, h, l2 =>
    if l2 < 0 then
      some h
    else
      (gR h t 9 1).bind fun x1 =>
      (gR h t 9 2).bind fun x2 =>
      (ldI h x2 20 0).bind fun x3 =>
      (asI h x1 22 x3 (toB (toB (shrI l1 l2)))).bind fun h4 =>
      (gR h4 t 9 2).bind fun x5 =>
      (ldI h4 x5 20 0).bind fun x6 =>
      (asI h4 x5 20 0 (x6 + 1)).bind fun h7 =>
      X8_four_L3 t l1 n h7 (l2 + (-8))
def X8_four (h : HA) (t : Nat) (l1 : Int32) : Option HA :=
  if (kd h t).1 = 9 then
    (X8_four_L3 t l1 FU h 24).bind fun h9 =>
    some h9
  else none
def X8_feed (h : HA) (t : Nat) (l1 : Int32) (l2 : Int32) (l3 : Int32) (l4 : Int32) (l5 : Int32) : Option (Int32 × HA) :=
  if (kd h t).1 = 9 then
    (pI h t 9 0 0).bind fun h1 =>
    (gR h1 t 9 2).bind fun x2 =>
    (ldI h1 x2 20 0).bind fun x3 =>
    if 600 < (x3 + 20) then
      some ((-1), h1)
    else
      (X8_four h1 t l1).bind fun h5 =>
      (X8_four h5 t l2).bind fun h7 =>
      (X8_four h7 t l3).bind fun h9 =>
      (X8_four h9 t l4).bind fun h11 =>
      (X8_four h11 t l5).bind fun h13 =>
      (gR h13 t 9 2).bind fun x14 =>
      (ldI h13 x14 20 0).bind fun x15 =>
      some (x15, h13)
  else none
def X8_end (h : HA) (t : Nat) (l1 : Int32) : Option (Int32 × HA) :=
  if (kd h t).1 = 9 then
    (pI h t 9 0 0).bind fun h1 =>
    (gR h1 t 9 2).bind fun x2 =>
    (ldI h1 x2 20 0).bind fun x3 =>
    (X8_in l1 0 x3).bind fun x5 =>
    if x5 = 0 then
      some ((-1), h1)
    else
      (gR h1 t 9 2).bind fun x6 =>
      (asI h1 x6 20 0 l1).bind fun h7 =>
      some (l1, h7)
  else none
def X8_see (h : HA) (t : Nat) : Option Int32 :=
  if (kd h t).1 = 9 then
    (gI h t 9 10).bind fun x1 =>
    (gI h t 9 11).bind fun x2 =>
    if x1 < x2 then
      (gR h t 9 1).bind fun x3 =>
      (gI h t 9 10).bind fun x4 =>
      (ldI h x3 22 x4).bind fun x5 =>
      some (x5 &&& 255)
    else
      some (-1)
  else none
def X8_token_L0 (t : Nat) : Nat → HA → Option HA
  | 0, _ => none
  | n + 1, h =>
    (X8_see h t).bind fun x2 =>
    if x2 = 10 then
      (gI h t 9 10).bind fun x3 =>
      (pI h t 9 10 (x3 + 1)).bind fun h4 =>
      X8_token_L0 t n h4
    else
      (X8_see h t).bind fun x6 =>
      if x6 = 32 then
        (gI h t 9 10).bind fun x7 =>
        (pI h t 9 10 (x7 + 1)).bind fun h8 =>
        X8_token_L0 t n h8
      else
        some h
def X8_token_L163 (t : Nat) : Nat → HA → Int32 → Option (Int32 × HA)
  | 0, _, _ => none
  | n + 1, h, l2 =>
    (X8_see h t).bind fun x28 =>
    (X8_in x28 48 57).bind fun x30 =>
    if x30 = 0 then
      some (l2, h)
    else
      (show Option Int32 from
        if l2 < 2 then
          (gI h t 9 14).bind fun x34 =>
          (X8_see h t).bind fun x36 =>
          some (((10 * x34) + x36) - 48)
        else
          (gI h t 9 14).bind fun x37 =>
          some x37).bind fun j31 =>
      (pI h t 9 14 j31).bind fun h38 =>
      (gI h38 t 9 10).bind fun x39 =>
      (pI h38 t 9 10 (x39 + 1)).bind fun h40 =>
      X8_token_L163 t n h40 (l2 + 1)
def X8_token_L74 (t : Nat) : Nat → HA → Int32 → Option (Int32 × HA)
  | 0, _, _ => none
  | n + 1, h, l2 =>
    (X8_see h t).bind fun x47 =>
    (X8_in x47 97 122).bind fun x49 =>
    if x49 = 0 then
      some (l2, h)
    else
      (gJ h t 9 15).bind fun x50 =>
      (X8_see h t).bind fun x52 =>
      (pJ h t 9 15 ((shlJ x50 8) ||| x52.toInt64)).bind fun h53 =>
      (gI h53 t 9 10).bind fun x54 =>
      (pI h53 t 9 10 (x54 + 1)).bind fun h55 =>
      X8_token_L74 t n h55 (l2 + 1)
def X8_token (h : HA) (t : Nat) : Option HA :=
  if (kd h t).1 = 9 then
    (X8_token_L0 t FU h).bind fun h10 =>
    (gI h10 t 9 10).bind fun x11 =>
    (pI h10 t 9 12 x11).bind fun h12 =>
    (X8_see h12 t).bind fun x14 =>
    (pJ h12 t 9 15 0).bind fun h15 =>
    if x14 < 0 then
      (pI h15 t 9 13 0).bind fun h16 =>
      some h16
    else
      (X8_in x14 97 122).bind fun x18 =>
      if x18 = 0 then
        (X8_in x14 48 57).bind fun x20 =>
        if x20 = 0 then
          (gI h15 t 9 10).bind fun x21 =>
          (pI h15 t 9 10 (x21 + 1)).bind fun h22 =>
          if x14 = 59 then
            (pI h22 t 9 13 4).bind fun h23 =>
            some h23
          else
          if x14 = 45 then
            (pI h22 t 9 13 5).bind fun h24 =>
            some h24
          else
            (pI h22 t 9 13 1).bind fun h25 =>
            some h25
        else
          (pI h15 t 9 14 0).bind fun h26 =>
          (X8_token_L163 t FU h26 0).bind fun (y42, h43) =>
          if 2 < y42 then
            (pI h43 t 9 13 1).bind fun h44 =>
            some h44
          else
            (pI h43 t 9 13 3).bind fun h45 =>
            some h45
      else
        (X8_token_L74 t FU h15 0).bind fun (y57, h58) =>
        if 8 < y57 then
          (pJ h58 t 9 15 0).bind fun h59 =>
          (pI h59 t 9 13 2).bind fun h60 =>
          some h60
        else
          (gJ h58 t 9 15).bind fun x61 =>
          (pJ h58 t 9 15 x61).bind fun h62 =>
          (pI h62 t 9 13 2).bind fun h63 =>
          some h63
  else none
def X8_stops (h : HA) (t : Nat) : Option (Int32 × HA) :=
  if (kd h t).1 = 9 then
    (gI h t 9 12).bind fun x1 =>
    (pI h t 9 16 x1).bind fun h2 =>
    some (0, h2)
  else none
def X8_later (h : HA) (t : Nat) (l1 : Int32) (l2 : Int32) : Option HA :=
  if (kd h t).1 = 9 then
    (gI h t 9 17).bind fun x1 =>
    if x1 = 0 then
      (pI h t 9 17 l1).bind fun h2 =>
      (pI h2 t 9 18 l2).bind fun h3 =>
      some h3
    else
      (gI h t 9 18).bind fun x4 =>
      if l2 < x4 then
        (pI h t 9 17 l1).bind fun h5 =>
        (pI h5 t 9 18 l2).bind fun h6 =>
        some h6
      else
        (gI h t 9 18).bind fun x7 =>
        if l2 = x7 then
          (gI h t 9 17).bind fun x8 =>
          if l1 < x8 then
            (pI h t 9 17 l1).bind fun h9 =>
            (pI h9 t 9 18 l2).bind fun h10 =>
            some h10
          else
            some h
        else
          some h
  else none
def X8_take (h : HA) (t : Nat) (l1 : Int32) (l2 : Int32) (l3 : Int32) : Option (Int32 × HA) :=
  if (kd h t).1 = 9 then
    (gI h t 9 13).bind fun x1 =>
    if x1 = 3 then
      (gR h t 9 20).bind fun x2 =>
      (gI h t 9 14).bind fun x3 =>
      (asI h x2 20 l1 x3).bind fun h4 =>
      (gI h4 t 9 14).bind fun x5 =>
      (X8_in x5 l2 l3).bind fun x7 =>
      (show Option HA from
        if x7 = 0 then
          (gI h4 t 9 12).bind fun x11 =>
          (X8_later h4 t 2 x11).bind fun h13 =>
          some h13
        else
          some h4).bind fun h8 =>
      (X8_token h8 t).bind fun h15 =>
      some (1, h15)
    else
      (X8_stops h t).bind fun (x18, h17) =>
      (bz x18).bind fun x19 =>
      some (x19, h17)
  else none
def X8_takeField (h : HA) (t : Nat) (l1 : Int32) : Option (Int32 × HA) :=
  if (kd h t).1 = 9 then
    (X8_take h t l1 0 63).bind fun (x3, h2) =>
    if x3 = 0 then
      (gI h2 t 9 21).bind fun x4 =>
      (pI h2 t 9 21 x4).bind fun h5 =>
      (bz x3).bind fun x6 =>
      some (x6, h5)
    else
      (gI h2 t 9 21).bind fun x7 =>
      (gR h2 t 9 20).bind fun x8 =>
      (ldI h2 x8 20 l1).bind fun x9 =>
      (X8_greater x7 x9).bind fun x11 =>
      (pI h2 t 9 21 x11).bind fun h12 =>
      (bz x3).bind fun x13 =>
      some (x13, h12)
  else none
def X8_full (h : HA) (t : Nat) (l1 : Int32) (l2 : Int32) (l3 : Int32) : Option HA :=
  if (kd h t).1 = 9 then
    (gR h t 9 19).bind fun x1 =>
    (ldI h x1 20 l1).bind fun x2 =>
    if x2 = l2 then
      (X8_later h t 3 l3).bind fun h4 =>
      some h4
    else
      some h
  else none
def X8_keep_L19 (t : Nat) (l2 : Int32) (l3 : Int32) (l5 : Int32) : Nat → HA → Int32 → Option HA
  | 0, _, _ => none
  | n + 1, h, l6 =>
    if l6 < l3 then
      (gR h t 9 19).bind fun x3 =>
      (gR h t 9 20).bind fun x4 =>
      (ldI h x4 20 l6).bind fun x5 =>
      (asI h x3 20 ((l2 + (l3 * l5)) + l6) x5).bind fun h6 =>
      X8_keep_L19 t l2 l3 l5 n h6 (l6 + 1)
    else
      some h
def X8_keep (h : HA) (t : Nat) (l1 : Int32) (l2 : Int32) (l3 : Int32) (l4 : Int32) : Option HA :=
  if (kd h t).1 = 9 then
    (gR h t 9 19).bind fun x1 =>
    (ldI h x1 20 l1).bind fun x2 =>
    if x2 = l4 then
      some h
    else
      (X8_keep_L19 t l2 l3 x2 FU h 0).bind fun h8 =>
      (gR h8 t 9 19).bind fun x9 =>
      (ldI h8 x9 20 l1).bind fun x10 =>
      (asI h8 x9 20 l1 (x10 + 1)).bind fun h11 =>
      some h11
  else none
def X8_judgeLine (h : HA) (t : Nat) (l1 : Int32) : Option (Int32 × HA) :=
  if (kd h t).1 = 9 then
    (X8_takeField h t 0).bind fun (x3, h2) =>
    if x3 = 0 then
      some (0, h2)
    else
      (X8_take h2 t 1 0 3).bind fun (x6, h5) =>
      if x6 = 0 then
        some (0, h5)
      else
        (gR h5 t 9 20).bind fun x7 =>
        (asI h5 x7 20 2 l1).bind fun h8 =>
        (X8_take h8 t 3 0 9).bind fun (x11, h10) =>
        if x11 = 0 then
          some (0, h10)
        else
          (X8_take h10 t 4 0 3).bind fun (x14, h13) =>
          if x14 = 0 then
            some (0, h13)
          else
            (X8_keep h13 t 2 4 5 6).bind fun h16 =>
            some (1, h16)
  else none
def X8_sizeLine_L2 (t : Nat) : Nat → HA → Int32 → Option (Int32 × HA)
  | 0, _, _ => none
  | n + 1, h, l1 =>
    if l1 < 2 then
      (X8_take h t 0 2 8).bind fun (x3, h2) =>
      if x3 = 0 then
        some (0, h2)
      else
        (gR h2 t 9 19).bind fun x4 =>
        (gR h2 t 9 20).bind fun x5 =>
        (ldI h2 x5 20 0).bind fun x6 =>
        (asI h2 x4 20 l1 x6).bind fun h7 =>
        X8_sizeLine_L2 t n h7 (l1 + 1)
    else
      some (1, h)
def X8_sizeLine (h : HA) (t : Nat) : Option (Int32 × HA) :=
  if (kd h t).1 = 9 then
    X8_sizeLine_L2 t FU h 0
  else none
def X8_wallLine_L0 (t : Nat) : Nat → HA → Option (Int32 × HA)
  | 0, _ => none
  | n + 1, h =>
    (X8_takeField h t 0).bind fun (x3, h2) =>
    if x3 = 0 then
      some (0, h2)
    else
      (gR h2 t 9 20).bind fun x4 =>
      (ldI h2 x4 20 0).bind fun x5 =>
      (show Option HA from
        if x5 < 64 then
          (gR h2 t 9 19).bind fun x9 =>
          (gR h2 t 9 20).bind fun x10 =>
          (ldI h2 x10 20 0).bind fun x11 =>
          (asI h2 x9 20 (42 + x11) 1).bind fun h12 =>
          some h12
        else
          some h2).bind fun h6 =>
      (gI h6 t 9 13).bind fun x13 =>
      if x13 = 3 then
        X8_wallLine_L0 t n h6
      else
        some (1, h6)
def X8_wallLine (h : HA) (t : Nat) : Option (Int32 × HA) :=
  if (kd h t).1 = 9 then
    X8_wallLine_L0 t FU h
  else none
def X8_pleads (h : HA) (t : Nat) : Option HA :=
  if (kd h t).1 = 9 then
    (gR h t 9 19).bind fun x1 =>
    (ldI h x1 20 3).bind fun x2 =>
    if x2 < 4 then
      (gR h t 9 19).bind fun x3 =>
      (gR h t 9 19).bind fun x4 =>
      (ldI h x4 20 3).bind fun x5 =>
      (gR h t 9 20).bind fun x6 =>
      (ldI h x6 20 0).bind fun x7 =>
      (asI h x3 20 (34 + (2 * x5)) x7).bind fun h8 =>
      (gR h8 t 9 19).bind fun x9 =>
      (ldI h8 x9 20 3).bind fun x10 =>
      (asI h8 x9 20 3 (x10 + 1)).bind fun h11 =>
      some h11
    else
      some h
  else none
def X8_twinLine (h : HA) (t : Nat) : Option (Int32 × HA) :=
  if (kd h t).1 = 9 then
    (X8_take h t 0 0 3).bind fun (x3, h2) =>
    if x3 = 0 then
      some (0, h2)
    else
      (gI h2 t 9 22).bind fun x4 =>
      (gR h2 t 9 20).bind fun x5 =>
      (ldI h2 x5 20 0).bind fun x6 =>
      (X8_greater x4 x6).bind fun x8 =>
      (pI h2 t 9 22 x8).bind fun h9 =>
      (X8_takeField h9 t 1).bind fun (x12, h11) =>
      if x12 = 0 then
        some (0, h11)
      else
        (gR h11 t 9 20).bind fun x13 =>
        (ldI h11 x13 20 0).bind fun x14 =>
        if x14 < 4 then
          (gR h11 t 9 23).bind fun x15 =>
          (gR h11 t 9 20).bind fun x16 =>
          (ldI h11 x16 20 0).bind fun x17 =>
          (gR h11 t 9 20).bind fun x18 =>
          (ldI h11 x18 20 1).bind fun x19 =>
          (asI h11 x15 20 x17 x19).bind fun h20 =>
          some (1, h20)
        else
          some (1, h11)
  else none
def X8_courtLine (h : HA) (t : Nat) (l1 : Int64) (l3 : Int32) : Option (Int32 × HA) :=
  if (kd h t).1 = 9 then
    lett (α := Int32) (if l1 = 1818584692 then 1 else (if l1 = 491394656372 then 1 else 0)) fun j1 =>
    (show Option ((Int32 × HA) ⊕ HA) from
      if j1 = 0 then
        if l1 = 1936292453 then
          some (.inr h)
        else
        if l1 = 2002873452 then
          some (.inr h)
        else
        if l1 = 482854920548 then
          some (.inr h)
        else
        if l1 = 1953982830 then
          some (.inr h)
        else
          (X8_stops h t).bind fun (x9, h8) =>
          (bz x9).bind fun x10 =>
          some (.inl (x10, h8))
      else
        some (.inr h)).bind fun s9 =>
    match s9 with
    | .inl r48 =>
      some r48
    | .inr h4 =>
      (show Option HA from
        if j1 = 0 then
          if l1 = 482854920548 then
            (X8_full h4 t 3 4 l3).bind fun h15 =>
            some h15
          else
            some h4
        else
          (X8_full h4 t 2 6 l3).bind fun h17 =>
          some h17).bind fun h11 =>
      (X8_token h11 t).bind fun h19 =>
      if j1 = 0 then
        if l1 = 1936292453 then
          (X8_sizeLine h19 t).bind fun (x22, h21) =>
          (bz x22).bind fun x23 =>
          some (x23, h21)
        else
        if l1 = 2002873452 then
          (X8_wallLine h19 t).bind fun (x26, h25) =>
          (bz x26).bind fun x27 =>
          some (x27, h25)
        else
        if l1 = 482854920548 then
          (X8_takeField h19 t 0).bind fun (x30, h29) =>
          (gR h29 t 9 20).bind fun x31 =>
          (asI h29 x31 20 1 (-1)).bind fun h32 =>
          if x30 = 0 then
            (bz x30).bind fun x33 =>
            some (x33, h32)
          else
            (X8_pleads h32 t).bind fun h35 =>
            (bz x30).bind fun x36 =>
            some (x36, h35)
        else
          (X8_twinLine h19 t).bind fun (x39, h38) =>
          (bz x39).bind fun x40 =>
          some (x40, h38)
      else
        lett (α := Int32) (if l1 = 1818584692 then 0 else 1) fun j41 =>
        (X8_judgeLine h19 t j41).bind fun (x46, h45) =>
        (bz x46).bind fun x47 =>
        some (x47, h45)
  else none
def X8_trialLine (h : HA) (t : Nat) (l1 : Int64) (l3 : Int32) : Option (Int32 × HA) :=
  if (kd h t).1 = 9 then
    (show Option ((Int32 × HA) ⊕ HA) from
      if l1 = 26479 then
        some (.inr h)
      else
      if l1 = 7561593 then
        some (.inr h)
      else
      if l1 = 2002872692 then
        some (.inr h)
      else
        (X8_stops h t).bind fun (x6, h5) =>
        (bz x6).bind fun x7 =>
        some (.inl (x7, h5))).bind fun s9 =>
    match s9 with
    | .inl r53 =>
      some r53
    | .inr h1 =>
      (X8_full h1 t 0 30 l3).bind fun h9 =>
      (X8_token h9 t).bind fun h11 =>
      (gR h11 t 9 20).bind fun x12 =>
      lett (α := Int32) (if l1 = 26479 then 0 else (if l1 = 7561593 then 1 else 2)) fun j13 =>
      (asI h11 x12 20 0 j13).bind fun h16 =>
      (gR h16 t 9 20).bind fun x17 =>
      (asI h16 x17 20 1 (-1)).bind fun h18 =>
      (gR h18 t 9 20).bind fun x19 =>
      (asI h18 x19 20 2 (-1)).bind fun h20 =>
      (gR h20 t 9 20).bind fun x21 =>
      (asI h20 x21 20 3 (-1)).bind fun h22 =>
      (show Option ((Int32 × HA) ⊕ HA) from
        if l1 = 2002872692 then
          some (.inr h22)
        else
          (X8_take h22 t 1 0 3).bind fun (x28, h27) =>
          if x28 = 0 then
            some (.inl (0, h27))
          else
            lett (α := Int32) (if l1 = 26479 then 3 else 9) fun j29 =>
            (X8_take h27 t 2 0 j29).bind fun (x34, h33) =>
            if x34 = 0 then
              some (.inl (0, h33))
            else
              some (.inr h33)).bind fun s9 =>
      match s9 with
      | .inl r42 =>
        some r42
      | .inr h23 =>
        if l1 = 7561593 then
          (X8_take h23 t 3 0 9).bind fun (x37, h36) =>
          if x37 = 0 then
            some (0, h36)
          else
            (X8_keep h36 t 0 1 4 30).bind fun h39 =>
            some (1, h39)
        else
          (X8_keep h23 t 0 1 4 30).bind fun h41 =>
          some (1, h41)
  else none
def X8_takeMaybe (h : HA) (t : Nat) (l1 : Int32) : Option (Int32 × HA) :=
  if (kd h t).1 = 9 then
    (gR h t 9 20).bind fun x1 =>
    (asI h x1 20 l1 (-1)).bind fun h2 =>
    (gI h2 t 9 13).bind fun x3 =>
    if x3 = 5 then
      (X8_token h2 t).bind fun h5 =>
      some (1, h5)
    else
      (X8_take h2 t l1 0 9).bind fun (x8, h7) =>
      (bz x8).bind fun x9 =>
      some (x9, h7)
  else none
def X8_lawLine (h : HA) (t : Nat) (l1 : Int64) (l3 : Int32) : Option (Int32 × HA) :=
  if (kd h t).1 = 9 then
    (show Option ((Int32 × HA) ⊕ HA) from
      if l1 = 7955827 then
        some (.inr h)
      else
      if l1 = 28271 then
        some (.inr h)
      else
        (X8_stops h t).bind fun (x6, h5) =>
        (bz x6).bind fun x7 =>
        some (.inl (x7, h5))).bind fun s9 =>
    match s9 with
    | .inl r25 =>
      some r25
    | .inr h1 =>
      (X8_full h1 t 0 8 l3).bind fun h9 =>
      (X8_token h9 t).bind fun h11 =>
      (gR h11 t 9 20).bind fun x12 =>
      lett (α := Int32) (if l1 = 7955827 then 1 else 0) fun j13 =>
      (asI h11 x12 20 0 j13).bind fun h16 =>
      (X8_takeMaybe h16 t 1).bind fun (x19, h18) =>
      if x19 = 0 then
        some (0, h18)
      else
        (X8_takeMaybe h18 t 2).bind fun (x22, h21) =>
        if x22 = 0 then
          some (0, h21)
        else
          (X8_keep h21 t 0 1 3 8).bind fun h24 =>
          some (1, h24)
  else none
def X8_rollLine (h : HA) (t : Nat) (l1 : Int64) (l3 : Int32) : Option (Int32 × HA) :=
  if (kd h t).1 = 9 then
    if l1 = 1802399607 then
      (X8_full h t 0 12 l3).bind fun h2 =>
      (X8_token h2 t).bind fun h4 =>
      (X8_take h4 t 0 0 5).bind fun (x7, h6) =>
      if x7 = 0 then
        some (0, h6)
      else
        (X8_take h6 t 1 0 9).bind fun (x10, h9) =>
        if x10 = 0 then
          some (0, h9)
        else
          (X8_keep h9 t 0 1 2 12).bind fun h12 =>
          some (1, h12)
    else
      (X8_stops h t).bind fun (x15, h14) =>
      (bz x15).bind fun x16 =>
      some (x16, h14)
  else none
def X8_lines_L2 (t : Nat) (l1 : Int32) : Nat → HA → Int32 → Option (Int32 × HA)
  | 0, _, _ => none
  | n + 1, h, l2 =>
    if l2 = 0 then
      some (l2, h)
    else
      (gI h t 9 13).bind fun x1 =>
      if x1 = 0 then
        some (l2, h)
      else
        (gI h t 9 12).bind fun x2 =>
        (gI h t 9 13).bind fun x3 =>
        (show Option Int64 from
          if x3 = 2 then
            (gJ h t 9 15).bind fun x7 =>
            some x7
          else
            some 0).bind fun j4 =>
        (show Option (Int32 × HA) from
          if l1 = 0 then
            (X8_courtLine h t j4 x2).bind fun (x14, h13) =>
            some (x14, h13)
          else
          if l1 = 1 then
            (X8_trialLine h t j4 x2).bind fun (x17, h16) =>
            some (x17, h16)
          else
          if l1 = 2 then
            (X8_lawLine h t j4 x2).bind fun (x20, h19) =>
            some (x20, h19)
          else
            (X8_rollLine h t j4 x2).bind fun (x23, h22) =>
            some (x23, h22)).bind fun (j8, h9) =>
        (show Option (Int32 × HA) from
          if j8 = 0 then
            some (j8, h9)
          else
            (gI h9 t 9 13).bind fun x28 =>
            if x28 = 4 then
              some (j8, h9)
            else
              (X8_stops h9 t).bind fun (x31, h30) =>
              some (x31, h30)).bind fun (j24, h25) =>
        if j24 = 0 then
          X8_lines_L2 t l1 n h25 j24
        else
          (X8_token h25 t).bind fun h33 =>
          X8_lines_L2 t l1 n h33 j24
def X8_lines (h : HA) (t : Nat) (l1 : Int32) : Option (Int32 × HA) :=
  if (kd h t).1 = 9 then
    (X8_lines_L2 t l1 FU h 1).bind fun (y35, h36) =>
    (bz y35).bind fun x37 =>
    some (x37, h36)
  else none
def X8_isWalled (h : HA) (t : Nat) (l1 : Int32) : Option Int32 :=
  if (kd h t).1 = 9 then
    if l1 = (-1) then
      some 0
    else
      (gR h t 9 19).bind fun x1 =>
      (ldI h x1 20 (42 + l1)).bind fun x2 =>
      if x2 = 1 then
        some 1
      else
        some 0
  else none
def X8_isWrongCourt_L37 (h : HA) (t : Nat) : Nat → Int32 → Option ((Int32 × HA) ⊕ Unit)
  | 0, _ => none
  | n + 1, l1 =>
    (gR h t 9 19).bind fun x9 =>
    (ldI h x9 20 2).bind fun x10 =>
    if l1 < x10 then
      (gR h t 9 19).bind fun x11 =>
      (ldI h x11 20 (4 + (5 * l1))).bind fun x12 =>
      (X8_isWalled h t x12).bind fun x14 =>
      if x14 = 0 then
        X8_isWrongCourt_L37 h t n (l1 + 1)
      else
        some (.inl (1, h))
    else
      some (.inr ())
def X8_isWrongCourt_L74 (t : Nat) : Nat → HA → Int32 → Option (Int32 × HA)
  | 0, _, _ => none
  | n + 1, h, l1 =>
    (gR h t 9 19).bind fun x16 =>
    (ldI h x16 20 3).bind fun x17 =>
    if l1 < x17 then
      (gR h t 9 19).bind fun x18 =>
      (gR h t 9 23).bind fun x19 =>
      (ldI h x19 20 l1).bind fun x20 =>
      (asI h x18 20 ((34 + (2 * l1)) + 1) x20).bind fun h21 =>
      (gR h21 t 9 19).bind fun x22 =>
      (ldI h21 x22 20 (34 + (2 * l1))).bind fun x23 =>
      (X8_isWalled h21 t x23).bind fun x25 =>
      if x25 = 0 then
        (gR h21 t 9 23).bind fun x26 =>
        (ldI h21 x26 20 l1).bind fun x27 =>
        (X8_isWalled h21 t x27).bind fun x29 =>
        if x29 = 0 then
          X8_isWrongCourt_L74 t n h21 (l1 + 1)
        else
          some (1, h21)
      else
        some (1, h21)
    else
      some (0, h)
def X8_isWrongCourt (h : HA) (t : Nat) : Option (Int32 × HA) :=
  if (kd h t).1 = 9 then
    (gI h t 9 21).bind fun x1 =>
    (gR h t 9 19).bind fun x2 =>
    (ldI h x2 20 0).bind fun x3 =>
    (gR h t 9 19).bind fun x4 =>
    (ldI h x4 20 1).bind fun x5 =>
    if x1 < (x3 * x5) then
      (gI h t 9 22).bind fun x6 =>
      (gR h t 9 19).bind fun x7 =>
      (ldI h x7 20 3).bind fun x8 =>
      if x6 < x8 then
        (
          X8_isWrongCourt_L37 h t FU 0).bind fun s9 =>
        match s9 with
        | .inl r31 =>
          some r31
        | .inr _ =>
          X8_isWrongCourt_L74 t FU h 0
      else
        some (1, h)
    else
      some (1, h)
  else none
def X8_readText_L2 (t : Nat) : Nat → HA → Int32 → Option HA
  | 0, _, _ => none
  | n + 1, h, l2 =>
    if l2 < 121 then
      (gR h t 9 19).bind fun x1 =>
      (asI h x1 20 l2 0).bind fun h2 =>
      X8_readText_L2 t n h2 (l2 + 1)
    else
      some h
def X8_readText_L23 (t : Nat) : Nat → HA → Int32 → Option HA
  | 0, _, _ => none
  | n + 1, h, l2 =>
    if l2 < 4 then
      (gR h t 9 23).bind fun x5 =>
      (asI h x5 20 l2 (-1)).bind fun h6 =>
      X8_readText_L23 t n h6 (l2 + 1)
    else
      some h
def X8_readText (h : HA) (t : Nat) (l1 : Int32) : Option (Int32 × HA) :=
  if (kd h t).1 = 9 then
    (X8_readText_L2 t FU h 0).bind fun h4 =>
    (X8_readText_L23 t FU h4 0).bind fun h8 =>
    (gR h8 t 9 19).bind fun x9 =>
    lett (α := Int32) (if l1 = 0 then 5 else 0) fun j10 =>
    (asI h8 x9 20 0 j10).bind fun h13 =>
    (gR h13 t 9 19).bind fun x14 =>
    lett (α := Int32) (if l1 = 0 then 5 else 0) fun j15 =>
    (asI h13 x14 20 1 j15).bind fun h18 =>
    (pI h18 t 9 21 (-1)).bind fun h19 =>
    (pI h19 t 9 22 (-1)).bind fun h20 =>
    (pI h20 t 9 10 0).bind fun h21 =>
    (pI h21 t 9 17 0).bind fun h22 =>
    (X8_token h22 t).bind fun h24 =>
    (X8_lines h24 t l1).bind fun (x27, h26) =>
    (show Option HA from
      if x27 = 0 then
        some h26
      else
      if l1 = 0 then
        (gI h26 t 9 17).bind fun x31 =>
        if x31 = 0 then
          (X8_isWrongCourt h26 t).bind fun (x34, h33) =>
          if x34 = 0 then
            some h33
          else
            (gI h33 t 9 12).bind fun x35 =>
            (X8_later h33 t 4 x35).bind fun h37 =>
            some h37
        else
          some h26
      else
        some h26).bind fun h28 =>
    (gR h28 t 9 3).bind fun x38 =>
    (show Option Int32 from
      if x27 = 0 then
        some 1
      else
        (gI h28 t 9 17).bind fun x42 =>
        some x42).bind fun j39 =>
    (asI h28 x38 20 0 j39).bind fun h43 =>
    (gR h43 t 9 4).bind fun x44 =>
    (show Option Int32 from
      if x27 = 0 then
        (gI h43 t 9 16).bind fun x48 =>
        some x48
      else
        (gI h43 t 9 17).bind fun x49 =>
        if 0 < x49 then
          (gI h43 t 9 18).bind fun x50 =>
          some x50
        else
          some (-1)).bind fun j45 =>
    (asI h43 x44 20 0 j45).bind fun h51 =>
    (gR h51 t 9 3).bind fun x52 =>
    (ldI h51 x52 20 0).bind fun x53 =>
    if x53 = 0 then
      some (1, h51)
    else
      some (0, h51)
  else none
def X8_store_L3 (t : Nat) (l1 : Nat) (l2 : Int32) (l3 : Int32) : Nat → HA → Int32 → Option HA
  | 0, _, _ => none
  | n + 1, h, l4 =>
    if l4 < l2 then
      (gR h t 9 19).bind fun x1 =>
      (ldI h x1 20 l4).bind fun x2 =>
      (asI h l1 20 ((l2 * l3) + l4) x2).bind fun h3 =>
      X8_store_L3 t l1 l2 l3 n h3 (l4 + 1)
    else
      some h
def X8_store (h : HA) (t : Nat) (l1 : Nat) (l2 : Int32) (l3 : Int32) : Option HA :=
  if (kd h t).1 = 9 then
    (X8_store_L3 t l1 l2 l3 FU h 0).bind fun h5 =>
    some h5
  else none
def X8_text (h : HA) (t : Nat) (l1 : Int32) (l2 : Int32) : Option (Int32 × HA) :=
  if (kd h t).1 = 9 then
    (pI h t 9 0 0).bind fun h1 =>
    (gR h1 t 9 2).bind fun x2 =>
    (ldI h1 x2 20 0).bind fun x3 =>
    (pI h1 t 9 11 x3).bind fun h4 =>
    (gR h4 t 9 2).bind fun x5 =>
    (asI h4 x5 20 0 0).bind fun h6 =>
    (gR h6 t 9 3).bind fun x7 =>
    (asI h6 x7 20 0 0).bind fun h8 =>
    (gR h8 t 9 4).bind fun x9 =>
    (asI h8 x9 20 0 (-1)).bind fun h10 =>
    (X8_in l1 0 3).bind fun x12 =>
    if x12 = 0 then
      some ((-2), h10)
    else
      (show Option ((Int32 × HA) ⊕ Unit) from
        if l2 = (-1) then
          (gR h10 t 9 5).bind fun x15 =>
          (ldI h10 x15 20 l1).bind fun x16 =>
          if x16 = 2 then
            some (.inl ((-2), h10))
          else
            some (.inr ())
        else
          (X8_is h10 t l1 l2).bind fun x18 =>
          if x18 = 0 then
            some (.inl ((-2), h10))
          else
            some (.inr ())).bind fun s9 =>
      match s9 with
      | .inl r45 =>
        some r45
      | .inr () =>
        (X8_readText h10 t l1).bind fun (x21, h20) =>
        if x21 = 0 then
          some ((-1), h20)
        else
          (show Option Int32 from
            if l2 = (-1) then
              (gR h20 t 9 5).bind fun x25 =>
              (ldI h20 x25 20 l1).bind fun x26 =>
              some x26
            else
              some l2).bind fun j22 =>
          (gR h20 t 9 5).bind fun x27 =>
          (ldI h20 x27 20 l1).bind fun x28 =>
          lett (α := Int32) (if l2 = (-1) then 1 else 0) fun j29 =>
          (asI h20 x27 20 l1 (x28 + j29)).bind fun h32 =>
          if l1 = 0 then
            (gR h32 t 9 6).bind fun x33 =>
            (X8_store h32 t x33 106 j22).bind fun h35 =>
            some (j22, h35)
          else
          if l1 = 1 then
            (gR h32 t 9 7).bind fun x36 =>
            (X8_store h32 t x36 121 j22).bind fun h38 =>
            some (j22, h38)
          else
          if l1 = 2 then
            (gR h32 t 9 8).bind fun x39 =>
            (X8_store h32 t x39 25 j22).bind fun h41 =>
            some (j22, h41)
          else
            (gR h32 t 9 9).bind fun x42 =>
            (X8_store h32 t x42 25 j22).bind fun h44 =>
            some (j22, h44)
  else none
def X8_fault (h : HA) (t : Nat) (l1 : Int32) : Option (Int32 × HA) :=
  if (kd h t).1 = 9 then
    (pI h t 9 0 0).bind fun h1 =>
    if l1 = 0 then
      (gR h1 t 9 3).bind fun x2 =>
      (ldI h1 x2 20 0).bind fun x3 =>
      some (x3, h1)
    else
    if l1 = 1 then
      (gR h1 t 9 4).bind fun x4 =>
      (ldI h1 x4 20 0).bind fun x5 =>
      some (x5, h1)
    else
      some ((-1), h1)
  else none
def X8_of (h : HA) (t : Nat) (l1 : Int32) : Option Int32 :=
  if (kd h t).1 = 9 then
    (gR h t 9 6).bind fun x1 =>
    (gI h t 9 24).bind fun x2 =>
    (ldI h x1 20 ((106 * x2) + l1)).bind fun x3 =>
    some x3
  else none
def X8_isWall (h : HA) (t : Nat) (l1 : Int32) : Option Int32 :=
  if (kd h t).1 = 9 then
    (X8_of h t (42 + l1)).bind fun x2 =>
    if x2 = 1 then
      some 1
    else
      some 0
  else none
def X8_beside (h : HA) (t : Nat) (l1 : Int32) (l2 : Int32) : Option Int32 :=
  if (kd h t).1 = 9 then
    (gI h t 9 25).bind fun x1 =>
    (rm l1 x1).bind fun x2 =>
    lett (α := Int32) (if l2 = 1 then 1 else (if l2 = 3 then (-1) else 0)) fun j3 =>
    (gI h t 9 25).bind fun x6 =>
    (dv l1 x6).bind fun x7 =>
    lett (α := Int32) (if l2 = 2 then 1 else (if l2 = 0 then (-1) else 0)) fun j8 =>
    (gI h t 9 25).bind fun x11 =>
    (X8_in (x2 + j3) 0 (x11 - 1)).bind fun x13 =>
    if x13 = 0 then
      some (-1)
    else
      (gI h t 9 26).bind fun x14 =>
      (X8_in (x7 + j8) 0 (x14 - 1)).bind fun x16 =>
      if x16 = 0 then
        some (-1)
      else
        (gI h t 9 25).bind fun x17 =>
        some (((x7 + j8) * x17) + (x2 + j3))
  else none
def X8_stepTo (h : HA) (t : Nat) (l1 : Int32) (l2 : Int32) : Option Int32 :=
  if (kd h t).1 = 9 then
    (X8_beside h t l1 l2).bind fun x2 =>
    if x2 = (-1) then
      some (-1)
    else
      (X8_isWall h t x2).bind fun x4 =>
      if x4 = 0 then
        some x2
      else
        some (-1)
  else none
def X8_flood_L7 (t : Nat) (l2 : Int32) : Nat → HA → Int32 → Option HA
  | 0, _, _ => none
  | n + 1, h, l3 =>
    (gI h t 9 27).bind fun x1 =>
    if l3 < x1 then
      (gR h t 9 30).bind fun x2 =>
      (asI h x2 20 (l2 + l3) 1000).bind fun h3 =>
      X8_flood_L7 t l2 n h3 (l3 + 1)
    else
      some h
def X8_flood_L71 (t : Nat) (l2 : Int32) (l4 : Int32) : Nat → HA → Int32 → Int32 → Option (Int32 × HA)
  | 0, _, _, _ => none
  | n + 1, h, l3, l5 =>
    if l5 < 4 then
      (gR h t 9 31).bind fun x12 =>
      (ldI h x12 20 l4).bind fun x13 =>
      (X8_stepTo h t x13 l5).bind fun x15 =>
      if x15 = (-1) then
        X8_flood_L71 t l2 l4 n h l3 (l5 + 1)
      else
        (gR h t 9 30).bind fun x16 =>
        (ldI h x16 20 (l2 + x15)).bind fun x17 =>
        if x17 = 1000 then
          (gR h t 9 30).bind fun x18 =>
          (gR h t 9 30).bind fun x19 =>
          (gR h t 9 31).bind fun x20 =>
          (ldI h x20 20 l4).bind fun x21 =>
          (ldI h x19 20 (l2 + x21)).bind fun x22 =>
          (asI h x18 20 (l2 + x15) (x22 + 1)).bind fun h23 =>
          (gR h23 t 9 31).bind fun x24 =>
          (asI h23 x24 20 l3 x15).bind fun h25 =>
          X8_flood_L71 t l2 l4 n h25 (l3 + 1) (l5 + 1)
        else
          X8_flood_L71 t l2 l4 n h l3 (l5 + 1)
    else
      some (l3, h)
def X8_flood_L62 (t : Nat) (l2 : Int32) : Nat → HA → Int32 → Int32 → Option HA
  | 0, _, _, _ => none
  | n + 1, h, l3, l4 =>
    if l4 < l3 then
      (X8_flood_L71 t l2 l4 FU h l3 0).bind fun (y27, h28) =>
      X8_flood_L62 t l2 n h28 y27 (l4 + 1)
    else
      some h
def X8_flood (h : HA) (t : Nat) (l1 : Int32) : Option HA :=
  if (kd h t).1 = 9 then
    (X8_flood_L7 t (64 * l1) FU h 0).bind fun h5 =>
    (X8_isWall h5 t l1).bind fun x7 =>
    if x7 = 0 then
      (gR h5 t 9 31).bind fun x8 =>
      (asI h5 x8 20 0 l1).bind fun h9 =>
      (gR h9 t 9 30).bind fun x10 =>
      (asI h9 x10 20 ((64 * l1) + l1) 0).bind fun h11 =>
      (X8_flood_L62 t (64 * l1) FU h11 1 0).bind fun h30 =>
      some h30
    else
      some h5
  else none
def X8_hand_L67 (t : Nat) : Nat → HA → Int32 → Option HA
  | 0, _, _ => none
  | n + 1, h, l2 =>
    (gI h t 9 27).bind fun x19 =>
    if l2 < x19 then
      (X8_flood h t l2).bind fun h21 =>
      X8_hand_L67 t n h21 (l2 + 1)
    else
      some h
def X8_hand (h : HA) (t : Nat) (l1 : Int32) : Option (Int32 × HA) :=
  if (kd h t).1 = 9 then
    (X8_is h t 0 l1).bind fun x2 =>
    if x2 = 0 then
      some (0, h)
    else
      (pI h t 9 24 l1).bind fun h3 =>
      (X8_of h3 t 0).bind fun x5 =>
      (pI h3 t 9 25 x5).bind fun h6 =>
      (X8_of h6 t 1).bind fun x8 =>
      (pI h6 t 9 26 x8).bind fun h9 =>
      (gI h9 t 9 25).bind fun x10 =>
      (gI h9 t 9 26).bind fun x11 =>
      (pI h9 t 9 27 (x10 * x11)).bind fun h12 =>
      (X8_of h12 t 2).bind fun x14 =>
      (pI h12 t 9 28 x14).bind fun h15 =>
      (X8_of h15 t 3).bind fun x17 =>
      (pI h15 t 9 29 x17).bind fun h18 =>
      (X8_hand_L67 t FU h18 0).bind fun h23 =>
      some (1, h23)
  else none
def X8_isField (h : HA) (t : Nat) (l1 : Int32) : Option Int32 :=
  if (kd h t).1 = 9 then
    (gI h t 9 27).bind fun x1 =>
    (X8_in l1 0 (x1 - 1)).bind fun x3 =>
    (bz x3).bind fun x4 =>
    some x4
  else none
def X8_farOf (h : HA) (t : Nat) (l1 : Int32) (l2 : Int32) : Option Int32 :=
  if (kd h t).1 = 9 then
    (gR h t 9 30).bind fun x1 =>
    (ldI h x1 20 ((64 * l1) + l2)).bind fun x2 =>
    some x2
  else none
def X8_faces (h : HA) (t : Nat) (l1 : Int32) (l2 : Int32) (l3 : Int32) : Option Int32 :=
  if (kd h t).1 = 9 then
    (rm (l1 + (l3 * l2)) 4).bind fun x1 =>
    some x1
  else none
def X8_cameFrom_L13 (h : HA) (t : Nat) (l1 : Int32) (l2 : Int32) : Nat → Int32 → Int32 → Option Int32
  | 0, _, _ => none
  | n + 1, l3, l4 =>
    if l4 < 4 then
      (X8_stepTo h t l1 l4).bind fun x2 =>
      if x2 = (-1) then
        X8_cameFrom_L13 h t l1 l2 n (l3 ||| 0) (l4 + 1)
      else
        (X8_farOf h t l2 x2).bind fun x4 =>
        (X8_farOf h t l2 l1).bind fun x6 =>
        if (x4 + 1) = x6 then
          X8_cameFrom_L13 h t l1 l2 n (l3 ||| (shlI 1 l4)) (l4 + 1)
        else
          X8_cameFrom_L13 h t l1 l2 n (l3 ||| 0) (l4 + 1)
    else
      some l3
def X8_cameFrom (h : HA) (t : Nat) (l1 : Int32) (l2 : Int32) : Option Int32 :=
  if (kd h t).1 = 9 then
    if l1 = l2 then
      some 15
    else
      (X8_cameFrom_L13 h t l1 l2 FU 0 0).bind fun y8 =>
      some y8
  else none
def X8_turned_L4 (l0 : Int32) (l1 : Int32) : Nat → Int32 → Int32 → Option Int32
  | 0, _, _ => none
  | n + 1, l2, l3 =>
    if l3 < 4 then
      (X8_has l0 l3).bind fun x2 =>
      if x2 = 0 then
        X8_turned_L4 l0 l1 n (l2 ||| 0) (l3 + 1)
      else
        (rm ((l3 - l1) + 4) 4).bind fun x3 =>
        X8_turned_L4 l0 l1 n (l2 ||| (shlI 1 x3)) (l3 + 1)
    else
      some l2
def X8_turned (l0 : Int32) (l1 : Int32) : Option Int32 :=
  (X8_turned_L4 l0 l1 FU 0 0).bind fun y5 =>
  some y5
def X8_hearsAt (h : HA) (t : Nat) (l1 : Int32) (l2 : Int32) (l3 : Int32) (l4 : Int32) (l5 : Int32) (l6 : Int32) (l7 : Int32) : Option Int32 :=
  if (kd h t).1 = 9 then
    (X8_farOf h t l5 l1).bind fun x2 =>
    if x2 = 1000 then
      some 0
    else
    if (l4 + l6) < x2 then
      some 0
    else
    if l1 = l5 then
      some 1
    else
      (X8_cameFrom h t l1 l5).bind fun x4 =>
      (X8_turned (x4 &&& (l7 ^^^ (-1))) l2).bind fun x6 =>
      if (x6 &&& l3) = 0 then
        some 0
      else
        some 1
  else none
def X8_judgeOf (h : HA) (t : Nat) (l1 : Int32) (l2 : Int32) : Option Int32 :=
  if (kd h t).1 = 9 then
    (X8_of h t ((4 + (5 * l1)) + l2)).bind fun x2 =>
    some x2
  else none
def X8_earsOf (h : HA) (t : Nat) (l1 : Int32) : Option Int32 :=
  if (kd h t).1 = 9 then
    (X8_judgeOf h t l1 2).bind fun x2 =>
    if x2 = 0 then
      some (1 ||| 8)
    else
      some (1 ||| 2)
  else none
def X8_hears (h : HA) (t : Nat) (l1 : Int32) (l2 : Int32) (l3 : Int32) (l4 : Int32) : Option Int32 :=
  if (kd h t).1 = 9 then
    (X8_judgeOf h t l1 0).bind fun x2 =>
    (X8_judgeOf h t l1 1).bind fun x4 =>
    (X8_judgeOf h t l1 4).bind fun x6 =>
    (X8_faces h t x4 x6 l3).bind fun x8 =>
    (X8_earsOf h t l1).bind fun x10 =>
    (X8_judgeOf h t l1 3).bind fun x12 =>
    (X8_hearsAt h t x2 x8 x10 x12 l2 l4 0).bind fun x14 =>
    (bz x14).bind fun x15 =>
    some x15
  else none
def X8_earsAt_L6 (h : HA) (t : Nat) (l1 : Int32) (l2 : Int32) (l3 : Int32) : Nat → Int32 → Int32 → Option Int32
  | 0, _, _ => none
  | n + 1, l4, l5 =>
    (gI h t 9 28).bind fun x1 =>
    if l5 < x1 then
      (X8_hears h t l5 l1 l2 l3).bind fun x3 =>
      if x3 = 0 then
        X8_earsAt_L6 h t l1 l2 l3 n (l4 ||| 0) (l5 + 1)
      else
        X8_earsAt_L6 h t l1 l2 l3 n (l4 ||| (shlI 1 l5)) (l5 + 1)
    else
      some l4
def X8_earsAt (h : HA) (t : Nat) (l1 : Int32) (l2 : Int32) (l3 : Int32) : Option Int32 :=
  if (kd h t).1 = 9 then
    (X8_earsAt_L6 h t l1 l2 l3 FU 0 0).bind fun y5 =>
    some y5
  else none
def X8_blind_L5 (h : HA) (t : Nat) (l1 : Int32) (l2 : Int32) : Nat → Int32 → Int32 → Option Int32
  | 0, _, _ => none
  | n + 1, l3, l4 =>
    (gI h t 9 27).bind fun x1 =>
    if l4 < x1 then
      (X8_isWall h t l4).bind fun x3 =>
      if x3 = 0 then
        (X8_earsAt h t l4 l1 l2).bind fun x5 =>
        if x5 = 0 then
          X8_blind_L5 h t l1 l2 n (l3 + 1) (l4 + 1)
        else
          X8_blind_L5 h t l1 l2 n (l3 + 0) (l4 + 1)
      else
        X8_blind_L5 h t l1 l2 n (l3 + 0) (l4 + 1)
    else
      some l3
def X8_blind (h : HA) (t : Nat) (l1 : Int32) (l2 : Int32) : Option Int32 :=
  if (kd h t).1 = 9 then
    (X8_blind_L5 h t l1 l2 FU 0 0).bind fun y7 =>
    some y7
  else none
def X8_quarter_L11 (h : HA) (t : Nat) : Nat → Int32 → Int32 → Int32 → Option Int32
  | 0, _, _, _ => none
  | n + 1, l1, l2, l3 =>
    if l3 < 4 then
      (X8_blind h t l3 0).bind fun x4 =>
      lett (α := Int32) (if x4 < l2 then l3 else l1) fun j5 =>
      if x4 < l2 then
        X8_quarter_L11 h t n j5 x4 (l3 + 1)
      else
        X8_quarter_L11 h t n j5 l2 (l3 + 1)
    else
      some l1
def X8_quarter (h : HA) (t : Nat) : Option Int32 :=
  if (kd h t).1 = 9 then
    (X8_blind h t 0 0).bind fun x2 =>
    (X8_quarter_L11 h t FU 0 x2 1).bind fun y9 =>
    some y9
  else none
def X8_court_L20 (h : HA) (t : Nat) : Nat → Int32 → Int32 → Option Int32
  | 0, _, _ => none
  | n + 1, l3, l4 =>
    (gI h t 9 27).bind fun x5 =>
    if l4 < x5 then
      (X8_isWall h t l4).bind fun x7 =>
      if x7 = 0 then
        X8_court_L20 h t n (l3 + 0) (l4 + 1)
      else
        X8_court_L20 h t n (l3 + 1) (l4 + 1)
    else
      some l3
def X8_court (h : HA) (t : Nat) (l1 : Int32) (l2 : Int32) : Option (Int32 × HA) :=
  if (kd h t).1 = 9 then
    (pI h t 9 0 0).bind fun h1 =>
    (X8_hand h1 t l1).bind fun (x4, h3) =>
    if x4 = 0 then
      some ((-1), h3)
    else
      (X8_court_L20 h3 t FU 0 0).bind fun y9 =>
      if l2 = 0 then
        (gI h3 t 9 25).bind fun x10 =>
        some (x10, h3)
      else
      if l2 = 1 then
        (gI h3 t 9 26).bind fun x11 =>
        some (x11, h3)
      else
      if l2 = 2 then
        some (y9, h3)
      else
      if l2 = 3 then
        (gI h3 t 9 28).bind fun x12 =>
        some (x12, h3)
      else
      if l2 = 4 then
        (gI h3 t 9 29).bind fun x13 =>
        some (x13, h3)
      else
      if l2 = 5 then
        (X8_quarter h3 t).bind fun x15 =>
        some (x15, h3)
      else
        some ((-1), h3)
  else none
def X8_wall (h : HA) (t : Nat) (l1 : Int32) (l2 : Int32) : Option (Int32 × HA) :=
  if (kd h t).1 = 9 then
    (pI h t 9 0 0).bind fun h1 =>
    (X8_hand h1 t l1).bind fun (x4, h3) =>
    if x4 = 0 then
      some (0, h3)
    else
      (X8_isField h3 t l2).bind fun x6 =>
      if x6 = 0 then
        some (0, h3)
      else
        (X8_isWall h3 t l2).bind fun x8 =>
        if x8 = 0 then
          some (0, h3)
        else
          some (1, h3)
  else none
def X8_isJudge (h : HA) (t : Nat) (l1 : Int32) : Option Int32 :=
  if (kd h t).1 = 9 then
    (gI h t 9 28).bind fun x1 =>
    (X8_in l1 0 (x1 - 1)).bind fun x3 =>
    (bz x3).bind fun x4 =>
    some x4
  else none
def X8_judge (h : HA) (t : Nat) (l1 : Int32) (l2 : Int32) (l3 : Int32) : Option (Int32 × HA) :=
  if (kd h t).1 = 9 then
    (pI h t 9 0 0).bind fun h1 =>
    (X8_hand h1 t l1).bind fun (x4, h3) =>
    if x4 = 0 then
      some ((-1), h3)
    else
      (X8_isJudge h3 t l2).bind fun x6 =>
      if x6 = 0 then
        some ((-1), h3)
      else
        (X8_in l3 0 4).bind fun x8 =>
        if x8 = 0 then
          (X8_in l3 10 109).bind fun x10 =>
          if x10 = 0 then
            some ((-1), h3)
          else
            (X8_judgeOf h3 t l2 1).bind fun x12 =>
            (X8_judgeOf h3 t l2 4).bind fun x14 =>
            (X8_faces h3 t x12 x14 (l3 - 10)).bind fun x16 =>
            some (x16, h3)
        else
          (X8_judgeOf h3 t l2 l3).bind fun x18 =>
          some (x18, h3)
  else none
def X8_isPleader (h : HA) (t : Nat) (l1 : Int32) : Option Int32 :=
  if (kd h t).1 = 9 then
    (gI h t 9 29).bind fun x1 =>
    (X8_in l1 0 (x1 - 1)).bind fun x3 =>
    (bz x3).bind fun x4 =>
    some x4
  else none
def X8_pleader (h : HA) (t : Nat) (l1 : Int32) (l2 : Int32) (l3 : Int32) : Option (Int32 × HA) :=
  if (kd h t).1 = 9 then
    (pI h t 9 0 0).bind fun h1 =>
    (X8_hand h1 t l1).bind fun (x4, h3) =>
    if x4 = 0 then
      some ((-2), h3)
    else
      (X8_isPleader h3 t l2).bind fun x6 =>
      if x6 = 0 then
        some ((-2), h3)
      else
        lett (α := Int32) (if l3 = 0 then 0 else 1) fun j7 =>
        (X8_of h3 t ((34 + (2 * l2)) + j7)).bind fun x11 =>
        some (x11, h3)
  else none
def X8_far (h : HA) (t : Nat) (l1 : Int32) (l2 : Int32) (l3 : Int32) : Option (Int32 × HA) :=
  if (kd h t).1 = 9 then
    (pI h t 9 0 0).bind fun h1 =>
    (X8_hand h1 t l1).bind fun (x4, h3) =>
    if x4 = 0 then
      some ((-1), h3)
    else
      (X8_isField h3 t l2).bind fun x6 =>
      if x6 = 0 then
        some ((-1), h3)
      else
        (X8_isField h3 t l3).bind fun x8 =>
        if x8 = 0 then
          some ((-1), h3)
        else
          (X8_farOf h3 t l2 l3).bind fun x10 =>
          if x10 < 1000 then
            (X8_farOf h3 t l2 l3).bind fun x12 =>
            some (x12, h3)
          else
            some ((-1), h3)
  else none
def X8_comes (h : HA) (t : Nat) (l1 : Int32) (l2 : Int32) (l3 : Int32) (l4 : Int32) : Option (Int32 × HA) :=
  if (kd h t).1 = 9 then
    (pI h t 9 0 0).bind fun h1 =>
    (X8_in l4 0 99).bind fun x3 =>
    if x3 = 0 then
      some ((-1), h1)
    else
      (X8_hand h1 t l1).bind fun (x6, h5) =>
      if x6 = 0 then
        some ((-1), h5)
      else
        (X8_isJudge h5 t l2).bind fun x8 =>
        if x8 = 0 then
          some ((-1), h5)
        else
          (X8_isField h5 t l3).bind fun x10 =>
          if x10 = 0 then
            some ((-1), h5)
          else
            (X8_judgeOf h5 t l2 0).bind fun x12 =>
            (X8_farOf h5 t l3 x12).bind fun x14 =>
            if x14 = 1000 then
              some ((-1), h5)
            else
              (X8_cameFrom h5 t x12 l3).bind fun x16 =>
              (X8_judgeOf h5 t l2 1).bind fun x18 =>
              (X8_judgeOf h5 t l2 4).bind fun x20 =>
              (X8_faces h5 t x18 x20 l4).bind fun x22 =>
              (X8_turned x16 x22).bind fun x24 =>
              some (x24, h5)
  else none
def X8_isLoud (l0 : Int32) (l1 : Int32) : Option Int32 :=
  (X8_in l0 0 99).bind fun x2 =>
  if x2 = 0 then
    some 0
  else
    (X8_in l1 0 9).bind fun x4 =>
    if x4 = 0 then
      some 0
    else
      some 1
def X8_ears (h : HA) (t : Nat) (l1 : Int32) (l2 : Int32) (l3 : Int32) (l4 : Int32) : Option (Int32 × HA) :=
  if (kd h t).1 = 9 then
    (pI h t 9 0 0).bind fun h1 =>
    (X8_isLoud l3 l4).bind fun x3 =>
    if x3 = 0 then
      some ((-1), h1)
    else
      (X8_hand h1 t l1).bind fun (x6, h5) =>
      if x6 = 0 then
        some ((-1), h5)
      else
        (X8_isField h5 t l2).bind fun x8 =>
        if x8 = 0 then
          some ((-1), h5)
        else
          (X8_isWall h5 t l2).bind fun x10 =>
          if x10 = 0 then
            (X8_earsAt h5 t l2 l3 l4).bind fun x12 =>
            some (x12, h5)
          else
            some ((-1), h5)
  else none
def X8_pulpit_L32 (h : HA) (t : Nat) (l2 : Int32) (l3 : Int32) : Nat → Int32 → Int32 → Int32 → Option (Int32 × Int32)
  | 0, _, _, _ => none
  | n + 1, l5, l6, l7 =>
    (gI h t 9 27).bind fun x7 =>
    if l7 < x7 then
      (X8_isWall h t l7).bind fun x9 =>
      (show Option Int32 from
        if x9 = 0 then
          (X8_earsAt h t l7 l2 l3).bind fun x14 =>
          (X8_ones x14).bind fun x16 =>
          some x16
        else
          some (-1)).bind fun j10 =>
      lett (α := Int32) (if l6 < j10 then l7 else l5) fun j17 =>
      (X8_greater l6 j10).bind fun x21 =>
      X8_pulpit_L32 h t l2 l3 n j17 x21 (l7 + 1)
    else
      some (l5, l6)
def X8_pulpit (h : HA) (t : Nat) (l1 : Int32) (l2 : Int32) (l3 : Int32) (l4 : Int32) : Option (Int32 × HA) :=
  if (kd h t).1 = 9 then
    (pI h t 9 0 0).bind fun h1 =>
    (X8_isLoud l2 l3).bind fun x3 =>
    if x3 = 0 then
      some ((-1), h1)
    else
      (X8_hand h1 t l1).bind fun (x6, h5) =>
      if x6 = 0 then
        some ((-1), h5)
      else
        (X8_pulpit_L32 h5 t l2 l3 FU (-1) (-1) 0).bind fun (y23, y24) =>
        if l4 = 0 then
          some (y23, h5)
        else
          some (y24, h5)
  else none
def X8_near_L62 (h : HA) (t : Nat) (l2 : Int32) (l4 : Int32) (l5 : Int32) : Nat → Int32 → Int32 → Option Int32
  | 0, _, _ => none
  | n + 1, l6, l7 =>
    (gI h t 9 27).bind fun x13 =>
    if l7 < x13 then
      (X8_farOf h t l5 l7).bind fun x15 =>
      if x15 < l6 then
        (X8_hears h t l2 l7 0 l4).bind fun x17 =>
        if x17 = 0 then
          X8_near_L62 h t l2 l4 l5 n l6 (l7 + 1)
        else
          (X8_farOf h t l5 l7).bind fun x19 =>
          X8_near_L62 h t l2 l4 l5 n x19 (l7 + 1)
      else
        X8_near_L62 h t l2 l4 l5 n l6 (l7 + 1)
    else
      some l6
def X8_near (h : HA) (t : Nat) (l1 : Int32) (l2 : Int32) (l3 : Int32) (l4 : Int32) : Option (Int32 × HA) :=
  if (kd h t).1 = 9 then
    (pI h t 9 0 0).bind fun h1 =>
    (X8_in l4 0 9).bind fun x3 =>
    if x3 = 0 then
      some ((-1), h1)
    else
      (X8_hand h1 t l1).bind fun (x6, h5) =>
      if x6 = 0 then
        some ((-1), h5)
      else
        (X8_isJudge h5 t l2).bind fun x8 =>
        if x8 = 0 then
          some ((-1), h5)
        else
          (X8_isPleader h5 t l3).bind fun x10 =>
          if x10 = 0 then
            some ((-1), h5)
          else
            (X8_of h5 t (34 + (2 * l3))).bind fun x12 =>
            (X8_near_L62 h5 t l2 l4 x12 FU 1000 0).bind fun y21 =>
            if y21 = 1000 then
              some ((-1), h5)
            else
              some (y21, h5)
  else none
def X8_stateOf (l0 : Int32) (l1 : Int32) (l2 : Int32) : Option Int32 :=
  (rm l2 4).bind fun x1 =>
  some (((256 * l0) + (4 * l1)) + x1)
def X8_comeTo (h : HA) (t : Nat) (l1 : Int32) (l2 : Int32) (l3 : Int32) (l4 : Int32) : Option HA :=
  if (kd h t).1 = 9 then
    (gR h t 9 35).bind fun x1 =>
    (ldI h x1 20 l1).bind fun x2 =>
    if x2 = (-1) then
      (gR h t 9 35).bind fun x3 =>
      (asI h x3 20 l1 l4).bind fun h4 =>
      (gR h4 t 9 33).bind fun x5 =>
      (asI h4 x5 20 l1 l2).bind fun h6 =>
      (gR h6 t 9 34).bind fun x7 =>
      (asI h6 x7 22 l1 (toB (toB l3))).bind fun h8 =>
      (gR h8 t 9 32).bind fun x9 =>
      (gI h8 t 9 37).bind fun x10 =>
      (asI h8 x9 20 x10 l1).bind fun h11 =>
      (gI h11 t 9 37).bind fun x12 =>
      (pI h11 t 9 37 (x12 + 1)).bind fun h13 =>
      some h13
    else
      some h
  else none
def X8_layRow_L7 (t : Nat) : Nat → HA → Int32 → Int32 → Option HA
  | 0, _, _, _ => none
  | n + 1, h, l3, l4 =>
    if l4 < 0 then
      some h
    else
      (gR h t 9 36).bind fun x1 =>
      (gR h t 9 34).bind fun x2 =>
      (ldI h x2 22 l3).bind fun x3 =>
      (asI h x1 20 l4 x3).bind fun h4 =>
      (gR h4 t 9 33).bind fun x5 =>
      (ldI h4 x5 20 l3).bind fun x6 =>
      X8_layRow_L7 t n h4 x6 (l4 + (-1))
def X8_layRow (h : HA) (t : Nat) (l1 : Int32) (l2 : Int32) : Option HA :=
  if (kd h t).1 = 9 then
    (X8_layRow_L7 t FU h l1 (l2 - 1)).bind fun h8 =>
    some h8
  else none
def X8_findRound_L12 (t : Nat) : Nat → HA → Int32 → Option HA
  | 0, _, _ => none
  | n + 1, h, l4 =>
    (gR h t 9 35).bind fun x2 =>
    (aL h x2).bind fun x3 =>
    if l4 < x3 then
      (gR h t 9 35).bind fun x4 =>
      (asI h x4 20 l4 (-1)).bind fun h5 =>
      X8_findRound_L12 t n h5 (l4 + 1)
    else
      some h
def X8_findRound_L121 (t : Nat) (l5 : Int32) (l6 : Int32) (l7 : Int32) (l8 : Int32) : Nat → HA → Int32 → Option HA
  | 0, _, _ => none
  | n + 1, h, l9 =>
    if l9 < 4 then
      if l6 < 60 then
        (X8_stepTo h t l7 l9).bind fun x24 =>
        if x24 = (-1) then
          X8_findRound_L121 t l5 l6 l7 l8 n h (l9 + 1)
        else
          (X8_stateOf x24 l8 (l6 + 1)).bind fun x26 =>
          (X8_comeTo h t x26 l5 l9 (l6 + 1)).bind fun h28 =>
          X8_findRound_L121 t l5 l6 l7 l8 n h28 (l9 + 1)
      else
        some h
    else
      some h
def X8_findRound_L57 (t : Nat) (l2 : Int32) (l3 : Int32) : Nat → HA → Int32 → Option (Int32 × HA)
  | 0, _, _ => none
  | n + 1, h, l4 =>
    (gI h t 9 37).bind fun x13 =>
    if l4 < x13 then
      (gR h t 9 32).bind fun x14 =>
      (ldI h x14 20 l4).bind fun x15 =>
      (gR h t 9 35).bind fun x16 =>
      (ldI h x16 20 x15).bind fun x17 =>
      (dv x15 256).bind fun x18 =>
      (dv x15 4).bind fun x19 =>
      (rm x19 64).bind fun x20 =>
      if x20 = l3 then
        (X8_layRow h t x15 x17).bind fun h22 =>
        some (x17, h22)
      else
        (X8_findRound_L121 t x15 x17 x18 x20 FU h 0).bind fun h30 =>
        if x17 < 60 then
          (rm x17 4).bind fun x31 =>
          (X8_earsAt h30 t x18 x31 l2).bind fun x33 =>
          (X8_stateOf x18 (x20 ||| x33) (x17 + 1)).bind fun x35 =>
          (X8_comeTo h30 t x35 x15 4 (x17 + 1)).bind fun h37 =>
          (X8_stateOf x18 x20 (x17 + 1)).bind fun x39 =>
          (X8_comeTo h37 t x39 x15 5 (x17 + 1)).bind fun h41 =>
          X8_findRound_L57 t l2 l3 n h41 (l4 + 1)
        else
          X8_findRound_L57 t l2 l3 n h30 (l4 + 1)
    else
      some ((-1), h)
def X8_findRound (h : HA) (t : Nat) (l1 : Int32) (l2 : Int32) : Option (Int32 × HA) :=
  if (kd h t).1 = 9 then
    (gI h t 9 28).bind fun x1 =>
    (X8_findRound_L12 t FU h 0).bind fun h7 =>
    (pI h7 t 9 37 0).bind fun h8 =>
    (X8_stateOf l1 0 0).bind fun x10 =>
    (X8_comeTo h8 t x10 (-1) (-1) 0).bind fun h12 =>
    X8_findRound_L57 t l2 ((shlI 1 x1) - 1) FU h12 0
  else none
def X8_round (h : HA) (t : Nat) (l1 : Int32) (l2 : Int32) (l3 : Int32) (l4 : Int32) : Option (Int32 × HA) :=
  if (kd h t).1 = 9 then
    (pI h t 9 0 0).bind fun h1 =>
    (X8_in l3 0 9).bind fun x3 =>
    if x3 = 0 then
      some ((-1), h1)
    else
      (X8_hand h1 t l1).bind fun (x6, h5) =>
      if x6 = 0 then
        some ((-1), h5)
      else
        (X8_isPleader h5 t l2).bind fun x8 =>
        if x8 = 0 then
          some ((-1), h5)
        else
          (gI h5 t 9 28).bind fun x9 =>
          if x9 = 0 then
            some ((-1), h5)
          else
            (X8_of h5 t (34 + (2 * l2))).bind fun x11 =>
            (X8_findRound h5 t x11 l3).bind fun (x14, h13) =>
            if l4 = 0 then
              some (x14, h13)
            else
              (X8_in l4 10 (9 + x14)).bind fun x16 =>
              if x16 = 0 then
                some ((-1), h13)
              else
                (gR h13 t 9 36).bind fun x17 =>
                (ldI h13 x17 20 (l4 - 10)).bind fun x18 =>
                some (x18, h13)
  else none
def X8_echo_L91 (h : HA) (t : Nat) (l2 : Int32) (l3 : Int32) (l4 : Int32) : Nat → Int32 → Int32 → Option Int32
  | 0, _, _ => none
  | n + 1, l5, l6 =>
    (gI h t 9 27).bind fun x21 =>
    if l6 < x21 then
      (X8_isWall h t l6).bind fun x23 =>
      if x23 = 0 then
        (X8_hears h t l2 l6 0 l4).bind fun x25 =>
        if x25 = 0 then
          X8_echo_L91 h t l2 l3 l4 n (l5 + 0) (l6 + 1)
        else
        if l3 = (-1) then
          X8_echo_L91 h t l2 l3 l4 n (l5 + 1) (l6 + 1)
        else
          (X8_hears h t l3 l6 0 l4).bind fun x27 =>
          if x27 = 0 then
            X8_echo_L91 h t l2 l3 l4 n (l5 + 0) (l6 + 1)
          else
            X8_echo_L91 h t l2 l3 l4 n (l5 + 1) (l6 + 1)
      else
        X8_echo_L91 h t l2 l3 l4 n (l5 + 0) (l6 + 1)
    else
      some l5
def X8_echo (h : HA) (t : Nat) (l1 : Int32) (l2 : Int32) (l3 : Int32) (l4 : Int32) : Option (Int32 × HA) :=
  if (kd h t).1 = 9 then
    (pI h t 9 0 0).bind fun h1 =>
    (X8_in l4 0 9).bind fun x3 =>
    if x3 = 0 then
      some ((-1), h1)
    else
      (X8_hand h1 t l1).bind fun (x6, h5) =>
      if x6 = 0 then
        some ((-1), h5)
      else
        (show Option ((Int32 × HA) ⊕ Unit) from
          if l2 = (-1) then
            some (.inr ())
          else
            (X8_isJudge h5 t l2).bind fun x10 =>
            if x10 = 0 then
              some (.inl ((-1), h5))
            else
              some (.inr ())).bind fun s9 =>
        match s9 with
        | .inl r38 =>
          some r38
        | .inr () =>
          (show Option ((Int32 × HA) ⊕ Unit) from
            if l3 = (-1) then
              some (.inr ())
            else
              (X8_isJudge h5 t l3).bind fun x14 =>
              if x14 = 0 then
                some (.inl ((-1), h5))
              else
                some (.inr ())).bind fun s9 =>
          match s9 with
          | .inl r34 =>
            some r34
          | .inr () =>
            (show Option ((Int32 × HA) ⊕ Unit) from
              if l2 = l3 then
                if l2 = (-1) then
                  some (.inr ())
                else
                  some (.inl ((-1), h5))
              else
                some (.inr ())).bind fun s9 =>
            match s9 with
            | .inl r32 =>
              some r32
            | .inr () =>
              (show Option ((Int32 × HA) ⊕ Unit) from
                if l2 = (-1) then
                  if l3 = (-1) then
                    some (.inr ())
                  else
                    some (.inl ((-1), h5))
                else
                  some (.inr ())).bind fun s9 =>
              match s9 with
              | .inl r30 =>
                some r30
              | .inr () =>
                if l2 = (-1) then
                  (X8_blind h5 t 0 l4).bind fun x20 =>
                  some (x20, h5)
                else
                  (X8_echo_L91 h5 t l2 l3 l4 FU 0 0).bind fun y29 =>
                  some (y29, h5)
  else none
def X8_deeds (h : HA) (t : Nat) : Option Int32 :=
  if (kd h t).1 = 9 then
    (gR h t 9 7).bind fun x1 =>
    (gI h t 9 38).bind fun x2 =>
    (ldI h x1 20 (121 * x2)).bind fun x3 =>
    some x3
  else none
def X8_deedOf (h : HA) (t : Nat) (l1 : Int32) (l2 : Int32) : Option Int32 :=
  if (kd h t).1 = 9 then
    (gR h t 9 7).bind fun x1 =>
    (gI h t 9 38).bind fun x2 =>
    (ldI h x1 20 ((((121 * x2) + 1) + (4 * l1)) + l2)).bind fun x3 =>
    some x3
  else none
def X8_does (h : HA) (t : Nat) (l1 : Int32) : Option (Int32 × HA) :=
  if (kd h t).1 = 9 then
    (gR h t 9 42).bind fun x1 =>
    (asI h x1 20 l1 (-1)).bind fun h2 =>
    (X8_deedOf h2 t l1 1).bind fun x4 =>
    (X8_deedOf h2 t l1 0).bind fun x6 =>
    if x6 = 2 then
      some (1, h2)
    else
      (X8_isPleader h2 t x4).bind fun x8 =>
      if x8 = 0 then
        some (0, h2)
      else
        (X8_deedOf h2 t l1 2).bind fun x10 =>
        (X8_deedOf h2 t l1 0).bind fun x12 =>
        if x12 = 1 then
          (gR h2 t 9 42).bind fun x13 =>
          (asI h2 x13 20 l1 x10).bind fun h14 =>
          (gR h14 t 9 43).bind fun x15 =>
          (X8_deedOf h14 t l1 3).bind fun x17 =>
          (asI h14 x15 20 l1 x17).bind fun h18 =>
          (gR h18 t 9 44).bind fun x19 =>
          (gR h18 t 9 41).bind fun x20 =>
          (ldI h18 x20 20 (2 * x4)).bind fun x21 =>
          (asI h18 x19 20 l1 x21).bind fun h22 =>
          (gR h22 t 9 45).bind fun x23 =>
          (gR h22 t 9 41).bind fun x24 =>
          (ldI h22 x24 20 ((2 * x4) + 1)).bind fun x25 =>
          (asI h22 x23 20 l1 x25).bind fun h26 =>
          some (1, h26)
        else
          (gR h2 t 9 41).bind fun x27 =>
          (ldI h2 x27 20 (2 * x4)).bind fun x28 =>
          (X8_stepTo h2 t x28 x10).bind fun x30 =>
          if x30 = (-1) then
            some (0, h2)
          else
            (gR h2 t 9 41).bind fun x31 =>
            (asI h2 x31 20 (2 * x4) x30).bind fun h32 =>
            (gR h32 t 9 41).bind fun x33 =>
            (ldI h32 x33 20 ((2 * x4) + 1)).bind fun x34 =>
            (show Option Int32 from
              if x34 = (-1) then
                some (-1)
              else
                (rm (x10 + 2) 4).bind fun x38 =>
                (X8_stepTo h32 t x34 x38).bind fun x40 =>
                some x40).bind fun j35 =>
            (gR h32 t 9 41).bind fun x41 =>
            if j35 = (-1) then
              (asI h32 x41 20 ((2 * x4) + 1) x34).bind fun h42 =>
              some (1, h42)
            else
              (asI h32 x41 20 ((2 * x4) + 1) j35).bind fun h43 =>
              some (1, h43)
  else none
def X8_play_L2 (t : Nat) : Nat → HA → Int32 → Option HA
  | 0, _, _ => none
  | n + 1, h, l2 =>
    (gI h t 9 29).bind fun x1 =>
    if l2 < (2 * x1) then
      (gR h t 9 41).bind fun x2 =>
      (X8_of h t (34 + l2)).bind fun x4 =>
      (asI h x2 20 l2 x4).bind fun h5 =>
      X8_play_L2 t n h5 (l2 + 1)
    else
      some h
def X8_play_L34 (t : Nat) : Nat → HA → Int32 → Option HA
  | 0, _, _ => none
  | n + 1, h, l2 =>
    if l2 < 30 then
      (gR h t 9 46).bind fun x8 =>
      (asI h x8 20 l2 0).bind fun h9 =>
      X8_play_L34 t n h9 (l2 + 1)
    else
      some h
def X8_play_L58 (t : Nat) (l1 : Int32) : Nat → HA → Option HA
  | 0, _ => none
  | n + 1, h =>
    (gI h t 9 40).bind fun x13 =>
    if x13 < l1 then
      (gI h t 9 40).bind fun x14 =>
      (X8_does h t x14).bind fun (x17, h16) =>
      if x17 = 0 then
        some h16
      else
        (gI h16 t 9 40).bind fun x18 =>
        (pI h16 t 9 40 (x18 + 1)).bind fun h19 =>
        X8_play_L58 t l1 n h19
    else
      some h
def X8_play (h : HA) (t : Nat) (l1 : Int32) : Option (Int32 × HA) :=
  if (kd h t).1 = 9 then
    (X8_play_L2 t FU h 0).bind fun h7 =>
    (X8_play_L34 t FU h7 0).bind fun h11 =>
    (pI h11 t 9 40 0).bind fun h12 =>
    (X8_play_L58 t l1 FU h12).bind fun h21 =>
    (gI h21 t 9 40).bind fun x22 =>
    some (x22, h21)
  else none
def X8_layTrial (h : HA) (t : Nat) (l1 : Int32) (l2 : Int32) : Option (Int32 × HA) :=
  if (kd h t).1 = 9 then
    (X8_is h t 1 l2).bind fun x2 =>
    if x2 = 0 then
      some (0, h)
    else
      (X8_hand h t l1).bind fun (x5, h4) =>
      if x5 = 0 then
        some (0, h4)
      else
        (pI h4 t 9 38 l2).bind fun h6 =>
        (X8_deeds h6 t).bind fun x8 =>
        (X8_play h6 t x8).bind fun (x11, h10) =>
        some (1, h10)
  else none
def X8_layState (h : HA) (t : Nat) (l1 : Int32) (l2 : Int32) (l3 : Int32) : Option (Int32 × HA) :=
  if (kd h t).1 = 9 then
    if l3 < 0 then
      some (0, h)
    else
      (X8_layTrial h t l1 l2).bind fun (x3, h2) =>
      if x3 = 0 then
        some (0, h2)
      else
        (gI h2 t 9 40).bind fun x4 =>
        if x4 < l3 then
          some (0, h2)
        else
          (X8_play h2 t l3).bind fun (x7, h6) =>
          if x7 = l3 then
            some (1, h6)
          else
            some (0, h6)
  else none
def X8_deed (h : HA) (t : Nat) (l1 : Int32) (l2 : Int32) (l3 : Int32) : Option (Int32 × HA) :=
  if (kd h t).1 = 9 then
    (pI h t 9 0 0).bind fun h1 =>
    (X8_is h1 t 1 l1).bind fun x3 =>
    if x3 = 0 then
      some ((-2), h1)
    else
      (pI h1 t 9 38 l1).bind fun h4 =>
      if l2 = (-1) then
        if l3 = 0 then
          (X8_deeds h4 t).bind fun x6 =>
          some (x6, h4)
        else
          some ((-2), h4)
      else
        (X8_deeds h4 t).bind fun x8 =>
        (X8_in l2 0 (x8 - 1)).bind fun x10 =>
        if x10 = 0 then
          some ((-2), h4)
        else
          (X8_in l3 0 3).bind fun x12 =>
          if x12 = 0 then
            some ((-2), h4)
          else
            (X8_deedOf h4 t l2 l3).bind fun x14 =>
            some (x14, h4)
  else none
def X8_stop (h : HA) (t : Nat) (l1 : Int32) (l2 : Int32) : Option (Int32 × HA) :=
  if (kd h t).1 = 9 then
    (pI h t 9 0 0).bind fun h1 =>
    (X8_layTrial h1 t l1 l2).bind fun (x4, h3) =>
    if x4 = 0 then
      some ((-1), h3)
    else
      (gI h3 t 9 40).bind fun x5 =>
      some (x5, h3)
  else none
def X8_stands (h : HA) (t : Nat) (l1 : Int32) (l2 : Int32) (l3 : Int32) (l4 : Int32) (l5 : Int32) : Option (Int32 × HA) :=
  if (kd h t).1 = 9 then
    (pI h t 9 0 0).bind fun h1 =>
    (X8_layState h1 t l1 l2 l3).bind fun (x4, h3) =>
    if x4 = 0 then
      some ((-2), h3)
    else
      (X8_isPleader h3 t l4).bind fun x6 =>
      if x6 = 0 then
        some ((-2), h3)
      else
        (gR h3 t 9 41).bind fun x7 =>
        if l5 = 0 then
          (ldI h3 x7 20 ((2 * l4) + 0)).bind fun x8 =>
          some (x8, h3)
        else
          (ldI h3 x7 20 ((2 * l4) + 1)).bind fun x9 =>
          some (x9, h3)
  else none
def X8_hearsDeed (h : HA) (t : Nat) (l1 : Int32) (l2 : Int32) (l3 : Int32) (l4 : Int32) (l5 : Int32) : Option Int32 :=
  if (kd h t).1 = 9 then
    (gR h t 9 42).bind fun x1 =>
    (ldI h x1 20 l1).bind fun x2 =>
    if x2 = (-1) then
      some 0
    else
      (gR h t 9 44).bind fun x3 =>
      (ldI h x3 20 l1).bind fun x4 =>
      (gR h t 9 43).bind fun x5 =>
      (ldI h x5 20 l1).bind fun x6 =>
      (gR h t 9 46).bind fun x7 =>
      (ldI h x7 20 l1).bind fun x8 =>
      (X8_hearsAt h t l2 l3 l4 l5 x4 x6 x8).bind fun x10 =>
      if x10 = 0 then
        (gR h t 9 45).bind fun x11 =>
        (ldI h x11 20 l1).bind fun x12 =>
        if x12 = (-1) then
          some 0
        else
          (gR h t 9 45).bind fun x13 =>
          (ldI h x13 20 l1).bind fun x14 =>
          (gR h t 9 43).bind fun x15 =>
          (ldI h x15 20 l1).bind fun x16 =>
          (gR h t 9 46).bind fun x17 =>
          (ldI h x17 20 l1).bind fun x18 =>
          (X8_hearsAt h t l2 l3 l4 l5 x14 x16 x18).bind fun x20 =>
          if x20 = 0 then
            some 0
          else
            some 1
      else
        some 1
  else none
def X8_knownFrom_L6 (h : HA) (t : Nat) (l1 : Int32) (l2 : Int32) (l3 : Int32) (l4 : Int32) (l5 : Int32) : Nat → Int32 → Int32 → Option Int32
  | 0, _, _ => none
  | n + 1, l6, l7 =>
    (gI h t 9 40).bind fun x1 =>
    if l7 < x1 then
      (X8_judgeOf h t l1 0).bind fun x3 =>
      (X8_judgeOf h t l1 4).bind fun x5 =>
      (X8_faces h t l2 x5 (l7 + l3)).bind fun x7 =>
      (X8_hearsDeed h t l7 x3 x7 l4 l5).bind fun x9 =>
      if x9 = 0 then
        X8_knownFrom_L6 h t l1 l2 l3 l4 l5 n (l6 ||| 0) (l7 + 1)
      else
        (gR h t 9 42).bind fun x10 =>
        (ldI h x10 20 l7).bind fun x11 =>
        X8_knownFrom_L6 h t l1 l2 l3 l4 l5 n (l6 ||| (shlI 1 x11)) (l7 + 1)
    else
      some l6
def X8_knownFrom (h : HA) (t : Nat) (l1 : Int32) (l2 : Int32) (l3 : Int32) (l4 : Int32) (l5 : Int32) : Option Int32 :=
  if (kd h t).1 = 9 then
    (X8_knownFrom_L6 h t l1 l2 l3 l4 l5 FU 0 0).bind fun y13 =>
    some y13
  else none
def X8_knownIn (h : HA) (t : Nat) (l1 : Int32) (l2 : Int32) (l3 : Int32) : Option Int32 :=
  if (kd h t).1 = 9 then
    (X8_judgeOf h t l1 1).bind fun x2 =>
    (X8_knownFrom h t l1 x2 0 l2 l3).bind fun x4 =>
    some x4
  else none
def X8_known (h : HA) (t : Nat) (l1 : Int32) : Option Int32 :=
  if (kd h t).1 = 9 then
    (X8_earsOf h t l1).bind fun x2 =>
    (X8_judgeOf h t l1 3).bind fun x4 =>
    (X8_knownIn h t l1 x2 x4).bind fun x6 =>
    some x6
  else none
def X8_common_L17 (h : HA) (t : Nat) : Nat → Int32 → Int32 → Option Int32
  | 0, _, _ => none
  | n + 1, l1, l2 =>
    (gI h t 9 28).bind fun x5 =>
    if l2 < x5 then
      (X8_known h t l2).bind fun x7 =>
      X8_common_L17 h t n (l1 &&& x7) (l2 + 1)
    else
      some l1
def X8_common (h : HA) (t : Nat) : Option Int32 :=
  if (kd h t).1 = 9 then
    (gI h t 9 28).bind fun x1 =>
    lett (α := Int32) (if x1 = 0 then 0 else 1023) fun j2 =>
    (X8_common_L17 h t FU j2 0).bind fun y9 =>
    some y9
  else none
def X8_lost_L4 (h : HA) (t : Nat) : Nat → Int32 → Int32 → Option Int32
  | 0, _, _ => none
  | n + 1, l1, l2 =>
    (gI h t 9 40).bind fun x1 =>
    if l2 < x1 then
      (gR h t 9 42).bind fun x2 =>
      (ldI h x2 20 l2).bind fun x3 =>
      if x3 = (-1) then
        X8_lost_L4 h t n (l1 ||| 0) (l2 + 1)
      else
        (gR h t 9 42).bind fun x4 =>
        (ldI h x4 20 l2).bind fun x5 =>
        X8_lost_L4 h t n (l1 ||| (shlI 1 x5)) (l2 + 1)
    else
      some l1
def X8_lost_L45 (h : HA) (t : Nat) : Nat → Int32 → Int32 → Option Int32
  | 0, _, _ => none
  | n + 1, l1, l2 =>
    (gI h t 9 28).bind fun x8 =>
    if l2 < x8 then
      (X8_known h t l2).bind fun x10 =>
      X8_lost_L45 h t n (l1 &&& (x10 ^^^ (-1))) (l2 + 1)
    else
      some l1
def X8_lost (h : HA) (t : Nat) : Option Int32 :=
  if (kd h t).1 = 9 then
    (X8_lost_L4 h t FU 0 0).bind fun y7 =>
    (X8_lost_L45 h t FU y7 0).bind fun y12 =>
    some y12
  else none
def X8_knows (h : HA) (t : Nat) (l1 : Int32) (l2 : Int32) (l3 : Int32) (l4 : Int32) : Option (Int32 × HA) :=
  if (kd h t).1 = 9 then
    (pI h t 9 0 0).bind fun h1 =>
    (X8_layState h1 t l1 l2 l3).bind fun (x4, h3) =>
    if x4 = 0 then
      some ((-1), h3)
    else
    if l4 < (-2) then
      some ((-1), h3)
    else
      (gI h3 t 9 28).bind fun x5 =>
      if l4 < x5 then
        if l4 = (-1) then
          (X8_common h3 t).bind fun x7 =>
          some (x7, h3)
        else
        if l4 = (-2) then
          (X8_lost h3 t).bind fun x9 =>
          some (x9, h3)
        else
          (X8_known h3 t l4).bind fun x11 =>
          some (x11, h3)
      else
        some ((-1), h3)
  else none
def X8_heard_L46 (h : HA) (t : Nat) (l3 : Int32) : Nat → Int32 → Int32 → Option Int32
  | 0, _, _ => none
  | n + 1, l4, l5 =>
    (gI h t 9 28).bind fun x10 =>
    if l5 < x10 then
      (X8_judgeOf h t l5 0).bind fun x12 =>
      (X8_judgeOf h t l5 1).bind fun x14 =>
      (X8_judgeOf h t l5 4).bind fun x16 =>
      (X8_faces h t x14 x16 l3).bind fun x18 =>
      (X8_earsOf h t l5).bind fun x20 =>
      (X8_judgeOf h t l5 3).bind fun x22 =>
      (X8_hearsDeed h t l3 x12 x18 x20 x22).bind fun x24 =>
      if x24 = 0 then
        X8_heard_L46 h t l3 n (l4 ||| 0) (l5 + 1)
      else
        X8_heard_L46 h t l3 n (l4 ||| (shlI 1 l5)) (l5 + 1)
    else
      some l4
def X8_heard (h : HA) (t : Nat) (l1 : Int32) (l2 : Int32) (l3 : Int32) : Option (Int32 × HA) :=
  if (kd h t).1 = 9 then
    (pI h t 9 0 0).bind fun h1 =>
    (X8_layTrial h1 t l1 l2).bind fun (x4, h3) =>
    if x4 = 0 then
      some ((-1), h3)
    else
      (gI h3 t 9 40).bind fun x5 =>
      (X8_in l3 0 (x5 - 1)).bind fun x7 =>
      if x7 = 0 then
        some ((-1), h3)
      else
        (gR h3 t 9 42).bind fun x8 =>
        (ldI h3 x8 20 l3).bind fun x9 =>
        if x9 = (-1) then
          some ((-1), h3)
        else
          (X8_heard_L46 h3 t l3 FU 0 0).bind fun y26 =>
          some (y26, h3)
  else none
def X8_rules (h : HA) (t : Nat) : Option Int32 :=
  if (kd h t).1 = 9 then
    (gR h t 9 8).bind fun x1 =>
    (gI h t 9 47).bind fun x2 =>
    (ldI h x1 20 (25 * x2)).bind fun x3 =>
    some x3
  else none
def X8_ruleOf (h : HA) (t : Nat) (l1 : Int32) (l2 : Int32) : Option Int32 :=
  if (kd h t).1 = 9 then
    (gR h t 9 8).bind fun x1 =>
    (gI h t 9 47).bind fun x2 =>
    (ldI h x1 20 ((((25 * x2) + 1) + (3 * l1)) + l2)).bind fun x3 =>
    some x3
  else none
def X8_hasLaw (h : HA) (t : Nat) (l1 : Int32) : Option (Int32 × HA) :=
  if (kd h t).1 = 9 then
    (pI h t 9 47 l1).bind fun h1 =>
    (X8_is h1 t 2 l1).bind fun x3 =>
    (bz x3).bind fun x4 =>
    some (x4, h1)
  else none
def X8_rule (h : HA) (t : Nat) (l1 : Int32) (l2 : Int32) (l3 : Int32) : Option (Int32 × HA) :=
  if (kd h t).1 = 9 then
    (pI h t 9 0 0).bind fun h1 =>
    (X8_hasLaw h1 t l1).bind fun (x4, h3) =>
    if x4 = 0 then
      some ((-2), h3)
    else
    if l2 = (-1) then
      if l3 = 0 then
        (X8_rules h3 t).bind fun x6 =>
        some (x6, h3)
      else
        some ((-2), h3)
    else
      (X8_rules h3 t).bind fun x8 =>
      (X8_in l2 0 (x8 - 1)).bind fun x10 =>
      if x10 = 0 then
        some ((-2), h3)
      else
        (X8_in l3 0 2).bind fun x12 =>
        if x12 = 0 then
          some ((-2), h3)
        else
          (X8_ruleOf h3 t l2 l3).bind fun x14 =>
          some (x14, h3)
  else none
def X8_ruleBy_L2 (h : HA) (t : Nat) (l1 : Int32) : Nat → Int32 → Option Int32
  | 0, _ => none
  | n + 1, l2 =>
    (X8_rules h t).bind fun x2 =>
    if l2 < x2 then
      (X8_ruleOf h t l2 1).bind fun x4 =>
      (show Option Int32 from
        if x4 = (-1) then
          some 1
        else
          (X8_ruleOf h t l2 1).bind fun x9 =>
          (X8_has l1 x9).bind fun x11 =>
          if x11 = 0 then
            some 0
          else
            some 1).bind fun j5 =>
      if j5 = 0 then
        X8_ruleBy_L2 h t l1 n (l2 + 1)
      else
        (X8_ruleOf h t l2 2).bind fun x13 =>
        if x13 = (-1) then
          some l2
        else
          (X8_ruleOf h t l2 2).bind fun x15 =>
          (X8_has l1 x15).bind fun x17 =>
          if x17 = 0 then
            some l2
          else
            X8_ruleBy_L2 h t l1 n (l2 + 1)
    else
      some (-1)
def X8_ruleBy (h : HA) (t : Nat) (l1 : Int32) : Option Int32 :=
  if (kd h t).1 = 9 then
    X8_ruleBy_L2 h t l1 FU 0
  else none
def X8_voteBy (h : HA) (t : Nat) (l1 : Int32) : Option Int32 :=
  if (kd h t).1 = 9 then
    (X8_ruleBy h t l1).bind fun x2 =>
    if x2 = (-1) then
      some (-1)
    else
      (X8_ruleOf h t x2 0).bind fun x4 =>
      some x4
  else none
def X8_findVotes_L2 (t : Nat) : Nat → HA → Int32 → Option HA
  | 0, _, _ => none
  | n + 1, h, l1 =>
    (gI h t 9 28).bind fun x1 =>
    if l1 < x1 then
      (gR h t 9 48).bind fun x2 =>
      (X8_known h t l1).bind fun x4 =>
      (X8_voteBy h t x4).bind fun x6 =>
      (asI h x2 20 l1 x6).bind fun h7 =>
      X8_findVotes_L2 t n h7 (l1 + 1)
    else
      some h
def X8_findVotes (h : HA) (t : Nat) : Option HA :=
  if (kd h t).1 = 9 then
    (X8_findVotes_L2 t FU h 0).bind fun h9 =>
    some h9
  else none
def X8_verdict_L4 (h : HA) (t : Nat) : Nat → Int32 → Int32 → Option Int32
  | 0, _, _ => none
  | n + 1, l1, l2 =>
    (gI h t 9 28).bind fun x1 =>
    if l2 < x1 then
      (gR h t 9 48).bind fun x2 =>
      (ldI h x2 20 l2).bind fun x3 =>
      if x3 = (-1) then
        X8_verdict_L4 h t n (l1 + 0) (l2 + 1)
      else
        (gR h t 9 48).bind fun x4 =>
        (ldI h x4 20 l2).bind fun x5 =>
        if x5 = 1 then
          X8_verdict_L4 h t n (l1 + 1) (l2 + 1)
        else
          X8_verdict_L4 h t n (l1 + (-1)) (l2 + 1)
    else
      some l1
def X8_verdict (h : HA) (t : Nat) : Option Int32 :=
  if (kd h t).1 = 9 then
    (X8_verdict_L4 h t FU 0 0).bind fun y7 =>
    if 0 < y7 then
      some 1
    else
    if y7 < 0 then
      some 0
    else
      some (-1)
  else none
def X8_layVotes (h : HA) (t : Nat) (l1 : Int32) (l2 : Int32) (l3 : Int32) : Option (Int32 × HA) :=
  if (kd h t).1 = 9 then
    (X8_hasLaw h t l3).bind fun (x3, h2) =>
    if x3 = 0 then
      some (0, h2)
    else
      (X8_layTrial h2 t l1 l2).bind fun (x6, h5) =>
      if x6 = 0 then
        some (0, h5)
      else
        (X8_findVotes h5 t).bind fun h8 =>
        some (1, h8)
  else none
def X8_votes (h : HA) (t : Nat) (l1 : Int32) (l2 : Int32) (l3 : Int32) (l4 : Int32) : Option (Int32 × HA) :=
  if (kd h t).1 = 9 then
    (pI h t 9 0 0).bind fun h1 =>
    (X8_layVotes h1 t l1 l2 l3).bind fun (x4, h3) =>
    if x4 = 0 then
      some ((-2), h3)
    else
      (gI h3 t 9 28).bind fun x5 =>
      (X8_in l4 (-1) (x5 - 1)).bind fun x7 =>
      if x7 = 0 then
        some ((-2), h3)
      else
      if l4 = (-1) then
        (X8_verdict h3 t).bind fun x9 =>
        some (x9, h3)
      else
        (gR h3 t 9 48).bind fun x10 =>
        (ldI h3 x10 20 l4).bind fun x11 =>
        some (x11, h3)
  else none
def X8_otherEars (h : HA) (t : Nat) (l1 : Int32) : Option Int32 :=
  if (kd h t).1 = 9 then
    (X8_judgeOf h t l1 2).bind fun x2 =>
    if x2 = 0 then
      some (1 ||| 2)
    else
      some (1 ||| 8)
  else none
def X8_sway_L39 (t : Nat) (l4 : Int32) (l5 : Int32) : Nat → HA → Int32 → Int32 → Option (Int32 × HA)
  | 0, _, _, _ => none
  | n + 1, h, l6, l7 =>
    (gI h t 9 28).bind fun x9 =>
    if l7 < x9 then
      (gR h t 9 48).bind fun x10 =>
      (ldI h x10 20 l7).bind fun x11 =>
      (show Option HA from
        if l4 = 1 then
          (gR h t 9 48).bind fun x15 =>
          (X8_otherEars h t l7).bind fun x17 =>
          (X8_judgeOf h t l7 3).bind fun x19 =>
          (X8_knownIn h t l7 x17 x19).bind fun x21 =>
          (X8_voteBy h t x21).bind fun x23 =>
          (asI h x15 20 l7 x23).bind fun h24 =>
          some h24
        else
        if x11 = (-1) then
          some h
        else
          (gR h t 9 48).bind fun x25 =>
          (asI h x25 20 l7 (1 - x11)).bind fun h26 =>
          some h26).bind fun h12 =>
      (X8_verdict h12 t).bind fun x28 =>
      lett (α := Int32) (if x28 = l5 then 0 else (shlI 1 l7)) fun j29 =>
      (gR h12 t 9 48).bind fun x32 =>
      (asI h12 x32 20 l7 x11).bind fun h33 =>
      X8_sway_L39 t l4 l5 n h33 (l6 ||| j29) (l7 + 1)
    else
      some (l6, h)
def X8_sway (h : HA) (t : Nat) (l1 : Int32) (l2 : Int32) (l3 : Int32) (l4 : Int32) : Option (Int32 × HA) :=
  if (kd h t).1 = 9 then
    (pI h t 9 0 0).bind fun h1 =>
    (X8_in l4 0 1).bind fun x3 =>
    if x3 = 0 then
      some ((-1), h1)
    else
      (X8_layVotes h1 t l1 l2 l3).bind fun (x6, h5) =>
      if x6 = 0 then
        some ((-1), h5)
      else
        (X8_verdict h5 t).bind fun x8 =>
        (X8_sway_L39 t l4 x8 FU h5 0 0).bind fun (y35, h36) =>
        some (y35, h36)
  else none
def X8_soldBy (h : HA) (t : Nat) (l1 : Int32) (l2 : Int32) : Option Int32 :=
  if (kd h t).1 = 9 then
    (X8_known h t l1).bind fun x2 =>
    (X8_ones x2).bind fun x4 =>
    (X8_judgeOf h t l1 3).bind fun x6 =>
    (X8_knownIn h t l1 l2 x6).bind fun x8 =>
    (X8_ones x8).bind fun x10 =>
    some (x4 - x10)
  else none
def X8_dearest_L6 (h : HA) (t : Nat) : Nat → Int32 → Int32 → Int32 → Option Int32
  | 0, _, _, _ => none
  | n + 1, l1, l2, l3 =>
    (gI h t 9 28).bind fun x1 =>
    if l3 < x1 then
      (X8_soldBy h t l3 1).bind fun x3 =>
      lett (α := Int32) (if l2 < x3 then l3 else l1) fun j4 =>
      (X8_greater l2 x3).bind fun x8 =>
      X8_dearest_L6 h t n j4 x8 (l3 + 1)
    else
      some l1
def X8_dearest (h : HA) (t : Nat) : Option Int32 :=
  if (kd h t).1 = 9 then
    (X8_dearest_L6 h t FU (-1) (-1) 0).bind fun y10 =>
    some y10
  else none
def X8_sold (h : HA) (t : Nat) (l1 : Int32) (l2 : Int32) (l3 : Int32) (l4 : Int32) : Option (Int32 × HA) :=
  if (kd h t).1 = 9 then
    (pI h t 9 0 0).bind fun h1 =>
    (X8_layTrial h1 t l1 l2).bind fun (x4, h3) =>
    if x4 = 0 then
      some ((-1), h3)
    else
      (gI h3 t 9 28).bind fun x5 =>
      if x5 = 0 then
        some ((-1), h3)
      else
        (gI h3 t 9 28).bind fun x6 =>
        (X8_in l3 (-1) (x6 - 1)).bind fun x8 =>
        if x8 = 0 then
          some ((-1), h3)
        else
        if l3 = (-1) then
          (X8_dearest h3 t).bind fun x10 =>
          some (x10, h3)
        else
        if l4 = 0 then
          (X8_soldBy h3 t l3 1).bind fun x12 =>
          some (x12, h3)
        else
          (X8_soldBy h3 t l3 11).bind fun x14 =>
          some ((-x14), h3)
  else none
def X8_swap (h : HA) (t : Nat) (l1 : Int32) (l2 : Int32) : Option HA :=
  if (kd h t).1 = 9 then
    (gR h t 9 50).bind fun x1 =>
    (ldI h x1 20 l1).bind fun x2 =>
    (gR h t 9 50).bind fun x3 =>
    (gR h t 9 50).bind fun x4 =>
    (ldI h x4 20 l2).bind fun x5 =>
    (asI h x3 20 l1 x5).bind fun h6 =>
    (gR h6 t 9 50).bind fun x7 =>
    (asI h6 x7 20 l2 x2).bind fun h8 =>
    some h8
  else none
def X8_nextSeats_L7 (h : HA) (t : Nat) : Nat → Int32 → Option Int32
  | 0, _ => none
  | n + 1, l1 =>
    if l1 < 0 then
      some l1
    else
      (gR h t 9 50).bind fun x2 =>
      (ldI h x2 20 l1).bind fun x3 =>
      (gR h t 9 50).bind fun x4 =>
      (ldI h x4 20 (l1 + 1)).bind fun x5 =>
      if x5 < x3 then
        X8_nextSeats_L7 h t n (l1 + (-1))
      else
        some l1
def X8_nextSeats_L47 (h : HA) (t : Nat) (l1 : Int32) : Nat → Int32 → Option Int32
  | 0, _ => none
  | n + 1, l2 =>
    (gR h t 9 50).bind fun x9 =>
    (ldI h x9 20 l2).bind fun x10 =>
    (gR h t 9 50).bind fun x11 =>
    (ldI h x11 20 l1).bind fun x12 =>
    if x10 < x12 then
      X8_nextSeats_L47 h t l1 n (l2 + (-1))
    else
      some l2
def X8_nextSeats_L86 (t : Nat) : Nat → HA → Int32 → Int32 → Option HA
  | 0, _, _, _ => none
  | n + 1, h, l3, l4 =>
    if l3 < l4 then
      (X8_swap h t l3 l4).bind fun h19 =>
      X8_nextSeats_L86 t n h19 (l3 + 1) (l4 + (-1))
    else
      some h
def X8_nextSeats (h : HA) (t : Nat) : Option (Int32 × HA) :=
  if (kd h t).1 = 9 then
    (gI h t 9 28).bind fun x1 =>
    (X8_nextSeats_L7 h t FU (x1 - 2)).bind fun y7 =>
    if y7 < 0 then
      some (0, h)
    else
      (gI h t 9 28).bind fun x8 =>
      (X8_nextSeats_L47 h t y7 FU (x8 - 1)).bind fun y14 =>
      (X8_swap h t y7 y14).bind fun h16 =>
      (gI h16 t 9 28).bind fun x17 =>
      (X8_nextSeats_L86 t FU h16 (y7 + 1) (x17 - 1)).bind fun h21 =>
      some (1, h21)
  else none
def X8_findSeats_L19 (t : Nat) (l1 : Int32) : Nat → HA → Int32 → Option HA
  | 0, _, _ => none
  | n + 1, h, l2 =>
    (gI h t 9 28).bind fun x4 =>
    if l2 < x4 then
      (gR h t 9 49).bind fun x5 =>
      (X8_earsOf h t l1).bind fun x7 =>
      (X8_judgeOf h t l1 3).bind fun x9 =>
      (X8_knownIn h t l2 x7 x9).bind fun x11 =>
      (X8_ones x11).bind fun x13 =>
      (asI h x5 20 ((6 * l1) + l2) x13).bind fun h14 =>
      X8_findSeats_L19 t l1 n h14 (l2 + 1)
    else
      some h
def X8_findSeats_L2 (t : Nat) : Nat → HA → Int32 → Option HA
  | 0, _, _ => none
  | n + 1, h, l1 =>
    (gI h t 9 28).bind fun x1 =>
    if l1 < x1 then
      (gR h t 9 50).bind fun x2 =>
      (asI h x2 20 l1 l1).bind fun h3 =>
      (X8_findSeats_L19 t l1 FU h3 0).bind fun h16 =>
      X8_findSeats_L2 t n h16 (l1 + 1)
    else
      some h
def X8_findSeats_L82 (h : HA) (t : Nat) : Nat → Int32 → Int32 → Option Int32
  | 0, _, _ => none
  | n + 1, l3, l4 =>
    (gI h t 9 28).bind fun x19 =>
    if l4 < x19 then
      (gR h t 9 49).bind fun x20 =>
      (gR h t 9 50).bind fun x21 =>
      (ldI h x21 20 l4).bind fun x22 =>
      (ldI h x20 20 ((6 * l4) + x22)).bind fun x23 =>
      X8_findSeats_L82 h t n (l3 + x23) (l4 + 1)
    else
      some l3
def X8_findSeats_L121 (t : Nat) (l1 : Int32) (l3 : Int32) : Nat → HA → Int32 → Option HA
  | 0, _, _ => none
  | n + 1, h, l4 =>
    (gI h t 9 28).bind fun x26 =>
    if l4 < x26 then
      if l1 < l3 then
        (gR h t 9 51).bind fun x27 =>
        (gR h t 9 50).bind fun x28 =>
        (ldI h x28 20 l4).bind fun x29 =>
        (asI h x27 20 l4 x29).bind fun h30 =>
        X8_findSeats_L121 t l1 l3 n h30 (l4 + 1)
      else
        some h
    else
      some h
def X8_findSeats_L73 (t : Nat) : Nat → HA → Int32 → Int32 → Option (Int32 × HA)
  | 0, _, _, _ => none
  | n + 1, h, l1, l2 =>
    if l2 = 0 then
      some (l1, h)
    else
      (X8_findSeats_L82 h t FU 0 0).bind fun y25 =>
      (X8_findSeats_L121 t l1 y25 FU h 0).bind fun h32 =>
      (X8_greater l1 y25).bind fun x34 =>
      (X8_nextSeats h32 t).bind fun (x37, h36) =>
      X8_findSeats_L73 t n h36 x34 x37
def X8_findSeats (h : HA) (t : Nat) : Option (Int32 × HA) :=
  if (kd h t).1 = 9 then
    (X8_findSeats_L2 t FU h 0).bind fun h18 =>
    (X8_findSeats_L73 t FU h18 (-1) 1).bind fun (y39, h40) =>
    some (y39, h40)
  else none
def X8_seats (h : HA) (t : Nat) (l1 : Int32) (l2 : Int32) (l3 : Int32) : Option (Int32 × HA) :=
  if (kd h t).1 = 9 then
    (pI h t 9 0 0).bind fun h1 =>
    (X8_layTrial h1 t l1 l2).bind fun (x4, h3) =>
    if x4 = 0 then
      some ((-1), h3)
    else
      (gI h3 t 9 28).bind fun x5 =>
      (X8_in l3 (-1) (x5 - 1)).bind fun x7 =>
      if x7 = 0 then
        some ((-1), h3)
      else
        (X8_findSeats h3 t).bind fun (x10, h9) =>
        if l3 = (-1) then
          some (x10, h9)
        else
          (gR h9 t 9 51).bind fun x11 =>
          (ldI h9 x11 20 l3).bind fun x12 =>
          some (x12, h9)
  else none
def X8_claims (h : HA) (t : Nat) : Option Int32 :=
  if (kd h t).1 = 9 then
    (gR h t 9 9).bind fun x1 =>
    (gI h t 9 52).bind fun x2 =>
    (ldI h x1 20 (25 * x2)).bind fun x3 =>
    some x3
  else none
def X8_claimOf (h : HA) (t : Nat) (l1 : Int32) (l2 : Int32) : Option Int32 :=
  if (kd h t).1 = 9 then
    (gR h t 9 9).bind fun x1 =>
    (gI h t 9 52).bind fun x2 =>
    (ldI h x1 20 ((((25 * x2) + 1) + (2 * l1)) + l2)).bind fun x3 =>
    some x3
  else none
def X8_hasRoll (h : HA) (t : Nat) (l1 : Int32) : Option (Int32 × HA) :=
  if (kd h t).1 = 9 then
    (pI h t 9 52 l1).bind fun h1 =>
    (X8_is h1 t 3 l1).bind fun x3 =>
    (bz x3).bind fun x4 =>
    some (x4, h1)
  else none
def X8_claim (h : HA) (t : Nat) (l1 : Int32) (l2 : Int32) (l3 : Int32) : Option (Int32 × HA) :=
  if (kd h t).1 = 9 then
    (pI h t 9 0 0).bind fun h1 =>
    (X8_hasRoll h1 t l1).bind fun (x4, h3) =>
    if x4 = 0 then
      some ((-2), h3)
    else
    if l2 = (-1) then
      if l3 = 0 then
        (X8_claims h3 t).bind fun x6 =>
        some (x6, h3)
      else
        some ((-2), h3)
    else
      (X8_claims h3 t).bind fun x8 =>
      (X8_in l2 0 (x8 - 1)).bind fun x10 =>
      if x10 = 0 then
        some ((-2), h3)
      else
        (X8_in l3 0 1).bind fun x12 =>
        if x12 = 0 then
          some ((-2), h3)
        else
          (X8_claimOf h3 t l2 l3).bind fun x14 =>
          some (x14, h3)
  else none
def X8_sees_L8 (h : HA) (t : Nat) (l2 : Int32) (l3 : Int32) : Nat → Int32 → Option Int32
  | 0, _ => none
  | n + 1, l4 =>
    if l4 = (-1) then
      some 0
    else
    if l4 = l3 then
      some 1
    else
      (X8_stepTo h t l4 l2).bind fun x4 =>
      X8_sees_L8 h t l2 l3 n x4
def X8_sees (h : HA) (t : Nat) (l1 : Int32) (l2 : Int32) (l3 : Int32) : Option Int32 :=
  if (kd h t).1 = 9 then
    (X8_stepTo h t l1 l2).bind fun x2 =>
    X8_sees_L8 h t l2 l3 FU x2
  else none
def X8_couldSee_L2 (h : HA) (t : Nat) (l1 : Int32) (l2 : Int32) : Nat → Int32 → Option Int32
  | 0, _ => none
  | n + 1, l3 =>
    (gI h t 9 40).bind fun x1 =>
    if l3 < x1 then
      (X8_judgeOf h t l1 1).bind fun x3 =>
      (X8_judgeOf h t l1 4).bind fun x5 =>
      (X8_faces h t x3 x5 l3).bind fun x7 =>
      (gR h t 9 42).bind fun x8 =>
      (ldI h x8 20 l3).bind fun x9 =>
      if x9 = l2 then
        (X8_judgeOf h t l1 0).bind fun x11 =>
        (gR h t 9 44).bind fun x12 =>
        (ldI h x12 20 l3).bind fun x13 =>
        (X8_sees h t x11 x7 x13).bind fun x15 =>
        if x15 = 0 then
          (gR h t 9 45).bind fun x16 =>
          (ldI h x16 20 l3).bind fun x17 =>
          if x17 = (-1) then
            X8_couldSee_L2 h t l1 l2 n (l3 + 1)
          else
            (X8_judgeOf h t l1 0).bind fun x19 =>
            (gR h t 9 45).bind fun x20 =>
            (ldI h x20 20 l3).bind fun x21 =>
            (X8_sees h t x19 x7 x21).bind fun x23 =>
            if x23 = 0 then
              X8_couldSee_L2 h t l1 l2 n (l3 + 1)
            else
              some 1
        else
          some 1
      else
        X8_couldSee_L2 h t l1 l2 n (l3 + 1)
    else
      some 0
def X8_couldSee (h : HA) (t : Nat) (l1 : Int32) (l2 : Int32) : Option Int32 :=
  if (kd h t).1 = 9 then
    X8_couldSee_L2 h t l1 l2 FU 0
  else none
def X8_liars_L4 (h : HA) (t : Nat) : Nat → Int32 → Int32 → Option Int32
  | 0, _, _ => none
  | n + 1, l1, l2 =>
    (X8_claims h t).bind fun x2 =>
    if l2 < x2 then
      (X8_claimOf h t l2 0).bind fun x4 =>
      (X8_isJudge h t x4).bind fun x6 =>
      if x6 = 0 then
        X8_liars_L4 h t n (l1 ||| (shlI 1 l2)) (l2 + 1)
      else
        (X8_known h t x4).bind fun x8 =>
        (X8_claimOf h t l2 1).bind fun x10 =>
        (X8_has x8 x10).bind fun x12 =>
        if x12 = 0 then
          X8_liars_L4 h t n (l1 ||| (shlI 1 l2)) (l2 + 1)
        else
          X8_liars_L4 h t n (l1 ||| 0) (l2 + 1)
    else
      some l1
def X8_liars (h : HA) (t : Nat) : Option Int32 :=
  if (kd h t).1 = 9 then
    (X8_liars_L4 h t FU 0 0).bind fun y14 =>
    some y14
  else none
def X8_lipsOf_L4 (h : HA) (t : Nat) (l1 : Int32) : Nat → Int32 → Int32 → Option Int32
  | 0, _, _ => none
  | n + 1, l2, l3 =>
    (X8_claims h t).bind fun x2 =>
    if l3 < x2 then
      (X8_claimOf h t l3 0).bind fun x4 =>
      (X8_has l1 l3).bind fun x6 =>
      if x6 = 0 then
        X8_lipsOf_L4 h t l1 n (l2 ||| 0) (l3 + 1)
      else
        (X8_isJudge h t x4).bind fun x8 =>
        if x8 = 0 then
          X8_lipsOf_L4 h t l1 n (l2 ||| 0) (l3 + 1)
        else
          (X8_claimOf h t l3 1).bind fun x10 =>
          (X8_couldSee h t x4 x10).bind fun x12 =>
          if x12 = 0 then
            X8_lipsOf_L4 h t l1 n (l2 ||| 0) (l3 + 1)
          else
            X8_lipsOf_L4 h t l1 n (l2 ||| (shlI 1 l3)) (l3 + 1)
    else
      some l2
def X8_lipsOf (h : HA) (t : Nat) (l1 : Int32) : Option Int32 :=
  if (kd h t).1 = 9 then
    (X8_lipsOf_L4 h t l1 FU 0 0).bind fun y14 =>
    some y14
  else none
def X8_reader_L22 (h : HA) (t : Nat) (l1 : Int32) (l4 : Int32) : Nat → Int32 → Int32 → Option Int32
  | 0, _, _ => none
  | n + 1, l5, l6 =>
    (X8_claims h t).bind fun x3 =>
    if l6 < x3 then
      (X8_has l1 l6).bind fun x5 =>
      if x5 = 0 then
        X8_reader_L22 h t l1 l4 n (l5 + 0) (l6 + 1)
      else
        (X8_claimOf h t l6 0).bind fun x7 =>
        if x7 = l4 then
          X8_reader_L22 h t l1 l4 n (l5 + 1) (l6 + 1)
        else
          X8_reader_L22 h t l1 l4 n (l5 + 0) (l6 + 1)
    else
      some l5
def X8_reader_L7 (h : HA) (t : Nat) (l1 : Int32) : Nat → Int32 → Int32 → Int32 → Option Int32
  | 0, _, _, _ => none
  | n + 1, l2, l3, l4 =>
    (gI h t 9 28).bind fun x1 =>
    if l4 < x1 then
      (X8_reader_L22 h t l1 l4 FU 0 0).bind fun y9 =>
      lett (α := Int32) (if l3 < y9 then l4 else l2) fun j10 =>
      (X8_greater l3 y9).bind fun x14 =>
      X8_reader_L7 h t l1 n j10 x14 (l4 + 1)
    else
      some l2
def X8_reader (h : HA) (t : Nat) (l1 : Int32) : Option Int32 :=
  if (kd h t).1 = 9 then
    (X8_reader_L7 h t l1 FU (-1) 0 0).bind fun y16 =>
    some y16
  else none
def X8_lips (h : HA) (t : Nat) (l1 : Int32) (l2 : Int32) (l3 : Int32) (l4 : Int32) : Option (Int32 × HA) :=
  if (kd h t).1 = 9 then
    (pI h t 9 0 0).bind fun h1 =>
    (X8_in l4 0 3).bind fun x3 =>
    if x3 = 0 then
      some ((-2), h1)
    else
      (X8_hasRoll h1 t l3).bind fun (x6, h5) =>
      if x6 = 0 then
        some ((-2), h5)
      else
        (X8_layTrial h5 t l1 l2).bind fun (x9, h8) =>
        if x9 = 0 then
          some ((-2), h8)
        else
          (X8_liars h8 t).bind fun x11 =>
          (X8_lipsOf h8 t x11).bind fun x13 =>
          if l4 = 0 then
            some (x11, h8)
          else
          if l4 = 1 then
            some (x13, h8)
          else
          if l4 = 2 then
            some ((x11 &&& (x13 ^^^ (-1))), h8)
          else
            (X8_reader h8 t x13).bind fun x15 =>
            some (x15, h8)
  else none
def X8_draw (h : HA) (t : Nat) (l1 : Int32) : Option (Int32 × HA) :=
  if (kd h t).1 = 9 then
    (gI h t 9 53).bind fun x1 =>
    (pI h t 9 53 ((x1 * 1103515245) + 12345)).bind fun h2 =>
    (gI h2 t 9 53).bind fun x3 =>
    (rm (ushI x3 16) l1).bind fun x4 =>
    some (x4, h2)
  else none
def X8_drawn_L65 (t : Nat) (l4 : Int32) : Nat → HA → Int32 → Int32 → Option (Int32 × HA)
  | 0, _, _, _ => none
  | n + 1, h, l6, l7 =>
    (gI h t 9 40).bind fun x15 =>
    if l7 < x15 then
      (X8_draw h t 100).bind fun (x18, h17) =>
      if x18 < l4 then
        (gR h17 t 9 46).bind fun x19 =>
        (X8_draw h17 t 4).bind fun (x22, h21) =>
        (asI h21 x19 20 l7 (shlI 1 x22)).bind fun h23 =>
        X8_drawn_L65 t l4 n h23 (l6 + 1) (l7 + 1)
      else
        X8_drawn_L65 t l4 n h17 l6 (l7 + 1)
    else
      some (l6, h)
def X8_drawn_L123 (h : HA) (t : Nat) : Nat → Int32 → Int32 → Option Int32
  | 0, _, _ => none
  | n + 1, l7, l8 =>
    (gI h t 9 28).bind fun x27 =>
    if l8 < x27 then
      (X8_known h t l8).bind fun x29 =>
      (X8_ones x29).bind fun x31 =>
      X8_drawn_L123 h t n (l7 + x31) (l8 + 1)
    else
      some l7
def X8_drawn (h : HA) (t : Nat) (l1 : Int32) (l2 : Int32) (l3 : Int32) (l4 : Int32) (l5 : Int32) : Option (Int32 × HA) :=
  if (kd h t).1 = 9 then
    (pI h t 9 0 0).bind fun h1 =>
    (X8_in l4 0 100).bind fun x3 =>
    if x3 = 0 then
      some ((-1), h1)
    else
      (X8_layTrial h1 t l1 l2).bind fun (x6, h5) =>
      if x6 = 0 then
        some ((-1), h5)
      else
        (X8_in l5 0 1).bind fun x8 =>
        (show Option ((Int32 × HA) ⊕ Unit) from
          if x8 = 0 then
            (gI h5 t 9 28).bind fun x11 =>
            (X8_in l5 10 (9 + x11)).bind fun x13 =>
            if x13 = 0 then
              some (.inl ((-1), h5))
            else
              some (.inr ())
          else
            some (.inr ())).bind fun s9 =>
        match s9 with
        | .inl r36 =>
          some r36
        | .inr () =>
          (pI h5 t 9 53 l3).bind fun h14 =>
          (X8_drawn_L65 t l4 FU h14 0 0).bind fun (y25, h26) =>
          if l5 = 1 then
            some (y25, h26)
          else
            (X8_drawn_L123 h26 t FU 0 0).bind fun y33 =>
            if l5 = 0 then
              some (y33, h26)
            else
              (X8_known h26 t (l5 - 10)).bind fun x35 =>
              some (x35, h26)
  else none
def X8_hush_L55 (h : HA) (t : Nat) (l2 : Int32) (l3 : Int32) (l4 : Int32) : Nat → Int32 → Option (Int32 × HA)
  | 0, _ => none
  | n + 1, l5 =>
    if 9 < l5 then
      some ((-1), h)
    else
      (X8_earsAt h t l2 l3 l5).bind fun x14 =>
      (X8_ones x14).bind fun x16 =>
      if x16 < l4 then
        X8_hush_L55 h t l2 l3 l4 n (l5 + 1)
      else
        some (l5, h)
def X8_hush (h : HA) (t : Nat) (l1 : Int32) (l2 : Int32) (l3 : Int32) (l4 : Int32) : Option (Int32 × HA) :=
  if (kd h t).1 = 9 then
    (pI h t 9 0 0).bind fun h1 =>
    (X8_in l3 0 99).bind fun x3 =>
    if x3 = 0 then
      some ((-1), h1)
    else
      (X8_in l4 1 6).bind fun x5 =>
      if x5 = 0 then
        some ((-1), h1)
      else
        (X8_hand h1 t l1).bind fun (x8, h7) =>
        if x8 = 0 then
          some ((-1), h7)
        else
          (X8_isField h7 t l2).bind fun x10 =>
          if x10 = 0 then
            some ((-1), h7)
          else
            (X8_isWall h7 t l2).bind fun x12 =>
            if x12 = 0 then
              X8_hush_L55 h7 t l2 l3 l4 FU 0
            else
              some ((-1), h7)
  else none
def X8_benchOf_L7 (h : HA) (t : Nat) (l1 : Int32) : Nat → Int32 → Int32 → Int32 → Option Int32
  | 0, _, _, _ => none
  | n + 1, l2, l3, l4 =>
    if l4 < 4 then
      (X8_earsOf h t l1).bind fun x2 =>
      (X8_judgeOf h t l1 3).bind fun x4 =>
      (X8_knownFrom h t l1 l4 0 x2 x4).bind fun x6 =>
      (X8_ones x6).bind fun x8 =>
      lett (α := Int32) (if l3 < x8 then l4 else l2) fun j9 =>
      (X8_greater l3 x8).bind fun x13 =>
      X8_benchOf_L7 h t l1 n j9 x13 (l4 + 1)
    else
      some l2
def X8_benchOf (h : HA) (t : Nat) (l1 : Int32) : Option Int32 :=
  if (kd h t).1 = 9 then
    (X8_benchOf_L7 h t l1 FU 0 (-1) 0).bind fun y15 =>
    some y15
  else none
def X8_startHour_L17 (h : HA) (t : Nat) (l3 : Int32) : Nat → Int32 → Int32 → Option Int32
  | 0, _, _ => none
  | n + 1, l4, l5 =>
    (gI h t 9 28).bind fun x1 =>
    if l5 < x1 then
      (X8_judgeOf h t l5 1).bind fun x3 =>
      (X8_earsOf h t l5).bind fun x5 =>
      (X8_judgeOf h t l5 3).bind fun x7 =>
      (X8_knownFrom h t l5 x3 l3 x5 x7).bind fun x9 =>
      (X8_ones x9).bind fun x11 =>
      X8_startHour_L17 h t l3 n (l4 + x11) (l5 + 1)
    else
      some l4
def X8_startHour_L6 (h : HA) (t : Nat) : Nat → Int32 → Int32 → Int32 → Option Int32
  | 0, _, _, _ => none
  | n + 1, l1, l2, l3 =>
    if l3 < 4 then
      (X8_startHour_L17 h t l3 FU 0 0).bind fun y13 =>
      lett (α := Int32) (if l2 < y13 then l3 else l1) fun j14 =>
      (X8_greater l2 y13).bind fun x18 =>
      X8_startHour_L6 h t n j14 x18 (l3 + 1)
    else
      some l1
def X8_startHour (h : HA) (t : Nat) : Option Int32 :=
  if (kd h t).1 = 9 then
    (X8_startHour_L6 h t FU 0 (-1) 0).bind fun y20 =>
    some y20
  else none
def X8_bench (h : HA) (t : Nat) (l1 : Int32) (l2 : Int32) (l3 : Int32) : Option (Int32 × HA) :=
  if (kd h t).1 = 9 then
    (pI h t 9 0 0).bind fun h1 =>
    (X8_layTrial h1 t l1 l2).bind fun (x4, h3) =>
    if x4 = 0 then
      some ((-1), h3)
    else
      (gI h3 t 9 28).bind fun x5 =>
      (X8_in l3 (-1) (x5 - 1)).bind fun x7 =>
      if x7 = 0 then
        some ((-1), h3)
      else
      if l3 = (-1) then
        (X8_startHour h3 t).bind fun x9 =>
        some (x9, h3)
      else
        (X8_benchOf h3 t l3).bind fun x11 =>
        some (x11, h3)
  else none
def X8_idle_L37 (h : HA) (t : Nat) : Nat → Int32 → Int32 → Option Int32
  | 0, _, _ => none
  | n + 1, l4, l5 =>
    (gI h t 9 28).bind fun x10 =>
    if l5 < x10 then
      (X8_known h t l5).bind fun x12 =>
      (X8_ruleBy h t x12).bind fun x14 =>
      if x14 = (-1) then
        X8_idle_L37 h t n (l4 &&& l4) (l5 + 1)
      else
        X8_idle_L37 h t n (l4 &&& ((shlI 1 x14) ^^^ (-1))) (l5 + 1)
    else
      some l4
def X8_idle (h : HA) (t : Nat) (l1 : Int32) (l2 : Int32) (l3 : Int32) : Option (Int32 × HA) :=
  if (kd h t).1 = 9 then
    (pI h t 9 0 0).bind fun h1 =>
    (X8_hasLaw h1 t l3).bind fun (x4, h3) =>
    if x4 = 0 then
      some ((-1), h3)
    else
      (X8_layTrial h3 t l1 l2).bind fun (x7, h6) =>
      if x7 = 0 then
        some ((-1), h6)
      else
        (X8_rules h6 t).bind fun x9 =>
        (X8_idle_L37 h6 t FU ((shlI 1 x9) - 1) 0).bind fun y16 =>
        some (y16, h6)
  else none
def X8_persuade_L30 (t : Nat) : Nat → HA → Int32 → Option HA
  | 0, _, _ => none
  | n + 1, h, l5 =>
    (gI h t 9 28).bind fun x7 =>
    if l5 < x7 then
      (gR h t 9 49).bind fun x8 =>
      (X8_known h t l5).bind fun x10 =>
      (asI h x8 20 l5 x10).bind fun h11 =>
      X8_persuade_L30 t n h11 (l5 + 1)
    else
      some h
def X8_persuade_L92 (t : Nat) (l6 : Int32) : Nat → HA → Int32 → Option HA
  | 0, _, _ => none
  | n + 1, h, l7 =>
    (gI h t 9 28).bind fun x16 =>
    if l7 < x16 then
      (gR h t 9 48).bind fun x17 =>
      (gR h t 9 49).bind fun x18 =>
      (ldI h x18 20 l7).bind fun x19 =>
      (X8_voteBy h t (x19 ||| l6)).bind fun x21 =>
      (asI h x17 20 l7 x21).bind fun h22 =>
      X8_persuade_L92 t l6 n h22 (l7 + 1)
    else
      some h
def X8_persuade_L71 (t : Nat) (l4 : Int32) (l5 : Int32) : Nat → HA → Int32 → Option ((Int32 × HA) ⊕ HA)
  | 0, _, _ => none
  | n + 1, h, l6 =>
    if l6 < 1024 then
      (X8_ones l6).bind fun x15 =>
      if x15 = l5 then
        (X8_persuade_L92 t l6 FU h 0).bind fun h24 =>
        (X8_verdict h24 t).bind fun x26 =>
        if x26 = l4 then
          some (.inl (l6, h24))
        else
          X8_persuade_L71 t l4 l5 n h24 (l6 + 1)
      else
        X8_persuade_L71 t l4 l5 n h (l6 + 1)
    else
      some (.inr h)
def X8_persuade_L61 (t : Nat) (l4 : Int32) : Nat → HA → Int32 → Option (Int32 × HA)
  | 0, _, _ => none
  | n + 1, h, l5 =>
    if 10 < l5 then
      some ((-1), h)
    else
      (
        X8_persuade_L71 t l4 l5 FU h 0).bind fun s9 =>
      match s9 with
      | .inl r29 =>
        some r29
      | .inr h28 =>
        X8_persuade_L61 t l4 n h28 (l5 + 1)
def X8_persuade (h : HA) (t : Nat) (l1 : Int32) (l2 : Int32) (l3 : Int32) (l4 : Int32) : Option (Int32 × HA) :=
  if (kd h t).1 = 9 then
    (pI h t 9 0 0).bind fun h1 =>
    (X8_in l4 0 1).bind fun x3 =>
    if x3 = 0 then
      some ((-1), h1)
    else
      (X8_layVotes h1 t l1 l2 l3).bind fun (x6, h5) =>
      if x6 = 0 then
        some ((-1), h5)
      else
        (X8_persuade_L30 t FU h5 0).bind fun h13 =>
        X8_persuade_L61 t l4 FU h13 0
  else none
def X8_parts_L29 (h : HA) (t : Nat) (l2 : Int32) : Nat → Int32 → Int32 → Option Int32
  | 0, _, _ => none
  | n + 1, l3, l4 =>
    if l4 < l2 then
      if l3 = 0 then
        some l3
      else
        (X8_farOf h t l4 l2).bind fun x8 =>
        if x8 = 1000 then
          X8_parts_L29 h t l2 n 1 (l4 + 1)
        else
          X8_parts_L29 h t l2 n 0 (l4 + 1)
    else
      some l3
def X8_parts_L4 (h : HA) (t : Nat) : Nat → Int32 → Int32 → Option Int32
  | 0, _, _ => none
  | n + 1, l1, l2 =>
    (gI h t 9 27).bind fun x1 =>
    if l2 < x1 then
      (X8_isWall h t l2).bind fun x3 =>
      lett (α := Int32) (if x3 = 0 then 1 else 0) fun j4 =>
      (X8_parts_L29 h t l2 FU j4 0).bind fun y10 =>
      if y10 = 0 then
        X8_parts_L4 h t n (l1 + 0) (l2 + 1)
      else
        X8_parts_L4 h t n (l1 + 1) (l2 + 1)
    else
      some l1
def X8_parts (h : HA) (t : Nat) : Option Int32 :=
  if (kd h t).1 = 9 then
    (X8_parts_L4 h t FU 0 0).bind fun y12 =>
    some y12
  else none
def X8_carved_L10 (t : Nat) (l1 : Int32) (l2 : Int32) : Nat → HA → Int32 → Int32 → Int32 → Option (Int32 × HA)
  | 0, _, _, _, _ => none
  | n + 1, h, l3, l4, l5 =>
    (gI h t 9 27).bind fun x1 =>
    if l5 < x1 then
      (X8_isWall h t l5).bind fun x3 =>
      if x3 = 0 then
        X8_carved_L10 t l1 l2 n h l3 l4 (l5 + 1)
      else
        (gR h t 9 6).bind fun x4 =>
        (asI h x4 20 (((106 * l1) + 42) + l5) 0).bind fun h5 =>
        (X8_hand h5 t l1).bind fun (x8, h7) =>
        (X8_blind h7 t 0 l2).bind fun x10 =>
        (gR h7 t 9 6).bind fun x11 =>
        (asI h7 x11 20 (((106 * l1) + 42) + l5) 1).bind fun h12 =>
        lett (α := Int32) (if x10 < l4 then l5 else l3) fun j13 =>
        if x10 < l4 then
          X8_carved_L10 t l1 l2 n h12 j13 x10 (l5 + 1)
        else
          X8_carved_L10 t l1 l2 n h12 j13 l4 (l5 + 1)
    else
      some (l3, h)
def X8_carved (h : HA) (t : Nat) (l1 : Int32) (l2 : Int32) : Option (Int32 × HA) :=
  if (kd h t).1 = 9 then
    (X8_carved_L10 t l1 l2 FU h (-1) 1000 0).bind fun (y17, h18) =>
    some (y17, h18)
  else none
def X8_areas (h : HA) (t : Nat) (l1 : Int32) (l2 : Int32) : Option (Int32 × HA) :=
  if (kd h t).1 = 9 then
    (pI h t 9 0 0).bind fun h1 =>
    (X8_in l2 (-1) 9).bind fun x3 =>
    if x3 = 0 then
      some ((-1), h1)
    else
      (X8_hand h1 t l1).bind fun (x6, h5) =>
      if x6 = 0 then
        some ((-1), h5)
      else
      if l2 = (-1) then
        (X8_parts h5 t).bind fun x8 =>
        some (x8, h5)
      else
        (X8_carved h5 t l1 l2).bind fun (x11, h10) =>
        some (x11, h10)
  else none
def X8_mouth_L52 (h : HA) (t : Nat) (l6 : Int32) (l8 : Int32) : Nat → Int32 → Int32 → Option Int32
  | 0, _, _ => none
  | n + 1, l7, l9 =>
    (gI h t 9 28).bind fun x7 =>
    if l9 < x7 then
      (gR h t 9 42).bind fun x8 =>
      (ldI h x8 20 l8).bind fun x9 =>
      (show Option Int32 from
        if x9 = (-1) then
          some 0
        else
          (X8_deedOf h t l8 1).bind fun x14 =>
          if x14 = l6 then
            (X8_judgeOf h t l9 0).bind fun x16 =>
            (X8_judgeOf h t l9 1).bind fun x18 =>
            (X8_judgeOf h t l9 4).bind fun x20 =>
            (X8_faces h t x18 x20 l8).bind fun x22 =>
            (X8_earsOf h t l9).bind fun x24 =>
            (X8_judgeOf h t l9 3).bind fun x26 =>
            (X8_hearsDeed h t l8 x16 x22 x24 x26).bind fun x28 =>
            if x28 = 0 then
              some 0
            else
              some 1
          else
            some 0).bind fun j10 =>
      if j10 = 0 then
        X8_mouth_L52 h t l6 l8 n (l7 + 0) (l9 + 1)
      else
        X8_mouth_L52 h t l6 l8 n (l7 + 1) (l9 + 1)
    else
      some l7
def X8_mouth_L40 (h : HA) (t : Nat) (l6 : Int32) : Nat → Int32 → Int32 → Option Int32
  | 0, _, _ => none
  | n + 1, l7, l8 =>
    (gI h t 9 40).bind fun x6 =>
    if l8 < x6 then
      (X8_mouth_L52 h t l6 l8 FU l7 0).bind fun y30 =>
      X8_mouth_L40 h t l6 n y30 (l8 + 1)
    else
      some l7
def X8_mouth_L25 (h : HA) (t : Nat) : Nat → Int32 → Int32 → Int32 → Option (Int32 × Int32)
  | 0, _, _, _ => none
  | n + 1, l4, l5, l6 =>
    (gI h t 9 29).bind fun x5 =>
    if l6 < x5 then
      (X8_mouth_L40 h t l6 FU 0 0).bind fun y32 =>
      lett (α := Int32) (if l5 < y32 then l6 else l4) fun j33 =>
      (X8_greater l5 y32).bind fun x37 =>
      X8_mouth_L25 h t n j33 x37 (l6 + 1)
    else
      some (l4, l5)
def X8_mouth (h : HA) (t : Nat) (l1 : Int32) (l2 : Int32) (l3 : Int32) : Option (Int32 × HA) :=
  if (kd h t).1 = 9 then
    (pI h t 9 0 0).bind fun h1 =>
    (X8_layTrial h1 t l1 l2).bind fun (x4, h3) =>
    if x4 = 0 then
      some ((-1), h3)
    else
      (X8_mouth_L25 h3 t FU (-1) 0 0).bind fun (y39, y40) =>
      if y39 = (-1) then
        some ((-1), h3)
      else
      if l3 = 0 then
        some (y39, h3)
      else
        some (y40, h3)
  else none
def X8_rift_L49 (h : HA) (t : Nat) (l6 : Int32) : Nat → Int32 → Int32 → Int32 → Option (Int32 × Int32)
  | 0, _, _, _ => none
  | n + 1, l4, l5, l7 =>
    (gI h t 9 28).bind fun x8 =>
    if l7 < x8 then
      (X8_known h t l6).bind fun x10 =>
      (X8_known h t l7).bind fun x12 =>
      (X8_ones (x10 ^^^ x12)).bind fun x14 =>
      lett (α := Int32) (if l5 < x14 then ((6 * l6) + l7) else l4) fun j15 =>
      (X8_greater l5 x14).bind fun x19 =>
      X8_rift_L49 h t l6 n j15 x19 (l7 + 1)
    else
      some (l4, l5)
def X8_rift_L34 (h : HA) (t : Nat) : Nat → Int32 → Int32 → Int32 → Option (Int32 × Int32)
  | 0, _, _, _ => none
  | n + 1, l4, l5, l6 =>
    (gI h t 9 28).bind fun x7 =>
    if l6 < x7 then
      (X8_rift_L49 h t l6 FU l4 l5 (l6 + 1)).bind fun (y21, y22) =>
      X8_rift_L34 h t n y21 y22 (l6 + 1)
    else
      some (l4, l5)
def X8_rift (h : HA) (t : Nat) (l1 : Int32) (l2 : Int32) (l3 : Int32) : Option (Int32 × HA) :=
  if (kd h t).1 = 9 then
    (pI h t 9 0 0).bind fun h1 =>
    (X8_in l3 0 2).bind fun x3 =>
    if x3 = 0 then
      some ((-1), h1)
    else
      (X8_layTrial h1 t l1 l2).bind fun (x6, h5) =>
      if x6 = 0 then
        some ((-1), h5)
      else
        (X8_rift_L34 h5 t FU (-1) (-1) 0).bind fun (y24, y25) =>
        if y24 = (-1) then
          some ((-1), h5)
        else
        if l3 = 0 then
          (dv y24 6).bind fun x26 =>
          some (x26, h5)
        else
        if l3 = 1 then
          (rm y24 6).bind fun x27 =>
          some (x27, h5)
        else
          some (y25, h5)
  else none
def X8_count (h : HA) (t : Nat) (l1 : Int32) : Option (Int32 × HA) :=
  if (kd h t).1 = 9 then
    (pI h t 9 0 0).bind fun h1 =>
    (X8_in l1 0 3).bind fun x3 =>
    if x3 = 0 then
      some ((-2), h1)
    else
      (gR h1 t 9 5).bind fun x4 =>
      (ldI h1 x4 20 l1).bind fun x5 =>
      some (x5, h1)
  else none
def X8_image (h : HA) (t : Nat) (l1 : Int32) : Option (Int32 × HA) :=
  if (kd h t).1 = 9 then
    (pI h t 9 0 0).bind fun h1 =>
    (X8_in l1 0 2).bind fun x3 =>
    if x3 = 0 then
      some (0, h1)
    else
      (X8_copyAll h1 t 0 (l1 + 1)).bind fun h5 =>
      (gR h5 t 9 54).bind fun x6 =>
      (asI h5 x6 23 l1 1).bind fun h7 =>
      some (1, h7)
  else none
def X8_again (h : HA) (t : Nat) (l1 : Int32) : Option (Int32 × HA) :=
  if (kd h t).1 = 9 then
    (pI h t 9 0 0).bind fun h1 =>
    (X8_in l1 0 2).bind fun x3 =>
    if x3 = 0 then
      some (0, h1)
    else
      (gR h1 t 9 54).bind fun x4 =>
      (ldI h1 x4 23 l1).bind fun x5 =>
      if x5 = 0 then
        some (0, h1)
      else
        (X8_copyAll h1 t (l1 + 1) 0).bind fun h7 =>
        some (1, h7)
  else none
def L_law_L18 (V : EV) (l1 : Nat) (l2 : Nat) : Nat → HA → Int32 → Option (Int32 × HA)
  | 0, _, _ => none
  | n + 1, h, l3 =>
    if ((Int32.ofNat (vL V)) - 6) < l3 then
      some (1, h)
    else
      (scr V l3).bind fun x7 =>
      if (x7 &&& 63) = 0 then
        (scr V (l3 + 1)).bind fun x8 =>
        (scr V (l3 + 2)).bind fun x9 =>
        (scr V (l3 + 3)).bind fun x10 =>
        (scr V (l3 + 4)).bind fun x11 =>
        (scr V (l3 + 5)).bind fun x12 =>
        (X7_feed h l1 x8 x9 x10 x11 x12).bind fun (x15, h14) =>
        (scr V (l3 + 1)).bind fun x16 =>
        (scr V (l3 + 2)).bind fun x17 =>
        (scr V (l3 + 3)).bind fun x18 =>
        (scr V (l3 + 4)).bind fun x19 =>
        (scr V (l3 + 5)).bind fun x20 =>
        (X8_feed h14 l2 x16 x17 x18 x19 x20).bind fun (x23, h22) =>
        if x15 = x23 then
          L_law_L18 V l1 l2 n h22 (l3 + 6)
        else
          some (0, h22)
      else
      if (x7 &&& 63) = 1 then
        (scr V (l3 + 1)).bind fun x24 =>
        (X7_end h l1 x24).bind fun (x27, h26) =>
        (scr V (l3 + 1)).bind fun x28 =>
        (X8_end h26 l2 x28).bind fun (x31, h30) =>
        if x27 = x31 then
          L_law_L18 V l1 l2 n h30 (l3 + 6)
        else
          some (0, h30)
      else
      if (x7 &&& 63) = 2 then
        (scr V (l3 + 1)).bind fun x32 =>
        (scr V (l3 + 2)).bind fun x33 =>
        (X7_text h l1 x32 x33).bind fun (x36, h35) =>
        (scr V (l3 + 1)).bind fun x37 =>
        (scr V (l3 + 2)).bind fun x38 =>
        (X8_text h35 l2 x37 x38).bind fun (x41, h40) =>
        if x36 = x41 then
          L_law_L18 V l1 l2 n h40 (l3 + 6)
        else
          some (0, h40)
      else
      if (x7 &&& 63) = 3 then
        (scr V (l3 + 1)).bind fun x42 =>
        (X7_fault h l1 x42).bind fun x44 =>
        (scr V (l3 + 1)).bind fun x45 =>
        (X8_fault h l2 x45).bind fun (x48, h47) =>
        if x44 = x48 then
          L_law_L18 V l1 l2 n h47 (l3 + 6)
        else
          some (0, h47)
      else
      if (x7 &&& 63) = 4 then
        (scr V (l3 + 1)).bind fun x49 =>
        (scr V (l3 + 2)).bind fun x50 =>
        (X7_court h l1 x49 x50).bind fun (x53, h52) =>
        (scr V (l3 + 1)).bind fun x54 =>
        (scr V (l3 + 2)).bind fun x55 =>
        (X8_court h52 l2 x54 x55).bind fun (x58, h57) =>
        if x53 = x58 then
          L_law_L18 V l1 l2 n h57 (l3 + 6)
        else
          some (0, h57)
      else
      if (x7 &&& 63) = 5 then
        (scr V (l3 + 1)).bind fun x59 =>
        (scr V (l3 + 2)).bind fun x60 =>
        (X7_wall h l1 x59 x60).bind fun (x63, h62) =>
        (scr V (l3 + 1)).bind fun x64 =>
        (scr V (l3 + 2)).bind fun x65 =>
        (X8_wall h62 l2 x64 x65).bind fun (x68, h67) =>
        if x63 = x68 then
          L_law_L18 V l1 l2 n h67 (l3 + 6)
        else
          some (0, h67)
      else
      if (x7 &&& 63) = 6 then
        (scr V (l3 + 1)).bind fun x69 =>
        (scr V (l3 + 2)).bind fun x70 =>
        (scr V (l3 + 3)).bind fun x71 =>
        (X7_judge h l1 x69 x70 x71).bind fun (x74, h73) =>
        (scr V (l3 + 1)).bind fun x75 =>
        (scr V (l3 + 2)).bind fun x76 =>
        (scr V (l3 + 3)).bind fun x77 =>
        (X8_judge h73 l2 x75 x76 x77).bind fun (x80, h79) =>
        if x74 = x80 then
          L_law_L18 V l1 l2 n h79 (l3 + 6)
        else
          some (0, h79)
      else
      if (x7 &&& 63) = 7 then
        (scr V (l3 + 1)).bind fun x81 =>
        (scr V (l3 + 2)).bind fun x82 =>
        (scr V (l3 + 3)).bind fun x83 =>
        lett (α := Int32) (if x83 = 0 then 0 else 1) fun j84 =>
        (X7_pleader h l1 x81 x82 j84).bind fun (x89, h88) =>
        (scr V (l3 + 1)).bind fun x90 =>
        (scr V (l3 + 2)).bind fun x91 =>
        (scr V (l3 + 3)).bind fun x92 =>
        lett (α := Int32) (if x92 = 0 then 0 else 1) fun j93 =>
        (X8_pleader h88 l2 x90 x91 j93).bind fun (x98, h97) =>
        if x89 = x98 then
          L_law_L18 V l1 l2 n h97 (l3 + 6)
        else
          some (0, h97)
      else
      if (x7 &&& 63) = 8 then
        (scr V (l3 + 1)).bind fun x99 =>
        (scr V (l3 + 2)).bind fun x100 =>
        (scr V (l3 + 3)).bind fun x101 =>
        (X7_far h l1 x99 x100 x101).bind fun (x104, h103) =>
        (scr V (l3 + 1)).bind fun x105 =>
        (scr V (l3 + 2)).bind fun x106 =>
        (scr V (l3 + 3)).bind fun x107 =>
        (X8_far h103 l2 x105 x106 x107).bind fun (x110, h109) =>
        if x104 = x110 then
          L_law_L18 V l1 l2 n h109 (l3 + 6)
        else
          some (0, h109)
      else
      if (x7 &&& 63) = 9 then
        (scr V (l3 + 1)).bind fun x111 =>
        (scr V (l3 + 2)).bind fun x112 =>
        (scr V (l3 + 3)).bind fun x113 =>
        (scr V (l3 + 4)).bind fun x114 =>
        (X7_comes h l1 x111 x112 x113 x114).bind fun (x117, h116) =>
        (scr V (l3 + 1)).bind fun x118 =>
        (scr V (l3 + 2)).bind fun x119 =>
        (scr V (l3 + 3)).bind fun x120 =>
        (scr V (l3 + 4)).bind fun x121 =>
        (X8_comes h116 l2 x118 x119 x120 x121).bind fun (x124, h123) =>
        if x117 = x124 then
          L_law_L18 V l1 l2 n h123 (l3 + 6)
        else
          some (0, h123)
      else
      if (x7 &&& 63) = 10 then
        (scr V (l3 + 1)).bind fun x125 =>
        (scr V (l3 + 2)).bind fun x126 =>
        (scr V (l3 + 3)).bind fun x127 =>
        (scr V (l3 + 4)).bind fun x128 =>
        (X7_ears h l1 x125 x126 x127 x128).bind fun (x131, h130) =>
        (scr V (l3 + 1)).bind fun x132 =>
        (scr V (l3 + 2)).bind fun x133 =>
        (scr V (l3 + 3)).bind fun x134 =>
        (scr V (l3 + 4)).bind fun x135 =>
        (X8_ears h130 l2 x132 x133 x134 x135).bind fun (x138, h137) =>
        if x131 = x138 then
          L_law_L18 V l1 l2 n h137 (l3 + 6)
        else
          some (0, h137)
      else
      if (x7 &&& 63) = 11 then
        (scr V (l3 + 1)).bind fun x139 =>
        (scr V (l3 + 2)).bind fun x140 =>
        (scr V (l3 + 3)).bind fun x141 =>
        (scr V (l3 + 4)).bind fun x142 =>
        lett (α := Int32) (if x142 = 0 then 0 else 1) fun j143 =>
        (X7_pulpit h l1 x139 x140 x141 j143).bind fun (x148, h147) =>
        (scr V (l3 + 1)).bind fun x149 =>
        (scr V (l3 + 2)).bind fun x150 =>
        (scr V (l3 + 3)).bind fun x151 =>
        (scr V (l3 + 4)).bind fun x152 =>
        lett (α := Int32) (if x152 = 0 then 0 else 1) fun j153 =>
        (X8_pulpit h147 l2 x149 x150 x151 j153).bind fun (x158, h157) =>
        if x148 = x158 then
          L_law_L18 V l1 l2 n h157 (l3 + 6)
        else
          some (0, h157)
      else
      if (x7 &&& 63) = 12 then
        (scr V (l3 + 1)).bind fun x159 =>
        (scr V (l3 + 2)).bind fun x160 =>
        (scr V (l3 + 3)).bind fun x161 =>
        (scr V (l3 + 4)).bind fun x162 =>
        (X7_near h l1 x159 x160 x161 x162).bind fun (x165, h164) =>
        (scr V (l3 + 1)).bind fun x166 =>
        (scr V (l3 + 2)).bind fun x167 =>
        (scr V (l3 + 3)).bind fun x168 =>
        (scr V (l3 + 4)).bind fun x169 =>
        (X8_near h164 l2 x166 x167 x168 x169).bind fun (x172, h171) =>
        if x165 = x172 then
          L_law_L18 V l1 l2 n h171 (l3 + 6)
        else
          some (0, h171)
      else
      if (x7 &&& 63) = 13 then
        (scr V (l3 + 1)).bind fun x173 =>
        (scr V (l3 + 2)).bind fun x174 =>
        (scr V (l3 + 3)).bind fun x175 =>
        (scr V (l3 + 4)).bind fun x176 =>
        (X7_round h l1 x173 x174 x175 x176).bind fun (x179, h178) =>
        (scr V (l3 + 1)).bind fun x180 =>
        (scr V (l3 + 2)).bind fun x181 =>
        (scr V (l3 + 3)).bind fun x182 =>
        (scr V (l3 + 4)).bind fun x183 =>
        (X8_round h178 l2 x180 x181 x182 x183).bind fun (x186, h185) =>
        if x179 = x186 then
          L_law_L18 V l1 l2 n h185 (l3 + 6)
        else
          some (0, h185)
      else
      if (x7 &&& 63) = 14 then
        (scr V (l3 + 1)).bind fun x187 =>
        (scr V (l3 + 2)).bind fun x188 =>
        (scr V (l3 + 3)).bind fun x189 =>
        (scr V (l3 + 4)).bind fun x190 =>
        (X7_echo h l1 x187 x188 x189 x190).bind fun (x193, h192) =>
        (scr V (l3 + 1)).bind fun x194 =>
        (scr V (l3 + 2)).bind fun x195 =>
        (scr V (l3 + 3)).bind fun x196 =>
        (scr V (l3 + 4)).bind fun x197 =>
        (X8_echo h192 l2 x194 x195 x196 x197).bind fun (x200, h199) =>
        if x193 = x200 then
          L_law_L18 V l1 l2 n h199 (l3 + 6)
        else
          some (0, h199)
      else
      if (x7 &&& 63) = 15 then
        (scr V (l3 + 1)).bind fun x201 =>
        (scr V (l3 + 2)).bind fun x202 =>
        (scr V (l3 + 3)).bind fun x203 =>
        (X7_deed h l1 x201 x202 x203).bind fun x205 =>
        (scr V (l3 + 1)).bind fun x206 =>
        (scr V (l3 + 2)).bind fun x207 =>
        (scr V (l3 + 3)).bind fun x208 =>
        (X8_deed h l2 x206 x207 x208).bind fun (x211, h210) =>
        if x205 = x211 then
          L_law_L18 V l1 l2 n h210 (l3 + 6)
        else
          some (0, h210)
      else
      if (x7 &&& 63) = 16 then
        (scr V (l3 + 1)).bind fun x212 =>
        (scr V (l3 + 2)).bind fun x213 =>
        (X7_stop h l1 x212 x213).bind fun (x216, h215) =>
        (scr V (l3 + 1)).bind fun x217 =>
        (scr V (l3 + 2)).bind fun x218 =>
        (X8_stop h215 l2 x217 x218).bind fun (x221, h220) =>
        if x216 = x221 then
          L_law_L18 V l1 l2 n h220 (l3 + 6)
        else
          some (0, h220)
      else
      if (x7 &&& 63) = 17 then
        (scr V (l3 + 1)).bind fun x222 =>
        (scr V (l3 + 2)).bind fun x223 =>
        (scr V (l3 + 3)).bind fun x224 =>
        (scr V (l3 + 4)).bind fun x225 =>
        (scr V (l3 + 5)).bind fun x226 =>
        lett (α := Int32) (if x226 = 0 then 0 else 1) fun j227 =>
        (X7_stands h l1 x222 x223 x224 x225 j227).bind fun (x232, h231) =>
        (scr V (l3 + 1)).bind fun x233 =>
        (scr V (l3 + 2)).bind fun x234 =>
        (scr V (l3 + 3)).bind fun x235 =>
        (scr V (l3 + 4)).bind fun x236 =>
        (scr V (l3 + 5)).bind fun x237 =>
        lett (α := Int32) (if x237 = 0 then 0 else 1) fun j238 =>
        (X8_stands h231 l2 x233 x234 x235 x236 j238).bind fun (x243, h242) =>
        if x232 = x243 then
          L_law_L18 V l1 l2 n h242 (l3 + 6)
        else
          some (0, h242)
      else
      if (x7 &&& 63) = 18 then
        (scr V (l3 + 1)).bind fun x244 =>
        (scr V (l3 + 2)).bind fun x245 =>
        (scr V (l3 + 3)).bind fun x246 =>
        (scr V (l3 + 4)).bind fun x247 =>
        (X7_knows h l1 x244 x245 x246 x247).bind fun (x250, h249) =>
        (scr V (l3 + 1)).bind fun x251 =>
        (scr V (l3 + 2)).bind fun x252 =>
        (scr V (l3 + 3)).bind fun x253 =>
        (scr V (l3 + 4)).bind fun x254 =>
        (X8_knows h249 l2 x251 x252 x253 x254).bind fun (x257, h256) =>
        if x250 = x257 then
          L_law_L18 V l1 l2 n h256 (l3 + 6)
        else
          some (0, h256)
      else
      if (x7 &&& 63) = 19 then
        (scr V (l3 + 1)).bind fun x258 =>
        (scr V (l3 + 2)).bind fun x259 =>
        (scr V (l3 + 3)).bind fun x260 =>
        (X7_heard h l1 x258 x259 x260).bind fun (x263, h262) =>
        (scr V (l3 + 1)).bind fun x264 =>
        (scr V (l3 + 2)).bind fun x265 =>
        (scr V (l3 + 3)).bind fun x266 =>
        (X8_heard h262 l2 x264 x265 x266).bind fun (x269, h268) =>
        if x263 = x269 then
          L_law_L18 V l1 l2 n h268 (l3 + 6)
        else
          some (0, h268)
      else
      if (x7 &&& 63) = 20 then
        (scr V (l3 + 1)).bind fun x270 =>
        (scr V (l3 + 2)).bind fun x271 =>
        (scr V (l3 + 3)).bind fun x272 =>
        (X7_rule h l1 x270 x271 x272).bind fun x274 =>
        (scr V (l3 + 1)).bind fun x275 =>
        (scr V (l3 + 2)).bind fun x276 =>
        (scr V (l3 + 3)).bind fun x277 =>
        (X8_rule h l2 x275 x276 x277).bind fun (x280, h279) =>
        if x274 = x280 then
          L_law_L18 V l1 l2 n h279 (l3 + 6)
        else
          some (0, h279)
      else
      if (x7 &&& 63) = 21 then
        (scr V (l3 + 1)).bind fun x281 =>
        (scr V (l3 + 2)).bind fun x282 =>
        (scr V (l3 + 3)).bind fun x283 =>
        (scr V (l3 + 4)).bind fun x284 =>
        (X7_votes h l1 x281 x282 x283 x284).bind fun (x287, h286) =>
        (scr V (l3 + 1)).bind fun x288 =>
        (scr V (l3 + 2)).bind fun x289 =>
        (scr V (l3 + 3)).bind fun x290 =>
        (scr V (l3 + 4)).bind fun x291 =>
        (X8_votes h286 l2 x288 x289 x290 x291).bind fun (x294, h293) =>
        if x287 = x294 then
          L_law_L18 V l1 l2 n h293 (l3 + 6)
        else
          some (0, h293)
      else
      if (x7 &&& 63) = 22 then
        (scr V (l3 + 1)).bind fun x295 =>
        (scr V (l3 + 2)).bind fun x296 =>
        (scr V (l3 + 3)).bind fun x297 =>
        (scr V (l3 + 4)).bind fun x298 =>
        (X7_sway h l1 x295 x296 x297 x298).bind fun (x301, h300) =>
        (scr V (l3 + 1)).bind fun x302 =>
        (scr V (l3 + 2)).bind fun x303 =>
        (scr V (l3 + 3)).bind fun x304 =>
        (scr V (l3 + 4)).bind fun x305 =>
        (X8_sway h300 l2 x302 x303 x304 x305).bind fun (x308, h307) =>
        if x301 = x308 then
          L_law_L18 V l1 l2 n h307 (l3 + 6)
        else
          some (0, h307)
      else
      if (x7 &&& 63) = 23 then
        (scr V (l3 + 1)).bind fun x309 =>
        (scr V (l3 + 2)).bind fun x310 =>
        (scr V (l3 + 3)).bind fun x311 =>
        (scr V (l3 + 4)).bind fun x312 =>
        lett (α := Int32) (if x312 = 0 then 0 else 1) fun j313 =>
        (X7_sold h l1 x309 x310 x311 j313).bind fun (x318, h317) =>
        (scr V (l3 + 1)).bind fun x319 =>
        (scr V (l3 + 2)).bind fun x320 =>
        (scr V (l3 + 3)).bind fun x321 =>
        (scr V (l3 + 4)).bind fun x322 =>
        lett (α := Int32) (if x322 = 0 then 0 else 1) fun j323 =>
        (X8_sold h317 l2 x319 x320 x321 j323).bind fun (x328, h327) =>
        if x318 = x328 then
          L_law_L18 V l1 l2 n h327 (l3 + 6)
        else
          some (0, h327)
      else
      if (x7 &&& 63) = 24 then
        (scr V (l3 + 1)).bind fun x329 =>
        (scr V (l3 + 2)).bind fun x330 =>
        (scr V (l3 + 3)).bind fun x331 =>
        (X7_seats h l1 x329 x330 x331).bind fun (x334, h333) =>
        (scr V (l3 + 1)).bind fun x335 =>
        (scr V (l3 + 2)).bind fun x336 =>
        (scr V (l3 + 3)).bind fun x337 =>
        (X8_seats h333 l2 x335 x336 x337).bind fun (x340, h339) =>
        if x334 = x340 then
          L_law_L18 V l1 l2 n h339 (l3 + 6)
        else
          some (0, h339)
      else
      if (x7 &&& 63) = 25 then
        (scr V (l3 + 1)).bind fun x341 =>
        (scr V (l3 + 2)).bind fun x342 =>
        (scr V (l3 + 3)).bind fun x343 =>
        (X7_claim h l1 x341 x342 x343).bind fun x345 =>
        (scr V (l3 + 1)).bind fun x346 =>
        (scr V (l3 + 2)).bind fun x347 =>
        (scr V (l3 + 3)).bind fun x348 =>
        (X8_claim h l2 x346 x347 x348).bind fun (x351, h350) =>
        if x345 = x351 then
          L_law_L18 V l1 l2 n h350 (l3 + 6)
        else
          some (0, h350)
      else
      if (x7 &&& 63) = 26 then
        (scr V (l3 + 1)).bind fun x352 =>
        (scr V (l3 + 2)).bind fun x353 =>
        (scr V (l3 + 3)).bind fun x354 =>
        (scr V (l3 + 4)).bind fun x355 =>
        (X7_lips h l1 x352 x353 x354 x355).bind fun (x358, h357) =>
        (scr V (l3 + 1)).bind fun x359 =>
        (scr V (l3 + 2)).bind fun x360 =>
        (scr V (l3 + 3)).bind fun x361 =>
        (scr V (l3 + 4)).bind fun x362 =>
        (X8_lips h357 l2 x359 x360 x361 x362).bind fun (x365, h364) =>
        if x358 = x365 then
          L_law_L18 V l1 l2 n h364 (l3 + 6)
        else
          some (0, h364)
      else
      if (x7 &&& 63) = 27 then
        (scr V (l3 + 1)).bind fun x366 =>
        (scr V (l3 + 2)).bind fun x367 =>
        (scr V (l3 + 3)).bind fun x368 =>
        (scr V (l3 + 4)).bind fun x369 =>
        (scr V (l3 + 5)).bind fun x370 =>
        (X7_drawn h l1 x366 x367 x368 x369 x370).bind fun (x373, h372) =>
        (scr V (l3 + 1)).bind fun x374 =>
        (scr V (l3 + 2)).bind fun x375 =>
        (scr V (l3 + 3)).bind fun x376 =>
        (scr V (l3 + 4)).bind fun x377 =>
        (scr V (l3 + 5)).bind fun x378 =>
        (X8_drawn h372 l2 x374 x375 x376 x377 x378).bind fun (x381, h380) =>
        if x373 = x381 then
          L_law_L18 V l1 l2 n h380 (l3 + 6)
        else
          some (0, h380)
      else
      if (x7 &&& 63) = 28 then
        (scr V (l3 + 1)).bind fun x382 =>
        (scr V (l3 + 2)).bind fun x383 =>
        (scr V (l3 + 3)).bind fun x384 =>
        (scr V (l3 + 4)).bind fun x385 =>
        (X7_hush h l1 x382 x383 x384 x385).bind fun (x388, h387) =>
        (scr V (l3 + 1)).bind fun x389 =>
        (scr V (l3 + 2)).bind fun x390 =>
        (scr V (l3 + 3)).bind fun x391 =>
        (scr V (l3 + 4)).bind fun x392 =>
        (X8_hush h387 l2 x389 x390 x391 x392).bind fun (x395, h394) =>
        if x388 = x395 then
          L_law_L18 V l1 l2 n h394 (l3 + 6)
        else
          some (0, h394)
      else
      if (x7 &&& 63) = 29 then
        (scr V (l3 + 1)).bind fun x396 =>
        (scr V (l3 + 2)).bind fun x397 =>
        (scr V (l3 + 3)).bind fun x398 =>
        (X7_bench h l1 x396 x397 x398).bind fun (x401, h400) =>
        (scr V (l3 + 1)).bind fun x402 =>
        (scr V (l3 + 2)).bind fun x403 =>
        (scr V (l3 + 3)).bind fun x404 =>
        (X8_bench h400 l2 x402 x403 x404).bind fun (x407, h406) =>
        if x401 = x407 then
          L_law_L18 V l1 l2 n h406 (l3 + 6)
        else
          some (0, h406)
      else
      if (x7 &&& 63) = 30 then
        (scr V (l3 + 1)).bind fun x408 =>
        (scr V (l3 + 2)).bind fun x409 =>
        (scr V (l3 + 3)).bind fun x410 =>
        (X7_idle h l1 x408 x409 x410).bind fun (x413, h412) =>
        (scr V (l3 + 1)).bind fun x414 =>
        (scr V (l3 + 2)).bind fun x415 =>
        (scr V (l3 + 3)).bind fun x416 =>
        (X8_idle h412 l2 x414 x415 x416).bind fun (x419, h418) =>
        if x413 = x419 then
          L_law_L18 V l1 l2 n h418 (l3 + 6)
        else
          some (0, h418)
      else
      if (x7 &&& 63) = 31 then
        (scr V (l3 + 1)).bind fun x420 =>
        (scr V (l3 + 2)).bind fun x421 =>
        (scr V (l3 + 3)).bind fun x422 =>
        (scr V (l3 + 4)).bind fun x423 =>
        (X7_persuade h l1 x420 x421 x422 x423).bind fun (x426, h425) =>
        (scr V (l3 + 1)).bind fun x427 =>
        (scr V (l3 + 2)).bind fun x428 =>
        (scr V (l3 + 3)).bind fun x429 =>
        (scr V (l3 + 4)).bind fun x430 =>
        (X8_persuade h425 l2 x427 x428 x429 x430).bind fun (x433, h432) =>
        if x426 = x433 then
          L_law_L18 V l1 l2 n h432 (l3 + 6)
        else
          some (0, h432)
      else
      if (x7 &&& 63) = 32 then
        (scr V (l3 + 1)).bind fun x434 =>
        (scr V (l3 + 2)).bind fun x435 =>
        (X7_areas h l1 x434 x435).bind fun (x438, h437) =>
        (scr V (l3 + 1)).bind fun x439 =>
        (scr V (l3 + 2)).bind fun x440 =>
        (X8_areas h437 l2 x439 x440).bind fun (x443, h442) =>
        if x438 = x443 then
          L_law_L18 V l1 l2 n h442 (l3 + 6)
        else
          some (0, h442)
      else
      if (x7 &&& 63) = 33 then
        (scr V (l3 + 1)).bind fun x444 =>
        (scr V (l3 + 2)).bind fun x445 =>
        (scr V (l3 + 3)).bind fun x446 =>
        lett (α := Int32) (if x446 = 0 then 0 else 1) fun j447 =>
        (X7_mouth h l1 x444 x445 j447).bind fun (x452, h451) =>
        (scr V (l3 + 1)).bind fun x453 =>
        (scr V (l3 + 2)).bind fun x454 =>
        (scr V (l3 + 3)).bind fun x455 =>
        lett (α := Int32) (if x455 = 0 then 0 else 1) fun j456 =>
        (X8_mouth h451 l2 x453 x454 j456).bind fun (x461, h460) =>
        if x452 = x461 then
          L_law_L18 V l1 l2 n h460 (l3 + 6)
        else
          some (0, h460)
      else
      if (x7 &&& 63) = 34 then
        (scr V (l3 + 1)).bind fun x462 =>
        (scr V (l3 + 2)).bind fun x463 =>
        (scr V (l3 + 3)).bind fun x464 =>
        (X7_rift h l1 x462 x463 x464).bind fun (x467, h466) =>
        (scr V (l3 + 1)).bind fun x468 =>
        (scr V (l3 + 2)).bind fun x469 =>
        (scr V (l3 + 3)).bind fun x470 =>
        (X8_rift h466 l2 x468 x469 x470).bind fun (x473, h472) =>
        if x467 = x473 then
          L_law_L18 V l1 l2 n h472 (l3 + 6)
        else
          some (0, h472)
      else
      if (x7 &&& 63) = 35 then
        (scr V (l3 + 1)).bind fun x474 =>
        (X7_count h l1 x474).bind fun x476 =>
        (scr V (l3 + 1)).bind fun x477 =>
        (X8_count h l2 x477).bind fun (x480, h479) =>
        if x476 = x480 then
          L_law_L18 V l1 l2 n h479 (l3 + 6)
        else
          some (0, h479)
      else
      if (x7 &&& 63) = 36 then
        (scr V (l3 + 1)).bind fun x481 =>
        (X7_image h l1 x481).bind fun (x484, h483) =>
        (scr V (l3 + 1)).bind fun x485 =>
        (X8_image h483 l2 x485).bind fun (x488, h487) =>
        if x484 = x488 then
          L_law_L18 V l1 l2 n h487 (l3 + 6)
        else
          some (0, h487)
      else
      if (x7 &&& 63) = 37 then
        (scr V (l3 + 1)).bind fun x489 =>
        (X7_again h l1 x489).bind fun (x492, h491) =>
        (scr V (l3 + 1)).bind fun x493 =>
        (X8_again h491 l2 x493).bind fun (x496, h495) =>
        if x492 = x496 then
          L_law_L18 V l1 l2 n h495 (l3 + 6)
        else
          some (0, h495)
      else
        L_law_L18 V l1 l2 n h (l3 + 6)
def L_law (V : EV) (h : HA)  : Option (Int32 × HA) :=
  lett (α := HA) (nw h 8 0) fun h1 =>
  (X7_init h1 (hz h)).bind fun h3 =>
  lett (α := HA) (nw h3 9 0) fun h4 =>
  (X8_init h4 (hz h3)).bind fun h6 =>
  L_law_L18 V (hz h) (hz h3) 514 h6 0