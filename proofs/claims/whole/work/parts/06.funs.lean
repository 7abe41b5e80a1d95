def fX2_copyRow (M : zM) (k i1 i2 : Nat) : Option (Unit × zM) := if i1 = i2 then none else some ((), zcp M k i1 i2)
def fX2_copyFrom (M : zM) (j : Nat) (j1 : Nat) : Option (Unit × zM) :=
  zL (zw M 1 j 0 (M 1 j1 0)) fun M21 =>
  zL (zw M21 1 j 1 (M21 1 j1 1)) fun M22 =>
  zL (zw M22 1 j 2 (M22 1 j1 2)) fun M23 =>
  zL (zw M23 1 j 3 (M23 1 j1 3)) fun M24 =>
  zC (fX2_copyRow M24 2 j1 j) fun _ M25 =>
  zC (fX2_copyRow M25 3 j1 j) fun _ M26 =>
  zC (fX2_copyRow M26 4 j1 j) fun _ M27 =>
  zC (fX2_copyRow M27 5 j1 j) fun _ M28 =>
  zC (fX2_copyRow M28 6 j1 j) fun _ M29 =>
  zC (fX2_copyRow M29 7 j1 j) fun _ M30 =>
  zC (fX2_copyRow M30 8 j1 j) fun _ M31 =>
  zC (fX2_copyRow M31 9 j1 j) fun _ M32 =>
  zC (fX2_copyRow M32 10 j1 j) fun _ M33 =>
  zC (fX2_copyRow M33 11 j1 j) fun _ M34 =>
  zC (fX2_copyRow M34 12 j1 j) fun _ M35 =>
  zC (fX2_copyRow M35 13 j1 j) fun _ M36 =>
  zC (fX2_copyRow M36 14 j1 j) fun _ M37 =>
  some ((), M37)
def fX2_has (M : zM) (j : Nat) (v1 : Int32) : Option (Int32 × zM) :=
  if v1 < 0 then
    some (0, M)
  else
    if (M 1 j 0) ≤ v1 then
      some (0, M)
    else
      if 6 ≤ v1 then
        some (0, M)
      else
        some (1, M)
def fX2_isFlying (M : zM) (j : Nat) (v1 : Int32) : Option (Int32 × zM) :=
  zC (fX2_has M j v1) fun r22 M21 =>
  if r22 = 0 then
    some (0, M21)
  else
    zI v1 6 <|
    if (M21 10 j (zN v1)) = 0 then
      some (1, M21)
    else
      some (0, M21)
def fX2_hasRoom (M : zM) (j : Nat) : Option (Int32 × zM) :=
  if (M 1 j 0) < 0 then
    some (0, M)
  else
    if 6 ≤ (M 1 j 0) then
      some (0, M)
    else
      some (1, M)
def fX2_sendUp_L59 (k : zM → Int32 → Option (Unit × zM)) (j : Nat) (a1 : Int32) : Nat → zM → Int32 → Option (Unit × zM)
  | 0 => fun _ _ => none
  | n + 1 => fun M a2 =>
    if 32 ≤ a2 then
      k M a2
    else
      zI ((a1 * 32) + a2) 192 <| zL (zw M 14 j (zN ((a1 * 32) + a2)) 0) fun M27 =>
      zL (a2 + 1) fun v28 =>
      fX2_sendUp_L59 k j a1 n M27 v28
def fX2_sendUp (M : zM) (j : Nat) (v1 : Int32) : Option (Unit × zM) :=
  zI v1 6 <|
  zI v1 6 <| zL (zw M 2 j (zN v1) (M 11 j (zN v1))) fun M21 =>
  zI v1 6 <|
  zI v1 6 <| zL (zw M21 3 j (zN v1) (M21 12 j (zN v1))) fun M22 =>
  zI v1 6 <|
  zI v1 6 <| zL (zw M22 4 j (zN v1) (M22 13 j (zN v1))) fun M23 =>
  zI v1 6 <| zL (zw M23 5 j (zN v1) 0) fun M24 =>
  zI v1 6 <| zL (zw M24 6 j (zN v1) 0) fun M25 =>
  zI v1 6 <| zL (zw M25 10 j (zN v1) 0) fun M26 =>
  fX2_sendUp_L59 (fun M29 v30 => 
    some ((), M29)) j v1 2000 M26 0
def fX2_addKite (M : zM) (j : Nat) (v1 : Int32) (v2 : Int32) (v3 : Int32) (v4 : Int32) (v5 : Int32) : Option (Int32 × zM) :=
  zL (M 1 j 0) fun v21 =>
  zI v21 6 <| zL (zw M 11 j (zN v21) v1) fun M22 =>
  zI v21 6 <| zL (zw M22 12 j (zN v21) v2) fun M23 =>
  zI v21 6 <| zL (zw M23 13 j (zN v21) v3) fun M24 =>
  zI v21 6 <| zL (zw M24 7 j (zN v21) v4) fun M25 =>
  zI v21 6 <| zL (zw M25 8 j (zN v21) v5) fun M26 =>
  zI v21 6 <| zL (zw M26 9 j (zN v21) 0) fun M27 =>
  zC (fX2_sendUp M27 j v21) fun _ M28 =>
  zL (zw M28 1 j 0 ((M28 1 j 0) + 1)) fun M29 =>
  some (v21, M29)
def fX2_beginAnew_L2 (k : zM → Int32 → Option (Unit × zM)) (j : Nat) : Nat → zM → Int32 → Option (Unit × zM)
  | 0 => fun _ _ => none
  | n + 1 => fun M a1 =>
    if 6 ≤ a1 then
      k M a1
    else
      zC (fX2_has M j a1) fun r22 M21 =>
      if r22 = 0 then
        zL (a1 + 1) fun v23 =>
        fX2_beginAnew_L2 k j n M21 v23
      else
        zC (fX2_sendUp M21 j a1) fun _ M24 =>
        zL (a1 + 1) fun v25 =>
        fX2_beginAnew_L2 k j n M24 v25
def fX2_beginAnew (M : zM) (j : Nat) : Option (Unit × zM) :=
  fX2_beginAnew_L2 (fun M26 v27 => 
    zL (zw M26 1 j 2 ((M26 1 j 2) + 1)) fun M28 =>
    some ((), M28)) j 2000 M 0
def fX2_turn (M : zM) (j : Nat) (v1 : Int32) (v2 : Int32) (v3 : Int32) : Option (Int32 × zM) :=
  zI v1 6 <|
  zI v1 6 <|
  zL ((10 * (zabs (v2 - (M 5 j (zN v1))))) + (zabs (v3 - (M 6 j (zN v1))))) fun v21 =>
  zI v1 6 <| zL (zw M 5 j (zN v1) v2) fun M22 =>
  zI v1 6 <| zL (zw M22 6 j (zN v1) v3) fun M23 =>
  some (v21, M23)
def fX6_isWithin (M : zM) (v0 : Int32) (v1 : Int32) (v2 : Int32) : Option (Int32 × zM) :=
  if v0 < v1 then
    some (0, M)
  else
    if v2 < v0 then
      some (0, M)
    else
      some (1, M)
def fX2_move (M : zM) (j : Nat) (v1 : Int32) : Option (Unit × zM) :=
  zI v1 6 <|
  zI v1 6 <|
  zL ((M 3 j (zN v1)) + (M 5 j (zN v1))) fun v21 =>
  zC (fX6_isWithin M v21 0 63) fun r23 M22 =>
  if r23 = 0 then
    zI v1 6 <|
    zI v1 6 <| zL (zw M22 5 j (zN v1) (-(M22 5 j (zN v1)))) fun M24 =>
    zI v1 6 <|
    zI v1 6 <|
    zL ((M24 4 j (zN v1)) + (M24 6 j (zN v1))) fun v25 =>
    zC (fX6_isWithin M24 v25 1 47) fun r27 M26 =>
    if r27 = 0 then
      zI v1 6 <|
      zI v1 6 <| zL (zw M26 6 j (zN v1) (-(M26 6 j (zN v1)))) fun M28 =>
      some ((), M28)
    else
      zI v1 6 <| zL (zw M26 4 j (zN v1) v25) fun M29 =>
      some ((), M29)
  else
    zI v1 6 <| zL (zw M22 3 j (zN v1) v21) fun M30 =>
    zI v1 6 <|
    zI v1 6 <|
    zL ((M30 4 j (zN v1)) + (M30 6 j (zN v1))) fun v31 =>
    zC (fX6_isWithin M30 v31 1 47) fun r33 M32 =>
    if r33 = 0 then
      zI v1 6 <|
      zI v1 6 <| zL (zw M32 6 j (zN v1) (-(M32 6 j (zN v1)))) fun M34 =>
      some ((), M34)
    else
      zI v1 6 <| zL (zw M32 4 j (zN v1) v31) fun M35 =>
      some ((), M35)
def fX2_sliding (M : zM) (j : Nat) (v1 : Int32) (v2 : Int32) : Option (Int32 × zM) :=
  zI v1 6 <|
  zI v2 6 <|
  zI v1 6 <|
  zI v2 6 <|
  some ((1 + (zabs ((M 5 j (zN v1)) - (M 5 j (zN v2))))) + (zabs ((M 6 j (zN v1)) - (M 6 j (zN v2)))), M)
def fX2_rubbing (M : zM) (j : Nat) (v1 : Int32) (v2 : Int32) (v3 : Int32) : Option (Int32 × zM) :=
  zC (fX2_has M j v1) fun r22 M21 =>
  if r22 = 0 then
    some (0, M21)
  else
    zC (fX2_has M21 j v2) fun r24 M23 =>
    if r24 = 0 then
      some (0, M23)
    else
      zI v2 6 <|
      zC (fX2_sliding M23 j v1 v2) fun r26 M25 =>
      zL ((M23 7 j (zN v2)) * r26) fun v27 =>
      if v3 = 0 then
        some (v27, M25)
      else
        some (2 * v27, M25)
def fX2_hasPlace (M : zM) (j : Nat) (v1 : Int32) (v2 : Int32) : Option (Int32 × zM) :=
  zC (fX2_has M j v1) fun r22 M21 =>
  if r22 = 0 then
    some (0, M21)
  else
    zC (fX6_isWithin M21 v2 0 31) fun r24 M23 =>
    if r24 = 0 then
      some (0, M23)
    else
      some (1, M23)
def fX2_wearAt (M : zM) (j : Nat) (v1 : Int32) (v2 : Int32) : Option (Int32 × zM) :=
  zC (fX2_hasPlace M j v1 v2) fun r22 M21 =>
  if r22 = 0 then
    some (0, M21)
  else
    zI ((v1 * 32) + v2) 192 <|
    some (M21 14 j (zN ((v1 * 32) + v2)), M21)
def fX2_wearDown (M : zM) (j : Nat) (v1 : Int32) (v2 : Int32) (v3 : Int32) : Option (Unit × zM) :=
  zC (fX2_hasPlace M j v1 v2) fun r22 M21 =>
  if r22 = 0 then
    some ((), M21)
  else
    zI ((v1 * 32) + v2) 192 <|
    zI ((v1 * 32) + v2) 192 <| zL (zw M21 14 j (zN ((v1 * 32) + v2)) ((M21 14 j (zN ((v1 * 32) + v2))) + v3)) fun M23 =>
    some ((), M23)
def fX2_isWornThrough (M : zM) (j : Nat) (v1 : Int32) (v2 : Int32) : Option (Int32 × zM) :=
  zC (fX2_has M j v1) fun r22 M21 =>
  if r22 = 0 then
    some (0, M21)
  else
    zC (fX2_wearAt M21 j v1 v2) fun r24 M23 =>
    zI v1 6 <|
    if r24 < (M23 8 j (zN v1)) then
      some (0, M23)
    else
      some (1, M23)
def fX2_mostWornPlace_L4 (k : zM → Int32 → Int32 → Option (Int32 × zM)) (j : Nat) (a1 : Int32) : Nat → zM → Int32 → Int32 → Option (Int32 × zM)
  | 0 => fun _ _ _ => none
  | n + 1 => fun M a2 a3 =>
    if 32 ≤ a3 then
      k M a2 a3
    else
      zC (fX2_wearAt M j a1 a3) fun r22 M21 =>
      zC (fX2_wearAt M21 j a1 a2) fun r24 M23 =>
      if r22 ≤ r24 then
        zL (a3 + 1) fun v25 =>
        fX2_mostWornPlace_L4 k j a1 n M23 a2 v25
      else
        zL (a3 + 1) fun v26 =>
        fX2_mostWornPlace_L4 k j a1 n M23 a3 v26
def fX2_mostWornPlace (M : zM) (j : Nat) (v1 : Int32) : Option (Int32 × zM) :=
  fX2_mostWornPlace_L4 (fun M27 v28 v29 => 
    some (v28, M27)) j v1 2000 M 0 1
def fX2_flyingKites_L4 (k : zM → Int32 → Int32 → Option (Int32 × zM)) (j : Nat) : Nat → zM → Int32 → Int32 → Option (Int32 × zM)
  | 0 => fun _ _ _ => none
  | n + 1 => fun M a1 a2 =>
    if 6 ≤ a2 then
      k M a1 a2
    else
      zC (fX2_isFlying M j a2) fun r22 M21 =>
      if r22 = 0 then
        zL (a2 + 1) fun v23 =>
        fX2_flyingKites_L4 k j n M21 a1 v23
      else
        zL (a1 ||| (1 <<< (a2 &&& 31))) fun v24 =>
        zL (a2 + 1) fun v25 =>
        fX2_flyingKites_L4 k j n M21 v24 v25
def fX2_flyingKites (M : zM) (j : Nat) : Option (Int32 × zM) :=
  fX2_flyingKites_L4 (fun M26 v27 v28 => 
    some (v27, M26)) j 2000 M 0 0
def fX2_leader_L14 (k : zM → Int32 → Int32 → Option (Int32 × zM)) (j : Nat) : Nat → zM → Int32 → Int32 → Option (Int32 × zM)
  | 0 => fun _ _ _ => none
  | n + 1 => fun M a1 a2 =>
    if 6 ≤ a2 then
      k M a1 a2
    else
      zC (fX2_has M j a2) fun r22 M21 =>
      if r22 = 0 then
        zL (a2 + 1) fun v23 =>
        fX2_leader_L14 k j n M21 a1 v23
      else
        zI a2 6 <|
        zI a1 6 <|
        if (M21 9 j (zN a2)) ≤ (M21 9 j (zN a1)) then
          zL (a2 + 1) fun v24 =>
          fX2_leader_L14 k j n M21 a1 v24
        else
          zL (a2 + 1) fun v25 =>
          fX2_leader_L14 k j n M21 a2 v25
def fX2_leader (M : zM) (j : Nat) : Option (Int32 × zM) :=
  if (M 1 j 0) = 0 then
    some ((-6), M)
  else
    fX2_leader_L14 (fun M26 v27 v28 => 
      some (v27, M26)) j 2000 M 0 1
def fX2_allPoints_L4 (k : zM → Int32 → Int32 → Option (Int32 × zM)) (j : Nat) : Nat → zM → Int32 → Int32 → Option (Int32 × zM)
  | 0 => fun _ _ _ => none
  | n + 1 => fun M a1 a2 =>
    if 6 ≤ a2 then
      k M a1 a2
    else
      zC (fX2_has M j a2) fun r22 M21 =>
      if r22 = 0 then
        zL (a2 + 1) fun v23 =>
        fX2_allPoints_L4 k j n M21 a1 v23
      else
        zI a2 6 <|
        zL (a1 + (M21 9 j (zN a2))) fun v24 =>
        zL (a2 + 1) fun v25 =>
        fX2_allPoints_L4 k j n M21 v24 v25
def fX2_allPoints (M : zM) (j : Nat) : Option (Int32 × zM) :=
  fX2_allPoints_L4 (fun M26 v27 v28 => 
    some (v27, M26)) j 2000 M 0 0
def fX5_note (M : zM) (j : Nat) (v1 : Int32) (v2 : Int32) (v3 : Int32) (v4 : Int32) : Option (Unit × zM) :=
  if (M 15 j 4) < 0 then
    some ((), M)
  else
    if (M 15 j 4) < 30 then
      zI (M 15 j 4) 30 <| zL (zw M 16 j (zN (M 15 j 4)) v1) fun M21 =>
      zI (M21 15 j 4) 30 <| zL (zw M21 17 j (zN (M21 15 j 4)) v2) fun M22 =>
      zI (M22 15 j 4) 30 <| zL (zw M22 18 j (zN (M22 15 j 4)) v3) fun M23 =>
      zI (M23 15 j 4) 30 <| zL (zw M23 19 j (zN (M23 15 j 4)) (vp_nar .boolean v4)) fun M24 =>
      zL (zw M24 15 j 4 ((M24 15 j 4) + 1)) fun M25 =>
      some ((), M25)
    else
      some ((), M)
def fX5_measurePair (M : zM) (j : Nat) (j1 : Nat) (v2 : Int32) (v3 : Int32) : Option (Unit × zM) :=
  zI v2 6 <|
  zI v2 6 <|
  zL ((M 3 j1 (zN v2)) - (M 2 j1 (zN v2))) fun v21 =>
  zI v2 6 <|
  zL (M 4 j1 (zN v2)) fun v22 =>
  zI v3 6 <|
  zI v3 6 <|
  zL ((M 3 j1 (zN v3)) - (M 2 j1 (zN v3))) fun v23 =>
  zI v3 6 <|
  zL (M 4 j1 (zN v3)) fun v24 =>
  zI v3 6 <|
  zI v2 6 <|
  zL ((M 2 j1 (zN v3)) - (M 2 j1 (zN v2))) fun v25 =>
  zL ((v21 * v24) - (v22 * v23)) fun v26 =>
  zL (zabs v26) fun v27 =>
  if v27 = 0 then
    some ((), M)
  else
    if 0 < (v25 * v26) then
      zL ((zabs v25) * v24) fun v28 =>
      zL ((zabs v25) * v22) fun v29 =>
      if v27 ≤ v28 then
        some ((), M)
      else
        if v29 < v27 then
          if v27 < (zabs ((v21 * v23) + (v22 * v24))) then
            zV v27 <|
            zC (fX5_note M j v2 v3 ((32 * v28) / v27) 0) fun _ M30 =>
            zV v27 <|
            zC (fX5_note M30 j v3 v2 ((32 * v29) / v27) 0) fun _ M31 =>
            some ((), M31)
          else
            zV v27 <|
            zC (fX5_note M j v2 v3 ((32 * v28) / v27) 1) fun _ M32 =>
            zV v27 <|
            zC (fX5_note M32 j v3 v2 ((32 * v29) / v27) 1) fun _ M33 =>
            some ((), M33)
        else
          some ((), M)
    else
      some ((), M)
def fX5_measure_L25 (k : zM → Int32 → Option (Unit × zM)) (j : Nat) (j1 : Nat) (a2 : Int32) : Nat → zM → Int32 → Option (Unit × zM)
  | 0 => fun _ _ => none
  | n + 1 => fun M a3 =>
    if 6 ≤ a3 then
      k M a3
    else
      zC (fX2_isFlying M j1 a3) fun r27 M26 =>
      if r27 = 0 then
        zL (a3 + 1) fun v28 =>
        fX5_measure_L25 k j j1 a2 n M26 v28
      else
        zC (fX5_measurePair M26 j j1 a2 a3) fun _ M29 =>
        zL (a3 + 1) fun v30 =>
        fX5_measure_L25 k j j1 a2 n M29 v30
def fX5_measure_L7 (k : zM → Int32 → Option (Unit × zM)) (j : Nat) (j1 : Nat) : Nat → zM → Int32 → Option (Unit × zM)
  | 0 => fun _ _ => none
  | n + 1 => fun M a2 =>
    if 6 ≤ a2 then
      k M a2
    else
      zC (fX2_isFlying M j1 a2) fun r23 M22 =>
      if r23 = 0 then
        zL (a2 + 1) fun v24 =>
        fX5_measure_L7 k j j1 n M22 v24
      else
        zL (a2 + 1) fun v25 =>
        fX5_measure_L25 (fun M31 v32 => 
          zL (a2 + 1) fun v33 =>
          fX5_measure_L7 k j j1 n M31 v33) j j1 a2 2000 M22 v25
def fX5_measure (M : zM) (j : Nat) (j1 : Nat) : Option (Unit × zM) :=
  zL (zw M 15 j 4 0) fun M21 =>
  fX5_measure_L7 (fun M34 v35 => 
    some ((), M34)) j j1 2000 M21 0
def fX5_crossings (M : zM) (j : Nat) : Option (Int32 × zM) :=
  zV 2 <|
  some ((M 15 j 4) / 2, M)
def fX5_noteOf_L2 (k : zM → Int32 → Option (Int32 × zM)) (j : Nat) (a1 : Int32) (a2 : Int32) : Nat → zM → Int32 → Option (Int32 × zM)
  | 0 => fun _ _ => none
  | n + 1 => fun M a3 =>
    if (M 15 j 4) ≤ a3 then
      k M a3
    else
      if 30 ≤ a3 then
        k M a3
      else
        zI a3 30 <|
        if (M 16 j (zN a3)) = a1 then
          zI a3 30 <|
          if (M 17 j (zN a3)) = a2 then
            some (a3, M)
          else
            zL (a3 + 1) fun v22 =>
            fX5_noteOf_L2 k j a1 a2 n M v22
        else
          zL (a3 + 1) fun v21 =>
          fX5_noteOf_L2 k j a1 a2 n M v21
def fX5_noteOf (M : zM) (j : Nat) (v1 : Int32) (v2 : Int32) : Option (Int32 × zM) :=
  fX5_noteOf_L2 (fun M23 v24 => 
    some ((-6), M23)) j v1 v2 2000 M 0
def fX5_cross (M : zM) (j : Nat) (v1 : Int32) (v2 : Int32) : Option (Int32 × zM) :=
  zC (fX5_noteOf M j v1 v2) fun r22 M21 =>
  if r22 = (-6) then
    some (0, M21)
  else
    some (1, M21)
def fX5_placeOn (M : zM) (j : Nat) (v1 : Int32) (v2 : Int32) : Option (Int32 × zM) :=
  zC (fX5_noteOf M j v1 v2) fun r22 M21 =>
  if r22 = (-6) then
    some ((-6), M21)
  else
    zI r22 30 <|
    some (M21 18 j (zN r22), M21)
def fX5_isSteep (M : zM) (j : Nat) (v1 : Int32) (v2 : Int32) : Option (Int32 × zM) :=
  zC (fX5_noteOf M j v1 v2) fun r22 M21 =>
  if r22 = (-6) then
    some (0, M21)
  else
    zI r22 30 <|
    if (M21 19 j (zN r22)) = 0 then
      some (0, M21)
    else
      some (1, M21)
def fX5_crossersOf_L4 (k : zM → Int32 → Int32 → Option (Int32 × zM)) (j : Nat) (a1 : Int32) : Nat → zM → Int32 → Int32 → Option (Int32 × zM)
  | 0 => fun _ _ _ => none
  | n + 1 => fun M a2 a3 =>
    if (M 15 j 4) ≤ a3 then
      k M a2 a3
    else
      if 30 ≤ a3 then
        k M a2 a3
      else
        zI a3 30 <|
        if (M 16 j (zN a3)) = a1 then
          zI a3 30 <|
          zL (a2 ||| (1 <<< ((M 17 j (zN a3)) &&& 31))) fun v22 =>
          zL (a3 + 1) fun v23 =>
          fX5_crossersOf_L4 k j a1 n M v22 v23
        else
          zL (a3 + 1) fun v21 =>
          fX5_crossersOf_L4 k j a1 n M a2 v21
def fX5_crossersOf (M : zM) (j : Nat) (v1 : Int32) : Option (Int32 × zM) :=
  fX5_crossersOf_L4 (fun M24 v25 v26 => 
    some (v25, M24)) j v1 2000 M 0 0
def fX4_wearStrings_L2 (k : zM → Int32 → Option (Unit × zM)) (j1 : Nat) : Nat → zM → Int32 → Option (Unit × zM)
  | 0 => fun _ _ => none
  | n + 1 => fun M a2 =>
    if (M 15 1 4) ≤ a2 then
      k M a2
    else
      if 30 ≤ a2 then
        k M a2
      else
        zI a2 30 <|
        zL (M 16 1 (zN a2)) fun v21 =>
        zI a2 30 <|
        zI a2 30 <|
        zC (fX2_rubbing M j1 v21 (M 17 1 (zN a2)) (M 19 1 (zN a2))) fun r23 M22 =>
        zI a2 30 <|
        zC (fX2_wearDown M22 j1 v21 (M22 18 1 (zN a2)) r23) fun _ M24 =>
        zL (a2 + 1) fun v25 =>
        fX4_wearStrings_L2 k j1 n M24 v25
def fX4_wearStrings (M : zM) (j1 : Nat) : Option (Unit × zM) :=
  fX4_wearStrings_L2 (fun M26 v27 => 
    some ((), M26)) j1 2000 M 0
def fX4_givePoints_L2 (k : zM → Int32 → Option (Unit × zM)) (j1 : Nat) : Nat → zM → Int32 → Option (Unit × zM)
  | 0 => fun _ _ => none
  | n + 1 => fun M a2 =>
    if (M 15 1 4) ≤ a2 then
      k M a2
    else
      if 30 ≤ a2 then
        k M a2
      else
        zI a2 30 <|
        zL (M 16 1 (zN a2)) fun v21 =>
        zI a2 30 <|
        zL (M 17 1 (zN a2)) fun v22 =>
        zI a2 30 <|
        zC (fX2_isWornThrough M j1 v21 (M 18 1 (zN a2))) fun r24 M23 =>
        if r24 = 0 then
          zL (a2 + 1) fun v25 =>
          fX4_givePoints_L2 k j1 n M23 v25
        else
          zC (fX2_has M23 j1 v22) fun r27 M26 =>
          if r27 = 0 then
            zL (a2 + 1) fun v28 =>
            fX4_givePoints_L2 k j1 n M26 v28
          else
            zI v22 6 <|
            zI v22 6 <| zL (zw M26 9 j1 (zN v22) ((M26 9 j1 (zN v22)) + 1)) fun M29 =>
            zL (zw M29 20 0 2 ((M29 20 0 2) ||| (1 <<< (v22 &&& 31)))) fun M30 =>
            zL (zw M30 20 0 1 ((M30 20 0 1) ||| (1 <<< (v21 &&& 31)))) fun M31 =>
            zL (a2 + 1) fun v32 =>
            fX4_givePoints_L2 k j1 n M31 v32
def fX4_givePoints (M : zM) (j1 : Nat) : Option (Unit × zM) :=
  fX4_givePoints_L2 (fun M33 v34 => 
    some ((), M33)) j1 2000 M 0
def fX4_cutStrings_L2 (k : zM → Int32 → Option (Unit × zM)) (j1 : Nat) : Nat → zM → Int32 → Option (Unit × zM)
  | 0 => fun _ _ => none
  | n + 1 => fun M a2 =>
    if 6 ≤ a2 then
      k M a2
    else
      if (((M 20 0 1) >>> (a2 &&& 31)) &&& 1) = 1 then
        zI a2 6 <| zL (zw M 10 j1 (zN a2) 1) fun M22 =>
        zL (zw M22 1 j1 3 ((M22 1 j1 3) + 1)) fun M23 =>
        zL (a2 + 1) fun v24 =>
        fX4_cutStrings_L2 k j1 n M23 v24
      else
        zL (a2 + 1) fun v21 =>
        fX4_cutStrings_L2 k j1 n M v21
def fX4_cutStrings (M : zM) (j1 : Nat) : Option (Unit × zM) :=
  fX4_cutStrings_L2 (fun M25 v26 => 
    some ((), M25)) j1 2000 M 0
def fX4_happenIn_L2 (k : zM → Int32 → Option (Unit × zM)) (j1 : Nat) : Nat → zM → Int32 → Option (Unit × zM)
  | 0 => fun _ _ => none
  | n + 1 => fun M a2 =>
    if 6 ≤ a2 then
      k M a2
    else
      zC (fX2_isFlying M j1 a2) fun r22 M21 =>
      if r22 = 0 then
        zL (a2 + 1) fun v23 =>
        fX4_happenIn_L2 k j1 n M21 v23
      else
        zC (fX2_move M21 j1 a2) fun _ M24 =>
        zL (a2 + 1) fun v25 =>
        fX4_happenIn_L2 k j1 n M24 v25
def fX4_happenIn (M : zM) (j1 : Nat) : Option (Unit × zM) :=
  fX4_happenIn_L2 (fun M26 v27 => 
    zL (zw M26 1 j1 1 ((M26 1 j1 1) + 1)) fun M28 =>
    zL (zw M28 20 0 1 0) fun M29 =>
    zL (zw M29 20 0 2 0) fun M30 =>
    zC (fX5_measure M30 1 j1) fun _ M31 =>
    zC (fX4_wearStrings M31 j1) fun _ M32 =>
    zC (fX4_givePoints M32 j1) fun _ M33 =>
    if (M33 20 0 1) = 0 then
      some ((), M33)
    else
      zC (fX4_cutStrings M33 j1) fun _ M34 =>
      some ((), M34)) j1 2000 M 0
def fX0_stateAt (M : zM) (v1 : Int32) : Option (Nat × zM) :=
  if v1 < 0 then
    none
  else
    if 6 ≤ v1 then
      none
    else
      zI v1 6 <|
      some ((2 + zN v1), M)
def fX0_record (M : zM) (j1 : Nat) : Option (Unit × zM) :=
  zC (fX0_stateAt M (M 21 0 1)) fun q22 M21 =>
  zC (fX2_copyFrom M21 q22 j1) fun _ M24 =>
  if 6 ≤ ((M24 21 0 1) + 1) then
    zL (zw M24 21 0 1 0) fun M25 =>
    zL (zw M25 21 0 2 (zmin ((M25 21 0 2) + 1) 6)) fun M26 =>
    some ((), M26)
  else
    zL (zw M24 21 0 1 ((M24 21 0 1) + 1)) fun M27 =>
    zL (zw M27 21 0 2 (zmin ((M27 21 0 2) + 1) 6)) fun M28 =>
    some ((), M28)
def fX0_takeBack (M : zM) (j1 : Nat) : Option (Unit × zM) :=
  if (M 21 0 1) ≤ 0 then
    zC (fX0_stateAt M 5) fun q22 M21 =>
    if (M21 21 0 2) = 0 then
      some ((), M21)
    else
      zC (fX2_copyFrom M21 j1 q22) fun _ M24 =>
      zL (zw M24 21 0 1 5) fun M25 =>
      zL (zw M25 21 0 2 ((M25 21 0 2) - 1)) fun M26 =>
      some ((), M26)
  else
    zL ((M 21 0 1) - 1) fun v27 =>
    zC (fX0_stateAt M v27) fun q29 M28 =>
    if (M28 21 0 2) = 0 then
      some ((), M28)
    else
      zC (fX2_copyFrom M28 j1 q29) fun _ M31 =>
      zL (zw M31 21 0 1 v27) fun M32 =>
      zL (zw M32 21 0 2 ((M32 21 0 2) - 1)) fun M33 =>
      some ((), M33)
def fX1_append (M : zM) (v1 : Int32) : Option (Unit × zM) :=
  if (M 24 0 1) < 0 then
    some ((), M)
  else
    if 60 ≤ (M 24 0 1) then
      some ((), M)
    else
      zI (M 24 0 1) 60 <| zL (zw M 25 0 (zN (M 24 0 1)) (vp_nar .char ((v1.toUInt32 % 65536).toInt32))) fun M21 =>
      zL (zw M21 24 0 1 ((M21 24 0 1) + 1)) fun M22 =>
      some ((), M22)
def fX1_clear (M : zM) : Option (Unit × zM) :=
  zL (zw M 24 0 1 0) fun M21 =>
  some ((), M21)
def fX1_signAt (M : zM) (v1 : Int32) : Option (Int32 × zM) :=
  if v1 < 0 then
    some (0, M)
  else
    if (M 24 0 1) ≤ v1 then
      some (0, M)
    else
      if 60 ≤ v1 then
        some (0, M)
      else
        zI v1 60 <|
        some (M 25 0 (zN v1), M)
def fX1_afterStartOfStep (M : zM) (v0 : Int32) (v1 : Int32) (v2 : Int32) : Option (Int32 × zM) :=
  if v0 = 48 then
    some (v2, M)
  else
    if v0 = 43 then
      some (v1, M)
    else
      if v0 = 45 then
        some (v1, M)
      else
        some ((-6), M)
def fX1_expectedAfter (M : zM) (v0 : Int32) (v1 : Int32) : Option (Int32 × zM) :=
  if v0 = 0 then
    zC (fX6_isWithin M v1 48 53) fun r22 M21 =>
    if r22 = 0 then
      some ((-6), M21)
    else
      some (1, M21)
  else
  if v0 = 1 then
    if v1 = 58 then
      some (2, M)
    else
      some ((-6), M)
  else
  if v0 = 2 then
    zC (fX1_afterStartOfStep M v1 3 4) fun r24 M23 =>
    some (r24, M23)
  else
  if v0 = 3 then
    zC (fX6_isWithin M v1 49 51) fun r26 M25 =>
    if r26 = 0 then
      some ((-6), M25)
    else
      some (4, M25)
  else
  if v0 = 4 then
    zC (fX1_afterStartOfStep M v1 5 6) fun r28 M27 =>
    some (r28, M27)
  else
  if v0 = 5 then
    zC (fX6_isWithin M v1 49 51) fun r30 M29 =>
    if r30 = 0 then
      some ((-6), M29)
    else
      some (6, M29)
  else
  if v1 = 59 then
    some (0, M)
  else
    some ((-6), M)
def fX1_firstFault_L4 (k : zM → Int32 → Int32 → Option (Int32 × zM))  : Nat → zM → Int32 → Int32 → Option (Int32 × zM)
  | 0 => fun _ _ _ => none
  | n + 1 => fun M a1 a2 =>
    if (M 24 0 1) ≤ a2 then
      k M a1 a2
    else
      zC (fX1_signAt M a2) fun r22 M21 =>
      zC (fX1_expectedAfter M21 a1 r22) fun r24 M23 =>
      if r24 = (-6) then
        some (a2, M23)
      else
        zL (a2 + 1) fun v25 =>
        fX1_firstFault_L4 k n M23 r24 v25
def fX1_firstFault (M : zM) : Option (Int32 × zM) :=
  fX1_firstFault_L4 (fun M26 v27 v28 => 
    if v27 = 6 then
      some ((-6), M26)
    else
      some (M26 24 0 1, M26))  2000 M 0 0
def fX1_digitAt (M : zM) (v1 : Int32) : Option (Int32 × zM) :=
  zC (fX1_signAt M v1) fun r22 M21 =>
  some (r22 - 48, M21)
def fX1_stepAt (M : zM) (v1 : Int32) : Option (Int32 × zM) :=
  zC (fX1_signAt M v1) fun r22 M21 =>
  if r22 = 48 then
    some (0, M21)
  else
    if r22 = 45 then
      zC (fX1_digitAt M21 (v1 + 1)) fun r26 M25 =>
      some (-r26, M25)
    else
      zC (fX1_digitAt M21 (v1 + 1)) fun r24 M23 =>
      some (r24, M23)
def fX1_afterKite (M : zM) (v1 : Int32) : Option (Int32 × zM) :=
  some (v1 + 2, M)
def fX1_afterStep (M : zM) (v1 : Int32) : Option (Int32 × zM) :=
  zC (fX1_signAt M v1) fun r22 M21 =>
  if r22 = 48 then
    some (v1 + 1, M21)
  else
    some (v1 + 2, M21)
def fX1_afterSemicolon (M : zM) (v1 : Int32) : Option (Int32 × zM) :=
  some (v1 + 1, M)
def fX6_launch (M : zM) (v1 : Int32) (v2 : Int32) (v3 : Int32) (v4 : Int32) (v5 : Int32) : Option (Int32 × zM) :=
  zC (fX6_isWithin M v1 0 63) fun r22 M21 =>
  if r22 = 0 then
    some ((-2), M21)
  else
    zC (fX6_isWithin M21 v2 0 63) fun r24 M23 =>
    if r24 = 0 then
      some ((-2), M23)
    else
      zC (fX6_isWithin M23 v3 1 47) fun r26 M25 =>
      if r26 = 0 then
        some ((-2), M25)
      else
        zC (fX6_isWithin M25 v4 0 5) fun r28 M27 =>
        if r28 = 0 then
          some ((-2), M27)
        else
          zC (fX6_isWithin M27 v5 10 200) fun r30 M29 =>
          if r30 = 0 then
            some ((-2), M29)
          else
            zC (fX2_hasRoom M29 0) fun r32 M31 =>
            if r32 = 0 then
              some ((-4), M31)
            else
              zC (fX0_record M31 0) fun _ M33 =>
              zC (fX2_addKite M33 0 v1 v2 v3 v4 v5) fun r35 M34 =>
              some (r35, M34)
def fX6_errorOfOrder (M : zM) (v1 : Int32) (v2 : Int32) (v3 : Int32) : Option (Int32 × zM) :=
  zC (fX2_has M 0 v1) fun r22 M21 =>
  if r22 = 0 then
    some ((-1), M21)
  else
    zC (fX6_isWithin M21 v2 (-3) 3) fun r24 M23 =>
    if r24 = 0 then
      some ((-2), M23)
    else
      zC (fX6_isWithin M23 v3 (-3) 3) fun r26 M25 =>
      if r26 = 0 then
        some ((-2), M25)
      else
        zC (fX2_isFlying M25 0 v1) fun r28 M27 =>
        if r28 = 0 then
          some ((-5), M27)
        else
          some (0, M27)
def fX6_order (M : zM) (v1 : Int32) (v2 : Int32) (v3 : Int32) : Option (Int32 × zM) :=
  zC (fX6_errorOfOrder M v1 v2 v3) fun r22 M21 =>
  if r22 = 0 then
    zC (fX0_record M21 0) fun _ M23 =>
    zC (fX2_turn M23 0 v1 v2 v3) fun r25 M24 =>
    some (r25, M24)
  else
    some (r22, M21)
def fX6_step (M : zM) (v1 : Int32) (v2 : Int32) : Option (Int32 × zM) :=
  zC (fX2_has M 0 v1) fun r22 M21 =>
  if r22 = 0 then
    some ((-1), M21)
  else
    zC (fX6_isWithin M21 v2 0 63) fun r24 M23 =>
    if r24 = 0 then
      some ((-2), M23)
    else
      zC (fX2_isFlying M23 0 v1) fun r26 M25 =>
      if r26 = 0 then
        some ((-5), M25)
      else
        zC (fX0_record M25 0) fun _ M27 =>
        zI v1 6 <|
        zL (M27 2 0 (zN v1)) fun v28 =>
        zI v1 6 <| zL (zw M27 2 0 (zN v1) v2) fun M29 =>
        some (v28, M29)
def fX6_land (M : zM) (v1 : Int32) : Option (Int32 × zM) :=
  zC (fX2_has M 0 v1) fun r22 M21 =>
  if r22 = 0 then
    some ((-1), M21)
  else
    zC (fX2_isFlying M21 0 v1) fun r24 M23 =>
    if r24 = 0 then
      some ((-5), M23)
    else
      zC (fX0_record M23 0) fun _ M25 =>
      zI v1 6 <| zL (zw M25 10 0 (zN v1) 2) fun M26 =>
      zC (fX2_mostWornPlace M26 0 v1) fun r28 M27 =>
      zC (fX2_wearAt M27 0 v1 r28) fun r30 M29 =>
      some (r30, M29)
def fX6_pass_L29 (k : zM → Int32 → Int32 → Option (Int32 × zM))  (a1 : Int32) : Nat → zM → Int32 → Int32 → Option (Int32 × zM)
  | 0 => fun _ _ _ => none
  | n + 1 => fun M a2 a3 =>
    if a1 ≤ a3 then
      k M a2 a3
    else
      zC (fX4_happenIn M 0) fun _ M24 =>
      zL (a2 ||| (M24 20 0 1)) fun v25 =>
      zL (a3 + 1) fun v26 =>
      fX6_pass_L29 k a1 n M24 v25 v26
def fX6_pass (M : zM) (v1 : Int32) : Option (Int32 × zM) :=
  zC (fX6_isWithin M v1 1 200) fun r22 M21 =>
  if r22 = 0 then
    some ((-2), M21)
  else
    zC (fX0_record M21 0) fun _ M23 =>
    fX6_pass_L29 (fun M27 v28 v29 => 
      some (v28, M27)) v1 2000 M23 0 0
def fX6_round (M : zM) : Option (Int32 × zM) :=
  zC (fX0_record M 0) fun _ M21 =>
  zC (fX2_beginAnew M21 0) fun _ M22 =>
  some (M22 1 0 2, M22)
def fX6_giveOrdersOfPad_L6 (k : zM → Int32 → Int32 → Int32 → Option (Int32 × zM))  : Nat → zM → Int32 → Int32 → Int32 → Option (Int32 × zM)
  | 0 => fun _ _ _ _ => none
  | n + 1 => fun M a1 a2 a3 =>
    if 60 ≤ a3 then
      k M a1 a2 a3
    else
      if (M 24 0 1) ≤ a2 then
        k M a1 a2 a3
      else
        zC (fX1_afterKite M a2) fun r22 M21 =>
        zC (fX1_afterStep M21 r22) fun r24 M23 =>
        zC (fX1_digitAt M23 a2) fun r26 M25 =>
        zC (fX1_stepAt M25 r22) fun r28 M27 =>
        zC (fX1_stepAt M27 r24) fun r30 M29 =>
        zC (fX6_errorOfOrder M29 r26 r28 r30) fun r32 M31 =>
        if r32 = 0 then
          zC (fX2_turn M31 0 r26 r28 r30) fun r34 M33 =>
          zL (a1 + 1) fun v35 =>
          zC (fX1_afterStep M33 r24) fun r37 M36 =>
          zC (fX1_afterSemicolon M36 r37) fun r39 M38 =>
          zL (a3 + 1) fun v40 =>
          fX6_giveOrdersOfPad_L6 k n M38 v35 r39 v40
        else
          some (a1, M31)
def fX6_giveOrdersOfPad (M : zM) : Option (Int32 × zM) :=
  fX6_giveOrdersOfPad_L6 (fun M41 v42 v43 v44 => 
    some (v42, M41))  2000 M 0 0 0
def fX6_carryOut (M : zM) : Option (Int32 × zM) :=
  zC (fX1_firstFault M) fun r22 M21 =>
  if r22 = (-6) then
    zC (fX0_record M21 0) fun _ M23 =>
    zC (fX6_giveOrdersOfPad M23) fun r25 M24 =>
    zC (fX1_clear M24) fun _ M26 =>
    some (r25, M26)
  else
    some ((-3), M21)
def fX6_aboutKite (M : zM) (v1 : Int32) (v2 : Int32) : Option (Int32 × zM) :=
  if v2 = 0 then
    zI v1 6 <|
    some (M 2 0 (zN v1), M)
  else
  if v2 = 1 then
    zI v1 6 <|
    some (M 3 0 (zN v1), M)
  else
  if v2 = 2 then
    zI v1 6 <|
    some (M 4 0 (zN v1), M)
  else
  if v2 = 3 then
    zI v1 6 <|
    some ((M 5 0 (zN v1)) + 10, M)
  else
  if v2 = 4 then
    zI v1 6 <|
    some ((M 6 0 (zN v1)) + 10, M)
  else
  if v2 = 5 then
    zI v1 6 <|
    some (M 7 0 (zN v1), M)
  else
  if v2 = 6 then
    zI v1 6 <|
    some (M 8 0 (zN v1), M)
  else
  if v2 = 7 then
    zI v1 6 <|
    some (M 9 0 (zN v1), M)
  else
  zI v1 6 <|
  some (M 10 0 (zN v1), M)
def fX6_aboutString (M : zM) (v1 : Int32) (v2 : Int32) : Option (Int32 × zM) :=
  zC (fX2_isFlying M 0 v1) fun r22 M21 =>
  if r22 = 0 then
    some (0, M21)
  else
    zC (fX2_mostWornPlace M21 0 v1) fun r24 M23 =>
    if v2 = 9 then
      zC (fX2_wearAt M23 0 v1 r24) fun r26 M25 =>
      some (r26, M25)
    else
    if v2 = 10 then
      some (r24, M23)
    else
    zC (fX5_measure M23 0 0) fun _ M27 =>
    zC (fX5_crossersOf M27 0 v1) fun r29 M28 =>
    some (r29, M28)
def fX6_kite (M : zM) (v1 : Int32) (v2 : Int32) : Option (Int32 × zM) :=
  zC (fX2_has M 0 v1) fun r22 M21 =>
  if r22 = 0 then
    some ((-1), M21)
  else
    zC (fX6_isWithin M21 v2 0 11) fun r24 M23 =>
    if r24 = 0 then
      some ((-2), M23)
    else
      if 9 ≤ v2 then
        zC (fX6_aboutString M23 v1 v2) fun r26 M25 =>
        some (r26, M25)
      else
        zC (fX6_aboutKite M23 v1 v2) fun r28 M27 =>
        some (r28, M27)
def fX6_wear (M : zM) (v1 : Int32) (v2 : Int32) : Option (Int32 × zM) :=
  zC (fX2_has M 0 v1) fun r22 M21 =>
  if r22 = 0 then
    some ((-1), M21)
  else
    zC (fX6_isWithin M21 v2 0 31) fun r24 M23 =>
    if r24 = 0 then
      some ((-1), M23)
    else
      zC (fX2_isFlying M23 0 v1) fun r26 M25 =>
      if r26 = 0 then
        some ((-5), M25)
      else
        zC (fX2_wearAt M25 0 v1 v2) fun r28 M27 =>
        some (r28, M27)
def fX6_aboutCrossing (M : zM) (v1 : Int32) (v2 : Int32) (v3 : Int32) : Option (Int32 × zM) :=
  zC (fX5_cross M 0 v1 v2) fun r22 M21 =>
  if v3 = 0 then
    if r22 = 0 then
      some (0, M21)
    else
      some (1, M21)
  else
  if v3 = 1 then
    zC (fX5_placeOn M21 0 v1 v2) fun r24 M23 =>
    some (r24, M23)
  else
  if v3 = 2 then
    zC (fX5_placeOn M21 0 v2 v1) fun r26 M25 =>
    some (r26, M25)
  else
  if v3 = 3 then
    if r22 = 0 then
      some ((-6), M21)
    else
      zC (fX5_isSteep M21 0 v1 v2) fun r28 M27 =>
      if r28 = 0 then
        some (0, M27)
      else
        some (1, M27)
  else
  if v3 = 4 then
    zC (fX2_sliding M21 0 v1 v2) fun r30 M29 =>
    some (r30, M29)
  else
  if r22 = 0 then
    some (0, M21)
  else
    zC (fX5_isSteep M21 0 v1 v2) fun r32 M31 =>
    zC (fX2_rubbing M31 0 v1 v2 r32) fun r34 M33 =>
    some (r34, M33)
def fX6_crossing (M : zM) (v1 : Int32) (v2 : Int32) (v3 : Int32) : Option (Int32 × zM) :=
  zC (fX2_has M 0 v1) fun r22 M21 =>
  if r22 = 0 then
    some ((-1), M21)
  else
    zC (fX2_has M21 0 v2) fun r24 M23 =>
    if r24 = 0 then
      some ((-1), M23)
    else
      if v1 = v2 then
        some ((-2), M23)
      else
        zC (fX6_isWithin M23 v3 0 5) fun r26 M25 =>
        if r26 = 0 then
          some ((-2), M25)
        else
          zC (fX2_isFlying M25 0 v1) fun r28 M27 =>
          if r28 = 0 then
            some ((-5), M27)
          else
            zC (fX2_isFlying M27 0 v2) fun r30 M29 =>
            if r30 = 0 then
              some ((-5), M29)
            else
              zC (fX5_measure M29 0 0) fun _ M31 =>
              zC (fX6_aboutCrossing M31 v1 v2 v3) fun r33 M32 =>
              some (r33, M32)
def fX6_count (M : zM) (v1 : Int32) : Option (Int32 × zM) :=
  if v1 = 0 then
    some (M 1 0 0, M)
  else
  if v1 = 1 then
    zC (fX2_flyingKites M 0) fun r22 M21 =>
    some (r22, M21)
  else
  if v1 = 2 then
    zC (fX5_measure M 0 0) fun _ M23 =>
    zC (fX5_crossings M23 0) fun r25 M24 =>
    some (r25, M24)
  else
  if v1 = 3 then
    some (M 1 0 1, M)
  else
  if v1 = 4 then
    some (M 1 0 2, M)
  else
  if v1 = 5 then
    zC (fX2_leader M 0) fun r27 M26 =>
    some (r27, M26)
  else
  if v1 = 6 then
    zC (fX2_allPoints M 0) fun r29 M28 =>
    some (r29, M28)
  else
  if v1 = 7 then
    some (M 1 0 3, M)
  else
  if v1 = 8 then
    some (M 24 0 1, M)
  else
  if v1 = 9 then
    some (M 21 0 2, M)
  else
  some ((-2), M)
def fX6_ifPassed_L39 (k : zM → Int32 → Int32 → Option (Int32 × zM))  (a1 : Int32) (a2 : Int32) : Nat → zM → Int32 → Int32 → Option (Int32 × zM)
  | 0 => fun _ _ _ => none
  | n + 1 => fun M a3 a4 =>
    if a1 ≤ a4 then
      k M a3 a4
    else
      zC (fX4_happenIn M 1) fun _ M26 =>
      zL (a3 ||| (M26 20 0 1)) fun v27 =>
      zL (a4 + 1) fun v28 =>
      fX6_ifPassed_L39 k a1 a2 n M26 v27 v28
def fX6_ifPassed (M : zM) (v1 : Int32) (v2 : Int32) : Option (Int32 × zM) :=
  zC (fX6_isWithin M v1 1 200) fun r22 M21 =>
  if r22 = 0 then
    some ((-2), M21)
  else
    zC (fX6_isWithin M21 v2 0 2) fun r24 M23 =>
    if r24 = 0 then
      some ((-2), M23)
    else
      zC (fX2_copyFrom M23 1 0) fun _ M25 =>
      fX6_ifPassed_L39 (fun M29 v30 v31 => 
        if v2 = 0 then
          some (v30, M29)
        else
        if v2 = 1 then
          zC (fX2_allPoints M29 1) fun r33 M32 =>
          zC (fX2_allPoints M32 0) fun r35 M34 =>
          some (r33 - r35, M34)
        else
        zC (fX5_measure M29 0 1) fun _ M36 =>
        zC (fX5_crossings M36 0) fun r38 M37 =>
        some (r38, M37)) v1 v2 2000 M25 0 0
def fX6_lowestOf_L2 (k : zM → Int32 → Option (Int32 × zM))  (a0 : Int32) : Nat → zM → Int32 → Option (Int32 × zM)
  | 0 => fun _ _ => none
  | n + 1 => fun M a1 =>
    if 6 ≤ a1 then
      k M a1
    else
      if ((a0 >>> (a1 &&& 31)) &&& 1) = 1 then
        some (a1, M)
      else
        zL (a1 + 1) fun v21 =>
        fX6_lowestOf_L2 k a0 n M v21
def fX6_lowestOf (M : zM) (v0 : Int32) : Option (Int32 × zM) :=
  fX6_lowestOf_L2 (fun M22 v23 => 
    some ((-6), M22)) v0 2000 M 0
def fX6_aboutCut (M : zM) (v1 : Int32) (v2 : Int32) : Option (Int32 × zM) :=
  if v2 = 0 then
    some (v1, M)
  else
  if v2 = 1 then
    zC (fX6_lowestOf M (M 20 0 1)) fun r22 M21 =>
    some (r22, M21)
  else
  some (M 20 0 2, M)
def fX6_firstCut_L25 (k : zM → Int32 → Option (Int32 × zM))  (a1 : Int32) : Nat → zM → Int32 → Option (Int32 × zM)
  | 0 => fun _ _ => none
  | n + 1 => fun M a2 =>
    if 300 < a2 then
      k M a2
    else
      zC (fX4_happenIn M 1) fun _ M24 =>
      if (M24 20 0 1) = 0 then
        zL (a2 + 1) fun v25 =>
        fX6_firstCut_L25 k a1 n M24 v25
      else
        zC (fX6_aboutCut M24 a2 a1) fun r27 M26 =>
        some (r27, M26)
def fX6_firstCut (M : zM) (v1 : Int32) : Option (Int32 × zM) :=
  zC (fX6_isWithin M v1 0 2) fun r22 M21 =>
  if r22 = 0 then
    some ((-2), M21)
  else
    zC (fX2_copyFrom M21 1 0) fun _ M23 =>
    fX6_firstCut_L25 (fun M28 v29 => 
      some ((-6), M28)) v1 2000 M23 1
def fX6_meets_L95 (k : zM → Int32 → Option (Int32 × zM))  (a1 : Int32) (a2 : Int32) : Nat → zM → Int32 → Option (Int32 × zM)
  | 0 => fun _ _ => none
  | n + 1 => fun M a3 =>
    if 300 < a3 then
      k M a3
    else
      zC (fX4_happenIn M 1) fun _ M33 =>
      zC (fX5_cross M33 1 a1 a2) fun r35 M34 =>
      if r35 = 0 then
        zL (a3 + 1) fun v36 =>
        fX6_meets_L95 k a1 a2 n M34 v36
      else
        some (a3, M34)
def fX6_meets (M : zM) (v1 : Int32) (v2 : Int32) : Option (Int32 × zM) :=
  zC (fX2_has M 0 v1) fun r22 M21 =>
  if r22 = 0 then
    some ((-1), M21)
  else
    zC (fX2_has M21 0 v2) fun r24 M23 =>
    if r24 = 0 then
      some ((-1), M23)
    else
      if v1 = v2 then
        some ((-2), M23)
      else
        zC (fX2_isFlying M23 0 v1) fun r26 M25 =>
        if r26 = 0 then
          some ((-5), M25)
        else
          zC (fX2_isFlying M25 0 v2) fun r28 M27 =>
          if r28 = 0 then
            some ((-5), M27)
          else
            zC (fX5_measure M27 0 0) fun _ M29 =>
            zC (fX5_cross M29 0 v1 v2) fun r31 M30 =>
            if r31 = 0 then
              zC (fX2_copyFrom M30 1 0) fun _ M32 =>
              fX6_meets_L95 (fun M37 v38 => 
                some ((-6), M37)) v1 v2 2000 M32 1
            else
              some (0, M30)
def fX6_gainWith_L25 (k : zM → Int32 → Option (Int32 × zM))  (a1 : Int32) (a2 : Int32) (a3 : Int32) (a4 : Int32) : Nat → zM → Int32 → Option (Int32 × zM)
  | 0 => fun _ _ => none
  | n + 1 => fun M a5 =>
    if a4 ≤ a5 then
      k M a5
    else
      zC (fX2_isFlying M 1 a1) fun r25 M24 =>
      if r25 = 0 then
        k M24 a5
      else
        zC (fX4_happenIn M24 1) fun _ M26 =>
        zL (a5 + 1) fun v27 =>
        fX6_gainWith_L25 k a1 a2 a3 a4 n M26 v27
def fX6_gainWith (M : zM) (v1 : Int32) (v2 : Int32) (v3 : Int32) (v4 : Int32) : Option (Int32 × zM) :=
  zC (fX2_copyFrom M 1 0) fun _ M21 =>
  zC (fX2_turn M21 1 v1 v2 v3) fun r23 M22 =>
  fX6_gainWith_L25 (fun M28 v29 => 
    zI v1 6 <|
    zI v1 6 <|
    zL ((M28 9 1 (zN v1)) - (M28 9 0 (zN v1))) fun v30 =>
    zC (fX2_isFlying M28 1 v1) fun r32 M31 =>
    if r32 = 0 then
      some (v30 - 2, M31)
    else
      some (v30, M31)) v1 v2 v3 v4 2000 M22 0
def fX6_bestOrder_L75 (k : zM → Int32 → Int32 → Int32 → Int32 → Option (Int32 × zM))  (a1 : Int32) (a2 : Int32) (a3 : Int32) (a7 : Int32) : Nat → zM → Int32 → Int32 → Int32 → Int32 → Option (Int32 × zM)
  | 0 => fun _ _ _ _ _ => none
  | n + 1 => fun M a4 a5 a6 a8 =>
    if 3 < a8 then
      k M a4 a5 a6 a8
    else
      zC (fX6_gainWith M a1 a7 a8 a2) fun r30 M29 =>
      if r30 ≤ a6 then
        zL (a8 + 1) fun v31 =>
        fX6_bestOrder_L75 k a1 a2 a3 a7 n M29 a4 a5 a6 v31
      else
        zL (a8 + 1) fun v32 =>
        fX6_bestOrder_L75 k a1 a2 a3 a7 n M29 a7 a8 r30 v32
def fX6_bestOrder_L65 (k : zM → Int32 → Int32 → Int32 → Int32 → Option (Int32 × zM))  (a1 : Int32) (a2 : Int32) (a3 : Int32) : Nat → zM → Int32 → Int32 → Int32 → Int32 → Option (Int32 × zM)
  | 0 => fun _ _ _ _ _ => none
  | n + 1 => fun M a4 a5 a6 a7 =>
    if 3 < a7 then
      k M a4 a5 a6 a7
    else
      fX6_bestOrder_L75 (fun M33 v34 v35 v36 v37 => 
        zL (a7 + 1) fun v38 =>
        fX6_bestOrder_L65 k a1 a2 a3 n M33 v34 v35 v36 v38) a1 a2 a3 a7 2000 M a4 a5 a6 (-3)
def fX6_bestOrder (M : zM) (v1 : Int32) (v2 : Int32) (v3 : Int32) : Option (Int32 × zM) :=
  zC (fX2_has M 0 v1) fun r22 M21 =>
  if r22 = 0 then
    some ((-1), M21)
  else
    zC (fX6_isWithin M21 v2 1 50) fun r24 M23 =>
    if r24 = 0 then
      some ((-2), M23)
    else
      zC (fX6_isWithin M23 v3 0 2) fun r26 M25 =>
      if r26 = 0 then
        some ((-2), M25)
      else
        zC (fX2_isFlying M25 0 v1) fun r28 M27 =>
        if r28 = 0 then
          some ((-5), M27)
        else
          fX6_bestOrder_L65 (fun M39 v40 v41 v42 v43 => 
            if v3 = 0 then
              some (v40 + 10, M39)
            else
            if v3 = 1 then
              some (v41 + 10, M39)
            else
            some (v42 + 10, M39)) v1 v2 v3 2000 M27 (-3) (-3) (-3) (-3)
def fX6_signAt (M : zM) (v0 : Int64) (v2 : Int32) : Option (Int32 × zM) :=
  some ((((v0.toUInt64 >>> ((8 * v2).toInt64.toUInt64 &&& Int64.toUInt64 63)).toInt64) &&& 255).toInt32, M)
def fX6_signsIn_L2 (k : zM → Int32 → Option (Int32 × zM))  (a0 : Int64) : Nat → zM → Int32 → Option (Int32 × zM)
  | 0 => fun _ _ => none
  | n + 1 => fun M a2 =>
    if 8 ≤ a2 then
      k M a2
    else
      zC (fX6_signAt M a0 a2) fun r22 M21 =>
      if r22 = 0 then
        if (lg_cmp ((a0.toUInt64 >>> ((8 * a2).toInt64.toUInt64 &&& Int64.toUInt64 63)).toInt64) 0) = 0 then
          some (a2, M21)
        else
          some (0, M21)
      else
        zC (fX6_isWithin M21 r22 33 126) fun r24 M23 =>
        if r24 = 0 then
          some (0, M23)
        else
          zL (a2 + 1) fun v25 =>
          fX6_signsIn_L2 k a0 n M23 v25
def fX6_signsIn (M : zM) (v0 : Int64) : Option (Int32 × zM) :=
  fX6_signsIn_L2 (fun M26 v27 => 
    some (8, M26)) v0 2000 M 0
def fX6_put_L34 (k : zM → Int32 → Option (Int32 × zM))  (a1 : Int64) (a3 : Int32) : Nat → zM → Int32 → Option (Int32 × zM)
  | 0 => fun _ _ => none
  | n + 1 => fun M a4 =>
    if a4 < 0 then
      k M a4
    else
      zC (fX6_signAt M a1 a4) fun r25 M24 =>
      zC (fX1_append M24 r25) fun _ M26 =>
      zL (a4 + (-1)) fun v27 =>
      fX6_put_L34 k a1 a3 n M26 v27
def fX6_put (M : zM) (v1 : Int64) : Option (Int32 × zM) :=
  zC (fX6_signsIn M v1) fun r22 M21 =>
  if r22 = 0 then
    some ((-2), M21)
  else
    if ((M21 24 0 1) + r22) ≤ 60 then
      zL (r22 - 1) fun v23 =>
      fX6_put_L34 (fun M28 v29 => 
        some (M28 24 0 1, M28)) v1 r22 2000 M21 v23
    else
      some ((-4), M21)
def fX6_wipe (M : zM) : Option (Int32 × zM) :=
  zL (M 24 0 1) fun v21 =>
  zC (fX1_clear M) fun _ M22 =>
  some (v21, M22)
def fX6_fault (M : zM) : Option (Int32 × zM) :=
  zC (fX1_firstFault M) fun r22 M21 =>
  some (r22, M21)
def fX6_undo (M : zM) : Option (Int32 × zM) :=
  if (M 21 0 2) = 0 then
    some ((-5), M)
  else
    zC (fX0_takeBack M 0) fun _ M21 =>
    some (M21 21 0 2, M21)
def fX6_slotOf (M : zM) (v1 : Int32) : Option (Nat × zM) :=
  if v1 = 0 then
    some (0, M)
  else
    some (1, M)
def fX6_save (M : zM) (v1 : Int32) : Option (Int32 × zM) :=
  zC (fX6_isWithin M v1 0 1) fun r22 M21 =>
  if r22 = 0 then
    some ((-2), M21)
  else
    zC (fX6_slotOf M21 v1) fun q24 M23 =>
    zC (fX2_copyFrom M23 (8 + q24) 0) fun _ M26 =>
    zL (zw M26 23 q24 1 1) fun M27 =>
    some (M27 1 0 0, M27)
def fX6_restore (M : zM) (v1 : Int32) : Option (Int32 × zM) :=
  zC (fX6_isWithin M v1 0 1) fun r22 M21 =>
  if r22 = 0 then
    some ((-2), M21)
  else
    zC (fX6_slotOf M21 v1) fun q24 M23 =>
    if (M23 23 q24 1) = 0 then
      some ((-5), M23)
    else
      zC (fX0_record M23 0) fun _ M26 =>
      zC (fX2_copyFrom M26 0 (8 + q24)) fun _ M27 =>
      some (M27 1 0 0, M27)
def fX7_moves_L3 (k : zM → Int32 → Option (Unit × zM)) (kf0 : Nat) (nf0 : Nat) (kf2 : Nat) (nf2 : Nat) (a1 : Int32) (a3 : Int32) : Nat → zM → Int32 → Option (Unit × zM)
  | 0 => fun _ _ => none
  | n + 1 => fun M a4 =>
    if 268 ≤ a4 then
      k M a4
    else
      zI (a1 + a4) nf0 <|
      zI (a3 + a4) nf2 <| zL (zw M kf2 0 (zN (a3 + a4)) (M kf0 0 (zN (a1 + a4)))) fun M21 =>
      zL (a4 + 1) fun v22 =>
      fX7_moves_L3 k kf0 nf0 kf2 nf2 a1 a3 n M21 v22
def fX7_moves (M : zM) (kf0 : Nat) (nf0 : Nat) (v1 : Int32) (kf2 : Nat) (nf2 : Nat) (v3 : Int32) : Option (Unit × zM) :=
  fX7_moves_L3 (fun M23 v24 => 
    some ((), M23)) kf0 nf0 kf2 nf2 v1 v3 2000 M 0
def fX7_within (M : zM) (v0 : Int32) (v1 : Int32) (v2 : Int32) : Option (Int32 × zM) :=
  if v0 < v1 then
    some (0, M)
  else
    if v2 < v0 then
      some (0, M)
    else
      some (1, M)
def fX7_size (M : zM) (v0 : Int32) : Option (Int32 × zM) :=
  if 0 ≤ v0 then
    some (v0, M)
  else
    some (-v0, M)
def fX7_record_L11 (k : zM → Int32 → Option (Unit × zM))  : Nat → zM → Int32 → Option (Unit × zM)
  | 0 => fun _ _ => none
  | n + 1 => fun M a1 =>
    if 1340 ≤ a1 then
      k M a1
    else
      zI (a1 + 268) 1608 <|
      zI a1 1608 <| zL (zw M 29 0 (zN a1) (M 29 0 (zN (a1 + 268)))) fun M23 =>
      zL (a1 + 1) fun v24 =>
      fX7_record_L11 k n M23 v24
def fX7_record (M : zM) : Option (Unit × zM) :=
  if (M 26 0 3) = 6 then
    fX7_record_L11 (fun M25 v26 => 
      zL (zw M25 26 0 3 ((M25 26 0 3) - 1)) fun M27 =>
      zC (fX7_moves M27 27 268 0 29 1608 ((M27 26 0 3) * 268)) fun _ M28 =>
      zL (zw M28 26 0 3 ((M28 26 0 3) + 1)) fun M29 =>
      some ((), M29))  2000 M 0
  else
    zC (fX7_moves M 27 268 0 29 1608 ((M 26 0 3) * 268)) fun _ M21 =>
    zL (zw M21 26 0 3 ((M21 26 0 3) + 1)) fun M22 =>
    some ((), M22)
def fX7_isKite (M : zM) (v1 : Int32) : Option (Int32 × zM) :=
  zI 0 268 <|
  zC (fX7_within M v1 0 ((M 27 0 (zN 0)) - 1)) fun r22 M21 =>
  zB r22 (some (r22, M21))
def fX7_part (M : zM) (v1 : Int32) (v2 : Int32) : Option (Int32 × zM) :=
  zI ((4 + (44 * v1)) + v2) 268 <|
  some (M 27 0 (zN ((4 + (44 * v1)) + v2)), M)
def fX7_setPart (M : zM) (v1 : Int32) (v2 : Int32) (v3 : Int32) : Option (Unit × zM) :=
  zI ((4 + (44 * v1)) + v2) 268 <| zL (zw M 27 0 (zN ((4 + (44 * v1)) + v2)) v3) fun M21 =>
  some ((), M21)
def fX7_flies (M : zM) (v1 : Int32) : Option (Int32 × zM) :=
  zC (fX7_part M v1 8) fun r22 M21 =>
  if r22 = 0 then
    some (1, M21)
  else
    some (0, M21)
def fX7_greatestWear_L4 (k : zM → Int32 → Int32 → Option (Int32 × zM))  (a1 : Int32) : Nat → zM → Int32 → Int32 → Option (Int32 × zM)
  | 0 => fun _ _ _ => none
  | n + 1 => fun M a2 a3 =>
    if 32 ≤ a3 then
      k M a2 a3
    else
      zC (fX7_part M a1 (12 + a3)) fun r22 M21 =>
      if r22 ≤ a2 then
        zL (a3 + 1) fun v23 =>
        fX7_greatestWear_L4 k a1 n M21 a2 v23
      else
        zC (fX7_part M21 a1 (12 + a3)) fun r25 M24 =>
        zL (a3 + 1) fun v26 =>
        fX7_greatestWear_L4 k a1 n M24 r25 v26
def fX7_greatestWear (M : zM) (v1 : Int32) : Option (Int32 × zM) :=
  fX7_greatestWear_L4 (fun M27 v28 v29 => 
    some (v28, M27)) v1 2000 M 0 0
def fX7_placeOfGreatest_L12 (k : zM → Int32 → Int32 → Option (Int32 × zM))  (a1 : Int32) (a2 : Int32) : Nat → zM → Int32 → Int32 → Option (Int32 × zM)
  | 0 => fun _ _ _ => none
  | n + 1 => fun M a3 a4 =>
    if a4 < 0 then
      k M a3 a4
    else
      zC (fX7_part M a1 (12 + a4)) fun r24 M23 =>
      if r24 = a2 then
        zL (a4 + (-1)) fun v26 =>
        fX7_placeOfGreatest_L12 k a1 a2 n M23 a4 v26
      else
        zL (a4 + (-1)) fun v25 =>
        fX7_placeOfGreatest_L12 k a1 a2 n M23 a3 v25
def fX7_placeOfGreatest (M : zM) (v1 : Int32) : Option (Int32 × zM) :=
  zC (fX7_greatestWear M v1) fun r22 M21 =>
  fX7_placeOfGreatest_L12 (fun M27 v28 v29 => 
    some (v28, M27)) v1 r22 2000 M21 0 31
def fX7_sideOf (M : zM) (v1 : Int32) (v2 : Int32) (v3 : Int32) : Option (Int32 × zM) :=
  zC (fX7_part M v1 1) fun r22 M21 =>
  zC (fX7_part M21 v1 0) fun r24 M23 =>
  zC (fX7_part M23 v1 2) fun r26 M25 =>
  zC (fX7_part M25 v1 0) fun r28 M27 =>
  some (((r22 - r24) * v3) - (r26 * (v2 - r28)), M27)
def fX7_areApart (M : zM) (v0 : Int32) (v1 : Int32) : Option (Int32 × zM) :=
  if 0 ≤ v0 then
    if v0 ≤ 0 then
      some (0, M)
    else
      if 0 ≤ v1 then
        some (0, M)
      else
        some (1, M)
  else
    if 0 < v1 then
      some (1, M)
    else
      if v0 ≤ 0 then
        some (0, M)
      else
        if 0 ≤ v1 then
          some (0, M)
        else
          some (1, M)
def fX7_cross (M : zM) (v1 : Int32) (v2 : Int32) : Option (Int32 × zM) :=
  zC (fX7_part M v2 0) fun r22 M21 =>
  zC (fX7_sideOf M21 v1 r22 0) fun r24 M23 =>
  zC (fX7_part M23 v1 0) fun r26 M25 =>
  zC (fX7_sideOf M25 v2 r26 0) fun r28 M27 =>
  zC (fX7_part M27 v2 1) fun r30 M29 =>
  zC (fX7_part M29 v2 2) fun r32 M31 =>
  zC (fX7_sideOf M31 v1 r30 r32) fun r34 M33 =>
  zC (fX7_part M33 v1 1) fun r36 M35 =>
  zC (fX7_part M35 v1 2) fun r38 M37 =>
  zC (fX7_sideOf M37 v2 r36 r38) fun r40 M39 =>
  zC (fX7_flies M39 v1) fun r42 M41 =>
  if r42 = 0 then
    some (0, M41)
  else
    zC (fX7_flies M41 v2) fun r44 M43 =>
    if r44 = 0 then
      some (0, M43)
    else
      zC (fX7_areApart M43 r24 r34) fun r46 M45 =>
      if r46 = 0 then
        some (0, M45)
      else
        zC (fX7_areApart M45 r28 r40) fun r48 M47 =>
        if r48 = 0 then
          some (0, M47)
        else
          zC (fX7_part M47 v1 1) fun r50 M49 =>
          zC (fX7_part M49 v1 0) fun r52 M51 =>
          zL (r50 - r52) fun v53 =>
          zC (fX7_part M51 v2 1) fun r55 M54 =>
          zC (fX7_part M54 v2 0) fun r57 M56 =>
          zL (r55 - r57) fun v58 =>
          zC (fX7_part M56 v1 2) fun r60 M59 =>
          zC (fX7_part M59 v2 2) fun r62 M61 =>
          zC (fX7_size M61 r28) fun r64 M63 =>
          zC (fX7_size M63 r28) fun r66 M65 =>
          zC (fX7_size M65 r40) fun r68 M67 =>
          zV (r66 + r68) <|
          zL (zw M67 26 0 9 ((32 * r64) / (r66 + r68))) fun M69 =>
          zC (fX7_size M69 r24) fun r71 M70 =>
          zC (fX7_size M70 r24) fun r73 M72 =>
          zC (fX7_size M72 r34) fun r75 M74 =>
          zV (r73 + r75) <|
          zL (zw M74 26 0 10 ((32 * r71) / (r73 + r75))) fun M76 =>
          zC (fX7_size M76 ((v53 * r62) - (r60 * v58))) fun r78 M77 =>
          zC (fX7_size M77 ((v53 * v58) + (r60 * r62))) fun r80 M79 =>
          if r78 < r80 then
            zL (zw M79 26 0 11 0) fun M81 =>
            some (1, M81)
          else
            zL (zw M79 26 0 11 1) fun M82 =>
            some (1, M82)
def fX7_sliding (M : zM) (v1 : Int32) (v2 : Int32) : Option (Int32 × zM) :=
  zC (fX7_part M v1 3) fun r22 M21 =>
  zC (fX7_part M21 v2 3) fun r24 M23 =>
  zC (fX7_size M23 (r22 - r24)) fun r26 M25 =>
  zC (fX7_part M25 v1 4) fun r28 M27 =>
  zC (fX7_part M27 v2 4) fun r30 M29 =>
  zC (fX7_size M29 (r28 - r30)) fun r32 M31 =>
  some ((1 + r26) + r32, M31)
def fX7_more (M : zM) (v1 : Int32) (v2 : Int32) : Option (Int32 × zM) :=
  zC (fX7_part M v2 5) fun r22 M21 =>
  zC (fX7_sliding M21 v1 v2) fun r24 M23 =>
  if (M23 26 0 11) = 0 then
    some ((r22 * r24) * 1, M23)
  else
    some ((r22 * r24) * 2, M23)
def fX7_crossingsMany_L16 (k : zM → Int32 → Int32 → Option (Int32 × zM))  (a2 : Int32) : Nat → zM → Int32 → Int32 → Option (Int32 × zM)
  | 0 => fun _ _ _ => none
  | n + 1 => fun M a1 a3 =>
    if a2 ≤ a3 then
      k M a1 a3
    else
      zC (fX7_cross M a2 a3) fun r22 M21 =>
      if r22 = 0 then
        zL (a1 + 0) fun v23 =>
        zL (a3 + 1) fun v24 =>
        fX7_crossingsMany_L16 k a2 n M21 v23 v24
      else
        zL (a1 + 1) fun v25 =>
        zL (a3 + 1) fun v26 =>
        fX7_crossingsMany_L16 k a2 n M21 v25 v26
def fX7_crossingsMany_L4 (k : zM → Int32 → Int32 → Option (Int32 × zM))  : Nat → zM → Int32 → Int32 → Option (Int32 × zM)
  | 0 => fun _ _ _ => none
  | n + 1 => fun M a1 a2 =>
    zI 0 268 <|
    if (M 27 0 (zN 0)) ≤ a2 then
      k M a1 a2
    else
      fX7_crossingsMany_L16 (fun M27 v28 v29 => 
        zL (a2 + 1) fun v30 =>
        fX7_crossingsMany_L4 k n M27 v28 v30) a2 2000 M a1 0
def fX7_crossingsMany (M : zM) : Option (Int32 × zM) :=
  fX7_crossingsMany_L4 (fun M31 v32 v33 => 
    some (v32, M31))  2000 M 0 0
def fX7_crossingOnes_L4 (k : zM → Int32 → Int32 → Option (Int32 × zM))  (a1 : Int32) : Nat → zM → Int32 → Int32 → Option (Int32 × zM)
  | 0 => fun _ _ _ => none
  | n + 1 => fun M a2 a3 =>
    zI 0 268 <|
    if (M 27 0 (zN 0)) ≤ a3 then
      k M a2 a3
    else
      if a3 = a1 then
        zL (a2 ||| 0) fun v21 =>
        zL (a3 + 1) fun v22 =>
        fX7_crossingOnes_L4 k a1 n M v21 v22
      else
        zC (fX7_cross M a1 a3) fun r24 M23 =>
        if r24 = 0 then
          zL (a2 ||| 0) fun v25 =>
          zL (a3 + 1) fun v26 =>
          fX7_crossingOnes_L4 k a1 n M23 v25 v26
        else
          zL (a2 ||| (1 <<< (a3 &&& 31))) fun v27 =>
          zL (a3 + 1) fun v28 =>
          fX7_crossingOnes_L4 k a1 n M23 v27 v28
def fX7_crossingOnes (M : zM) (v1 : Int32) : Option (Int32 × zM) :=
  fX7_crossingOnes_L4 (fun M29 v30 v31 => 
    some (v30, M29)) v1 2000 M 0 0
def fX7_flyOn (M : zM) (v1 : Int32) : Option (Unit × zM) :=
  zC (fX7_part M v1 1) fun r22 M21 =>
  zC (fX7_part M21 v1 3) fun r24 M23 =>
  zL (r22 + r24) fun v25 =>
  zC (fX7_part M23 v1 2) fun r27 M26 =>
  zC (fX7_part M26 v1 4) fun r29 M28 =>
  zL (r27 + r29) fun v30 =>
  zC (fX7_within M28 v25 0 63) fun r32 M31 =>
  if r32 = 0 then
    zC (fX7_part M31 v1 3) fun r34 M33 =>
    zC (fX7_setPart M33 v1 3 (-r34)) fun _ M35 =>
    zC (fX7_within M35 v30 1 47) fun r37 M36 =>
    if r37 = 0 then
      zC (fX7_part M36 v1 4) fun r39 M38 =>
      zC (fX7_setPart M38 v1 4 (-r39)) fun _ M40 =>
      some ((), M40)
    else
      zC (fX7_setPart M36 v1 2 v30) fun _ M41 =>
      some ((), M41)
  else
    zC (fX7_setPart M31 v1 1 v25) fun _ M42 =>
    zC (fX7_within M42 v30 1 47) fun r44 M43 =>
    if r44 = 0 then
      zC (fX7_part M43 v1 4) fun r46 M45 =>
      zC (fX7_setPart M45 v1 4 (-r46)) fun _ M47 =>
      some ((), M47)
    else
      zC (fX7_setPart M43 v1 2 v30) fun _ M48 =>
      some ((), M48)
def fX7_wearOut_L14 (k : zM → Int32 → Option (Unit × zM))  (a1 : Int32) : Nat → zM → Int32 → Option (Unit × zM)
  | 0 => fun _ _ => none
  | n + 1 => fun M a2 =>
    zI 0 268 <|
    if (M 27 0 (zN 0)) ≤ a2 then
      k M a2
    else
      zI ((6 * a1) + a2) 36 <| zL (zw M 33 0 (zN ((6 * a1) + a2)) (-6)) fun M21 =>
      if a1 = a2 then
        zL (a2 + 1) fun v22 =>
        fX7_wearOut_L14 k a1 n M21 v22
      else
        zC (fX7_cross M21 a1 a2) fun r24 M23 =>
        if r24 = 0 then
          zL (a2 + 1) fun v25 =>
          fX7_wearOut_L14 k a1 n M23 v25
        else
          zI ((6 * a1) + a2) 36 <| zL (zw M23 33 0 (zN ((6 * a1) + a2)) (M23 26 0 9)) fun M26 =>
          zC (fX7_part M26 a1 (12 + (M26 26 0 9))) fun r28 M27 =>
          zC (fX7_more M27 a1 a2) fun r30 M29 =>
          zC (fX7_setPart M29 a1 (12 + (M26 26 0 9)) (r28 + r30)) fun _ M31 =>
          zL (a2 + 1) fun v32 =>
          fX7_wearOut_L14 k a1 n M31 v32
def fX7_wearOut_L2 (k : zM → Int32 → Option (Unit × zM))  : Nat → zM → Int32 → Option (Unit × zM)
  | 0 => fun _ _ => none
  | n + 1 => fun M a1 =>
    zI 0 268 <|
    if (M 27 0 (zN 0)) ≤ a1 then
      k M a1
    else
      fX7_wearOut_L14 (fun M33 v34 => 
        zL (a1 + 1) fun v35 =>
        fX7_wearOut_L2 k n M33 v35) a1 2000 M 0
def fX7_wearOut (M : zM) : Option (Unit × zM) :=
  fX7_wearOut_L2 (fun M36 v37 => 
    some ((), M36))  2000 M 0
def fX7_isWornAt (M : zM) (v1 : Int32) (v2 : Int32) : Option (Int32 × zM) :=
  zC (fX7_part M v1 (12 + v2)) fun r22 M21 =>
  zC (fX7_part M21 v1 6) fun r24 M23 =>
  if r22 < r24 then
    some (0, M23)
  else
    some (1, M23)
def fX7_cutThrough_L12 (k : zM → Int32 → Option (Unit × zM))  : Nat → zM → Int32 → Option (Unit × zM)
  | 0 => fun _ _ => none
  | n + 1 => fun M a1 =>
    zI 0 268 <|
    if (M 27 0 (zN 0)) ≤ a1 then
      k M a1
    else
      zC (fX7_flies M a1) fun r24 M23 =>
      if r24 = 0 then
        zL (zw M23 26 0 12 ((M 26 0 12) ||| 0)) fun M25 =>
        zL (a1 + 1) fun v26 =>
        fX7_cutThrough_L12 k n M25 v26
      else
        zC (fX7_greatestWear M23 a1) fun r28 M27 =>
        zC (fX7_part M27 a1 6) fun r30 M29 =>
        if r28 < r30 then
          zL (zw M29 26 0 12 ((M 26 0 12) ||| 0)) fun M31 =>
          zL (a1 + 1) fun v32 =>
          fX7_cutThrough_L12 k n M31 v32
        else
          zL (zw M29 26 0 12 ((M 26 0 12) ||| (1 <<< (a1 &&& 31)))) fun M33 =>
          zL (a1 + 1) fun v34 =>
          fX7_cutThrough_L12 k n M33 v34
def fX7_cutThrough_L81 (k : zM → Int32 → Option (Unit × zM))  (a1 : Int32) : Nat → zM → Int32 → Option (Unit × zM)
  | 0 => fun _ _ => none
  | n + 1 => fun M a2 =>
    zI 0 268 <|
    if (M 27 0 (zN 0)) ≤ a2 then
      k M a2
    else
      zI ((6 * a2) + a1) 36 <|
      zL (M 33 0 (zN ((6 * a2) + a1))) fun v37 =>
      if v37 = (-6) then
        zL (a2 + 1) fun v38 =>
        fX7_cutThrough_L81 k a1 n M v38
      else
        if (((M 26 0 12) >>> (a2 &&& 31)) &&& 1) = 1 then
          zC (fX7_isWornAt M a2 v37) fun r41 M40 =>
          if r41 = 0 then
            zL (a2 + 1) fun v42 =>
            fX7_cutThrough_L81 k a1 n M40 v42
          else
            zC (fX7_part M40 a1 7) fun r44 M43 =>
            zC (fX7_setPart M43 a1 7 (r44 + 1)) fun _ M45 =>
            zL (zw M45 26 0 13 ((M45 26 0 13) ||| (1 <<< (a1 &&& 31)))) fun M46 =>
            zL (a2 + 1) fun v47 =>
            fX7_cutThrough_L81 k a1 n M46 v47
        else
          zL (a2 + 1) fun v39 =>
          fX7_cutThrough_L81 k a1 n M v39
def fX7_cutThrough_L69 (k : zM → Int32 → Option (Unit × zM))  : Nat → zM → Int32 → Option (Unit × zM)
  | 0 => fun _ _ => none
  | n + 1 => fun M a1 =>
    zI 0 268 <|
    if (M 27 0 (zN 0)) ≤ a1 then
      k M a1
    else
      fX7_cutThrough_L81 (fun M48 v49 => 
        zL (a1 + 1) fun v50 =>
        fX7_cutThrough_L69 k n M48 v50) a1 2000 M 0
def fX7_cutThrough_L172 (k : zM → Int32 → Option (Unit × zM))  : Nat → zM → Int32 → Option (Unit × zM)
  | 0 => fun _ _ => none
  | n + 1 => fun M a1 =>
    zI 0 268 <|
    if (M 27 0 (zN 0)) ≤ a1 then
      k M a1
    else
      if (((M 26 0 12) >>> (a1 &&& 31)) &&& 1) = 1 then
        zC (fX7_setPart M a1 8 1) fun _ M54 =>
        zI 3 268 <|
        zI 3 268 <| zL (zw M54 27 0 (zN 3) ((M54 27 0 (zN 3)) + 1)) fun M55 =>
        zL (a1 + 1) fun v56 =>
        fX7_cutThrough_L172 k n M55 v56
      else
        zL (a1 + 1) fun v53 =>
        fX7_cutThrough_L172 k n M v53
def fX7_cutThrough (M : zM) : Option (Unit × zM) :=
  zL (zw M 26 0 12 0) fun M21 =>
  zL (zw M21 26 0 13 0) fun M22 =>
  fX7_cutThrough_L12 (fun M35 v36 => 
    fX7_cutThrough_L69 (fun M51 v52 => 
      fX7_cutThrough_L172 (fun M57 v58 => 
        some ((), M57))  2000 M51 0)  2000 M35 0)  2000 M22 0
def fX7_tick_L2 (k : zM → Int32 → Option (Unit × zM))  : Nat → zM → Int32 → Option (Unit × zM)
  | 0 => fun _ _ => none
  | n + 1 => fun M a1 =>
    zI 0 268 <|
    if (M 27 0 (zN 0)) ≤ a1 then
      k M a1
    else
      zC (fX7_flies M a1) fun r22 M21 =>
      if r22 = 0 then
        zL (a1 + 1) fun v23 =>
        fX7_tick_L2 k n M21 v23
      else
        zC (fX7_flyOn M21 a1) fun _ M24 =>
        zL (a1 + 1) fun v25 =>
        fX7_tick_L2 k n M24 v25
def fX7_tick (M : zM) : Option (Unit × zM) :=
  fX7_tick_L2 (fun M26 v27 => 
    zC (fX7_wearOut M26) fun _ M28 =>
    zC (fX7_cutThrough M28) fun _ M29 =>
    zI 2 268 <|
    zI 2 268 <| zL (zw M29 27 0 (zN 2) ((M29 27 0 (zN 2)) + 1)) fun M30 =>
    some ((), M30))  2000 M 0
def fX7_passes_L4 (k : zM → Int32 → Int32 → Option (Int32 × zM))  (a1 : Int32) : Nat → zM → Int32 → Int32 → Option (Int32 × zM)
  | 0 => fun _ _ _ => none
  | n + 1 => fun M a2 a3 =>
    if a1 ≤ a3 then
      k M a2 a3
    else
      zC (fX7_tick M) fun _ M21 =>
      zL (a2 ||| (M21 26 0 12)) fun v22 =>
      zL (a3 + 1) fun v23 =>
      fX7_passes_L4 k a1 n M21 v22 v23
def fX7_passes (M : zM) (v1 : Int32) : Option (Int32 × zM) :=
  fX7_passes_L4 (fun M24 v25 v26 => 
    some (v25, M24)) v1 2000 M 0 0
def fX7_launch_L85 (k : zM → Int32 → Option (Int32 × zM))  (a1 : Int32) (a2 : Int32) (a3 : Int32) (a4 : Int32) (a5 : Int32) (a6 : Int32) : Nat → zM → Int32 → Option (Int32 × zM)
  | 0 => fun _ _ => none
  | n + 1 => fun M a7 =>
    if 44 ≤ a7 then
      k M a7
    else
      zC (fX7_setPart M a6 a7 0) fun _ M33 =>
      zL (a7 + 1) fun v34 =>
      fX7_launch_L85 k a1 a2 a3 a4 a5 a6 n M33 v34
def fX7_launch (M : zM) (v1 : Int32) (v2 : Int32) (v3 : Int32) (v4 : Int32) (v5 : Int32) : Option (Int32 × zM) :=
  zC (fX7_within M v1 0 63) fun r22 M21 =>
  if r22 = 0 then
    some ((-2), M21)
  else
    zC (fX7_within M21 v2 0 63) fun r24 M23 =>
    if r24 = 0 then
      some ((-2), M23)
    else
      zC (fX7_within M23 v3 1 47) fun r26 M25 =>
      if r26 = 0 then
        some ((-2), M25)
      else
        zC (fX7_within M25 v4 0 5) fun r28 M27 =>
        if r28 = 0 then
          some ((-2), M27)
        else
          zC (fX7_within M27 v5 10 200) fun r30 M29 =>
          if r30 = 0 then
            some ((-2), M29)
          else
            zI 0 268 <|
            if (M29 27 0 (zN 0)) = 6 then
              some ((-4), M29)
            else
              zC (fX7_record M29) fun _ M31 =>
              zI 0 268 <|
              zL (M31 27 0 (zN 0)) fun v32 =>
              fX7_launch_L85 (fun M35 v36 => 
                zC (fX7_setPart M35 v32 0 v1) fun _ M37 =>
                zC (fX7_setPart M37 v32 1 v2) fun _ M38 =>
                zC (fX7_setPart M38 v32 2 v3) fun _ M39 =>
                zC (fX7_setPart M39 v32 5 v4) fun _ M40 =>
                zC (fX7_setPart M40 v32 6 v5) fun _ M41 =>
                zC (fX7_setPart M41 v32 9 v1) fun _ M42 =>
                zC (fX7_setPart M42 v32 10 v2) fun _ M43 =>
                zC (fX7_setPart M43 v32 11 v3) fun _ M44 =>
                zI 0 268 <|
                zI 0 268 <| zL (zw M44 27 0 (zN 0) ((M44 27 0 (zN 0)) + 1)) fun M45 =>
                some (v32, M45)) v1 v2 v3 v4 v5 v32 2000 M31 0
def fX7_isStep (M : zM) (v0 : Int32) : Option (Int32 × zM) :=
  zC (fX7_within M v0 (-3) 3) fun r22 M21 =>
  zB r22 (some (r22, M21))
def fX7_whyNotOrdered (M : zM) (v1 : Int32) (v2 : Int32) (v3 : Int32) : Option (Int32 × zM) :=
  zC (fX7_isKite M v1) fun r22 M21 =>
  if r22 = 0 then
    some ((-1), M21)
  else
    zC (fX7_isStep M21 v2) fun r24 M23 =>
    if r24 = 0 then
      some ((-2), M23)
    else
      zC (fX7_isStep M23 v3) fun r26 M25 =>
      if r26 = 0 then
        some ((-2), M25)
      else
        zC (fX7_flies M25 v1) fun r28 M27 =>
        if r28 = 0 then
          some ((-5), M27)
        else
          some (0, M27)
def fX7_orders (M : zM) (v1 : Int32) (v2 : Int32) (v3 : Int32) : Option (Int32 × zM) :=
  zC (fX7_part M v1 3) fun r22 M21 =>
  zC (fX7_size M21 (r22 - v2)) fun r24 M23 =>
  zC (fX7_part M23 v1 4) fun r26 M25 =>
  zC (fX7_size M25 (r26 - v3)) fun r28 M27 =>
  zL ((10 * r24) + r28) fun v29 =>
  zC (fX7_setPart M27 v1 3 v2) fun _ M30 =>
  zC (fX7_setPart M30 v1 4 v3) fun _ M31 =>
  some (v29, M31)
def fX7_order (M : zM) (v1 : Int32) (v2 : Int32) (v3 : Int32) : Option (Int32 × zM) :=
  zC (fX7_whyNotOrdered M v1 v2 v3) fun r22 M21 =>
  if 0 ≤ r22 then
    zC (fX7_record M21) fun _ M23 =>
    zC (fX7_orders M23 v1 v2 v3) fun r25 M24 =>
    some (r25, M24)
  else
    some (r22, M21)
def fX7_step (M : zM) (v1 : Int32) (v2 : Int32) : Option (Int32 × zM) :=
  zC (fX7_isKite M v1) fun r22 M21 =>
  if r22 = 0 then
    some ((-1), M21)
  else
    zC (fX7_within M21 v2 0 63) fun r24 M23 =>
    if r24 = 0 then
      some ((-2), M23)
    else
      zC (fX7_flies M23 v1) fun r26 M25 =>
      if r26 = 0 then
        some ((-5), M25)
      else
        zC (fX7_record M25) fun _ M27 =>
        zC (fX7_part M27 v1 0) fun r29 M28 =>
        zC (fX7_setPart M28 v1 0 v2) fun _ M30 =>
        some (r29, M30)
def fX7_land (M : zM) (v1 : Int32) : Option (Int32 × zM) :=
  zC (fX7_isKite M v1) fun r22 M21 =>
  if r22 = 0 then
    some ((-1), M21)
  else
    zC (fX7_flies M21 v1) fun r24 M23 =>
    if r24 = 0 then
      some ((-5), M23)
    else
      zC (fX7_record M23) fun _ M25 =>
      zC (fX7_setPart M25 v1 8 2) fun _ M26 =>
      zC (fX7_greatestWear M26 v1) fun r28 M27 =>
      some (r28, M27)
def fX7_pass (M : zM) (v1 : Int32) : Option (Int32 × zM) :=
  zC (fX7_within M v1 1 200) fun r22 M21 =>
  if r22 = 0 then
    some ((-2), M21)
  else
    zC (fX7_record M21) fun _ M23 =>
    zC (fX7_passes M23 v1) fun r25 M24 =>
    some (r25, M24)
def fX7_round_L79 (k : zM → Int32 → Option (Int32 × zM))  (a1 : Int32) : Nat → zM → Int32 → Option (Int32 × zM)
  | 0 => fun _ _ => none
  | n + 1 => fun M a2 =>
    if 32 ≤ a2 then
      k M a2
    else
      zC (fX7_setPart M a1 (12 + a2) 0) fun _ M34 =>
      zL (a2 + 1) fun v35 =>
      fX7_round_L79 k a1 n M34 v35
def fX7_round_L6 (k : zM → Int32 → Option (Int32 × zM))  : Nat → zM → Int32 → Option (Int32 × zM)
  | 0 => fun _ _ => none
  | n + 1 => fun M a1 =>
    zI 0 268 <|
    if (M 27 0 (zN 0)) ≤ a1 then
      k M a1
    else
      zC (fX7_part M a1 9) fun r23 M22 =>
      zC (fX7_setPart M22 a1 0 r23) fun _ M24 =>
      zC (fX7_part M24 a1 10) fun r26 M25 =>
      zC (fX7_setPart M25 a1 1 r26) fun _ M27 =>
      zC (fX7_part M27 a1 11) fun r29 M28 =>
      zC (fX7_setPart M28 a1 2 r29) fun _ M30 =>
      zC (fX7_setPart M30 a1 3 0) fun _ M31 =>
      zC (fX7_setPart M31 a1 4 0) fun _ M32 =>
      zC (fX7_setPart M32 a1 8 0) fun _ M33 =>
      fX7_round_L79 (fun M36 v37 => 
        zL (a1 + 1) fun v38 =>
        fX7_round_L6 k n M36 v38) a1 2000 M33 0
def fX7_round (M : zM) : Option (Int32 × zM) :=
  zC (fX7_record M) fun _ M21 =>
  fX7_round_L6 (fun M39 v40 => 
    zI 1 268 <|
    zI 1 268 <| zL (zw M39 27 0 (zN 1) ((M39 27 0 (zN 1)) + 1)) fun M41 =>
    zI 1 268 <|
    some (M41 27 0 (zN 1), M41))  2000 M21 0
def fX7_kite (M : zM) (v1 : Int32) (v2 : Int32) : Option (Int32 × zM) :=
  zC (fX7_isKite M v1) fun r22 M21 =>
  if r22 = 0 then
    some ((-1), M21)
  else
    if v2 = 0 then
      zC (fX7_part M21 v1 v2) fun r24 M23 =>
      some (r24, M23)
    else
    if v2 = 1 then
      zC (fX7_part M21 v1 v2) fun r26 M25 =>
      some (r26, M25)
    else
    if v2 = 2 then
      zC (fX7_part M21 v1 v2) fun r28 M27 =>
      some (r28, M27)
    else
    if v2 = 3 then
      zC (fX7_part M21 v1 v2) fun r30 M29 =>
      some (r30 + 10, M29)
    else
    if v2 = 4 then
      zC (fX7_part M21 v1 v2) fun r32 M31 =>
      some (r32 + 10, M31)
    else
    if v2 = 5 then
      zC (fX7_part M21 v1 v2) fun r34 M33 =>
      some (r34, M33)
    else
    if v2 = 6 then
      zC (fX7_part M21 v1 v2) fun r36 M35 =>
      some (r36, M35)
    else
    if v2 = 7 then
      zC (fX7_part M21 v1 v2) fun r38 M37 =>
      some (r38, M37)
    else
    if v2 = 8 then
      zC (fX7_part M21 v1 v2) fun r40 M39 =>
      some (r40, M39)
    else
    if v2 = 9 then
      zC (fX7_flies M21 v1) fun r42 M41 =>
      if r42 = 0 then
        some (0, M41)
      else
        zC (fX7_greatestWear M41 v1) fun r44 M43 =>
        some (r44, M43)
    else
    if v2 = 10 then
      zC (fX7_flies M21 v1) fun r46 M45 =>
      if r46 = 0 then
        some (0, M45)
      else
        zC (fX7_placeOfGreatest M45 v1) fun r48 M47 =>
        some (r48, M47)
    else
    if v2 = 11 then
      zC (fX7_flies M21 v1) fun r50 M49 =>
      if r50 = 0 then
        some (0, M49)
      else
        zC (fX7_crossingOnes M49 v1) fun r52 M51 =>
        some (r52, M51)
    else
    some ((-2), M21)
def fX7_wear (M : zM) (v1 : Int32) (v2 : Int32) : Option (Int32 × zM) :=
  zC (fX7_isKite M v1) fun r22 M21 =>
  if r22 = 0 then
    some ((-1), M21)
  else
    zC (fX7_within M21 v2 0 31) fun r24 M23 =>
    if r24 = 0 then
      some ((-1), M23)
    else
      zC (fX7_flies M23 v1) fun r26 M25 =>
      if r26 = 0 then
        some ((-5), M25)
      else
        zC (fX7_part M25 v1 (12 + v2)) fun r28 M27 =>
        some (r28, M27)
def fX7_crossing (M : zM) (v1 : Int32) (v2 : Int32) (v3 : Int32) : Option (Int32 × zM) :=
  zC (fX7_isKite M v1) fun r22 M21 =>
  if r22 = 0 then
    some ((-1), M21)
  else
    zC (fX7_isKite M21 v2) fun r24 M23 =>
    if r24 = 0 then
      some ((-1), M23)
    else
      if v1 = v2 then
        some ((-2), M23)
      else
        zC (fX7_within M23 v3 0 5) fun r26 M25 =>
        if r26 = 0 then
          some ((-2), M25)
        else
          zC (fX7_flies M25 v1) fun r28 M27 =>
          if r28 = 0 then
            some ((-5), M27)
          else
            zC (fX7_flies M27 v2) fun r30 M29 =>
            if r30 = 0 then
              some ((-5), M29)
            else
              zC (fX7_cross M29 v1 v2) fun r32 M31 =>
              if v3 = 0 then
                if r32 = 0 then
                  some (0, M31)
                else
                  some (1, M31)
              else
              if v3 = 1 then
                if r32 = 0 then
                  some ((-6), M31)
                else
                  some (M31 26 0 9, M31)
              else
              if v3 = 2 then
                if r32 = 0 then
                  some ((-6), M31)
                else
                  some (M31 26 0 10, M31)
              else
              if v3 = 3 then
                if r32 = 0 then
                  some ((-6), M31)
                else
                  if (M31 26 0 11) = 0 then
                    some (0, M31)
                  else
                    some (1, M31)
              else
              if v3 = 4 then
                zC (fX7_sliding M31 v1 v2) fun r34 M33 =>
                some (r34, M33)
              else
              if r32 = 0 then
                some (0, M31)
              else
                zC (fX7_more M31 v1 v2) fun r36 M35 =>
                some (r36, M35)
def fX7_inTheAir_L4 (k : zM → Int32 → Int32 → Option (Int32 × zM))  : Nat → zM → Int32 → Int32 → Option (Int32 × zM)
  | 0 => fun _ _ _ => none
  | n + 1 => fun M a1 a2 =>
    zI 0 268 <|
    if (M 27 0 (zN 0)) ≤ a2 then
      k M a1 a2
    else
      zC (fX7_flies M a2) fun r22 M21 =>
      if r22 = 0 then
        zL (a1 ||| 0) fun v23 =>
        zL (a2 + 1) fun v24 =>
        fX7_inTheAir_L4 k n M21 v23 v24
      else
        zL (a1 ||| (1 <<< (a2 &&& 31))) fun v25 =>
        zL (a2 + 1) fun v26 =>
        fX7_inTheAir_L4 k n M21 v25 v26
def fX7_inTheAir (M : zM) : Option (Int32 × zM) :=
  fX7_inTheAir_L4 (fun M27 v28 v29 => 
    some (v28, M27))  2000 M 0 0
def fX7_leader_L5 (k : zM → Int32 → Int32 → Option (Int32 × zM))  : Nat → zM → Int32 → Int32 → Option (Int32 × zM)
  | 0 => fun _ _ _ => none
  | n + 1 => fun M a1 a2 =>
    zI 0 268 <|
    if (M 27 0 (zN 0)) ≤ a2 then
      k M a1 a2
    else
      if a1 = (-6) then
        zL (a2 + 1) fun v21 =>
        fX7_leader_L5 k n M a2 v21
      else
        zC (fX7_part M a2 7) fun r23 M22 =>
        zC (fX7_part M22 a1 7) fun r25 M24 =>
        if r23 ≤ r25 then
          zL (a2 + 1) fun v26 =>
          fX7_leader_L5 k n M24 a1 v26
        else
          zL (a2 + 1) fun v27 =>
          fX7_leader_L5 k n M24 a2 v27
def fX7_leader (M : zM) : Option (Int32 × zM) :=
  fX7_leader_L5 (fun M28 v29 v30 => 
    some (v29, M28))  2000 M (-6) 0
def fX7_allPoints_L4 (k : zM → Int32 → Int32 → Option (Int32 × zM))  : Nat → zM → Int32 → Int32 → Option (Int32 × zM)
  | 0 => fun _ _ _ => none
  | n + 1 => fun M a1 a2 =>
    zI 0 268 <|
    if (M 27 0 (zN 0)) ≤ a2 then
      k M a1 a2
    else
      zC (fX7_part M a2 7) fun r22 M21 =>
      zL (a1 + r22) fun v23 =>
      zL (a2 + 1) fun v24 =>
      fX7_allPoints_L4 k n M21 v23 v24
def fX7_allPoints (M : zM) : Option (Int32 × zM) :=
  fX7_allPoints_L4 (fun M25 v26 v27 => 
    some (v26, M25))  2000 M 0 0
def fX7_count (M : zM) (v1 : Int32) : Option (Int32 × zM) :=
  if v1 = 0 then
    zI 0 268 <|
    some (M 27 0 (zN 0), M)
  else
  if v1 = 1 then
    zC (fX7_inTheAir M) fun r22 M21 =>
    some (r22, M21)
  else
  if v1 = 2 then
    zC (fX7_crossingsMany M) fun r24 M23 =>
    some (r24, M23)
  else
  if v1 = 3 then
    zI 2 268 <|
    some (M 27 0 (zN 2), M)
  else
  if v1 = 4 then
    zI 1 268 <|
    some (M 27 0 (zN 1), M)
  else
  if v1 = 5 then
    zC (fX7_leader M) fun r26 M25 =>
    some (r26, M25)
  else
  if v1 = 6 then
    zC (fX7_allPoints M) fun r28 M27 =>
    some (r28, M27)
  else
  if v1 = 7 then
    zI 3 268 <|
    some (M 27 0 (zN 3), M)
  else
  if v1 = 8 then
    some (M 26 0 7, M)
  else
  if v1 = 9 then
    some (M 26 0 3, M)
  else
  some ((-2), M)
def fX7_ifPassed (M : zM) (v1 : Int32) (v2 : Int32) : Option (Int32 × zM) :=
  zC (fX7_within M v1 1 200) fun r22 M21 =>
  if r22 = 0 then
    some ((-2), M21)
  else
    zC (fX7_within M21 v2 0 2) fun r24 M23 =>
    if r24 = 0 then
      some ((-2), M23)
    else
      zC (fX7_moves M23 27 268 0 28 268 0) fun _ M25 =>
      zC (fX7_allPoints M25) fun r27 M26 =>
      zC (fX7_passes M26 v1) fun r29 M28 =>
      if v2 = 0 then
        zC (fX7_moves M28 28 268 0 27 268 0) fun _ M37 =>
        some (r29, M37)
      else
        if v2 = 1 then
          zC (fX7_allPoints M28) fun r34 M33 =>
          zL (r34 - r27) fun v35 =>
          zC (fX7_moves M33 28 268 0 27 268 0) fun _ M36 =>
          some (v35, M36)
        else
          zC (fX7_crossingsMany M28) fun r31 M30 =>
          zC (fX7_moves M30 28 268 0 27 268 0) fun _ M32 =>
          some (r31, M32)
def fX7_lowest_L5 (k : zM → Int32 → Int32 → Option (Int32 × zM))  (a0 : Int32) : Nat → zM → Int32 → Int32 → Option (Int32 × zM)
  | 0 => fun _ _ _ => none
  | n + 1 => fun M a1 a2 =>
    if a2 < 0 then
      k M a1 a2
    else
      if ((a0 >>> (a2 &&& 31)) &&& 1) = 1 then
        zL (a2 + (-1)) fun v22 =>
        fX7_lowest_L5 k a0 n M a2 v22
      else
        zL (a2 + (-1)) fun v21 =>
        fX7_lowest_L5 k a0 n M a1 v21
def fX7_lowest (M : zM) (v0 : Int32) : Option (Int32 × zM) :=
  fX7_lowest_L5 (fun M23 v24 v25 => 
    some (v24, M23)) v0 2000 M (-6) 5
def fX7_firstCut_L32 (k : zM → Int32 → Option (Int32 × zM))  (a1 : Int32) : Nat → zM → Int32 → Option (Int32 × zM)
  | 0 => fun _ _ => none
  | n + 1 => fun M a2 =>
    if 300 ≤ a2 then
      k M a2
    else
      if (M 26 0 12) = 0 then
        zC (fX7_tick M) fun _ M25 =>
        zL (a2 + 1) fun v26 =>
        fX7_firstCut_L32 k a1 n M25 v26
      else
        k M a2
def fX7_firstCut (M : zM) (v1 : Int32) : Option (Int32 × zM) :=
  zC (fX7_within M v1 0 2) fun r22 M21 =>
  if r22 = 0 then
    some ((-2), M21)
  else
    zC (fX7_moves M21 27 268 0 28 268 0) fun _ M23 =>
    zL (zw M23 26 0 12 0) fun M24 =>
    fX7_firstCut_L32 (fun M27 v28 => 
      zC (fX7_moves M27 28 268 0 27 268 0) fun _ M29 =>
      if (M29 26 0 12) = 0 then
        some ((-6), M29)
      else
        if v1 = 0 then
          some (v28, M29)
        else
          if v1 = 1 then
            zC (fX7_lowest M29 (M29 26 0 12)) fun r31 M30 =>
            some (r31, M30)
          else
            some (M29 26 0 13, M29)) v1 2000 M24 0
def fX7_meets_L74 (k : zM → Int32 → Int32 → Option (Int32 × zM))  (a1 : Int32) (a2 : Int32) : Nat → zM → Int32 → Int32 → Option (Int32 × zM)
  | 0 => fun _ _ _ => none
  | n + 1 => fun M a3 a4 =>
    if 300 ≤ a3 then
      k M a3 a4
    else
      if a4 = 0 then
        zC (fX7_tick M) fun _ M32 =>
        zL (a3 + 1) fun v33 =>
        zI ((6 * a1) + a2) 36 <|
        if (M32 33 0 (zN ((6 * a1) + a2))) = (-6) then
          fX7_meets_L74 k a1 a2 n M32 v33 0
        else
          fX7_meets_L74 k a1 a2 n M32 v33 1
      else
        k M a3 a4
def fX7_meets (M : zM) (v1 : Int32) (v2 : Int32) : Option (Int32 × zM) :=
  zC (fX7_isKite M v1) fun r22 M21 =>
  if r22 = 0 then
    some ((-1), M21)
  else
    zC (fX7_isKite M21 v2) fun r24 M23 =>
    if r24 = 0 then
      some ((-1), M23)
    else
      if v1 = v2 then
        some ((-2), M23)
      else
        zC (fX7_flies M23 v1) fun r26 M25 =>
        if r26 = 0 then
          some ((-5), M25)
        else
          zC (fX7_flies M25 v2) fun r28 M27 =>
          if r28 = 0 then
            some ((-5), M27)
          else
            zC (fX7_cross M27 v1 v2) fun r30 M29 =>
            if r30 = 0 then
              zC (fX7_moves M29 27 268 0 28 268 0) fun _ M31 =>
              fX7_meets_L74 (fun M34 v35 v36 => 
                zC (fX7_moves M34 28 268 0 27 268 0) fun _ M37 =>
                if v36 = 0 then
                  some ((-6), M37)
                else
                  some (v35, M37)) v1 v2 2000 M31 0 0
            else
              some (0, M29)
def fX7_getsWith (M : zM) (v1 : Int32) (v2 : Int32) (v3 : Int32) (v4 : Int32) : Option (Int32 × zM) :=
  zC (fX7_moves M 27 268 0 28 268 0) fun _ M21 =>
  zC (fX7_orders M21 v1 v2 v3) fun r23 M22 =>
  zC (fX7_passes M22 v4) fun r25 M24 =>
  zC (fX7_part M24 v1 7) fun r27 M26 =>
  if ((r25 >>> (v1 &&& 31)) &&& 1) = 1 then
    zL (r27 - 2) fun v32 =>
    zC (fX7_moves M26 28 268 0 27 268 0) fun _ M33 =>
    zC (fX7_part M33 v1 7) fun r35 M34 =>
    some (v32 - r35, M34)
  else
    zL (r27 - 0) fun v28 =>
    zC (fX7_moves M26 28 268 0 27 268 0) fun _ M29 =>
    zC (fX7_part M29 v1 7) fun r31 M30 =>
    some (v28 - r31, M30)
def fX7_bestOrder_L68 (k : zM → Int32 → Int32 → Int32 → Int32 → Option (Int32 × zM))  (a1 : Int32) (a2 : Int32) (a3 : Int32) (a7 : Int32) : Nat → zM → Int32 → Int32 → Int32 → Int32 → Option (Int32 × zM)
  | 0 => fun _ _ _ _ _ => none
  | n + 1 => fun M a4 a5 a6 a8 =>
    if 3 < a8 then
      k M a4 a5 a6 a8
    else
      zC (fX7_getsWith M a1 a7 a8 a2) fun r30 M29 =>
      if a4 = (-6) then
        zL (a8 + 1) fun v31 =>
        fX7_bestOrder_L68 k a1 a2 a3 a7 n M29 a7 a8 r30 v31
      else
        if r30 ≤ a6 then
          zL (a8 + 1) fun v32 =>
          fX7_bestOrder_L68 k a1 a2 a3 a7 n M29 a4 a5 a6 v32
        else
          zL (a8 + 1) fun v33 =>
          fX7_bestOrder_L68 k a1 a2 a3 a7 n M29 a7 a8 r30 v33
def fX7_bestOrder_L58 (k : zM → Int32 → Int32 → Int32 → Int32 → Option (Int32 × zM))  (a1 : Int32) (a2 : Int32) (a3 : Int32) : Nat → zM → Int32 → Int32 → Int32 → Int32 → Option (Int32 × zM)
  | 0 => fun _ _ _ _ _ => none
  | n + 1 => fun M a4 a5 a6 a7 =>
    if 3 < a7 then
      k M a4 a5 a6 a7
    else
      fX7_bestOrder_L68 (fun M34 v35 v36 v37 v38 => 
        zL (a7 + 1) fun v39 =>
        fX7_bestOrder_L58 k a1 a2 a3 n M34 v35 v36 v37 v39) a1 a2 a3 a7 2000 M a4 a5 a6 (-3)
def fX7_bestOrder (M : zM) (v1 : Int32) (v2 : Int32) (v3 : Int32) : Option (Int32 × zM) :=
  zC (fX7_isKite M v1) fun r22 M21 =>
  if r22 = 0 then
    some ((-1), M21)
  else
    zC (fX7_within M21 v2 1 50) fun r24 M23 =>
    if r24 = 0 then
      some ((-2), M23)
    else
      zC (fX7_within M23 v3 0 2) fun r26 M25 =>
      if r26 = 0 then
        some ((-2), M25)
      else
        zC (fX7_flies M25 v1) fun r28 M27 =>
        if r28 = 0 then
          some ((-5), M27)
        else
          fX7_bestOrder_L58 (fun M40 v41 v42 v43 v44 => 
            if v3 = 0 then
              some (v41 + 10, M40)
            else
              if v3 = 1 then
                some (v42 + 10, M40)
              else
                some (v43 + 10, M40)) v1 v2 v3 2000 M27 (-6) (-6) 0 (-3)
def fX7_put_L8 (k : zM → Int32 → Int64 → Int32 → Option (Int32 × zM))  (a1 : Int64) : Nat → zM → Int32 → Int64 → Int32 → Option (Int32 × zM)
  | 0 => fun _ _ _ _ => none
  | n + 1 => fun M a3 a4 a6 =>
    if 8 ≤ a3 then
      k M a3 a4 a6
    else
      if (lg_cmp (a4 &&& 255) 0) = 0 then
        k M a3 a4 a6
      else
        if a6 = 0 then
          zL ((a4.toUInt64 >>> ((8 : Int32).toInt64.toUInt64 &&& Int64.toUInt64 63)).toInt64) fun v21 =>
          zL (a3 + 1) fun v22 =>
          fX7_put_L8 k a1 n M v22 v21 0
        else
          zC (fX7_within M ((a4 &&& 255).toInt32) 33 126) fun r24 M23 =>
          if r24 = 0 then
            zL ((a4.toUInt64 >>> ((8 : Int32).toInt64.toUInt64 &&& Int64.toUInt64 63)).toInt64) fun v25 =>
            zL (a3 + 1) fun v26 =>
            fX7_put_L8 k a1 n M23 v26 v25 0
          else
            zL ((a4.toUInt64 >>> ((8 : Int32).toInt64.toUInt64 &&& Int64.toUInt64 63)).toInt64) fun v27 =>
            zL (a3 + 1) fun v28 =>
            fX7_put_L8 k a1 n M23 v28 v27 1
def fX7_put_L105 (k : zM → Int32 → Option (Int32 × zM))  (a1 : Int64) (a3 : Int32) (a4 : Int64) (a6 : Int32) : Nat → zM → Int32 → Option (Int32 × zM)
  | 0 => fun _ _ => none
  | n + 1 => fun M a7 =>
    if a7 < 0 then
      k M a7
    else
      zI (M 26 0 7) 60 <| zL (zw M 32 0 (zN (M 26 0 7)) ((((a1.toUInt64 >>> ((8 * a7).toInt64.toUInt64 &&& Int64.toUInt64 63)).toInt64) &&& 255).toInt32)) fun M34 =>
      zL (zw M34 26 0 7 ((M34 26 0 7) + 1)) fun M35 =>
      zL (a7 + (-1)) fun v36 =>
      fX7_put_L105 k a1 a3 a4 a6 n M35 v36
def fX7_put (M : zM) (v1 : Int64) : Option (Int32 × zM) :=
  fX7_put_L8 (fun M29 v30 v31 v32 => 
    if v30 = 0 then
      some ((-2), M29)
    else
      if v32 = 0 then
        some ((-2), M29)
      else
        if (lg_cmp v31 0) = 0 then
          if ((M29 26 0 7) + v30) ≤ 60 then
            zL (v30 - 1) fun v33 =>
            fX7_put_L105 (fun M37 v38 => 
              some (M37 26 0 7, M37)) v1 v30 v31 v32 2000 M29 v33
          else
            some ((-4), M29)
        else
          some ((-2), M29)) v1 2000 M 0 v1 1
def fX7_wipe (M : zM) : Option (Int32 × zM) :=
  zL (M 26 0 7) fun v21 =>
  zL (zw M 26 0 7 0) fun M22 =>
  some (v21, M22)
def fX7_character (M : zM) (v1 : Int32) : Option (Int32 × zM) :=
  if (M 26 0 7) ≤ v1 then
    some ((-1), M)
  else
    zI v1 60 <|
    some (M 32 0 (zN v1), M)
def fX7_isNext (M : zM) (v1 : Int32) : Option (Int32 × zM) :=
  zC (fX7_character M (M 26 0 14)) fun r22 M21 =>
  if r22 = v1 then
    zL (zw M21 26 0 14 ((M21 26 0 14) + 1)) fun M24 =>
    some (1, M24)
  else
    zL (zw M21 26 0 14 ((M21 26 0 14) + 0)) fun M23 =>
    some (0, M23)
def fX7_takeDigit (M : zM) (v1 : Int32) (v2 : Int32) : Option (Int32 × zM) :=
  zC (fX7_character M (M 26 0 14)) fun r22 M21 =>
  zL (r22 - 48) fun v23 =>
  zC (fX7_within M21 v23 v1 v2) fun r25 M24 =>
  if r25 = 0 then
    some ((-1), M24)
  else
    zL (zw M24 26 0 14 ((M24 26 0 14) + 1)) fun M26 =>
    some (v23, M26)
def fX7_takeStep (M : zM) : Option (Int32 × zM) :=
  zC (fX7_isNext M 48) fun r22 M21 =>
  if r22 = 0 then
    zC (fX7_isNext M21 43) fun r24 M23 =>
    if r24 = 0 then
      zC (fX7_isNext M23 45) fun r26 M25 =>
      if r26 = 0 then
        some ((-6), M25)
      else
        zC (fX7_takeDigit M25 1 3) fun r28 M27 =>
        if 0 ≤ r28 then
          some ((-1) * r28, M27)
        else
          some ((-6), M27)
    else
      zC (fX7_takeDigit M23 1 3) fun r30 M29 =>
      if 0 ≤ r30 then
        some (1 * r30, M29)
      else
        some ((-6), M29)
  else
    some (0, M21)
def fX7_readsOrder (M : zM) : Option (Int32 × zM) :=
  zC (fX7_takeDigit M 0 5) fun r22 M21 =>
  zL (zw M21 26 0 15 r22) fun M23 =>
  if (M23 26 0 15) < 0 then
    zL (zw M23 26 0 16 (-6)) fun M24 =>
    if (M24 26 0 16) = (-6) then
      zL (zw M24 26 0 17 (-6)) fun M28 =>
      if (M28 26 0 17) = (-6) then
        some (0, M28)
      else
        some (1, M28)
    else
      zC (fX7_takeStep M24) fun r26 M25 =>
      zL (zw M25 26 0 17 r26) fun M27 =>
      if (M27 26 0 17) = (-6) then
        some (0, M27)
      else
        some (1, M27)
  else
    zC (fX7_isNext M23 58) fun r30 M29 =>
    if r30 = 0 then
      zL (zw M29 26 0 16 (-6)) fun M31 =>
      if (M31 26 0 16) = (-6) then
        zL (zw M31 26 0 17 (-6)) fun M35 =>
        if (M35 26 0 17) = (-6) then
          some (0, M35)
        else
          some (1, M35)
      else
        zC (fX7_takeStep M31) fun r33 M32 =>
        zL (zw M32 26 0 17 r33) fun M34 =>
        if (M34 26 0 17) = (-6) then
          some (0, M34)
        else
          some (1, M34)
    else
      zC (fX7_takeStep M29) fun r37 M36 =>
      zL (zw M36 26 0 16 r37) fun M38 =>
      if (M38 26 0 16) = (-6) then
        zL (zw M38 26 0 17 (-6)) fun M42 =>
        if (M42 26 0 17) = (-6) then
          some (0, M42)
        else
          some (1, M42)
      else
        zC (fX7_takeStep M38) fun r40 M39 =>
        zL (zw M39 26 0 17 r40) fun M41 =>
        if (M41 26 0 17) = (-6) then
          some (0, M41)
        else
          some (1, M41)
def fX7_findFault_L5 (k : zM → Option (Int32 × zM))  : Nat → zM → Option (Int32 × zM)
  | 0 => fun _ => none
  | n + 1 => fun M =>
    zC (fX7_readsOrder M) fun r23 M22 =>
    if r23 = 0 then
      some (M22 26 0 14, M22)
    else
      if (M22 26 0 14) = (M22 26 0 7) then
        some ((-6), M22)
      else
        zC (fX7_isNext M22 59) fun r25 M24 =>
        if r25 = 0 then
          k M24
        else
          fX7_findFault_L5 k n M24
def fX7_findFault (M : zM) : Option (Int32 × zM) :=
  zL (zw M 26 0 14 0) fun M21 =>
  fX7_findFault_L5 (fun M26 => 
    some (M26 26 0 14, M26))  2000 M21 
def fX7_fault (M : zM) : Option (Int32 × zM) :=
  zC (fX7_findFault M) fun r22 M21 =>
  some (r22, M21)
def fX7_carryOut_L25 (k : zM → Int32 → Int32 → Option (Int32 × zM))  : Nat → zM → Int32 → Int32 → Option (Int32 × zM)
  | 0 => fun _ _ _ => none
  | n + 1 => fun M a1 a2 =>
    if a2 = 0 then
      k M a1 a2
    else
      if (M 26 0 7) ≤ (M 26 0 14) then
        k M a1 a2
      else
        zC (fX7_readsOrder M) fun r26 M25 =>
        zC (fX7_isNext M25 59) fun r28 M27 =>
        zC (fX7_whyNotOrdered M27 (M27 26 0 15) (M27 26 0 16) (M27 26 0 17)) fun r30 M29 =>
        if r30 = 0 then
          zC (fX7_orders M29 (M29 26 0 15) (M29 26 0 16) (M29 26 0 17)) fun r32 M31 =>
          zL (a1 + 1) fun v33 =>
          fX7_carryOut_L25 k n M31 v33 1
        else
          fX7_carryOut_L25 k n M29 a1 0
def fX7_carryOut (M : zM) : Option (Int32 × zM) :=
  zC (fX7_findFault M) fun r22 M21 =>
  if r22 = (-6) then
    zC (fX7_record M21) fun _ M23 =>
    zL (zw M23 26 0 14 0) fun M24 =>
    fX7_carryOut_L25 (fun M34 v35 v36 => 
      zL (zw M34 26 0 7 0) fun M37 =>
      some (v35, M37))  2000 M24 0 1
  else
    some ((-3), M21)
def fX7_undo (M : zM) : Option (Int32 × zM) :=
  if (M 26 0 3) = 0 then
    some ((-5), M)
  else
    zL (zw M 26 0 3 ((M 26 0 3) - 1)) fun M21 =>
    zC (fX7_moves M21 29 1608 ((M21 26 0 3) * 268) 27 268 0) fun _ M22 =>
    some (M22 26 0 3, M22)
def fX7_save (M : zM) (v1 : Int32) : Option (Int32 × zM) :=
  zC (fX7_within M v1 0 1) fun r22 M21 =>
  if r22 = 0 then
    some ((-2), M21)
  else
    zC (fX7_moves M21 27 268 0 30 536 (268 * v1)) fun _ M23 =>
    zI v1 2 <| zL (zw M23 31 0 (zN v1) 1) fun M24 =>
    zI 0 268 <|
    some (M24 27 0 (zN 0), M24)
def fX7_restore (M : zM) (v1 : Int32) : Option (Int32 × zM) :=
  zC (fX7_within M v1 0 1) fun r22 M21 =>
  if r22 = 0 then
    some ((-2), M21)
  else
    zI v1 2 <|
    if (M21 31 0 (zN v1)) = 0 then
      some ((-5), M21)
    else
      zC (fX7_record M21) fun _ M23 =>
      zC (fX7_moves M23 30 536 (268 * v1) 27 268 0) fun _ M24 =>
      zI 0 268 <|
      some (M24 27 0 (zN 0), M24)
