def fX2_copyRow (M : zM) (k i1 i2 : Nat) : Option (Unit × zM) := if i1 = i2 then none else some ((), zcp M k i1 i2)
def fX2_copyFrom (M : zM) (j : Nat) (j1 : Nat) : Option (Unit × zM) :=
  zL (zw M 1 j 0 (M 1 j1 0)) fun M21 =>
  zL (zw M21 1 j 1 (M21 1 j1 1)) fun M22 =>
  zL (zw M22 1 j 2 (M22 1 j1 2)) fun M23 =>
  zL (zw M23 1 j 3 (M23 1 j1 3)) fun M24 =>
  zC (fX2_copyRow M24 2 j1 j) fun _ M25 =>
  zC (fX2_copyRow M25 3 j1 j) fun _ M26 =>
  zC (fX2_copyRow M26 4 j1 j) fun _ M27 =>
  zC (fX2_copyRow M27 5 j1 j) fun _ M28 =>
  zC (fX2_copyRow M28 6 j1 j) fun _ M29 =>
  zC (fX2_copyRow M29 7 j1 j) fun _ M30 =>
  zC (fX2_copyRow M30 8 j1 j) fun _ M31 =>
  zC (fX2_copyRow M31 9 j1 j) fun _ M32 =>
  zC (fX2_copyRow M32 10 j1 j) fun _ M33 =>
  zC (fX2_copyRow M33 11 j1 j) fun _ M34 =>
  zC (fX2_copyRow M34 12 j1 j) fun _ M35 =>
  zC (fX2_copyRow M35 13 j1 j) fun _ M36 =>
  zC (fX2_copyRow M36 14 j1 j) fun _ M37 =>
  some ((), M37)
def fX2_has (M : zM) (j : Nat) (v1 : Int32) : Option (Int32 × zM) :=
  if v1 < 0 then
    some (0, M)
  else
    if (M 1 j 0) ≤ v1 then
      some (0, M)
    else
      if 6 ≤ v1 then
        some (0, M)
      else
        some (1, M)
def fX2_isFlying (M : zM) (j : Nat) (v1 : Int32) : Option (Int32 × zM) :=
  zC (fX2_has M j v1) fun r22 M21 =>
  if r22 = 0 then
    some (0, M21)
  else
    zI v1 6 <|
    if (M21 10 j (zN v1)) = 0 then
      some (1, M21)
    else
      some (0, M21)
def fX2_hasRoom (M : zM) (j : Nat) : Option (Int32 × zM) :=
  if (M 1 j 0) < 0 then
    some (0, M)
  else
    if 6 ≤ (M 1 j 0) then
      some (0, M)
    else
      some (1, M)
def fX2_sendUp_L59 (k : zM → Int32 → Option (Unit × zM)) (j : Nat) (a1 : Int32) : Nat → zM → Int32 → Option (Unit × zM)
  | 0 => fun _ _ => none
  | n + 1 => fun M a2 =>
    if 32 ≤ a2 then
      k M a2
    else
      zI ((a1 * 32) + a2) 192 <| zL (zw M 14 j (zN ((a1 * 32) + a2)) 0) fun M28 =>
      zL (a2 + 1) fun v29 =>
      fX2_sendUp_L59 k j a1 n M28 v29
def fX2_sendUp (M : zM) (j : Nat) (v1 : Int32) : Option (Unit × zM) :=
  zI v1 6 <|
  zI v1 6 <| zL (zw M 2 j (zN v1) (M 11 j (zN v1))) fun M21 =>
  zI v1 6 <|
  zI v1 6 <| zL (zw M21 3 j (zN v1) (M21 12 j (zN v1))) fun M22 =>
  zI v1 6 <|
  zI v1 6 <| zL (zw M22 4 j (zN v1) (M22 13 j (zN v1))) fun M23 =>
  zI v1 6 <| zL (zw M23 5 j (zN v1) 0) fun M24 =>
  zI v1 6 <| zL (zw M24 6 j (zN v1) 0) fun M25 =>
  zI v1 6 <| zL (zw M25 10 j (zN v1) 0) fun M26 =>
  fX2_sendUp_L59 (fun M30 v31 => 
    some ((), M30)) j v1 2000 M26 0
def fX2_addKite (M : zM) (j : Nat) (v1 : Int32) (v2 : Int32) (v3 : Int32) (v4 : Int32) (v5 : Int32) : Option (Int32 × zM) :=
  zL (M 1 j 0) fun v21 =>
  zI v21 6 <| zL (zw M 11 j (zN v21) v1) fun M22 =>
  zI v21 6 <| zL (zw M22 12 j (zN v21) v2) fun M23 =>
  zI v21 6 <| zL (zw M23 13 j (zN v21) v3) fun M24 =>
  zI v21 6 <| zL (zw M24 7 j (zN v21) v4) fun M25 =>
  zI v21 6 <| zL (zw M25 8 j (zN v21) v5) fun M26 =>
  zI v21 6 <| zL (zw M26 9 j (zN v21) 0) fun M27 =>
  zC (fX2_sendUp M27 j v21) fun _ M28 =>
  zL (zw M28 1 j 0 ((M28 1 j 0) + 1)) fun M29 =>
  some (v21, M29)
def fX2_beginAnew_L2 (k : zM → Int32 → Option (Unit × zM)) (j : Nat) : Nat → zM → Int32 → Option (Unit × zM)
  | 0 => fun _ _ => none
  | n + 1 => fun M a1 =>
    if 6 ≤ a1 then
      k M a1
    else
      zC (fX2_has M j a1) fun r23 M22 =>
      if r23 = 0 then
        zL (a1 + 1) fun v25 =>
        fX2_beginAnew_L2 k j n M22 v25
      else
        zC (fX2_sendUp M22 j a1) fun _ M26 =>
        zL (a1 + 1) fun v27 =>
        fX2_beginAnew_L2 k j n M26 v27
def fX2_beginAnew (M : zM) (j : Nat) : Option (Unit × zM) :=
  fX2_beginAnew_L2 (fun M28 v29 => 
    zL (zw M28 1 j 2 ((M28 1 j 2) + 1)) fun M30 =>
    some ((), M30)) j 2000 M 0
def fX2_turn (M : zM) (j : Nat) (v1 : Int32) (v2 : Int32) (v3 : Int32) : Option (Int32 × zM) :=
  zI v1 6 <|
  zI v1 6 <|
  zL ((10 * (zabs (v2 - (M 5 j (zN v1))))) + (zabs (v3 - (M 6 j (zN v1))))) fun v21 =>
  zI v1 6 <| zL (zw M 5 j (zN v1) v2) fun M22 =>
  zI v1 6 <| zL (zw M22 6 j (zN v1) v3) fun M23 =>
  some (v21, M23)
def fX6_isWithin (M : zM) (v0 : Int32) (v1 : Int32) (v2 : Int32) : Option (Int32 × zM) :=
  if v0 < v1 then
    some (0, M)
  else
    if v2 < v0 then
      some (0, M)
    else
      some (1, M)
def fX2_move (M : zM) (j : Nat) (v1 : Int32) : Option (Unit × zM) :=
  zI v1 6 <|
  zI v1 6 <|
  zL ((M 3 j (zN v1)) + (M 5 j (zN v1))) fun v21 =>
  zC (fX6_isWithin M v21 0 63) fun r23 M22 =>
  if r23 = 0 then
    zI v1 6 <|
    zI v1 6 <| zL (zw M22 5 j (zN v1) (-(M22 5 j (zN v1)))) fun M25 =>
    zI v1 6 <|
    zI v1 6 <|
    zL ((M25 4 j (zN v1)) + (M25 6 j (zN v1))) fun v26 =>
    zC (fX6_isWithin M25 v26 1 47) fun r28 M27 =>
    if r28 = 0 then
      zI v1 6 <|
      zI v1 6 <| zL (zw M27 6 j (zN v1) (-(M27 6 j (zN v1)))) fun M30 =>
      some ((), M30)
    else
      zI v1 6 <| zL (zw M27 4 j (zN v1) v26) fun M31 =>
      some ((), M31)
  else
    zI v1 6 <| zL (zw M22 3 j (zN v1) v21) fun M32 =>
    zI v1 6 <|
    zI v1 6 <|
    zL ((M32 4 j (zN v1)) + (M32 6 j (zN v1))) fun v33 =>
    zC (fX6_isWithin M32 v33 1 47) fun r35 M34 =>
    if r35 = 0 then
      zI v1 6 <|
      zI v1 6 <| zL (zw M34 6 j (zN v1) (-(M34 6 j (zN v1)))) fun M37 =>
      some ((), M37)
    else
      zI v1 6 <| zL (zw M34 4 j (zN v1) v33) fun M38 =>
      some ((), M38)
def fX2_sliding (M : zM) (j : Nat) (v1 : Int32) (v2 : Int32) : Option (Int32 × zM) :=
  zI v1 6 <|
  zI v2 6 <|
  zI v1 6 <|
  zI v2 6 <|
  some ((1 + (zabs ((M 5 j (zN v1)) - (M 5 j (zN v2))))) + (zabs ((M 6 j (zN v1)) - (M 6 j (zN v2)))), M)
def fX2_rubbing (M : zM) (j : Nat) (v1 : Int32) (v2 : Int32) (v3 : Int32) : Option (Int32 × zM) :=
  zC (fX2_has M j v1) fun r22 M21 =>
  if r22 = 0 then
    some (0, M21)
  else
    zC (fX2_has M21 j v2) fun r25 M24 =>
    if r25 = 0 then
      some (0, M24)
    else
      zI v2 6 <|
      zC (fX2_sliding M24 j v1 v2) fun r28 M27 =>
      zL ((M24 7 j (zN v2)) * r28) fun v29 =>
      if v3 = 0 then
        some (v29, M27)
      else
        some (2 * v29, M27)
def fX2_hasPlace (M : zM) (j : Nat) (v1 : Int32) (v2 : Int32) : Option (Int32 × zM) :=
  zC (fX2_has M j v1) fun r22 M21 =>
  if r22 = 0 then
    some (0, M21)
  else
    zC (fX6_isWithin M21 v2 0 31) fun r25 M24 =>
    if r25 = 0 then
      some (0, M24)
    else
      some (1, M24)
def fX2_wearAt (M : zM) (j : Nat) (v1 : Int32) (v2 : Int32) : Option (Int32 × zM) :=
  zC (fX2_hasPlace M j v1 v2) fun r22 M21 =>
  if r22 = 0 then
    some (0, M21)
  else
    zI ((v1 * 32) + v2) 192 <|
    some (M21 14 j (zN ((v1 * 32) + v2)), M21)
def fX2_wearDown (M : zM) (j : Nat) (v1 : Int32) (v2 : Int32) (v3 : Int32) : Option (Unit × zM) :=
  zC (fX2_hasPlace M j v1 v2) fun r22 M21 =>
  if r22 = 0 then
    some ((), M21)
  else
    zI ((v1 * 32) + v2) 192 <|
    zI ((v1 * 32) + v2) 192 <| zL (zw M21 14 j (zN ((v1 * 32) + v2)) ((M21 14 j (zN ((v1 * 32) + v2))) + v3)) fun M24 =>
    some ((), M24)
def fX2_isWornThrough (M : zM) (j : Nat) (v1 : Int32) (v2 : Int32) : Option (Int32 × zM) :=
  zC (fX2_has M j v1) fun r22 M21 =>
  if r22 = 0 then
    some (0, M21)
  else
    zC (fX2_wearAt M21 j v1 v2) fun r25 M24 =>
    zI v1 6 <|
    if r25 < (M24 8 j (zN v1)) then
      some (0, M24)
    else
      some (1, M24)
def fX2_mostWornPlace_L4 (k : zM → Int32 → Int32 → Option (Int32 × zM)) (j : Nat) (a1 : Int32) : Nat → zM → Int32 → Int32 → Option (Int32 × zM)
  | 0 => fun _ _ _ => none
  | n + 1 => fun M a2 a3 =>
    if 32 ≤ a3 then
      k M a2 a3
    else
      zC (fX2_wearAt M j a1 a3) fun r23 M22 =>
      zC (fX2_wearAt M22 j a1 a2) fun r25 M24 =>
      if r23 ≤ r25 then
        zL (a3 + 1) fun v27 =>
        fX2_mostWornPlace_L4 k j a1 n M24 a2 v27
      else
        zL (a3 + 1) fun v28 =>
        fX2_mostWornPlace_L4 k j a1 n M24 a3 v28
def fX2_mostWornPlace (M : zM) (j : Nat) (v1 : Int32) : Option (Int32 × zM) :=
  fX2_mostWornPlace_L4 (fun M29 v30 v31 => 
    some (v30, M29)) j v1 2000 M 0 1
def fX2_flyingKites_L4 (k : zM → Int32 → Int32 → Option (Int32 × zM)) (j : Nat) : Nat → zM → Int32 → Int32 → Option (Int32 × zM)
  | 0 => fun _ _ _ => none
  | n + 1 => fun M a1 a2 =>
    if 6 ≤ a2 then
      k M a1 a2
    else
      zC (fX2_isFlying M j a2) fun r23 M22 =>
      if r23 = 0 then
        zL (a2 + 1) fun v25 =>
        fX2_flyingKites_L4 k j n M22 a1 v25
      else
        zL (a1 ||| (1 <<< (a2 &&& 31))) fun v26 =>
        zL (a2 + 1) fun v27 =>
        fX2_flyingKites_L4 k j n M22 v26 v27
def fX2_flyingKites (M : zM) (j : Nat) : Option (Int32 × zM) :=
  fX2_flyingKites_L4 (fun M28 v29 v30 => 
    some (v29, M28)) j 2000 M 0 0
def fX2_leader_L14 (k : zM → Int32 → Int32 → Option (Int32 × zM)) (j : Nat) : Nat → zM → Int32 → Int32 → Option (Int32 × zM)
  | 0 => fun _ _ _ => none
  | n + 1 => fun M a1 a2 =>
    if 6 ≤ a2 then
      k M a1 a2
    else
      zC (fX2_has M j a2) fun r24 M23 =>
      if r24 = 0 then
        zL (a2 + 1) fun v26 =>
        fX2_leader_L14 k j n M23 a1 v26
      else
        zI a2 6 <|
        zI a1 6 <|
        if (M23 9 j (zN a2)) ≤ (M23 9 j (zN a1)) then
          zL (a2 + 1) fun v28 =>
          fX2_leader_L14 k j n M23 a1 v28
        else
          zL (a2 + 1) fun v29 =>
          fX2_leader_L14 k j n M23 a2 v29
def fX2_leader (M : zM) (j : Nat) : Option (Int32 × zM) :=
  if (M 1 j 0) = 0 then
    some ((-6), M)
  else
    fX2_leader_L14 (fun M30 v31 v32 => 
      some (v31, M30)) j 2000 M 0 1
def fX2_allPoints_L4 (k : zM → Int32 → Int32 → Option (Int32 × zM)) (j : Nat) : Nat → zM → Int32 → Int32 → Option (Int32 × zM)
  | 0 => fun _ _ _ => none
  | n + 1 => fun M a1 a2 =>
    if 6 ≤ a2 then
      k M a1 a2
    else
      zC (fX2_has M j a2) fun r23 M22 =>
      if r23 = 0 then
        zL (a2 + 1) fun v25 =>
        fX2_allPoints_L4 k j n M22 a1 v25
      else
        zI a2 6 <|
        zL (a1 + (M22 9 j (zN a2))) fun v26 =>
        zL (a2 + 1) fun v27 =>
        fX2_allPoints_L4 k j n M22 v26 v27
def fX2_allPoints (M : zM) (j : Nat) : Option (Int32 × zM) :=
  fX2_allPoints_L4 (fun M28 v29 v30 => 
    some (v29, M28)) j 2000 M 0 0
def fX5_note (M : zM) (j : Nat) (v1 : Int32) (v2 : Int32) (v3 : Int32) (v4 : Int32) : Option (Unit × zM) :=
  if (M 15 j 4) < 0 then
    some ((), M)
  else
    if (M 15 j 4) < 30 then
      zI (M 15 j 4) 30 <| zL (zw M 16 j (zN (M 15 j 4)) v1) fun M23 =>
      zI (M23 15 j 4) 30 <| zL (zw M23 17 j (zN (M23 15 j 4)) v2) fun M24 =>
      zI (M24 15 j 4) 30 <| zL (zw M24 18 j (zN (M24 15 j 4)) v3) fun M25 =>
      zI (M25 15 j 4) 30 <| zL (zw M25 19 j (zN (M25 15 j 4)) (vp_nar .boolean v4)) fun M26 =>
      zL (zw M26 15 j 4 ((M26 15 j 4) + 1)) fun M27 =>
      some ((), M27)
    else
      some ((), M)
def fX5_measurePair (M : zM) (j : Nat) (j1 : Nat) (v2 : Int32) (v3 : Int32) : Option (Unit × zM) :=
  zI v2 6 <|
  zI v2 6 <|
  zL ((M 3 j1 (zN v2)) - (M 2 j1 (zN v2))) fun v21 =>
  zI v2 6 <|
  zL (M 4 j1 (zN v2)) fun v22 =>
  zI v3 6 <|
  zI v3 6 <|
  zL ((M 3 j1 (zN v3)) - (M 2 j1 (zN v3))) fun v23 =>
  zI v3 6 <|
  zL (M 4 j1 (zN v3)) fun v24 =>
  zI v3 6 <|
  zI v2 6 <|
  zL ((M 2 j1 (zN v3)) - (M 2 j1 (zN v2))) fun v25 =>
  zL ((v21 * v24) - (v22 * v23)) fun v26 =>
  zL (zabs v26) fun v27 =>
  if v27 = 0 then
    some ((), M)
  else
    if 0 < (v25 * v26) then
      zL ((zabs v25) * v24) fun v30 =>
      zL ((zabs v25) * v22) fun v31 =>
      if v27 ≤ v30 then
        some ((), M)
      else
        if v31 < v27 then
          if v27 < (zabs ((v21 * v23) + (v22 * v24))) then
            zV v27 <|
            zC (fX5_note M j v2 v3 ((32 * v30) / v27) 0) fun _ M35 =>
            zV v27 <|
            zC (fX5_note M35 j v3 v2 ((32 * v31) / v27) 0) fun _ M36 =>
            some ((), M36)
          else
            zV v27 <|
            zC (fX5_note M j v2 v3 ((32 * v30) / v27) 1) fun _ M37 =>
            zV v27 <|
            zC (fX5_note M37 j v3 v2 ((32 * v31) / v27) 1) fun _ M38 =>
            some ((), M38)
        else
          some ((), M)
    else
      some ((), M)
def fX5_measure_L25 (k : zM → Int32 → Option (Unit × zM)) (j : Nat) (j1 : Nat) (a2 : Int32) : Nat → zM → Int32 → Option (Unit × zM)
  | 0 => fun _ _ => none
  | n + 1 => fun M a3 =>
    if 6 ≤ a3 then
      k M a3
    else
      zC (fX2_isFlying M j1 a3) fun r30 M29 =>
      if r30 = 0 then
        zL (a3 + 1) fun v32 =>
        fX5_measure_L25 k j j1 a2 n M29 v32
      else
        zC (fX5_measurePair M29 j j1 a2 a3) fun _ M33 =>
        zL (a3 + 1) fun v34 =>
        fX5_measure_L25 k j j1 a2 n M33 v34
def fX5_measure_L7 (k : zM → Int32 → Option (Unit × zM)) (j : Nat) (j1 : Nat) : Nat → zM → Int32 → Option (Unit × zM)
  | 0 => fun _ _ => none
  | n + 1 => fun M a2 =>
    if 6 ≤ a2 then
      k M a2
    else
      zC (fX2_isFlying M j1 a2) fun r24 M23 =>
      if r24 = 0 then
        zL (a2 + 1) fun v26 =>
        fX5_measure_L7 k j j1 n M23 v26
      else
        zL (a2 + 1) fun v27 =>
        fX5_measure_L25 (fun M35 v36 => 
          zL (a2 + 1) fun v37 =>
          fX5_measure_L7 k j j1 n M35 v37) j j1 a2 2000 M23 v27
def fX5_measure (M : zM) (j : Nat) (j1 : Nat) : Option (Unit × zM) :=
  zL (zw M 15 j 4 0) fun M21 =>
  fX5_measure_L7 (fun M38 v39 => 
    some ((), M38)) j j1 2000 M21 0
def fX5_crossings (M : zM) (j : Nat) : Option (Int32 × zM) :=
  some ((M 15 j 4) / 2, M)
def fX5_noteOf_L2 (k : zM → Int32 → Option (Int32 × zM)) (j : Nat) (a1 : Int32) (a2 : Int32) : Nat → zM → Int32 → Option (Int32 × zM)
  | 0 => fun _ _ => none
  | n + 1 => fun M a3 =>
    if (M 15 j 4) ≤ a3 then
      k M a3
    else
      if 30 ≤ a3 then
        k M a3
      else
        zI a3 30 <|
        if (M 16 j (zN a3)) = a1 then
          zI a3 30 <|
          if (M 17 j (zN a3)) = a2 then
            some (a3, M)
          else
            zL (a3 + 1) fun v26 =>
            fX5_noteOf_L2 k j a1 a2 n M v26
        else
          zL (a3 + 1) fun v24 =>
          fX5_noteOf_L2 k j a1 a2 n M v24
def fX5_noteOf (M : zM) (j : Nat) (v1 : Int32) (v2 : Int32) : Option (Int32 × zM) :=
  fX5_noteOf_L2 (fun M27 v28 => 
    some ((-6), M27)) j v1 v2 2000 M 0
def fX5_cross (M : zM) (j : Nat) (v1 : Int32) (v2 : Int32) : Option (Int32 × zM) :=
  zC (fX5_noteOf M j v1 v2) fun r22 M21 =>
  if r22 = (-6) then
    some (0, M21)
  else
    some (1, M21)
def fX5_placeOn (M : zM) (j : Nat) (v1 : Int32) (v2 : Int32) : Option (Int32 × zM) :=
  zC (fX5_noteOf M j v1 v2) fun r22 M21 =>
  if r22 = (-6) then
    some ((-6), M21)
  else
    zI r22 30 <|
    some (M21 18 j (zN r22), M21)
def fX5_isSteep (M : zM) (j : Nat) (v1 : Int32) (v2 : Int32) : Option (Int32 × zM) :=
  zC (fX5_noteOf M j v1 v2) fun r22 M21 =>
  if r22 = (-6) then
    some (0, M21)
  else
    zI r22 30 <|
    if (M21 19 j (zN r22)) = 0 then
      some (0, M21)
    else
      some (1, M21)
def fX5_crossersOf_L4 (k : zM → Int32 → Int32 → Option (Int32 × zM)) (j : Nat) (a1 : Int32) : Nat → zM → Int32 → Int32 → Option (Int32 × zM)
  | 0 => fun _ _ _ => none
  | n + 1 => fun M a2 a3 =>
    if (M 15 j 4) ≤ a3 then
      k M a2 a3
    else
      if 30 ≤ a3 then
        k M a2 a3
      else
        zI a3 30 <|
        if (M 16 j (zN a3)) = a1 then
          zI a3 30 <|
          zL (a2 ||| (1 <<< ((M 17 j (zN a3)) &&& 31))) fun v25 =>
          zL (a3 + 1) fun v26 =>
          fX5_crossersOf_L4 k j a1 n M v25 v26
        else
          zL (a3 + 1) fun v24 =>
          fX5_crossersOf_L4 k j a1 n M a2 v24
def fX5_crossersOf (M : zM) (j : Nat) (v1 : Int32) : Option (Int32 × zM) :=
  fX5_crossersOf_L4 (fun M27 v28 v29 => 
    some (v28, M27)) j v1 2000 M 0 0
def fX4_wearStrings_L2 (k : zM → Int32 → Option (Unit × zM)) (j1 : Nat) : Nat → zM → Int32 → Option (Unit × zM)
  | 0 => fun _ _ => none
  | n + 1 => fun M a2 =>
    if (M 15 1 4) ≤ a2 then
      k M a2
    else
      if 30 ≤ a2 then
        k M a2
      else
        zI a2 30 <|
        zL (M 16 1 (zN a2)) fun v23 =>
        zI a2 30 <|
        zI a2 30 <|
        zC (fX2_rubbing M j1 v23 (M 17 1 (zN a2)) (M 19 1 (zN a2))) fun r25 M24 =>
        zI a2 30 <|
        zC (fX2_wearDown M24 j1 v23 (M24 18 1 (zN a2)) r25) fun _ M26 =>
        zL (a2 + 1) fun v27 =>
        fX4_wearStrings_L2 k j1 n M26 v27
def fX4_wearStrings (M : zM) (j1 : Nat) : Option (Unit × zM) :=
  fX4_wearStrings_L2 (fun M28 v29 => 
    some ((), M28)) j1 2000 M 0
def fX4_givePoints_L2 (k : zM → Int32 → Option (Unit × zM)) (j1 : Nat) : Nat → zM → Int32 → Option (Unit × zM)
  | 0 => fun _ _ => none
  | n + 1 => fun M a2 =>
    if (M 15 1 4) ≤ a2 then
      k M a2
    else
      if 30 ≤ a2 then
        k M a2
      else
        zI a2 30 <|
        zL (M 16 1 (zN a2)) fun v23 =>
        zI a2 30 <|
        zL (M 17 1 (zN a2)) fun v24 =>
        zI a2 30 <|
        zC (fX2_isWornThrough M j1 v23 (M 18 1 (zN a2))) fun r26 M25 =>
        if r26 = 0 then
          zL (a2 + 1) fun v28 =>
          fX4_givePoints_L2 k j1 n M25 v28
        else
          zC (fX2_has M25 j1 v24) fun r30 M29 =>
          if r30 = 0 then
            zL (a2 + 1) fun v32 =>
            fX4_givePoints_L2 k j1 n M29 v32
          else
            zI v24 6 <|
            zI v24 6 <| zL (zw M29 9 j1 (zN v24) ((M29 9 j1 (zN v24)) + 1)) fun M33 =>
            zL (zw M33 20 0 2 ((M33 20 0 2) ||| (1 <<< (v24 &&& 31)))) fun M34 =>
            zL (zw M34 20 0 1 ((M34 20 0 1) ||| (1 <<< (v23 &&& 31)))) fun M35 =>
            zL (a2 + 1) fun v36 =>
            fX4_givePoints_L2 k j1 n M35 v36
def fX4_givePoints (M : zM) (j1 : Nat) : Option (Unit × zM) :=
  fX4_givePoints_L2 (fun M37 v38 => 
    some ((), M37)) j1 2000 M 0
def fX4_cutStrings_L2 (k : zM → Int32 → Option (Unit × zM)) (j1 : Nat) : Nat → zM → Int32 → Option (Unit × zM)
  | 0 => fun _ _ => none
  | n + 1 => fun M a2 =>
    if 6 ≤ a2 then
      k M a2
    else
      if (((M 20 0 1) >>> (a2 &&& 31)) &&& 1) = 1 then
        zI a2 6 <| zL (zw M 10 j1 (zN a2) 1) fun M24 =>
        zL (zw M24 1 j1 3 ((M24 1 j1 3) + 1)) fun M25 =>
        zL (a2 + 1) fun v26 =>
        fX4_cutStrings_L2 k j1 n M25 v26
      else
        zL (a2 + 1) fun v23 =>
        fX4_cutStrings_L2 k j1 n M v23
def fX4_cutStrings (M : zM) (j1 : Nat) : Option (Unit × zM) :=
  fX4_cutStrings_L2 (fun M27 v28 => 
    some ((), M27)) j1 2000 M 0
def fX4_happenIn_L2 (k : zM → Int32 → Option (Unit × zM)) (j1 : Nat) : Nat → zM → Int32 → Option (Unit × zM)
  | 0 => fun _ _ => none
  | n + 1 => fun M a2 =>
    if 6 ≤ a2 then
      k M a2
    else
      zC (fX2_isFlying M j1 a2) fun r23 M22 =>
      if r23 = 0 then
        zL (a2 + 1) fun v25 =>
        fX4_happenIn_L2 k j1 n M22 v25
      else
        zC (fX2_move M22 j1 a2) fun _ M26 =>
        zL (a2 + 1) fun v27 =>
        fX4_happenIn_L2 k j1 n M26 v27
def fX4_happenIn (M : zM) (j1 : Nat) : Option (Unit × zM) :=
  fX4_happenIn_L2 (fun M28 v29 => 
    zL (zw M28 1 j1 1 ((M28 1 j1 1) + 1)) fun M30 =>
    zL (zw M30 20 0 1 0) fun M31 =>
    zL (zw M31 20 0 2 0) fun M32 =>
    zC (fX5_measure M32 1 j1) fun _ M33 =>
    zC (fX4_wearStrings M33 j1) fun _ M34 =>
    zC (fX4_givePoints M34 j1) fun _ M35 =>
    if (M35 20 0 1) = 0 then
      some ((), M35)
    else
      zC (fX4_cutStrings M35 j1) fun _ M37 =>
      some ((), M37)) j1 2000 M 0
def fX0_stateAt (M : zM) (v1 : Int32) : Option (Nat × zM) :=
  if v1 < 0 then
    none
  else
    if 6 ≤ v1 then
      none
    else
      zI v1 6 <|
      some ((2 + zN v1), M)
def fX0_record (M : zM) (j1 : Nat) : Option (Unit × zM) :=
  zC (fX0_stateAt M (M 21 0 1)) fun q22 M21 =>
  zC (fX2_copyFrom M21 q22 j1) fun _ M24 =>
  if 6 ≤ ((M24 21 0 1) + 1) then
    zL (zw M24 21 0 1 0) fun M26 =>
    zL (zw M26 21 0 2 (zmin ((M26 21 0 2) + 1) 6)) fun M27 =>
    some ((), M27)
  else
    zL (zw M24 21 0 1 ((M24 21 0 1) + 1)) fun M28 =>
    zL (zw M28 21 0 2 (zmin ((M28 21 0 2) + 1) 6)) fun M29 =>
    some ((), M29)
def fX6_launch (M : zM) (v1 : Int32) (v2 : Int32) (v3 : Int32) (v4 : Int32) (v5 : Int32) : Option (Int32 × zM) :=
  zC (fX6_isWithin M v1 0 63) fun r22 M21 =>
  if r22 = 0 then
    some ((-2), M21)
  else
    zC (fX6_isWithin M21 v2 0 63) fun r25 M24 =>
    if r25 = 0 then
      some ((-2), M24)
    else
      zC (fX6_isWithin M24 v3 1 47) fun r28 M27 =>
      if r28 = 0 then
        some ((-2), M27)
      else
        zC (fX6_isWithin M27 v4 0 5) fun r31 M30 =>
        if r31 = 0 then
          some ((-2), M30)
        else
          zC (fX6_isWithin M30 v5 10 200) fun r34 M33 =>
          if r34 = 0 then
            some ((-2), M33)
          else
            zC (fX2_hasRoom M33 0) fun r37 M36 =>
            if r37 = 0 then
              some ((-4), M36)
            else
              zC (fX0_record M36 0) fun _ M39 =>
              zC (fX2_addKite M39 0 v1 v2 v3 v4 v5) fun r41 M40 =>
              some (r41, M40)
def fX6_errorOfOrder (M : zM) (v1 : Int32) (v2 : Int32) (v3 : Int32) : Option (Int32 × zM) :=
  zC (fX2_has M 0 v1) fun r22 M21 =>
  if r22 = 0 then
    some ((-1), M21)
  else
    zC (fX6_isWithin M21 v2 (-3) 3) fun r25 M24 =>
    if r25 = 0 then
      some ((-2), M24)
    else
      zC (fX6_isWithin M24 v3 (-3) 3) fun r28 M27 =>
      if r28 = 0 then
        some ((-2), M27)
      else
        zC (fX2_isFlying M27 0 v1) fun r31 M30 =>
        if r31 = 0 then
          some ((-5), M30)
        else
          some (0, M30)
def fX6_order (M : zM) (v1 : Int32) (v2 : Int32) (v3 : Int32) : Option (Int32 × zM) :=
  zC (fX6_errorOfOrder M v1 v2 v3) fun r22 M21 =>
  if r22 = 0 then
    zC (fX0_record M21 0) fun _ M24 =>
    zC (fX2_turn M24 0 v1 v2 v3) fun r26 M25 =>
    some (r26, M25)
  else
    some (r22, M21)
def fX6_step (M : zM) (v1 : Int32) (v2 : Int32) : Option (Int32 × zM) :=
  zC (fX2_has M 0 v1) fun r22 M21 =>
  if r22 = 0 then
    some ((-1), M21)
  else
    zC (fX6_isWithin M21 v2 0 63) fun r25 M24 =>
    if r25 = 0 then
      some ((-2), M24)
    else
      zC (fX2_isFlying M24 0 v1) fun r28 M27 =>
      if r28 = 0 then
        some ((-5), M27)
      else
        zC (fX0_record M27 0) fun _ M30 =>
        zI v1 6 <|
        zL (M30 2 0 (zN v1)) fun v31 =>
        zI v1 6 <| zL (zw M30 2 0 (zN v1) v2) fun M32 =>
        some (v31, M32)
def fX6_land (M : zM) (v1 : Int32) : Option (Int32 × zM) :=
  zC (fX2_has M 0 v1) fun r22 M21 =>
  if r22 = 0 then
    some ((-1), M21)
  else
    zC (fX2_isFlying M21 0 v1) fun r25 M24 =>
    if r25 = 0 then
      some ((-5), M24)
    else
      zC (fX0_record M24 0) fun _ M27 =>
      zI v1 6 <| zL (zw M27 10 0 (zN v1) 2) fun M28 =>
      zC (fX2_mostWornPlace M28 0 v1) fun r30 M29 =>
      zC (fX2_wearAt M29 0 v1 r30) fun r32 M31 =>
      some (r32, M31)
def fX6_pass_L29 (k : zM → Int32 → Int32 → Option (Int32 × zM))  (a1 : Int32) : Nat → zM → Int32 → Int32 → Option (Int32 × zM)
  | 0 => fun _ _ _ => none
  | n + 1 => fun M a2 a3 =>
    if a1 ≤ a3 then
      k M a2 a3
    else
      zC (fX4_happenIn M 0) fun _ M26 =>
      zL (a2 ||| (M26 20 0 1)) fun v27 =>
      zL (a3 + 1) fun v28 =>
      fX6_pass_L29 k a1 n M26 v27 v28
def fX6_pass (M : zM) (v1 : Int32) : Option (Int32 × zM) :=
  zC (fX6_isWithin M v1 1 200) fun r22 M21 =>
  if r22 = 0 then
    some ((-2), M21)
  else
    zC (fX0_record M21 0) fun _ M24 =>
    fX6_pass_L29 (fun M29 v30 v31 => 
      some (v30, M29)) v1 2000 M24 0 0
def fX6_round (M : zM) : Option (Int32 × zM) :=
  zC (fX0_record M 0) fun _ M21 =>
  zC (fX2_beginAnew M21 0) fun _ M22 =>
  some (M22 1 0 2, M22)
def fX6_aboutKite (M : zM) (v1 : Int32) (v2 : Int32) : Option (Int32 × zM) :=
  if v2 = 0 then
    zI v1 6 <|
    some (M 2 0 (zN v1), M)
  else
  if v2 = 1 then
    zI v1 6 <|
    some (M 3 0 (zN v1), M)
  else
  if v2 = 2 then
    zI v1 6 <|
    some (M 4 0 (zN v1), M)
  else
  if v2 = 3 then
    zI v1 6 <|
    some ((M 5 0 (zN v1)) + 10, M)
  else
  if v2 = 4 then
    zI v1 6 <|
    some ((M 6 0 (zN v1)) + 10, M)
  else
  if v2 = 5 then
    zI v1 6 <|
    some (M 7 0 (zN v1), M)
  else
  if v2 = 6 then
    zI v1 6 <|
    some (M 8 0 (zN v1), M)
  else
  if v2 = 7 then
    zI v1 6 <|
    some (M 9 0 (zN v1), M)
  else
  zI v1 6 <|
  some (M 10 0 (zN v1), M)
def fX6_aboutString (M : zM) (v1 : Int32) (v2 : Int32) : Option (Int32 × zM) :=
  zC (fX2_isFlying M 0 v1) fun r22 M21 =>
  if r22 = 0 then
    some (0, M21)
  else
    zC (fX2_mostWornPlace M21 0 v1) fun r25 M24 =>
    if v2 = 9 then
      zC (fX2_wearAt M24 0 v1 r25) fun r27 M26 =>
      some (r27, M26)
    else
    if v2 = 10 then
      some (r25, M24)
    else
    zC (fX5_measure M24 0 0) fun _ M28 =>
    zC (fX5_crossersOf M28 0 v1) fun r30 M29 =>
    some (r30, M29)
def fX6_kite (M : zM) (v1 : Int32) (v2 : Int32) : Option (Int32 × zM) :=
  zC (fX2_has M 0 v1) fun r22 M21 =>
  if r22 = 0 then
    some ((-1), M21)
  else
    zC (fX6_isWithin M21 v2 0 11) fun r25 M24 =>
    if r25 = 0 then
      some ((-2), M24)
    else
      if 9 ≤ v2 then
        zC (fX6_aboutString M24 v1 v2) fun r29 M28 =>
        some (r29, M28)
      else
        zC (fX6_aboutKite M24 v1 v2) fun r31 M30 =>
        some (r31, M30)
def fX6_wear (M : zM) (v1 : Int32) (v2 : Int32) : Option (Int32 × zM) :=
  zC (fX2_has M 0 v1) fun r22 M21 =>
  if r22 = 0 then
    some ((-1), M21)
  else
    zC (fX6_isWithin M21 v2 0 31) fun r25 M24 =>
    if r25 = 0 then
      some ((-1), M24)
    else
      zC (fX2_isFlying M24 0 v1) fun r28 M27 =>
      if r28 = 0 then
        some ((-5), M27)
      else
        zC (fX2_wearAt M27 0 v1 v2) fun r31 M30 =>
        some (r31, M30)
def fX6_aboutCrossing (M : zM) (v1 : Int32) (v2 : Int32) (v3 : Int32) : Option (Int32 × zM) :=
  zC (fX5_cross M 0 v1 v2) fun r22 M21 =>
  if v3 = 0 then
    if r22 = 0 then
      some (0, M21)
    else
      some (1, M21)
  else
  if v3 = 1 then
    zC (fX5_placeOn M21 0 v1 v2) fun r25 M24 =>
    some (r25, M24)
  else
  if v3 = 2 then
    zC (fX5_placeOn M21 0 v2 v1) fun r27 M26 =>
    some (r27, M26)
  else
  if v3 = 3 then
    if r22 = 0 then
      some ((-6), M21)
    else
      zC (fX5_isSteep M21 0 v1 v2) fun r30 M29 =>
      if r30 = 0 then
        some (0, M29)
      else
        some (1, M29)
  else
  if v3 = 4 then
    zC (fX2_sliding M21 0 v1 v2) fun r33 M32 =>
    some (r33, M32)
  else
  if r22 = 0 then
    some (0, M21)
  else
    zC (fX5_isSteep M21 0 v1 v2) fun r36 M35 =>
    zC (fX2_rubbing M35 0 v1 v2 r36) fun r38 M37 =>
    some (r38, M37)
def fX6_crossing (M : zM) (v1 : Int32) (v2 : Int32) (v3 : Int32) : Option (Int32 × zM) :=
  zC (fX2_has M 0 v1) fun r22 M21 =>
  if r22 = 0 then
    some ((-1), M21)
  else
    zC (fX2_has M21 0 v2) fun r25 M24 =>
    if r25 = 0 then
      some ((-1), M24)
    else
      if v1 = v2 then
        some ((-2), M24)
      else
        zC (fX6_isWithin M24 v3 0 5) fun r29 M28 =>
        if r29 = 0 then
          some ((-2), M28)
        else
          zC (fX2_isFlying M28 0 v1) fun r32 M31 =>
          if r32 = 0 then
            some ((-5), M31)
          else
            zC (fX2_isFlying M31 0 v2) fun r35 M34 =>
            if r35 = 0 then
              some ((-5), M34)
            else
              zC (fX5_measure M34 0 0) fun _ M37 =>
              zC (fX6_aboutCrossing M37 v1 v2 v3) fun r39 M38 =>
              some (r39, M38)
def fX6_count (M : zM) (v1 : Int32) : Option (Int32 × zM) :=
  if v1 = 0 then
    some (M 1 0 0, M)
  else
  if v1 = 1 then
    zC (fX2_flyingKites M 0) fun r22 M21 =>
    some (r22, M21)
  else
  if v1 = 2 then
    zC (fX5_measure M 0 0) fun _ M23 =>
    zC (fX5_crossings M23 0) fun r25 M24 =>
    some (r25, M24)
  else
  if v1 = 3 then
    some (M 1 0 1, M)
  else
  if v1 = 4 then
    some (M 1 0 2, M)
  else
  if v1 = 5 then
    zC (fX2_leader M 0) fun r27 M26 =>
    some (r27, M26)
  else
  if v1 = 6 then
    zC (fX2_allPoints M 0) fun r29 M28 =>
    some (r29, M28)
  else
  if v1 = 7 then
    some (M 1 0 3, M)
  else
  if v1 = 8 then
    some (M 24 0 1, M)
  else
  if v1 = 9 then
    some (M 21 0 2, M)
  else
  some ((-2), M)
def fX6_ifPassed_L39 (k : zM → Int32 → Int32 → Option (Int32 × zM))  (a1 : Int32) (a2 : Int32) : Nat → zM → Int32 → Int32 → Option (Int32 × zM)
  | 0 => fun _ _ _ => none
  | n + 1 => fun M a3 a4 =>
    if a1 ≤ a4 then
      k M a3 a4
    else
      zC (fX4_happenIn M 1) fun _ M29 =>
      zL (a3 ||| (M29 20 0 1)) fun v30 =>
      zL (a4 + 1) fun v31 =>
      fX6_ifPassed_L39 k a1 a2 n M29 v30 v31
def fX6_ifPassed (M : zM) (v1 : Int32) (v2 : Int32) : Option (Int32 × zM) :=
  zC (fX6_isWithin M v1 1 200) fun r22 M21 =>
  if r22 = 0 then
    some ((-2), M21)
  else
    zC (fX6_isWithin M21 v2 0 2) fun r25 M24 =>
    if r25 = 0 then
      some ((-2), M24)
    else
      zC (fX2_copyFrom M24 1 0) fun _ M27 =>
      fX6_ifPassed_L39 (fun M32 v33 v34 => 
        if v2 = 0 then
          some (v33, M32)
        else
        if v2 = 1 then
          zC (fX2_allPoints M32 1) fun r36 M35 =>
          zC (fX2_allPoints M35 0) fun r38 M37 =>
          some (r36 - r38, M37)
        else
        zC (fX5_measure M32 0 1) fun _ M39 =>
        zC (fX5_crossings M39 0) fun r41 M40 =>
        some (r41, M40)) v1 v2 2000 M27 0 0
def fX6_lowestOf_L2 (k : zM → Int32 → Option (Int32 × zM))  (a0 : Int32) : Nat → zM → Int32 → Option (Int32 × zM)
  | 0 => fun _ _ => none
  | n + 1 => fun M a1 =>
    if 6 ≤ a1 then
      k M a1
    else
      if ((a0 >>> (a1 &&& 31)) &&& 1) = 1 then
        some (a1, M)
      else
        zL (a1 + 1) fun v23 =>
        fX6_lowestOf_L2 k a0 n M v23
def fX6_lowestOf (M : zM) (v0 : Int32) : Option (Int32 × zM) :=
  fX6_lowestOf_L2 (fun M24 v25 => 
    some ((-6), M24)) v0 2000 M 0
def fX6_aboutCut (M : zM) (v1 : Int32) (v2 : Int32) : Option (Int32 × zM) :=
  if v2 = 0 then
    some (v1, M)
  else
  if v2 = 1 then
    zC (fX6_lowestOf M (M 20 0 1)) fun r22 M21 =>
    some (r22, M21)
  else
  some (M 20 0 2, M)
def fX6_firstCut_L25 (k : zM → Int32 → Option (Int32 × zM))  (a1 : Int32) : Nat → zM → Int32 → Option (Int32 × zM)
  | 0 => fun _ _ => none
  | n + 1 => fun M a2 =>
    if 300 < a2 then
      k M a2
    else
      zC (fX4_happenIn M 1) fun _ M26 =>
      if (M26 20 0 1) = 0 then
        zL (a2 + 1) fun v28 =>
        fX6_firstCut_L25 k a1 n M26 v28
      else
        zC (fX6_aboutCut M26 a2 a1) fun r30 M29 =>
        some (r30, M29)
def fX6_firstCut (M : zM) (v1 : Int32) : Option (Int32 × zM) :=
  zC (fX6_isWithin M v1 0 2) fun r22 M21 =>
  if r22 = 0 then
    some ((-2), M21)
  else
    zC (fX2_copyFrom M21 1 0) fun _ M24 =>
    fX6_firstCut_L25 (fun M31 v32 => 
      some ((-6), M31)) v1 2000 M24 1
def fX6_meets_L95 (k : zM → Int32 → Option (Int32 × zM))  (a1 : Int32) (a2 : Int32) : Nat → zM → Int32 → Option (Int32 × zM)
  | 0 => fun _ _ => none
  | n + 1 => fun M a3 =>
    if 300 < a3 then
      k M a3
    else
      zC (fX4_happenIn M 1) fun _ M40 =>
      zC (fX5_cross M40 1 a1 a2) fun r42 M41 =>
      if r42 = 0 then
        zL (a3 + 1) fun v44 =>
        fX6_meets_L95 k a1 a2 n M41 v44
      else
        some (a3, M41)
def fX6_meets (M : zM) (v1 : Int32) (v2 : Int32) : Option (Int32 × zM) :=
  zC (fX2_has M 0 v1) fun r22 M21 =>
  if r22 = 0 then
    some ((-1), M21)
  else
    zC (fX2_has M21 0 v2) fun r25 M24 =>
    if r25 = 0 then
      some ((-1), M24)
    else
      if v1 = v2 then
        some ((-2), M24)
      else
        zC (fX2_isFlying M24 0 v1) fun r29 M28 =>
        if r29 = 0 then
          some ((-5), M28)
        else
          zC (fX2_isFlying M28 0 v2) fun r32 M31 =>
          if r32 = 0 then
            some ((-5), M31)
          else
            zC (fX5_measure M31 0 0) fun _ M34 =>
            zC (fX5_cross M34 0 v1 v2) fun r36 M35 =>
            if r36 = 0 then
              zC (fX2_copyFrom M35 1 0) fun _ M38 =>
              fX6_meets_L95 (fun M45 v46 => 
                some ((-6), M45)) v1 v2 2000 M38 1
            else
              some (0, M35)
def fL_low (M : zM) (v0 : Int32) (v1 : Int32) : Option (Int32 × zM) :=
  zV v1 <|
  some (zir (v0 &&& 2147483647) v1, M)
def fL_worn (M : zM) (v0 : Int32) (v1 : Int32) (kf2 : Nat) (kf3 : Nat) : Option (Int32 × zM) :=
  if 2 ≤ v0 then
    zI (((32 * v0) - 64) + v1) 64 <|
    some (M kf3 0 (zN (((32 * v0) - 64) + v1)), M)
  else
    zI ((32 * v0) + v1) 64 <|
    some (M kf2 0 (zN ((32 * v0) + v1)), M)
def fL_wear (M : zM) (v0 : Int32) (v1 : Int32) (v2 : Int32) (kf3 : Nat) (kf4 : Nat) : Option (Unit × zM) :=
  if 2 ≤ v0 then
    zI (((32 * v0) - 64) + v1) 64 <|
    zI (((32 * v0) - 64) + v1) 64 <| zL (zw M kf4 0 (zN (((32 * v0) - 64) + v1)) ((M kf4 0 (zN (((32 * v0) - 64) + v1))) + v2)) fun M22 =>
    some ((), M22)
  else
    zI ((32 * v0) + v1) 64 <|
    zI ((32 * v0) + v1) 64 <| zL (zw M kf3 0 (zN ((32 * v0) + v1)) ((M kf3 0 (zN ((32 * v0) + v1))) + v2)) fun M23 =>
    some ((), M23)
def fL_abs (M : zM) (v0 : Int32) : Option (Int32 × zM) :=
  if 0 ≤ v0 then
    some (v0, M)
  else
    some (-v0, M)
def fL_place_J135 (kf2 : Nat) (M : zM) (a5 : Int32) (a6 : Int32) (a7 : Int32) (a8 : Int32) (a9 : Int32) (a11 : Int32) (a12 : Int32) : Option (Int32 × zM) :=
  if a11 ≤ 0 then
    some ((-1), M)
  else
    if a9 ≤ a11 then
      some ((-1), M)
    else
      if a12 ≤ 0 then
        some ((-1), M)
      else
        if a12 < a9 then
          zV a9 <|
          zC (fL_abs M ((a5 * a7) + (a6 * a8))) fun r40 M39 =>
          if a9 < r40 then
            some (((32 * a11) / a9) + 0, M39)
          else
            some (((32 * a11) / a9) + 64, M39)
        else
          some ((-1), M)
def fL_place (M : zM) (v0 : Int32) (v1 : Int32) (kf2 : Nat) : Option (Int32 × zM) :=
  zL (12 * v0) fun v21 =>
  zL (12 * v1) fun v22 =>
  zI (v21 + 8) 48 <|
  if (M kf2 0 (zN (v21 + 8))) = 0 then
    zI (v22 + 8) 48 <|
    if (M kf2 0 (zN (v22 + 8))) = 0 then
      zI (v21 + 1) 48 <|
      zI v21 48 <|
      zL ((M kf2 0 (zN (v21 + 1))) - (M kf2 0 (zN v21))) fun v25 =>
      zI (v21 + 2) 48 <|
      zL (M kf2 0 (zN (v21 + 2))) fun v26 =>
      zI (v22 + 1) 48 <|
      zI v22 48 <|
      zL ((M kf2 0 (zN (v22 + 1))) - (M kf2 0 (zN v22))) fun v27 =>
      zI (v22 + 2) 48 <|
      zL (M kf2 0 (zN (v22 + 2))) fun v28 =>
      zL ((v25 * v28) - (v26 * v27)) fun v29 =>
      if v29 = 0 then
        some ((-1), M)
      else
        zI v22 48 <|
        zI v21 48 <|
        zL ((M kf2 0 (zN v22)) - (M kf2 0 (zN v21))) fun v31 =>
        zL (v31 * v28) fun v32 =>
        zL (v31 * v26) fun v33 =>
        if 0 ≤ v29 then
          fL_place_J135 kf2 M v25 v26 v27 v28 v29 v32 v33
        else
          zL (-v32) fun v42 =>
          zL (-v33) fun v43 =>
          zL (-v29) fun v44 =>
          fL_place_J135 kf2 M v25 v26 v27 v28 v44 v42 v43
    else
      some ((-1), M)
  else
    some ((-1), M)
def fL_sliding (M : zM) (v0 : Int32) (v1 : Int32) (kf2 : Nat) : Option (Int32 × zM) :=
  zI ((12 * v0) + 3) 48 <|
  zI ((12 * v1) + 3) 48 <|
  zC (fL_abs M ((M kf2 0 (zN ((12 * v0) + 3))) - (M kf2 0 (zN ((12 * v1) + 3))))) fun r22 M21 =>
  zI ((12 * v0) + 4) 48 <|
  zI ((12 * v1) + 4) 48 <|
  zC (fL_abs M21 ((M21 kf2 0 (zN ((12 * v0) + 4))) - (M21 kf2 0 (zN ((12 * v1) + 4))))) fun r24 M23 =>
  some ((1 + r22) + r24, M23)
def fL_tick_J134 (rec : zM → Int32 → Option (Int32 × zM)) (k : zM → Int32 → Option (Int32 × zM)) (kf0 : Nat) (kf1 : Nat) (kf2 : Nat) (kf3 : Nat) (kf4 : Nat) (M : zM) (a5 : Int32) : Option (Int32 × zM) :=
  zL (a5 + 1) fun v30 =>
  rec M v30
def fL_tick_J82 (rec : zM → Int32 → Option (Int32 × zM)) (k : zM → Int32 → Option (Int32 × zM)) (kf0 : Nat) (kf1 : Nat) (kf2 : Nat) (kf3 : Nat) (kf4 : Nat) (M : zM) (a5 : Int32) (a6 : Int32) : Option (Int32 × zM) :=
  zI (a6 + 2) 48 <|
  zI (a6 + 4) 48 <|
  zL ((M kf1 0 (zN (a6 + 2))) + (M kf1 0 (zN (a6 + 4)))) fun v27 =>
  if v27 < 1 then
    zI (a6 + 4) 48 <|
    zI (a6 + 4) 48 <| zL (zw M kf1 0 (zN (a6 + 4)) (-(M kf1 0 (zN (a6 + 4))))) fun M29 =>
    fL_tick_J134 rec k kf0 kf1 kf2 kf3 kf4 M29 a5
  else
    if v27 ≤ 47 then
      zI (a6 + 2) 48 <| zL (zw M kf1 0 (zN (a6 + 2)) v27) fun M32 =>
      fL_tick_J134 rec k kf0 kf1 kf2 kf3 kf4 M32 a5
    else
      zI (a6 + 4) 48 <|
      zI (a6 + 4) 48 <| zL (zw M kf1 0 (zN (a6 + 4)) (-(M kf1 0 (zN (a6 + 4))))) fun M33 =>
      fL_tick_J134 rec k kf0 kf1 kf2 kf3 kf4 M33 a5
def fL_tick_L3 (k : zM → Int32 → Option (Int32 × zM)) (kf0 : Nat) (kf1 : Nat) (kf2 : Nat) (kf3 : Nat) (kf4 : Nat) : Nat → zM → Int32 → Option (Int32 × zM)
  | 0 => fun _ _ => none
  | n + 1 => fun M a5 =>
    zI 0 4 <|
    if (M kf0 0 (zN 0)) ≤ a5 then
      k M a5
    else
      zL (12 * a5) fun v22 =>
      zI (v22 + 8) 48 <|
      if (M kf1 0 (zN (v22 + 8))) = 0 then
        zI (v22 + 1) 48 <|
        zI (v22 + 3) 48 <|
        zL ((M kf1 0 (zN (v22 + 1))) + (M kf1 0 (zN (v22 + 3)))) fun v24 =>
        if v24 < 0 then
          zI (v22 + 3) 48 <|
          zI (v22 + 3) 48 <| zL (zw M kf1 0 (zN (v22 + 3)) (-(M kf1 0 (zN (v22 + 3))))) fun M26 =>
          fL_tick_J82 (fL_tick_L3 k kf0 kf1 kf2 kf3 kf4 n) k kf0 kf1 kf2 kf3 kf4 M26 a5 v22
        else
          if v24 ≤ 63 then
            zI (v22 + 1) 48 <| zL (zw M kf1 0 (zN (v22 + 1)) v24) fun M35 =>
            fL_tick_J82 (fL_tick_L3 k kf0 kf1 kf2 kf3 kf4 n) k kf0 kf1 kf2 kf3 kf4 M35 a5 v22
          else
            zI (v22 + 3) 48 <|
            zI (v22 + 3) 48 <| zL (zw M kf1 0 (zN (v22 + 3)) (-(M kf1 0 (zN (v22 + 3))))) fun M36 =>
            fL_tick_J82 (fL_tick_L3 k kf0 kf1 kf2 kf3 kf4 n) k kf0 kf1 kf2 kf3 kf4 M36 a5 v22
      else
        fL_tick_J134 (fL_tick_L3 k kf0 kf1 kf2 kf3 kf4 n) k kf0 kf1 kf2 kf3 kf4 M a5
def fL_tick_J251 (rec : zM → Int32 → Option (Int32 × zM)) (k : zM → Int32 → Option (Int32 × zM)) (kf0 : Nat) (kf1 : Nat) (kf2 : Nat) (kf3 : Nat) (kf4 : Nat) (M : zM) (a5 : Int32) (a6 : Int32) : Option (Int32 × zM) :=
  zL (a6 + 1) fun v47 =>
  rec M v47
def fL_tick_L154 (k : zM → Int32 → Option (Int32 × zM)) (kf0 : Nat) (kf1 : Nat) (kf2 : Nat) (kf3 : Nat) (kf4 : Nat) (a5 : Int32) : Nat → zM → Int32 → Option (Int32 × zM)
  | 0 => fun _ _ => none
  | n + 1 => fun M a6 =>
    zI 0 4 <|
    if (M kf0 0 (zN 0)) ≤ a6 then
      k M a6
    else
      if a5 = a6 then
        zI ((4 * a5) + a6) 16 <| zL (zw M kf4 0 (zN ((4 * a5) + a6)) (-1)) fun M53 =>
        zI ((4 * a5) + a6) 16 <|
        zL (M53 kf4 0 (zN ((4 * a5) + a6))) fun v54 =>
        if v54 < 0 then
          fL_tick_J251 (fL_tick_L154 k kf0 kf1 kf2 kf3 kf4 a5 n) k kf0 kf1 kf2 kf3 kf4 M53 a5 a6
        else
          zI ((12 * a6) + 5) 48 <|
          zC (fL_sliding M53 a5 a6 kf1) fun r57 M56 =>
          if v54 ≤ 63 then
            zC (fL_wear M56 a5 (zir v54 64) (((M53 kf1 0 (zN ((12 * a6) + 5))) * r57) * 1) kf2 kf3) fun _ M59 =>
            fL_tick_J251 (fL_tick_L154 k kf0 kf1 kf2 kf3 kf4 a5 n) k kf0 kf1 kf2 kf3 kf4 M59 a5 a6
          else
            zC (fL_wear M56 a5 (zir v54 64) (((M53 kf1 0 (zN ((12 * a6) + 5))) * r57) * 2) kf2 kf3) fun _ M60 =>
            fL_tick_J251 (fL_tick_L154 k kf0 kf1 kf2 kf3 kf4 a5 n) k kf0 kf1 kf2 kf3 kf4 M60 a5 a6
      else
        zC (fL_place M a5 a6 kf1) fun r43 M42 =>
        zI ((4 * a5) + a6) 16 <| zL (zw M42 kf4 0 (zN ((4 * a5) + a6)) r43) fun M44 =>
        zI ((4 * a5) + a6) 16 <|
        zL (M44 kf4 0 (zN ((4 * a5) + a6))) fun v45 =>
        if v45 < 0 then
          fL_tick_J251 (fL_tick_L154 k kf0 kf1 kf2 kf3 kf4 a5 n) k kf0 kf1 kf2 kf3 kf4 M44 a5 a6
        else
          zI ((12 * a6) + 5) 48 <|
          zC (fL_sliding M44 a5 a6 kf1) fun r49 M48 =>
          if v45 ≤ 63 then
            zC (fL_wear M48 a5 (zir v45 64) (((M44 kf1 0 (zN ((12 * a6) + 5))) * r49) * 1) kf2 kf3) fun _ M51 =>
            fL_tick_J251 (fL_tick_L154 k kf0 kf1 kf2 kf3 kf4 a5 n) k kf0 kf1 kf2 kf3 kf4 M51 a5 a6
          else
            zC (fL_wear M48 a5 (zir v45 64) (((M44 kf1 0 (zN ((12 * a6) + 5))) * r49) * 2) kf2 kf3) fun _ M52 =>
            fL_tick_J251 (fL_tick_L154 k kf0 kf1 kf2 kf3 kf4 a5 n) k kf0 kf1 kf2 kf3 kf4 M52 a5 a6
def fL_tick_L143 (k : zM → Int32 → Option (Int32 × zM)) (kf0 : Nat) (kf1 : Nat) (kf2 : Nat) (kf3 : Nat) (kf4 : Nat) : Nat → zM → Int32 → Option (Int32 × zM)
  | 0 => fun _ _ => none
  | n + 1 => fun M a5 =>
    zI 0 4 <|
    if (M kf0 0 (zN 0)) ≤ a5 then
      k M a5
    else
      fL_tick_L154 (fun M61 v62 => 
        zL (a5 + 1) fun v63 =>
        fL_tick_L143 k kf0 kf1 kf2 kf3 kf4 n M61 v63) kf0 kf1 kf2 kf3 kf4 a5 2000 M 0
def fL_tick_J338 (rec : zM → Int32 → Int32 → Option (Int32 × zM)) (k : zM → Int32 → Int32 → Option (Int32 × zM)) (kf0 : Nat) (kf1 : Nat) (kf2 : Nat) (kf3 : Nat) (kf4 : Nat) (M : zM) (a5 : Int32) (a6 : Int32) (a7 : Int32) (a8 : Int32) : Option (Int32 × zM) :=
  zL (a8 + 1) fun v70 =>
  rec M a5 v70
def fL_tick_L283 (k : zM → Int32 → Int32 → Option (Int32 × zM)) (kf0 : Nat) (kf1 : Nat) (kf2 : Nat) (kf3 : Nat) (kf4 : Nat) (a6 : Int32) (a7 : Int32) : Nat → zM → Int32 → Int32 → Option (Int32 × zM)
  | 0 => fun _ _ _ => none
  | n + 1 => fun M a5 a8 =>
    if 32 ≤ a8 then
      k M a5 a8
    else
      zI ((12 * a7) + 8) 48 <|
      if (M kf1 0 (zN ((12 * a7) + 8))) = 0 then
        zC (fL_worn M a7 a8 kf2 kf3) fun r72 M71 =>
        zI ((12 * a7) + 6) 48 <|
        if r72 < (M71 kf1 0 (zN ((12 * a7) + 6))) then
          zL (a5 ||| 0) fun v74 =>
          fL_tick_J338 (fL_tick_L283 k kf0 kf1 kf2 kf3 kf4 a6 a7 n) k kf0 kf1 kf2 kf3 kf4 M71 v74 a6 a7 a8
        else
          zL (a5 ||| (1 <<< (a7 &&& 31))) fun v75 =>
          fL_tick_J338 (fL_tick_L283 k kf0 kf1 kf2 kf3 kf4 a6 a7 n) k kf0 kf1 kf2 kf3 kf4 M71 v75 a6 a7 a8
      else
        zL (a5 ||| 0) fun v69 =>
        fL_tick_J338 (fL_tick_L283 k kf0 kf1 kf2 kf3 kf4 a6 a7 n) k kf0 kf1 kf2 kf3 kf4 M v69 a6 a7 a8
def fL_tick_L272 (k : zM → Int32 → Int32 → Option (Int32 × zM)) (kf0 : Nat) (kf1 : Nat) (kf2 : Nat) (kf3 : Nat) (kf4 : Nat) (a6 : Int32) : Nat → zM → Int32 → Int32 → Option (Int32 × zM)
  | 0 => fun _ _ _ => none
  | n + 1 => fun M a5 a7 =>
    zI 0 4 <|
    if (M kf0 0 (zN 0)) ≤ a7 then
      k M a5 a7
    else
      fL_tick_L283 (fun M76 v77 v78 => 
        zL (a7 + 1) fun v79 =>
        fL_tick_L272 k kf0 kf1 kf2 kf3 kf4 a6 n M76 v77 v79) kf0 kf1 kf2 kf3 kf4 a6 a7 2000 M a5 0
def fL_tick_J471 (rec : zM → Int32 → Int32 → Option (Int32 × zM)) (k : zM → Int32 → Int32 → Option (Int32 × zM)) (kf0 : Nat) (kf1 : Nat) (kf2 : Nat) (kf3 : Nat) (kf4 : Nat) (M : zM) (a5 : Int32) (a6 : Int32) (a7 : Int32) (a8 : Int32) : Option (Int32 × zM) :=
  zL (a8 + 1) fun v90 =>
  rec M a6 v90
def fL_tick_L395 (k : zM → Int32 → Int32 → Option (Int32 × zM)) (kf0 : Nat) (kf1 : Nat) (kf2 : Nat) (kf3 : Nat) (kf4 : Nat) (a5 : Int32) (a7 : Int32) : Nat → zM → Int32 → Int32 → Option (Int32 × zM)
  | 0 => fun _ _ _ => none
  | n + 1 => fun M a6 a8 =>
    zI 0 4 <|
    if (M kf0 0 (zN 0)) ≤ a8 then
      k M a6 a8
    else
      zI ((4 * a7) + a8) 16 <|
      zL (M kf4 0 (zN ((4 * a7) + a8))) fun v88 =>
      if v88 < 0 then
        fL_tick_J471 (fL_tick_L395 k kf0 kf1 kf2 kf3 kf4 a5 a7 n) k kf0 kf1 kf2 kf3 kf4 M a5 a6 a7 a8
      else
        zC (fL_worn M a7 (zir v88 64) kf2 kf3) fun r92 M91 =>
        zI ((12 * a7) + 6) 48 <|
        if (M91 kf1 0 (zN ((12 * a7) + 6))) ≤ r92 then
          zI ((12 * a8) + 7) 48 <|
          zI ((12 * a8) + 7) 48 <| zL (zw M91 kf1 0 (zN ((12 * a8) + 7)) ((M91 kf1 0 (zN ((12 * a8) + 7))) + 1)) fun M94 =>
          zL (a6 ||| (1 <<< (a8 &&& 31))) fun v95 =>
          fL_tick_J471 (fL_tick_L395 k kf0 kf1 kf2 kf3 kf4 a5 a7 n) k kf0 kf1 kf2 kf3 kf4 M94 a5 v95 a7 a8
        else
          fL_tick_J471 (fL_tick_L395 k kf0 kf1 kf2 kf3 kf4 a5 a7 n) k kf0 kf1 kf2 kf3 kf4 M91 a5 a6 a7 a8
def fL_tick_J477 (rec : zM → Int32 → Int32 → Option (Int32 × zM)) (k : zM → Int32 → Int32 → Option (Int32 × zM)) (kf0 : Nat) (kf1 : Nat) (kf2 : Nat) (kf3 : Nat) (kf4 : Nat) (M : zM) (a5 : Int32) (a6 : Int32) (a7 : Int32) : Option (Int32 × zM) :=
  zL (a7 + 1) fun v99 =>
  rec M a6 v99
def fL_tick_L353 (k : zM → Int32 → Int32 → Option (Int32 × zM)) (kf0 : Nat) (kf1 : Nat) (kf2 : Nat) (kf3 : Nat) (kf4 : Nat) (a5 : Int32) : Nat → zM → Int32 → Int32 → Option (Int32 × zM)
  | 0 => fun _ _ _ => none
  | n + 1 => fun M a6 a7 =>
    zI 0 4 <|
    if (M kf0 0 (zN 0)) ≤ a7 then
      k M a6 a7
    else
      if ((a5 >>> (a7 &&& 31)) &&& 1) = 0 then
        fL_tick_J477 (fL_tick_L353 k kf0 kf1 kf2 kf3 kf4 a5 n) k kf0 kf1 kf2 kf3 kf4 M a5 a6 a7
      else
        zI ((12 * a7) + 8) 48 <| zL (zw M kf1 0 (zN ((12 * a7) + 8)) 1) fun M85 =>
        zI 3 4 <|
        zI 3 4 <| zL (zw M85 kf0 0 (zN 3) ((M85 kf0 0 (zN 3)) + 1)) fun M86 =>
        fL_tick_L395 (fun M96 v97 v98 => 
          fL_tick_J477 (fL_tick_L353 k kf0 kf1 kf2 kf3 kf4 a5 n) k kf0 kf1 kf2 kf3 kf4 M96 a5 v97 a7) kf0 kf1 kf2 kf3 kf4 a5 a7 2000 M86 a6 0
def fL_tick (M : zM) (kf0 : Nat) (kf1 : Nat) (kf2 : Nat) (kf3 : Nat) (kf4 : Nat) : Option (Int32 × zM) :=
  fL_tick_L3 (fun M37 v38 => 
    fL_tick_L143 (fun M64 v65 => 
      fL_tick_L272 (fun M80 v81 v82 => 
        fL_tick_L353 (fun M100 v101 v102 => 
          zI 2 4 <|
          zI 2 4 <| zL (zw M100 kf0 0 (zN 2) ((M100 kf0 0 (zN 2)) + 1)) fun M103 =>
          some (v81 + (100 * v101), M103)) kf0 kf1 kf2 kf3 kf4 v81 2000 M80 0 0) kf0 kf1 kf2 kf3 kf4 0 2000 M64 0 0) kf0 kf1 kf2 kf3 kf4 2000 M37 0) kf0 kf1 kf2 kf3 kf4 2000 M 0
def fL_copy_L2 (k : zM → Int32 → Option (Unit × zM)) (kf0 : Nat) (nf0 : Nat) (kf1 : Nat) (nf1 : Nat) (a2 : Int32) : Nat → zM → Int32 → Option (Unit × zM)
  | 0 => fun _ _ => none
  | n + 1 => fun M a3 =>
    if a2 ≤ a3 then
      k M a3
    else
      zI a3 nf0 <|
      zI a3 nf1 <| zL (zw M kf1 0 (zN a3) (M kf0 0 (zN a3))) fun M22 =>
      zL (a3 + 1) fun v23 =>
      fL_copy_L2 k kf0 nf0 kf1 nf1 a2 n M22 v23
def fL_copy (M : zM) (kf0 : Nat) (nf0 : Nat) (kf1 : Nat) (nf1 : Nat) (v2 : Int32) : Option (Unit × zM) :=
  fL_copy_L2 (fun M24 v25 => 
    some ((), M24)) kf0 nf0 kf1 nf1 v2 2000 M 0
def fL_same_L61 (k : zM → Int32 → Int32 → Int32 → Option (Int32 × zM))  (a5 : Int32) (a6 : Int32) (a7 : Int32) (a8 : Int32) (a9 : Int32) (a10 : Int32) (a11 : Int32) (a14 : Int32) : Nat → zM → Int32 → Int32 → Int32 → Option (Int32 × zM)
  | 0 => fun _ _ _ _ => none
  | n + 1 => fun M a12 a13 a15 =>
    if a15 < 0 then
      k M a12 a13 a15
    else
      zC (fL_worn M a9 a15 28 29) fun r26 M25 =>
      if r26 < a12 then
        if r26 ≤ a12 then
          zC (fX6_wear M25 a9 a15) fun r30 M29 =>
          if a11 = 0 then
            if r30 = (-5) then
              zL (a15 + (-1)) fun v33 =>
              fL_same_L61 k a5 a6 a7 a8 a9 a10 a11 a14 n M29 a12 a13 v33
            else
              some (0, M29)
          else
            if r30 = r26 then
              zL (a15 + (-1)) fun v35 =>
              fL_same_L61 k a5 a6 a7 a8 a9 a10 a11 a14 n M29 a12 a13 v35
            else
              some (0, M29)
        else
          zC (fX6_wear M25 a9 a15) fun r37 M36 =>
          if a11 = 0 then
            if r37 = (-5) then
              zL (a15 + (-1)) fun v40 =>
              fL_same_L61 k a5 a6 a7 a8 a9 a10 a11 a14 n M36 r26 a13 v40
            else
              some (0, M36)
          else
            if r37 = r26 then
              zL (a15 + (-1)) fun v42 =>
              fL_same_L61 k a5 a6 a7 a8 a9 a10 a11 a14 n M36 r26 a13 v42
            else
              some (0, M36)
      else
        if r26 ≤ a12 then
          zC (fX6_wear M25 a9 a15) fun r45 M44 =>
          if a11 = 0 then
            if r45 = (-5) then
              zL (a15 + (-1)) fun v48 =>
              fL_same_L61 k a5 a6 a7 a8 a9 a10 a11 a14 n M44 a12 a15 v48
            else
              some (0, M44)
          else
            if r45 = r26 then
              zL (a15 + (-1)) fun v50 =>
              fL_same_L61 k a5 a6 a7 a8 a9 a10 a11 a14 n M44 a12 a15 v50
            else
              some (0, M44)
        else
          zC (fX6_wear M25 a9 a15) fun r52 M51 =>
          if a11 = 0 then
            if r52 = (-5) then
              zL (a15 + (-1)) fun v55 =>
              fL_same_L61 k a5 a6 a7 a8 a9 a10 a11 a14 n M51 r26 a15 v55
            else
              some (0, M51)
          else
            if r52 = r26 then
              zL (a15 + (-1)) fun v57 =>
              fL_same_L61 k a5 a6 a7 a8 a9 a10 a11 a14 n M51 r26 a15 v57
            else
              some (0, M51)
def fL_same_L144 (k : zM → Int32 → Int32 → Int32 → Option (Int32 × zM))  (a5 : Int32) (a7 : Int32) (a8 : Int32) (a9 : Int32) (a10 : Int32) (a11 : Int32) (a12 : Int32) (a13 : Int32) : Nat → zM → Int32 → Int32 → Int32 → Option (Int32 × zM)
  | 0 => fun _ _ _ _ => none
  | n + 1 => fun M a6 a14 a15 =>
    zI 0 4 <|
    if (M 26 0 (zN 0)) ≤ a15 then
      k M a6 a14 a15
    else
      if a15 = a9 then
        zL (a15 + 1) fun v158 =>
        fL_same_L144 k a5 a7 a8 a9 a10 a11 a12 a13 n M a6 a14 v158
      else
        zC (fL_place M a9 a15 27) fun r65 M64 =>
        if 0 ≤ r65 then
          zL (a14 ||| (1 <<< (a15 &&& 31))) fun v67 =>
          if a9 ≤ a15 then
            zL (a6 + 0) fun v69 =>
            if a11 = 0 then
              zL (a15 + 1) fun v71 =>
              fL_same_L144 k a5 a7 a8 a9 a10 a11 a12 a13 n M64 v69 v67 v71
            else
              zI ((12 * a15) + 8) 48 <|
              if (M64 27 0 (zN ((12 * a15) + 8))) = 0 then
                zC (fX6_crossing M64 a9 a15 0) fun r75 M74 =>
                if r75 = 1 then
                  zC (fX6_crossing M74 a9 a15 1) fun r78 M77 =>
                  if r78 = (zir r65 64) then
                    zC (fX6_crossing M77 a15 a9 2) fun r81 M80 =>
                    if r81 = (zir r65 64) then
                      zC (fX6_crossing M80 a9 a15 3) fun r84 M83 =>
                      if r84 = (r65 / 64) then
                        zC (fX6_crossing M83 a9 a15 4) fun r87 M86 =>
                        zC (fL_sliding M86 a9 a15 27) fun r89 M88 =>
                        if r87 = r89 then
                          zC (fX6_crossing M88 a9 a15 5) fun r92 M91 =>
                          zI ((12 * a15) + 5) 48 <|
                          zC (fL_sliding M91 a9 a15 27) fun r94 M93 =>
                          if r65 ≤ 63 then
                            if r92 = (((M91 27 0 (zN ((12 * a15) + 5))) * r94) * 1) then
                              zL (a15 + 1) fun v97 =>
                              fL_same_L144 k a5 a7 a8 a9 a10 a11 a12 a13 n M93 v69 v67 v97
                            else
                              some (0, M93)
                          else
                            if r92 = (((M91 27 0 (zN ((12 * a15) + 5))) * r94) * 2) then
                              zL (a15 + 1) fun v99 =>
                              fL_same_L144 k a5 a7 a8 a9 a10 a11 a12 a13 n M93 v69 v67 v99
                            else
                              some (0, M93)
                        else
                          some (0, M88)
                      else
                        some (0, M83)
                    else
                      some (0, M80)
                  else
                    some (0, M77)
                else
                  some (0, M74)
              else
                zL (a15 + 1) fun v73 =>
                fL_same_L144 k a5 a7 a8 a9 a10 a11 a12 a13 n M64 v69 v67 v73
          else
            zL (a6 + 1) fun v100 =>
            if a11 = 0 then
              zL (a15 + 1) fun v102 =>
              fL_same_L144 k a5 a7 a8 a9 a10 a11 a12 a13 n M64 v100 v67 v102
            else
              zI ((12 * a15) + 8) 48 <|
              if (M64 27 0 (zN ((12 * a15) + 8))) = 0 then
                zC (fX6_crossing M64 a9 a15 0) fun r106 M105 =>
                if r106 = 1 then
                  zC (fX6_crossing M105 a9 a15 1) fun r109 M108 =>
                  if r109 = (zir r65 64) then
                    zC (fX6_crossing M108 a15 a9 2) fun r112 M111 =>
                    if r112 = (zir r65 64) then
                      zC (fX6_crossing M111 a9 a15 3) fun r115 M114 =>
                      if r115 = (r65 / 64) then
                        zC (fX6_crossing M114 a9 a15 4) fun r118 M117 =>
                        zC (fL_sliding M117 a9 a15 27) fun r120 M119 =>
                        if r118 = r120 then
                          zC (fX6_crossing M119 a9 a15 5) fun r123 M122 =>
                          zI ((12 * a15) + 5) 48 <|
                          zC (fL_sliding M122 a9 a15 27) fun r125 M124 =>
                          if r65 ≤ 63 then
                            if r123 = (((M122 27 0 (zN ((12 * a15) + 5))) * r125) * 1) then
                              zL (a15 + 1) fun v128 =>
                              fL_same_L144 k a5 a7 a8 a9 a10 a11 a12 a13 n M124 v100 v67 v128
                            else
                              some (0, M124)
                          else
                            if r123 = (((M122 27 0 (zN ((12 * a15) + 5))) * r125) * 2) then
                              zL (a15 + 1) fun v130 =>
                              fL_same_L144 k a5 a7 a8 a9 a10 a11 a12 a13 n M124 v100 v67 v130
                            else
                              some (0, M124)
                        else
                          some (0, M119)
                      else
                        some (0, M114)
                    else
                      some (0, M111)
                  else
                    some (0, M108)
                else
                  some (0, M105)
              else
                zL (a15 + 1) fun v104 =>
                fL_same_L144 k a5 a7 a8 a9 a10 a11 a12 a13 n M64 v100 v67 v104
        else
          zL (a14 ||| 0) fun v131 =>
          zL (a6 + 0) fun v132 =>
          if a11 = 0 then
            zL (a15 + 1) fun v134 =>
            fL_same_L144 k a5 a7 a8 a9 a10 a11 a12 a13 n M64 v132 v131 v134
          else
            zI ((12 * a15) + 8) 48 <|
            if (M64 27 0 (zN ((12 * a15) + 8))) = 0 then
              zC (fX6_crossing M64 a9 a15 0) fun r138 M137 =>
              if r138 = 0 then
                zC (fX6_crossing M137 a9 a15 1) fun r141 M140 =>
                if r141 = (-6) then
                  zC (fX6_crossing M140 a15 a9 2) fun r144 M143 =>
                  if r144 = (-6) then
                    zC (fX6_crossing M143 a9 a15 3) fun r147 M146 =>
                    if r147 = (-6) then
                      zC (fX6_crossing M146 a9 a15 4) fun r150 M149 =>
                      zC (fL_sliding M149 a9 a15 27) fun r152 M151 =>
                      if r150 = r152 then
                        zC (fX6_crossing M151 a9 a15 5) fun r155 M154 =>
                        if r155 = 0 then
                          zL (a15 + 1) fun v157 =>
                          fL_same_L144 k a5 a7 a8 a9 a10 a11 a12 a13 n M154 v132 v131 v157
                        else
                          some (0, M154)
                      else
                        some (0, M151)
                    else
                      some (0, M146)
                  else
                    some (0, M143)
                else
                  some (0, M140)
              else
                some (0, M137)
            else
              zL (a15 + 1) fun v136 =>
              fL_same_L144 k a5 a7 a8 a9 a10 a11 a12 a13 n M64 v132 v131 v136
def fL_same_L480 (k : zM → Int32 → Option (Int32 × zM))  (a5 : Int32) (a6 : Int32) (a7 : Int32) (a8 : Int32) (a9 : Int32) (a10 : Int32) (a11 : Int32) (a12 : Int32) (a13 : Int32) (a14 : Int32) : Nat → zM → Int32 → Option (Int32 × zM)
  | 0 => fun _ _ => none
  | n + 1 => fun M a15 =>
    if 9 ≤ a15 then
      k M a15
    else
      zC (fX6_kite M a9 a15) fun r168 M167 =>
      zI (a10 + a15) 48 <|
      if a15 = 3 then
        if r168 = ((M167 27 0 (zN (a10 + a15))) + 10) then
          zL (a15 + 1) fun v171 =>
          fL_same_L480 k a5 a6 a7 a8 a9 a10 a11 a12 a13 a14 n M167 v171
        else
          some (0, M167)
      else
        if a15 = 4 then
          if r168 = ((M167 27 0 (zN (a10 + a15))) + 10) then
            zL (a15 + 1) fun v176 =>
            fL_same_L480 k a5 a6 a7 a8 a9 a10 a11 a12 a13 a14 n M167 v176
          else
            some (0, M167)
        else
          if r168 = ((M167 27 0 (zN (a10 + a15))) + 0) then
            zL (a15 + 1) fun v174 =>
            fL_same_L480 k a5 a6 a7 a8 a9 a10 a11 a12 a13 a14 n M167 v174
          else
            some (0, M167)
def fL_same_L16 (k : zM → Int32 → Int32 → Int32 → Int32 → Int32 → Option (Int32 × zM))  : Nat → zM → Int32 → Int32 → Int32 → Int32 → Int32 → Option (Int32 × zM)
  | 0 => fun _ _ _ _ _ _ => none
  | n + 1 => fun M a5 a6 a7 a8 a9 =>
    zI 0 4 <|
    if (M 26 0 (zN 0)) ≤ a9 then
      k M a5 a6 a7 a8 a9
    else
      zL (12 * a9) fun v22 =>
      zI (v22 + 8) 48 <|
      if (M 27 0 (zN (v22 + 8))) = 0 then
        fL_same_L61 (fun M214 v215 v216 v217 => 
          fL_same_L144 (fun M218 v219 v220 v221 => 
            zL (a5 ||| (1 <<< (a9 &&& 31))) fun v222 =>
            zI (v22 + 7) 48 <|
            zL (a7 + (M218 27 0 (zN (v22 + 7)))) fun v223 =>
            if a8 < 0 then
              fL_same_L480 (fun M225 v226 => 
                zC (fX6_kite M225 a9 9) fun r228 M227 =>
                if r228 = v215 then
                  zC (fX6_kite M227 a9 10) fun r231 M230 =>
                  if r231 = v216 then
                    zC (fX6_kite M230 a9 11) fun r234 M233 =>
                    if r234 = v220 then
                      zL (a9 + 1) fun v236 =>
                      fL_same_L16 k n M233 v222 v219 v223 a9 v236
                    else
                      some (0, M233)
                  else
                    some (0, M230)
                else
                  some (0, M227)) v222 v219 v223 a9 a9 v22 1 v215 v216 v220 2000 M218 0
            else
              zI (v22 + 7) 48 <|
              zI ((12 * a8) + 7) 48 <|
              if (M218 27 0 (zN (v22 + 7))) ≤ (M218 27 0 (zN ((12 * a8) + 7))) then
                fL_same_L480 (fun M238 v239 => 
                  zC (fX6_kite M238 a9 9) fun r241 M240 =>
                  if r241 = v215 then
                    zC (fX6_kite M240 a9 10) fun r244 M243 =>
                    if r244 = v216 then
                      zC (fX6_kite M243 a9 11) fun r247 M246 =>
                      if r247 = v220 then
                        zL (a9 + 1) fun v249 =>
                        fL_same_L16 k n M246 v222 v219 v223 a8 v249
                      else
                        some (0, M246)
                    else
                      some (0, M243)
                  else
                    some (0, M240)) v222 v219 v223 a8 a9 v22 1 v215 v216 v220 2000 M218 0
              else
                fL_same_L480 (fun M250 v251 => 
                  zC (fX6_kite M250 a9 9) fun r253 M252 =>
                  if r253 = v215 then
                    zC (fX6_kite M252 a9 10) fun r256 M255 =>
                    if r256 = v216 then
                      zC (fX6_kite M255 a9 11) fun r259 M258 =>
                      if r259 = v220 then
                        zL (a9 + 1) fun v261 =>
                        fL_same_L16 k n M258 v222 v219 v223 a9 v261
                      else
                        some (0, M258)
                    else
                      some (0, M255)
                  else
                    some (0, M252)) v222 v219 v223 a9 a9 v22 1 v215 v216 v220 2000 M218 0) a5 a7 a8 a9 v22 1 v215 v216 2000 M214 a6 0 0) a5 a6 a7 a8 a9 v22 1 0 2000 M 0 0 31
      else
        fL_same_L61 (fun M58 v59 v60 v61 => 
          fL_same_L144 (fun M159 v160 v161 v162 => 
            zL (a5 ||| 0) fun v163 =>
            zI (v22 + 7) 48 <|
            zL (a7 + (M159 27 0 (zN (v22 + 7)))) fun v164 =>
            if a8 < 0 then
              fL_same_L480 (fun M177 v178 => 
                zC (fX6_kite M177 a9 9) fun r180 M179 =>
                if r180 = 0 then
                  zC (fX6_kite M179 a9 10) fun r183 M182 =>
                  if r183 = 0 then
                    zC (fX6_kite M182 a9 11) fun r186 M185 =>
                    if r186 = 0 then
                      zL (a9 + 1) fun v188 =>
                      fL_same_L16 k n M185 v163 v160 v164 a9 v188
                    else
                      some (0, M185)
                  else
                    some (0, M182)
                else
                  some (0, M179)) v163 v160 v164 a9 a9 v22 0 v59 v60 v161 2000 M159 0
            else
              zI (v22 + 7) 48 <|
              zI ((12 * a8) + 7) 48 <|
              if (M159 27 0 (zN (v22 + 7))) ≤ (M159 27 0 (zN ((12 * a8) + 7))) then
                fL_same_L480 (fun M190 v191 => 
                  zC (fX6_kite M190 a9 9) fun r193 M192 =>
                  if r193 = 0 then
                    zC (fX6_kite M192 a9 10) fun r196 M195 =>
                    if r196 = 0 then
                      zC (fX6_kite M195 a9 11) fun r199 M198 =>
                      if r199 = 0 then
                        zL (a9 + 1) fun v201 =>
                        fL_same_L16 k n M198 v163 v160 v164 a8 v201
                      else
                        some (0, M198)
                    else
                      some (0, M195)
                  else
                    some (0, M192)) v163 v160 v164 a8 a9 v22 0 v59 v60 v161 2000 M159 0
              else
                fL_same_L480 (fun M202 v203 => 
                  zC (fX6_kite M202 a9 9) fun r205 M204 =>
                  if r205 = 0 then
                    zC (fX6_kite M204 a9 10) fun r208 M207 =>
                    if r208 = 0 then
                      zC (fX6_kite M207 a9 11) fun r211 M210 =>
                      if r211 = 0 then
                        zL (a9 + 1) fun v213 =>
                        fL_same_L16 k n M210 v163 v160 v164 a9 v213
                      else
                        some (0, M210)
                    else
                      some (0, M207)
                  else
                    some (0, M204)) v163 v160 v164 a9 a9 v22 0 v59 v60 v161 2000 M159 0) a5 a7 a8 a9 v22 0 v59 v60 2000 M58 a6 0 0) a5 a6 a7 a8 a9 v22 0 0 2000 M 0 0 31
def fL_same (M : zM) : Option (Int32 × zM) :=
  fL_same_L16 (fun M262 v263 v264 v265 v266 v267 => 
    zC (fX6_count M262 0) fun r269 M268 =>
    zI 0 4 <|
    if r269 = (M268 26 0 (zN 0)) then
      zC (fX6_count M268 1) fun r272 M271 =>
      if r272 = v263 then
        zC (fX6_count M271 2) fun r275 M274 =>
        if r275 = v264 then
          zC (fX6_count M274 3) fun r278 M277 =>
          zI 2 4 <|
          if r278 = (M277 26 0 (zN 2)) then
            zC (fX6_count M277 4) fun r281 M280 =>
            zI 1 4 <|
            if r281 = (M280 26 0 (zN 1)) then
              zC (fX6_count M280 5) fun r284 M283 =>
              if r284 = v266 then
                zC (fX6_count M283 6) fun r287 M286 =>
                if r287 = v265 then
                  zC (fX6_count M286 7) fun r290 M289 =>
                  zI 3 4 <|
                  if r290 = (M289 26 0 (zN 3)) then
                    some (1, M289)
                  else
                    some (0, M289)
                else
                  some (0, M286)
              else
                some (0, M283)
            else
              some (0, M280)
          else
            some (0, M277)
        else
          some (0, M274)
      else
        some (0, M271)
    else
      some (0, M268))  2000 M 0 0 0 (-6) 0
def fL_would_L246 (k : zM → Int32 → Int32 → Option (Int32 × zM))  (a11 : Int32) (a12 : Int32) (a13 : Int32) (a14 : Int32) (a15 : Int32) (a16 : Int32) (a17 : Int32) (a18 : Int32) (a20 : Int32) : Nat → zM → Int32 → Int32 → Option (Int32 × zM)
  | 0 => fun _ _ _ => none
  | n + 1 => fun M a19 a22 =>
    zI 0 4 <|
    if (M 26 0 (zN 0)) ≤ a22 then
      k M a19 a22
    else
      zI ((12 * a22) + 7) 48 <|
      zI ((12 * a22) + 7) 48 <|
      zL (a19 + ((M 32 0 (zN ((12 * a22) + 7))) - (M 27 0 (zN ((12 * a22) + 7))))) fun v42 =>
      zL (a22 + 1) fun v43 =>
      fL_would_L246 k a11 a12 a13 a14 a15 a16 a17 a18 a20 n M v42 v43
def fL_would_J236 (rec : zM → Int32 → Int32 → Int32 → Int32 → Int32 → Int32 → Option (Int32 × zM)) (k : zM → Int32 → Int32 → Int32 → Int32 → Int32 → Int32 → Option (Int32 × zM)) (M : zM) (a11 : Int32) (a12 : Int32) (a13 : Int32) (a14 : Int32) (a15 : Int32) (a16 : Int32) (a17 : Int32) (a18 : Int32) (a19 : Int32) (a20 : Int32) : Option (Int32 × zM) :=
  if a20 = a17 then
    fL_would_L246 (fun M44 v45 v46 => 
      zL (a20 + 1) fun v47 =>
      rec M44 a14 a15 a16 a18 v45 v47) a11 a12 a13 a14 a15 a16 a17 a18 a20 2000 M a19 0
  else
    zL (a20 + 1) fun v40 =>
    rec M a14 a15 a16 a18 a19 v40
def fL_would_J215 (rec : zM → Int32 → Int32 → Int32 → Int32 → Int32 → Int32 → Option (Int32 × zM)) (k : zM → Int32 → Int32 → Int32 → Int32 → Int32 → Int32 → Option (Int32 × zM)) (M : zM) (a11 : Int32) (a12 : Int32) (a13 : Int32) (a14 : Int32) (a15 : Int32) (a16 : Int32) (a17 : Int32) (a18 : Int32) (a19 : Int32) (a20 : Int32) (a21 : Int32) : Option (Int32 × zM) :=
  if a17 < a20 then
    zL (a18 ||| 0) fun v38 =>
    fL_would_J236 rec k M a11 a12 a13 a14 a15 a16 a17 v38 a19 a20
  else
    zL (a18 ||| (zir a21 100)) fun v48 =>
    fL_would_J236 rec k M a11 a12 a13 a14 a15 a16 a17 v48 a19 a20
def fL_would_J194 (rec : zM → Int32 → Int32 → Int32 → Int32 → Int32 → Int32 → Option (Int32 × zM)) (k : zM → Int32 → Int32 → Int32 → Int32 → Int32 → Int32 → Option (Int32 × zM)) (M : zM) (a11 : Int32) (a12 : Int32) (a13 : Int32) (a14 : Int32) (a15 : Int32) (a16 : Int32) (a17 : Int32) (a18 : Int32) (a19 : Int32) (a20 : Int32) (a21 : Int32) : Option (Int32 × zM) :=
  if a15 = 0 then
    if (zir a21 100) ≤ 0 then
      fL_would_J215 rec k M a11 a12 a13 a14 a15 a16 a17 a18 a19 a20 a21
    else
      fL_would_J215 rec k M a11 a12 a13 a14 a21 a20 a17 a18 a19 a20 a21
  else
    fL_would_J215 rec k M a11 a12 a13 a14 a15 a16 a17 a18 a19 a20 a21
def fL_would_L144 (k : zM → Int32 → Int32 → Int32 → Int32 → Int32 → Int32 → Option (Int32 × zM))  (a11 : Int32) (a12 : Int32) (a13 : Int32) (a17 : Int32) : Nat → zM → Int32 → Int32 → Int32 → Int32 → Int32 → Int32 → Option (Int32 × zM)
  | 0 => fun _ _ _ _ _ _ _ => none
  | n + 1 => fun M a14 a15 a16 a18 a19 a20 =>
    if 300 < a20 then
      k M a14 a15 a16 a18 a19 a20
    else
      zC (fL_tick M 31 32 33 34 30) fun r34 M33 =>
      if a13 = 0 then
        fL_would_J194 (fL_would_L144 k a11 a12 a13 a17 n) k M33 a11 a12 a13 a14 a15 a16 a17 a18 a19 a20 r34
      else
        if 0 ≤ a14 then
          fL_would_J194 (fL_would_L144 k a11 a12 a13 a17 n) k M33 a11 a12 a13 a14 a15 a16 a17 a18 a19 a20 r34
        else
          zI ((4 * a11) + a12) 16 <|
          if (M33 30 0 (zN ((4 * a11) + a12))) < 0 then
            fL_would_J194 (fL_would_L144 k a11 a12 a13 a17 n) k M33 a11 a12 a13 a14 a15 a16 a17 a18 a19 a20 r34
          else
            fL_would_J194 (fL_would_L144 k a11 a12 a13 a17 n) k M33 a11 a12 a13 a20 a15 a16 a17 a18 a19 a20 r34
def fL_would_L296 (k : zM → Int32 → Option (Int32 × zM))  (a11 : Int32) (a12 : Int32) (a13 : Int32) (a14 : Int32) (a15 : Int32) (a16 : Int32) (a17 : Int32) (a18 : Int32) (a19 : Int32) : Nat → zM → Int32 → Option (Int32 × zM)
  | 0 => fun _ _ => none
  | n + 1 => fun M a20 =>
    if a15 ≤ 0 then
      k M a20
    else
      if (((zir a15 100) >>> (a20 &&& 31)) &&& 1) = 0 then
        zL (a20 + 1) fun v61 =>
        fL_would_L296 k a11 a12 a13 a14 a15 a16 a17 a18 a19 n M v61
      else
        k M a20
def fL_would_J116 (M : zM) (a1 : Int32) (a11 : Int32) (a12 : Int32) (a13 : Int32) (a14 : Int32) : Option (Int32 × zM) :=
  zC (fL_low M (a1 >>> (3 &&& 31)) 60) fun r30 M29 =>
  zL (1 + r30) fun v31 =>
  fL_would_L144 (fun M52 v53 v54 v55 v56 v57 v58 => 
    fL_would_L296 (fun M62 v63 => 
      zC (fX6_firstCut M62 0) fun r65 M64 =>
      if r65 = v55 then
        zC (fX6_firstCut M64 1) fun r68 M67 =>
        if v54 = 0 then
          if r68 = (-6) then
            zC (fX6_firstCut M67 2) fun r89 M88 =>
            if r89 = (-6) then
              zC (fX6_ifPassed M88 v31 0) fun r92 M91 =>
              if r92 = v56 then
                zC (fX6_ifPassed M91 v31 1) fun r95 M94 =>
                if r95 = v57 then
                  if a13 = 0 then
                    some (1, M94)
                  else
                    zC (fX6_meets M94 a11 a12) fun r99 M98 =>
                    if r99 = v53 then
                      zC (fX6_meets M98 a12 a11) fun r102 M101 =>
                      if r102 = v53 then
                        some (1, M101)
                      else
                        some (0, M101)
                    else
                      some (0, M98)
                else
                  some (0, M94)
              else
                some (0, M91)
            else
              some (0, M88)
          else
            some (0, M67)
        else
          if r68 = v63 then
            zC (fX6_firstCut M67 2) fun r72 M71 =>
            if r72 = (v54 / 100) then
              zC (fX6_ifPassed M71 v31 0) fun r75 M74 =>
              if r75 = v56 then
                zC (fX6_ifPassed M74 v31 1) fun r78 M77 =>
                if r78 = v57 then
                  if a13 = 0 then
                    some (1, M77)
                  else
                    zC (fX6_meets M77 a11 a12) fun r82 M81 =>
                    if r82 = v53 then
                      zC (fX6_meets M81 a12 a11) fun r85 M84 =>
                      if r85 = v53 then
                        some (1, M84)
                      else
                        some (0, M84)
                    else
                      some (0, M81)
                else
                  some (0, M77)
              else
                some (0, M74)
            else
              some (0, M71)
          else
            some (0, M67)
      else
        some (0, M64)) a11 a12 a13 v53 v54 v55 v31 v56 v57 2000 M52 0) a11 a12 a13 v31 2000 M29 a14 0 (-6) 0 0 1
def fL_would (M : zM) (v1 : Int32) : Option (Int32 × zM) :=
  zC (fL_copy M 26 4 31 4 4) fun _ M21 =>
  zC (fL_copy M21 27 48 32 48 48) fun _ M22 =>
  zC (fL_copy M22 28 64 33 64 64) fun _ M23 =>
  zC (fL_copy M23 29 64 34 64 64) fun _ M24 =>
  zI 0 4 <|
  zC (fL_low M24 v1 (M24 26 0 (zN 0))) fun r26 M25 =>
  zI 0 4 <|
  zV (M25 26 0 (zN 0)) <|
  zL (zir (r26 + 1) (M25 26 0 (zN 0))) fun v27 =>
  if r26 = v27 then
    fL_would_J116 M25 v1 r26 v27 0 (-6)
  else
    zI ((12 * r26) + 8) 48 <|
    if (M25 27 0 (zN ((12 * r26) + 8))) = 0 then
      zI ((12 * v27) + 8) 48 <|
      if (M25 27 0 (zN ((12 * v27) + 8))) = 0 then
        zC (fL_place M25 r26 v27 27) fun r107 M106 =>
        if r107 < 0 then
          fL_would_J116 M106 v1 r26 v27 1 (-6)
        else
          fL_would_J116 M106 v1 r26 v27 1 0
      else
        fL_would_J116 M25 v1 r26 v27 0 (-6)
    else
      fL_would_J116 M25 v1 r26 v27 0 (-6)
