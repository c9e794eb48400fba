def fX9_homes (s : xM) : Option (Int32 × xM) :=
  bd (fX8_measure s) fun _ s2 =>
  bd (fX9_homesIf (gi s2 1 4) s2) fun r4 s5 =>
  some (r4, s5)
def fX9_atBounds (a0 : Int32) (a1 : Int32) (a2 : Int32) (s : xM) : Option (Int32 × xM) :=
  some ((if a1 < (if a0 < a2 then a0 else a2) then (if a0 < a2 then a0 else a2) else a1), s)
def fX9_goRounds_L25 (k92 : xM → Option (Int32 × xM)) (a1 : Int32) (a2 : Int32) : Nat → Int32 → xM → Option (Int32 × xM)
  | 0, _, _ => none
  | n + 1, a3, s =>
    if a1 < a3 then
      k92 s
    else
      if (20 : Int32) < a3 then
        k92 s
      else
        gd (inb (a3 - (1 : Int32)) 21) <|
        bd (fX6_peopleBut (gi s 93 (a3 - (1 : Int32)).toNatClampNeg) s) fun r4 s5 =>
        lz (if (1 : Int32) < r4 then r4 else (1 : Int32)) fun v7 =>
        gd (decide (¬ v7 = 0)) <|
        bd (fX9_atBounds (((gi s5 1 4) * a2) / v7) (1 : Int32) (3600 : Int32) s5) fun r10 s11 =>
        bd (fX9_homesIf r10 s11) fun r13 s14 =>
        gd (inb a3 21) <|
        lz (si s14 93 a3.toNatClampNeg r13) fun s17 =>
        fX9_goRounds_L25 k92 a1 a2 n (a3 + 1) s17
def fX9_goRounds (a1 : Int32) (s : xM) : Option (Int32 × xM) :=
  bd (fX8_measure s) fun _ s2 =>
  lz (si s2 93 0 (0 : Int32)) fun s4 =>
  bd (fX6_peopleBut (0 : Int32) s4) fun r6 s7 =>
  fX9_goRounds_L25 (fun s9 =>
      some (0, s9)) a1 r6 fu (1 : Int32) s7
def fX9_round (a1 : Int32) (s : xM) : Option (Int32 × xM) :=
  bd (fX9_isWithin a1 (0 : Int32) (20 : Int32) s) fun r1 s2 =>
  if r1 = 0 then
    some ((-2 : Int32), s2)
  else
    bd (fX9_goRounds a1 s2) fun _ s6 =>
    gd (inb a1 21) <|
    some ((gi s6 93 a1.toNatClampNeg), s6)
def fX9_rest_L28 (k48 : Int32 → xM → Option (Int32 × xM)) (k80 : xM → Option (Int32 × xM)) (a1 : Int32) (a2 : Int32) : Nat → Int32 → xM → Option (Int32 × xM)
  | 0, _, _ => none
  | n + 1, a3, s =>
    if a2 ≤ a3 then
      k80 s
    else
      gd (inb a3 21) <|
      gd (inb a2 21) <|
      if (gi s 93 a3.toNatClampNeg) = (gi s 93 a2.toNatClampNeg) then
        k48 a3 s
      else
        fX9_rest_L28 k48 k80 a1 a2 n (a3 + 1) s
def fX9_rest_L20 (k48 : Int32 → Int32 → xM → Option (Int32 × xM)) (k86 : xM → Option (Int32 × xM)) (a1 : Int32) : Nat → Int32 → xM → Option (Int32 × xM)
  | 0, _, _ => none
  | n + 1, a2, s =>
    if (20 : Int32) < a2 then
      k86 s
    else
      fX9_rest_L28 (fun x2 s3 =>
          k48 a2 x2 s3) (fun s4 =>
          fX9_rest_L20 k48 k86 a1 n (a2 + 1) s4) a1 a2 fu (0 : Int32) s
def fX9_rest (a1 : Int32) (s : xM) : Option (Int32 × xM) :=
  bd (fX9_isWithin a1 (0 : Int32) (2 : Int32) s) fun r1 s2 =>
  if r1 = 0 then
    some ((-2 : Int32), s2)
  else
    bd (fX9_goRounds (20 : Int32) s2) fun _ s6 =>
    fX9_rest_L20 (fun x8 x9 s10 =>
        if a1 = 0 then
          gd (inb x9 21) <|
          some ((gi s10 93 x9.toNatClampNeg), s10)
        else
          if a1 = (1 : Int32) then
            some (x9, s10)
          else
            some ((x8 - x9), s10)) (fun s14 =>
        some ((-3 : Int32), s14)) a1 fu (1 : Int32) s6
def fX9_nameStop (a1 : Int32) (a2 : Int32) (a3 : Int32) (s : xM) : Option (Int32 × xM) :=
  bd (fJ7_fill_53178 91 6 (0 : Int32) s) fun _ s2 =>
  lz (si s2 91 2 a2) fun s4 =>
  lz (si s4 91 4 a3) fun s6 =>
  lz (si s6 91 5 a1) fun s8 =>
  some (0, s8)
def fX9_wantedNow (a1 : Int32) (s : xM) : Option (Int32 × xM) :=
  gd (inb a1 8) <|
  bd (fX3_isOf a1.toNatClampNeg (1 : Int32) s) fun r2 s3 =>
  if r2 = 0 then
    gd (inb a1 8) <|
    some ((gi s3 (11 + a1.toNatClampNeg) 6), s3)
  else
    bd (fX8_usersOf a1 s3) fun r6 s7 =>
    bd (fX9_nameStop a1 (0 : Int32) r6 s7) fun _ s10 =>
    gd (inb (gi s10 0 6) 6) <|
    bd (fX5_valueOf (gi s10 0 6).toNatClampNeg (2 : Int32) s10) fun r13 s14 =>
    bd (fX9_atBounds r13 (0 : Int32) (10 : Int32) s14) fun r16 s17 =>
    some (r16, s17)
def fX9_asks (a1 : Int32) (s : xM) : Option (Int32 × xM) :=
  bd (fX9_isStop a1 s) fun r1 s2 =>
  if r1 = 0 then
    some ((-5 : Int32), s2)
  else
    bd (fX9_lookAtNow s2) fun _ s6 =>
    bd (fX9_wantedNow a1 s6) fun r8 s9 =>
    some (r8, s9)
def fX9_asked_L6 (k34 : xM → Option (Int32 × xM)) : Nat → Int32 → xM → Option (Int32 × xM)
  | 0, _, _ => none
  | n + 1, a1, s =>
    if (gi s 1 7) ≤ a1 then
      k34 s
    else
      bd (fX9_wantedNow a1 s) fun r2 s3 =>
      gd (inb a1 8) <|
      lz (si s3 96 a1.toNatClampNeg r2) fun s6 =>
      fX9_asked_L6 k34 n (a1 + 1) s6
def fX9_asked_L38 (k97 : Int32 → xM → Option (Int32 × xM)) : Nat → Int32 → Int32 → xM → Option (Int32 × xM)
  | 0, _, _, _ => none
  | n + 1, a1, a2, s =>
    if (gi s 1 7) ≤ a2 then
      k97 a1 s
    else
      gd (inb a2 8) <|
      gd (inb a2 8) <|
      if (gi s (11 + a2.toNatClampNeg) 6) = (gi s 96 a2.toNatClampNeg) then
        fX9_asked_L38 k97 n a1 (a2 + 1) s
      else
        gd (inb a2 8) <|
        gd (inb a2 8) <|
        lz (si s (11 + a2.toNatClampNeg) 6 (gi s 96 a2.toNatClampNeg)) fun s7 =>
        fX9_asked_L38 k97 n (a1 + 1) (a2 + 1) s7
def fX9_asked (s : xM) : Option (Int32 × xM) :=
  bd (fX9_lookAtNow s) fun _ s2 =>
  fX9_asked_L6 (fun s4 =>
      fX9_asked_L38 (fun x5 s6 =>
          some (x5, s6)) fu (0 : Int32) (0 : Int32) s4) fu (0 : Int32) s2
def fX9_stopsNow (a1 : Int32) (a2 : Int32) (s : xM) : Option (Int32 × xM) :=
  gd (inb a2 8) <|
  if (gi s (11 + a2.toNatClampNeg) 5) = 0 then
    some ((0 : Int32), s)
  else
    gd (inb a2 8) <|
    if ((gi s 28 a2.toNatClampNeg) &&& ((1 : Int32) <<< (a1 &&& 31))) = 0 then
      some ((0 : Int32), s)
    else
      some ((1 : Int32), s)
def fX9_leave (a1 : Int32) (a2 : Int32) (s : xM) : Option (Int32 × xM) :=
  gd (inb a1 8) <|
  lz (if a2 < (gi s 94 a1.toNatClampNeg) then (gi s 94 a1.toNatClampNeg) else a2) fun v2 =>
  gd (inb a1 8) <|
  lz (v2 - (gi s 94 a1.toNatClampNeg)) fun v5 =>
  bd (fX8_usersOf a1 s) fun r7 s8 =>
  gd (decide (¬ (if (1 : Int32) < (gi s8 1 4) then (gi s8 1 4) else (1 : Int32)) = 0)) <|
  bd (fX9_nameStop a1 v5 ((r7 * v5) / (if (1 : Int32) < (gi s8 1 4) then (gi s8 1 4) else (1 : Int32))) s8) fun _ s12 =>
  gd (inb a1 8) <|
  gd (inb (gi s12 0 6) 6) <|
  bd (fX5_valueOf (gi s12 0 6).toNatClampNeg (1 : Int32) s12) fun r16 s17 =>
  bd (fX9_atBounds r16 (0 : Int32) (999 : Int32) s17) fun r19 s20 =>
  gd (inb a1 8) <|
  lz (si s20 94 a1.toNatClampNeg ((v2 + (gi s12 29 a1.toNatClampNeg)) + r19)) fun s23 =>
  gd (inb a1 8) <|
  some ((gi s23 94 a1.toNatClampNeg), s23)
def fX9_endOf_L34 (k90 : Int32 → xM → Option (Int32 × xM)) (a1 : Int32) (a4 : Int32) : Nat → Int32 → Int32 → xM → Option (Int32 × xM)
  | 0, _, _, _ => none
  | n + 1, a3, a5, s =>
    if (gi s 1 7) ≤ a5 then
      k90 a3 s
    else
      gd (inb a5 8) <|
      if (gi s (11 + a5.toNatClampNeg) 2) = a4 then
        bd (fX9_stopsNow (a1 - a1 / (2 : Int32) * (2 : Int32)) a5 s) fun r4 s5 =>
        if r4 = 0 then
          fX9_endOf_L34 k90 a1 a4 n a3 (a5 + 1) s5
        else
          bd (fX9_leave a5 a3 s5) fun r8 s9 =>
          fX9_endOf_L34 k90 a1 a4 n r8 (a5 + 1) s9
      else
        fX9_endOf_L34 k90 a1 a4 n a3 (a5 + 1) s
def fX9_endOf_J29 (k96 : Int32 → xM → Option (Int32 × xM)) (b : Int32 → Int32 → xM → Option (Int32 × xM)) (a1 : Int32) (a4 : Int32) (t0 : Int32) (t1 : Int32) (s : xM) : Option (Int32 × xM) :=
  lz (t1 + t0) fun v1 =>
  fX9_endOf_L34 (fun x3 s4 =>
      b x3 (a4 + 1) s4) a1 a4 fu v1 (0 : Int32) s
def fX9_endOf_L5 (k96 : Int32 → xM → Option (Int32 × xM)) (a1 : Int32) : Nat → Int32 → Int32 → xM → Option (Int32 × xM)
  | 0, _, _, _ => none
  | n + 1, a3, a4, s =>
    if (41 : Int32) ≤ a4 then
      k96 a3 s
    else
      if a4 = 0 then
        fX9_endOf_J29 k96 (fX9_endOf_L5 k96 a1 n) a1 a4 (0 : Int32) a3 s
      else
        fX9_endOf_J29 k96 (fX9_endOf_L5 k96 a1 n) a1 a4 (gi s 1 5) a3 s
def fX9_endOf (a1 : Int32) (a2 : Int32) (s : xM) : Option (Int32 × xM) :=
  fX9_endOf_L5 (fun x1 s2 =>
      some (x1, s2)) a1 fu a2 (0 : Int32) s
def fX9_runCars_J56 (k66 : xM → Option (Int32 × xM)) (b : Int32 → xM → Option (Int32 × xM)) (a1 : Int32) (a2 : Int32) (a3 : Int32) (t0 : Int32) (t1 : Int32) (t3 : Int32) (s : xM) : Option (Int32 × xM) :=
  bd (fX9_endOf t1 t0 s) fun r1 s2 =>
  gd (inb t3 12) <|
  lz (si s2 95 t3.toNatClampNeg r1) fun s5 =>
  b (a3 + 1) s5
def fX9_runCars_L21 (k66 : xM → Option (Int32 × xM)) (a1 : Int32) (a2 : Int32) : Nat → Int32 → xM → Option (Int32 × xM)
  | 0, _, _ => none
  | n + 1, a3, s =>
    if a1 ≤ a3 then
      k66 s
    else
      if (12 : Int32) ≤ a3 then
        k66 s
      else
        if a3 = 0 then
          fX9_runCars_J56 k66 (fX9_runCars_L21 k66 a1 a2 n) a1 a2 a3 a2 a3 a3 s
        else
          fX9_runCars_J56 k66 (fX9_runCars_L21 k66 a1 a2 n) a1 a2 a3 (a3 * (gi s 1 4)) a3 a3 s
def fX9_runCars (a1 : Int32) (a2 : Int32) (s : xM) : Option (Int32 × xM) :=
  bd (fX9_lookAtNow s) fun _ s2 =>
  bd (fJ7_fill_53178 94 8 (-(gi s2 1 4)) s2) fun _ s5 =>
  fX9_runCars_L21 (fun s7 =>
      some (0, s7)) a1 a2 fu (0 : Int32) s5
def fX9_bunch (a1 : Int32) (a2 : Int32) (s : xM) : Option (Int32 × xM) :=
  bd (fX9_isWithin a1 (0 : Int32) (11 : Int32) s) fun r1 s2 =>
  if r1 = 0 then
    some ((-2 : Int32), s2)
  else
    bd (fX9_isWithin a2 (0 : Int32) (3600 : Int32) s2) fun r5 s6 =>
    if r5 = 0 then
      some ((-2 : Int32), s6)
    else
      bd (fX9_runCars (a1 + (1 : Int32)) a2 s6) fun _ s10 =>
      gd (inb a1 12) <|
      some ((gi s10 95 a1.toNatClampNeg), s10)
def fX9_crowd_L47 (k81 : Int32 → xM → Option (Int32 × xM)) (a1 : Int32) : Nat → Int32 → Int32 → xM → Option (Int32 × xM)
  | 0, _, _, _ => none
  | n + 1, a3, a4, s =>
    if a1 ≤ a4 then
      k81 a3 s
    else
      gd (inb a4 12) <|
      gd (inb (a4 - (1 : Int32)) 12) <|
      lz (if ((gi s 95 a4.toNatClampNeg) - (gi s 95 (a4 - (1 : Int32)).toNatClampNeg)) < a3 then ((gi s 95 a4.toNatClampNeg) - (gi s 95 (a4 - (1 : Int32)).toNatClampNeg)) else a3) fun v4 =>
      fX9_crowd_L47 k81 a1 n v4 (a4 + 1) s
def fX9_crowd (a1 : Int32) (a2 : Int32) (s : xM) : Option (Int32 × xM) :=
  bd (fX9_isWithin a1 (2 : Int32) (12 : Int32) s) fun r1 s2 =>
  if r1 = 0 then
    some ((-2 : Int32), s2)
  else
    bd (fX9_isWithin a2 (0 : Int32) (3600 : Int32) s2) fun r5 s6 =>
    if r5 = 0 then
      some ((-2 : Int32), s6)
    else
      bd (fX9_runCars a1 a2 s6) fun _ s10 =>
      lz ((gi s10 95 1) - (gi s10 95 0)) fun v12 =>
      fX9_crowd_L47 (fun x14 s15 =>
          some (x14, s15)) a1 fu v12 (2 : Int32) s10
def fX9_nextLot (a0 : Int64) (s : xM) : Option (Int64 × xM) :=
  some (((a0 * (48271 : Int64)) - (a0 * (48271 : Int64)) / (2147483647 : Int64) * (2147483647 : Int64)), s)
def fX9_drawnRide_L135 (k220 : Int32 → xM → Option (Int32 × xM)) (a7 : Int32) (a8 : Int32) (a9 : Int32) : Nat → Int64 → Int32 → Int32 → xM → Option (Int32 × xM)
  | 0, _, _, _, _ => none
  | n + 1, a4, a10, a11, s =>
    if (gi s 1 7) ≤ a11 then
      k220 a10 s
    else
      bd (fX9_nextLot a4 s) fun r2 s3 =>
      gd (inb a11 8) <|
      if (gi s3 (11 + a11.toNatClampNeg) 2) ≤ a8 then
        fX9_drawnRide_L135 k220 a7 a8 a9 n r2 a10 (a11 + 1) s3
      else
        if a9 ≤ (gi s3 (11 + a11.toNatClampNeg) 2) then
          fX9_drawnRide_L135 k220 a7 a8 a9 n r2 a10 (a11 + 1) s3
        else
          bd (fX9_stopsNow a7 a11 s3) fun r8 s9 =>
          if r8 = 0 then
            fX9_drawnRide_L135 k220 a7 a8 a9 n r2 a10 (a11 + 1) s9
          else
            bd (fX3_secondsDrawn a11.toNatClampNeg ((r2 - r2 / (10 : Int64) * (10 : Int64)).toInt32) s9) fun r12 s13 =>
            lz (a10 + r12) fun v15 =>
            fX9_drawnRide_L135 k220 a7 a8 a9 n r2 v15 (a11 + 1) s13
def fX9_drawnRide_J57 (a1 : Int32) (a2 : Int32) (a4 : Int64) (t0 : Int32) (s : xM) : Option (Int32 × xM) :=
  gd (inb a1 8) <|
  gd (inb a2 8) <|
  lz (if (gi s (11 + a2.toNatClampNeg) 2) < (gi s (11 + a1.toNatClampNeg) 2) then (gi s (11 + a2.toNatClampNeg) 2) else (gi s (11 + a1.toNatClampNeg) 2)) fun v3 =>
  gd (inb a1 8) <|
  gd (inb a2 8) <|
  lz (if (gi s (11 + a1.toNatClampNeg) 2) < (gi s (11 + a2.toNatClampNeg) 2) then (gi s (11 + a2.toNatClampNeg) 2) else (gi s (11 + a1.toNatClampNeg) 2)) fun v7 =>
  lz ((v7 - v3) * (gi s 1 5)) fun v9 =>
  fX9_drawnRide_L135 (fun x11 s12 =>
      some (x11, s12)) t0 v3 v7 fu a4 v9 (0 : Int32) s
def fX9_drawnRide (a1 : Int32) (a2 : Int32) (a3 : Int32) (s : xM) : Option (Int32 × xM) :=
  bd (fX9_nextLot ((a3 + (1 : Int32)).toInt64) s) fun r1 s2 =>
  gd (inb a1 8) <|
  gd (inb a2 8) <|
  lz ((gi s2 28 a1.toNatClampNeg) &&& (gi s2 28 a2.toNatClampNeg)) fun v6 =>
  if v6 = (3 : Int32) then
    fX9_drawnRide_J57 a1 a2 r1 ((r1 - r1 / (2 : Int64) * (2 : Int64)).toInt32) s2
  else
    if v6 = (2 : Int32) then
      fX9_drawnRide_J57 a1 a2 r1 (1 : Int32) s2
    else
      fX9_drawnRide_J57 a1 a2 r1 (0 : Int32) s2
def fX9_drawn (a1 : Int32) (a2 : Int32) (s : xM) : Option (Int32 × xM) :=
  bd (fX9_isTrip a1 s) fun r1 s2 =>
  if r1 = 0 then
    some ((-5 : Int32), s2)
  else
    bd (fX9_isWithin a2 (0 : Int32) (99999 : Int32) s2) fun r5 s6 =>
    if r5 = 0 then
      some ((-7 : Int32), s6)
    else
      bd (fX9_lookAtNow s6) fun _ s10 =>
      gd (inb a1 8) <|
      bd (fX9_isStop (gi s10 72 a1.toNatClampNeg) s10) fun r13 s14 =>
      if r13 = 0 then
        some ((-3 : Int32), s14)
      else
        gd (inb a1 8) <|
        bd (fX9_isStop (gi s14 73 a1.toNatClampNeg) s14) fun r18 s19 =>
        if r18 = 0 then
          some ((-3 : Int32), s19)
        else
          gd (inb a1 8) <|
          gd (inb a1 8) <|
          bd (fX9_drawnRide (gi s19 72 a1.toNatClampNeg) (gi s19 73 a1.toNatClampNeg) a2 s19) fun r24 s25 =>
          some (r24, s25)
def fX9_image (s : xM) : Option (Int32 × xM) :=
  bd (fX0_keep (gi s 0 6) s) fun _ s2 =>
  some ((gi s2 1 7), s2)
def fX9_back (s : xM) : Option (Int32 × xM) :=
  if (gi s 81 0) = 0 then
    some ((-3 : Int32), s)
  else
    bd (fX0_giveBack s) fun _ s3 =>
    lz (si s3 0 6 (gi s3 81 1)) fun s5 =>
    some ((gi s5 1 7), s5)
def fX9_sheet_J62 (t0 : Int32) (t1 : Int32) (t2 : Nat) (s : xM) : Option (Int32 × xM) :=
  bd (fX2_begin t2 t1 t0 s) fun _ s2 =>
  some ((1 : Int32), s2)
def fX9_sheet_J45 (a1 : Int32) (a2 : Int32) (a3 : Int32) (s : xM) : Option (Int32 × xM) :=
  gd (inb a1 4) <|
  if a2 = (-1 : Int32) then
    fX9_sheet_J62 (0 : Int32) a2 a1.toNatClampNeg s
  else
    fX9_sheet_J62 a3 a2 a1.toNatClampNeg s
def fX9_sheet_J33 (a1 : Int32) (a2 : Int32) (a3 : Int32) (s : xM) : Option (Int32 × xM) :=
  if a2 = (-1 : Int32) then
    fX9_sheet_J45 a1 a2 a3 s
  else
    if 0 ≤ a3 then
      fX9_sheet_J45 a1 a2 a3 s
    else
      some ((-14 : Int32), s)
def fX9_sheet (a1 : Int32) (a2 : Int32) (a3 : Int32) (s : xM) : Option (Int32 × xM) :=
  bd (fX9_isSheet a1 s) fun r1 s2 =>
  if r1 = 0 then
    some ((-2 : Int32), s2)
  else
    bd (fX9_isWithin a2 (-1 : Int32) (2 : Int32) s2) fun r5 s6 =>
    if r5 = 0 then
      some ((-2 : Int32), s6)
    else
      if a2 = (-1 : Int32) then
        fX9_sheet_J33 a1 a2 a3 s6
      else
        if a3 ≤ (41 : Int32) then
          fX9_sheet_J33 a1 a2 a3 s6
        else
          some ((-2 : Int32), s6)
def fX9_cell (a1 : Int32) (a2 : Int32) (a3 : Int32) (s : xM) : Option (Int32 × xM) :=
  bd (fX9_isSheet a1 s) fun r1 s2 =>
  if r1 = 0 then
    some ((-2 : Int32), s2)
  else
    gd (inb a1 4) <|
    bd (fX2_isMissing a1.toNatClampNeg s2) fun r6 s7 =>
    if r6 = 0 then
      gd (inb a1 4) <|
      bd (fX2_holds a1.toNatClampNeg a2 s7) fun r11 s12 =>
      if r11 = 0 then
        some ((-12 : Int32), s12)
      else
        gd (inb a1 4) <|
        bd (fX2_write a1.toNatClampNeg a2 a3 s12) fun _ s17 =>
        some ((1 : Int32), s17)
    else
      some ((-11 : Int32), s7)
def fX9_copy (a1 : Int32) (a2 : Int32) (a3 : Int32) (a4 : Int32) (a5 : Int32) (s : xM) : Option (Int32 × xM) :=
  bd (fX9_isSheet a1 s) fun r1 s2 =>
  if r1 = 0 then
    some ((-2 : Int32), s2)
  else
    bd (fX9_isSheet a3 s2) fun r5 s6 =>
    if r5 = 0 then
      some ((-2 : Int32), s6)
    else
      gd (inb a1 4) <|
      gd (inb a3 4) <|
      bd (fX2_isMissing a1.toNatClampNeg s6) fun r11 s12 =>
      if r11 = 0 then
        bd (fX2_isMissing a3.toNatClampNeg s12) fun r15 s16 =>
        if r15 = 0 then
          if (gi s16 (121 + 2 * a1.toNatClampNeg) 1) = (gi s16 (121 + 2 * a3.toNatClampNeg) 1) then
            bd (fX2_holdsRow a1.toNatClampNeg a2 a5 s16) fun r20 s21 =>
            if r20 = 0 then
              some ((-12 : Int32), s21)
            else
              bd (fX2_holdsRow a3.toNatClampNeg a4 a5 s21) fun r24 s25 =>
              if r24 = 0 then
                some ((-12 : Int32), s25)
              else
                gd (cpb a2 a4 a5 41 41) <|
                lz (scp s25 (122 + 2 * a1.toNatClampNeg) a2.toNatClampNeg (122 + 2 * a3.toNatClampNeg) a4.toNatClampNeg a5.toNatClampNeg) fun s29 =>
                some (a5, s29)
          else
            some ((-13 : Int32), s16)
        else
          some ((-11 : Int32), s16)
      else
        some ((-11 : Int32), s12)
def fX9_tripsBy_L67 (k93 : xM → Option (Int32 × xM)) (k150 : Int32 → xM → Option (Int32 × xM)) (a3 : Int32) (a4 : Int32) (a5 : Nat) : Nat → Int32 → Int32 → xM → Option (Int32 × xM)
  | 0, _, _, _ => none
  | n + 1, a6, a7, s =>
    if a4 ≤ a7 then
      k150 a6 s
    else
      lz (a3 + (a7 * (4 : Int32))) fun v2 =>
      bd (fX2_holdsRow a5 v2 (4 : Int32) s) fun r4 s5 =>
      if r4 = 0 then
        k93 s5
      else
        gd (inb v2 41) <|
        gd (inb (v2 + (1 : Int32)) 41) <|
        gd (inb (v2 + (2 : Int32)) 41) <|
        gd (inb (v2 + (3 : Int32)) 41) <|
        bd (fX9_trip (gi s5 (122 + 2 * a5) v2.toNatClampNeg) (gi s5 (122 + 2 * a5) (v2 + (1 : Int32)).toNatClampNeg) (gi s5 (122 + 2 * a5) (v2 + (2 : Int32)).toNatClampNeg) (gi s5 (122 + 2 * a5) (v2 + (3 : Int32)).toNatClampNeg) s5) fun r12 s13 =>
        if r12 < 0 then
          fX9_tripsBy_L67 k93 k150 a3 a4 a5 n a6 (a7 + 1) s13
        else
          fX9_tripsBy_L67 k93 k150 a3 a4 a5 n (a6 + 1) (a7 + 1) s13
def fX9_tripsBy (a1 : Int32) (a2 : Int32) (a3 : Int32) (a4 : Int32) (s : xM) : Option (Int32 × xM) :=
  bd (fX9_isSheet a1 s) fun r1 s2 =>
  if r1 = 0 then
    some ((-2 : Int32), s2)
  else
    bd (fX9_isWithin a2 (0 : Int32) (2 : Int32) s2) fun r5 s6 =>
    if r5 = 0 then
      some ((-2 : Int32), s6)
    else
      bd (fX9_isWithin a4 (0 : Int32) (8 : Int32) s6) fun r9 s10 =>
      if r9 = 0 then
        some ((-2 : Int32), s10)
      else
        gd (inb a1 4) <|
        bd (fX2_isMissing a1.toNatClampNeg s10) fun r14 s15 =>
        if r14 = 0 then
          if (gi s15 (121 + 2 * a1.toNatClampNeg) 1) = a2 then
            fX9_tripsBy_L67 (fun s19 =>
                some ((-12 : Int32), s19)) (fun x20 s21 =>
                some (x20, s21)) a3 a4 a1.toNatClampNeg fu (0 : Int32) (0 : Int32) s15
          else
            some ((-13 : Int32), s15)
        else
          some ((-11 : Int32), s15)
def fX9_taken_J16 (a1 : Int32) (a2 : Int32) (s : xM) : Option (Int32 × xM) :=
  bd (fX9_isWithin a1 (0 : Int32) (15 : Int32) s) fun r1 s2 =>
  if r1 = 0 then
    some ((-12 : Int32), s2)
  else
    if (8 : Int32) ≤ a1 then
      lz (a1 - (8 : Int32)) fun v6 =>
      bd (fX9_isStop v6 s2) fun r8 s9 =>
      if r8 = 0 then
        some ((-11 : Int32), s9)
      else
        if a2 = (6 : Int32) then
          some ((-13 : Int32), s9)
        else
          gd (inb v6 8) <|
          bd (fX3_isOf v6.toNatClampNeg a2 s9) fun r14 s15 =>
          if r14 = 0 then
            some ((-13 : Int32), s15)
          else
            some (v6, s15)
    else
      bd (fX9_isTrip a1 s2) fun r18 s19 =>
      if r18 = 0 then
        some ((-11 : Int32), s19)
      else
        if a2 = (6 : Int32) then
          gd (inb a1 8) <|
          some ((gi s19 (19 + a1.toNatClampNeg) 2), s19)
        else
          some ((-13 : Int32), s19)
def fX9_taken (a1 : Int32) (a2 : Int32) (s : xM) : Option (Int32 × xM) :=
  bd (fX9_isKind a2 s) fun r1 s2 =>
  if r1 = 0 then
    if a2 = (6 : Int32) then
      fX9_taken_J16 a1 a2 s2
    else
      some ((-2 : Int32), s2)
  else
    fX9_taken_J16 a1 a2 s2
