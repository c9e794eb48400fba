def fX8_addUpStanding_L14 (k77 : xM → Option (Int32 × xM)) (a1 : Int32) (a2 : Nat) : Nat → Int32 → xM → Option (Int32 × xM)
  | 0, _, _ => none
  | n + 1, a3, s =>
    if (gi s 27 7) ≤ a3 then
      k77 s
    else
      gd (inb a3 8) <|
      lz (gi s 49 a3.toNatClampNeg) fun v3 =>
      gd (inb v3 8) <|
      if ((gi s 28 v3.toNatClampNeg) &&& ((1 : Int32) <<< (a1 &&& 31))) = 0 then
        fX8_addUpStanding_L14 k77 a1 a2 n (a3 + 1) s
      else
        gd (inb v3 8) <|
        gd (inb ((gi s (11 + v3.toNatClampNeg) 2) + (1 : Int32)) 42) <|
        gd (inb v3 8) <|
        gd (inb ((gi s (11 + v3.toNatClampNeg) 2) + (1 : Int32)) 42) <|
        lz (si s (51 + a2) ((gi s (11 + v3.toNatClampNeg) 2) + (1 : Int32)).toNatClampNeg ((gi s (51 + a2) ((gi s (11 + v3.toNatClampNeg) 2) + (1 : Int32)).toNatClampNeg) + (gi s 29 v3.toNatClampNeg))) fun s11 =>
        fX8_addUpStanding_L14 k77 a1 a2 n (a3 + 1) s11
def fX8_addUpStanding_L79 (k102 : xM → Option (Int32 × xM)) (a2 : Nat) : Nat → Int32 → xM → Option (Int32 × xM)
  | 0, _, _ => none
  | n + 1, a3, s =>
    if (41 : Int32) < a3 then
      k102 s
    else
      gd (inb a3 42) <|
      gd (inb (a3 - (1 : Int32)) 42) <|
      gd (inb a3 42) <|
      lz (si s (51 + a2) a3.toNatClampNeg ((gi s (51 + a2) a3.toNatClampNeg) + (gi s (51 + a2) (a3 - (1 : Int32)).toNatClampNeg))) fun s5 =>
      fX8_addUpStanding_L79 k102 a2 n (a3 + 1) s5
def fX8_addUpStanding (a1 : Int32) (s : xM) : Option (Int32 × xM) :=
  gd (inb a1 2) <|
  bd (fJ7_fill_53178 (51 + a1.toNatClampNeg) 42 (0 : Int32) s) fun _ s3 =>
  fX8_addUpStanding_L14 (fun s5 =>
      fX8_addUpStanding_L79 (fun s6 =>
          some (0, s6)) a1.toNatClampNeg fu (1 : Int32) s5) a1 a1.toNatClampNeg fu (0 : Int32) s3
def fX8_carTime (a1 : Int32) (a2 : Int32) (a3 : Int32) (s : xM) : Option (Int32 × xM) :=
  gd (inb a2 8) <|
  gd (inb a3 8) <|
  lz (if (gi s (11 + a3.toNatClampNeg) 2) < (gi s (11 + a2.toNatClampNeg) 2) then (gi s (11 + a3.toNatClampNeg) 2) else (gi s (11 + a2.toNatClampNeg) 2)) fun v3 =>
  gd (inb a2 8) <|
  gd (inb a3 8) <|
  lz (if (gi s (11 + a2.toNatClampNeg) 2) < (gi s (11 + a3.toNatClampNeg) 2) then (gi s (11 + a3.toNatClampNeg) 2) else (gi s (11 + a2.toNatClampNeg) 2)) fun v7 =>
  if v3 = v7 then
    some ((0 : Int32), s)
  else
    gd (inb a1 2) <|
    gd (inb v7 42) <|
    gd (inb a1 2) <|
    gd (inb (v3 + (1 : Int32)) 42) <|
    some (((((v7 - v3) * (gi s 1 5)) + (gi s (51 + a1.toNatClampNeg) v7.toNatClampNeg)) - (gi s (51 + a1.toNatClampNeg) (v3 + (1 : Int32)).toNatClampNeg)), s)
def fX8_ride_J81 (a1 : Int32) (a2 : Int32) (a5 : Int32) (a6 : Int32) (s : xM) : Option (Int32 × xM) :=
  gd (inb a1 8) <|
  gd (inb a2 8) <|
  lz (si s (54 + a1.toNatClampNeg) a2.toNatClampNeg a5) fun s3 =>
  gd (inb a2 8) <|
  gd (inb a1 8) <|
  lz (si s3 (54 + a2.toNatClampNeg) a1.toNatClampNeg a5) fun s7 =>
  gd (inb a1 8) <|
  gd (inb a2 8) <|
  lz (si s7 (63 + a1.toNatClampNeg) a2.toNatClampNeg a6) fun s11 =>
  gd (inb a2 8) <|
  gd (inb a1 8) <|
  lz (si s11 (63 + a2.toNatClampNeg) a1.toNatClampNeg a6) fun s15 =>
  some (0, s15)
def fX8_ride_J74 (a1 : Int32) (a2 : Int32) (a5 : Int32) (t0 : Int32) (s : xM) : Option (Int32 × xM) :=
  bd (fX8_carTime t0 a1 a2 s) fun r1 s2 =>
  fX8_ride_J81 a1 a2 a5 r1 s2
def fX8_ride (a1 : Int32) (a2 : Int32) (a3 : Int32) (s : xM) : Option (Int32 × xM) :=
  gd (inb a1 8) <|
  gd (inb a2 8) <|
  lz ((gi s 28 a1.toNatClampNeg) &&& (gi s 28 a2.toNatClampNeg)) fun v3 =>
  if v3 = (3 : Int32) then
    lz (a3 / (2 : Int32)) fun v8 =>
    bd (fX8_carTime (0 : Int32) a1 a2 s) fun r10 s11 =>
    bd (fX8_carTime (1 : Int32) a1 a2 s11) fun r13 s14 =>
    lz ((r10 + r13) / (2 : Int32)) fun v16 =>
    fX8_ride_J81 a1 a2 v8 v16 s14
  else
    if v3 = 0 then
      fX8_ride_J81 a1 a2 (-1 : Int32) (0 : Int32) s
    else
      if v3 = (1 : Int32) then
        fX8_ride_J74 a1 a2 a3 (0 : Int32) s
      else
        fX8_ride_J74 a1 a2 a3 (1 : Int32) s
def fX8_tellBest_J99 (t0 : Int32) (t1 : Int32) (s : xM) : Option (Int32 × xM) :=
  gd (inb t1 8) <|
  lz (si s 76 t1.toNatClampNeg t0) fun s2 =>
  some (0, s2)
def fX8_tellBest_J76 (a1 : Int32) (a2 : Int32) (a3 : Int32) (a4 : Int32) (t0 : Int32) (t1 : Int32) (s : xM) : Option (Int32 × xM) :=
  gd (inb t1 8) <|
  lz (si s 75 t1.toNatClampNeg t0) fun s2 =>
  if a4 = 0 then
    fX8_tellBest_J99 (0 : Int32) a1 s2
  else
    gd (inb a2 8) <|
    gd (inb a3 8) <|
    fX8_tellBest_J99 (gi s2 (63 + a2.toNatClampNeg) a3.toNatClampNeg) a1 s2
def fX8_tellBest_J53 (a1 : Int32) (a2 : Int32) (a3 : Int32) (a4 : Int32) (t0 : Int32) (t1 : Int32) (s : xM) : Option (Int32 × xM) :=
  gd (inb t1 8) <|
  lz (si s 74 t1.toNatClampNeg t0) fun s2 =>
  if a4 = 0 then
    fX8_tellBest_J76 a1 a2 a3 a4 (0 : Int32) a1 s2
  else
    gd (inb a2 8) <|
    gd (inb a3 8) <|
    fX8_tellBest_J76 a1 a2 a3 a4 (gi s2 (54 + a2.toNatClampNeg) a3.toNatClampNeg) a1 s2
def fX8_tellBest_J15 (a1 : Int32) (a2 : Int32) (a3 : Int32) (t0 : Int32) (s : xM) : Option (Int32 × xM) :=
  if t0 = 0 then
    gd (inb a1 8) <|
    fX8_tellBest_J53 a1 a2 a3 t0 (gi s 30 a1.toNatClampNeg) a1 s
  else
    gd (inb a1 8) <|
    gd (inb a2 8) <|
    gd (inb a1 8) <|
    gd (inb a3 8) <|
    fX8_tellBest_J53 a1 a2 a3 t0 ((gi s (32 + a1.toNatClampNeg) a2.toNatClampNeg) + (gi s (41 + a1.toNatClampNeg) a3.toNatClampNeg)) a1 s
def fX8_tellBest_J14 (a1 : Int32) (a2 : Int32) (a3 : Int32) (s : xM) : Option (Int32 × xM) :=
  fX8_tellBest_J15 a1 a2 a3 (0 : Int32) s
def fX8_tellBest (a1 : Int32) (a2 : Int32) (a3 : Int32) (s : xM) : Option (Int32 × xM) :=
  if a2 = (-1 : Int32) then
    fX8_tellBest_J14 a1 a2 a3 s
  else
    if a3 = (-1 : Int32) then
      fX8_tellBest_J14 a1 a2 a3 s
    else
      fX8_tellBest_J15 a1 a2 a3 (1 : Int32) s
def fX8_findBest_L72 (k210 : xM → Option (Int32 × xM)) (a1 : Int32) (a2 : Nat) (a3 : Int32) (a4 : Int32) : Nat → Int32 → xM → Option (Int32 × xM)
  | 0, _, _ => none
  | n + 1, a5, s =>
    if (gi s 27 7) ≤ a5 then
      k210 s
    else
      gd (inb a5 8) <|
      lz (gi s 49 a5.toNatClampNeg) fun v3 =>
      if a4 = v3 then
        fX8_findBest_L72 k210 a1 a2 a3 a4 n (a5 + 1) s
      else
        gd (inb a4 8) <|
        gd (inb v3 8) <|
        if (gi s (54 + a4.toNatClampNeg) v3.toNatClampNeg) = (-1 : Int32) then
          fX8_findBest_L72 k210 a1 a2 a3 a4 n (a5 + 1) s
        else
          gd (inb a1 8) <|
          gd (inb a4 8) <|
          gd (inb a1 8) <|
          gd (inb v3 8) <|
          gd (inb a4 8) <|
          gd (inb v3 8) <|
          gd (inb a4 8) <|
          gd (inb v3 8) <|
          lz (((((gi s (32 + a1.toNatClampNeg) a4.toNatClampNeg) + (gi s (41 + a1.toNatClampNeg) v3.toNatClampNeg)) * (gi s (6 + a2) 2)) + ((gi s (54 + a4.toNatClampNeg) v3.toNatClampNeg) * (gi s (6 + a2) 3))) + ((gi s (63 + a4.toNatClampNeg) v3.toNatClampNeg) * (gi s (6 + a2) 4))) fun v17 =>
          gd (inb a1 8) <|
          if (gi s 71 a1.toNatClampNeg) ≤ v17 then
            fX8_findBest_L72 k210 a1 a2 a3 a4 n (a5 + 1) s
          else
            gd (inb a1 8) <|
            lz (si s 71 a1.toNatClampNeg v17) fun s22 =>
            gd (inb a1 8) <|
            lz (si s22 72 a1.toNatClampNeg a4) fun s25 =>
            gd (inb a1 8) <|
            lz (si s25 73 a1.toNatClampNeg v3) fun s28 =>
            fX8_findBest_L72 k210 a1 a2 a3 a4 n (a5 + 1) s28
def fX8_findBest_L53 (k216 : xM → Option (Int32 × xM)) (a1 : Int32) (a2 : Nat) : Nat → Int32 → xM → Option (Int32 × xM)
  | 0, _, _ => none
  | n + 1, a3, s =>
    if (gi s 27 7) ≤ a3 then
      k216 s
    else
      gd (inb a3 8) <|
      lz (gi s 49 a3.toNatClampNeg) fun v3 =>
      fX8_findBest_L72 (fun s5 =>
          fX8_findBest_L53 k216 a1 a2 n (a3 + 1) s5) a1 a2 a3 v3 fu (0 : Int32) s
def fX8_findBest (a1 : Int32) (s : xM) : Option (Int32 × xM) :=
  gd (inb a1 8) <|
  gd (inb (gi s (19 + a1.toNatClampNeg) 3) 3) <|
  gd (inb a1 8) <|
  gd (inb a1 8) <|
  lz (si s 71 a1.toNatClampNeg ((gi s 30 a1.toNatClampNeg) * (gi s (6 + (gi s (19 + a1.toNatClampNeg) 3).toNatClampNeg) 2))) fun s5 =>
  gd (inb a1 8) <|
  lz (si s5 72 a1.toNatClampNeg (-1 : Int32)) fun s8 =>
  gd (inb a1 8) <|
  lz (si s8 73 a1.toNatClampNeg (-1 : Int32)) fun s11 =>
  fX8_findBest_L53 (fun s13 =>
      gd (inb a1 8) <|
      gd (inb a1 8) <|
      bd (fX8_tellBest a1 (gi s13 72 a1.toNatClampNeg) (gi s13 73 a1.toNatClampNeg) s13) fun _ s17 =>
      some (0, s17)) a1 (gi s (19 + a1.toNatClampNeg) 3).toNatClampNeg fu (0 : Int32) s11
def fX8_look_L7 (k52 : xM → Option (Int32 × xM)) (a1 : Int32) (a2 : Int32) : Nat → Int32 → xM → Option (Int32 × xM)
  | 0, _, _ => none
  | n + 1, a3, s =>
    if (gi s 1 7) ≤ a3 then
      k52 s
    else
      if (a1 &&& ((1 : Int32) <<< (a3 &&& 31))) = 0 then
        fX8_look_L7 k52 a1 a2 n (a3 + 1) s
      else
        gd (inb (gi s 27 7) 8) <|
        lz (si s 49 (gi s 27 7).toNatClampNeg a3) fun s4 =>
        lz (si s4 27 7 ((gi s4 27 7) + (1 : Int32))) fun s6 =>
        fX8_look_L7 k52 a1 a2 n (a3 + 1) s6
def fX8_look_L77 (k110 : xM → Option (Int32 × xM)) (a2 : Int32) (a3 : Int32) : Nat → Int32 → xM → Option (Int32 × xM)
  | 0, _, _ => none
  | n + 1, a4, s =>
    if (gi s 27 7) ≤ a4 then
      k110 s
    else
      gd (inb a3 8) <|
      gd (inb a4 8) <|
      bd (fX8_ride (gi s 49 a3.toNatClampNeg) (gi s 49 a4.toNatClampNeg) a2 s) fun _ s5 =>
      fX8_look_L77 k110 a2 a3 n (a4 + 1) s5
def fX8_look_L64 (k116 : xM → Option (Int32 × xM)) (a2 : Int32) : Nat → Int32 → xM → Option (Int32 × xM)
  | 0, _, _ => none
  | n + 1, a3, s =>
    if (gi s 27 7) ≤ a3 then
      k116 s
    else
      lz (a3 + (1 : Int32)) fun v2 =>
      fX8_look_L77 (fun s4 =>
          fX8_look_L64 k116 a2 n (a3 + 1) s4) a2 a3 fu v2 s
def fX8_look_L118 (k140 : xM → Option (Int32 × xM)) : Nat → Int32 → xM → Option (Int32 × xM)
  | 0, _, _ => none
  | n + 1, a3, s =>
    if (gi s 1 9) ≤ a3 then
      k140 s
    else
      bd (fX8_findBest a3 s) fun _ s3 =>
      fX8_look_L118 k140 n (a3 + 1) s3
def fX8_look (a1 : Int32) (a2 : Int32) (s : xM) : Option (Int32 × xM) :=
  lz (si s 27 7 (0 : Int32)) fun s1 =>
  fX8_look_L7 (fun s3 =>
      bd (fX8_addUpStanding (0 : Int32) s3) fun _ s5 =>
      bd (fX8_addUpStanding (1 : Int32) s5) fun _ s8 =>
      fX8_look_L64 (fun s10 =>
          fX8_look_L118 (fun s11 =>
              some (0, s11)) fu (0 : Int32) s10) a2 fu (0 : Int32) s8) a1 a2 fu (0 : Int32) s1
def fX8_total_L4 (k45 : Int64 → xM → Option (Int64 × xM)) : Nat → Int64 → Int32 → xM → Option (Int64 × xM)
  | 0, _, _, _ => none
  | n + 1, a1, a3, s =>
    if (gi s 1 9) ≤ a3 then
      k45 a1 s
    else
      gd (inb a3 8) <|
      gd (inb a3 8) <|
      lz (a1 + (((gi s (19 + a3.toNatClampNeg) 2).toInt64) * ((gi s 71 a3.toNatClampNeg).toInt64))) fun v4 =>
      fX8_total_L4 k45 n v4 (a3 + 1) s
def fX8_total (s : xM) : Option (Int64 × xM) :=
  fX8_total_L4 (fun x1 s2 =>
      some (x1, s2)) fu (0 : Int64) (0 : Int32) s
def fX8_dearest_L4 (k42 : Int32 → xM → Option (Int32 × xM)) : Nat → Int32 → Int32 → xM → Option (Int32 × xM)
  | 0, _, _, _ => none
  | n + 1, a1, a2, s =>
    if (gi s 1 9) ≤ a2 then
      k42 a1 s
    else
      if a1 < 0 then
        fX8_dearest_L4 k42 n a2 (a2 + 1) s
      else
        gd (inb a2 8) <|
        gd (inb a1 8) <|
        if (gi s 71 a2.toNatClampNeg) ≤ (gi s 71 a1.toNatClampNeg) then
          fX8_dearest_L4 k42 n a1 (a2 + 1) s
        else
          fX8_dearest_L4 k42 n a2 (a2 + 1) s
def fX8_dearest (s : xM) : Option (Int32 × xM) :=
  fX8_dearest_L4 (fun x1 s2 =>
      some (x1, s2)) fu (-1 : Int32) (0 : Int32) s
def fX8_dearestCost (s : xM) : Option (Int32 × xM) :=
  bd (fX8_dearest s) fun r1 s2 =>
  if 0 ≤ r1 then
    gd (inb r1 8) <|
    some ((gi s2 71 r1.toNatClampNeg), s2)
  else
    some ((0 : Int32), s2)
def fX8_usersOf_J35 (k56 : Int32 → xM → Option (Int32 × xM)) (b : Int32 → Int32 → xM → Option (Int32 × xM)) (a1 : Int32) (a2 : Int32) (a3 : Int32) (s : xM) : Option (Int32 × xM) :=
  gd (inb a3 8) <|
  lz (a2 + (gi s (19 + a3.toNatClampNeg) 2)) fun v2 =>
  b v2 (a3 + 1) s
def fX8_usersOf_L4 (k56 : Int32 → xM → Option (Int32 × xM)) (a1 : Int32) : Nat → Int32 → Int32 → xM → Option (Int32 × xM)
  | 0, _, _, _ => none
  | n + 1, a2, a3, s =>
    if (gi s 1 9) ≤ a3 then
      k56 a2 s
    else
      gd (inb a3 8) <|
      if (gi s 72 a3.toNatClampNeg) = a1 then
        fX8_usersOf_J35 k56 (fX8_usersOf_L4 k56 a1 n) a1 a2 a3 s
      else
        gd (inb a3 8) <|
        if (gi s 73 a3.toNatClampNeg) = a1 then
          fX8_usersOf_J35 k56 (fX8_usersOf_L4 k56 a1 n) a1 a2 a3 s
        else
          fX8_usersOf_L4 k56 a1 n a2 (a3 + 1) s
def fX8_usersOf (a1 : Int32) (s : xM) : Option (Int32 × xM) :=
  fX8_usersOf_L4 (fun x1 s2 =>
      some (x1, s2)) a1 fu (0 : Int32) (0 : Int32) s
def fX9_road (a1 : Int32) (a2 : Int32) (s : xM) : Option (Int32 × xM) :=
  bd (fX9_isWithin a1 (0 : Int32) (40 : Int32) s) fun r1 s2 =>
  if r1 = 0 then
    some ((-1 : Int32), s2)
  else
    bd (fX9_isWithin a2 (0 : Int32) (9 : Int32) s2) fun r5 s6 =>
    if r5 = 0 then
      some ((-2 : Int32), s6)
    else
      gd (inb a1 41) <|
      lz (gi s6 2 a1.toNatClampNeg) fun v10 =>
      gd (inb a1 41) <|
      lz (si s6 2 a1.toNatClampNeg a2) fun s13 =>
      bd (fX6_measureClimbs s13) fun _ s16 =>
      some (v10, s16)
def fX9_isSort (a0 : Int32) (s : xM) : Option (Int32 × xM) :=
  bd (fX9_isWithin a0 (0 : Int32) (2 : Int32) s) fun r1 s2 =>
  gd (isZ r1) <|
  some (r1, s2)
def fX9_sort (a1 : Int32) (a2 : Int32) (a3 : Int32) (s : xM) : Option (Int32 × xM) :=
  bd (fX9_isSort a1 s) fun r1 s2 =>
  if r1 = 0 then
    some ((-1 : Int32), s2)
  else
    bd (fX9_isWithin a2 (0 : Int32) (5 : Int32) s2) fun r5 s6 =>
    if r5 = 0 then
      some ((-2 : Int32), s6)
    else
      gd (inb a2 6) <|
      gd (inb a2 6) <|
      bd (fX9_isWithin a3 (sT0.getD a2.toNatClampNeg 0) (sT1.getD a2.toNatClampNeg 0) s6) fun r11 s12 =>
      if r11 = 0 then
        some ((-2 : Int32), s12)
      else
        gd (inb a1 3) <|
        gd (inb a2 6) <|
        lz (gi s12 (6 + a1.toNatClampNeg) a2.toNatClampNeg) fun v17 =>
        gd (inb a1 3) <|
        gd (inb a2 6) <|
        lz (si s12 (6 + a1.toNatClampNeg) a2.toNatClampNeg a3) fun s21 =>
        some (v17, s21)
def fX9_car_J34 (a1 : Int32) (a2 : Int32) (s : xM) : Option (Int32 × xM) :=
  if a1 = (1 : Int32) then
    bd (fX9_isWithin a2 (1 : Int32) (60 : Int32) s) fun r2 s3 =>
    if r2 = 0 then
      some ((-2 : Int32), s3)
    else
      lz (gi s3 1 5) fun v6 =>
      lz (si s3 1 5 a2) fun s8 =>
      some (v6, s8)
  else
    some ((-2 : Int32), s)
def fX9_car (a1 : Int32) (a2 : Int32) (s : xM) : Option (Int32 × xM) :=
  if a1 = 0 then
    bd (fX9_isWithin a2 (1 : Int32) (3600 : Int32) s) fun r2 s3 =>
    if r2 = 0 then
      fX9_car_J34 a1 a2 s3
    else
      lz (gi s3 1 4) fun v6 =>
      lz (si s3 1 4 a2) fun s8 =>
      some (v6, s8)
  else
    fX9_car_J34 a1 a2 s
def fX9_isCell (a0 : Int32) (s : xM) : Option (Int32 × xM) :=
  bd (fX9_isWithin a0 (0 : Int32) (40 : Int32) s) fun r1 s2 =>
  gd (isZ r1) <|
  some (r1, s2)
def fX9_walks (a1 : Int32) (a2 : Int32) (a3 : Int32) (s : xM) : Option (Int32 × xM) :=
  bd (fX9_isCell a1 s) fun r1 s2 =>
  if r1 = 0 then
    some ((-5 : Int32), s2)
  else
    bd (fX9_isCell a2 s2) fun r5 s6 =>
    if r5 = 0 then
      some ((-5 : Int32), s6)
    else
      bd (fX9_isSort a3 s6) fun r9 s10 =>
      if r9 = 0 then
        some ((-7 : Int32), s10)
      else
        bd (fX6_walkSeconds a1 a2 a3 s10) fun r13 s14 =>
        some (r13, s14)
def fX9_stop (a1 : Int32) (a2 : Int32) (a3 : Int32) (a4 : Int32) (s : xM) : Option (Int32 × xM) :=
  bd (fX9_isKind a1 s) fun r1 s2 =>
  if r1 = 0 then
    some ((-2 : Int32), s2)
  else
    bd (fX9_isCell a2 s2) fun r5 s6 =>
    if r5 = 0 then
      some ((-2 : Int32), s6)
    else
      bd (fX9_isWithin a3 (0 : Int32) (99 : Int32) s6) fun r9 s10 =>
      if r9 = 0 then
        some ((-2 : Int32), s10)
      else
        bd (fX9_isWithin a4 (0 : Int32) (60 : Int32) s10) fun r13 s14 =>
        if r13 = 0 then
          some ((-2 : Int32), s14)
        else
          if (gi s14 1 7) < (8 : Int32) then
            gd (inb (gi s14 1 7) 8) <|
            bd (fX3_begin (gi s14 1 7).toNatClampNeg a1 a2 a3 a4 s14) fun _ s20 =>
            lz (si s20 1 7 ((gi s20 1 7) + (1 : Int32))) fun s22 =>
            some (((gi s22 1 7) - (1 : Int32)), s22)
          else
            some ((-4 : Int32), s14)
def fX9_isStop (a1 : Int32) (s : xM) : Option (Int32 × xM) :=
  bd (fX9_isWithin a1 (0 : Int32) ((gi s 1 7) - (1 : Int32)) s) fun r1 s2 =>
  gd (isZ r1) <|
  some (r1, s2)
def fX9_open_J57 (a3 : Int32) (t0 : Int32) (t1 : Nat) (s : xM) : Option (Int32 × xM) :=
  gd (isZ t0) <|
  lz (si s (11 + t1) 5 t0) fun s2 =>
  some (a3, s2)
def fX9_open (a1 : Int32) (a2 : Int32) (s : xM) : Option (Int32 × xM) :=
  bd (fX9_isStop a1 s) fun r1 s2 =>
  if r1 = 0 then
    some ((-1 : Int32), s2)
  else
    bd (fX9_isWithin a2 (0 : Int32) (1 : Int32) s2) fun r5 s6 =>
    if r5 = 0 then
      some ((-2 : Int32), s6)
    else
      gd (inb a1 8) <|
      bd (fX9_asNumber (gi s6 (11 + a1.toNatClampNeg) 5) s6) fun r10 s11 =>
      gd (inb a1 8) <|
      if a2 = (1 : Int32) then
        fX9_open_J57 r10 (1 : Int32) a1.toNatClampNeg s11
      else
        fX9_open_J57 r10 (0 : Int32) a1.toNatClampNeg s11
def fX9_want (a1 : Int32) (a2 : Int32) (s : xM) : Option (Int32 × xM) :=
  bd (fX9_isStop a1 s) fun r1 s2 =>
  if r1 = 0 then
    some ((-1 : Int32), s2)
  else
    bd (fX9_isWithin a2 (0 : Int32) (10 : Int32) s2) fun r5 s6 =>
    if r5 = 0 then
      some ((-2 : Int32), s6)
    else
      gd (inb a1 8) <|
      lz (gi s6 (11 + a1.toNatClampNeg) 6) fun v10 =>
      gd (inb a1 8) <|
      lz (si s6 (11 + a1.toNatClampNeg) 6 a2) fun s13 =>
      some (v10, s13)
def fX9_turns (a1 : Int32) (a2 : Int32) (s : xM) : Option (Int32 × xM) :=
  bd (fX9_isStop a1 s) fun r1 s2 =>
  if r1 = 0 then
    some ((-1 : Int32), s2)
  else
    bd (fX9_isWithin a2 (0 : Int32) (2 : Int32) s2) fun r5 s6 =>
    if r5 = 0 then
      some ((-2 : Int32), s6)
    else
      gd (inb a1 8) <|
      lz (gi s6 (11 + a1.toNatClampNeg) 7) fun v10 =>
      gd (inb a1 8) <|
      lz (si s6 (11 + a1.toNatClampNeg) 7 a2) fun s13 =>
      some (v10, s13)
def fX9_told (a1 : Int32) (a2 : Int32) (s : xM) : Option (Int32 × xM) :=
  bd (fX9_isStop a1 s) fun r1 s2 =>
  if r1 = 0 then
    some ((-5 : Int32), s2)
  else
    gd (inb a1 8) <|
    if a2 = (0 : Int32) then
      some ((gi s2 (11 + a1.toNatClampNeg) 0), s2)
    else
    if a2 = (1 : Int32) then
      some ((gi s2 (11 + a1.toNatClampNeg) 2), s2)
    else
    if a2 = (2 : Int32) then
      bd (fX3_secondsIf a1.toNatClampNeg (gi s2 (11 + a1.toNatClampNeg) 6) s2) fun r9 s10 =>
      some (r9, s10)
    else
    if a2 = (3 : Int32) then
      bd (fX9_asNumber (gi s2 (11 + a1.toNatClampNeg) 5) s2) fun r13 s14 =>
      some (r13, s14)
    else
    if a2 = (4 : Int32) then
      some ((gi s2 (11 + a1.toNatClampNeg) 6), s2)
    else
    if a2 = (5 : Int32) then
      bd (fX3_carsBy a1.toNatClampNeg (gi s2 (11 + a1.toNatClampNeg) 7) s2) fun r18 s19 =>
      some (r18, s19)
    else
    if a2 = (6 : Int32) then
      bd (fX3_isOf a1.toNatClampNeg (1 : Int32) s2) fun r22 s23 =>
      bd (fX9_asNumber r22 s23) fun r25 s26 =>
      some (r25, s26)
    else
    some ((-7 : Int32), s2)
def fX9_trip (a1 : Int32) (a2 : Int32) (a3 : Int32) (a4 : Int32) (s : xM) : Option (Int32 × xM) :=
  bd (fX9_isCell a1 s) fun r1 s2 =>
  if r1 = 0 then
    some ((-2 : Int32), s2)
  else
    bd (fX9_isCell a2 s2) fun r5 s6 =>
    if r5 = 0 then
      some ((-2 : Int32), s6)
    else
      bd (fX9_isWithin a3 (1 : Int32) (99 : Int32) s6) fun r9 s10 =>
      if r9 = 0 then
        some ((-2 : Int32), s10)
      else
        bd (fX9_isSort a4 s10) fun r13 s14 =>
        if r13 = 0 then
          some ((-2 : Int32), s14)
        else
          if (gi s14 1 9) < (8 : Int32) then
            gd (inb (gi s14 1 9) 8) <|
            bd (fX7_begin (gi s14 1 9).toNatClampNeg a1 a2 a3 a4 s14) fun _ s20 =>
            lz (si s20 1 9 ((gi s20 1 9) + (1 : Int32))) fun s22 =>
            some (((gi s22 1 9) - (1 : Int32)), s22)
          else
            some ((-4 : Int32), s14)
def fJ6_bitCount_0f7a4 (a0 : Int32) (s : xM) : Option (Int32 × xM) :=
  lz (a0 - (((a0.toUInt32 >>> ((1 : Int32).toUInt32 &&& Int32.toUInt32 31)).toInt32) &&& (1431655765 : Int32))) fun v1 =>
  lz ((v1 &&& (858993459 : Int32)) + (((v1.toUInt32 >>> ((2 : Int32).toUInt32 &&& Int32.toUInt32 31)).toInt32) &&& (858993459 : Int32))) fun v3 =>
  lz ((v3 + ((v3.toUInt32 >>> ((4 : Int32).toUInt32 &&& Int32.toUInt32 31)).toInt32)) &&& (252645135 : Int32)) fun v5 =>
  lz (v5 + ((v5.toUInt32 >>> ((8 : Int32).toUInt32 &&& Int32.toUInt32 31)).toInt32)) fun v7 =>
  lz (v7 + ((v7.toUInt32 >>> ((16 : Int32).toUInt32 &&& Int32.toUInt32 31)).toInt32)) fun v9 =>
  some ((v9 &&& (63 : Int32)), s)
