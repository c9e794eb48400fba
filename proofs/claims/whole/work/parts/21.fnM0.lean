def fX10_first (a1 : Int32) (a2 : Int32) (a3 : Int32) (a4 : Int32) (a5 : Int32) (s : xM) : Option (Int32 × xM) :=
  gd (inb a1 1200) <|
  lz (si s 15 a1.toNatClampNeg a2) fun s2 =>
  gd (inb (a1 + (1 : Int32)) 1200) <|
  lz (si s2 15 (a1 + (1 : Int32)).toNatClampNeg a3) fun s5 =>
  gd (inb (a1 + (2 : Int32)) 1200) <|
  lz (si s5 15 (a1 + (2 : Int32)).toNatClampNeg a4) fun s8 =>
  gd (inb (a1 + (3 : Int32)) 1200) <|
  lz (si s8 15 (a1 + (3 : Int32)).toNatClampNeg a5) fun s11 =>
  some (0, s11)
def fX10_in (a0 : Int32) (a1 : Int32) (a2 : Int32) (s : xM) : Option (Int32 × xM) :=
  if a0 < a1 then
    some ((0 : Int32), s)
  else
    if a2 < a0 then
      some ((0 : Int32), s)
    else
      some ((1 : Int32), s)
def fX10_isCell (a0 : Int32) (s : xM) : Option (Int32 × xM) :=
  bd (fX10_in a0 (0 : Int32) (40 : Int32) s) fun r1 s2 =>
  gd (isZ r1) <|
  some (r1, s2)
def fX10_isStop (a1 : Int32) (s : xM) : Option (Int32 × xM) :=
  bd (fX10_in a1 (0 : Int32) ((gi s 0 4) - (1 : Int32)) s) fun r1 s2 =>
  gd (isZ r1) <|
  some (r1, s2)
def fX10_isTrip (a1 : Int32) (s : xM) : Option (Int32 × xM) :=
  bd (fX10_in a1 (0 : Int32) ((gi s 0 12) - (1 : Int32)) s) fun r1 s2 =>
  gd (isZ r1) <|
  some (r1, s2)
def fX10_road (a1 : Int32) (a2 : Int32) (s : xM) : Option (Int32 × xM) :=
  bd (fX10_isCell a1 s) fun r1 s2 =>
  if r1 = 0 then
    some ((-1 : Int32), s2)
  else
    bd (fX10_in a2 (0 : Int32) (9 : Int32) s2) fun r5 s6 =>
    if r5 = 0 then
      some ((-2 : Int32), s6)
    else
      gd (inb a1 41) <|
      lz (gi s6 1 a1.toNatClampNeg) fun v10 =>
      gd (inb a1 41) <|
      lz (si s6 1 a1.toNatClampNeg a2) fun s13 =>
      some (v10, s13)
def fX10_sort_J80 (a1 : Int32) (a2 : Int32) (a3 : Int32) (t0 : Int32) (s : xM) : Option (Int32 × xM) :=
  if t0 = 0 then
    some ((-2 : Int32), s)
  else
    gd (inb (((6 : Int32) * a1) + a2) 18) <|
    lz (gi s 2 (((6 : Int32) * a1) + a2).toNatClampNeg) fun v3 =>
    gd (inb (((6 : Int32) * a1) + a2) 18) <|
    lz (si s 2 (((6 : Int32) * a1) + a2).toNatClampNeg a3) fun s6 =>
    some (v3, s6)
def fX10_sort_J79 (a1 : Int32) (a2 : Int32) (a3 : Int32) (s : xM) : Option (Int32 × xM) :=
  fX10_sort_J80 a1 a2 a3 (0 : Int32) s
def fX10_sort (a1 : Int32) (a2 : Int32) (a3 : Int32) (s : xM) : Option (Int32 × xM) :=
  bd (fX10_in a1 (0 : Int32) (2 : Int32) s) fun r1 s2 =>
  if r1 = 0 then
    some ((-1 : Int32), s2)
  else
    if a2 = 0 then
      bd (fX10_in a3 (1 : Int32) (60 : Int32) s2) fun r22 s23 =>
      fX10_sort_J80 a1 a2 a3 r22 s23
    else
      if a2 = (1 : Int32) then
        bd (fX10_in a3 (0 : Int32) (60 : Int32) s2) fun r19 s20 =>
        fX10_sort_J80 a1 a2 a3 r19 s20
      else
        bd (fX10_in a2 (2 : Int32) (4 : Int32) s2) fun r7 s8 =>
        if r7 = 0 then
          if a2 = (5 : Int32) then
            bd (fX10_in a3 (0 : Int32) (9999 : Int32) s8) fun r12 s13 =>
            if r12 = 0 then
              fX10_sort_J79 a1 a2 a3 s13
            else
              fX10_sort_J80 a1 a2 a3 (1 : Int32) s13
          else
            fX10_sort_J79 a1 a2 a3 s8
        else
          bd (fX10_in a3 (0 : Int32) (9 : Int32) s8) fun r16 s17 =>
          fX10_sort_J80 a1 a2 a3 r16 s17
def fX10_car_J78 (a3 : Int32) (t0 : Int32) (s : xM) : Option (Int32 × xM) :=
  lz (si s 0 3 t0) fun s1 =>
  some (a3, s1)
def fX10_car_J61 (a1 : Int32) (a2 : Int32) (a3 : Int32) (t0 : Int32) (s : xM) : Option (Int32 × xM) :=
  lz (si s 0 2 t0) fun s1 =>
  if a1 = (1 : Int32) then
    fX10_car_J78 a3 a2 s1
  else
    fX10_car_J78 a3 (gi s1 0 3) s1
def fX10_car_J47 (a1 : Int32) (a2 : Int32) (t0 : Int32) (s : xM) : Option (Int32 × xM) :=
  if a1 = 0 then
    fX10_car_J61 a1 a2 t0 a2 s
  else
    fX10_car_J61 a1 a2 t0 (gi s 0 2) s
def fX10_car_J23 (a1 : Int32) (a2 : Int32) (t0 : Int32) (t1 : Int32) (t2 : Int32) (s : xM) : Option (Int32 × xM) :=
  bd (fX10_in t2 t1 t0 s) fun r1 s2 =>
  if r1 = 0 then
    some ((-2 : Int32), s2)
  else
    if a1 = 0 then
      fX10_car_J47 a1 a2 (gi s2 0 2) s2
    else
      fX10_car_J47 a1 a2 (gi s2 0 3) s2
def fX10_car (a1 : Int32) (a2 : Int32) (s : xM) : Option (Int32 × xM) :=
  bd (fX10_in a1 (0 : Int32) (1 : Int32) s) fun r1 s2 =>
  if r1 = 0 then
    some ((-2 : Int32), s2)
  else
    if a1 = 0 then
      fX10_car_J23 a1 a2 (3600 : Int32) (1 : Int32) a2 s2
    else
      fX10_car_J23 a1 a2 (60 : Int32) (1 : Int32) a2 s2
def fX10_walk_J78 (k92 : Int32 → xM → Option (Int32 × xM)) (b : Int32 → Int32 → xM → Option (Int32 × xM)) (a2 : Int32) (a3 : Int32) (a4 : Int32) (a6 : Int32) (t0 : Int32) (t1 : Int32) (t2 : Int32) (s : xM) : Option (Int32 × xM) :=
  lz (t2 + (t1 + t0)) fun v1 =>
  lz (a6 + a4) fun v3 =>
  b v1 v3 s
def fX10_walk_L18 (k92 : Int32 → xM → Option (Int32 × xM)) (a2 : Int32) (a3 : Int32) (a4 : Int32) : Nat → Int32 → Int32 → xM → Option (Int32 × xM)
  | 0, _, _, _ => none
  | n + 1, a5, a6, s =>
    if a6 = a2 then
      k92 a5 s
    else
      gd (inb (a6 + a4) 41) <|
      gd (inb a6 41) <|
      lz ((gi s 1 (a6 + a4).toNatClampNeg) - (gi s 1 a6.toNatClampNeg)) fun v4 =>
      gd (inb ((6 : Int32) * a3) 18) <|
      if v4 ≤ 0 then
        fX10_walk_J78 k92 (fX10_walk_L18 k92 a2 a3 a4 n) a2 a3 a4 a6 (0 : Int32) (gi s 2 ((6 : Int32) * a3).toNatClampNeg) a5 s
      else
        gd (inb (((6 : Int32) * a3) + (1 : Int32)) 18) <|
        fX10_walk_J78 k92 (fX10_walk_L18 k92 a2 a3 a4 n) a2 a3 a4 a6 (v4 * (gi s 2 (((6 : Int32) * a3) + (1 : Int32)).toNatClampNeg)) (gi s 2 ((6 : Int32) * a3).toNatClampNeg) a5 s
def fX10_walk_J10 (a1 : Int32) (a2 : Int32) (a3 : Int32) (t0 : Int32) (s : xM) : Option (Int32 × xM) :=
  fX10_walk_L18 (fun x1 s2 =>
      some (x1, s2)) a2 a3 t0 fu (0 : Int32) a1 s
def fX10_walk (a1 : Int32) (a2 : Int32) (a3 : Int32) (s : xM) : Option (Int32 × xM) :=
  if a2 ≤ a1 then
    fX10_walk_J10 a1 a2 a3 (-1 : Int32) s
  else
    fX10_walk_J10 a1 a2 a3 (1 : Int32) s
def fX10_walks (a1 : Int32) (a2 : Int32) (a3 : Int32) (s : xM) : Option (Int32 × xM) :=
  bd (fX10_isCell a1 s) fun r1 s2 =>
  if r1 = 0 then
    some ((-5 : Int32), s2)
  else
    bd (fX10_isCell a2 s2) fun r5 s6 =>
    if r5 = 0 then
      some ((-5 : Int32), s6)
    else
      bd (fX10_in a3 (0 : Int32) (2 : Int32) s6) fun r9 s10 =>
      if r9 = 0 then
        some ((-7 : Int32), s10)
      else
        bd (fX10_walk a1 a2 a3 s10) fun r13 s14 =>
        some (r13, s14)
def fX10_stop (a1 : Int32) (a2 : Int32) (a3 : Int32) (a4 : Int32) (s : xM) : Option (Int32 × xM) :=
  bd (fX10_in a1 (0 : Int32) (5 : Int32) s) fun r1 s2 =>
  if r1 = 0 then
    some ((-2 : Int32), s2)
  else
    bd (fX10_isCell a2 s2) fun r5 s6 =>
    if r5 = 0 then
      some ((-2 : Int32), s6)
    else
      bd (fX10_in a3 (0 : Int32) (99 : Int32) s6) fun r9 s10 =>
      if r9 = 0 then
        some ((-2 : Int32), s10)
      else
        bd (fX10_in a4 (0 : Int32) (60 : Int32) s10) fun r13 s14 =>
        if r13 = 0 then
          some ((-2 : Int32), s14)
        else
          if (gi s14 0 4) = (8 : Int32) then
            some ((-4 : Int32), s14)
          else
            gd (inb (gi s14 0 4) 8) <|
            lz (si s14 3 (gi s14 0 4).toNatClampNeg a1) fun s19 =>
            gd (inb (gi s19 0 4) 8) <|
            lz (si s19 4 (gi s19 0 4).toNatClampNeg a2) fun s22 =>
            gd (inb (gi s22 0 4) 8) <|
            lz (si s22 5 (gi s22 0 4).toNatClampNeg a3) fun s25 =>
            gd (inb (gi s25 0 4) 8) <|
            lz (si s25 6 (gi s25 0 4).toNatClampNeg a4) fun s28 =>
            gd (inb (gi s28 0 4) 8) <|
            lz (si s28 7 (gi s28 0 4).toNatClampNeg (1 : Int32)) fun s31 =>
            gd (inb (gi s31 0 4) 8) <|
            lz (si s31 8 (gi s31 0 4).toNatClampNeg (5 : Int32)) fun s34 =>
            lz (si s34 0 4 ((gi s34 0 4) + (1 : Int32))) fun s36 =>
            some (((gi s36 0 4) - (1 : Int32)), s36)
def fX10_open (a1 : Int32) (a2 : Int32) (s : xM) : Option (Int32 × xM) :=
  bd (fX10_isStop a1 s) fun r1 s2 =>
  if r1 = 0 then
    some ((-1 : Int32), s2)
  else
    bd (fX10_in a2 (0 : Int32) (1 : Int32) s2) fun r5 s6 =>
    if r5 = 0 then
      some ((-2 : Int32), s6)
    else
      gd (inb a1 8) <|
      lz (gi s6 7 a1.toNatClampNeg) fun v10 =>
      gd (inb a1 8) <|
      lz (si s6 7 a1.toNatClampNeg a2) fun s13 =>
      some (v10, s13)
def fX10_want (a1 : Int32) (a2 : Int32) (s : xM) : Option (Int32 × xM) :=
  bd (fX10_isStop a1 s) fun r1 s2 =>
  if r1 = 0 then
    some ((-1 : Int32), s2)
  else
    bd (fX10_in a2 (0 : Int32) (10 : Int32) s2) fun r5 s6 =>
    if r5 = 0 then
      some ((-2 : Int32), s6)
    else
      gd (inb a1 8) <|
      lz (gi s6 8 a1.toNatClampNeg) fun v10 =>
      gd (inb a1 8) <|
      lz (si s6 8 a1.toNatClampNeg a2) fun s13 =>
      some (v10, s13)
def fX10_turns (a1 : Int32) (a2 : Int32) (s : xM) : Option (Int32 × xM) :=
  bd (fX10_isStop a1 s) fun r1 s2 =>
  if r1 = 0 then
    some ((-1 : Int32), s2)
  else
    bd (fX10_in a2 (0 : Int32) (2 : Int32) s2) fun r5 s6 =>
    if r5 = 0 then
      some ((-2 : Int32), s6)
    else
      gd (inb a1 8) <|
      lz (gi s6 9 a1.toNatClampNeg) fun v10 =>
      gd (inb a1 8) <|
      lz (si s6 9 a1.toNatClampNeg a2) fun s13 =>
      some (v10, s13)
def fX10_isAsked (a1 : Int32) (s : xM) : Option (Int32 × xM) :=
  gd (inb a1 8) <|
  if (gi s 3 a1.toNatClampNeg) = (1 : Int32) then
    some ((1 : Int32), s)
  else
    gd (inb a1 8) <|
    if (gi s 3 a1.toNatClampNeg) = (5 : Int32) then
      some ((1 : Int32), s)
    else
      some ((0 : Int32), s)
def fX10_secondsBy (a1 : Int32) (a2 : Int32) (s : xM) : Option (Int32 × xM) :=
  gd (inb a1 8) <|
  if (gi s 3 a1.toNatClampNeg) = (1 : Int32) then
    gd (inb a1 8) <|
    some ((((gi s 5 a1.toNatClampNeg) * a2) / (10 : Int32)), s)
  else
  if (gi s 3 a1.toNatClampNeg) = (2 : Int32) then
    gd (inb a1 8) <|
    some ((gi s 5 a1.toNatClampNeg), s)
  else
  if (gi s 3 a1.toNatClampNeg) = (3 : Int32) then
    gd (inb a1 8) <|
    gd (inb a1 8) <|
    some (((gi s 5 a1.toNatClampNeg) + (gi s 6 a1.toNatClampNeg)), s)
  else
  if (gi s 3 a1.toNatClampNeg) = (4 : Int32) then
    gd (inb a1 8) <|
    some (((gi s 5 a1.toNatClampNeg) / (2 : Int32)), s)
  else
  if (gi s 3 a1.toNatClampNeg) = (5 : Int32) then
    gd (inb a1 8) <|
    gd (inb a1 8) <|
    some (((((gi s 5 a1.toNatClampNeg) * a2) / (10 : Int32)) + (gi s 6 a1.toNatClampNeg)), s)
  else
  gd (inb a1 8) <|
  some ((gi s 5 a1.toNatClampNeg), s)
def fX10_seconds (a1 : Int32) (s : xM) : Option (Int32 × xM) :=
  gd (inb a1 8) <|
  bd (fX10_secondsBy a1 (gi s 8 a1.toNatClampNeg) s) fun r2 s3 =>
  some (r2, s3)
def fX10_lets_J57 (a1 : Int32) (a2 : Int32) (t0 : Int32) (s : xM) : Option (Int32 × xM) :=
  if t0 = 0 then
    some ((0 : Int32), s)
  else
    gd (inb a1 8) <|
    if (gi s 9 a1.toNatClampNeg) = 0 then
      some ((1 : Int32), s)
    else
      gd (inb a1 8) <|
      if (gi s 9 a1.toNatClampNeg) = (a2 + (1 : Int32)) then
        some ((1 : Int32), s)
      else
        some ((0 : Int32), s)
def fX10_lets_J52 (a1 : Int32) (a2 : Int32) (s : xM) : Option (Int32 × xM) :=
  fX10_lets_J57 a1 a2 (1 : Int32) s
def fX10_lets (a1 : Int32) (a2 : Int32) (s : xM) : Option (Int32 × xM) :=
  gd (inb a1 8) <|
  if (gi s 3 a1.toNatClampNeg) = (2 : Int32) then
    gd (inb a1 8) <|
    if a2 = ((gi s 6 a1.toNatClampNeg) - (gi s 6 a1.toNatClampNeg) / (2 : Int32) * (2 : Int32)) then
      fX10_lets_J57 a1 a2 (1 : Int32) s
    else
      fX10_lets_J57 a1 a2 (0 : Int32) s
  else
    gd (inb a1 8) <|
    if (gi s 3 a1.toNatClampNeg) = (4 : Int32) then
      gd (inb a1 8) <|
      if a2 = ((gi s 6 a1.toNatClampNeg) - (gi s 6 a1.toNatClampNeg) / (2 : Int32) * (2 : Int32)) then
        fX10_lets_J57 a1 a2 (0 : Int32) s
      else
        fX10_lets_J52 a1 a2 s
    else
      fX10_lets_J52 a1 a2 s
def fX10_doesStop (a1 : Int32) (a2 : Int32) (s : xM) : Option (Int32 × xM) :=
  gd (inb a1 8) <|
  if (gi s 7 a1.toNatClampNeg) = (1 : Int32) then
    bd (fX10_lets a1 a2 s) fun r3 s4 =>
    if r3 = 0 then
      some ((0 : Int32), s4)
    else
      some ((1 : Int32), s4)
  else
    some ((0 : Int32), s)
def fX10_told_J104 (a1 : Int32) (t0 : Int32) (s : xM) : Option (Int32 × xM) :=
  bd (fX10_lets a1 (1 : Int32) s) fun r1 s2 =>
  if r1 = 0 then
    some ((t0 + (0 : Int32)), s2)
  else
    some ((t0 + (2 : Int32)), s2)
def fX10_told (a1 : Int32) (a2 : Int32) (s : xM) : Option (Int32 × xM) :=
  bd (fX10_isStop a1 s) fun r1 s2 =>
  if r1 = 0 then
    some ((-5 : Int32), s2)
  else
    if a2 = (0 : Int32) then
      gd (inb a1 8) <|
      some ((gi s2 3 a1.toNatClampNeg), s2)
    else
    if a2 = (1 : Int32) then
      gd (inb a1 8) <|
      some ((gi s2 4 a1.toNatClampNeg), s2)
    else
    if a2 = (2 : Int32) then
      bd (fX10_seconds a1 s2) fun r10 s11 =>
      some (r10, s11)
    else
    if a2 = (3 : Int32) then
      gd (inb a1 8) <|
      some ((gi s2 7 a1.toNatClampNeg), s2)
    else
    if a2 = (4 : Int32) then
      gd (inb a1 8) <|
      some ((gi s2 8 a1.toNatClampNeg), s2)
    else
    if a2 = (5 : Int32) then
      bd (fX10_lets a1 (0 : Int32) s2) fun r18 s19 =>
      if r18 = 0 then
        fX10_told_J104 a1 (0 : Int32) s19
      else
        fX10_told_J104 a1 (1 : Int32) s19
    else
    if a2 = (6 : Int32) then
      bd (fX10_isAsked a1 s2) fun r23 s24 =>
      if r23 = 0 then
        some ((0 : Int32), s24)
      else
        some ((1 : Int32), s24)
    else
    some ((-7 : Int32), s2)
def fX10_trip (a1 : Int32) (a2 : Int32) (a3 : Int32) (a4 : Int32) (s : xM) : Option (Int32 × xM) :=
  bd (fX10_isCell a1 s) fun r1 s2 =>
  if r1 = 0 then
    some ((-2 : Int32), s2)
  else
    bd (fX10_isCell a2 s2) fun r5 s6 =>
    if r5 = 0 then
      some ((-2 : Int32), s6)
    else
      bd (fX10_in a3 (1 : Int32) (99 : Int32) s6) fun r9 s10 =>
      if r9 = 0 then
        some ((-2 : Int32), s10)
      else
        bd (fX10_in a4 (0 : Int32) (2 : Int32) s10) fun r13 s14 =>
        if r13 = 0 then
          some ((-2 : Int32), s14)
        else
          if (gi s14 0 12) = (8 : Int32) then
            some ((-4 : Int32), s14)
          else
            gd (inb (gi s14 0 12) 8) <|
            lz (si s14 10 (gi s14 0 12).toNatClampNeg a1) fun s19 =>
            gd (inb (gi s19 0 12) 8) <|
            lz (si s19 11 (gi s19 0 12).toNatClampNeg a2) fun s22 =>
            gd (inb (gi s22 0 12) 8) <|
            lz (si s22 12 (gi s22 0 12).toNatClampNeg a3) fun s25 =>
            gd (inb (gi s25 0 12) 8) <|
            lz (si s25 13 (gi s25 0 12).toNatClampNeg a4) fun s28 =>
            lz (si s28 0 12 ((gi s28 0 12) + (1 : Int32))) fun s30 =>
            some (((gi s30 0 12) - (1 : Int32)), s30)
def fX10_openMany_L4 (k27 : Int32 → xM → Option (Int32 × xM)) : Nat → Int32 → Int32 → xM → Option (Int32 × xM)
  | 0, _, _, _ => none
  | n + 1, a1, a2, s =>
    if (gi s 0 4) ≤ a2 then
      k27 a1 s
    else
      gd (inb a2 8) <|
      lz (a1 + (gi s 7 a2.toNatClampNeg)) fun v3 =>
      fX10_openMany_L4 k27 n v3 (a2 + 1) s
def fX10_openMany (s : xM) : Option (Int32 × xM) :=
  fX10_openMany_L4 (fun x1 s2 =>
      some (x1, s2)) fu (0 : Int32) (0 : Int32) s
def fX10_count (a1 : Int32) (s : xM) : Option (Int32 × xM) :=
  if a1 = (0 : Int32) then
    some ((gi s 0 4), s)
  else
  if a1 = (1 : Int32) then
    some ((gi s 0 12), s)
  else
  if a1 = (2 : Int32) then
    bd (fX10_openMany s) fun r4 s5 =>
    some (r4, s5)
  else
  if a1 = (3 : Int32) then
    some ((gi s 0 21), s)
  else
  if a1 = (4 : Int32) then
    some ((gi s 0 22), s)
  else
  if a1 = (5 : Int32) then
    some ((gi s 0 18), s)
  else
  if a1 = (6 : Int32) then
    some ((gi s 0 2), s)
  else
  if a1 = (7 : Int32) then
    some ((gi s 0 3), s)
  else
  some ((-2 : Int32), s)
def fX10_isBetween_J65 (t0 : Int32) (t1 : Int32) (s : xM) : Option (Int32 × xM) :=
  if t0 ≤ t1 then
    some ((0 : Int32), s)
  else
    some ((1 : Int32), s)
def fX10_isBetween_J31 (a1 : Int32) (a2 : Int32) (a3 : Int32) (t0 : Int32) (t1 : Int32) (s : xM) : Option (Int32 × xM) :=
  if t1 ≤ t0 then
    some ((0 : Int32), s)
  else
    gd (inb a2 8) <|
    gd (inb a3 8) <|
    if (gi s 4 a3.toNatClampNeg) ≤ (gi s 4 a2.toNatClampNeg) then
      gd (inb a2 8) <|
      fX10_isBetween_J65 (gi s 4 a2.toNatClampNeg) a1 s
    else
      gd (inb a3 8) <|
      fX10_isBetween_J65 (gi s 4 a3.toNatClampNeg) a1 s
def fX10_isBetween (a1 : Int32) (a2 : Int32) (a3 : Int32) (s : xM) : Option (Int32 × xM) :=
  gd (inb a2 8) <|
  gd (inb a3 8) <|
  if (gi s 4 a3.toNatClampNeg) ≤ (gi s 4 a2.toNatClampNeg) then
    gd (inb a3 8) <|
    fX10_isBetween_J31 a1 a2 a3 (gi s 4 a3.toNatClampNeg) a1 s
  else
    gd (inb a2 8) <|
    fX10_isBetween_J31 a1 a2 a3 (gi s 4 a2.toNatClampNeg) a1 s
def fX10_rides_L54 (k110 : Int32 → xM → Option (Int32 × xM)) (a1 : Int32) (a2 : Int32) (a3 : Int32) : Nat → Int32 → Int32 → xM → Option (Int32 × xM)
  | 0, _, _, _ => none
  | n + 1, a4, a5, s =>
    if (gi s 0 4) ≤ a5 then
      k110 a4 s
    else
      gd (inb a5 8) <|
      bd (fX10_isBetween (gi s 4 a5.toNatClampNeg) a1 a2 s) fun r3 s4 =>
      if r3 = 0 then
        lz (a4 + (0 : Int32)) fun v7 =>
        fX10_rides_L54 k110 a1 a2 a3 n v7 (a5 + 1) s4
      else
        bd (fX10_doesStop a5 a3 s4) fun r9 s10 =>
        if r9 = 0 then
          lz (a4 + (0 : Int32)) fun v13 =>
          fX10_rides_L54 k110 a1 a2 a3 n v13 (a5 + 1) s10
        else
          bd (fX10_seconds a5 s10) fun r15 s16 =>
          lz (a4 + r15) fun v18 =>
          fX10_rides_L54 k110 a1 a2 a3 n v18 (a5 + 1) s16
def fX10_rides_J48 (a1 : Int32) (a2 : Int32) (a3 : Int32) (t0 : Int32) (t1 : Int32) (s : xM) : Option (Int32 × xM) :=
  lz (t1 * t0) fun v1 =>
  fX10_rides_L54 (fun x3 s4 =>
      some (x3, s4)) a1 a2 a3 fu v1 (0 : Int32) s
def fX10_rides (a1 : Int32) (a2 : Int32) (a3 : Int32) (s : xM) : Option (Int32 × xM) :=
  gd (inb a1 8) <|
  gd (inb a2 8) <|
  if (gi s 4 a2.toNatClampNeg) ≤ (gi s 4 a1.toNatClampNeg) then
    gd (inb a1 8) <|
    gd (inb a2 8) <|
    fX10_rides_J48 a1 a2 a3 ((gi s 4 a1.toNatClampNeg) - (gi s 4 a2.toNatClampNeg)) (gi s 0 3) s
  else
    gd (inb a2 8) <|
    gd (inb a1 8) <|
    fX10_rides_J48 a1 a2 a3 ((gi s 4 a2.toNatClampNeg) - (gi s 4 a1.toNatClampNeg)) (gi s 0 3) s
def fX10_tries_J132 (a1 : Int32) (a2 : Int32) (a3 : Int32) (a6 : Int32) (t0 : Int32) (s : xM) : Option (Int32 × xM) :=
  gd (inb a1 8) <|
  lz (gi s 13 a1.toNatClampNeg) fun v2 =>
  gd (inb a1 8) <|
  gd (inb a2 8) <|
  bd (fX10_walk (gi s 10 a1.toNatClampNeg) (gi s 4 a2.toNatClampNeg) v2 s) fun r6 s7 =>
  gd (inb a3 8) <|
  gd (inb a1 8) <|
  bd (fX10_walk (gi s7 4 a3.toNatClampNeg) (gi s7 11 a1.toNatClampNeg) v2 s7) fun r11 s12 =>
  lz (r6 + r11) fun v14 =>
  gd (inb (((6 : Int32) * v2) + (2 : Int32)) 18) <|
  gd (inb (((6 : Int32) * v2) + (3 : Int32)) 18) <|
  gd (inb (((6 : Int32) * v2) + (4 : Int32)) 18) <|
  lz (((v14 * (gi s12 2 (((6 : Int32) * v2) + (2 : Int32)).toNatClampNeg)) + (t0 * (gi s12 2 (((6 : Int32) * v2) + (3 : Int32)).toNatClampNeg))) + (a6 * (gi s12 2 (((6 : Int32) * v2) + (4 : Int32)).toNatClampNeg))) fun v19 =>
  if (gi s12 0 37) ≤ v19 then
    some (0, s12)
  else
    lz (si s12 0 37 v19) fun s22 =>
    lz (si s22 0 38 a2) fun s24 =>
    lz (si s24 0 39 a3) fun s26 =>
    lz (si s26 0 40 v14) fun s28 =>
    lz (si s28 0 41 t0) fun s30 =>
    lz (si s30 0 42 a6) fun s32 =>
    some (0, s32)
def fX10_tries_J128 (a1 : Int32) (a2 : Int32) (a3 : Int32) (a6 : Int32) (s : xM) : Option (Int32 × xM) :=
  fX10_tries_J132 a1 a2 a3 a6 (gi s 0 2) s
def fX10_tries_J107 (a1 : Int32) (a2 : Int32) (a3 : Int32) (a4 : Int32) (a5 : Int32) (t0 : Int32) (s : xM) : Option (Int32 × xM) :=
  if a4 = 0 then
    fX10_tries_J128 a1 a2 a3 t0 s
  else
    if a5 = 0 then
      fX10_tries_J128 a1 a2 a3 t0 s
    else
      fX10_tries_J132 a1 a2 a3 t0 ((gi s 0 2) / (2 : Int32)) s
def fX10_tries_J104 (a1 : Int32) (a2 : Int32) (a3 : Int32) (a4 : Int32) (a5 : Int32) (t0 : Int32) (t1 : Int32) (t2 : Int32) (s : xM) : Option (Int32 × xM) :=
  bd (fX10_rides t2 t1 t0 s) fun r1 s2 =>
  fX10_tries_J107 a1 a2 a3 a4 a5 r1 s2
def fX10_tries_J91 (a1 : Int32) (a2 : Int32) (a3 : Int32) (a4 : Int32) (a5 : Int32) (s : xM) : Option (Int32 × xM) :=
  if a4 = 0 then
    fX10_tries_J104 a1 a2 a3 a4 a5 (1 : Int32) a3 a2 s
  else
    fX10_tries_J104 a1 a2 a3 a4 a5 (0 : Int32) a3 a2 s
def fX10_tries_J61 (a1 : Int32) (a2 : Int32) (a3 : Int32) (a4 : Int32) (a5 : Int32) (s : xM) : Option (Int32 × xM) :=
  if a4 = 0 then
    fX10_tries_J91 a1 a2 a3 a4 a5 s
  else
    if a5 = 0 then
      fX10_tries_J91 a1 a2 a3 a4 a5 s
    else
      bd (fX10_rides a2 a3 (0 : Int32) s) fun r3 s4 =>
      bd (fX10_rides a2 a3 (1 : Int32) s4) fun r6 s7 =>
      fX10_tries_J107 a1 a2 a3 a4 a5 ((r3 + r6) / (2 : Int32)) s7
def fX10_tries_J48 (a1 : Int32) (a2 : Int32) (a3 : Int32) (a4 : Int32) (t0 : Int32) (s : xM) : Option (Int32 × xM) :=
  if a4 = 0 then
    if t0 = 0 then
      some (0, s)
    else
      fX10_tries_J61 a1 a2 a3 a4 t0 s
  else
    fX10_tries_J61 a1 a2 a3 a4 t0 s
def fX10_tries_J47 (a1 : Int32) (a2 : Int32) (a3 : Int32) (a4 : Int32) (s : xM) : Option (Int32 × xM) :=
  fX10_tries_J48 a1 a2 a3 a4 (0 : Int32) s
def fX10_tries_J23 (a1 : Int32) (a2 : Int32) (a3 : Int32) (t0 : Int32) (s : xM) : Option (Int32 × xM) :=
  bd (fX10_doesStop a2 (1 : Int32) s) fun r1 s2 =>
  if r1 = 0 then
    fX10_tries_J47 a1 a2 a3 t0 s2
  else
    bd (fX10_doesStop a3 (1 : Int32) s2) fun r5 s6 =>
    if r5 = 0 then
      fX10_tries_J47 a1 a2 a3 t0 s6
    else
      fX10_tries_J48 a1 a2 a3 t0 (1 : Int32) s6
def fX10_tries_J22 (a1 : Int32) (a2 : Int32) (a3 : Int32) (s : xM) : Option (Int32 × xM) :=
  fX10_tries_J23 a1 a2 a3 (0 : Int32) s
def fX10_tries (a1 : Int32) (a2 : Int32) (a3 : Int32) (s : xM) : Option (Int32 × xM) :=
  bd (fX10_doesStop a2 (0 : Int32) s) fun r1 s2 =>
  if r1 = 0 then
    fX10_tries_J22 a1 a2 a3 s2
  else
    bd (fX10_doesStop a3 (0 : Int32) s2) fun r5 s6 =>
    if r5 = 0 then
      fX10_tries_J22 a1 a2 a3 s6
    else
      fX10_tries_J23 a1 a2 a3 (1 : Int32) s6
