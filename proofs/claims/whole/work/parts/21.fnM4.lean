def fX10_bunch (a1 : Int32) (a2 : Int32) (s : xM) : Option (Int32 × xM) :=
  bd (fX10_in a1 (0 : Int32) (11 : Int32) s) fun r1 s2 =>
  if r1 = 0 then
    some ((-2 : Int32), s2)
  else
    bd (fX10_in a2 (0 : Int32) (3600 : Int32) s2) fun r5 s6 =>
    if r5 = 0 then
      some ((-2 : Int32), s6)
    else
      bd (fX10_goesAll (a1 + (1 : Int32)) a2 s6) fun _ s10 =>
      gd (inb a1 12) <|
      some (((gl s10 37 a1.toNatClampNeg).toInt32), s10)
def fX10_crowd_L47 (k103 : Int64 → xM → Option (Int32 × xM)) (a1 : Int32) : Nat → Int64 → Int32 → xM → Option (Int32 × xM)
  | 0, _, _, _ => none
  | n + 1, a3, a5, s =>
    if a1 ≤ a5 then
      k103 a3 s
    else
      gd (inb a5 12) <|
      gd (inb (a5 - (1 : Int32)) 12) <|
      if 0 ≤ (lg_cmp ((gl s 37 a5.toNatClampNeg) - (gl s 37 (a5 - (1 : Int32)).toNatClampNeg)) a3) then
        fX10_crowd_L47 k103 a1 n a3 (a5 + 1) s
      else
        gd (inb a5 12) <|
        gd (inb (a5 - (1 : Int32)) 12) <|
        lz ((gl s 37 a5.toNatClampNeg) - (gl s 37 (a5 - (1 : Int32)).toNatClampNeg)) fun v7 =>
        fX10_crowd_L47 k103 a1 n v7 (a5 + 1) s
def fX10_crowd (a1 : Int32) (a2 : Int32) (s : xM) : Option (Int32 × xM) :=
  bd (fX10_in a1 (2 : Int32) (12 : Int32) s) fun r1 s2 =>
  if r1 = 0 then
    some ((-2 : Int32), s2)
  else
    bd (fX10_in a2 (0 : Int32) (3600 : Int32) s2) fun r5 s6 =>
    if r5 = 0 then
      some ((-2 : Int32), s6)
    else
      bd (fX10_goesAll a1 a2 s6) fun _ s10 =>
      lz ((gl s10 37 1) - (gl s10 37 0)) fun v12 =>
      fX10_crowd_L47 (fun x14 s15 =>
          some ((x14.toInt32), s15)) a1 fu v12 (2 : Int32) s10
def fX10_drawn_L218 (k331 : Int32 → xM → Option (Int32 × xM)) (a7 : Int32) : Nat → Int64 → Int32 → Int32 → xM → Option (Int32 × xM)
  | 0, _, _, _, _ => none
  | n + 1, a5, a8, a9, s =>
    if (gi s 0 4) ≤ a9 then
      k331 a8 s
    else
      lz ((a5 * (48271 : Int64)) - (a5 * (48271 : Int64)) / (2147483647 : Int64) * (2147483647 : Int64)) fun v2 =>
      gd (inb a9 8) <|
      bd (fX10_isBetween (gi s 4 a9.toNatClampNeg) (gi s 0 38) (gi s 0 39) s) fun r5 s6 =>
      if r5 = 0 then
        fX10_drawn_L218 k331 a7 n v2 a8 (a9 + 1) s6
      else
        bd (fX10_doesStop a9 a7 s6) fun r9 s10 =>
        if r9 = 0 then
          fX10_drawn_L218 k331 a7 n v2 a8 (a9 + 1) s10
        else
          bd (fX10_isAsked a9 s10) fun r13 s14 =>
          if r13 = 0 then
            bd (fX10_seconds a9 s14) fun r26 s27 =>
            lz (a8 + r26) fun v29 =>
            fX10_drawn_L218 k331 a7 n v2 v29 (a9 + 1) s27
          else
            gd (inb a9 8) <|
            if 0 ≤ (lg_cmp (v2 - v2 / (10 : Int64) * (10 : Int64)) ((gi s14 8 a9.toNatClampNeg).toInt64)) then
              lz (a8 + (0 : Int32)) fun v19 =>
              fX10_drawn_L218 k331 a7 n v2 v19 (a9 + 1) s14
            else
              bd (fX10_secondsBy a9 (10 : Int32) s14) fun r21 s22 =>
              lz (a8 + r21) fun v24 =>
              fX10_drawn_L218 k331 a7 n v2 v24 (a9 + 1) s22
def fX10_drawn_J212 (a5 : Int64) (a7 : Int32) (t0 : Int32) (t1 : Int32) (s : xM) : Option (Int32 × xM) :=
  lz (t1 * t0) fun v1 =>
  fX10_drawn_L218 (fun x3 s4 =>
      some (x3, s4)) a7 fu a5 v1 (0 : Int32) s
def fX10_drawn_J144 (a5 : Int64) (t0 : Int32) (s : xM) : Option (Int32 × xM) :=
  gd (inb (gi s 0 38) 8) <|
  gd (inb (gi s 0 39) 8) <|
  if (gi s 4 (gi s 0 39).toNatClampNeg) ≤ (gi s 4 (gi s 0 38).toNatClampNeg) then
    gd (inb (gi s 0 38) 8) <|
    gd (inb (gi s 0 39) 8) <|
    fX10_drawn_J212 a5 t0 ((gi s 4 (gi s 0 38).toNatClampNeg) - (gi s 4 (gi s 0 39).toNatClampNeg)) (gi s 0 3) s
  else
    gd (inb (gi s 0 39) 8) <|
    gd (inb (gi s 0 38) 8) <|
    fX10_drawn_J212 a5 t0 ((gi s 4 (gi s 0 39).toNatClampNeg) - (gi s 4 (gi s 0 38).toNatClampNeg)) (gi s 0 3) s
def fX10_drawn_J135 (a3 : Int32) (a5 : Int64) (s : xM) : Option (Int32 × xM) :=
  if a3 = 0 then
    fX10_drawn_J144 a5 (1 : Int32) s
  else
    fX10_drawn_J144 a5 (0 : Int32) s
def fX10_drawn_J100 (a2 : Int32) (a3 : Int32) (t0 : Int32) (s : xM) : Option (Int32 × xM) :=
  lz ((((a2.toInt64) + (1 : Int64)) * (48271 : Int64)) - (((a2.toInt64) + (1 : Int64)) * (48271 : Int64)) / (2147483647 : Int64) * (2147483647 : Int64)) fun v1 =>
  if a3 = 0 then
    fX10_drawn_J135 a3 v1 s
  else
    if t0 = 0 then
      fX10_drawn_J135 a3 v1 s
    else
      fX10_drawn_J144 v1 ((v1 - v1 / (2 : Int64) * (2 : Int64)).toInt32) s
def fX10_drawn_J99 (a2 : Int32) (a3 : Int32) (s : xM) : Option (Int32 × xM) :=
  fX10_drawn_J100 a2 a3 (0 : Int32) s
def fX10_drawn_J70 (a2 : Int32) (t0 : Int32) (s : xM) : Option (Int32 × xM) :=
  bd (fX10_doesStop (gi s 0 38) (1 : Int32) s) fun r1 s2 =>
  if r1 = 0 then
    fX10_drawn_J99 a2 t0 s2
  else
    bd (fX10_doesStop (gi s2 0 39) (1 : Int32) s2) fun r5 s6 =>
    if r5 = 0 then
      fX10_drawn_J99 a2 t0 s6
    else
      fX10_drawn_J100 a2 t0 (1 : Int32) s6
def fX10_drawn_J69 (a2 : Int32) (s : xM) : Option (Int32 × xM) :=
  fX10_drawn_J70 a2 (0 : Int32) s
def fX10_drawn (a1 : Int32) (a2 : Int32) (s : xM) : Option (Int32 × xM) :=
  bd (fX10_isTrip a1 s) fun r1 s2 =>
  if r1 = 0 then
    some ((-5 : Int32), s2)
  else
    bd (fX10_in a2 (0 : Int32) (99999 : Int32) s2) fun r5 s6 =>
    if r5 = 0 then
      some ((-7 : Int32), s6)
    else
      bd (fX10_finds a1 s6) fun _ s10 =>
      if (gi s10 0 38) = (-1 : Int32) then
        some ((-3 : Int32), s10)
      else
        bd (fX10_doesStop (gi s10 0 38) (0 : Int32) s10) fun r13 s14 =>
        if r13 = 0 then
          fX10_drawn_J69 a2 s14
        else
          bd (fX10_doesStop (gi s14 0 39) (0 : Int32) s14) fun r17 s18 =>
          if r17 = 0 then
            fX10_drawn_J69 a2 s18
          else
            fX10_drawn_J70 a2 (1 : Int32) s18
def fX10_image_L47 (k71 : xM → Option (Int32 × xM)) : Nat → Int32 → xM → Option (Int32 × xM)
  | 0, _, _ => none
  | n + 1, a1, s =>
    if (40 : Int32) < a1 then
      k71 s
    else
      gd (inb a1 41) <|
      gd (inb a1 41) <|
      lz (si s 17 a1.toNatClampNeg (gi s 1 a1.toNatClampNeg)) fun s4 =>
      fX10_image_L47 k71 n (a1 + 1) s4
def fX10_image_L73 (k97 : xM → Option (Int32 × xM)) : Nat → Int32 → xM → Option (Int32 × xM)
  | 0, _, _ => none
  | n + 1, a1, s =>
    if (18 : Int32) ≤ a1 then
      k97 s
    else
      gd (inb a1 18) <|
      gd (inb a1 18) <|
      lz (si s 18 a1.toNatClampNeg (gi s 2 a1.toNatClampNeg)) fun s4 =>
      fX10_image_L73 k97 n (a1 + 1) s4
def fX10_image_L99 (k147 : xM → Option (Int32 × xM)) : Nat → Int32 → xM → Option (Int32 × xM)
  | 0, _, _ => none
  | n + 1, a1, s =>
    if (8 : Int32) ≤ a1 then
      k147 s
    else
      gd (inb a1 8) <|
      gd (inb a1 8) <|
      lz (si s 19 a1.toNatClampNeg (gi s 7 a1.toNatClampNeg)) fun s4 =>
      gd (inb a1 8) <|
      gd (inb a1 8) <|
      lz (si s4 20 a1.toNatClampNeg (gi s4 8 a1.toNatClampNeg)) fun s8 =>
      gd (inb a1 8) <|
      gd (inb a1 8) <|
      lz (si s8 21 a1.toNatClampNeg (gi s8 9 a1.toNatClampNeg)) fun s12 =>
      fX10_image_L99 k147 n (a1 + 1) s12
def fX10_image (s : xM) : Option (Int32 × xM) :=
  lz (si s 0 23 (1 : Int32)) fun s1 =>
  lz (si s1 0 24 (gi s1 0 4)) fun s3 =>
  lz (si s3 0 25 (gi s3 0 12)) fun s5 =>
  lz (si s5 0 26 (gi s5 0 2)) fun s7 =>
  lz (si s7 0 27 (gi s7 0 3)) fun s9 =>
  lz (si s9 0 28 (gi s9 0 22)) fun s11 =>
  fX10_image_L47 (fun s13 =>
      fX10_image_L73 (fun s14 =>
          fX10_image_L99 (fun s15 =>
              some ((gi s15 0 4), s15)) fu (0 : Int32) s14) fu (0 : Int32) s13) fu (0 : Int32) s11
def fX10_back_L44 (k68 : xM → Option (Int32 × xM)) : Nat → Int32 → xM → Option (Int32 × xM)
  | 0, _, _ => none
  | n + 1, a1, s =>
    if (40 : Int32) < a1 then
      k68 s
    else
      gd (inb a1 41) <|
      gd (inb a1 41) <|
      lz (si s 1 a1.toNatClampNeg (gi s 17 a1.toNatClampNeg)) fun s4 =>
      fX10_back_L44 k68 n (a1 + 1) s4
def fX10_back_L70 (k94 : xM → Option (Int32 × xM)) : Nat → Int32 → xM → Option (Int32 × xM)
  | 0, _, _ => none
  | n + 1, a1, s =>
    if (18 : Int32) ≤ a1 then
      k94 s
    else
      gd (inb a1 18) <|
      gd (inb a1 18) <|
      lz (si s 2 a1.toNatClampNeg (gi s 18 a1.toNatClampNeg)) fun s4 =>
      fX10_back_L70 k94 n (a1 + 1) s4
def fX10_back_L96 (k146 : xM → Option (Int32 × xM)) : Nat → Int32 → xM → Option (Int32 × xM)
  | 0, _, _ => none
  | n + 1, a1, s =>
    if (gi s 0 24) ≤ a1 then
      k146 s
    else
      gd (inb a1 8) <|
      gd (inb a1 8) <|
      lz (si s 7 a1.toNatClampNeg (gi s 19 a1.toNatClampNeg)) fun s4 =>
      gd (inb a1 8) <|
      gd (inb a1 8) <|
      lz (si s4 8 a1.toNatClampNeg (gi s4 20 a1.toNatClampNeg)) fun s8 =>
      gd (inb a1 8) <|
      gd (inb a1 8) <|
      lz (si s8 9 a1.toNatClampNeg (gi s8 21 a1.toNatClampNeg)) fun s12 =>
      fX10_back_L96 k146 n (a1 + 1) s12
def fX10_back (s : xM) : Option (Int32 × xM) :=
  if (gi s 0 23) = 0 then
    some ((-3 : Int32), s)
  else
    lz (si s 0 12 (gi s 0 25)) fun s2 =>
    lz (si s2 0 2 (gi s2 0 26)) fun s4 =>
    lz (si s4 0 3 (gi s4 0 27)) fun s6 =>
    lz (si s6 0 22 (gi s6 0 28)) fun s8 =>
    fX10_back_L44 (fun s10 =>
        fX10_back_L70 (fun s11 =>
            fX10_back_L96 (fun s12 =>
                some ((gi s12 0 4), s12)) fu (0 : Int32) s11) fu (0 : Int32) s10) fu (0 : Int32) s8
def fX10_sheet_L70 (k96 : xM → Option (Int32 × xM)) (a1 : Int32) : Nat → Int32 → xM → Option (Int32 × xM)
  | 0, _, _ => none
  | n + 1, a4, s =>
    if (41 : Int32) ≤ a4 then
      k96 s
    else
      gd (inb (((41 : Int32) * a1) + a4) 164) <|
      lz (si s 24 (((41 : Int32) * a1) + a4).toNatClampNeg (0 : Int32)) fun s3 =>
      fX10_sheet_L70 k96 a1 n (a4 + 1) s3
def fX10_sheet_J66 (a1 : Int32) (t0 : Int32) (t1 : Int32) (s : xM) : Option (Int32 × xM) :=
  gd (inb t1 4) <|
  lz (si s 23 t1.toNatClampNeg t0) fun s2 =>
  fX10_sheet_L70 (fun s4 =>
      some ((1 : Int32), s4)) a1 fu (0 : Int32) s2
def fX10_sheet_J44 (a1 : Int32) (a2 : Int32) (a3 : Int32) (s : xM) : Option (Int32 × xM) :=
  gd (inb a1 4) <|
  lz (si s 22 a1.toNatClampNeg a2) fun s2 =>
  if a2 = (-1 : Int32) then
    fX10_sheet_J66 a1 (0 : Int32) a1 s2
  else
    fX10_sheet_J66 a1 a3 a1 s2
def fX10_sheet_J32 (a1 : Int32) (a2 : Int32) (a3 : Int32) (s : xM) : Option (Int32 × xM) :=
  if a2 = (-1 : Int32) then
    fX10_sheet_J44 a1 a2 a3 s
  else
    if 0 ≤ a3 then
      fX10_sheet_J44 a1 a2 a3 s
    else
      some ((-14 : Int32), s)
def fX10_sheet (a1 : Int32) (a2 : Int32) (a3 : Int32) (s : xM) : Option (Int32 × xM) :=
  bd (fX10_in a1 (0 : Int32) (3 : Int32) s) fun r1 s2 =>
  if r1 = 0 then
    some ((-2 : Int32), s2)
  else
    bd (fX10_in a2 (-1 : Int32) (2 : Int32) s2) fun r5 s6 =>
    if r5 = 0 then
      some ((-2 : Int32), s6)
    else
      if a2 = (-1 : Int32) then
        fX10_sheet_J32 a1 a2 a3 s6
      else
        if a3 ≤ (41 : Int32) then
          fX10_sheet_J32 a1 a2 a3 s6
        else
          some ((-2 : Int32), s6)
def fX10_cell_J84 (t0 : Int32) (t1 : Int32) (s : xM) : Option (Int32 × xM) :=
  gd (inb t1 164) <|
  lz (si s 24 t1.toNatClampNeg t0) fun s2 =>
  some ((1 : Int32), s2)
def fX10_cell (a1 : Int32) (a2 : Int32) (a3 : Int32) (s : xM) : Option (Int32 × xM) :=
  bd (fX10_in a1 (0 : Int32) (3 : Int32) s) fun r1 s2 =>
  if r1 = 0 then
    some ((-2 : Int32), s2)
  else
    gd (inb a1 4) <|
    if (gi s2 22 a1.toNatClampNeg) = (-1 : Int32) then
      some ((-11 : Int32), s2)
    else
      gd (inb a1 4) <|
      bd (fX10_in a2 (0 : Int32) ((gi s2 23 a1.toNatClampNeg) - (1 : Int32)) s2) fun r8 s9 =>
      if r8 = 0 then
        some ((-12 : Int32), s9)
      else
        gd (inb a1 4) <|
        if (gi s9 22 a1.toNatClampNeg) = 0 then
          fX10_cell_J84 (a3.toInt8.toInt32) (((41 : Int32) * a1) + a2) s9
        else
          gd (inb a1 4) <|
          if (gi s9 22 a1.toNatClampNeg) = (1 : Int32) then
            fX10_cell_J84 (a3.toInt16.toInt32) (((41 : Int32) * a1) + a2) s9
          else
            fX10_cell_J84 a3 (((41 : Int32) * a1) + a2) s9
def fX10_copy_J173 (k201 : xM → Option (Int32 × xM)) (b : Int32 → xM → Option (Int32 × xM)) (a5 : Int32) (a6 : Int32) (a7 : Int32) (a8 : Int32) (t0 : Int32) (s : xM) : Option (Int32 × xM) :=
  gd (inb (a6 + t0) 164) <|
  gd (inb (a7 + t0) 164) <|
  lz (si s 24 (a7 + t0).toNatClampNeg (gi s 24 (a6 + t0).toNatClampNeg)) fun s3 =>
  b (a8 + 1) s3
def fX10_copy_L147 (k201 : xM → Option (Int32 × xM)) (a5 : Int32) (a6 : Int32) (a7 : Int32) : Nat → Int32 → xM → Option (Int32 × xM)
  | 0, _, _ => none
  | n + 1, a8, s =>
    if a5 ≤ a8 then
      k201 s
    else
      if a7 ≤ a6 then
        fX10_copy_J173 k201 (fX10_copy_L147 k201 a5 a6 a7 n) a5 a6 a7 a8 a8 s
      else
        fX10_copy_J173 k201 (fX10_copy_L147 k201 a5 a6 a7 n) a5 a6 a7 a8 ((a5 - (1 : Int32)) - a8) s
def fX10_copy (a1 : Int32) (a2 : Int32) (a3 : Int32) (a4 : Int32) (a5 : Int32) (s : xM) : Option (Int32 × xM) :=
  bd (fX10_in a1 (0 : Int32) (3 : Int32) s) fun r1 s2 =>
  if r1 = 0 then
    some ((-2 : Int32), s2)
  else
    bd (fX10_in a3 (0 : Int32) (3 : Int32) s2) fun r5 s6 =>
    if r5 = 0 then
      some ((-2 : Int32), s6)
    else
      gd (inb a1 4) <|
      if (gi s6 22 a1.toNatClampNeg) = (-1 : Int32) then
        some ((-11 : Int32), s6)
      else
        gd (inb a3 4) <|
        if (gi s6 22 a3.toNatClampNeg) = (-1 : Int32) then
          some ((-11 : Int32), s6)
        else
          gd (inb a1 4) <|
          gd (inb a3 4) <|
          if (gi s6 22 a1.toNatClampNeg) = (gi s6 22 a3.toNatClampNeg) then
            if a5 < 0 then
              some ((-12 : Int32), s6)
            else
              if a2 < 0 then
                some ((-12 : Int32), s6)
              else
                if a4 < 0 then
                  some ((-12 : Int32), s6)
                else
                  gd (inb a1 4) <|
                  if (gi s6 23 a1.toNatClampNeg) < a2 then
                    some ((-12 : Int32), s6)
                  else
                    gd (inb a3 4) <|
                    if (gi s6 23 a3.toNatClampNeg) < a4 then
                      some ((-12 : Int32), s6)
                    else
                      gd (inb a1 4) <|
                      if ((gi s6 23 a1.toNatClampNeg) - a2) < a5 then
                        some ((-12 : Int32), s6)
                      else
                        gd (inb a3 4) <|
                        if a5 ≤ ((gi s6 23 a3.toNatClampNeg) - a4) then
                          lz (((41 : Int32) * a1) + a2) fun v27 =>
                          lz (((41 : Int32) * a3) + a4) fun v29 =>
                          fX10_copy_L147 (fun s31 =>
                              some (a5, s31)) a5 v27 v29 fu (0 : Int32) s6
                        else
                          some ((-12 : Int32), s6)
          else
            some ((-13 : Int32), s6)
def fX10_tripsBy_L64 (k102 : xM → Option (Int32 × xM)) (k171 : Int32 → xM → Option (Int32 × xM)) (a1 : Int32) (a3 : Int32) (a4 : Int32) : Nat → Int32 → Int32 → xM → Option (Int32 × xM)
  | 0, _, _, _ => none
  | n + 1, a5, a6, s =>
    if a4 ≤ a6 then
      k171 a5 s
    else
      lz (a3 + ((4 : Int32) * a6)) fun v2 =>
      if a3 < 0 then
        k102 s
      else
        if v2 < a3 then
          k102 s
        else
          gd (inb a1 4) <|
          if v2 ≤ ((gi s 23 a1.toNatClampNeg) - (4 : Int32)) then
            lz (((41 : Int32) * a1) + v2) fun v8 =>
            gd (inb v8 164) <|
            gd (inb (v8 + (1 : Int32)) 164) <|
            gd (inb (v8 + (2 : Int32)) 164) <|
            gd (inb (v8 + (3 : Int32)) 164) <|
            bd (fX10_trip (gi s 24 v8.toNatClampNeg) (gi s 24 (v8 + (1 : Int32)).toNatClampNeg) (gi s 24 (v8 + (2 : Int32)).toNatClampNeg) (gi s 24 (v8 + (3 : Int32)).toNatClampNeg) s) fun r14 s15 =>
            if r14 < 0 then
              lz (a5 + (0 : Int32)) fun v18 =>
              fX10_tripsBy_L64 k102 k171 a1 a3 a4 n v18 (a6 + 1) s15
            else
              lz (a5 + (1 : Int32)) fun v20 =>
              fX10_tripsBy_L64 k102 k171 a1 a3 a4 n v20 (a6 + 1) s15
          else
            k102 s
def fX10_tripsBy (a1 : Int32) (a2 : Int32) (a3 : Int32) (a4 : Int32) (s : xM) : Option (Int32 × xM) :=
  bd (fX10_in a1 (0 : Int32) (3 : Int32) s) fun r1 s2 =>
  if r1 = 0 then
    some ((-2 : Int32), s2)
  else
    bd (fX10_in a2 (0 : Int32) (2 : Int32) s2) fun r5 s6 =>
    if r5 = 0 then
      some ((-2 : Int32), s6)
    else
      bd (fX10_in a4 (0 : Int32) (8 : Int32) s6) fun r9 s10 =>
      if r9 = 0 then
        some ((-2 : Int32), s10)
      else
        gd (inb a1 4) <|
        if (gi s10 22 a1.toNatClampNeg) = (-1 : Int32) then
          some ((-11 : Int32), s10)
        else
          gd (inb a1 4) <|
          if (gi s10 22 a1.toNatClampNeg) = a2 then
            fX10_tripsBy_L64 (fun s17 =>
                some ((-12 : Int32), s17)) (fun x18 s19 =>
                some (x18, s19)) a1 a3 a4 fu (0 : Int32) (0 : Int32) s10
          else
            some ((-13 : Int32), s10)
def fX10_isUnder_J19 (a0 : Int32) (a1 : Int32) (s : xM) : Option (Int32 × xM) :=
  if a1 = (2 : Int32) then
    if a0 = (4 : Int32) then
      some ((1 : Int32), s)
    else
      some ((0 : Int32), s)
  else
    some ((0 : Int32), s)
def fX10_isUnder (a0 : Int32) (a1 : Int32) (s : xM) : Option (Int32 × xM) :=
  if a1 = 0 then
    some ((1 : Int32), s)
  else
    if a0 = a1 then
      some ((1 : Int32), s)
    else
      if a1 = (1 : Int32) then
        if a0 = (5 : Int32) then
          some ((1 : Int32), s)
        else
          fX10_isUnder_J19 a0 a1 s
      else
        fX10_isUnder_J19 a0 a1 s
def fX10_taken (a1 : Int32) (a2 : Int32) (s : xM) : Option (Int32 × xM) :=
  bd (fX10_in a2 (0 : Int32) (6 : Int32) s) fun r1 s2 =>
  if r1 = 0 then
    some ((-2 : Int32), s2)
  else
    bd (fX10_in a1 (0 : Int32) (15 : Int32) s2) fun r5 s6 =>
    if r5 = 0 then
      some ((-12 : Int32), s6)
    else
      if (8 : Int32) ≤ a1 then
        if (a1 - (8 : Int32)) < (gi s6 0 4) then
          if (6 : Int32) ≤ a2 then
            some ((-13 : Int32), s6)
          else
            gd (inb (a1 - (8 : Int32)) 8) <|
            bd (fX10_isUnder (gi s6 3 (a1 - (8 : Int32)).toNatClampNeg) a2 s6) fun r13 s14 =>
            if r13 = 0 then
              some ((-13 : Int32), s14)
            else
              some ((a1 - (8 : Int32)), s14)
        else
          some ((-11 : Int32), s6)
      else
        if a1 < (gi s6 0 12) then
          if a2 = (6 : Int32) then
            gd (inb a1 8) <|
            some ((gi s6 12 a1.toNatClampNeg), s6)
          else
            some ((-13 : Int32), s6)
        else
          some ((-11 : Int32), s6)
