def fX10_finds_L81 (k110 : xM → Option (Int32 × xM)) (a1 : Int32) (a3 : Int32) : Nat → Int32 → xM → Option (Int32 × xM)
  | 0, _, _ => none
  | n + 1, a4, s =>
    if (gi s 0 4) ≤ a4 then
      k110 s
    else
      if a3 = a4 then
        fX10_finds_L81 k110 a1 a3 n (a4 + 1) s
      else
        bd (fX10_tries a1 a3 a4 s) fun _ s4 =>
        fX10_finds_L81 k110 a1 a3 n (a4 + 1) s4
def fX10_finds_L70 (k116 : xM → Option (Int32 × xM)) (a1 : Int32) : Nat → Int32 → xM → Option (Int32 × xM)
  | 0, _, _ => none
  | n + 1, a3, s =>
    if (gi s 0 4) ≤ a3 then
      k116 s
    else
      fX10_finds_L81 (fun s2 =>
          fX10_finds_L70 k116 a1 n (a3 + 1) s2) a1 a3 fu (0 : Int32) s
def fX10_finds (a1 : Int32) (s : xM) : Option (Int32 × xM) :=
  gd (inb a1 8) <|
  lz (gi s 13 a1.toNatClampNeg) fun v2 =>
  lz (si s 0 38 (-1 : Int32)) fun s4 =>
  lz (si s4 0 39 (-1 : Int32)) fun s6 =>
  gd (inb a1 8) <|
  gd (inb a1 8) <|
  bd (fX10_walk (gi s6 10 a1.toNatClampNeg) (gi s6 11 a1.toNatClampNeg) v2 s6) fun r10 s11 =>
  lz (si s11 0 40 r10) fun s13 =>
  lz (si s13 0 41 (0 : Int32)) fun s15 =>
  lz (si s15 0 42 (0 : Int32)) fun s17 =>
  gd (inb (((6 : Int32) * v2) + (2 : Int32)) 18) <|
  lz (si s17 0 37 ((gi s17 0 40) * (gi s17 2 (((6 : Int32) * v2) + (2 : Int32)).toNatClampNeg))) fun s20 =>
  fX10_finds_L70 (fun s22 =>
      some (0, s22)) a1 fu (0 : Int32) s20
def fX10_takes (a1 : Int32) (a2 : Int32) (s : xM) : Option (Int32 × xM) :=
  bd (fX10_isTrip a1 s) fun r1 s2 =>
  if r1 = 0 then
    some ((-5 : Int32), s2)
  else
    bd (fX10_finds a1 s2) fun _ s6 =>
    if a2 = (0 : Int32) then
      some ((gi s6 0 37), s6)
    else
    if a2 = (1 : Int32) then
      some ((gi s6 0 38), s6)
    else
    if a2 = (2 : Int32) then
      some ((gi s6 0 39), s6)
    else
    if a2 = (3 : Int32) then
      some ((gi s6 0 40), s6)
    else
    if a2 = (4 : Int32) then
      some ((gi s6 0 41), s6)
    else
    if a2 = (5 : Int32) then
      some ((gi s6 0 42), s6)
    else
    some ((-7 : Int32), s6)
def fX10_total_J103 (k122 : Int64 → xM → Option (Int64 × xM)) (b : Int64 → Int32 → xM → Option (Int64 × xM)) (a1 : Int64) (a3 : Int32) (s : xM) : Option (Int64 × xM) :=
  lz (si s 0 46 a3) fun s1 =>
  lz (si s1 0 45 (gi s1 0 37)) fun s3 =>
  b a1 (a3 + 1) s3
def fX10_total_J81 (k122 : Int64 → xM → Option (Int64 × xM)) (b : Int64 → Int32 → xM → Option (Int64 × xM)) (a1 : Int64) (a3 : Int32) (t0 : Int32) (s : xM) : Option (Int64 × xM) :=
  lz (si s 0 44 t0) fun s1 =>
  if (gi s1 0 46) = (-1 : Int32) then
    fX10_total_J103 k122 b a1 a3 s1
  else
    if (gi s1 0 37) ≤ (gi s1 0 45) then
      b a1 (a3 + 1) s1
    else
      fX10_total_J103 k122 b a1 a3 s1
def fX10_total_L19 (k122 : Int64 → xM → Option (Int64 × xM)) : Nat → Int64 → Int32 → xM → Option (Int64 × xM)
  | 0, _, _, _ => none
  | n + 1, a1, a3, s =>
    if (gi s 0 12) ≤ a3 then
      k122 a1 s
    else
      bd (fX10_finds a3 s) fun _ s3 =>
      gd (inb a3 8) <|
      lz (si s3 25 a3.toNatClampNeg (gi s3 0 37)) fun s6 =>
      gd (inb a3 8) <|
      lz (a1 + (((gi s6 12 a3.toNatClampNeg).toInt64) * ((gi s6 0 37).toInt64))) fun v9 =>
      if (gi s6 0 40) ≤ (gi s6 0 44) then
        fX10_total_J81 k122 (fX10_total_L19 k122 n) v9 a3 (gi s6 0 44) s6
      else
        fX10_total_J81 k122 (fX10_total_L19 k122 n) v9 a3 (gi s6 0 40) s6
def fX10_total (s : xM) : Option (Int64 × xM) :=
  lz (si s 0 44 (0 : Int32)) fun s1 =>
  lz (si s1 0 45 (0 : Int32)) fun s3 =>
  lz (si s3 0 46 (-1 : Int32)) fun s5 =>
  fX10_total_L19 (fun x7 s8 =>
      some (x7, s8)) fu (0 : Int64) (0 : Int32) s5
def fX10_sum (a1 : Int32) (s : xM) : Option (Int64 × xM) :=
  bd (fX10_in a1 (0 : Int32) (2 : Int32) s) fun r1 s2 =>
  if r1 = 0 then
    some ((-4611686018427387904 : Int64), s2)
  else
    bd (fX10_total s2) fun r5 s6 =>
    if a1 = 0 then
      some (r5, s6)
    else
      if a1 = (1 : Int32) then
        some (((gi s6 0 46).toInt64), s6)
      else
        some (((gi s6 0 45).toInt64), s6)
def fX10_useOf_J34 (k52 : Int32 → xM → Option (Int32 × xM)) (b : Int32 → Int32 → xM → Option (Int32 × xM)) (a1 : Int32) (a3 : Int32) (t0 : Int32) (s : xM) : Option (Int32 × xM) :=
  gd (inb a3 8) <|
  lz (t0 + (gi s 12 a3.toNatClampNeg)) fun v2 =>
  b v2 (a3 + 1) s
def fX10_useOf_L4 (k52 : Int32 → xM → Option (Int32 × xM)) (a1 : Int32) : Nat → Int32 → Int32 → xM → Option (Int32 × xM)
  | 0, _, _, _ => none
  | n + 1, a2, a3, s =>
    if (gi s 0 12) ≤ a3 then
      k52 a2 s
    else
      bd (fX10_finds a3 s) fun _ s3 =>
      if (gi s3 0 38) = a1 then
        fX10_useOf_J34 k52 (fX10_useOf_L4 k52 a1 n) a1 a3 a2 s3
      else
        if (gi s3 0 39) = a1 then
          fX10_useOf_J34 k52 (fX10_useOf_L4 k52 a1 n) a1 a3 a2 s3
        else
          lz (a2 + (0 : Int32)) fun v7 =>
          fX10_useOf_L4 k52 a1 n v7 (a3 + 1) s3
def fX10_useOf (a1 : Int32) (s : xM) : Option (Int32 × xM) :=
  fX10_useOf_L4 (fun x1 s2 =>
      some (x1, s2)) a1 fu (0 : Int32) (0 : Int32) s
def fX10_use (a1 : Int32) (s : xM) : Option (Int32 × xM) :=
  bd (fX10_isStop a1 s) fun r1 s2 =>
  if r1 = 0 then
    some ((-5 : Int32), s2)
  else
    bd (fX10_useOf a1 s2) fun r5 s6 =>
    some (r5, s6)
def fX10_feed_L33 (k75 : xM → Option (Int32 × xM)) (a1 : Int64) : Nat → Int32 → xM → Option (Int32 × xM)
  | 0, _, _ => none
  | n + 1, a4, s =>
    if a4 < 0 then
      k75 s
    else
      gd (inb (gi s 0 18) 160) <|
      lz (si s 14 (gi s 0 18).toNatClampNeg (((a1 >>> (((8 : Int32) * a4).toInt64 &&& 63)) &&& (255 : Int64)).toInt32)) fun s3 =>
      lz (si s3 0 18 ((gi s3 0 18) + (1 : Int32))) fun s5 =>
      fX10_feed_L33 k75 a1 n (a4 + (-1)) s5
def fX10_feed (a1 : Int64) (a3 : Int32) (s : xM) : Option (Int32 × xM) :=
  bd (fX10_in a3 (1 : Int32) (8 : Int32) s) fun r1 s2 =>
  if r1 = 0 then
    some ((-2 : Int32), s2)
  else
    if ((gi s2 0 18) + a3) ≤ (160 : Int32) then
      lz (a3 - (1 : Int32)) fun v6 =>
      fX10_feed_L33 (fun s8 =>
          some ((gi s8 0 18), s8)) a1 fu v6 s2
    else
      some ((-4 : Int32), s2)
def fX10_letters_J59 (k76 : Int64 → Int32 → xM → Option (Int64 × xM)) (b : Int64 → Int32 → xM → Option (Int64 × xM)) (a3 : Int32) (t0 : Int64) (s : xM) : Option (Int64 × xM) :=
  lz (si s 0 47 ((gi s 0 47) + (1 : Int32))) fun s1 =>
  b t0 (a3 + 1) s1
def fX10_letters_L4 (k76 : Int64 → Int32 → xM → Option (Int64 × xM)) : Nat → Int64 → Int32 → xM → Option (Int64 × xM)
  | 0, _, _, _ => none
  | n + 1, a1, a3, s =>
    if (gi s 0 18) ≤ (gi s 0 47) then
      k76 a1 a3 s
    else
      gd (inb (gi s 0 47) 160) <|
      bd (fX10_in (gi s 14 (gi s 0 47).toNatClampNeg) (97 : Int32) (122 : Int32) s) fun r3 s4 =>
      if r3 = 0 then
        k76 a1 a3 s4
      else
        if (8 : Int32) ≤ a3 then
          fX10_letters_J59 k76 (fX10_letters_L4 k76 n) a3 a1 s4
        else
          gd (inb (gi s4 0 47) 160) <|
          fX10_letters_J59 k76 (fX10_letters_L4 k76 n) a3 ((a1 <<< ((8 : Int32).toInt64 &&& 63)) ||| ((gi s4 14 (gi s4 0 47).toNatClampNeg).toInt64)) s4
def fX10_letters (s : xM) : Option (Int64 × xM) :=
  fX10_letters_L4 (fun x1 x2 s3 =>
      if x2 ≤ (4 : Int32) then
        some (x1, s3)
      else
        some ((0 : Int64), s3)) fu (0 : Int64) (0 : Int32) s
def fX10_next_J39 (k52 : xM → Option (Int32 × xM)) (b : xM → Option (Int32 × xM)) (s : xM) : Option (Int32 × xM) :=
  lz (si s 0 47 ((gi s 0 47) + (1 : Int32))) fun s1 =>
  b s1
def fX10_next_L0 (k52 : xM → Option (Int32 × xM)) : Nat → xM → Option (Int32 × xM)
  | 0, _ => none
  | n + 1, s =>
    if (gi s 0 18) ≤ (gi s 0 47) then
      k52 s
    else
      gd (inb (gi s 0 47) 160) <|
      if (gi s 14 (gi s 0 47).toNatClampNeg) = (32 : Int32) then
        fX10_next_J39 k52 (fX10_next_L0 k52 n) s
      else
        gd (inb (gi s 0 47) 160) <|
        if (gi s 14 (gi s 0 47).toNatClampNeg) = (10 : Int32) then
          fX10_next_J39 k52 (fX10_next_L0 k52 n) s
        else
          k52 s
def fX10_next_L111 (k136 : Int32 → xM → Option (Int32 × xM)) (a2 : Int64) : Nat → Int32 → xM → Option (Int32 × xM)
  | 0, _, _ => none
  | n + 1, a4, s =>
    if (12 : Int32) ≤ a4 then
      k136 a4 s
    else
      gd (inb a4 12) <|
      if (lg_cmp (gl s 26 a4.toNatClampNeg) a2) = 0 then
        k136 a4 s
      else
        fX10_next_L111 k136 a2 n (a4 + 1) s
def fX10_next_J274 (k293 : Int32 → xM → Option (Int32 × xM)) (b : Int32 → xM → Option (Int32 × xM)) (a2 : Int32) (t0 : Int32) (s : xM) : Option (Int32 × xM) :=
  lz (si s 0 50 t0) fun s1 =>
  lz (si s1 0 47 ((gi s1 0 47) + (1 : Int32))) fun s3 =>
  b (a2 + 1) s3
def fX10_next_L214 (k293 : Int32 → xM → Option (Int32 × xM)) : Nat → Int32 → xM → Option (Int32 × xM)
  | 0, _, _ => none
  | n + 1, a2, s =>
    if (gi s 0 18) ≤ (gi s 0 47) then
      k293 a2 s
    else
      gd (inb (gi s 0 47) 160) <|
      bd (fX10_in (gi s 14 (gi s 0 47).toNatClampNeg) (48 : Int32) (57 : Int32) s) fun r3 s4 =>
      if r3 = 0 then
        k293 a2 s4
      else
        if (4 : Int32) ≤ a2 then
          fX10_next_J274 k293 (fX10_next_L214 k293 n) a2 (0 : Int32) s4
        else
          gd (inb (gi s4 0 47) 160) <|
          fX10_next_J274 k293 (fX10_next_L214 k293 n) a2 ((((10 : Int32) * (gi s4 0 50)) + (gi s4 14 (gi s4 0 47).toNatClampNeg)) - (48 : Int32)) s4
def fX10_next_J374 (t0 : Int32) (s : xM) : Option (Int32 × xM) :=
  lz (si s 0 49 t0) fun s1 =>
  lz (si s1 0 47 ((gi s1 0 47) + (1 : Int32))) fun s3 =>
  some (0, s3)
def fX10_next_J363 (a1 : Int32) (t0 : Int32) (s : xM) : Option (Int32 × xM) :=
  if t0 = 0 then
    fX10_next_J374 (-1 : Int32) s
  else
    fX10_next_J374 a1 s
def fX10_next_J358 (a1 : Int32) (s : xM) : Option (Int32 × xM) :=
  fX10_next_J363 a1 (1 : Int32) s
def fX10_next_J304 (t0 : Int32) (s : xM) : Option (Int32 × xM) :=
  lz (si s 0 49 t0) fun s1 =>
  some (0, s1)
def fX10_next_J195 (t0 : Int32) (s : xM) : Option (Int32 × xM) :=
  lz (si s 0 50 t0) fun s1 =>
  some (0, s1)
def fX10_next_J176 (a4 : Int32) (t0 : Int32) (s : xM) : Option (Int32 × xM) :=
  lz (si s 0 49 t0) fun s1 =>
  if (3 : Int32) ≤ a4 then
    fX10_next_J195 (a4 - (3 : Int32)) s1
  else
    fX10_next_J195 a4 s1
def fX10_next (s : xM) : Option (Int32 × xM) :=
  fX10_next_L0 (fun s1 =>
      lz (si s1 0 48 (gi s1 0 47)) fun s2 =>
      lz (si s2 0 49 (0 : Int32)) fun s4 =>
      lz (si s4 0 50 (0 : Int32)) fun s6 =>
      if (gi s6 0 47) = (gi s6 0 18) then
        some (0, s6)
      else
        gd (inb (gi s6 0 47) 160) <|
        lz (gi s6 14 (gi s6 0 47).toNatClampNeg) fun v10 =>
        bd (fX10_in v10 (97 : Int32) (122 : Int32) s6) fun r12 s13 =>
        if r12 = 0 then
          bd (fX10_in v10 (48 : Int32) (57 : Int32) s13) fun r16 s17 =>
          if r16 = 0 then
            if v10 = (40 : Int32) then
              fX10_next_J358 v10 s17
            else
              if v10 = (41 : Int32) then
                fX10_next_J358 v10 s17
              else
                if v10 = (59 : Int32) then
                  fX10_next_J358 v10 s17
                else
                  if v10 = (43 : Int32) then
                    fX10_next_J358 v10 s17
                  else
                    if v10 = (45 : Int32) then
                      fX10_next_J358 v10 s17
                    else
                      if v10 = (42 : Int32) then
                        fX10_next_J358 v10 s17
                      else
                        if v10 = (60 : Int32) then
                          fX10_next_J358 v10 s17
                        else
                          if v10 = (61 : Int32) then
                            fX10_next_J358 v10 s17
                          else
                            fX10_next_J363 v10 (0 : Int32) s17
          else
            fX10_next_L214 (fun x28 s29 =>
                if x28 ≤ (4 : Int32) then
                  fX10_next_J304 (1 : Int32) s29
                else
                  fX10_next_J304 (-1 : Int32) s29) fu (0 : Int32) s17
        else
          bd (fX10_letters s13) fun r31 s32 =>
          fX10_next_L111 (fun x34 s35 =>
              if (3 : Int32) ≤ x34 then
                if (9 : Int32) ≤ x34 then
                  if x34 = (12 : Int32) then
                    fX10_next_J176 x34 (-1 : Int32) s35
                  else
                    fX10_next_J176 x34 (((4 : Int32) + x34) - (9 : Int32)) s35
                else
                  fX10_next_J176 x34 (2 : Int32) s35
              else
                fX10_next_J176 x34 (3 : Int32) s35) r31 fu (0 : Int32) s32) fu s
def fX10_rank (a0 : Int32) (s : xM) : Option (Int32 × xM) :=
  if a0 = 0 then
    some ((0 : Int32), s)
  else
    if a0 = (11 : Int32) then
      some ((1 : Int32), s)
    else
      if a0 = (12 : Int32) then
        some ((2 : Int32), s)
      else
        if a0 = (13 : Int32) then
          some ((3 : Int32), s)
        else
          if (15 : Int32) < a0 then
            if (17 : Int32) < a0 then
              if a0 = (18 : Int32) then
                some ((6 : Int32), s)
              else
                some ((7 : Int32), s)
            else
              some ((5 : Int32), s)
          else
            some ((4 : Int32), s)
def fX10_puts (a1 : Int32) (s : xM) : Option (Int32 × xM) :=
  gd (inb (((200 : Int32) * (gi s 0 21)) + (gi s 0 55)) 1200) <|
  lz (si s 15 (((200 : Int32) * (gi s 0 21)) + (gi s 0 55)).toNatClampNeg a1) fun s2 =>
  lz (si s2 0 55 ((gi s2 0 55) + (1 : Int32))) fun s4 =>
  some (0, s4)
def fX10_unwinds_J67 (k79 : xM → Option (Int32 × xM)) (b : xM → Option (Int32 × xM)) (a1 : Int32) (a2 : Int32) (t0 : Int32) (t1 : Int32) (s : xM) : Option (Int32 × xM) :=
  lz (si s 0 54 (t1 - t0)) fun s1 =>
  bd (fX10_puts a2 s1) fun _ s4 =>
  b s4
def fX10_unwinds_J62 (k79 : xM → Option (Int32 × xM)) (b : xM → Option (Int32 × xM)) (a1 : Int32) (a2 : Int32) (t0 : Int32) (s : xM) : Option (Int32 × xM) :=
  fX10_unwinds_J67 k79 b a1 a2 (1 : Int32) t0 s
def fX10_unwinds_L0 (k79 : xM → Option (Int32 × xM)) (a1 : Int32) : Nat → xM → Option (Int32 × xM)
  | 0, _ => none
  | n + 1, s =>
    if (gi s 0 53) ≤ 0 then
      k79 s
    else
      gd (inb ((gi s 0 53) - (1 : Int32)) 200) <|
      bd (fX10_rank (gi s 27 ((gi s 0 53) - (1 : Int32)).toNatClampNeg) s) fun r3 s4 =>
      if r3 < a1 then
        k79 s4
      else
        lz (si s4 0 53 ((gi s4 0 53) - (1 : Int32))) fun s7 =>
        gd (inb (gi s7 0 53) 200) <|
        lz (gi s7 27 (gi s7 0 53).toNatClampNeg) fun v10 =>
        if v10 = (13 : Int32) then
          fX10_unwinds_J62 k79 (fX10_unwinds_L0 k79 a1 n) a1 v10 (gi s7 0 54) s7
        else
          if v10 = (19 : Int32) then
            fX10_unwinds_J62 k79 (fX10_unwinds_L0 k79 a1 n) a1 v10 (gi s7 0 54) s7
          else
            fX10_unwinds_J67 k79 (fX10_unwinds_L0 k79 a1 n) a1 v10 (0 : Int32) (gi s7 0 54) s7
def fX10_unwinds (a1 : Int32) (s : xM) : Option (Int32 × xM) :=
  fX10_unwinds_L0 (fun s1 =>
      some (0, s1)) a1 fu s
def fX10_holds (a1 : Int32) (s : xM) : Option (Int32 × xM) :=
  gd (inb (gi s 0 53) 200) <|
  lz (si s 27 (gi s 0 53).toNatClampNeg a1) fun s2 =>
  lz (si s2 0 53 ((gi s2 0 53) + (1 : Int32))) fun s4 =>
  some (0, s4)
def fX10_opensOne (a1 : Int32) (s : xM) : Option (Int32 × xM) :=
  if (gi s 0 54) = (5 : Int32) then
    some ((0 : Int32), s)
  else
    lz (si s 0 54 ((gi s 0 54) + (1 : Int32))) fun s2 =>
    bd (fX10_holds a1 s2) fun _ s5 =>
    some ((1 : Int32), s5)
def fX10_between_J55 (a1 : Int32) (s : xM) : Option (Int32 × xM) :=
  bd (fX10_holds a1 s) fun _ s2 =>
  some ((1 : Int32), s2)
def fX10_between_J17 (a1 : Int32) (t0 : Int32) (s : xM) : Option (Int32 × xM) :=
  bd (fX10_unwinds t0 s) fun _ s2 =>
  bd (fX10_rank a1 s2) fun r4 s5 =>
  if r4 = (4 : Int32) then
    if (gi s5 0 53) ≤ 0 then
      fX10_between_J55 a1 s5
    else
      gd (inb ((gi s5 0 53) - (1 : Int32)) 200) <|
      bd (fX10_rank (gi s5 27 ((gi s5 0 53) - (1 : Int32)).toNatClampNeg) s5) fun r10 s11 =>
      if r10 = (4 : Int32) then
        some ((0 : Int32), s11)
      else
        fX10_between_J55 a1 s11
  else
    fX10_between_J55 a1 s5
def fX10_between (a1 : Int32) (s : xM) : Option (Int32 × xM) :=
  bd (fX10_rank a1 s) fun r1 s2 =>
  if r1 = (4 : Int32) then
    fX10_between_J17 a1 (5 : Int32) s2
  else
    bd (fX10_rank a1 s2) fun r5 s6 =>
    fX10_between_J17 a1 r5 s6
def fX10_signOf (s : xM) : Option (Int32 × xM) :=
  if (gi s 0 49) = (4 : Int32) then
    some ((11 : Int32), s)
  else
    if (gi s 0 49) = (5 : Int32) then
      some ((12 : Int32), s)
    else
      if (gi s 0 49) = (60 : Int32) then
        some ((14 : Int32), s)
      else
        if (gi s 0 49) = (61 : Int32) then
          some ((15 : Int32), s)
        else
          if (gi s 0 49) = (43 : Int32) then
            some ((16 : Int32), s)
          else
            if (gi s 0 49) = (45 : Int32) then
              some ((17 : Int32), s)
            else
              if (gi s 0 49) = (42 : Int32) then
                some ((18 : Int32), s)
              else
                some ((-1 : Int32), s)
