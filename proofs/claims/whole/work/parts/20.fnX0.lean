abbrev sT0 : List Int32 := [1, 0, 0, 0, 0, 0]
abbrev sT1 : List Int32 := [60, 60, 9, 9, 9, 9999]
abbrev sT2 : List Int32 := [10, 5, 2, 2, 1, 300, 15, 20, 3, 2, 1, 200, 6, 2, 1, 3, 1, 600]
abbrev sT3 : List Int32 := [0, 0, 0, 0, 2, 1]
def fX0_keep_L27 (k57 : xM → Option (Int32 × xM)) : Nat → Int32 → xM → Option (Int32 × xM)
  | 0, _, _ => none
  | n + 1, a3, s =>
    if (3 : Int32) ≤ a3 then
      k57 s
    else
      gd (inb a3 3) <|
      gd (inb a3 3) <|
      gd (cpb (0 : Int32) (0 : Int32) (6 : Int32) 6 6) <|
      lz (scp s (6 + a3.toNatClampNeg) (0 : Int32).toNatClampNeg (84 + a3.toNatClampNeg) (0 : Int32).toNatClampNeg (6 : Int32).toNatClampNeg) fun s5 =>
      fX0_keep_L27 k57 n (a3 + 1) s5
def fX0_keep_L83 (k142 : xM → Option (Int32 × xM)) : Nat → Int32 → xM → Option (Int32 × xM)
  | 0, _, _ => none
  | n + 1, a3, s =>
    if (gi s 81 6) ≤ a3 then
      k142 s
    else
      gd (inb a3 8) <|
      gd (inb a3 8) <|
      lz (si s 87 a3.toNatClampNeg (vp_nar .boolean (gi s (11 + a3.toNatClampNeg) 5))) fun s4 =>
      gd (inb a3 8) <|
      gd (inb a3 8) <|
      lz (si s4 88 a3.toNatClampNeg (gi s4 (11 + a3.toNatClampNeg) 6)) fun s8 =>
      gd (inb a3 8) <|
      gd (inb a3 8) <|
      lz (si s8 89 a3.toNatClampNeg (gi s8 (11 + a3.toNatClampNeg) 7)) fun s12 =>
      fX0_keep_L83 k142 n (a3 + 1) s12
def fX0_keep (a2 : Int32) (s : xM) : Option (Int32 × xM) :=
  lz (si s 81 0 (1 : Int32)) fun s1 =>
  lz (si s1 81 1 a2) fun s3 =>
  gd (cpb (0 : Int32) (0 : Int32) (41 : Int32) 41 41) <|
  lz (scp s3 2 (0 : Int32).toNatClampNeg 82 (0 : Int32).toNatClampNeg (41 : Int32).toNatClampNeg) fun s6 =>
  fX0_keep_L27 (fun s8 =>
      lz (si s8 81 4 (gi s8 1 4)) fun s9 =>
      lz (si s9 81 5 (gi s9 1 5)) fun s11 =>
      lz (si s11 81 6 (gi s11 1 7)) fun s13 =>
      fX0_keep_L83 (fun s15 =>
          lz (si s15 81 10 (gi s15 1 9)) fun s16 =>
          some (0, s16)) fu (0 : Int32) s13) fu (0 : Int32) s6
def fX6_measureClimbs_L2 (k71 : xM → Option (Int32 × xM)) : Nat → Int32 → xM → Option (Int32 × xM)
  | 0, _, _ => none
  | n + 1, a1, s =>
    if (41 : Int32) ≤ a1 then
      k71 s
    else
      gd (inb a1 41) <|
      gd (inb (a1 - (1 : Int32)) 41) <|
      lz ((gi s 2 a1.toNatClampNeg) - (gi s 2 (a1 - (1 : Int32)).toNatClampNeg)) fun v4 =>
      gd (inb (a1 - (1 : Int32)) 41) <|
      gd (inb a1 41) <|
      lz (si s 3 a1.toNatClampNeg ((gi s 3 (a1 - (1 : Int32)).toNatClampNeg) + (if (0 : Int32) < v4 then v4 else (0 : Int32)))) fun s8 =>
      gd (inb (a1 - (1 : Int32)) 41) <|
      gd (inb a1 41) <|
      lz (si s8 4 a1.toNatClampNeg ((gi s8 4 (a1 - (1 : Int32)).toNatClampNeg) + (if (0 : Int32) < (-v4) then (-v4) else (0 : Int32)))) fun s12 =>
      fX6_measureClimbs_L2 k71 n (a1 + 1) s12
def fX6_measureClimbs (s : xM) : Option (Int32 × xM) :=
  fX6_measureClimbs_L2 (fun s1 =>
      some (0, s1)) fu (1 : Int32) s
def fX0_giveBack_L21 (k51 : xM → Option (Int32 × xM)) : Nat → Int32 → xM → Option (Int32 × xM)
  | 0, _, _ => none
  | n + 1, a2, s =>
    if (3 : Int32) ≤ a2 then
      k51 s
    else
      gd (inb a2 3) <|
      gd (inb a2 3) <|
      gd (cpb (0 : Int32) (0 : Int32) (6 : Int32) 6 6) <|
      lz (scp s (84 + a2.toNatClampNeg) (0 : Int32).toNatClampNeg (6 + a2.toNatClampNeg) (0 : Int32).toNatClampNeg (6 : Int32).toNatClampNeg) fun s5 =>
      fX0_giveBack_L21 k51 n (a2 + 1) s5
def fX0_giveBack_L69 (k128 : xM → Option (Int32 × xM)) : Nat → Int32 → xM → Option (Int32 × xM)
  | 0, _, _ => none
  | n + 1, a2, s =>
    if (gi s 81 6) ≤ a2 then
      k128 s
    else
      gd (inb a2 8) <|
      gd (inb a2 8) <|
      gd (isZ (gi s 87 a2.toNatClampNeg)) <|
      lz (si s (11 + a2.toNatClampNeg) 5 (gi s 87 a2.toNatClampNeg)) fun s5 =>
      gd (inb a2 8) <|
      gd (inb a2 8) <|
      lz (si s5 (11 + a2.toNatClampNeg) 6 (gi s5 88 a2.toNatClampNeg)) fun s9 =>
      gd (inb a2 8) <|
      gd (inb a2 8) <|
      lz (si s9 (11 + a2.toNatClampNeg) 7 (gi s9 89 a2.toNatClampNeg)) fun s13 =>
      fX0_giveBack_L69 k128 n (a2 + 1) s13
def fX0_giveBack (s : xM) : Option (Int32 × xM) :=
  gd (cpb (0 : Int32) (0 : Int32) (41 : Int32) 41 41) <|
  lz (scp s 82 (0 : Int32).toNatClampNeg 2 (0 : Int32).toNatClampNeg (41 : Int32).toNatClampNeg) fun s2 =>
  bd (fX6_measureClimbs s2) fun _ s5 =>
  fX0_giveBack_L21 (fun s7 =>
      lz (si s7 1 4 (gi s7 81 4)) fun s8 =>
      lz (si s8 1 5 (gi s8 81 5)) fun s10 =>
      fX0_giveBack_L69 (fun s12 =>
          lz (si s12 1 9 (gi s12 81 10)) fun s13 =>
          some (0, s13)) fu (0 : Int32) s10) fu (0 : Int32) s5
def fX5_clear (a0 : Nat) (s : xM) : Option (Int32 × xM) :=
  lz (si s (97 + 4 * a0) 3 (0 : Int32)) fun s1 =>
  lz (si s1 (97 + 4 * a0) 4 (0 : Int32)) fun s3 =>
  some (0, s3)
def fX4_isBlank (a0 : Int32) (s : xM) : Option (Int32 × xM) :=
  if a0 = (32 : Int32) then
    some ((1 : Int32), s)
  else
    if a0 = (10 : Int32) then
      some ((1 : Int32), s)
    else
      some ((0 : Int32), s)
def fX4_isLetter (a0 : Int32) (s : xM) : Option (Int32 × xM) :=
  if a0 < (97 : Int32) then
    some ((0 : Int32), s)
  else
    if (122 : Int32) < a0 then
      some ((0 : Int32), s)
    else
      some ((1 : Int32), s)
def fX4_isDigit (a0 : Int32) (s : xM) : Option (Int32 × xM) :=
  if a0 < (48 : Int32) then
    some ((0 : Int32), s)
  else
    if (57 : Int32) < a0 then
      some ((0 : Int32), s)
    else
      some ((1 : Int32), s)
def fX4_readNumber_J72 (k88 : xM → Option (Int32 × xM)) (b : xM → Option (Int32 × xM)) (t0 : Int32) (s : xM) : Option (Int32 × xM) :=
  lz (si s 77 5 t0) fun s1 =>
  lz (si s1 77 4 ((gi s1 77 4) + (1 : Int32))) fun s3 =>
  b s3
def fX4_readNumber_L5 (k88 : xM → Option (Int32 × xM)) : Nat → xM → Option (Int32 × xM)
  | 0, _ => none
  | n + 1, s =>
    if (gi s 77 1) ≤ (gi s 77 4) then
      k88 s
    else
      gd (inb (gi s 77 4) 160) <|
      bd (fX4_isDigit (gi s 78 (gi s 77 4).toNatClampNeg) s) fun r3 s4 =>
      if r3 = 0 then
        k88 s4
      else
        if (4 : Int32) ≤ ((gi s4 77 4) - (gi s4 77 3)) then
          fX4_readNumber_J72 k88 (fX4_readNumber_L5 k88 n) (gi s4 77 5) s4
        else
          gd (inb (gi s4 77 4) 160) <|
          fX4_readNumber_J72 k88 (fX4_readNumber_L5 k88 n) ((((gi s4 77 5) * (10 : Int32)) + (gi s4 78 (gi s4 77 4).toNatClampNeg)) - (48 : Int32)) s4
def fX4_readNumber_J107 (t0 : Int32) (s : xM) : Option (Int32 × xM) :=
  lz (si s 77 2 t0) fun s1 =>
  some (0, s1)
def fX4_readNumber (s : xM) : Option (Int32 × xM) :=
  lz (si s 77 5 (0 : Int32)) fun s1 =>
  fX4_readNumber_L5 (fun s3 =>
      if ((gi s3 77 4) - (gi s3 77 3)) ≤ (4 : Int32) then
        fX4_readNumber_J107 (2 : Int32) s3
      else
        fX4_readNumber_J107 (1 : Int32) s3) fu s1
def fX5_add (a0 : Nat) (a1 : Int32) (s : xM) : Option (Int32 × xM) :=
  if (160 : Int32) ≤ (gi s (97 + 4 * a0) 3) then
    some (0, s)
  else
    gd (inb (gi s (97 + 4 * a0) 3) 160) <|
    lz (si s (98 + 4 * a0) (gi s (97 + 4 * a0) 3).toNatClampNeg a1) fun s3 =>
    lz (si s3 (97 + 4 * a0) 3 ((gi s3 (97 + 4 * a0) 3) + (1 : Int32))) fun s5 =>
    some (0, s5)
def fX5_addNumber (a0 : Nat) (a1 : Int32) (s : xM) : Option (Int32 × xM) :=
  bd (fX5_add a0 a1 s) fun _ s2 =>
  some (0, s2)
def fX5_addName (a0 : Nat) (a1 : Int32) (s : xM) : Option (Int32 × xM) :=
  bd (fX5_add a0 ((-1 : Int32) - a1) s) fun _ s2 =>
  some (0, s2)
def fX5_addSign (a0 : Nat) (a1 : Int32) (s : xM) : Option (Int32 × xM) :=
  bd (fX5_add a0 ((-7 : Int32) - a1) s) fun _ s2 =>
  some (0, s2)
def fX1_joinsAt (a0 : Int32) (a1 : Int32) (s : xM) : Option (Int32 × xM) :=
  if a0 = (0 : Int32) then
    if a1 = (7 : Int32) then
      some ((1 : Int32), s)
    else
      some ((0 : Int32), s)
  else
  if a0 = (1 : Int32) then
    if a1 = (8 : Int32) then
      some ((1 : Int32), s)
    else
      some ((0 : Int32), s)
  else
  if a0 = (2 : Int32) then
    if a1 = (60 : Int32) then
      some ((1 : Int32), s)
    else
      if a1 = (61 : Int32) then
        some ((1 : Int32), s)
      else
        some ((0 : Int32), s)
  else
  if a0 = (3 : Int32) then
    if a1 = (43 : Int32) then
      some ((1 : Int32), s)
    else
      if a1 = (45 : Int32) then
        some ((1 : Int32), s)
      else
        some ((0 : Int32), s)
  else
  if a0 = (4 : Int32) then
    if a1 = (42 : Int32) then
      some ((1 : Int32), s)
    else
      some ((0 : Int32), s)
  else
  some ((0 : Int32), s)
def fX5_endPart (a0 : Nat) (s : xM) : Option (Int32 × xM) :=
  if (3 : Int32) ≤ (gi s (97 + 4 * a0) 4) then
    some (0, s)
  else
    gd (inb (gi s (97 + 4 * a0) 4) 3) <|
    lz (si s (99 + 4 * a0) (gi s (97 + 4 * a0) 4).toNatClampNeg (gi s (97 + 4 * a0) 3)) fun s3 =>
    lz (si s3 (97 + 4 * a0) 4 ((gi s3 (97 + 4 * a0) 4) + (1 : Int32))) fun s5 =>
    some (0, s5)
def fJ7_fill_53178_L5 (k20 : xM → Option (Int32 × xM)) (a0c : Nat) (a0n : Nat) (a1 : Int32) (a3 : Int32) : Nat → Int32 → xM → Option (Int32 × xM)
  | 0, _, _ => none
  | n + 1, a2, s =>
    if a3 ≤ a2 then
      k20 s
    else
      gd (inb a2 a0n) <|
      lz (si s a0c a2.toNatClampNeg a1) fun s3 =>
      fJ7_fill_53178_L5 k20 a0c a0n a1 a3 n (a2 + 1) s3
def fJ7_fill_53178 (a0c : Nat) (a0n : Nat) (a1 : Int32) (s : xM) : Option (Int32 × xM) :=
  lz (Int32.ofNat a0n) fun v1 =>
  fJ7_fill_53178_L5 (fun s3 =>
      some (0, s3)) a0c a0n a1 v1 fu (0 : Int32) s
def fX2_begin (a0 : Nat) (a1 : Int32) (a2 : Int32) (s : xM) : Option (Int32 × xM) :=
  lz (si s (121 + 2 * a0) 1 a1) fun s1 =>
  lz (si s1 (121 + 2 * a0) 2 a2) fun s3 =>
  bd (fJ7_fill_53178 (122 + 2 * a0) 41 (0 : Int32) s3) fun _ s6 =>
  some (0, s6)
def fX2_isMissing (a0 : Nat) (s : xM) : Option (Int32 × xM) :=
  if (gi s (121 + 2 * a0) 1) = (-1 : Int32) then
    some ((1 : Int32), s)
  else
    some ((0 : Int32), s)
def fX2_holds (a0 : Nat) (a1 : Int32) (s : xM) : Option (Int32 × xM) :=
  if a1 < 0 then
    some ((0 : Int32), s)
  else
    if (gi s (121 + 2 * a0) 2) ≤ a1 then
      some ((0 : Int32), s)
    else
      some ((1 : Int32), s)
def fX2_holdsRow (a0 : Nat) (a1 : Int32) (a2 : Int32) (s : xM) : Option (Int32 × xM) :=
  if a1 < 0 then
    some ((0 : Int32), s)
  else
    if a2 < 0 then
      some ((0 : Int32), s)
    else
      if (gi s (121 + 2 * a0) 2) < a1 then
        some ((0 : Int32), s)
      else
        if ((gi s (121 + 2 * a0) 2) - a1) < a2 then
          some ((0 : Int32), s)
        else
          some ((1 : Int32), s)
def fX2_write_J31 (t0 : Int32) (t1 : Int32) (t2 : Nat) (s : xM) : Option (Int32 × xM) :=
  gd (inb t1 41) <|
  lz (si s (122 + 2 * t2) t1.toNatClampNeg t0) fun s2 =>
  some (0, s2)
def fX2_write (a0 : Nat) (a1 : Int32) (a2 : Int32) (s : xM) : Option (Int32 × xM) :=
  if (gi s (121 + 2 * a0) 1) = 0 then
    fX2_write_J31 (a2.toInt8.toInt32) a1 a0 s
  else
    if (gi s (121 + 2 * a0) 1) = (1 : Int32) then
      fX2_write_J31 (a2.toInt16.toInt32) a1 a0 s
    else
      fX2_write_J31 a2 a1 a0 s
def fX9_isWithin (a0 : Int32) (a1 : Int32) (a2 : Int32) (s : xM) : Option (Int32 × xM) :=
  if a0 < a1 then
    some ((0 : Int32), s)
  else
    if a2 < a0 then
      some ((0 : Int32), s)
    else
      some ((1 : Int32), s)
def fX9_isKind (a0 : Int32) (s : xM) : Option (Int32 × xM) :=
  bd (fX9_isWithin a0 (0 : Int32) (5 : Int32) s) fun r1 s2 =>
  gd (isZ r1) <|
  some (r1, s2)
def fX3_begin_J22 (a0 : Nat) (a2 : Int32) (a3 : Int32) (a4 : Int32) (t0 : Int32) (t1 : Nat) (s : xM) : Option (Int32 × xM) :=
  lz (si s (11 + t1) 1 t0) fun s1 =>
  lz (si s1 (11 + a0) 2 a2) fun s3 =>
  lz (si s3 (11 + a0) 3 a3) fun s5 =>
  lz (si s5 (11 + a0) 4 a4) fun s7 =>
  lz (si s7 (11 + a0) 5 (1 : Int32)) fun s9 =>
  lz (si s9 (11 + a0) 6 (5 : Int32)) fun s11 =>
  lz (si s11 (11 + a0) 7 (0 : Int32)) fun s13 =>
  some (0, s13)
def fX3_begin (a0 : Nat) (a1 : Int32) (a2 : Int32) (a3 : Int32) (a4 : Int32) (s : xM) : Option (Int32 × xM) :=
  lz (si s (11 + a0) 0 a1) fun s1 =>
  bd (fX9_isKind a1 s1) fun r3 s4 =>
  if r3 = 0 then
    fX3_begin_J22 a0 a2 a3 a4 (0 : Int32) a0 s4
  else
    gd (inb a1 6) <|
    fX3_begin_J22 a0 a2 a3 a4 (sT3.getD a1.toNatClampNeg 0) a0 s4
def fX3_isOf (a0 : Nat) (a1 : Int32) (s : xM) : Option (Int32 × xM) :=
  if a1 = (gi s (11 + a0) 0) then
    some ((1 : Int32), s)
  else
    if a1 = (gi s (11 + a0) 1) then
      some ((1 : Int32), s)
    else
      if a1 = 0 then
        some ((1 : Int32), s)
      else
        some ((0 : Int32), s)
def fX3_secondsIf (a0 : Nat) (a1 : Int32) (s : xM) : Option (Int32 × xM) :=
  if (gi s (11 + a0) 0) = (1 : Int32) then
    some ((((gi s (11 + a0) 3) * a1) / (10 : Int32)), s)
  else
  if (gi s (11 + a0) 0) = (2 : Int32) then
    some ((gi s (11 + a0) 3), s)
  else
  if (gi s (11 + a0) 0) = (3 : Int32) then
    some (((gi s (11 + a0) 3) + (gi s (11 + a0) 4)), s)
  else
  if (gi s (11 + a0) 0) = (4 : Int32) then
    some (((gi s (11 + a0) 3) / (2 : Int32)), s)
  else
  if (gi s (11 + a0) 0) = (5 : Int32) then
    some (((((gi s (11 + a0) 3) * a1) / (10 : Int32)) + (gi s (11 + a0) 4)), s)
  else
  some ((gi s (11 + a0) 3), s)
def fX3_secondsDrawn (a0 : Nat) (a1 : Int32) (s : xM) : Option (Int32 × xM) :=
  bd (fX3_isOf a0 (1 : Int32) s) fun r1 s2 =>
  if r1 = 0 then
    bd (fX3_secondsIf a0 (gi s2 (11 + a0) 6) s2) fun r9 s10 =>
    some (r9, s10)
  else
    if (gi s2 (11 + a0) 6) ≤ a1 then
      some ((0 : Int32), s2)
    else
      bd (fX3_secondsIf a0 (10 : Int32) s2) fun r6 s7 =>
      some (r6, s7)
def fX3_carsServed_J24 (a0 : Nat) (t0 : Int32) (s : xM) : Option (Int32 × xM) :=
  if (gi s (11 + a0) 0) = (4 : Int32) then
    some (((3 : Int32) - t0), s)
  else
    some (t0, s)
def fX3_carsServed (a0 : Nat) (s : xM) : Option (Int32 × xM) :=
  bd (fX3_isOf a0 (2 : Int32) s) fun r1 s2 =>
  if r1 = 0 then
    some ((3 : Int32), s2)
  else
    if ((gi s2 (11 + a0) 4) - (gi s2 (11 + a0) 4) / (2 : Int32) * (2 : Int32)) = 0 then
      fX3_carsServed_J24 a0 (1 : Int32) s2
    else
      fX3_carsServed_J24 a0 (2 : Int32) s2
def fX3_carsBy (a0 : Nat) (a1 : Int32) (s : xM) : Option (Int32 × xM) :=
  bd (fX3_carsServed a0 s) fun r1 s2 =>
  if a1 = 0 then
    some ((r1 &&& (3 : Int32)), s2)
  else
    some ((r1 &&& a1), s2)
def fX4_append (a1 : Int32) (s : xM) : Option (Int32 × xM) :=
  if (160 : Int32) ≤ (gi s 77 1) then
    some (0, s)
  else
    gd (inb (gi s 77 1) 160) <|
    lz (si s 78 (gi s 77 1).toNatClampNeg a1) fun s3 =>
    lz (si s3 77 1 ((gi s3 77 1) + (1 : Int32))) fun s5 =>
    some (0, s5)
def fX9_asNumber (a0 : Int32) (s : xM) : Option (Int32 × xM) :=
  if a0 = 0 then
    some ((0 : Int32), s)
  else
    some ((1 : Int32), s)
def fX5_joined (a0 : Int32) (a1 : Int32) (a2 : Int32) (s : xM) : Option (Int32 × xM) :=
  if a0 = (7 : Int32) then
    if a1 = 0 then
      if a2 = 0 then
        some ((0 : Int32), s)
      else
        some ((1 : Int32), s)
    else
      some ((1 : Int32), s)
  else
  if a0 = (8 : Int32) then
    if a1 = 0 then
      some ((0 : Int32), s)
    else
      if a2 = 0 then
        some ((0 : Int32), s)
      else
        some ((1 : Int32), s)
  else
  if a0 = (43 : Int32) then
    some ((a1 + a2), s)
  else
  if a0 = (45 : Int32) then
    some ((a1 - a2), s)
  else
  if a0 = (60 : Int32) then
    if a2 ≤ a1 then
      some ((0 : Int32), s)
    else
      some ((1 : Int32), s)
  else
  if a0 = (61 : Int32) then
    if a1 = a2 then
      some ((1 : Int32), s)
    else
      some ((0 : Int32), s)
  else
  some ((a1 * a2), s)
def fX5_step_J107 (a2 : Int32) (t0 : Int32) (t1 : Int32) (t2 : Nat) (s : xM) : Option (Int32 × xM) :=
  gd (inb t1 40) <|
  lz (si s (100 + 4 * t2) t1.toNatClampNeg t0) fun s2 =>
  some (a2, s2)
def fX5_step_J92 (a2 : Int32) (t0 : Int32) (t1 : Int32) (t2 : Nat) (s : xM) : Option (Int32 × xM) :=
  bd (fX9_asNumber t0 s) fun r1 s2 =>
  fX5_step_J107 a2 r1 t1 t2 s2
def fX5_step_J57 (a0 : Nat) (a2 : Int32) (a4 : Int32) (s : xM) : Option (Int32 × xM) :=
  if a2 < (1 : Int32) then
    some (a2, s)
  else
    if a4 = (9 : Int32) then
      gd (inb (a2 - (1 : Int32)) 40) <|
      if (gi s (100 + 4 * a0) (a2 - (1 : Int32)).toNatClampNeg) = 0 then
        fX5_step_J92 a2 (1 : Int32) (a2 - (1 : Int32)) a0 s
      else
        fX5_step_J92 a2 (0 : Int32) (a2 - (1 : Int32)) a0 s
    else
      gd (inb (a2 - (1 : Int32)) 40) <|
      fX5_step_J107 a2 (-(gi s (100 + 4 * a0) (a2 - (1 : Int32)).toNatClampNeg)) (a2 - (1 : Int32)) a0 s
def fX5_step_J32 (a2 : Int32) (t0 : Int32) (t1 : Int32) (t2 : Nat) (s : xM) : Option (Int32 × xM) :=
  gd (inb t1 40) <|
  lz (si s (100 + 4 * t2) t1.toNatClampNeg t0) fun s2 =>
  some ((a2 + (1 : Int32)), s2)
def fX5_step (a0 : Nat) (a1 : Int32) (a2 : Int32) (s : xM) : Option (Int32 × xM) :=
  if a1 < (-6 : Int32) then
    lz ((-7 : Int32) - a1) fun v2 =>
    if v2 = (9 : Int32) then
      fX5_step_J57 a0 a2 v2 s
    else
      if v2 = (10 : Int32) then
        fX5_step_J57 a0 a2 v2 s
      else
        if (2 : Int32) ≤ a2 then
          gd (inb (a2 - (2 : Int32)) 40) <|
          gd (inb (a2 - (1 : Int32)) 40) <|
          bd (fX5_joined v2 (gi s (100 + 4 * a0) (a2 - (2 : Int32)).toNatClampNeg) (gi s (100 + 4 * a0) (a2 - (1 : Int32)).toNatClampNeg) s) fun r9 s10 =>
          gd (inb (a2 - (2 : Int32)) 40) <|
          lz (si s10 (100 + 4 * a0) (a2 - (2 : Int32)).toNatClampNeg r9) fun s13 =>
          some ((a2 - (1 : Int32)), s13)
        else
          some (a2, s)
  else
    if a2 < (40 : Int32) then
      if a1 < 0 then
        gd (inb ((-1 : Int32) - a1) 6) <|
        fX5_step_J32 a2 (gi s 91 ((-1 : Int32) - a1).toNatClampNeg) a2 a0 s
      else
        fX5_step_J32 a2 a1 a2 a0 s
    else
      some (a2, s)
def fX5_valueOf_L34 (k65 : Int32 → xM → Option (Int32 × xM)) (a0 : Nat) (a1 : Int32) : Nat → Int32 → Int32 → xM → Option (Int32 × xM)
  | 0, _, _, _ => none
  | n + 1, a3, a4, s =>
    gd (inb a1 3) <|
    if (gi s (99 + 4 * a0) a1.toNatClampNeg) ≤ a4 then
      k65 a3 s
    else
      gd (inb a4 160) <|
      bd (fX5_step a0 (gi s (98 + 4 * a0) a4.toNatClampNeg) a3 s) fun r4 s5 =>
      fX5_valueOf_L34 k65 a0 a1 n r4 (a4 + 1) s5
def fX5_valueOf_J32 (a0 : Nat) (a1 : Int32) (a3 : Int32) (t0 : Int32) (s : xM) : Option (Int32 × xM) :=
  fX5_valueOf_L34 (fun x1 s2 =>
      if x1 = (1 : Int32) then
        some ((gi s2 (100 + 4 * a0) 0), s2)
      else
        some ((0 : Int32), s2)) a0 a1 fu a3 t0 s
def fX5_valueOf (a0 : Nat) (a1 : Int32) (s : xM) : Option (Int32 × xM) :=
  if a1 < 0 then
    some ((0 : Int32), s)
  else
    if a1 < (gi s (97 + 4 * a0) 4) then
      if a1 = 0 then
        fX5_valueOf_J32 a0 a1 (0 : Int32) (0 : Int32) s
      else
        gd (inb (a1 - (1 : Int32)) 3) <|
        fX5_valueOf_J32 a0 a1 (0 : Int32) (gi s (99 + 4 * a0) (a1 - (1 : Int32)).toNatClampNeg) s
    else
      some ((0 : Int32), s)
def fX6_walkSeconds_J34 (a1 : Int32) (a2 : Int32) (a3 : Int32) (t0 : Int32) (s : xM) : Option (Int32 × xM) :=
  gd (inb a3 3) <|
  gd (inb a3 3) <|
  some ((((if 0 ≤ (a2 - a1) then (a2 - a1) else 0 - (a2 - a1)) * (gi s (6 + a3.toNatClampNeg) 0)) + (t0 * (gi s (6 + a3.toNatClampNeg) 1))), s)
def fX6_walkSeconds (a1 : Int32) (a2 : Int32) (a3 : Int32) (s : xM) : Option (Int32 × xM) :=
  if a2 ≤ a1 then
    gd (inb a1 41) <|
    gd (inb a2 41) <|
    fX6_walkSeconds_J34 a1 a2 a3 ((gi s 4 a1.toNatClampNeg) - (gi s 4 a2.toNatClampNeg)) s
  else
    gd (inb a2 41) <|
    gd (inb a1 41) <|
    fX6_walkSeconds_J34 a1 a2 a3 ((gi s 3 a2.toNatClampNeg) - (gi s 3 a1.toNatClampNeg)) s
def fX6_openSet_L4 (k35 : Int32 → xM → Option (Int32 × xM)) : Nat → Int32 → Int32 → xM → Option (Int32 × xM)
  | 0, _, _, _ => none
  | n + 1, a1, a2, s =>
    if (gi s 1 7) ≤ a2 then
      k35 a1 s
    else
      gd (inb a2 8) <|
      bd (fX9_asNumber (gi s (11 + a2.toNatClampNeg) 5) s) fun r3 s4 =>
      lz (a1 ||| (r3 <<< (a2 &&& 31))) fun v6 =>
      fX6_openSet_L4 k35 n v6 (a2 + 1) s4
def fX6_openSet (s : xM) : Option (Int32 × xM) :=
  fX6_openSet_L4 (fun x1 s2 =>
      some (x1, s2)) fu (0 : Int32) (0 : Int32) s
def fX6_setCount (s : xM) : Option (Int32 × xM) :=
  some (((1 : Int32) <<< ((gi s 1 7) &&& 31)), s)
def fX6_peopleBut_L4 (k42 : Int32 → xM → Option (Int32 × xM)) (a1 : Int32) : Nat → Int32 → Int32 → xM → Option (Int32 × xM)
  | 0, _, _, _ => none
  | n + 1, a2, a3, s =>
    if (gi s 1 9) ≤ a3 then
      k42 a2 s
    else
      if (a1 &&& ((1 : Int32) <<< (a3 &&& 31))) = 0 then
        gd (inb a3 8) <|
        lz (a2 + (gi s (19 + a3.toNatClampNeg) 2)) fun v6 =>
        fX6_peopleBut_L4 k42 a1 n v6 (a3 + 1) s
      else
        lz (a2 + (0 : Int32)) fun v3 =>
        fX6_peopleBut_L4 k42 a1 n v3 (a3 + 1) s
def fX6_peopleBut (a1 : Int32) (s : xM) : Option (Int32 × xM) :=
  fX6_peopleBut_L4 (fun x1 s2 =>
      some (x1, s2)) a1 fu (0 : Int32) (0 : Int32) s
def fX7_begin (a0 : Nat) (a1 : Int32) (a2 : Int32) (a3 : Int32) (a4 : Int32) (s : xM) : Option (Int32 × xM) :=
  lz (si s (19 + a0) 0 a1) fun s1 =>
  lz (si s1 (19 + a0) 1 a2) fun s3 =>
  lz (si s3 (19 + a0) 2 a3) fun s5 =>
  lz (si s5 (19 + a0) 3 a4) fun s7 =>
  some (0, s7)
def fX8_measure_L2 (k79 : xM → Option (Int32 × xM)) : Nat → Int32 → xM → Option (Int32 × xM)
  | 0, _, _ => none
  | n + 1, a1, s =>
    if (gi s 1 7) ≤ a1 then
      k79 s
    else
      gd (inb a1 8) <|
      gd (inb a1 8) <|
      bd (fX3_carsBy a1.toNatClampNeg (gi s (11 + a1.toNatClampNeg) 7) s) fun r4 s5 =>
      gd (inb a1 8) <|
      lz (si s5 28 a1.toNatClampNeg r4) fun s8 =>
      gd (inb a1 8) <|
      gd (inb a1 8) <|
      bd (fX3_secondsIf a1.toNatClampNeg (gi s8 (11 + a1.toNatClampNeg) 6) s8) fun r12 s13 =>
      gd (inb a1 8) <|
      lz (si s13 29 a1.toNatClampNeg r12) fun s16 =>
      fX8_measure_L2 k79 n (a1 + 1) s16
def fX8_measure_L129 (k216 : xM → Option (Int32 × xM)) (a1 : Int32) (a2 : Nat) : Nat → Int32 → xM → Option (Int32 × xM)
  | 0, _, _ => none
  | n + 1, a3, s =>
    if (gi s 1 7) ≤ a3 then
      k216 s
    else
      gd (inb a1 8) <|
      gd (inb a3 8) <|
      bd (fX6_walkSeconds (gi s (19 + a2) 0) (gi s (11 + a3.toNatClampNeg) 2) (gi s (19 + a2) 3) s) fun r4 s5 =>
      gd (inb a3 8) <|
      lz (si s5 (32 + a1.toNatClampNeg) a3.toNatClampNeg r4) fun s8 =>
      gd (inb a1 8) <|
      gd (inb a3 8) <|
      bd (fX6_walkSeconds (gi s8 (11 + a3.toNatClampNeg) 2) (gi s8 (19 + a2) 1) (gi s8 (19 + a2) 3) s8) fun r12 s13 =>
      gd (inb a3 8) <|
      lz (si s13 (41 + a1.toNatClampNeg) a3.toNatClampNeg r12) fun s16 =>
      fX8_measure_L129 k216 a1 a2 n (a3 + 1) s16
def fX8_measure_L81 (k222 : xM → Option (Int32 × xM)) : Nat → Int32 → xM → Option (Int32 × xM)
  | 0, _, _ => none
  | n + 1, a1, s =>
    if (gi s 1 9) ≤ a1 then
      k222 s
    else
      gd (inb a1 8) <|
      bd (fX6_walkSeconds (gi s (19 + a1.toNatClampNeg) 0) (gi s (19 + a1.toNatClampNeg) 1) (gi s (19 + a1.toNatClampNeg) 3) s) fun r3 s4 =>
      gd (inb a1 8) <|
      lz (si s4 30 a1.toNatClampNeg r3) fun s7 =>
      fX8_measure_L129 (fun s9 =>
          fX8_measure_L81 k222 n (a1 + 1) s9) a1 a1.toNatClampNeg fu (0 : Int32) s7
def fX8_measure (s : xM) : Option (Int32 × xM) :=
  fX8_measure_L2 (fun s1 =>
      fX8_measure_L81 (fun s2 =>
          some (0, s2)) fu (0 : Int32) s1) fu (0 : Int32) s
