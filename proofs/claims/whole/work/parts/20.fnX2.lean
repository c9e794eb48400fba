def fX9_count (a1 : Int32) (s : xM) : Option (Int32 × xM) :=
  if a1 = (0 : Int32) then
    some ((gi s 1 7), s)
  else
  if a1 = (1 : Int32) then
    some ((gi s 1 9), s)
  else
  if a1 = (2 : Int32) then
    bd (fX6_openSet s) fun r4 s5 =>
    bd (fJ6_bitCount_0f7a4 r4 s5) fun r7 s8 =>
    some (r7, s8)
  else
  if a1 = (3 : Int32) then
    some ((gi s 0 5), s)
  else
  if a1 = (4 : Int32) then
    some ((gi s 0 6), s)
  else
  if a1 = (5 : Int32) then
    some ((gi s 77 1), s)
  else
  if a1 = (6 : Int32) then
    some ((gi s 1 4), s)
  else
  if a1 = (7 : Int32) then
    some ((gi s 1 5), s)
  else
  some ((-2 : Int32), s)
def fX9_isTrip (a1 : Int32) (s : xM) : Option (Int32 × xM) :=
  bd (fX9_isWithin a1 (0 : Int32) ((gi s 1 9) - (1 : Int32)) s) fun r1 s2 =>
  gd (isZ r1) <|
  some (r1, s2)
def fX9_lookAtNow (s : xM) : Option (Int32 × xM) :=
  bd (fX8_measure s) fun _ s2 =>
  bd (fX6_openSet s2) fun r4 s5 =>
  bd (fX8_look r4 (gi s5 1 4) s5) fun _ s8 =>
  some (0, s8)
def fX9_takes (a1 : Int32) (a2 : Int32) (s : xM) : Option (Int32 × xM) :=
  bd (fX9_isTrip a1 s) fun r1 s2 =>
  if r1 = 0 then
    some ((-5 : Int32), s2)
  else
    bd (fX9_isWithin a2 (0 : Int32) (5 : Int32) s2) fun r5 s6 =>
    if r5 = 0 then
      some ((-7 : Int32), s6)
    else
      bd (fX9_lookAtNow s6) fun _ s10 =>
      if a2 = (0 : Int32) then
        gd (inb a1 8) <|
        some ((gi s10 71 a1.toNatClampNeg), s10)
      else
      if a2 = (1 : Int32) then
        gd (inb a1 8) <|
        some ((gi s10 72 a1.toNatClampNeg), s10)
      else
      if a2 = (2 : Int32) then
        gd (inb a1 8) <|
        some ((gi s10 73 a1.toNatClampNeg), s10)
      else
      if a2 = (3 : Int32) then
        gd (inb a1 8) <|
        some ((gi s10 74 a1.toNatClampNeg), s10)
      else
      if a2 = (4 : Int32) then
        gd (inb a1 8) <|
        some ((gi s10 75 a1.toNatClampNeg), s10)
      else
      gd (inb a1 8) <|
      some ((gi s10 76 a1.toNatClampNeg), s10)
def fX9_sum (a1 : Int32) (s : xM) : Option (Int64 × xM) :=
  bd (fX9_isWithin a1 (0 : Int32) (2 : Int32) s) fun r1 s2 =>
  if r1 = 0 then
    some ((-4611686018427387904 : Int64), s2)
  else
    bd (fX9_lookAtNow s2) fun _ s6 =>
    if a1 = (0 : Int32) then
      bd (fX8_total s6) fun r9 s10 =>
      some (r9, s10)
    else
    if a1 = (1 : Int32) then
      bd (fX8_dearest s6) fun r13 s14 =>
      some ((r13.toInt64), s14)
    else
    bd (fX8_dearestCost s6) fun r16 s17 =>
    some ((r16.toInt64), s17)
def fX9_use (a1 : Int32) (s : xM) : Option (Int32 × xM) :=
  bd (fX9_isStop a1 s) fun r1 s2 =>
  if r1 = 0 then
    some ((-5 : Int32), s2)
  else
    bd (fX9_lookAtNow s2) fun _ s6 =>
    bd (fX8_usersOf a1 s6) fun r8 s9 =>
    some (r8, s9)
def fX9_feed_L36 (k66 : xM → Option (Int32 × xM)) (a1 : Int64) : Nat → Int32 → xM → Option (Int32 × xM)
  | 0, _, _ => none
  | n + 1, a4, s =>
    if a4 < 0 then
      k66 s
    else
      bd (fX4_append ((((a1.toUInt64 >>> (((8 : Int32) * a4).toInt64.toUInt64 &&& Int64.toUInt64 63)).toInt64).toInt32) &&& (255 : Int32)) s) fun _ s3 =>
      fX9_feed_L36 k66 a1 n (a4 + (-1)) s3
def fX9_feed (a1 : Int64) (a3 : Int32) (s : xM) : Option (Int32 × xM) :=
  bd (fX9_isWithin a3 (1 : Int32) (8 : Int32) s) fun r1 s2 =>
  if r1 = 0 then
    some ((-2 : Int32), s2)
  else
    if ((gi s2 77 1) + a3) ≤ (160 : Int32) then
      lz (a3 - (1 : Int32)) fun v6 =>
      fX9_feed_L36 (fun s8 =>
          some ((gi s8 77 1), s8)) a1 fu v6 s2
    else
      some ((-4 : Int32), s2)
def fX9_force (a1 : Int32) (s : xM) : Option (Int32 × xM) :=
  bd (fX9_isWithin a1 (0 : Int32) ((gi s 0 5) - (1 : Int32)) s) fun r1 s2 =>
  if r1 = 0 then
    some ((-2 : Int32), s2)
  else
    lz (gi s2 0 6) fun v5 =>
    lz (si s2 0 6 a1) fun s7 =>
    some (v5, s7)
def fX9_totalOf (a1 : Int32) (s : xM) : Option (Int64 × xM) :=
  bd (fX8_look a1 (gi s 1 4) s) fun _ s2 =>
  bd (fX8_total s2) fun r4 s5 =>
  some (r4, s5)
def fX9_walksAtMost_L2 (k26 : xM → Option (Int32 × xM)) (k34 : xM → Option (Int32 × xM)) (a1 : Int32) : Nat → Int32 → xM → Option (Int32 × xM)
  | 0, _, _ => none
  | n + 1, a2, s =>
    if (gi s 1 9) ≤ a2 then
      k34 s
    else
      gd (inb a2 8) <|
      if (gi s 74 a2.toNatClampNeg) ≤ a1 then
        fX9_walksAtMost_L2 k26 k34 a1 n (a2 + 1) s
      else
        k26 s
def fX9_walksAtMost (a1 : Int32) (s : xM) : Option (Int32 × xM) :=
  fX9_walksAtMost_L2 (fun s1 =>
      some ((0 : Int32), s1)) (fun s2 =>
      some ((1 : Int32), s2)) a1 fu (0 : Int32) s
def fX9_dropsAtMost_L2 (k40 : xM → Option (Int32 × xM)) (k48 : xM → Option (Int32 × xM)) (a1 : Int32) : Nat → Int32 → xM → Option (Int32 × xM)
  | 0, _, _ => none
  | n + 1, a2, s =>
    if a1 = (2147483647 : Int32) then
      k48 s
    else
      if (gi s 1 9) ≤ a2 then
        k48 s
      else
        gd (inb a2 8) <|
        gd (inb a2 8) <|
        if ((gi s 71 a2.toNatClampNeg) - (gi s 92 a2.toNatClampNeg)) ≤ a1 then
          fX9_dropsAtMost_L2 k40 k48 a1 n (a2 + 1) s
        else
          k40 s
def fX9_dropsAtMost (a1 : Int32) (s : xM) : Option (Int32 × xM) :=
  fX9_dropsAtMost_L2 (fun s1 =>
      some ((0 : Int32), s1)) (fun s2 =>
      some ((1 : Int32), s2)) a1 fu (0 : Int32) s
def fX9_bestSet_J91 (k104 : Int32 → xM → Option (Int32 × xM)) (b : Int32 → Int64 → Int32 → xM → Option (Int32 × xM)) (a1 : Int32) (a2 : Int32) (a6 : Int32) (a7 : Int64) (s : xM) : Option (Int32 × xM) :=
  b a6 a7 (a6 + 1) s
def fX9_bestSet_J72 (k104 : Int32 → xM → Option (Int32 × xM)) (b : Int32 → Int64 → Int32 → xM → Option (Int32 × xM)) (a1 : Int32) (a2 : Int32) (a3 : Int32) (a4 : Int64) (a6 : Int32) (a7 : Int64) (t0 : Int32) (s : xM) : Option (Int32 × xM) :=
  if a3 < 0 then
    fX9_bestSet_J91 k104 b a1 a2 a6 a7 s
  else
    if (lg_cmp a7 a4) < 0 then
      fX9_bestSet_J91 k104 b a1 a2 a6 a7 s
    else
      if t0 = 0 then
        b a3 a4 (a6 + 1) s
      else
        fX9_bestSet_J91 k104 b a1 a2 a6 a7 s
def fX9_bestSet_J71 (k104 : Int32 → xM → Option (Int32 × xM)) (b : Int32 → Int64 → Int32 → xM → Option (Int32 × xM)) (a1 : Int32) (a2 : Int32) (a3 : Int32) (a4 : Int64) (a6 : Int32) (a7 : Int64) (s : xM) : Option (Int32 × xM) :=
  fX9_bestSet_J72 k104 b a1 a2 a3 a4 a6 a7 (0 : Int32) s
def fX9_bestSet_L8 (k104 : Int32 → xM → Option (Int32 × xM)) (a1 : Int32) (a2 : Int32) : Nat → Int32 → Int64 → Int32 → xM → Option (Int32 × xM)
  | 0, _, _, _, _ => none
  | n + 1, a3, a4, a6, s =>
    bd (fX6_setCount s) fun r1 s2 =>
    if r1 ≤ a6 then
      k104 a3 s2
    else
      bd (fX9_totalOf a6 s2) fun r5 s6 =>
      bd (fX9_walksAtMost a1 s6) fun r8 s9 =>
      if r8 = 0 then
        fX9_bestSet_L8 k104 a1 a2 n a3 a4 (a6 + 1) s9
      else
        bd (fX9_dropsAtMost a2 s9) fun r12 s13 =>
        if r12 = 0 then
          fX9_bestSet_L8 k104 a1 a2 n a3 a4 (a6 + 1) s13
        else
          if (lg_cmp r5 a4) = 0 then
            bd (fJ6_bitCount_0f7a4 a6 s13) fun r17 s18 =>
            bd (fJ6_bitCount_0f7a4 a3 s18) fun r20 s21 =>
            if r20 ≤ r17 then
              fX9_bestSet_J71 k104 (fX9_bestSet_L8 k104 a1 a2 n) a1 a2 a3 a4 a6 r5 s21
            else
              fX9_bestSet_J72 k104 (fX9_bestSet_L8 k104 a1 a2 n) a1 a2 a3 a4 a6 r5 (1 : Int32) s21
          else
            fX9_bestSet_J71 k104 (fX9_bestSet_L8 k104 a1 a2 n) a1 a2 a3 a4 a6 r5 s13
def fX9_bestSet (a1 : Int32) (a2 : Int32) (s : xM) : Option (Int32 × xM) :=
  fX9_bestSet_L8 (fun x1 s2 =>
      some (x1, s2)) a1 a2 fu (-1 : Int32) (0 : Int64) (0 : Int32) s
def fX9_best (a1 : Int32) (s : xM) : Option (Int64 × xM) :=
  bd (fX9_isWithin a1 (0 : Int32) (1 : Int32) s) fun r1 s2 =>
  if r1 = 0 then
    some ((-4611686018427387904 : Int64), s2)
  else
    bd (fX8_measure s2) fun _ s6 =>
    bd (fX9_bestSet (2147483647 : Int32) (2147483647 : Int32) s6) fun r8 s9 =>
    if a1 = 0 then
      some ((r8.toInt64), s9)
    else
      bd (fX9_totalOf r8 s9) fun r12 s13 =>
      some (r12, s13)
def fX9_bound (a1 : Int32) (s : xM) : Option (Int32 × xM) :=
  bd (fX9_isWithin a1 (0 : Int32) (99999 : Int32) s) fun r1 s2 =>
  if r1 = 0 then
    some ((-2 : Int32), s2)
  else
    bd (fX8_measure s2) fun _ s6 =>
    bd (fX9_bestSet a1 (2147483647 : Int32) s6) fun r8 s9 =>
    some (r8, s9)
def fX9_keepCosts (s : xM) : Option (Int32 × xM) :=
  gd (cpb (0 : Int32) (0 : Int32) (8 : Int32) 8 8) <|
  lz (scp s 71 (0 : Int32).toNatClampNeg 92 (0 : Int32).toNatClampNeg (8 : Int32).toNatClampNeg) fun s2 =>
  some (0, s2)
def fX9_least (a1 : Int32) (s : xM) : Option (Int32 × xM) :=
  bd (fX9_isWithin a1 (0 : Int32) (999999 : Int32) s) fun r1 s2 =>
  if r1 = 0 then
    some ((-2 : Int32), s2)
  else
    bd (fX9_lookAtNow s2) fun _ s6 =>
    bd (fX9_keepCosts s6) fun _ s9 =>
    bd (fX9_bestSet (2147483647 : Int32) a1 s9) fun r11 s12 =>
    some (r11, s12)
def fX9_fair_L15 (k68 : Int32 → xM → Option (Int32 × xM)) : Nat → Int32 → Int32 → Int32 → xM → Option (Int32 × xM)
  | 0, _, _, _, _ => none
  | n + 1, a1, a2, a3, s =>
    bd (fX6_setCount s) fun r1 s2 =>
    if r1 ≤ a3 then
      k68 a1 s2
    else
      bd (fX8_look a3 (gi s2 1 4) s2) fun _ s6 =>
      bd (fX8_dearestCost s6) fun r8 s9 =>
      if a2 ≤ r8 then
        fX9_fair_L15 k68 n a1 a2 (a3 + 1) s9
      else
        bd (fX8_dearestCost s9) fun r12 s13 =>
        fX9_fair_L15 k68 n a3 r12 (a3 + 1) s13
def fX9_fair (s : xM) : Option (Int32 × xM) :=
  bd (fX8_measure s) fun _ s2 =>
  fX9_fair_L15 (fun x4 s5 =>
      some (x4, s5)) fu (0 : Int32) (2147483647 : Int32) (0 : Int32) s2
def fX9_fewest_L29 (k77 : Int32 → xM → Option (Int32 × xM)) (a1 : Int32) : Nat → Int32 → Int32 → Int32 → xM → Option (Int32 × xM)
  | 0, _, _, _, _ => none
  | n + 1, a2, a3, a4, s =>
    bd (fX6_setCount s) fun r1 s2 =>
    if r1 ≤ a4 then
      k77 a2 s2
    else
      bd (fJ6_bitCount_0f7a4 a4 s2) fun r5 s6 =>
      if a3 ≤ r5 then
        fX9_fewest_L29 k77 a1 n a2 a3 (a4 + 1) s6
      else
        bd (fX9_totalOf a4 s6) fun r9 s10 =>
        if 0 < (lg_cmp r9 (a1.toInt64)) then
          fX9_fewest_L29 k77 a1 n a2 a3 (a4 + 1) s10
        else
          bd (fJ6_bitCount_0f7a4 a4 s10) fun r13 s14 =>
          fX9_fewest_L29 k77 a1 n a4 r13 (a4 + 1) s14
def fX9_fewest (a1 : Int32) (s : xM) : Option (Int32 × xM) :=
  bd (fX9_isWithin a1 (0 : Int32) (999999999 : Int32) s) fun r1 s2 =>
  if r1 = 0 then
    some ((-2 : Int32), s2)
  else
    bd (fX8_measure s2) fun _ s6 =>
    fX9_fewest_L29 (fun x8 s9 =>
        some (x8, s9)) a1 fu (-1 : Int32) (9 : Int32) (0 : Int32) s6
def fX9_isSheet (a0 : Int32) (s : xM) : Option (Int32 × xM) :=
  bd (fX9_isWithin a0 (0 : Int32) (3 : Int32) s) fun r1 s2 =>
  gd (isZ r1) <|
  some (r1, s2)
def fX9_judge_L49 (k76 : xM → Option (Int32 × xM)) (k98 : Int32 → xM → Option (Int32 × xM)) (a2 : Nat) : Nat → Int32 → Int32 → xM → Option (Int32 × xM)
  | 0, _, _, _ => none
  | n + 1, a3, a4, s =>
    if (gi s 1 7) ≤ a4 then
      k98 a3 s
    else
      gd (inb a4 41) <|
      bd (fX9_isWithin (gi s (122 + 2 * a2) a4.toNatClampNeg) (0 : Int32) (1 : Int32) s) fun r3 s4 =>
      if r3 = 0 then
        k76 s4
      else
        gd (inb a4 41) <|
        lz (a3 ||| ((gi s4 (122 + 2 * a2) a4.toNatClampNeg) <<< (a4 &&& 31))) fun v8 =>
        fX9_judge_L49 k76 k98 a2 n v8 (a4 + 1) s4
def fX9_judge_L123 (k171 : Int32 → xM → Option (Int32 × xM)) (k180 : xM → Option (Int32 × xM)) : Nat → Int32 → xM → Option (Int32 × xM)
  | 0, _, _ => none
  | n + 1, a4, s =>
    if (gi s 1 9) ≤ a4 then
      k180 s
    else
      gd (inb a4 8) <|
      gd (inb a4 8) <|
      gd (inb (gi s (19 + a4.toNatClampNeg) 3) 3) <|
      if (gi s 74 a4.toNatClampNeg) ≤ (gi s (6 + (gi s (19 + a4.toNatClampNeg) 3).toNatClampNeg) 5) then
        fX9_judge_L123 k171 k180 n (a4 + 1) s
      else
        k171 a4 s
def fX9_judge (a1 : Int32) (s : xM) : Option (Int32 × xM) :=
  bd (fX9_isSheet a1 s) fun r1 s2 =>
  if r1 = 0 then
    some ((-2 : Int32), s2)
  else
    gd (inb a1 4) <|
    bd (fX2_isMissing a1.toNatClampNeg s2) fun r6 s7 =>
    if r6 = 0 then
      if (gi s7 (121 + 2 * a1.toNatClampNeg) 2) = (gi s7 1 7) then
        fX9_judge_L49 (fun s11 =>
            some ((-2 : Int32), s11)) (fun x12 s13 =>
            bd (fX8_measure s13) fun _ s15 =>
            bd (fX8_look x12 (gi s15 1 4) s15) fun _ s18 =>
            fX9_judge_L123 (fun x20 s21 =>
                some (x20, s21)) (fun s22 =>
                some ((-1 : Int32), s22)) fu (0 : Int32) s18) a1.toNatClampNeg fu (0 : Int32) (0 : Int32) s7
      else
        some ((-2 : Int32), s7)
    else
      some ((-11 : Int32), s7)
def fX9_takePatterns_L13 (k76 : Int32 → xM → Option (Int32 × xM)) : Nat → Int32 → Int32 → Int32 → Int32 → xM → Option (Int32 × xM)
  | 0, _, _, _, _, _ => none
  | n + 1, a3, a4, a5, a6, s =>
    if a6 < 0 then
      k76 a3 s
    else
      lz (a5 - a5 / (3 : Int32) * (3 : Int32)) fun v2 =>
      lz (a5 / (3 : Int32)) fun v4 =>
      gd (inb a6 8) <|
      bd (fX3_carsBy a6.toNatClampNeg v2 s) fun r7 s8 =>
      gd (inb a6 8) <|
      lz (si s8 28 a6.toNatClampNeg r7) fun s11 =>
      lz (a3 + (v2 * a4)) fun v13 =>
      lz (a4 * (10 : Int32)) fun v15 =>
      fX9_takePatterns_L13 k76 n v13 v15 v4 (a6 + (-1)) s11
def fX9_takePatterns (a1 : Int32) (a2 : Int32) (s : xM) : Option (Int32 × xM) :=
  lz (a1 - (1 : Int32)) fun v1 =>
  fX9_takePatterns_L13 (fun x3 s4 =>
      some (x3, s4)) fu (0 : Int32) (1 : Int32) a2 v1 s
def fX9_patterns_L37 (k53 : Int32 → xM → Option (Int64 × xM)) (a1 : Int32) (a2 : Int32) : Nat → Int32 → Int32 → xM → Option (Int64 × xM)
  | 0, _, _, _ => none
  | n + 1, a3, a4, s =>
    if a2 ≤ a4 then
      k53 a3 s
    else
      lz (a3 * (3 : Int32)) fun v2 =>
      fX9_patterns_L37 k53 a1 a2 n v2 (a4 + 1) s
def fX9_patterns_J109 (k124 : Int64 → Int64 → xM → Option (Int64 × xM)) (b : Int64 → Int64 → Int32 → xM → Option (Int64 × xM)) (a1 : Int32) (a2 : Int32) (a3 : Int32) (a8 : Int32) (a9 : Int32) (a10 : Int64) (s : xM) : Option (Int64 × xM) :=
  lz (a9.toInt64) fun v1 =>
  b v1 a10 (a8 + 1) s
def fX9_patterns_L64 (k124 : Int64 → Int64 → xM → Option (Int64 × xM)) (a1 : Int32) (a2 : Int32) (a3 : Int32) : Nat → Int64 → Int64 → Int32 → xM → Option (Int64 × xM)
  | 0, _, _, _, _ => none
  | n + 1, a4, a6, a8, s =>
    if a3 ≤ a8 then
      k124 a4 a6 s
    else
      bd (fX9_takePatterns a2 a8 s) fun r2 s3 =>
      bd (fX6_openSet s3) fun r5 s6 =>
      bd (fX9_totalOf r5 s6) fun r8 s9 =>
      if (lg_cmp a6 (-4611686018427387904 : Int64)) = 0 then
        fX9_patterns_J109 k124 (fX9_patterns_L64 k124 a1 a2 a3 n) a1 a2 a3 a8 r2 r8 s9
      else
        if 0 ≤ (lg_cmp r8 a6) then
          fX9_patterns_L64 k124 a1 a2 a3 n a4 a6 (a8 + 1) s9
        else
          fX9_patterns_J109 k124 (fX9_patterns_L64 k124 a1 a2 a3 n) a1 a2 a3 a8 r2 r8 s9
def fX9_patterns (a1 : Int32) (s : xM) : Option (Int64 × xM) :=
  bd (fX9_isWithin a1 (0 : Int32) (1 : Int32) s) fun r1 s2 =>
  if r1 = 0 then
    some ((-4611686018427387904 : Int64), s2)
  else
    bd (fX8_measure s2) fun _ s6 =>
    lz (if (gi s6 1 7) < (5 : Int32) then (gi s6 1 7) else (5 : Int32)) fun v8 =>
    fX9_patterns_L37 (fun x10 s11 =>
        fX9_patterns_L64 (fun x12 x13 s14 =>
            if a1 = 0 then
              some (x12, s14)
            else
              some (x13, s14)) a1 v8 x10 fu (0 : Int64) (-4611686018427387904 : Int64) (0 : Int32) s11) a1 v8 fu (1 : Int32) (0 : Int32) s6
def fX9_peopleWhoPayMore_L4 (k57 : Int32 → xM → Option (Int32 × xM)) (a1 : Int32) : Nat → Int32 → Int32 → xM → Option (Int32 × xM)
  | 0, _, _, _ => none
  | n + 1, a2, a3, s =>
    if (gi s 1 9) ≤ a3 then
      k57 a2 s
    else
      gd (inb a3 8) <|
      gd (inb a3 8) <|
      if (((gi s 71 a3.toNatClampNeg) - (gi s 92 a3.toNatClampNeg)) * a1) ≤ 0 then
        fX9_peopleWhoPayMore_L4 k57 a1 n a2 (a3 + 1) s
      else
        gd (inb a3 8) <|
        lz (a2 + (gi s (19 + a3.toNatClampNeg) 2)) fun v6 =>
        fX9_peopleWhoPayMore_L4 k57 a1 n v6 (a3 + 1) s
def fX9_peopleWhoPayMore (a1 : Int32) (s : xM) : Option (Int32 × xM) :=
  fX9_peopleWhoPayMore_L4 (fun x1 s2 =>
      some (x1, s2)) a1 fu (0 : Int32) (0 : Int32) s
def fX9_mostPaidMore_L4 (k42 : Int32 → xM → Option (Int32 × xM)) : Nat → Int32 → Int32 → xM → Option (Int32 × xM)
  | 0, _, _, _ => none
  | n + 1, a1, a2, s =>
    if (gi s 1 9) ≤ a2 then
      k42 a1 s
    else
      gd (inb a2 8) <|
      gd (inb a2 8) <|
      lz (if a1 < ((gi s 71 a2.toNatClampNeg) - (gi s 92 a2.toNatClampNeg)) then ((gi s 71 a2.toNatClampNeg) - (gi s 92 a2.toNatClampNeg)) else a1) fun v4 =>
      fX9_mostPaidMore_L4 k42 n v4 (a2 + 1) s
def fX9_mostPaidMore (s : xM) : Option (Int32 × xM) :=
  fX9_mostPaidMore_L4 (fun x1 s2 =>
      some (x1, s2)) fu (0 : Int32) (0 : Int32) s
def fX9_bench (a1 : Int32) (a2 : Int32) (s : xM) : Option (Int64 × xM) :=
  bd (fX9_isStop a1 s) fun r1 s2 =>
  if r1 = 0 then
    some ((-4611686018427387904 : Int64), s2)
  else
    bd (fX9_isWithin a2 (0 : Int32) (3 : Int32) s2) fun r5 s6 =>
    if r5 = 0 then
      some ((-4611686018427387904 : Int64), s6)
    else
      bd (fX9_lookAtNow s6) fun _ s10 =>
      bd (fX9_keepCosts s10) fun _ s13 =>
      bd (fX8_total s13) fun r15 s16 =>
      bd (fX6_openSet s16) fun r18 s19 =>
      bd (fX8_look (r18 ^^^ ((1 : Int32) <<< (a1 &&& 31))) (gi s19 1 4) s19) fun _ s22 =>
      if a2 = (0 : Int32) then
        bd (fX8_total s22) fun r25 s26 =>
        some ((r25 - r15), s26)
      else
      if a2 = (1 : Int32) then
        bd (fX9_peopleWhoPayMore (1 : Int32) s22) fun r29 s30 =>
        some ((r29.toInt64), s30)
      else
      if a2 = (2 : Int32) then
        bd (fX9_peopleWhoPayMore (-1 : Int32) s22) fun r33 s34 =>
        some ((r33.toInt64), s34)
      else
      bd (fX9_mostPaidMore s22) fun r36 s37 =>
      some ((r36.toInt64), s37)
def fX9_givenUpOf_J57 (k69 : Int32 → xM → Option (Int32 × xM)) (b : Int32 → Int64 → Int32 → xM → Option (Int32 × xM)) (a1 : Int32) (a5 : Int32) (a6 : Int64) (s : xM) : Option (Int32 × xM) :=
  b a5 a6 (a5 + 1) s
def fX9_givenUpOf_L7 (k69 : Int32 → xM → Option (Int32 × xM)) (a1 : Int32) : Nat → Int32 → Int64 → Int32 → xM → Option (Int32 × xM)
  | 0, _, _, _, _ => none
  | n + 1, a2, a3, a5, s =>
    if (gi s 1 7) ≤ a5 then
      k69 a2 s
    else
      if (a1 &&& ((1 : Int32) <<< (a5 &&& 31))) = 0 then
        fX9_givenUpOf_L7 k69 a1 n a2 a3 (a5 + 1) s
      else
        bd (fX9_totalOf (a1 &&& (((1 : Int32) <<< (a5 &&& 31)) ^^^ (-1 : Int32))) s) fun r3 s4 =>
        if a2 = (-1 : Int32) then
          fX9_givenUpOf_J57 k69 (fX9_givenUpOf_L7 k69 a1 n) a1 a5 r3 s4
        else
          if 0 ≤ (lg_cmp r3 a3) then
            fX9_givenUpOf_L7 k69 a1 n a2 a3 (a5 + 1) s4
          else
            fX9_givenUpOf_J57 k69 (fX9_givenUpOf_L7 k69 a1 n) a1 a5 r3 s4
def fX9_givenUpOf (a1 : Int32) (s : xM) : Option (Int32 × xM) :=
  fX9_givenUpOf_L7 (fun x1 s2 =>
      some (x1, s2)) a1 fu (-1 : Int32) (0 : Int64) (0 : Int32) s
def fX9_give (s : xM) : Option (Int32 × xM) :=
  bd (fX8_measure s) fun _ s2 =>
  bd (fX6_openSet s2) fun r4 s5 =>
  bd (fX9_givenUpOf r4 s5) fun r7 s8 =>
  some (r7, s8)
def fX9_order_L33 (k75 : Int32 → xM → Option (Int32 × xM)) (a1 : Int32) : Nat → Int32 → Int32 → Int32 → xM → Option (Int32 × xM)
  | 0, _, _, _, _ => none
  | n + 1, a2, a3, a4, s =>
    if a1 ≤ a4 then
      k75 a3 s
    else
      if a2 = 0 then
        k75 a3 s
      else
        bd (fX9_givenUpOf a2 s) fun r3 s4 =>
        lz (a2 &&& (((1 : Int32) <<< (r3 &&& 31)) ^^^ (-1 : Int32))) fun v6 =>
        lz (((a3 * (10 : Int32)) + r3) + (1 : Int32)) fun v8 =>
        fX9_order_L33 k75 a1 n v6 v8 (a4 + 1) s4
def fX9_order (a1 : Int32) (s : xM) : Option (Int32 × xM) :=
  bd (fX9_isWithin a1 (0 : Int32) (8 : Int32) s) fun r1 s2 =>
  if r1 = 0 then
    some ((-2 : Int32), s2)
  else
    bd (fX8_measure s2) fun _ s6 =>
    bd (fX6_openSet s6) fun r8 s9 =>
    fX9_order_L33 (fun x11 s12 =>
        some (x11, s12)) a1 fu r8 (0 : Int32) (0 : Int32) s9
def fX9_thins_L11 (k59 : Int32 → xM → Option (Int32 × xM)) (k85 : Int32 → xM → Option (Int32 × xM)) : Nat → Int32 → Int32 → xM → Option (Int32 × xM)
  | 0, _, _, _ => none
  | n + 1, a1, a2, s =>
    if (8 : Int32) ≤ a2 then
      k85 a1 s
    else
      bd (fX6_openSet s) fun r2 s3 =>
      bd (fX9_givenUpOf r2 s3) fun r5 s6 =>
      if r5 = (-1 : Int32) then
        k85 a1 s6
      else
        bd (fX9_totalOf (r2 &&& (((1 : Int32) <<< (r5 &&& 31)) ^^^ (-1 : Int32))) s6) fun r9 s10 =>
        bd (fX9_totalOf r2 s10) fun r12 s13 =>
        if (lg_cmp r9 r12) ≤ 0 then
          gd (inb r5 8) <|
          lz (si s13 (11 + r5.toNatClampNeg) 5 (0 : Int32)) fun s17 =>
          fX9_thins_L11 k59 k85 n (a1 + 1) (a2 + 1) s17
        else
          k59 a1 s13
def fX9_thins (s : xM) : Option (Int32 × xM) :=
  bd (fX8_measure s) fun _ s2 =>
  fX9_thins_L11 (fun x4 s5 =>
      some (x4, s5)) (fun x6 s7 =>
      some (x6, s7)) fu (0 : Int32) (0 : Int32) s2
def fX9_across (a1 : Int32) (s : xM) : Option (Int64 × xM) :=
  bd (fX9_isStop a1 s) fun r1 s2 =>
  if r1 = 0 then
    some ((-4611686018427387904 : Int64), s2)
  else
    gd (inb a1 8) <|
    if (gi s2 (11 + a1.toNatClampNeg) 0) = (3 : Int32) then
      bd (fX9_lookAtNow s2) fun _ s8 =>
      bd (fX8_total s8) fun r10 s11 =>
      gd (inb a1 8) <|
      gd (inb a1 8) <|
      lz (si s11 29 a1.toNatClampNeg (gi s11 (11 + a1.toNatClampNeg) 3)) fun s15 =>
      bd (fX6_openSet s15) fun r17 s18 =>
      bd (fX9_totalOf r17 s18) fun r20 s21 =>
      some ((r10 - r20), s21)
    else
      some ((-4611686018427387904 : Int64), s2)
def fX9_homesIf_L19 (k158 : Int32 → xM → Option (Int32 × xM)) : Nat → Int32 → Int32 → xM → Option (Int32 × xM)
  | 0, _, _, _ => none
  | n + 1, a2, a3, s =>
    if (gi s 1 9) ≤ a3 then
      k158 a2 s
    else
      gd (inb a3 8) <|
      lz (si s 91 0 (gi s 71 a3.toNatClampNeg)) fun s3 =>
      gd (inb a3 8) <|
      lz (si s3 91 1 (gi s3 74 a3.toNatClampNeg)) fun s6 =>
      gd (inb a3 8) <|
      lz (si s6 91 2 (gi s6 75 a3.toNatClampNeg)) fun s9 =>
      gd (inb a3 8) <|
      lz (si s9 91 3 (gi s9 76 a3.toNatClampNeg)) fun s12 =>
      gd (inb a3 8) <|
      lz (si s12 91 4 (gi s12 (19 + a3.toNatClampNeg) 2)) fun s15 =>
      gd (inb a3 8) <|
      lz (si s15 91 5 (gi s15 (19 + a3.toNatClampNeg) 3)) fun s18 =>
      gd (inb (gi s18 0 6) 6) <|
      bd (fX5_valueOf (gi s18 0 6).toNatClampNeg (0 : Int32) s18) fun r21 s22 =>
      if r21 = 0 then
        fX9_homesIf_L19 k158 n a2 (a3 + 1) s22
      else
        lz (a2 ||| ((1 : Int32) <<< (a3 &&& 31))) fun v25 =>
        fX9_homesIf_L19 k158 n v25 (a3 + 1) s22
def fX9_homesIf (a1 : Int32) (s : xM) : Option (Int32 × xM) :=
  bd (fX6_openSet s) fun r1 s2 =>
  bd (fX8_look r1 a1 s2) fun _ s5 =>
  fX9_homesIf_L19 (fun x7 s8 =>
      some (x7, s8)) fu (0 : Int32) (0 : Int32) s5
