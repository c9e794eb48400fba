def fX10_eRead_J100 (k98 : xM → Option (Int32 × xM)) (k118 : xM → Option (Int32 × xM)) (k142 : xM → Option (Int32 × xM)) (k149 : xM → Option (Int32 × xM)) (k160 : xM → Option (Int32 × xM)) (k199 : xM → Option (Int32 × xM)) (k248 : xM → Option (Int32 × xM)) (b : Int32 → Int32 → xM → Option (Int32 × xM)) (a1 : Int32) (s : xM) : Option (Int32 × xM) :=
  if (gi s 0 49) = (45 : Int32) then
    bd (fX10_opensOne (19 : Int32) s) fun r7 s8 =>
    if r7 = 0 then
      k118 s8
    else
      b a1 (0 : Int32) s8
  else
    if (gi s 0 49) = (40 : Int32) then
      bd (fX10_opensOne (0 : Int32) s) fun r3 s4 =>
      if r3 = 0 then
        k142 s4
      else
        b a1 (1 : Int32) s4
    else
      k149 s
def fX10_eRead_J62 (k98 : xM → Option (Int32 × xM)) (k118 : xM → Option (Int32 × xM)) (k142 : xM → Option (Int32 × xM)) (k149 : xM → Option (Int32 × xM)) (k160 : xM → Option (Int32 × xM)) (k199 : xM → Option (Int32 × xM)) (k248 : xM → Option (Int32 × xM)) (b : Int32 → Int32 → xM → Option (Int32 × xM)) (a2 : Int32) (t0 : Int32) (s : xM) : Option (Int32 × xM) :=
  bd (fX10_puts t0 s) fun _ s2 =>
  bd (fX10_unwinds (7 : Int32) s2) fun _ s5 =>
  b (0 : Int32) a2 s5
def fX10_eRead_J38 (k98 : xM → Option (Int32 × xM)) (k118 : xM → Option (Int32 × xM)) (k142 : xM → Option (Int32 × xM)) (k149 : xM → Option (Int32 × xM)) (k160 : xM → Option (Int32 × xM)) (k199 : xM → Option (Int32 × xM)) (k248 : xM → Option (Int32 × xM)) (b : Int32 → Int32 → xM → Option (Int32 × xM)) (a2 : Int32) (s : xM) : Option (Int32 × xM) :=
  if (gi s 0 49) = (1 : Int32) then
    fX10_eRead_J62 k98 k118 k142 k149 k160 k199 k248 b a2 ((100000 : Int32) + (gi s 0 50)) s
  else
    fX10_eRead_J62 k98 k118 k142 k149 k160 k199 k248 b a2 (gi s 0 50) s
def fX10_eRead_L14 (k98 : xM → Option (Int32 × xM)) (k118 : xM → Option (Int32 × xM)) (k142 : xM → Option (Int32 × xM)) (k149 : xM → Option (Int32 × xM)) (k160 : xM → Option (Int32 × xM)) (k199 : xM → Option (Int32 × xM)) (k248 : xM → Option (Int32 × xM)) : Nat → Int32 → Int32 → xM → Option (Int32 × xM)
  | 0, _, _, _ => none
  | n + 1, a1, a2, s =>
    bd (fX10_next s) fun _ s2 =>
    if a1 = 0 then
      if (gi s2 0 49) = (59 : Int32) then
        k160 s2
      else
        if (gi s2 0 49) = (41 : Int32) then
          bd (fX10_unwinds (1 : Int32) s2) fun _ s17 =>
          if (gi s17 0 53) = 0 then
            k199 s17
          else
            lz (si s17 0 53 ((gi s17 0 53) - (1 : Int32))) fun s20 =>
            lz (si s20 0 54 ((gi s20 0 54) - (1 : Int32))) fun s22 =>
            bd (fX10_unwinds (7 : Int32) s22) fun _ s25 =>
            fX10_eRead_L14 k98 k118 k142 k149 k160 k199 k248 n a1 a2 s25
        else
          bd (fX10_signOf s2) fun r7 s8 =>
          if r7 = (-1 : Int32) then
            k248 s8
          else
            bd (fX10_between r7 s8) fun r11 s12 =>
            if r11 = 0 then
              k248 s12
            else
              if (12 : Int32) < r7 then
                fX10_eRead_L14 k98 k118 k142 k149 k160 k199 k248 n (1 : Int32) (0 : Int32) s12
              else
                fX10_eRead_L14 k98 k118 k142 k149 k160 k199 k248 n (1 : Int32) (1 : Int32) s12
    else
      if (gi s2 0 49) = (1 : Int32) then
        fX10_eRead_J38 k98 k118 k142 k149 k160 k199 k248 (fX10_eRead_L14 k98 k118 k142 k149 k160 k199 k248 n) a2 s2
      else
        if (gi s2 0 49) = (2 : Int32) then
          fX10_eRead_J38 k98 k118 k142 k149 k160 k199 k248 (fX10_eRead_L14 k98 k118 k142 k149 k160 k199 k248 n) a2 s2
        else
          if (gi s2 0 49) = (6 : Int32) then
            if a2 = 0 then
              fX10_eRead_J100 k98 k118 k142 k149 k160 k199 k248 (fX10_eRead_L14 k98 k118 k142 k149 k160 k199 k248 n) a1 s2
            else
              bd (fX10_opensOne (13 : Int32) s2) fun r31 s32 =>
              if r31 = 0 then
                k98 s32
              else
                fX10_eRead_L14 k98 k118 k142 k149 k160 k199 k248 n a1 a2 s32
          else
            fX10_eRead_J100 k98 k118 k142 k149 k160 k199 k248 (fX10_eRead_L14 k98 k118 k142 k149 k160 k199 k248 n) a1 s2
def fX10_eRead (s : xM) : Option (Int32 × xM) :=
  lz (si s 0 53 (0 : Int32)) fun s1 =>
  lz (si s1 0 54 (0 : Int32)) fun s3 =>
  fX10_eRead_L14 (fun s5 =>
      some ((0 : Int32), s5)) (fun s6 =>
      some ((0 : Int32), s6)) (fun s7 =>
      some ((0 : Int32), s7)) (fun s8 =>
      some ((0 : Int32), s8)) (fun s9 =>
      bd (fX10_unwinds (1 : Int32) s9) fun _ s11 =>
      if (gi s11 0 53) = 0 then
        some ((1 : Int32), s11)
      else
        some ((0 : Int32), s11)) (fun s14 =>
      some ((0 : Int32), s14)) (fun s15 =>
      some ((0 : Int32), s15)) fu (1 : Int32) (1 : Int32) s3
def fX10_text_J60 (k101 : Int32 → xM → Option (Int32 × xM)) (b : Int32 → Int32 → xM → Option (Int32 × xM)) (a2 : Int32) (t0 : Int32) (s : xM) : Option (Int32 × xM) :=
  gd (inb (((4 : Int32) * (gi s 0 21)) + a2) 24) <|
  lz (si s 16 (((4 : Int32) * (gi s 0 21)) + a2).toNatClampNeg (gi s 0 55)) fun s2 =>
  if t0 = 0 then
    b (0 : Int32) (a2 + 1) s2
  else
    bd (fX10_eRead s2) fun r5 s6 =>
    if r5 = 0 then
      b (0 : Int32) (a2 + 1) s6
    else
      b (1 : Int32) (a2 + 1) s6
def fX10_text_J59 (k101 : Int32 → xM → Option (Int32 × xM)) (b : Int32 → Int32 → xM → Option (Int32 × xM)) (a2 : Int32) (s : xM) : Option (Int32 × xM) :=
  fX10_text_J60 k101 b a2 (0 : Int32) s
def fX10_text_L26 (k101 : Int32 → xM → Option (Int32 × xM)) : Nat → Int32 → Int32 → xM → Option (Int32 × xM)
  | 0, _, _, _ => none
  | n + 1, a1, a2, s =>
    if (3 : Int32) ≤ a2 then
      k101 a1 s
    else
      if a1 = 0 then
        k101 a1 s
      else
        bd (fX10_next s) fun _ s4 =>
        if (gi s4 0 49) = (3 : Int32) then
          if (gi s4 0 50) = a2 then
            fX10_text_J60 k101 (fX10_text_L26 k101 n) a2 (1 : Int32) s4
          else
            fX10_text_J59 k101 (fX10_text_L26 k101 n) a2 s4
        else
          fX10_text_J59 k101 (fX10_text_L26 k101 n) a2 s4
def fX10_text_J122 (a1 : Int32) (s : xM) : Option (Int32 × xM) :=
  gd (inb (((4 : Int32) * (gi s 0 21)) + (3 : Int32)) 24) <|
  lz (si s 16 (((4 : Int32) * (gi s 0 21)) + (3 : Int32)).toNatClampNeg (gi s 0 55)) fun s2 =>
  lz (si s2 0 18 (0 : Int32)) fun s4 =>
  if a1 = 0 then
    some (((-100 : Int32) - (gi s4 0 48)), s4)
  else
    lz (si s4 0 21 ((gi s4 0 21) + (1 : Int32))) fun s7 =>
    some (((gi s7 0 21) - (1 : Int32)), s7)
def fX10_text_J121 (t0 : Int32) (s : xM) : Option (Int32 × xM) :=
  fX10_text_J122 t0 s
def fX10_text (s : xM) : Option (Int32 × xM) :=
  if (gi s 0 21) = (6 : Int32) then
    some ((-4 : Int32), s)
  else
    lz (si s 0 47 (0 : Int32)) fun s2 =>
    lz (si s2 0 55 (0 : Int32)) fun s4 =>
    fX10_text_L26 (fun x6 s7 =>
        if x6 = 0 then
          fX10_text_J122 x6 s7
        else
          bd (fX10_next s7) fun _ s10 =>
          if (gi s10 0 49) = 0 then
            fX10_text_J121 (1 : Int32) s10
          else
            fX10_text_J121 (0 : Int32) s10) fu (1 : Int32) (0 : Int32) s4
def fX10_two (a0 : Int32) (a1 : Int32) (a2 : Int32) (s : xM) : Option (Int32 × xM) :=
  if a0 = (11 : Int32) then
    if a1 = 0 then
      if a2 = 0 then
        some ((0 : Int32), s)
      else
        some ((1 : Int32), s)
    else
      some ((1 : Int32), s)
  else
  if a0 = (12 : Int32) then
    if a1 = 0 then
      some ((0 : Int32), s)
    else
      if a2 = 0 then
        some ((0 : Int32), s)
      else
        some ((1 : Int32), s)
  else
  if a0 = (13 : Int32) then
    some ((a1 * a2), s)
  else
  if a0 = (14 : Int32) then
    if a2 ≤ a1 then
      some ((0 : Int32), s)
    else
      some ((1 : Int32), s)
  else
  if a0 = (15 : Int32) then
    if a1 = a2 then
      some ((1 : Int32), s)
    else
      some ((0 : Int32), s)
  else
  if a0 = (16 : Int32) then
    some ((a1 + a2), s)
  else
  if a0 = (17 : Int32) then
    some ((a1 - a2), s)
  else
  some ((a1 * a2), s)
def fX10_says_J153 (k225 : xM → Option (Int32 × xM)) (b : Int32 → Int32 → xM → Option (Int32 × xM)) (a1 : Int32) (a4 : Int32) (a5 : Int32) (t0 : Int32) (t1 : Int32) (s : xM) : Option (Int32 × xM) :=
  gd (inb t1 200) <|
  lz (si s 28 t1.toNatClampNeg t0) fun s2 =>
  b a4 (a5 + 1) s2
def fX10_says_J114 (k225 : xM → Option (Int32 × xM)) (b : Int32 → Int32 → xM → Option (Int32 × xM)) (a1 : Int32) (a4 : Int32) (a5 : Int32) (t0 : Int32) (t1 : Int32) (s : xM) : Option (Int32 × xM) :=
  gd (inb t1 200) <|
  lz (si s 28 t1.toNatClampNeg t0) fun s2 =>
  b (a4 + 1) (a5 + 1) s2
def fX10_says_J85 (k225 : xM → Option (Int32 × xM)) (b : Int32 → Int32 → xM → Option (Int32 × xM)) (a1 : Int32) (a4 : Int32) (a5 : Int32) (a6 : Int32) (s : xM) : Option (Int32 × xM) :=
  if (11 : Int32) ≤ a6 then
    fX10_says_J114 k225 b a1 a4 a5 (a6 - (100000 : Int32)) a4 s
  else
    gd (inb a6 6) <|
    fX10_says_J114 k225 b a1 a4 a5 (gi s 29 a6.toNatClampNeg) a4 s
def fX10_says_L32 (k225 : xM → Option (Int32 × xM)) (a1 : Int32) : Nat → Int32 → Int32 → xM → Option (Int32 × xM)
  | 0, _, _, _ => none
  | n + 1, a4, a5, s =>
    gd (inb ((((4 : Int32) * (gi s 0 22)) + a1) + (1 : Int32)) 24) <|
    if (gi s 16 ((((4 : Int32) * (gi s 0 22)) + a1) + (1 : Int32)).toNatClampNeg) ≤ a5 then
      k225 s
    else
      gd (inb (((200 : Int32) * (gi s 0 22)) + a5) 1200) <|
      lz (gi s 15 (((200 : Int32) * (gi s 0 22)) + a5).toNatClampNeg) fun v4 =>
      if (100000 : Int32) ≤ v4 then
        fX10_says_J85 k225 (fX10_says_L32 k225 a1 n) a1 a4 a5 v4 s
      else
        if (11 : Int32) ≤ v4 then
          if v4 = (13 : Int32) then
            gd (inb (a4 - (1 : Int32)) 200) <|
            if (gi s 28 (a4 - (1 : Int32)).toNatClampNeg) = 0 then
              fX10_says_J153 k225 (fX10_says_L32 k225 a1 n) a1 a4 a5 (1 : Int32) (a4 - (1 : Int32)) s
            else
              fX10_says_J153 k225 (fX10_says_L32 k225 a1 n) a1 a4 a5 (0 : Int32) (a4 - (1 : Int32)) s
          else
            if v4 = (19 : Int32) then
              gd (inb (a4 - (1 : Int32)) 200) <|
              gd (inb (a4 - (1 : Int32)) 200) <|
              lz (si s 28 (a4 - (1 : Int32)).toNatClampNeg (-(gi s 28 (a4 - (1 : Int32)).toNatClampNeg))) fun s20 =>
              fX10_says_L32 k225 a1 n a4 (a5 + 1) s20
            else
              gd (inb ((a4 + (-1)) - (1 : Int32)) 200) <|
              gd (inb (a4 + (-1)) 200) <|
              bd (fX10_two v4 (gi s 28 ((a4 + (-1)) - (1 : Int32)).toNatClampNeg) (gi s 28 (a4 + (-1)).toNatClampNeg) s) fun r12 s13 =>
              gd (inb ((a4 + (-1)) - (1 : Int32)) 200) <|
              lz (si s13 28 ((a4 + (-1)) - (1 : Int32)).toNatClampNeg r12) fun s16 =>
              fX10_says_L32 k225 a1 n (a4 + (-1)) (a5 + 1) s16
        else
          fX10_says_J85 k225 (fX10_says_L32 k225 a1 n) a1 a4 a5 v4 s
def fX10_says (a1 : Int32) (a2 : Int32) (a3 : Int32) (s : xM) : Option (Int32 × xM) :=
  lz (si s 29 4 a2) fun s1 =>
  lz (si s1 29 5 a3) fun s3 =>
  gd (inb (((4 : Int32) * (gi s3 0 22)) + a1) 24) <|
  lz (gi s3 16 (((4 : Int32) * (gi s3 0 22)) + a1).toNatClampNeg) fun v6 =>
  fX10_says_L32 (fun s8 =>
      some ((gi s8 28 0), s8)) a1 fu (0 : Int32) v6 s3
def fX10_names (a1 : Int32) (a2 : Int32) (a3 : Int32) (a4 : Int32) (s : xM) : Option (Int32 × xM) :=
  lz (si s 29 0 a1) fun s1 =>
  lz (si s1 29 1 a2) fun s3 =>
  lz (si s3 29 2 a3) fun s5 =>
  lz (si s5 29 3 a4) fun s7 =>
  some (0, s7)
def fX10_within (a0 : Int32) (a1 : Int32) (s : xM) : Option (Int32 × xM) :=
  if 0 ≤ a0 then
    if a0 ≤ a1 then
      some (a0, s)
    else
      some (a1, s)
  else
    some ((0 : Int32), s)
def fX10_force (a1 : Int32) (s : xM) : Option (Int32 × xM) :=
  bd (fX10_in a1 (0 : Int32) ((gi s 0 21) - (1 : Int32)) s) fun r1 s2 =>
  if r1 = 0 then
    some ((-2 : Int32), s2)
  else
    lz (gi s2 0 22) fun v5 =>
    lz (si s2 0 22 a1) fun s7 =>
    some (v5, s7)
def fX10_keeps_L2 (k26 : xM → Option (Int32 × xM)) : Nat → Int32 → xM → Option (Int32 × xM)
  | 0, _, _ => none
  | n + 1, a1, s =>
    if (8 : Int32) ≤ a1 then
      k26 s
    else
      gd (inb a1 8) <|
      gd (inb a1 8) <|
      lz (si s 30 a1.toNatClampNeg (gi s 7 a1.toNatClampNeg)) fun s4 =>
      fX10_keeps_L2 k26 n (a1 + 1) s4
def fX10_keeps (s : xM) : Option (Int32 × xM) :=
  fX10_keeps_L2 (fun s1 =>
      some (0, s1)) fu (0 : Int32) s
def fX10_lays_L2 (k26 : xM → Option (Int32 × xM)) : Nat → Int32 → xM → Option (Int32 × xM)
  | 0, _, _ => none
  | n + 1, a1, s =>
    if (8 : Int32) ≤ a1 then
      k26 s
    else
      gd (inb a1 8) <|
      gd (inb a1 8) <|
      lz (si s 7 a1.toNatClampNeg (gi s 30 a1.toNatClampNeg)) fun s4 =>
      fX10_lays_L2 k26 n (a1 + 1) s4
def fX10_lays (s : xM) : Option (Int32 × xM) :=
  fX10_lays_L2 (fun s1 =>
      some (0, s1)) fu (0 : Int32) s
def fX10_totalWith_L2 (k27 : xM → Option (Int64 × xM)) (a1 : Int32) : Nat → Int32 → xM → Option (Int64 × xM)
  | 0, _, _ => none
  | n + 1, a2, s =>
    if (gi s 0 4) ≤ a2 then
      k27 s
    else
      gd (inb a2 8) <|
      lz (si s 7 a2.toNatClampNeg ((a1 >>> (a2 &&& 31)) &&& (1 : Int32))) fun s3 =>
      fX10_totalWith_L2 k27 a1 n (a2 + 1) s3
def fX10_totalWith (a1 : Int32) (s : xM) : Option (Int64 × xM) :=
  fX10_totalWith_L2 (fun s1 =>
      bd (fX10_total s1) fun r2 s3 =>
      some (r2, s3)) a1 fu (0 : Int32) s
def fX10_ones_L4 (k24 : Int32 → xM → Option (Int32 × xM)) (a0 : Int32) : Nat → Int32 → Int32 → xM → Option (Int32 × xM)
  | 0, _, _, _ => none
  | n + 1, a1, a2, s =>
    if (8 : Int32) ≤ a2 then
      k24 a1 s
    else
      lz (a1 + ((a0 >>> (a2 &&& 31)) &&& (1 : Int32))) fun v2 =>
      fX10_ones_L4 k24 a0 n v2 (a2 + 1) s
def fX10_ones (a0 : Int32) (s : xM) : Option (Int32 × xM) :=
  fX10_ones_L4 (fun x1 s2 =>
      some (x1, s2)) a0 fu (0 : Int32) (0 : Int32) s
def fX10_isWithin_L2 (k27 : xM → Option (Int32 × xM)) (k35 : xM → Option (Int32 × xM)) (a1 : Int32) : Nat → Int32 → xM → Option (Int32 × xM)
  | 0, _, _ => none
  | n + 1, a2, s =>
    if (gi s 0 12) ≤ a2 then
      k35 s
    else
      gd (inb a2 8) <|
      gd (inb a2 8) <|
      if ((gi s 25 a2.toNatClampNeg) - (gi s 31 a2.toNatClampNeg)) ≤ a1 then
        fX10_isWithin_L2 k27 k35 a1 n (a2 + 1) s
      else
        k27 s
def fX10_isWithin (a1 : Int32) (s : xM) : Option (Int32 × xM) :=
  fX10_isWithin_L2 (fun s1 =>
      some ((0 : Int32), s1)) (fun s2 =>
      some ((1 : Int32), s2)) a1 fu (0 : Int32) s
def fX10_bestSet_L7 (k33 : xM → Option (Int32 × xM)) (a1 : Int32) (a2 : Int32) : Nat → Int32 → xM → Option (Int32 × xM)
  | 0, _, _ => none
  | n + 1, a3, s =>
    if (gi s 0 12) ≤ a3 then
      k33 s
    else
      gd (inb a3 8) <|
      gd (inb a3 8) <|
      lz (si s 31 a3.toNatClampNeg (gi s 25 a3.toNatClampNeg)) fun s4 =>
      fX10_bestSet_L7 k33 a1 a2 n (a3 + 1) s4
def fX10_bestSet_J122 (k137 : Int32 → xM → Option (Int32 × xM)) (b : Int32 → Int32 → xM → Option (Int32 × xM)) (a1 : Int32) (a2 : Int32) (a4 : Int32) (a5 : Int64) (s : xM) : Option (Int32 × xM) :=
  lz (sl s 0 60 a5) fun s1 =>
  b a4 (a4 + 1) s1
def fX10_bestSet_J85 (k137 : Int32 → xM → Option (Int32 × xM)) (b : Int32 → Int32 → xM → Option (Int32 × xM)) (a1 : Int32) (a2 : Int32) (a3 : Int32) (a4 : Int32) (a5 : Int64) (s : xM) : Option (Int32 × xM) :=
  if a3 = (-1 : Int32) then
    fX10_bestSet_J122 k137 b a1 a2 a4 a5 s
  else
    if (lg_cmp a5 (gl s 0 60)) < 0 then
      fX10_bestSet_J122 k137 b a1 a2 a4 a5 s
    else
      if (lg_cmp a5 (gl s 0 60)) = 0 then
        bd (fX10_ones a4 s) fun r4 s5 =>
        bd (fX10_ones a3 s5) fun r7 s8 =>
        if r7 ≤ r4 then
          b a3 (a4 + 1) s8
        else
          fX10_bestSet_J122 k137 b a1 a2 a4 a5 s8
      else
        b a3 (a4 + 1) s
def fX10_bestSet_J73 (k137 : Int32 → xM → Option (Int32 × xM)) (b : Int32 → Int32 → xM → Option (Int32 × xM)) (a1 : Int32) (a2 : Int32) (a3 : Int32) (a4 : Int32) (a5 : Int64) (s : xM) : Option (Int32 × xM) :=
  if a2 < 0 then
    fX10_bestSet_J85 k137 b a1 a2 a3 a4 a5 s
  else
    bd (fX10_isWithin a2 s) fun r2 s3 =>
    if r2 = 0 then
      b a3 (a4 + 1) s3
    else
      fX10_bestSet_J85 k137 b a1 a2 a3 a4 a5 s3
def fX10_bestSet_L42 (k137 : Int32 → xM → Option (Int32 × xM)) (a1 : Int32) (a2 : Int32) : Nat → Int32 → Int32 → xM → Option (Int32 × xM)
  | 0, _, _, _ => none
  | n + 1, a3, a4, s =>
    if ((1 : Int32) <<< ((gi s 0 4) &&& 31)) ≤ a4 then
      k137 a3 s
    else
      bd (fX10_totalWith a4 s) fun r2 s3 =>
      if a1 < 0 then
        fX10_bestSet_J73 k137 (fX10_bestSet_L42 k137 a1 a2 n) a1 a2 a3 a4 r2 s3
      else
        if a1 < (gi s3 0 44) then
          fX10_bestSet_L42 k137 a1 a2 n a3 (a4 + 1) s3
        else
          fX10_bestSet_J73 k137 (fX10_bestSet_L42 k137 a1 a2 n) a1 a2 a3 a4 r2 s3
def fX10_bestSet (a1 : Int32) (a2 : Int32) (s : xM) : Option (Int32 × xM) :=
  bd (fX10_total s) fun r1 s2 =>
  fX10_bestSet_L7 (fun s4 =>
      bd (fX10_keeps s4) fun _ s6 =>
      fX10_bestSet_L42 (fun x8 s9 =>
          bd (fX10_lays s9) fun _ s11 =>
          some (x8, s11)) a1 a2 fu (-1 : Int32) (0 : Int32) s6) a1 a2 fu (0 : Int32) s2
def fX10_best (a1 : Int32) (s : xM) : Option (Int64 × xM) :=
  bd (fX10_in a1 (0 : Int32) (1 : Int32) s) fun r1 s2 =>
  if r1 = 0 then
    some ((-4611686018427387904 : Int64), s2)
  else
    bd (fX10_bestSet (-1 : Int32) (-1 : Int32) s2) fun r5 s6 =>
    if a1 = 0 then
      some ((r5.toInt64), s6)
    else
      some ((gl s6 0 60), s6)
def fX10_bound (a1 : Int32) (s : xM) : Option (Int32 × xM) :=
  bd (fX10_in a1 (0 : Int32) (99999 : Int32) s) fun r1 s2 =>
  if r1 = 0 then
    some ((-2 : Int32), s2)
  else
    bd (fX10_bestSet a1 (-1 : Int32) s2) fun r5 s6 =>
    some (r5, s6)
def fX10_least (a1 : Int32) (s : xM) : Option (Int32 × xM) :=
  bd (fX10_in a1 (0 : Int32) (999999 : Int32) s) fun r1 s2 =>
  if r1 = 0 then
    some ((-2 : Int32), s2)
  else
    bd (fX10_bestSet (-1 : Int32) a1 s2) fun r5 s6 =>
    some (r5, s6)
def fX10_fair_J39 (k52 : Int32 → xM → Option (Int32 × xM)) (b : Int32 → Int32 → Int32 → xM → Option (Int32 × xM)) (a3 : Int32) (s : xM) : Option (Int32 × xM) :=
  lz (gi s 0 45) fun v1 =>
  b a3 v1 (a3 + 1) s
def fX10_fair_L10 (k52 : Int32 → xM → Option (Int32 × xM)) : Nat → Int32 → Int32 → Int32 → xM → Option (Int32 × xM)
  | 0, _, _, _, _ => none
  | n + 1, a1, a2, a3, s =>
    if ((1 : Int32) <<< ((gi s 0 4) &&& 31)) ≤ a3 then
      k52 a1 s
    else
      bd (fX10_totalWith a3 s) fun r2 s3 =>
      if a1 = (-1 : Int32) then
        fX10_fair_J39 k52 (fX10_fair_L10 k52 n) a3 s3
      else
        if a2 ≤ (gi s3 0 45) then
          fX10_fair_L10 k52 n a1 a2 (a3 + 1) s3
        else
          fX10_fair_J39 k52 (fX10_fair_L10 k52 n) a3 s3
def fX10_fair (s : xM) : Option (Int32 × xM) :=
  bd (fX10_keeps s) fun _ s2 =>
  fX10_fair_L10 (fun x4 s5 =>
      bd (fX10_lays s5) fun _ s7 =>
      some (x4, s7)) fu (-1 : Int32) (0 : Int32) (0 : Int32) s2
def fX10_fewest_J48 (k67 : Int32 → xM → Option (Int32 × xM)) (b : Int32 → Int32 → xM → Option (Int32 × xM)) (a1 : Int32) (a2 : Int32) (a3 : Int32) (s : xM) : Option (Int32 × xM) :=
  bd (fX10_totalWith a3 s) fun r1 s2 =>
  if 0 < (lg_cmp r1 (a1.toInt64)) then
    b a2 (a3 + 1) s2
  else
    b a3 (a3 + 1) s2
def fX10_fewest_L22 (k67 : Int32 → xM → Option (Int32 × xM)) (a1 : Int32) : Nat → Int32 → Int32 → xM → Option (Int32 × xM)
  | 0, _, _, _ => none
  | n + 1, a2, a3, s =>
    if ((1 : Int32) <<< ((gi s 0 4) &&& 31)) ≤ a3 then
      k67 a2 s
    else
      if a2 = (-1 : Int32) then
        fX10_fewest_J48 k67 (fX10_fewest_L22 k67 a1 n) a1 a2 a3 s
      else
        bd (fX10_ones a3 s) fun r3 s4 =>
        bd (fX10_ones a2 s4) fun r6 s7 =>
        if r6 ≤ r3 then
          fX10_fewest_L22 k67 a1 n a2 (a3 + 1) s7
        else
          fX10_fewest_J48 k67 (fX10_fewest_L22 k67 a1 n) a1 a2 a3 s7
def fX10_fewest (a1 : Int32) (s : xM) : Option (Int32 × xM) :=
  bd (fX10_in a1 (0 : Int32) (999999999 : Int32) s) fun r1 s2 =>
  if r1 = 0 then
    some ((-2 : Int32), s2)
  else
    bd (fX10_keeps s2) fun _ s6 =>
    fX10_fewest_L22 (fun x8 s9 =>
        bd (fX10_lays s9) fun _ s11 =>
        some (x8, s11)) a1 fu (-1 : Int32) (0 : Int32) s6
def fX10_judge_L49 (k112 : Int32 → Int32 → xM → Option (Int32 × xM)) (a1 : Int32) : Nat → Int32 → Int32 → Int32 → xM → Option (Int32 × xM)
  | 0, _, _, _, _ => none
  | n + 1, a2, a3, a4, s =>
    if (gi s 0 4) ≤ a4 then
      k112 a2 a3 s
    else
      if a2 = 0 then
        k112 a2 a3 s
      else
        gd (inb (((41 : Int32) * a1) + a4) 164) <|
        bd (fX10_in (gi s 24 (((41 : Int32) * a1) + a4).toNatClampNeg) (0 : Int32) (1 : Int32) s) fun r4 s5 =>
        if r4 = 0 then
          lz (a3 ||| (0 : Int32)) fun v8 =>
          fX10_judge_L49 k112 a1 n r4 v8 (a4 + 1) s5
        else
          gd (inb (((41 : Int32) * a1) + a4) 164) <|
          lz (a3 ||| ((gi s5 24 (((41 : Int32) * a1) + a4).toNatClampNeg) <<< (a4 &&& 31))) fun v11 =>
          fX10_judge_L49 k112 a1 n r4 v11 (a4 + 1) s5
def fX10_judge_L140 (k190 : Int32 → xM → Option (Int32 × xM)) : Nat → Int32 → Int32 → xM → Option (Int32 × xM)
  | 0, _, _, _ => none
  | n + 1, a4, a5, s =>
    if a5 < 0 then
      k190 a4 s
    else
      bd (fX10_finds a5 s) fun _ s3 =>
      gd (inb a5 8) <|
      gd (inb (((6 : Int32) * (gi s3 13 a5.toNatClampNeg)) + (5 : Int32)) 18) <|
      if (gi s3 0 40) ≤ (gi s3 2 (((6 : Int32) * (gi s3 13 a5.toNatClampNeg)) + (5 : Int32)).toNatClampNeg) then
        fX10_judge_L140 k190 n a4 (a5 + (-1)) s3
      else
        fX10_judge_L140 k190 n a5 (a5 + (-1)) s3
def fX10_judge_J43 (a1 : Int32) (t0 : Int32) (s : xM) : Option (Int32 × xM) :=
  fX10_judge_L49 (fun x1 x2 s3 =>
      if x1 = 0 then
        some ((-2 : Int32), s3)
      else
        bd (fX10_keeps s3) fun _ s6 =>
        bd (fX10_totalWith x2 s6) fun r8 s9 =>
        lz ((gi s9 0 12) - (1 : Int32)) fun v11 =>
        fX10_judge_L140 (fun x13 s14 =>
            bd (fX10_lays s14) fun _ s16 =>
            some (x13, s16)) fu (-1 : Int32) v11 s9) a1 fu t0 (0 : Int32) (0 : Int32) s
def fX10_judge (a1 : Int32) (s : xM) : Option (Int32 × xM) :=
  bd (fX10_in a1 (0 : Int32) (3 : Int32) s) fun r1 s2 =>
  if r1 = 0 then
    some ((-2 : Int32), s2)
  else
    gd (inb a1 4) <|
    if (gi s2 22 a1.toNatClampNeg) = (-1 : Int32) then
      some ((-11 : Int32), s2)
    else
      gd (inb a1 4) <|
      if (gi s2 23 a1.toNatClampNeg) = (gi s2 0 4) then
        fX10_judge_J43 a1 (1 : Int32) s2
      else
        fX10_judge_J43 a1 (0 : Int32) s2
