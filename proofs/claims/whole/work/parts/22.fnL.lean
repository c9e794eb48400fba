def fJ0_isLatin1_aae02 (a0 : Nat) (s : xM) : Option (Int32 × xM) :=
  if (1 : Int32) = 0 then
    some ((0 : Int32), s)
  else
    if (0 : Int32) = 0 then
      some ((1 : Int32), s)
    else
      some ((0 : Int32), s)
def fJ0_coder_7d493 (a0 : Nat) (s : xM) : Option (Int32 × xM) :=
  if (1 : Int32) = 0 then
    gd (isN .byte (1 : Int32)) <|
    some ((1 : Int32), s)
  else
    gd (isN .byte (0 : Int32)) <|
    some ((0 : Int32), s)
def fJ1_charAt_3b067 (a0 : Nat) (a1 : Int32) (s : xM) : Option (Int32 × xM) :=
  bd (fJ0_checkIndex_df160 a1 (Int32.ofNat (xSl.getD a0 0)) s) fun _ s2 =>
  gd (inb a1 (xSl.getD a0 0)) <|
  gd (isN .char (((((xSy.getD a0 []).getD a1.toNatClampNeg 0) &&& (255 : Int32)).toUInt32 % 65536).toInt32)) <|
  some ((((((xSy.getD a0 []).getD a1.toNatClampNeg 0) &&& (255 : Int32)).toUInt32 % 65536).toInt32), s2)
def fJ0_charAt_5068e (a0 : Nat) (a1 : Int32) (s : xM) : Option (Int32 × xM) :=
  bd (fJ0_isLatin1_aae02 a0 s) fun r1 s2 =>
  if r1 = 0 then
    none
  else
    bd (fJ1_charAt_3b067 a0 a1 s2) fun r5 s6 =>
    gd (isN .char r5) <|
    some (r5, s6)
def fJ0_length_8abf5 (a0 : Nat) (s : xM) : Option (Int32 × xM) :=
  bd (fJ0_coder_7d493 a0 s) fun r1 s2 =>
  some (((Int32.ofNat (xSl.getD a0 0)) >>> (r1 &&& 31)), s2)
def fJ1_canEncode_9a6ad (a0 : Int32) (s : xM) : Option (Int32 × xM) :=
  if a0 < 0 then
    some ((0 : Int32), s)
  else
    if (255 : Int32) < a0 then
      some ((0 : Int32), s)
    else
      some ((1 : Int32), s)
def fJ1_indexOfChar_4cfef_L7 (k22 : Int32 → xM → Option (Int32 × xM)) (k31 : xM → Option (Int32 × xM)) (a0 : Nat) (a3 : Int32) (a4 : Int32) : Nat → Int32 → xM → Option (Int32 × xM)
  | 0, _, _ => none
  | n + 1, a5, s =>
    if a3 ≤ a5 then
      k31 s
    else
      gd (inb a5 (xSl.getD a0 0)) <|
      if ((xSy.getD a0 []).getD a5.toNatClampNeg 0) = a4 then
        k22 a5 s
      else
        fJ1_indexOfChar_4cfef_L7 k22 k31 a0 a3 a4 n (a5 + 1) s
def fJ1_indexOfChar_4cfef (a0 : Nat) (a1 : Int32) (a2 : Int32) (a3 : Int32) (s : xM) : Option (Int32 × xM) :=
  lz (a1.toInt8.toInt32) fun v1 =>
  fJ1_indexOfChar_4cfef_L7 (fun x3 s4 =>
      some (x3, s4)) (fun s5 =>
      some ((-1 : Int32), s5)) a0 a3 v1 fu a2 s
def fJ1_indexOf_4cfef (a0 : Nat) (a1 : Int32) (a2 : Int32) (a3 : Int32) (s : xM) : Option (Int32 × xM) :=
  bd (fJ1_canEncode_9a6ad a1 s) fun r1 s2 =>
  if r1 = 0 then
    some ((-1 : Int32), s2)
  else
    lz (if a2 < (0 : Int32) then (0 : Int32) else a2) fun v5 =>
    lz (if (Int32.ofNat (xSl.getD a0 0)) < a3 then (Int32.ofNat (xSl.getD a0 0)) else a3) fun v7 =>
    if v5 < v7 then
      bd (fJ1_indexOfChar_4cfef a0 a1 v5 v7 s2) fun r10 s11 =>
      some (r10, s11)
    else
      some ((-1 : Int32), s2)
def fJ0_indexOf_7cf53 (a0 : Nat) (a1 : Int32) (a2 : Int32) (s : xM) : Option (Int32 × xM) :=
  bd (fJ0_isLatin1_aae02 a0 s) fun r1 s2 =>
  if r1 = 0 then
    bd (fJ0_length_8abf5 a0 s2) fun r5 s6 =>
    none
  else
    bd (fJ0_length_8abf5 a0 s2) fun r8 s9 =>
    bd (fJ1_indexOf_4cfef a0 a1 a2 r8 s9) fun r11 s12 =>
    some (r11, s12)
def fJ0_indexOf_0f7a4 (a0 : Nat) (a1 : Int32) (s : xM) : Option (Int32 × xM) :=
  bd (fJ0_indexOf_7cf53 a0 a1 (0 : Int32) s) fun r1 s2 =>
  some (r1, s2)
def fX4_isWord_L20 (k47 : xM → Option (Int32 × xM)) (k55 : xM → Option (Int32 × xM)) (a1 : Nat) : Nat → Int32 → xM → Option (Int32 × xM)
  | 0, _, _ => none
  | n + 1, a2, s =>
    bd (fJ0_length_8abf5 a1 s) fun r1 s2 =>
    if r1 ≤ a2 then
      k55 s2
    else
      gd (inb ((gi s2 77 3) + a2) 160) <|
      bd (fJ0_charAt_5068e a1 a2 s2) fun r6 s7 =>
      if (gi s2 78 ((gi s2 77 3) + a2).toNatClampNeg) = r6 then
        fX4_isWord_L20 k47 k55 a1 n (a2 + 1) s7
      else
        k47 s7
def fX4_isWord (a1 : Nat) (s : xM) : Option (Int32 × xM) :=
  bd (fJ0_length_8abf5 a1 s) fun r1 s2 =>
  if ((gi s 77 4) - (gi s 77 3)) = r1 then
    fX4_isWord_L20 (fun s5 =>
        some ((0 : Int32), s5)) (fun s6 =>
        some ((1 : Int32), s6)) a1 fu (0 : Int32) s2
  else
    some ((0 : Int32), s2)
def fX4_readWord_L0 (k39 : xM → Option (Int32 × xM)) : Nat → xM → Option (Int32 × xM)
  | 0, _ => none
  | n + 1, s =>
    if (gi s 77 1) ≤ (gi s 77 4) then
      k39 s
    else
      gd (inb (gi s 77 4) 160) <|
      bd (fX4_isLetter (gi s 78 (gi s 77 4).toNatClampNeg) s) fun r3 s4 =>
      if r3 = 0 then
        k39 s4
      else
        lz (si s4 77 4 ((gi s4 77 4) + (1 : Int32))) fun s7 =>
        fX4_readWord_L0 k39 n s7
def fX4_readWord_J219 (a1 : Int32) (t0 : Int32) (s : xM) : Option (Int32 × xM) :=
  lz (si s 77 2 t0) fun s1 =>
  lz (si s1 77 5 (a1 - (11 : Int32))) fun s3 =>
  some (0, s3)
def fX4_readWord_J206 (t0 : Int32) (s : xM) : Option (Int32 × xM) :=
  if t0 < (11 : Int32) then
    fX4_readWord_J219 t0 t0 s
  else
    fX4_readWord_J219 t0 (3 : Int32) s
def fX4_readWord (s : xM) : Option (Int32 × xM) :=
  fX4_readWord_L0 (fun s1 =>
      bd (fX4_isWord 1 s1) fun r2 s3 =>
      if r2 = 0 then
        bd (fX4_isWord 2 s3) fun r6 s7 =>
        if r6 = 0 then
          bd (fX4_isWord 3 s7) fun r10 s11 =>
          if r10 = 0 then
            bd (fX4_isWord 4 s11) fun r14 s15 =>
            if r14 = 0 then
              bd (fX4_isWord 5 s15) fun r18 s19 =>
              if r18 = 0 then
                bd (fX4_isWord 6 s19) fun r22 s23 =>
                if r22 = 0 then
                  bd (fX4_isWord 7 s23) fun r26 s27 =>
                  if r26 = 0 then
                    bd (fX4_isWord 8 s27) fun r30 s31 =>
                    if r30 = 0 then
                      bd (fX4_isWord 9 s31) fun r34 s35 =>
                      if r34 = 0 then
                        bd (fX4_isWord 10 s35) fun r38 s39 =>
                        if r38 = 0 then
                          bd (fX4_isWord 11 s39) fun r42 s43 =>
                          if r42 = 0 then
                            bd (fX4_isWord 12 s43) fun r46 s47 =>
                            if r46 = 0 then
                              fX4_readWord_J206 (1 : Int32) s47
                            else
                              fX4_readWord_J206 (16 : Int32) s47
                          else
                            fX4_readWord_J206 (15 : Int32) s43
                        else
                          fX4_readWord_J206 (14 : Int32) s39
                      else
                        fX4_readWord_J206 (13 : Int32) s35
                    else
                      fX4_readWord_J206 (12 : Int32) s31
                  else
                    fX4_readWord_J206 (11 : Int32) s27
                else
                  fX4_readWord_J206 (9 : Int32) s23
              else
                fX4_readWord_J206 (8 : Int32) s19
            else
              fX4_readWord_J206 (7 : Int32) s15
          else
            fX4_readWord_J206 (6 : Int32) s11
        else
          fX4_readWord_J206 (5 : Int32) s7
      else
        fX4_readWord_J206 (4 : Int32) s3) fu s
def fX4_advance_L0 (k39 : xM → Option (Int32 × xM)) : Nat → xM → Option (Int32 × xM)
  | 0, _ => none
  | n + 1, s =>
    if (gi s 77 1) ≤ (gi s 77 4) then
      k39 s
    else
      gd (inb (gi s 77 4) 160) <|
      bd (fX4_isBlank (gi s 78 (gi s 77 4).toNatClampNeg) s) fun r3 s4 =>
      if r3 = 0 then
        k39 s4
      else
        lz (si s4 77 4 ((gi s4 77 4) + (1 : Int32))) fun s7 =>
        fX4_advance_L0 k39 n s7
def fX4_advance_J142 (t0 : Int32) (s : xM) : Option (Int32 × xM) :=
  lz (si s 77 2 t0) fun s1 =>
  lz (si s1 77 4 ((gi s1 77 4) + (1 : Int32))) fun s3 =>
  some (0, s3)
def fX4_advance (s : xM) : Option (Int32 × xM) :=
  fX4_advance_L0 (fun s1 =>
      lz (si s1 77 3 (gi s1 77 4)) fun s2 =>
      if (gi s2 77 3) < (gi s2 77 1) then
        gd (inb (gi s2 77 3) 160) <|
        bd (fX4_isLetter (gi s2 78 (gi s2 77 3).toNatClampNeg) s2) fun r6 s7 =>
        if r6 = 0 then
          gd (inb (gi s7 77 3) 160) <|
          bd (fX4_isDigit (gi s7 78 (gi s7 77 3).toNatClampNeg) s7) fun r11 s12 =>
          if r11 = 0 then
            gd (inb (gi s12 77 3) 160) <|
            bd (fJ0_indexOf_0f7a4 13 (((gi s12 78 (gi s12 77 3).toNatClampNeg).toUInt32 % 65536).toInt32) s12) fun r16 s17 =>
            if r16 < 0 then
              fX4_advance_J142 (1 : Int32) s17
            else
              gd (inb (gi s17 77 3) 160) <|
              fX4_advance_J142 (gi s17 78 (gi s17 77 3).toNatClampNeg) s17
          else
            bd (fX4_readNumber s12) fun _ s22 =>
            some (0, s22)
        else
          bd (fX4_readWord s7) fun _ s25 =>
          some (0, s25)
      else
        lz (si s2 77 2 (0 : Int32)) fun s27 =>
        some (0, s27)) fu s
def fX4_rewind (s : xM) : Option (Int32 × xM) :=
  lz (si s 77 4 (0 : Int32)) fun s1 =>
  bd (fX4_advance s1) fun _ s4 =>
  some (0, s4)
def fX1_passes (a1 : Int32) (s : xM) : Option (Int32 × xM) :=
  if (gi s 77 2) = a1 then
    bd (fX4_advance s) fun _ s3 =>
    some ((1 : Int32), s3)
  else
    some ((0 : Int32), s)
def fX1_readBehind (rl : Nat → Int32 → Int32 → xM → Option (Int32 × xM)) (a1 : Nat) (a2 : Int32) (a3 : Int32) (a4 : Int32) (s : xM) : Option (Int32 × xM) :=
  if a4 < (5 : Int32) then
    bd (fX4_advance s) fun _ s3 =>
    bd (rl a1 a3 (a4 + (1 : Int32)) s3) fun r5 s6 =>
    if r5 = 0 then
      some ((0 : Int32), s6)
    else
      bd (fX5_addSign a1 a2 s6) fun _ s10 =>
      some ((1 : Int32), s10)
  else
    some ((0 : Int32), s)
def fX1_readInside (rl : Nat → Int32 → Int32 → xM → Option (Int32 × xM)) (a1 : Nat) (a2 : Int32) (s : xM) : Option (Int32 × xM) :=
  if a2 < (5 : Int32) then
    bd (fX4_advance s) fun _ s3 =>
    bd (rl a1 (0 : Int32) (a2 + (1 : Int32)) s3) fun r5 s6 =>
    if r5 = 0 then
      some ((0 : Int32), s6)
    else
      bd (fX1_passes (41 : Int32) s6) fun r9 s10 =>
      if r9 = 0 then
        some ((0 : Int32), s10)
      else
        some ((1 : Int32), s10)
  else
    some ((0 : Int32), s)
def fX1_readOne (rl : Nat → Int32 → Int32 → xM → Option (Int32 × xM)) (a1 : Nat) (a2 : Int32) (s : xM) : Option (Int32 × xM) :=
  if (gi s 77 2) = (2 : Int32) then
    bd (fX5_addNumber a1 (gi s 77 5) s) fun _ s3 =>
    bd (fX4_advance s3) fun _ s6 =>
    some ((1 : Int32), s6)
  else
  if (gi s 77 2) = (3 : Int32) then
    bd (fX5_addName a1 (gi s 77 5) s) fun _ s10 =>
    bd (fX4_advance s10) fun _ s13 =>
    some ((1 : Int32), s13)
  else
  if (gi s 77 2) = (40 : Int32) then
    bd (fX1_readInside rl a1 a2 s) fun r16 s17 =>
    gd (isZ r16) <|
    some (r16, s17)
  else
  if (gi s 77 2) = (45 : Int32) then
    bd (fX1_readBehind rl a1 (10 : Int32) (5 : Int32) a2 s) fun r21 s22 =>
    gd (isZ r21) <|
    some (r21, s22)
  else
  some ((0 : Int32), s)
def fX1_readLevel_L70 (rl : Nat → Int32 → Int32 → xM → Option (Int32 × xM)) (k119 : xM → Option (Int32 × xM)) (k133 : xM → Option (Int32 × xM)) (a1 : Nat) (a2 : Int32) (a3 : Int32) (a4 : Int32) : Nat → Int32 → xM → Option (Int32 × xM)
  | 0, _, _ => none
  | n + 1, a5, s =>
    if a4 ≤ a5 then
      k133 s
    else
      bd (fX1_joinsAt a2 (gi s 77 2) s) fun r2 s3 =>
      if r2 = 0 then
        k133 s3
      else
        lz (gi s3 77 2) fun v6 =>
        bd (fX4_advance s3) fun _ s9 =>
        bd (rl a1 (a2 + (1 : Int32)) a3 s9) fun r11 s12 =>
        if r11 = 0 then
          k119 s12
        else
          bd (fX5_addSign a1 v6 s12) fun _ s16 =>
          fX1_readLevel_L70 rl k119 k133 a1 a2 a3 a4 n (a5 + 1) s16
def fX1_readLevel_J65 (rl : Nat → Int32 → Int32 → xM → Option (Int32 × xM)) (a1 : Nat) (a2 : Int32) (a3 : Int32) (t0 : Int32) (s : xM) : Option (Int32 × xM) :=
  fX1_readLevel_L70 rl (fun s1 =>
      some ((0 : Int32), s1)) (fun s2 =>
      some ((1 : Int32), s2)) a1 a2 a3 t0 fu (0 : Int32) s
def fX1_readLevel_J39 (rl : Nat → Int32 → Int32 → xM → Option (Int32 × xM)) (a1 : Nat) (a2 : Int32) (a3 : Int32) (s : xM) : Option (Int32 × xM) :=
  bd (rl a1 (a2 + (1 : Int32)) a3 s) fun r1 s2 =>
  if r1 = 0 then
    some ((0 : Int32), s2)
  else
    if a2 = (2 : Int32) then
      fX1_readLevel_J65 rl a1 a2 a3 (1 : Int32) s2
    else
      fX1_readLevel_J65 rl a1 a2 a3 (160 : Int32) s2
def fX1_readLevel (rl : Nat → Int32 → Int32 → xM → Option (Int32 × xM)) (a1 : Nat) (a2 : Int32) (a3 : Int32) (s : xM) : Option (Int32 × xM) :=
  if a2 = (5 : Int32) then
    bd (fX1_readOne rl a1 a3 s) fun r8 s9 =>
    gd (isZ r8) <|
    some (r8, s9)
  else
    if a2 = (2 : Int32) then
      if (gi s 77 2) = (9 : Int32) then
        bd (fX1_readBehind rl a1 (9 : Int32) (2 : Int32) a3 s) fun r4 s5 =>
        gd (isZ r4) <|
        some (r4, s5)
      else
        fX1_readLevel_J39 rl a1 a2 a3 s
    else
      fX1_readLevel_J39 rl a1 a2 a3 s
def fRL : Nat → Nat → Int32 → Int32 → xM → Option (Int32 × xM)
  | 0, _, _, _, _ => none
  | n + 1, j, x, y, s => fX1_readLevel (fRL n) j x y s
def fX1_faultOf_L13 (k46 : xM → Option (Int32 × xM)) (k64 : xM → Option (Int32 × xM)) (a1 : Nat) : Nat → Int32 → xM → Option (Int32 × xM)
  | 0, _, _ => none
  | n + 1, a2, s =>
    if (6 : Int32) < a2 then
      k64 s
    else
      bd (fX1_passes a2 s) fun r2 s3 =>
      if r2 = 0 then
        k46 s3
      else
        bd (fRL 64 a1 (0 : Int32) (0 : Int32) s3) fun r6 s7 =>
        if r6 = 0 then
          k46 s7
        else
          bd (fX1_passes (59 : Int32) s7) fun r10 s11 =>
          if r10 = 0 then
            k46 s11
          else
            bd (fX5_endPart a1 s11) fun _ s15 =>
            fX1_faultOf_L13 k46 k64 a1 n (a2 + 1) s15
def fX1_faultOf (a1 : Nat) (s : xM) : Option (Int32 × xM) :=
  bd (fX5_clear a1 s) fun _ s2 =>
  bd (fX4_rewind s2) fun _ s5 =>
  fX1_faultOf_L13 (fun s7 =>
      some ((gi s7 77 3), s7)) (fun s8 =>
      if (gi s8 77 2) = 0 then
        some ((-1 : Int32), s8)
      else
        some ((gi s8 77 3), s8)) a1 fu (4 : Int32) s5
def fX9_text (s : xM) : Option (Int32 × xM) :=
  if (gi s 0 5) < (6 : Int32) then
    gd (inb (gi s 0 5) 6) <|
    bd (fX1_faultOf (gi s 0 5).toNatClampNeg s) fun r3 s4 =>
    lz (si s4 77 1 (0 : Int32)) fun s6 =>
    if r3 < 0 then
      lz (si s6 0 5 ((gi s6 0 5) + (1 : Int32))) fun s9 =>
      some (((gi s9 0 5) - (1 : Int32)), s9)
    else
      some (((-100 : Int32) - r3), s6)
  else
    some ((-4 : Int32), s)
