def fX10_patterns_L35 (k76 : Int32 → xM → Option (Int64 × xM)) (a1 : Int32) (a2 : Int32) : Nat → Int32 → Int32 → xM → Option (Int64 × xM)
  | 0, _, _, _ => none
  | n + 1, a3, a4, s =>
    if (8 : Int32) ≤ a4 then
      k76 a3 s
    else
      gd (inb a4 8) <|
      gd (inb a4 8) <|
      lz (si s 32 a4.toNatClampNeg (gi s 9 a4.toNatClampNeg)) fun s4 =>
      if a2 ≤ a4 then
        lz (a3 * (1 : Int32)) fun v7 =>
        fX10_patterns_L35 k76 a1 a2 n v7 (a4 + 1) s4
      else
        lz (a3 * (3 : Int32)) fun v9 =>
        fX10_patterns_L35 k76 a1 a2 n v9 (a4 + 1) s4
def fX10_patterns_L108 (k160 : Int64 → xM → Option (Int64 × xM)) (a1 : Int32) (a2 : Int32) (a3 : Int32) (a4 : Int64) (a6 : Int64) (a8 : Int32) : Nat → Int32 → Int64 → Int64 → Int32 → xM → Option (Int64 × xM)
  | 0, _, _, _, _, _ => none
  | n + 1, a9, a10, a12, a14, s =>
    if a14 < 0 then
      k160 a10 s
    else
      gd (inb a14 8) <|
      lz (si s 9 a14.toNatClampNeg (a9 - a9 / (3 : Int32) * (3 : Int32))) fun s3 =>
      gd (inb a14 8) <|
      lz (a10 + (a12 * ((gi s3 9 a14.toNatClampNeg).toInt64))) fun v6 =>
      lz (a12 * (10 : Int64)) fun v8 =>
      lz (a9 / (3 : Int32)) fun v10 =>
      fX10_patterns_L108 k160 a1 a2 a3 a4 a6 a8 n v10 v6 v8 (a14 + (-1)) s3
def fX10_patterns_J181 (k195 : Int64 → Int64 → xM → Option (Int64 × xM)) (b : Int64 → Int64 → Int32 → xM → Option (Int64 × xM)) (a1 : Int32) (a2 : Int32) (a3 : Int32) (a8 : Int32) (a10 : Int64) (a14 : Int64) (s : xM) : Option (Int64 × xM) :=
  b a10 a14 (a8 + 1) s
def fX10_patterns_L87 (k195 : Int64 → Int64 → xM → Option (Int64 × xM)) (a1 : Int32) (a2 : Int32) (a3 : Int32) : Nat → Int64 → Int64 → Int32 → xM → Option (Int64 × xM)
  | 0, _, _, _, _ => none
  | n + 1, a4, a6, a8, s =>
    if a3 ≤ a8 then
      k195 a4 a6 s
    else
      lz (a2 - (1 : Int32)) fun v2 =>
      fX10_patterns_L108 (fun x4 s5 =>
          bd (fX10_total s5) fun r6 s7 =>
          if (lg_cmp a4 (0 : Int64)) < 0 then
            fX10_patterns_J181 k195 (fX10_patterns_L87 k195 a1 a2 a3 n) a1 a2 a3 a8 x4 r6 s7
          else
            if 0 ≤ (lg_cmp r6 a6) then
              fX10_patterns_L87 k195 a1 a2 a3 n a4 a6 (a8 + 1) s7
            else
              fX10_patterns_J181 k195 (fX10_patterns_L87 k195 a1 a2 a3 n) a1 a2 a3 a8 x4 r6 s7) a1 a2 a3 a4 a6 a8 fu a8 (0 : Int64) (1 : Int64) v2 s
def fX10_patterns_L198 (k225 : xM → Option (Int64 × xM)) (a1 : Int32) (a4 : Int64) (a6 : Int64) : Nat → Int32 → xM → Option (Int64 × xM)
  | 0, _, _ => none
  | n + 1, a8, s =>
    if (8 : Int32) ≤ a8 then
      k225 s
    else
      gd (inb a8 8) <|
      gd (inb a8 8) <|
      lz (si s 9 a8.toNatClampNeg (gi s 32 a8.toNatClampNeg)) fun s4 =>
      fX10_patterns_L198 k225 a1 a4 a6 n (a8 + 1) s4
def fX10_patterns_J29 (a1 : Int32) (t0 : Int32) (s : xM) : Option (Int64 × xM) :=
  fX10_patterns_L35 (fun x1 s2 =>
      fX10_patterns_L87 (fun x3 x4 s5 =>
          fX10_patterns_L198 (fun s6 =>
              if a1 = 0 then
                some (x3, s6)
              else
                some (x4, s6)) a1 x3 x4 fu (0 : Int32) s5) a1 t0 x1 fu (-1 : Int64) (0 : Int64) (0 : Int32) s2) a1 t0 fu (1 : Int32) (0 : Int32) s
def fX10_patterns (a1 : Int32) (s : xM) : Option (Int64 × xM) :=
  bd (fX10_in a1 (0 : Int32) (1 : Int32) s) fun r1 s2 =>
  if r1 = 0 then
    some ((-4611686018427387904 : Int64), s2)
  else
    if (5 : Int32) ≤ (gi s2 0 4) then
      fX10_patterns_J29 a1 (5 : Int32) s2
    else
      fX10_patterns_J29 a1 (gi s2 0 4) s2
def fX10_bench_L29 (k58 : xM → Option (Int64 × xM)) (a1 : Int32) (a2 : Int32) (a3 : Int64) : Nat → Int32 → xM → Option (Int64 × xM)
  | 0, _, _ => none
  | n + 1, a5, s =>
    if (gi s 0 12) ≤ a5 then
      k58 s
    else
      gd (inb a5 8) <|
      gd (inb a5 8) <|
      lz (si s 31 a5.toNatClampNeg (gi s 25 a5.toNatClampNeg)) fun s4 =>
      fX10_bench_L29 k58 a1 a2 a3 n (a5 + 1) s4
def fX10_bench_J169 (k194 : Int32 → Int32 → Int32 → xM → Option (Int64 × xM)) (b : Int32 → Int32 → Int32 → Int32 → xM → Option (Int64 × xM)) (a2 : Int32) (a3 : Int64) (a5 : Int64) (a7 : Int32) (a9 : Int32) (a10 : Int32) (a11 : Int32) (t0 : Int32) (t1 : Int32) (s : xM) : Option (Int64 × xM) :=
  lz (t1 + t0) fun v1 =>
  if a11 ≤ a9 then
    b a7 v1 a9 (a10 + 1) s
  else
    b a7 v1 a11 (a10 + 1) s
def fX10_bench_J148 (k194 : Int32 → Int32 → Int32 → xM → Option (Int64 × xM)) (b : Int32 → Int32 → Int32 → Int32 → xM → Option (Int64 × xM)) (a2 : Int32) (a3 : Int64) (a5 : Int64) (a8 : Int32) (a9 : Int32) (a10 : Int32) (a11 : Int32) (t0 : Int32) (t1 : Int32) (s : xM) : Option (Int64 × xM) :=
  lz (t1 + t0) fun v1 =>
  if 0 ≤ a11 then
    fX10_bench_J169 k194 b a2 a3 a5 v1 a9 a10 a11 (0 : Int32) a8 s
  else
    gd (inb a10 8) <|
    fX10_bench_J169 k194 b a2 a3 a5 v1 a9 a10 a11 (gi s 12 a10.toNatClampNeg) a8 s
def fX10_bench_L104 (k194 : Int32 → Int32 → Int32 → xM → Option (Int64 × xM)) (a2 : Int32) (a3 : Int64) (a5 : Int64) : Nat → Int32 → Int32 → Int32 → Int32 → xM → Option (Int64 × xM)
  | 0, _, _, _, _, _ => none
  | n + 1, a7, a8, a9, a10, s =>
    if (gi s 0 12) ≤ a10 then
      k194 a7 a8 a9 s
    else
      gd (inb a10 8) <|
      gd (inb a10 8) <|
      lz ((gi s 25 a10.toNatClampNeg) - (gi s 31 a10.toNatClampNeg)) fun v4 =>
      if v4 ≤ 0 then
        fX10_bench_J148 k194 (fX10_bench_L104 k194 a2 a3 a5 n) a2 a3 a5 a8 a9 a10 v4 (0 : Int32) a7 s
      else
        gd (inb a10 8) <|
        fX10_bench_J148 k194 (fX10_bench_L104 k194 a2 a3 a5 n) a2 a3 a5 a8 a9 a10 v4 (gi s 12 a10.toNatClampNeg) a7 s
def fX10_bench (a1 : Int32) (a2 : Int32) (s : xM) : Option (Int64 × xM) :=
  bd (fX10_isStop a1 s) fun r1 s2 =>
  if r1 = 0 then
    some ((-4611686018427387904 : Int64), s2)
  else
    bd (fX10_in a2 (0 : Int32) (3 : Int32) s2) fun r5 s6 =>
    if r5 = 0 then
      some ((-4611686018427387904 : Int64), s6)
    else
      bd (fX10_total s6) fun r9 s10 =>
      fX10_bench_L29 (fun s12 =>
          gd (inb a1 8) <|
          gd (inb a1 8) <|
          lz (si s12 7 a1.toNatClampNeg ((1 : Int32) - (gi s12 7 a1.toNatClampNeg))) fun s15 =>
          bd (fX10_total s15) fun r17 s18 =>
          gd (inb a1 8) <|
          gd (inb a1 8) <|
          lz (si s18 7 a1.toNatClampNeg ((1 : Int32) - (gi s18 7 a1.toNatClampNeg))) fun s22 =>
          fX10_bench_L104 (fun x24 x25 x26 s27 =>
              if a2 = 0 then
                some ((r17 - r9), s27)
              else
                if a2 = (1 : Int32) then
                  some ((x24.toInt64), s27)
                else
                  if a2 = (2 : Int32) then
                    some ((x25.toInt64), s27)
                  else
                    some ((x26.toInt64), s27)) a2 r9 r17 fu (0 : Int32) (0 : Int32) (0 : Int32) (0 : Int32) s22) a1 a2 r9 fu (0 : Int32) s10
def fX10_givesUp_J55 (k68 : Int32 → xM → Option (Int32 × xM)) (b : Int32 → Int32 → xM → Option (Int32 × xM)) (a2 : Int32) (a3 : Int64) (s : xM) : Option (Int32 × xM) :=
  lz (sl s 0 62 a3) fun s1 =>
  b a2 (a2 + 1) s1
def fX10_givesUp_L4 (k68 : Int32 → xM → Option (Int32 × xM)) : Nat → Int32 → Int32 → xM → Option (Int32 × xM)
  | 0, _, _, _ => none
  | n + 1, a1, a2, s =>
    if (gi s 0 4) ≤ a2 then
      k68 a1 s
    else
      gd (inb a2 8) <|
      if (gi s 7 a2.toNatClampNeg) = (1 : Int32) then
        gd (inb a2 8) <|
        lz (si s 7 a2.toNatClampNeg (0 : Int32)) fun s5 =>
        bd (fX10_total s5) fun r7 s8 =>
        gd (inb a2 8) <|
        lz (si s8 7 a2.toNatClampNeg (1 : Int32)) fun s11 =>
        if a1 = (-1 : Int32) then
          fX10_givesUp_J55 k68 (fX10_givesUp_L4 k68 n) a2 r7 s11
        else
          if 0 ≤ (lg_cmp r7 (gl s11 0 62)) then
            fX10_givesUp_L4 k68 n a1 (a2 + 1) s11
          else
            fX10_givesUp_J55 k68 (fX10_givesUp_L4 k68 n) a2 r7 s11
      else
        fX10_givesUp_L4 k68 n a1 (a2 + 1) s
def fX10_givesUp (s : xM) : Option (Int32 × xM) :=
  fX10_givesUp_L4 (fun x1 s2 =>
      some (x1, s2)) fu (-1 : Int32) (0 : Int32) s
def fX10_give (s : xM) : Option (Int32 × xM) :=
  bd (fX10_givesUp s) fun r1 s2 =>
  some (r1, s2)
def fX10_order_L21 (k62 : Int32 → xM → Option (Int32 × xM)) (a1 : Int32) : Nat → Int32 → Int32 → xM → Option (Int32 × xM)
  | 0, _, _, _ => none
  | n + 1, a2, a3, s =>
    if a1 ≤ a3 then
      k62 a2 s
    else
      bd (fX10_givesUp s) fun r2 s3 =>
      if r2 = (-1 : Int32) then
        fX10_order_L21 k62 a1 n a2 (a3 + 1) s3
      else
        gd (inb r2 8) <|
        lz (si s3 7 r2.toNatClampNeg (0 : Int32)) fun s7 =>
        lz ((((10 : Int32) * a2) + r2) + (1 : Int32)) fun v9 =>
        fX10_order_L21 k62 a1 n v9 (a3 + 1) s7
def fX10_order (a1 : Int32) (s : xM) : Option (Int32 × xM) :=
  bd (fX10_in a1 (0 : Int32) (8 : Int32) s) fun r1 s2 =>
  if r1 = 0 then
    some ((-2 : Int32), s2)
  else
    bd (fX10_keeps s2) fun _ s6 =>
    fX10_order_L21 (fun x8 s9 =>
        bd (fX10_lays s9) fun _ s11 =>
        some (x8, s11)) a1 fu (0 : Int32) (0 : Int32) s6
def fX10_thins_L7 (k42 : Int32 → xM → Option (Int32 × xM)) : Nat → Int32 → Int32 → xM → Option (Int32 × xM)
  | 0, _, _, _ => none
  | n + 1, a1, a2, s =>
    if a2 = (-1 : Int32) then
      k42 a1 s
    else
      bd (fX10_total s) fun r2 s3 =>
      if 0 < (lg_cmp (gl s 0 62) r2) then
        k42 a1 s3
      else
        gd (inb a2 8) <|
        lz (si s3 7 a2.toNatClampNeg (0 : Int32)) fun s7 =>
        bd (fX10_givesUp s7) fun r9 s10 =>
        fX10_thins_L7 k42 n (a1 + 1) r9 s10
def fX10_thins (s : xM) : Option (Int32 × xM) :=
  bd (fX10_givesUp s) fun r1 s2 =>
  fX10_thins_L7 (fun x4 s5 =>
      some (x4, s5)) fu (0 : Int32) r1 s2
def fX10_across (a1 : Int32) (s : xM) : Option (Int64 × xM) :=
  bd (fX10_isStop a1 s) fun r1 s2 =>
  if r1 = 0 then
    some ((-4611686018427387904 : Int64), s2)
  else
    gd (inb a1 8) <|
    if (gi s2 3 a1.toNatClampNeg) = (3 : Int32) then
      bd (fX10_total s2) fun r7 s8 =>
      gd (inb a1 8) <|
      lz (si s8 3 a1.toNatClampNeg (0 : Int32)) fun s11 =>
      bd (fX10_total s11) fun r13 s14 =>
      lz (r7 - r13) fun v16 =>
      gd (inb a1 8) <|
      lz (si s14 3 a1.toNatClampNeg (3 : Int32)) fun s19 =>
      some (v16, s19)
    else
      some ((-4611686018427387904 : Int64), s2)
def fX10_homesNow_L4 (k73 : Int32 → xM → Option (Int32 × xM)) : Nat → Int32 → Int32 → xM → Option (Int32 × xM)
  | 0, _, _, _ => none
  | n + 1, a1, a2, s =>
    if (gi s 0 12) ≤ a2 then
      k73 a1 s
    else
      bd (fX10_finds a2 s) fun _ s3 =>
      bd (fX10_names (gi s3 0 37) (gi s3 0 40) (gi s3 0 41) (gi s3 0 42) s3) fun _ s6 =>
      gd (inb a2 8) <|
      gd (inb a2 8) <|
      bd (fX10_says (0 : Int32) (gi s6 12 a2.toNatClampNeg) (gi s6 13 a2.toNatClampNeg) s6) fun r10 s11 =>
      if r10 = 0 then
        lz (a1 ||| (0 : Int32)) fun v16 =>
        fX10_homesNow_L4 k73 n v16 (a2 + 1) s11
      else
        lz (a1 ||| ((1 : Int32) <<< (a2 &&& 31))) fun v14 =>
        fX10_homesNow_L4 k73 n v14 (a2 + 1) s11
def fX10_homesNow (s : xM) : Option (Int32 × xM) :=
  fX10_homesNow_L4 (fun x1 s2 =>
      some (x1, s2)) fu (0 : Int32) (0 : Int32) s
def fX10_homes (s : xM) : Option (Int32 × xM) :=
  bd (fX10_homesNow s) fun r1 s2 =>
  some (r1, s2)
def fX10_roundFrom_L8 (k61 : Int64 → Int64 → xM → Option (Int32 × xM)) (a1 : Int32) : Nat → Int64 → Int64 → Int32 → xM → Option (Int32 × xM)
  | 0, _, _, _, _ => none
  | n + 1, a2, a4, a6, s =>
    if (gi s 0 12) ≤ a6 then
      k61 a2 a4 s
    else
      gd (inb a6 8) <|
      lz (a2 + ((gi s 12 a6.toNatClampNeg).toInt64)) fun v3 =>
      if ((a1 >>> (a6 &&& 31)) &&& (1 : Int32)) = (1 : Int32) then
        lz (a4 + (0 : Int64)) fun v9 =>
        fX10_roundFrom_L8 k61 a1 n v3 v9 (a6 + 1) s
      else
        gd (inb a6 8) <|
        lz (a4 + ((gi s 12 a6.toNatClampNeg).toInt64)) fun v7 =>
        fX10_roundFrom_L8 k61 a1 n v3 v7 (a6 + 1) s
def fX10_roundFrom_J120 (a8 : Int32) (t0 : Int32) (s : xM) : Option (Int32 × xM) :=
  lz (si s 0 2 t0) fun s1 =>
  bd (fX10_homesNow s1) fun r3 s4 =>
  lz (si s4 0 2 a8) fun s6 =>
  some (r3, s6)
def fX10_roundFrom_J81 (t0 : Int64) (t1 : Int64) (s : xM) : Option (Int32 × xM) :=
  gd (decide (¬ t0 = 0)) <|
  lz (t1 / t0) fun v2 =>
  lz (gi s 0 2) fun v4 =>
  if 0 ≤ (lg_cmp v2 (1 : Int64)) then
    if (lg_cmp v2 (3600 : Int64)) ≤ 0 then
      fX10_roundFrom_J120 v4 (v2.toInt32) s
    else
      fX10_roundFrom_J120 v4 (3600 : Int32) s
  else
    fX10_roundFrom_J120 v4 (1 : Int32) s
def fX10_roundFrom (a1 : Int32) (s : xM) : Option (Int32 × xM) :=
  fX10_roundFrom_L8 (fun x1 x2 s3 =>
      if 0 ≤ (lg_cmp x2 (1 : Int64)) then
        fX10_roundFrom_J81 x2 (((gi s3 0 2).toInt64) * x1) s3
      else
        fX10_roundFrom_J81 (1 : Int64) (((gi s3 0 2).toInt64) * x1) s3) a1 fu (0 : Int64) (0 : Int64) (0 : Int32) s
def fX10_round_L17 (k34 : Int32 → xM → Option (Int32 × xM)) (a1 : Int32) : Nat → Int32 → Int32 → xM → Option (Int32 × xM)
  | 0, _, _, _ => none
  | n + 1, a2, a3, s =>
    if a1 ≤ a3 then
      k34 a2 s
    else
      bd (fX10_roundFrom a2 s) fun r2 s3 =>
      fX10_round_L17 k34 a1 n r2 (a3 + 1) s3
def fX10_round (a1 : Int32) (s : xM) : Option (Int32 × xM) :=
  bd (fX10_in a1 (0 : Int32) (20 : Int32) s) fun r1 s2 =>
  if r1 = 0 then
    some ((-2 : Int32), s2)
  else
    fX10_round_L17 (fun x5 s6 =>
        some (x5, s6)) a1 fu (0 : Int32) (0 : Int32) s2
def fX10_rest_L47 (k67 : Int32 → xM → Option (Int32 × xM)) (k99 : xM → Option (Int32 × xM)) (a1 : Int32) (a2 : Int32) : Nat → Int32 → xM → Option (Int32 × xM)
  | 0, _, _ => none
  | n + 1, a3, s =>
    if a2 ≤ a3 then
      k99 s
    else
      gd (inb a3 21) <|
      gd (inb a2 21) <|
      if (gi s 33 a3.toNatClampNeg) = (gi s 33 a2.toNatClampNeg) then
        k67 a3 s
      else
        fX10_rest_L47 k67 k99 a1 a2 n (a3 + 1) s
def fX10_rest_L21 (k67 : Int32 → Int32 → xM → Option (Int32 × xM)) (k105 : xM → Option (Int32 × xM)) (a1 : Int32) : Nat → Int32 → xM → Option (Int32 × xM)
  | 0, _, _ => none
  | n + 1, a2, s =>
    if (20 : Int32) < a2 then
      k105 s
    else
      gd (inb (a2 - (1 : Int32)) 21) <|
      bd (fX10_roundFrom (gi s 33 (a2 - (1 : Int32)).toNatClampNeg) s) fun r3 s4 =>
      gd (inb a2 21) <|
      lz (si s4 33 a2.toNatClampNeg r3) fun s7 =>
      fX10_rest_L47 (fun x9 s10 =>
          k67 a2 x9 s10) (fun s11 =>
          fX10_rest_L21 k67 k105 a1 n (a2 + 1) s11) a1 a2 fu (0 : Int32) s7
def fX10_rest (a1 : Int32) (s : xM) : Option (Int32 × xM) :=
  bd (fX10_in a1 (0 : Int32) (2 : Int32) s) fun r1 s2 =>
  if r1 = 0 then
    some ((-2 : Int32), s2)
  else
    lz (si s2 33 0 (0 : Int32)) fun s5 =>
    fX10_rest_L21 (fun x7 x8 s9 =>
        if a1 = 0 then
          gd (inb x7 21) <|
          some ((gi s9 33 x7.toNatClampNeg), s9)
        else
          if a1 = (1 : Int32) then
            some (x8, s9)
          else
            some ((x7 - x8), s9)) (fun s13 =>
        some ((-3 : Int32), s13)) a1 fu (1 : Int32) s5
def fX10_asksOf (a1 : Int32) (s : xM) : Option (Int32 × xM) :=
  bd (fX10_isAsked a1 s) fun r1 s2 =>
  if r1 = 0 then
    gd (inb a1 8) <|
    some ((gi s2 8 a1.toNatClampNeg), s2)
  else
    bd (fX10_useOf a1 s2) fun r5 s6 =>
    bd (fX10_names (0 : Int32) (0 : Int32) (0 : Int32) (0 : Int32) s6) fun _ s9 =>
    bd (fX10_says (2 : Int32) r5 a1 s9) fun r11 s12 =>
    bd (fX10_within r11 (10 : Int32) s12) fun r14 s15 =>
    some (r14, s15)
def fX10_asks (a1 : Int32) (s : xM) : Option (Int32 × xM) :=
  bd (fX10_isStop a1 s) fun r1 s2 =>
  if r1 = 0 then
    some ((-5 : Int32), s2)
  else
    bd (fX10_asksOf a1 s2) fun r5 s6 =>
    some (r5, s6)
def fX10_asked_L2 (k27 : xM → Option (Int32 × xM)) : Nat → Int32 → xM → Option (Int32 × xM)
  | 0, _, _ => none
  | n + 1, a1, s =>
    if (gi s 0 4) ≤ a1 then
      k27 s
    else
      bd (fX10_asksOf a1 s) fun r2 s3 =>
      gd (inb a1 8) <|
      lz (si s3 34 a1.toNatClampNeg r2) fun s6 =>
      fX10_asked_L2 k27 n (a1 + 1) s6
def fX10_asked_J60 (k80 : Int32 → xM → Option (Int32 × xM)) (b : Int32 → Int32 → xM → Option (Int32 × xM)) (a2 : Int32) (t0 : Int32) (t1 : Int32) (s : xM) : Option (Int32 × xM) :=
  lz (t1 + t0) fun v1 =>
  gd (inb a2 8) <|
  gd (inb a2 8) <|
  lz (si s 8 a2.toNatClampNeg (gi s 34 a2.toNatClampNeg)) fun s5 =>
  b v1 (a2 + 1) s5
def fX10_asked_L31 (k80 : Int32 → xM → Option (Int32 × xM)) : Nat → Int32 → Int32 → xM → Option (Int32 × xM)
  | 0, _, _, _ => none
  | n + 1, a1, a2, s =>
    if (gi s 0 4) ≤ a2 then
      k80 a1 s
    else
      gd (inb a2 8) <|
      gd (inb a2 8) <|
      if (gi s 34 a2.toNatClampNeg) = (gi s 8 a2.toNatClampNeg) then
        fX10_asked_J60 k80 (fX10_asked_L31 k80 n) a2 (0 : Int32) a1 s
      else
        fX10_asked_J60 k80 (fX10_asked_L31 k80 n) a2 (1 : Int32) a1 s
def fX10_asked (s : xM) : Option (Int32 × xM) :=
  fX10_asked_L2 (fun s1 =>
      fX10_asked_L31 (fun x2 s3 =>
          some (x2, s3)) fu (0 : Int32) (0 : Int32) s1) fu (0 : Int32) s
def fX10_goesBy_J74 (k157 : Int64 → xM → Option (Int64 × xM)) (b : Int64 → Int32 → xM → Option (Int64 × xM)) (a1 : Int32) (a6 : Int32) (a7 : Int32) (t0 : Int64) (s : xM) : Option (Int64 × xM) :=
  gd (inb a7 8) <|
  lz (t0 - (gl s 35 a7.toNatClampNeg)) fun v2 =>
  bd (fX10_names (0 : Int32) (0 : Int32) (v2.toInt32) (0 : Int32) s) fun _ s5 =>
  bd (fX10_seconds a7 s5) fun r7 s8 =>
  gd (inb a7 8) <|
  gd (decide (¬ ((gi s8 0 2).toInt64) = 0)) <|
  bd (fX10_says (1 : Int32) (((((gi s8 36 a7.toNatClampNeg).toInt64) * v2) / ((gi s8 0 2).toInt64)).toInt32) a7 s8) fun r12 s13 =>
  bd (fX10_within r12 (999 : Int32) s13) fun r15 s16 =>
  lz (t0 + ((r7 + r15).toInt64)) fun v18 =>
  gd (inb a7 8) <|
  lz (sl s16 35 a7.toNatClampNeg v18) fun s21 =>
  b v18 (a7 + 1) s21
def fX10_goesBy_L16 (k157 : Int64 → xM → Option (Int64 × xM)) (a1 : Int32) (a6 : Int32) : Nat → Int64 → Int32 → xM → Option (Int64 × xM)
  | 0, _, _, _ => none
  | n + 1, a4, a7, s =>
    if (gi s 0 4) ≤ a7 then
      k157 a4 s
    else
      gd (inb a7 8) <|
      if (gi s 4 a7.toNatClampNeg) = a6 then
        bd (fX10_doesStop a7 (a1 - a1 / (2 : Int32) * (2 : Int32)) s) fun r4 s5 =>
        if r4 = 0 then
          fX10_goesBy_L16 k157 a1 a6 n a4 (a7 + 1) s5
        else
          gd (inb a7 8) <|
          if 0 ≤ (lg_cmp a4 (gl s5 35 a7.toNatClampNeg)) then
            fX10_goesBy_J74 k157 (fX10_goesBy_L16 k157 a1 a6 n) a1 a6 a7 a4 s5
          else
            gd (inb a7 8) <|
            fX10_goesBy_J74 k157 (fX10_goesBy_L16 k157 a1 a6 n) a1 a6 a7 (gl s5 35 a7.toNatClampNeg) s5
      else
        fX10_goesBy_L16 k157 a1 a6 n a4 (a7 + 1) s
def fX10_goesBy_L6 (k184 : Int64 → xM → Option (Int64 × xM)) (a1 : Int32) : Nat → Int64 → Int32 → xM → Option (Int64 × xM)
  | 0, _, _, _ => none
  | n + 1, a4, a6, s =>
    if (40 : Int32) < a6 then
      k184 a4 s
    else
      fX10_goesBy_L16 (fun x2 s3 =>
          if (40 : Int32) ≤ a6 then
            lz (x2 + (0 : Int64)) fun v5 =>
            fX10_goesBy_L6 k184 a1 n v5 (a6 + 1) s3
          else
            lz (x2 + ((gi s3 0 3).toInt64)) fun v7 =>
            fX10_goesBy_L6 k184 a1 n v7 (a6 + 1) s3) a1 a6 fu a4 (0 : Int32) s
def fX10_goesBy (a1 : Int32) (a2 : Int64) (s : xM) : Option (Int64 × xM) :=
  fX10_goesBy_L6 (fun x1 s2 =>
      some (x1, s2)) a1 fu a2 (0 : Int32) s
def fX10_goesAll_L2 (k39 : xM → Option (Int32 × xM)) (a1 : Int32) (a2 : Int32) : Nat → Int32 → xM → Option (Int32 × xM)
  | 0, _, _ => none
  | n + 1, a3, s =>
    if (gi s 0 4) ≤ a3 then
      k39 s
    else
      gd (inb a3 8) <|
      lz (sl s 35 a3.toNatClampNeg ((-(gi s 0 2)).toInt64)) fun s3 =>
      bd (fX10_useOf a3 s3) fun r5 s6 =>
      gd (inb a3 8) <|
      lz (si s6 36 a3.toNatClampNeg r5) fun s9 =>
      fX10_goesAll_L2 k39 a1 a2 n (a3 + 1) s9
def fX10_goesAll_J70 (k82 : xM → Option (Int32 × xM)) (b : Int32 → xM → Option (Int32 × xM)) (a1 : Int32) (a2 : Int32) (a3 : Int32) (t0 : Int32) (t1 : Int64) (t2 : Int32) (t4 : Int32) (s : xM) : Option (Int32 × xM) :=
  bd (fX10_goesBy t2 (t1 + (t0.toInt64)) s) fun r1 s2 =>
  gd (inb t4 12) <|
  lz (sl s2 37 t4.toNatClampNeg r1) fun s5 =>
  b (a3 + 1) s5
def fX10_goesAll_L41 (k82 : xM → Option (Int32 × xM)) (a1 : Int32) (a2 : Int32) : Nat → Int32 → xM → Option (Int32 × xM)
  | 0, _, _ => none
  | n + 1, a3, s =>
    if a1 ≤ a3 then
      k82 s
    else
      if a3 = 0 then
        fX10_goesAll_J70 k82 (fX10_goesAll_L41 k82 a1 a2 n) a1 a2 a3 a2 ((a3.toInt64) * ((gi s 0 2).toInt64)) a3 a3 s
      else
        fX10_goesAll_J70 k82 (fX10_goesAll_L41 k82 a1 a2 n) a1 a2 a3 (0 : Int32) ((a3.toInt64) * ((gi s 0 2).toInt64)) a3 a3 s
def fX10_goesAll (a1 : Int32) (a2 : Int32) (s : xM) : Option (Int32 × xM) :=
  fX10_goesAll_L2 (fun s1 =>
      fX10_goesAll_L41 (fun s2 =>
          some (0, s2)) a1 a2 fu (0 : Int32) s1) a1 a2 fu (0 : Int32) s
