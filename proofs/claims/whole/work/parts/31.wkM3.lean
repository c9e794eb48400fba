set_option maxRecDepth 20000 in
set_option maxHeartbeats 4000000 in
theorem pX10_patterns_L35 {Y : xY} {Z : xZ} {B : xB} {z : Int64 × xM} (C : xC (GM Y) Z B "BetweenStopsModel" cX10_patterns 16 7) (R : xRl (GM Y) B z) {k76 : Int32 → xM → Option (Int64 × xM)} {a1 : Int32} {a2 : Int32}
    (hk76 : ∀ (a3 : Int32) (s : xM), k76 a3 s = some z → xWS (GM Y) B 16 s [(0, .ref (Y.1 0)), (1, .int a1), (2, .int a2), (3, .int a3)] 76 []) : ∀ (n : Nat) (a3 : Int32) (a4 : Int32) (s : xM), fX10_patterns_L35 k76 a1 a2 n a3 a4 s = some z → xWS (GM Y) B 16 s [(0, .ref (Y.1 0)), (1, .int a1), (2, .int a2), (3, .int a3), (4, .int a4)] 35 [] := by
  intro n
  induction n with
  | zero =>
    intro a3 a4 s h
    rw [fX10_patterns_L35] at h
    cases h
  | succ n ih =>
    intro a3 a4 s h
    rw [fX10_patterns_L35] at h
    refine ws_iload (pc := 35) C dX10_patterns_35 4 rfl ?_
    refine ws_bipush (pc := 37) C dX10_patterns_37 cb_8 ?_
    refine ws_icmp_ge (pc := 39) (tgt := 76) C dX10_patterns_39 (by decide) (fun c1 => ?_) (fun c1 => ?_)
    · have h := ite_t h c1
      refine ws_less [0, 1, 2, 3] rfl ?_
      exact hk76 _ _ h
    · have h := ite_f h c1
      refine ws_aload_n (pc := 42) C dX10_patterns_42 rfl 0 rfl ?_
      refine ws_getr (pc := 43) C dX10_patterns_43 fd_X10_138 sf_M_61 ?_
      refine ws_iload (pc := 46) C dX10_patterns_46 4 rfl ?_
      refine ws_aload_n (pc := 48) C dX10_patterns_48 rfl 0 rfl ?_
      refine ws_getr (pc := 49) C dX10_patterns_49 fd_X10_41 sf_M_11 ?_
      refine ws_iload (pc := 52) C dX10_patterns_52 4 rfl ?_
      obtain ⟨g2, h⟩ := gd_ok h
      refine ws_ialdK (pc := 54) C dX10_patterns_54 sr_m_pattern g2 rfl ?_
      obtain ⟨g3, h⟩ := gd_ok h
      obtain ⟨s4, e5, h⟩ := lz_ok h
      refine ws_iastK (pc := 55) C dX10_patterns_55 sr_m_keptPattern g3 rfl e5 ?_
      refine ws_iload_n (pc := 56) C dX10_patterns_56 rfl 3 rfl ?_
      refine ws_iload (pc := 57) C dX10_patterns_57 4 rfl ?_
      refine ws_iload_n (pc := 59) C dX10_patterns_59 rfl 2 rfl ?_
      refine ws_icmp_ge (pc := 60) (tgt := 67) C dX10_patterns_60 (by decide) (fun c6 => ?_) (fun c6 => ?_)
      · have h := ite_t h c6
        refine ws_iconst (pc := 67) C dX10_patterns_67 ci_1 ?_
        refine ws_imul (pc := 68) C dX10_patterns_68 ?_
        obtain ⟨v7, e8, h⟩ := lz_ok h
        refine ws_topi C e8 ?_
        refine ws_istore_n (pc := 69) C dX10_patterns_69 rfl (by decide) rfl ?_
        refine ws_iinc (j := 4) (pc := 70) C dX10_patterns_70 rfl (cn_1 _) (by decide) rfl ?_
        refine ws_goto (pc := 73) (tgt := 35) C dX10_patterns_73 (by decide) ?_
        refine ws_less [2, 3, 4, 1, 0] rfl ?_
        exact ih _ _ _ h
      · have h := ite_f h c6
        refine ws_iconst (pc := 63) C dX10_patterns_63 ci_3 ?_
        refine ws_goto (pc := 64) (tgt := 68) C dX10_patterns_64 (by decide) ?_
        refine ws_imul (pc := 68) C dX10_patterns_68 ?_
        obtain ⟨v9, e10, h⟩ := lz_ok h
        refine ws_topi C e10 ?_
        refine ws_istore_n (pc := 69) C dX10_patterns_69 rfl (by decide) rfl ?_
        refine ws_iinc (j := 4) (pc := 70) C dX10_patterns_70 rfl (cn_1 _) (by decide) rfl ?_
        refine ws_goto (pc := 73) (tgt := 35) C dX10_patterns_73 (by decide) ?_
        refine ws_less [2, 3, 4, 1, 0] rfl ?_
        exact ih _ _ _ h
set_option maxRecDepth 20000 in
set_option maxHeartbeats 4000000 in
theorem pX10_patterns_L108 {Y : xY} {Z : xZ} {B : xB} {z : Int64 × xM} (C : xC (GM Y) Z B "BetweenStopsModel" cX10_patterns 16 7) (R : xRl (GM Y) B z) {k160 : Int64 → xM → Option (Int64 × xM)} {a1 : Int32} {a2 : Int32} {a3 : Int32} {a4 : Int64} {a6 : Int64} {a8 : Int32}
    (hk160 : ∀ (a10 : Int64) (s : xM), k160 a10 s = some z → xWS (GM Y) B 16 s [(0, .ref (Y.1 0)), (1, .int a1), (2, .int a2), (3, .int a3), (4, .long a4), (6, .long a6), (8, .int a8), (10, .long a10)] 160 []) : ∀ (n : Nat) (a9 : Int32) (a10 : Int64) (a12 : Int64) (a14 : Int32) (s : xM), fX10_patterns_L108 k160 a1 a2 a3 a4 a6 a8 n a9 a10 a12 a14 s = some z → xWS (GM Y) B 16 s [(0, .ref (Y.1 0)), (1, .int a1), (2, .int a2), (3, .int a3), (4, .long a4), (6, .long a6), (8, .int a8), (9, .int a9), (10, .long a10), (12, .long a12), (14, .int a14)] 108 [] := by
  intro n
  induction n with
  | zero =>
    intro a9 a10 a12 a14 s h
    rw [fX10_patterns_L108] at h
    cases h
  | succ n ih =>
    intro a9 a10 a12 a14 s h
    rw [fX10_patterns_L108] at h
    refine ws_iload (pc := 108) C dX10_patterns_108 10 rfl ?_
    refine ws_if_lt (pc := 110) (tgt := 160) C dX10_patterns_110 (by decide) (fun c1 => ?_) (fun c1 => ?_)
    · have h := ite_t h c1
      refine ws_less [0, 1, 2, 3, 4, 5, 6, 8] rfl ?_
      exact hk160 _ _ h
    · have h := ite_f h c1
      refine ws_aload_n (pc := 113) C dX10_patterns_113 rfl 0 rfl ?_
      refine ws_getr (pc := 114) C dX10_patterns_114 fd_X10_41 sf_M_11 ?_
      refine ws_iload (pc := 117) C dX10_patterns_117 10 rfl ?_
      refine ws_iload (pc := 119) C dX10_patterns_119 7 rfl ?_
      refine ws_iconst (pc := 121) C dX10_patterns_121 ci_3 ?_
      refine ws_irem (pc := 122) C dX10_patterns_122 (by decide) ?_
      obtain ⟨g2, h⟩ := gd_ok h
      obtain ⟨s3, e4, h⟩ := lz_ok h
      refine ws_iastK (pc := 123) C dX10_patterns_123 sr_m_pattern g2 rfl e4 ?_
      refine ws_lload (pc := 124) C dX10_patterns_124 8 rfl ?_
      refine ws_lload (pc := 126) C dX10_patterns_126 9 rfl ?_
      refine ws_aload_n (pc := 128) C dX10_patterns_128 rfl 0 rfl ?_
      refine ws_getr (pc := 129) C dX10_patterns_129 fd_X10_41 sf_M_11 ?_
      refine ws_iload (pc := 132) C dX10_patterns_132 10 rfl ?_
      obtain ⟨g5, h⟩ := gd_ok h
      refine ws_ialdK (pc := 134) C dX10_patterns_134 sr_m_pattern g5 rfl ?_
      refine ws_i2l (pc := 135) C dX10_patterns_135 ?_
      refine ws_lmul (pc := 136) C dX10_patterns_136 ?_
      refine ws_ladd (pc := 137) C dX10_patterns_137 ?_
      obtain ⟨v6, e7, h⟩ := lz_ok h
      refine ws_topl C e7 ?_
      refine ws_lstore (pc := 138) C dX10_patterns_138 (by decide) rfl ?_
      refine ws_lload (pc := 140) C dX10_patterns_140 9 rfl ?_
      refine ws_ldc2 (pc := 142) C dX10_patterns_142 kK_X10_350 ?_
      refine ws_lmul (pc := 145) C dX10_patterns_145 ?_
      obtain ⟨v8, e9, h⟩ := lz_ok h
      refine ws_topl C e9 ?_
      refine ws_lstore (pc := 146) C dX10_patterns_146 (by decide) rfl ?_
      refine ws_iload (pc := 148) C dX10_patterns_148 9 rfl ?_
      refine ws_iconst (pc := 150) C dX10_patterns_150 ci_3 ?_
      refine ws_idiv (pc := 151) C dX10_patterns_151 (by decide) ?_
      obtain ⟨v10, e11, h⟩ := lz_ok h
      refine ws_topi C e11 ?_
      refine ws_istore (pc := 152) C dX10_patterns_152 (by decide) rfl ?_
      refine ws_iinc (j := 10) (pc := 154) C dX10_patterns_154 rfl (cn_m1 _) (by decide) rfl ?_
      refine ws_goto (pc := 157) (tgt := 108) C dX10_patterns_157 (by decide) ?_
      refine ws_less [4, 5, 6, 7, 8, 9, 10, 1, 3, 2, 0] rfl ?_
      exact ih _ _ _ _ _ h
set_option maxRecDepth 20000 in
set_option maxHeartbeats 4000000 in
theorem pX10_patterns_J181 {Y : xY} {Z : xZ} {B : xB} {z : Int64 × xM} (C : xC (GM Y) Z B "BetweenStopsModel" cX10_patterns 16 7) (R : xRl (GM Y) B z) {k195 : Int64 → Int64 → xM → Option (Int64 × xM)} {b : Int64 → Int64 → Int32 → xM → Option (Int64 × xM)} {a1 : Int32} {a2 : Int32} {a3 : Int32} {a8 : Int32} {a10 : Int64} {a14 : Int64}
    (hk195 : ∀ (a4 : Int64) (a6 : Int64) (s : xM), k195 a4 a6 s = some z → xWS (GM Y) B 16 s [(0, .ref (Y.1 0)), (1, .int a1), (4, .long a4), (6, .long a6)] 195 [])
    (hb : ∀ (a4 : Int64) (a6 : Int64) (a8 : Int32) (s : xM), b a4 a6 a8 s = some z → xWS (GM Y) B 16 s [(0, .ref (Y.1 0)), (1, .int a1), (2, .int a2), (3, .int a3), (4, .long a4), (6, .long a6), (8, .int a8)] 87 []) {s : xM} (h : fX10_patterns_J181 k195 b a1 a2 a3 a8 a10 a14 s = some z) : xWS (GM Y) B 16 s [(0, .ref (Y.1 0)), (1, .int a1), (2, .int a2), (3, .int a3), (8, .int a8), (10, .long a10), (14, .long a14)] 181 [] := by
  unfold fX10_patterns_J181 at h
  refine ws_lload (pc := 181) C dX10_patterns_181 5 rfl ?_
  refine ws_lstore (pc := 183) C dX10_patterns_183 (by decide) rfl ?_
  refine ws_lload (pc := 185) C dX10_patterns_185 7 rfl ?_
  refine ws_lstore (pc := 187) C dX10_patterns_187 (by decide) rfl ?_
  refine ws_iinc (j := 6) (pc := 189) C dX10_patterns_189 rfl (cn_1 _) (by decide) rfl ?_
  refine ws_goto (pc := 192) (tgt := 87) C dX10_patterns_192 (by decide) ?_
  refine ws_less [3, 4, 5, 6, 2, 1, 0] rfl ?_
  exact hb _ _ _ _ h
set_option maxRecDepth 20000 in
set_option maxHeartbeats 4000000 in
theorem pX10_patterns_L87 {Y : xY} {Z : xZ} {B : xB} {z : Int64 × xM} (C : xC (GM Y) Z B "BetweenStopsModel" cX10_patterns 16 7) (R : xRl (GM Y) B z) {k195 : Int64 → Int64 → xM → Option (Int64 × xM)} {a1 : Int32} {a2 : Int32} {a3 : Int32}
    (hk195 : ∀ (a4 : Int64) (a6 : Int64) (s : xM), k195 a4 a6 s = some z → xWS (GM Y) B 16 s [(0, .ref (Y.1 0)), (1, .int a1), (4, .long a4), (6, .long a6)] 195 []) : ∀ (n : Nat) (a4 : Int64) (a6 : Int64) (a8 : Int32) (s : xM), fX10_patterns_L87 k195 a1 a2 a3 n a4 a6 a8 s = some z → xWS (GM Y) B 16 s [(0, .ref (Y.1 0)), (1, .int a1), (2, .int a2), (3, .int a3), (4, .long a4), (6, .long a6), (8, .int a8)] 87 [] := by
  intro n
  induction n with
  | zero =>
    intro a4 a6 a8 s h
    rw [fX10_patterns_L87] at h
    cases h
  | succ n ih =>
    intro a4 a6 a8 s h
    rw [fX10_patterns_L87] at h
    refine ws_iload (pc := 87) C dX10_patterns_87 6 rfl ?_
    refine ws_iload_n (pc := 89) C dX10_patterns_89 rfl 3 rfl ?_
    refine ws_icmp_ge (pc := 90) (tgt := 195) C dX10_patterns_90 (by decide) (fun c1 => ?_) (fun c1 => ?_)
    · have h := ite_t h c1
      refine ws_less [0, 1, 4, 5] rfl ?_
      exact hk195 _ _ _ h
    · have h := ite_f h c1
      refine ws_iload (pc := 93) C dX10_patterns_93 6 rfl ?_
      refine ws_istore (pc := 95) C dX10_patterns_95 (by decide) rfl ?_
      refine ws_lconst (v := 0) (pc := 97) C dX10_patterns_97 (by decide) ?_
      refine ws_lstore (pc := 98) C dX10_patterns_98 (by decide) rfl ?_
      refine ws_lconst (v := 1) (pc := 100) C dX10_patterns_100 (by decide) ?_
      refine ws_lstore (pc := 101) C dX10_patterns_101 (by decide) rfl ?_
      refine ws_iload_n (pc := 103) C dX10_patterns_103 rfl 5 rfl ?_
      refine ws_iconst (pc := 104) C dX10_patterns_104 ci_1 ?_
      refine ws_isub (pc := 105) C dX10_patterns_105 ?_
      obtain ⟨v2, e3, h⟩ := lz_ok h
      refine ws_topi C e3 ?_
      refine ws_istore (pc := 106) C dX10_patterns_106 (by decide) rfl ?_
      refine ws_less [4, 5, 6, 7, 8, 9, 10, 3, 2, 1, 0] rfl ?_
      refine pX10_patterns_L108 C R (fun x4 s5 h => ?_) fu _ _ _ _ _ h
      · refine ws_aload_n (pc := 160) C dX10_patterns_160 rfl 0 rfl ?_
        obtain ⟨r6, s7, q8, h⟩ := bd_ok h
        refine wc_lV (pc := 161)  C [] [] (mX10_total q8) dX10_patterns_161 mw_X10_total mv_X10_total kl_X10_257 so_M rfl rfl (Nat.le_of_ble_eq_true rfl) ⟨by decide, by decide⟩ ?_
        refine ws_lstore (pc := 164) C dX10_patterns_164 (by decide) rfl ?_
        refine ws_lload (pc := 166) C dX10_patterns_166 5 rfl ?_
        refine ws_lconst (v := 0) (pc := 168) C dX10_patterns_168 (by decide) ?_
        refine ws_lcmp (pc := 169) C dX10_patterns_169 ?_
        refine ws_if_lt (pc := 170) (tgt := 181) C dX10_patterns_170 (by decide) (fun c9 => ?_) (fun c9 => ?_)
        · have h := ite_t h c9
          refine ws_less [1, 2, 3, 4, 7, 8, 0] rfl ?_
          exact pX10_patterns_J181 C R hk195 (fun a4 a6 a8 s h => ih a4 a6 a8 s h) h
        · have h := ite_f h c9
          refine ws_lload (pc := 173) C dX10_patterns_173 0 rfl ?_
          refine ws_lload (pc := 175) C dX10_patterns_175 6 rfl ?_
          refine ws_lcmp (pc := 177) C dX10_patterns_177 ?_
          refine ws_if_ge (pc := 178) (tgt := 189) C dX10_patterns_178 (by decide) (fun c10 => ?_) (fun c10 => ?_)
          · have h := ite_t h c10
            refine ws_iinc (j := 7) (pc := 189) C dX10_patterns_189 rfl (cn_1 _) (by decide) rfl ?_
            refine ws_goto (pc := 192) (tgt := 87) C dX10_patterns_192 (by decide) ?_
            refine ws_less [2, 3, 4, 5, 6, 7, 0] rfl ?_
            exact ih _ _ _ _ h
          · have h := ite_f h c10
            refine ws_less [1, 2, 3, 4, 7, 8, 0] rfl ?_
            exact pX10_patterns_J181 C R hk195 (fun a4 a6 a8 s h => ih a4 a6 a8 s h) h
set_option maxRecDepth 20000 in
set_option maxHeartbeats 4000000 in
theorem pX10_patterns_L198 {Y : xY} {Z : xZ} {B : xB} {z : Int64 × xM} (C : xC (GM Y) Z B "BetweenStopsModel" cX10_patterns 16 7) (R : xRl (GM Y) B z) {k225 : xM → Option (Int64 × xM)} {a1 : Int32} {a4 : Int64} {a6 : Int64}
    (hk225 : ∀  (s : xM), k225 s = some z → xWS (GM Y) B 16 s [(1, .int a1), (4, .long a4), (6, .long a6)] 225 []) : ∀ (n : Nat) (a8 : Int32) (s : xM), fX10_patterns_L198 k225 a1 a4 a6 n a8 s = some z → xWS (GM Y) B 16 s [(0, .ref (Y.1 0)), (1, .int a1), (4, .long a4), (6, .long a6), (8, .int a8)] 198 [] := by
  intro n
  induction n with
  | zero =>
    intro a8 s h
    rw [fX10_patterns_L198] at h
    cases h
  | succ n ih =>
    intro a8 s h
    rw [fX10_patterns_L198] at h
    refine ws_iload (pc := 198) C dX10_patterns_198 4 rfl ?_
    refine ws_bipush (pc := 200) C dX10_patterns_200 cb_8 ?_
    refine ws_icmp_ge (pc := 202) (tgt := 225) C dX10_patterns_202 (by decide) (fun c1 => ?_) (fun c1 => ?_)
    · have h := ite_t h c1
      refine ws_less [1, 2, 3] rfl ?_
      exact hk225 _ h
    · have h := ite_f h c1
      refine ws_aload_n (pc := 205) C dX10_patterns_205 rfl 0 rfl ?_
      refine ws_getr (pc := 206) C dX10_patterns_206 fd_X10_41 sf_M_11 ?_
      refine ws_iload (pc := 209) C dX10_patterns_209 4 rfl ?_
      refine ws_aload_n (pc := 211) C dX10_patterns_211 rfl 0 rfl ?_
      refine ws_getr (pc := 212) C dX10_patterns_212 fd_X10_138 sf_M_61 ?_
      refine ws_iload (pc := 215) C dX10_patterns_215 4 rfl ?_
      obtain ⟨g2, h⟩ := gd_ok h
      refine ws_ialdK (pc := 217) C dX10_patterns_217 sr_m_keptPattern g2 rfl ?_
      obtain ⟨g3, h⟩ := gd_ok h
      obtain ⟨s4, e5, h⟩ := lz_ok h
      refine ws_iastK (pc := 218) C dX10_patterns_218 sr_m_pattern g3 rfl e5 ?_
      refine ws_iinc (j := 4) (pc := 219) C dX10_patterns_219 rfl (cn_1 _) (by decide) rfl ?_
      refine ws_goto (pc := 222) (tgt := 198) C dX10_patterns_222 (by decide) ?_
      refine ws_less [1, 2, 3, 4, 0] rfl ?_
      exact ih _ _ h
set_option maxRecDepth 20000 in
set_option maxHeartbeats 4000000 in
theorem pX10_patterns_J29 {Y : xY} {Z : xZ} {B : xB} {z : Int64 × xM} (C : xC (GM Y) Z B "BetweenStopsModel" cX10_patterns 16 7) (R : xRl (GM Y) B z) {a1 : Int32} {t0 : Int32} {s : xM} (h : fX10_patterns_J29 a1 t0 s = some z) : xWS (GM Y) B 16 s [(0, .ref (Y.1 0)), (1, .int a1)] 29 [.int t0] := by
  unfold fX10_patterns_J29 at h
  refine ws_istore_n (pc := 29) C dX10_patterns_29 rfl (by decide) rfl ?_
  refine ws_iconst (pc := 30) C dX10_patterns_30 ci_1 ?_
  refine ws_istore_n (pc := 31) C dX10_patterns_31 rfl (by decide) rfl ?_
  refine ws_iconst (pc := 32) C dX10_patterns_32 ci_0 ?_
  refine ws_istore (pc := 33) C dX10_patterns_33 (by decide) rfl ?_
  refine ws_less [3, 4, 2, 1, 0] rfl ?_
  refine pX10_patterns_L35 C R (fun x1 s2 h => ?_) fu _ _ _ h
  · refine ws_ldc2 (pc := 76) C dX10_patterns_76 kK_X10_348 ?_
    refine ws_lstore (pc := 79) C dX10_patterns_79 (by decide) rfl ?_
    refine ws_lconst (v := 0) (pc := 81) C dX10_patterns_81 (by decide) ?_
    refine ws_lstore (pc := 82) C dX10_patterns_82 (by decide) rfl ?_
    refine ws_iconst (pc := 84) C dX10_patterns_84 ci_0 ?_
    refine ws_istore (pc := 85) C dX10_patterns_85 (by decide) rfl ?_
    refine ws_less [3, 4, 5, 6, 2, 1, 0] rfl ?_
    refine pX10_patterns_L87 C R (fun x3 x4 s5 h => ?_) fu _ _ _ _ h
    · refine ws_iconst (pc := 195) C dX10_patterns_195 ci_0 ?_
      refine ws_istore (pc := 196) C dX10_patterns_196 (by decide) rfl ?_
      refine ws_less [1, 2, 3, 4, 0] rfl ?_
      refine pX10_patterns_L198 C R (fun s6 h => ?_) fu _ _ h
      · refine ws_iload_n (pc := 225) C dX10_patterns_225 rfl 0 rfl ?_
        refine ws_if_ne (pc := 226) (tgt := 234) C dX10_patterns_226 (by decide) (fun c7 => ?_) (fun c7 => ?_)
        · have h := ite_f h c7
          refine ws_lload (pc := 234) C dX10_patterns_234 2 rfl ?_
          exact wr_l (pc := 236) C R dX10_patterns_236 h
        · have h := ite_t h c7
          refine ws_lload (pc := 229) C dX10_patterns_229 1 rfl ?_
          refine ws_goto (pc := 231) (tgt := 236) C dX10_patterns_231 (by decide) ?_
          exact wr_l (pc := 236) C R dX10_patterns_236 h
set_option maxRecDepth 20000 in
set_option maxHeartbeats 4000000 in
theorem mX10_patterns {Y : xY} {Z : xZ} {a1 : Int32} {s : xM} {z : Int64 × xM} (h : fX10_patterns a1 s = some z) : xMl (GM Y) Z yX10_patterns cX10_patterns 16 7 [.ref (Y.1 0), .int a1] s z := by
  refine xMl_of (by decide) (Nat.le_of_ble_eq_true rfl) (fun B C R => ?_)
  have C : xC (GM Y) Z B "BetweenStopsModel" cX10_patterns 16 7 := C
  show xWS (GM Y) B 16 s [(0, .ref (Y.1 0)), (1, .int a1)] 0 []
  unfold fX10_patterns at h
  refine ws_iload_n (pc := 0) C dX10_patterns_0 rfl 1 rfl ?_
  refine ws_iconst (pc := 1) C dX10_patterns_1 ci_0 ?_
  refine ws_iconst (pc := 2) C dX10_patterns_2 ci_1 ?_
  obtain ⟨r1, s2, q3, h⟩ := bd_ok h
  refine wc_iS (pc := 3)  C [.int a1, .int (0 : Int32), .int (1 : Int32)] [] (mX10_in q3) dX10_patterns_3 mw_X10_in ks_X10_in kl_X10_162 rfl rfl (Nat.le_of_ble_eq_true rfl) ⟨by decide, by decide⟩ ?_
  refine ws_if_ne (pc := 6) (tgt := 13) C dX10_patterns_6 (by decide) (fun c4 => ?_) (fun c4 => ?_)
  · have h := ite_f h c4
    refine ws_aload_n (pc := 13) C dX10_patterns_13 rfl 0 rfl ?_
    refine ws_geti (pc := 14) C dX10_patterns_14 fd_X10_166 sf_M_4 ?_
    refine ws_iconst (pc := 17) C dX10_patterns_17 ci_5 ?_
    refine ws_icmp_ge (pc := 18) (tgt := 28) C dX10_patterns_18 (by decide) (fun c5 => ?_) (fun c5 => ?_)
    · have h := ite_t h c5
      refine ws_iconst (pc := 28) C dX10_patterns_28 ci_5 ?_
      refine ws_less [0, 1] rfl ?_
      exact pX10_patterns_J29 C R h
    · have h := ite_f h c5
      refine ws_aload_n (pc := 21) C dX10_patterns_21 rfl 0 rfl ?_
      refine ws_geti (pc := 22) C dX10_patterns_22 fd_X10_166 sf_M_4 ?_
      refine ws_goto (pc := 25) (tgt := 29) C dX10_patterns_25 (by decide) ?_
      refine ws_less [0, 1] rfl ?_
      exact pX10_patterns_J29 C R h
  · have h := ite_t h c4
    refine ws_ldc2 (pc := 9) C dX10_patterns_9 kK_X10_255 ?_
    exact wr_l (pc := 12) C R dX10_patterns_12 h
set_option maxRecDepth 20000 in
set_option maxHeartbeats 4000000 in
theorem pX10_bench_L29 {Y : xY} {Z : xZ} {B : xB} {z : Int64 × xM} (C : xC (GM Y) Z B "BetweenStopsModel" cX10_bench 12 7) (R : xRl (GM Y) B z) {k58 : xM → Option (Int64 × xM)} {a1 : Int32} {a2 : Int32} {a3 : Int64}
    (hk58 : ∀  (s : xM), k58 s = some z → xWS (GM Y) B 12 s [(0, .ref (Y.1 0)), (1, .int a1), (2, .int a2), (3, .long a3)] 58 []) : ∀ (n : Nat) (a5 : Int32) (s : xM), fX10_bench_L29 k58 a1 a2 a3 n a5 s = some z → xWS (GM Y) B 12 s [(0, .ref (Y.1 0)), (1, .int a1), (2, .int a2), (3, .long a3), (5, .int a5)] 29 [] := by
  intro n
  induction n with
  | zero =>
    intro a5 s h
    rw [fX10_bench_L29] at h
    cases h
  | succ n ih =>
    intro a5 s h
    rw [fX10_bench_L29] at h
    refine ws_iload (pc := 29) C dX10_bench_29 4 rfl ?_
    refine ws_aload_n (pc := 31) C dX10_bench_31 rfl 0 rfl ?_
    refine ws_geti (pc := 32) C dX10_bench_32 fd_X10_169 sf_M_12 ?_
    refine ws_icmp_ge (pc := 35) (tgt := 58) C dX10_bench_35 (by decide) (fun c1 => ?_) (fun c1 => ?_)
    · have h := ite_t h c1
      refine ws_less [0, 1, 2, 3] rfl ?_
      exact hk58 _ h
    · have h := ite_f h c1
      refine ws_aload_n (pc := 38) C dX10_bench_38 rfl 0 rfl ?_
      refine ws_getr (pc := 39) C dX10_bench_39 fd_X10_135 sf_M_59 ?_
      refine ws_iload (pc := 42) C dX10_bench_42 4 rfl ?_
      refine ws_aload_n (pc := 44) C dX10_bench_44 rfl 0 rfl ?_
      refine ws_getr (pc := 45) C dX10_bench_45 fd_X10_92 sf_M_43 ?_
      refine ws_iload (pc := 48) C dX10_bench_48 4 rfl ?_
      obtain ⟨g2, h⟩ := gd_ok h
      refine ws_ialdK (pc := 50) C dX10_bench_50 sr_m_costOf g2 rfl ?_
      obtain ⟨g3, h⟩ := gd_ok h
      obtain ⟨s4, e5, h⟩ := lz_ok h
      refine ws_iastK (pc := 51) C dX10_bench_51 sr_m_nowCost g3 rfl e5 ?_
      refine ws_iinc (j := 4) (pc := 52) C dX10_bench_52 rfl (cn_1 _) (by decide) rfl ?_
      refine ws_goto (pc := 55) (tgt := 29) C dX10_bench_55 (by decide) ?_
      refine ws_less [1, 2, 3, 4, 0] rfl ?_
      exact ih _ _ h
set_option maxRecDepth 20000 in
set_option maxHeartbeats 4000000 in
theorem pX10_bench_J169 {Y : xY} {Z : xZ} {B : xB} {z : Int64 × xM} (C : xC (GM Y) Z B "BetweenStopsModel" cX10_bench 12 7) (R : xRl (GM Y) B z) {k194 : Int32 → Int32 → Int32 → xM → Option (Int64 × xM)} {b : Int32 → Int32 → Int32 → Int32 → xM → Option (Int64 × xM)} {a2 : Int32} {a3 : Int64} {a5 : Int64} {a7 : Int32} {a9 : Int32} {a10 : Int32} {a11 : Int32} {t0 : Int32} {t1 : Int32}
    (hk194 : ∀ (a7 : Int32) (a8 : Int32) (a9 : Int32) (s : xM), k194 a7 a8 a9 s = some z → xWS (GM Y) B 12 s [(2, .int a2), (3, .long a3), (5, .long a5), (7, .int a7), (8, .int a8), (9, .int a9)] 194 [])
    (hb : ∀ (a7 : Int32) (a8 : Int32) (a9 : Int32) (a10 : Int32) (s : xM), b a7 a8 a9 a10 s = some z → xWS (GM Y) B 12 s [(0, .ref (Y.1 0)), (2, .int a2), (3, .long a3), (5, .long a5), (7, .int a7), (8, .int a8), (9, .int a9), (10, .int a10)] 104 []) {s : xM} (h : fX10_bench_J169 k194 b a2 a3 a5 a7 a9 a10 a11 t0 t1 s = some z) : xWS (GM Y) B 12 s [(0, .ref (Y.1 0)), (2, .int a2), (3, .long a3), (5, .long a5), (7, .int a7), (9, .int a9), (10, .int a10), (11, .int a11)] 169 [.int t0, .int t1] := by
  unfold fX10_bench_J169 at h
  refine ws_iadd (pc := 169) C dX10_bench_169 ?_
  obtain ⟨v1, e2, h⟩ := lz_ok h
  refine ws_topi C e2 ?_
  refine ws_istore (pc := 170) C dX10_bench_170 (by decide) rfl ?_
  refine ws_iload (pc := 172) C dX10_bench_172 8 rfl ?_
  refine ws_iload (pc := 174) C dX10_bench_174 6 rfl ?_
  refine ws_icmp_le (pc := 176) (tgt := 184) C dX10_bench_176 (by decide) (fun c3 => ?_) (fun c3 => ?_)
  · have h := ite_t h c3
    refine ws_iload (pc := 184) C dX10_bench_184 6 rfl ?_
    refine ws_istore (pc := 186) C dX10_bench_186 (by decide) rfl ?_
    refine ws_iinc (j := 7) (pc := 188) C dX10_bench_188 rfl (cn_1 _) (by decide) rfl ?_
    refine ws_goto (pc := 191) (tgt := 104) C dX10_bench_191 (by decide) ?_
    refine ws_less [3, 4, 5, 6, 7, 2, 1, 0] rfl ?_
    exact hb _ _ _ _ _ h
  · have h := ite_f h c3
    refine ws_iload (pc := 179) C dX10_bench_179 8 rfl ?_
    refine ws_goto (pc := 181) (tgt := 186) C dX10_bench_181 (by decide) ?_
    refine ws_istore (pc := 186) C dX10_bench_186 (by decide) rfl ?_
    refine ws_iinc (j := 7) (pc := 188) C dX10_bench_188 rfl (cn_1 _) (by decide) rfl ?_
    refine ws_goto (pc := 191) (tgt := 104) C dX10_bench_191 (by decide) ?_
    refine ws_less [3, 4, 5, 6, 7, 2, 1, 0] rfl ?_
    exact hb _ _ _ _ _ h
set_option maxRecDepth 20000 in
set_option maxHeartbeats 4000000 in
theorem pX10_bench_J148 {Y : xY} {Z : xZ} {B : xB} {z : Int64 × xM} (C : xC (GM Y) Z B "BetweenStopsModel" cX10_bench 12 7) (R : xRl (GM Y) B z) {k194 : Int32 → Int32 → Int32 → xM → Option (Int64 × xM)} {b : Int32 → Int32 → Int32 → Int32 → xM → Option (Int64 × xM)} {a2 : Int32} {a3 : Int64} {a5 : Int64} {a8 : Int32} {a9 : Int32} {a10 : Int32} {a11 : Int32} {t0 : Int32} {t1 : Int32}
    (hk194 : ∀ (a7 : Int32) (a8 : Int32) (a9 : Int32) (s : xM), k194 a7 a8 a9 s = some z → xWS (GM Y) B 12 s [(2, .int a2), (3, .long a3), (5, .long a5), (7, .int a7), (8, .int a8), (9, .int a9)] 194 [])
    (hb : ∀ (a7 : Int32) (a8 : Int32) (a9 : Int32) (a10 : Int32) (s : xM), b a7 a8 a9 a10 s = some z → xWS (GM Y) B 12 s [(0, .ref (Y.1 0)), (2, .int a2), (3, .long a3), (5, .long a5), (7, .int a7), (8, .int a8), (9, .int a9), (10, .int a10)] 104 []) {s : xM} (h : fX10_bench_J148 k194 b a2 a3 a5 a8 a9 a10 a11 t0 t1 s = some z) : xWS (GM Y) B 12 s [(0, .ref (Y.1 0)), (2, .int a2), (3, .long a3), (5, .long a5), (8, .int a8), (9, .int a9), (10, .int a10), (11, .int a11)] 148 [.int t0, .int t1] := by
  unfold fX10_bench_J148 at h
  refine ws_iadd (pc := 148) C dX10_bench_148 ?_
  obtain ⟨v1, e2, h⟩ := lz_ok h
  refine ws_topi C e2 ?_
  refine ws_istore (pc := 149) C dX10_bench_149 (by decide) rfl ?_
  refine ws_iload (pc := 151) C dX10_bench_151 5 rfl ?_
  refine ws_iload (pc := 153) C dX10_bench_153 8 rfl ?_
  refine ws_if_ge (pc := 155) (tgt := 168) C dX10_bench_155 (by decide) (fun c3 => ?_) (fun c3 => ?_)
  · have h := ite_t h c3
    refine ws_iconst (pc := 168) C dX10_bench_168 ci_0 ?_
    refine ws_less [1, 2, 3, 4, 0, 6, 7, 8] rfl ?_
    exact pX10_bench_J169 C R hk194 hb h
  · have h := ite_f h c3
    refine ws_aload_n (pc := 158) C dX10_bench_158 rfl 1 rfl ?_
    refine ws_getr (pc := 159) C dX10_bench_159 fd_X10_50 sf_M_15 ?_
    refine ws_iload (pc := 162) C dX10_bench_162 7 rfl ?_
    obtain ⟨g4, h⟩ := gd_ok h
    refine ws_ialdK (pc := 164) C dX10_bench_164 sr_m_tripMany g4 rfl ?_
    refine ws_goto (pc := 165) (tgt := 169) C dX10_bench_165 (by decide) ?_
    refine ws_less [1, 2, 3, 4, 0, 6, 7, 8] rfl ?_
    exact pX10_bench_J169 C R hk194 hb h
set_option maxRecDepth 20000 in
set_option maxHeartbeats 4000000 in
theorem pX10_bench_L104 {Y : xY} {Z : xZ} {B : xB} {z : Int64 × xM} (C : xC (GM Y) Z B "BetweenStopsModel" cX10_bench 12 7) (R : xRl (GM Y) B z) {k194 : Int32 → Int32 → Int32 → xM → Option (Int64 × xM)} {a2 : Int32} {a3 : Int64} {a5 : Int64}
    (hk194 : ∀ (a7 : Int32) (a8 : Int32) (a9 : Int32) (s : xM), k194 a7 a8 a9 s = some z → xWS (GM Y) B 12 s [(2, .int a2), (3, .long a3), (5, .long a5), (7, .int a7), (8, .int a8), (9, .int a9)] 194 []) : ∀ (n : Nat) (a7 : Int32) (a8 : Int32) (a9 : Int32) (a10 : Int32) (s : xM), fX10_bench_L104 k194 a2 a3 a5 n a7 a8 a9 a10 s = some z → xWS (GM Y) B 12 s [(0, .ref (Y.1 0)), (2, .int a2), (3, .long a3), (5, .long a5), (7, .int a7), (8, .int a8), (9, .int a9), (10, .int a10)] 104 [] := by
  intro n
  induction n with
  | zero =>
    intro a7 a8 a9 a10 s h
    rw [fX10_bench_L104] at h
    cases h
  | succ n ih =>
    intro a7 a8 a9 a10 s h
    rw [fX10_bench_L104] at h
    refine ws_iload (pc := 104) C dX10_bench_104 7 rfl ?_
    refine ws_aload_n (pc := 106) C dX10_bench_106 rfl 0 rfl ?_
    refine ws_geti (pc := 107) C dX10_bench_107 fd_X10_169 sf_M_12 ?_
    refine ws_icmp_ge (pc := 110) (tgt := 194) C dX10_bench_110 (by decide) (fun c1 => ?_) (fun c1 => ?_)
    · have h := ite_t h c1
      refine ws_less [1, 2, 3, 4, 5, 6] rfl ?_
      exact hk194 _ _ _ _ h
    · have h := ite_f h c1
      refine ws_aload_n (pc := 113) C dX10_bench_113 rfl 0 rfl ?_
      refine ws_getr (pc := 114) C dX10_bench_114 fd_X10_92 sf_M_43 ?_
      refine ws_iload (pc := 117) C dX10_bench_117 7 rfl ?_
      obtain ⟨g2, h⟩ := gd_ok h
      refine ws_ialdK (pc := 119) C dX10_bench_119 sr_m_costOf g2 rfl ?_
      refine ws_aload_n (pc := 120) C dX10_bench_120 rfl 0 rfl ?_
      refine ws_getr (pc := 121) C dX10_bench_121 fd_X10_135 sf_M_59 ?_
      refine ws_iload (pc := 124) C dX10_bench_124 7 rfl ?_
      obtain ⟨g3, h⟩ := gd_ok h
      refine ws_ialdK (pc := 126) C dX10_bench_126 sr_m_nowCost g3 rfl ?_
      refine ws_isub (pc := 127) C dX10_bench_127 ?_
      obtain ⟨v4, e5, h⟩ := lz_ok h
      refine ws_topi C e5 ?_
      refine ws_istore (pc := 128) C dX10_bench_128 (by decide) rfl ?_
      refine ws_iload (pc := 130) C dX10_bench_130 5 rfl ?_
      refine ws_iload (pc := 132) C dX10_bench_132 0 rfl ?_
      refine ws_if_le (pc := 134) (tgt := 147) C dX10_bench_134 (by decide) (fun c6 => ?_) (fun c6 => ?_)
      · have h := ite_t h c6
        refine ws_iconst (pc := 147) C dX10_bench_147 ci_0 ?_
        refine ws_less [1, 2, 3, 4, 6, 7, 8, 0] rfl ?_
        exact pX10_bench_J148 C R hk194 (fun a7 a8 a9 a10 s h => ih a7 a8 a9 a10 s h) h
      · have h := ite_f h c6
        refine ws_aload_n (pc := 137) C dX10_bench_137 rfl 1 rfl ?_
        refine ws_getr (pc := 138) C dX10_bench_138 fd_X10_50 sf_M_15 ?_
        refine ws_iload (pc := 141) C dX10_bench_141 8 rfl ?_
        obtain ⟨g7, h⟩ := gd_ok h
        refine ws_ialdK (pc := 143) C dX10_bench_143 sr_m_tripMany g7 rfl ?_
        refine ws_goto (pc := 144) (tgt := 148) C dX10_bench_144 (by decide) ?_
        refine ws_less [1, 2, 3, 4, 6, 7, 8, 0] rfl ?_
        exact pX10_bench_J148 C R hk194 (fun a7 a8 a9 a10 s h => ih a7 a8 a9 a10 s h) h
set_option maxRecDepth 20000 in
set_option maxHeartbeats 4000000 in
theorem mX10_bench {Y : xY} {Z : xZ} {a1 : Int32} {a2 : Int32} {s : xM} {z : Int64 × xM} (h : fX10_bench a1 a2 s = some z) : xMl (GM Y) Z yX10_bench cX10_bench 12 7 [.ref (Y.1 0), .int a1, .int a2] s z := by
  refine xMl_of (by decide) (Nat.le_of_ble_eq_true rfl) (fun B C R => ?_)
  have C : xC (GM Y) Z B "BetweenStopsModel" cX10_bench 12 7 := C
  show xWS (GM Y) B 12 s [(0, .ref (Y.1 0)), (1, .int a1), (2, .int a2)] 0 []
  unfold fX10_bench at h
  refine ws_aload_n (pc := 0) C dX10_bench_0 rfl 0 rfl ?_
  refine ws_iload_n (pc := 1) C dX10_bench_1 rfl 1 rfl ?_
  obtain ⟨r1, s2, q3, h⟩ := bd_ok h
  refine wc_iV (pc := 2)  C [.int a1] [] (mX10_isStop q3) dX10_bench_2 mw_X10_isStop mv_X10_isStop kl_X10_180 so_M rfl rfl (Nat.le_of_ble_eq_true rfl) ⟨by decide, by decide⟩ ?_
  refine ws_if_eq (pc := 5) (tgt := 17) C dX10_bench_5 (by decide) (fun c4 => ?_) (fun c4 => ?_)
  · have h := ite_t h c4
    refine ws_ldc2 (pc := 17) C dX10_bench_17 kK_X10_255 ?_
    exact wr_l (pc := 20) C R dX10_bench_20 h
  · have h := ite_f h c4
    refine ws_iload_n (pc := 8) C dX10_bench_8 rfl 2 rfl ?_
    refine ws_iconst (pc := 9) C dX10_bench_9 ci_0 ?_
    refine ws_iconst (pc := 10) C dX10_bench_10 ci_3 ?_
    obtain ⟨r5, s6, q7, h⟩ := bd_ok h
    refine wc_iS (pc := 11)  C [.int a2, .int (0 : Int32), .int (3 : Int32)] [] (mX10_in q7) dX10_bench_11 mw_X10_in ks_X10_in kl_X10_162 rfl rfl (Nat.le_of_ble_eq_true rfl) ⟨by decide, by decide⟩ ?_
    refine ws_if_ne (pc := 14) (tgt := 21) C dX10_bench_14 (by decide) (fun c8 => ?_) (fun c8 => ?_)
    · have h := ite_f h c8
      refine ws_aload_n (pc := 21) C dX10_bench_21 rfl 0 rfl ?_
      obtain ⟨r9, s10, q11, h⟩ := bd_ok h
      refine wc_lV (pc := 22)  C [] [] (mX10_total q11) dX10_bench_22 mw_X10_total mv_X10_total kl_X10_257 so_M rfl rfl (Nat.le_of_ble_eq_true rfl) ⟨by decide, by decide⟩ ?_
      refine ws_lstore_n (pc := 25) C dX10_bench_25 rfl (by decide) rfl ?_
      refine ws_iconst (pc := 26) C dX10_bench_26 ci_0 ?_
      refine ws_istore (pc := 27) C dX10_bench_27 (by decide) rfl ?_
      refine ws_less [2, 3, 4, 1, 0] rfl ?_
      refine pX10_bench_L29 C R (fun s12 h => ?_) fu _ _ h
      · refine ws_aload_n (pc := 58) C dX10_bench_58 rfl 0 rfl ?_
        refine ws_getr (pc := 59) C dX10_bench_59 fd_X10_35 sf_M_9 ?_
        refine ws_iload_n (pc := 62) C dX10_bench_62 rfl 1 rfl ?_
        refine ws_iconst (pc := 63) C dX10_bench_63 ci_1 ?_
        refine ws_aload_n (pc := 64) C dX10_bench_64 rfl 0 rfl ?_
        refine ws_getr (pc := 65) C dX10_bench_65 fd_X10_35 sf_M_9 ?_
        refine ws_iload_n (pc := 68) C dX10_bench_68 rfl 1 rfl ?_
        obtain ⟨g13, h⟩ := gd_ok h
        refine ws_ialdK (pc := 69) C dX10_bench_69 sr_m_open g13 rfl ?_
        refine ws_isub (pc := 70) C dX10_bench_70 ?_
        obtain ⟨g14, h⟩ := gd_ok h
        obtain ⟨s15, e16, h⟩ := lz_ok h
        refine ws_iastK (pc := 71) C dX10_bench_71 sr_m_open g14 rfl e16 ?_
        refine ws_aload_n (pc := 72) C dX10_bench_72 rfl 0 rfl ?_
        obtain ⟨r17, s18, q19, h⟩ := bd_ok h
        refine wc_lV (pc := 73)  C [] [] (mX10_total q19) dX10_bench_73 mw_X10_total mv_X10_total kl_X10_257 so_M rfl rfl (Nat.le_of_ble_eq_true rfl) ⟨by decide, by decide⟩ ?_
        refine ws_lstore (pc := 76) C dX10_bench_76 (by decide) rfl ?_
        refine ws_aload_n (pc := 78) C dX10_bench_78 rfl 1 rfl ?_
        refine ws_getr (pc := 79) C dX10_bench_79 fd_X10_35 sf_M_9 ?_
        refine ws_iload_n (pc := 82) C dX10_bench_82 rfl 2 rfl ?_
        refine ws_iconst (pc := 83) C dX10_bench_83 ci_1 ?_
        refine ws_aload_n (pc := 84) C dX10_bench_84 rfl 1 rfl ?_
        refine ws_getr (pc := 85) C dX10_bench_85 fd_X10_35 sf_M_9 ?_
        refine ws_iload_n (pc := 88) C dX10_bench_88 rfl 2 rfl ?_
        obtain ⟨g20, h⟩ := gd_ok h
        refine ws_ialdK (pc := 89) C dX10_bench_89 sr_m_open g20 rfl ?_
        refine ws_isub (pc := 90) C dX10_bench_90 ?_
        obtain ⟨g21, h⟩ := gd_ok h
        obtain ⟨s22, e23, h⟩ := lz_ok h
        refine ws_iastK (pc := 91) C dX10_bench_91 sr_m_open g21 rfl e23 ?_
        refine ws_iconst (pc := 92) C dX10_bench_92 ci_0 ?_
        refine ws_istore (pc := 93) C dX10_bench_93 (by decide) rfl ?_
        refine ws_iconst (pc := 95) C dX10_bench_95 ci_0 ?_
        refine ws_istore (pc := 96) C dX10_bench_96 (by decide) rfl ?_
        refine ws_iconst (pc := 98) C dX10_bench_98 ci_0 ?_
        refine ws_istore (pc := 99) C dX10_bench_99 (by decide) rfl ?_
        refine ws_iconst (pc := 101) C dX10_bench_101 ci_0 ?_
        refine ws_istore (pc := 102) C dX10_bench_102 (by decide) rfl ?_
        refine ws_less [5, 7, 8, 4, 3, 2, 1, 0] rfl ?_
        refine pX10_bench_L104 C R (fun x24 x25 x26 s27 h => ?_) fu _ _ _ _ _ h
        · refine ws_iload_n (pc := 194) C dX10_bench_194 rfl 0 rfl ?_
          refine ws_if_ne (pc := 195) (tgt := 205) C dX10_bench_195 (by decide) (fun c28 => ?_) (fun c28 => ?_)
          · have h := ite_f h c28
            refine ws_iload_n (pc := 205) C dX10_bench_205 rfl 0 rfl ?_
            refine ws_iconst (pc := 206) C dX10_bench_206 ci_1 ?_
            refine ws_icmp_ne (pc := 207) (tgt := 216) C dX10_bench_207 (by decide) (fun c29 => ?_) (fun c29 => ?_)
            · have h := ite_f h c29
              refine ws_iload_n (pc := 216) C dX10_bench_216 rfl 0 rfl ?_
              refine ws_iconst (pc := 217) C dX10_bench_217 ci_2 ?_
              refine ws_icmp_ne (pc := 218) (tgt := 227) C dX10_bench_218 (by decide) (fun c30 => ?_) (fun c30 => ?_)
              · have h := ite_f h c30
                refine ws_iload (pc := 227) C dX10_bench_227 5 rfl ?_
                refine ws_i2l (pc := 229) C dX10_bench_229 ?_
                exact wr_l (pc := 230) C R dX10_bench_230 h
              · have h := ite_t h c30
                refine ws_iload (pc := 221) C dX10_bench_221 4 rfl ?_
                refine ws_i2l (pc := 223) C dX10_bench_223 ?_
                refine ws_goto (pc := 224) (tgt := 230) C dX10_bench_224 (by decide) ?_
                exact wr_l (pc := 230) C R dX10_bench_230 h
            · have h := ite_t h c29
              refine ws_iload (pc := 210) C dX10_bench_210 3 rfl ?_
              refine ws_i2l (pc := 212) C dX10_bench_212 ?_
              refine ws_goto (pc := 213) (tgt := 230) C dX10_bench_213 (by decide) ?_
              exact wr_l (pc := 230) C R dX10_bench_230 h
          · have h := ite_t h c28
            refine ws_lload (pc := 198) C dX10_bench_198 2 rfl ?_
            refine ws_lload_n (pc := 200) C dX10_bench_200 rfl 1 rfl ?_
            refine ws_lsub (pc := 201) C dX10_bench_201 ?_
            refine ws_goto (pc := 202) (tgt := 230) C dX10_bench_202 (by decide) ?_
            exact wr_l (pc := 230) C R dX10_bench_230 h
    · have h := ite_t h c8
      refine ws_ldc2 (pc := 17) C dX10_bench_17 kK_X10_255 ?_
      exact wr_l (pc := 20) C R dX10_bench_20 h
set_option maxRecDepth 20000 in
set_option maxHeartbeats 4000000 in
theorem pX10_givesUp_J55 {Y : xY} {Z : xZ} {B : xB} {z : Int32 × xM} (C : xC (GM Y) Z B "BetweenStopsModel" cX10_givesUp 5 7) (R : xRi (GM Y) B .int z) {k68 : Int32 → xM → Option (Int32 × xM)} {b : Int32 → Int32 → xM → Option (Int32 × xM)} {a2 : Int32} {a3 : Int64}
    (hk68 : ∀ (a1 : Int32) (s : xM), k68 a1 s = some z → xWS (GM Y) B 5 s [(1, .int a1)] 68 [])
    (hb : ∀ (a1 : Int32) (a2 : Int32) (s : xM), b a1 a2 s = some z → xWS (GM Y) B 5 s [(0, .ref (Y.1 0)), (1, .int a1), (2, .int a2)] 4 []) {s : xM} (h : fX10_givesUp_J55 k68 b a2 a3 s = some z) : xWS (GM Y) B 5 s [(0, .ref (Y.1 0)), (2, .int a2), (3, .long a3)] 55 [] := by
  unfold fX10_givesUp_J55 at h
  refine ws_iload_n (pc := 55) C dX10_givesUp_55 rfl 1 rfl ?_
  refine ws_istore_n (pc := 56) C dX10_givesUp_56 rfl (by decide) rfl ?_
  refine ws_aload_n (pc := 57) C dX10_givesUp_57 rfl 1 rfl ?_
  refine ws_lload_n (pc := 58) C dX10_givesUp_58 rfl 3 rfl ?_
  obtain ⟨s1, e2, h⟩ := lz_ok h
  refine ws_putL (pc := 59) C dX10_givesUp_59 fp_X10_352 sf_M_62 e2 ?_
  refine ws_iinc (j := 2) (pc := 62) C dX10_givesUp_62 rfl (cn_1 _) (by decide) rfl ?_
  refine ws_goto (pc := 65) (tgt := 4) C dX10_givesUp_65 (by decide) ?_
  refine ws_less [2, 1, 0] rfl ?_
  exact hb _ _ _ h
set_option maxRecDepth 20000 in
set_option maxHeartbeats 4000000 in
theorem pX10_givesUp_L4 {Y : xY} {Z : xZ} {B : xB} {z : Int32 × xM} (C : xC (GM Y) Z B "BetweenStopsModel" cX10_givesUp 5 7) (R : xRi (GM Y) B .int z) {k68 : Int32 → xM → Option (Int32 × xM)}
    (hk68 : ∀ (a1 : Int32) (s : xM), k68 a1 s = some z → xWS (GM Y) B 5 s [(1, .int a1)] 68 []) : ∀ (n : Nat) (a1 : Int32) (a2 : Int32) (s : xM), fX10_givesUp_L4 k68 n a1 a2 s = some z → xWS (GM Y) B 5 s [(0, .ref (Y.1 0)), (1, .int a1), (2, .int a2)] 4 [] := by
  intro n
  induction n with
  | zero =>
    intro a1 a2 s h
    rw [fX10_givesUp_L4] at h
    cases h
  | succ n ih =>
    intro a1 a2 s h
    rw [fX10_givesUp_L4] at h
    refine ws_iload_n (pc := 4) C dX10_givesUp_4 rfl 2 rfl ?_
    refine ws_aload_n (pc := 5) C dX10_givesUp_5 rfl 0 rfl ?_
    refine ws_geti (pc := 6) C dX10_givesUp_6 fd_X10_166 sf_M_4 ?_
    refine ws_icmp_ge (pc := 9) (tgt := 68) C dX10_givesUp_9 (by decide) (fun c1 => ?_) (fun c1 => ?_)
    · have h := ite_t h c1
      refine ws_less [1] rfl ?_
      exact hk68 _ _ h
    · have h := ite_f h c1
      refine ws_aload_n (pc := 12) C dX10_givesUp_12 rfl 0 rfl ?_
      refine ws_getr (pc := 13) C dX10_givesUp_13 fd_X10_35 sf_M_9 ?_
      refine ws_iload_n (pc := 16) C dX10_givesUp_16 rfl 2 rfl ?_
      obtain ⟨g2, h⟩ := gd_ok h
      refine ws_ialdK (pc := 17) C dX10_givesUp_17 sr_m_open g2 rfl ?_
      refine ws_iconst (pc := 18) C dX10_givesUp_18 ci_1 ?_
      refine ws_icmp_ne (pc := 19) (tgt := 62) C dX10_givesUp_19 (by decide) (fun c3 => ?_) (fun c3 => ?_)
      · have h := ite_f h c3
        refine ws_iinc (j := 2) (pc := 62) C dX10_givesUp_62 rfl (cn_1 _) (by decide) rfl ?_
        refine ws_goto (pc := 65) (tgt := 4) C dX10_givesUp_65 (by decide) ?_
        refine ws_less [1, 2, 0] rfl ?_
        exact ih _ _ _ h
      · have h := ite_t h c3
        refine ws_aload_n (pc := 22) C dX10_givesUp_22 rfl 0 rfl ?_
        refine ws_getr (pc := 23) C dX10_givesUp_23 fd_X10_35 sf_M_9 ?_
        refine ws_iload_n (pc := 26) C dX10_givesUp_26 rfl 2 rfl ?_
        refine ws_iconst (pc := 27) C dX10_givesUp_27 ci_0 ?_
        obtain ⟨g4, h⟩ := gd_ok h
        obtain ⟨s5, e6, h⟩ := lz_ok h
        refine ws_iastK (pc := 28) C dX10_givesUp_28 sr_m_open g4 rfl e6 ?_
        refine ws_aload_n (pc := 29) C dX10_givesUp_29 rfl 0 rfl ?_
        obtain ⟨r7, s8, q9, h⟩ := bd_ok h
        refine wc_lV (pc := 30)  C [] [] (mX10_total q9) dX10_givesUp_30 mw_X10_total mv_X10_total kl_X10_257 so_M rfl rfl (Nat.le_of_ble_eq_true rfl) ⟨by decide, by decide⟩ ?_
        refine ws_lstore_n (pc := 33) C dX10_givesUp_33 rfl (by decide) rfl ?_
        refine ws_aload_n (pc := 34) C dX10_givesUp_34 rfl 1 rfl ?_
        refine ws_getr (pc := 35) C dX10_givesUp_35 fd_X10_35 sf_M_9 ?_
        refine ws_iload_n (pc := 38) C dX10_givesUp_38 rfl 3 rfl ?_
        refine ws_iconst (pc := 39) C dX10_givesUp_39 ci_1 ?_
        obtain ⟨g10, h⟩ := gd_ok h
        obtain ⟨s11, e12, h⟩ := lz_ok h
        refine ws_iastK (pc := 40) C dX10_givesUp_40 sr_m_open g10 rfl e12 ?_
        refine ws_iload_n (pc := 41) C dX10_givesUp_41 rfl 2 rfl ?_
        refine ws_iconst (pc := 42) C dX10_givesUp_42 ci_m1 ?_
        refine ws_icmp_eq (pc := 43) (tgt := 55) C dX10_givesUp_43 (by decide) (fun c13 => ?_) (fun c13 => ?_)
        · have h := ite_t h c13
          refine ws_less [1, 3, 0] rfl ?_
          exact pX10_givesUp_J55 C R hk68 (fun a1 a2 s h => ih a1 a2 s h) h
        · have h := ite_f h c13
          refine ws_lload_n (pc := 46) C dX10_givesUp_46 rfl 0 rfl ?_
          refine ws_aload_n (pc := 47) C dX10_givesUp_47 rfl 1 rfl ?_
          refine ws_getl (pc := 48) C dX10_givesUp_48 fd_X10_352 sf_M_62 ?_
          refine ws_lcmp (pc := 51) C dX10_givesUp_51 ?_
          refine ws_if_ge (pc := 52) (tgt := 62) C dX10_givesUp_52 (by decide) (fun c14 => ?_) (fun c14 => ?_)
          · have h := ite_t h c14
            refine ws_iinc (j := 3) (pc := 62) C dX10_givesUp_62 rfl (cn_1 _) (by decide) rfl ?_
            refine ws_goto (pc := 65) (tgt := 4) C dX10_givesUp_65 (by decide) ?_
            refine ws_less [2, 3, 0] rfl ?_
            exact ih _ _ _ h
          · have h := ite_f h c14
            refine ws_less [1, 3, 0] rfl ?_
            exact pX10_givesUp_J55 C R hk68 (fun a1 a2 s h => ih a1 a2 s h) h
set_option maxRecDepth 20000 in
set_option maxHeartbeats 4000000 in
theorem mX10_givesUp {Y : xY} {Z : xZ} {s : xM} {z : Int32 × xM} (h : fX10_givesUp s = some z) : xMi (GM Y) Z yX10_givesUp cX10_givesUp 5 7 .int [.ref (Y.1 0)] s z := by
  refine xMi_of (by decide) (Nat.le_of_ble_eq_true rfl) (fun B C R => ?_)
  have C : xC (GM Y) Z B "BetweenStopsModel" cX10_givesUp 5 7 := C
  show xWS (GM Y) B 5 s [(0, .ref (Y.1 0))] 0 []
  unfold fX10_givesUp at h
  refine ws_iconst (pc := 0) C dX10_givesUp_0 ci_m1 ?_
  refine ws_istore_n (pc := 1) C dX10_givesUp_1 rfl (by decide) rfl ?_
  refine ws_iconst (pc := 2) C dX10_givesUp_2 ci_0 ?_
  refine ws_istore_n (pc := 3) C dX10_givesUp_3 rfl (by decide) rfl ?_
  refine ws_less [2, 1, 0] rfl ?_
  refine pX10_givesUp_L4 C R (fun x1 s2 h => ?_) fu _ _ _ h
  · refine ws_iload_n (pc := 68) C dX10_givesUp_68 rfl 0 rfl ?_
    exact wr_i (pc := 69) C R dX10_givesUp_69 rfl h
set_option maxRecDepth 20000 in
set_option maxHeartbeats 4000000 in
theorem mX10_give {Y : xY} {Z : xZ} {s : xM} {z : Int32 × xM} (h : fX10_give s = some z) : xMi (GM Y) Z yX10_give cX10_give 1 8 .int [.ref (Y.1 0)] s z := by
  refine xMi_of (by decide) (Nat.le_of_ble_eq_true rfl) (fun B C R => ?_)
  have C : xC (GM Y) Z B "BetweenStopsModel" cX10_give 1 8 := C
  show xWS (GM Y) B 1 s [(0, .ref (Y.1 0))] 0 []
  unfold fX10_give at h
  refine ws_aload_n (pc := 0) C dX10_give_0 rfl 0 rfl ?_
  obtain ⟨r1, s2, q3, h⟩ := bd_ok h
  refine wc_iV (pc := 1)  C [] [] (mX10_givesUp q3) dX10_give_1 mw_X10_givesUp mv_X10_givesUp kl_X10_355 so_M rfl rfl (Nat.le_of_ble_eq_true rfl) ⟨by decide, by decide⟩ ?_
  exact wr_i (pc := 4) C R dX10_give_4 rfl h
set_option maxRecDepth 20000 in
set_option maxHeartbeats 4000000 in
theorem pX10_order_L21 {Y : xY} {Z : xZ} {B : xB} {z : Int32 × xM} (C : xC (GM Y) Z B "BetweenStopsModel" cX10_order 5 8) (R : xRi (GM Y) B .int z) {k62 : Int32 → xM → Option (Int32 × xM)} {a1 : Int32}
    (hk62 : ∀ (a2 : Int32) (s : xM), k62 a2 s = some z → xWS (GM Y) B 5 s [(0, .ref (Y.1 0)), (2, .int a2)] 62 []) : ∀ (n : Nat) (a2 : Int32) (a3 : Int32) (s : xM), fX10_order_L21 k62 a1 n a2 a3 s = some z → xWS (GM Y) B 5 s [(0, .ref (Y.1 0)), (1, .int a1), (2, .int a2), (3, .int a3)] 21 [] := by
  intro n
  induction n with
  | zero =>
    intro a2 a3 s h
    rw [fX10_order_L21] at h
    cases h
  | succ n ih =>
    intro a2 a3 s h
    rw [fX10_order_L21] at h
    refine ws_iload_n (pc := 21) C dX10_order_21 rfl 3 rfl ?_
    refine ws_iload_n (pc := 22) C dX10_order_22 rfl 1 rfl ?_
    refine ws_icmp_ge (pc := 23) (tgt := 62) C dX10_order_23 (by decide) (fun c1 => ?_) (fun c1 => ?_)
    · have h := ite_t h c1
      refine ws_less [0, 2] rfl ?_
      exact hk62 _ _ h
    · have h := ite_f h c1
      refine ws_aload_n (pc := 26) C dX10_order_26 rfl 0 rfl ?_
      obtain ⟨r2, s3, q4, h⟩ := bd_ok h
      refine wc_iV (pc := 27)  C [] [] (mX10_givesUp q4) dX10_order_27 mw_X10_givesUp mv_X10_givesUp kl_X10_355 so_M rfl rfl (Nat.le_of_ble_eq_true rfl) ⟨by decide, by decide⟩ ?_
      refine ws_istore (pc := 30) C dX10_order_30 (by decide) rfl ?_
      refine ws_iload (pc := 32) C dX10_order_32 0 rfl ?_
      refine ws_iconst (pc := 34) C dX10_order_34 ci_m1 ?_
      refine ws_icmp_eq (pc := 35) (tgt := 56) C dX10_order_35 (by decide) (fun c5 => ?_) (fun c5 => ?_)
      · have h := ite_t h c5
        refine ws_iinc (j := 4) (pc := 56) C dX10_order_56 rfl (cn_1 _) (by decide) rfl ?_
        refine ws_goto (pc := 59) (tgt := 21) C dX10_order_59 (by decide) ?_
        refine ws_less [2, 3, 4, 0] rfl ?_
        exact ih _ _ _ h
      · have h := ite_f h c5
        refine ws_aload_n (pc := 38) C dX10_order_38 rfl 1 rfl ?_
        refine ws_getr (pc := 39) C dX10_order_39 fd_X10_35 sf_M_9 ?_
        refine ws_iload (pc := 42) C dX10_order_42 0 rfl ?_
        refine ws_iconst (pc := 44) C dX10_order_44 ci_0 ?_
        obtain ⟨g6, h⟩ := gd_ok h
        obtain ⟨s7, e8, h⟩ := lz_ok h
        refine ws_iastK (pc := 45) C dX10_order_45 sr_m_open g6 rfl e8 ?_
        refine ws_bipush (pc := 46) C dX10_order_46 cb_10 ?_
        refine ws_iload_n (pc := 48) C dX10_order_48 rfl 3 rfl ?_
        refine ws_imul (pc := 49) C dX10_order_49 ?_
        refine ws_iload (pc := 50) C dX10_order_50 0 rfl ?_
        refine ws_iadd (pc := 52) C dX10_order_52 ?_
        refine ws_iconst (pc := 53) C dX10_order_53 ci_1 ?_
        refine ws_iadd (pc := 54) C dX10_order_54 ?_
        obtain ⟨v9, e10, h⟩ := lz_ok h
        refine ws_topi C e10 ?_
        refine ws_istore_n (pc := 55) C dX10_order_55 rfl (by decide) rfl ?_
        refine ws_iinc (j := 4) (pc := 56) C dX10_order_56 rfl (cn_1 _) (by decide) rfl ?_
        refine ws_goto (pc := 59) (tgt := 21) C dX10_order_59 (by decide) ?_
        refine ws_less [3, 4, 1, 0] rfl ?_
        exact ih _ _ _ h
set_option maxRecDepth 20000 in
set_option maxHeartbeats 4000000 in
theorem mX10_order {Y : xY} {Z : xZ} {a1 : Int32} {s : xM} {z : Int32 × xM} (h : fX10_order a1 s = some z) : xMi (GM Y) Z yX10_order cX10_order 5 8 .int [.ref (Y.1 0), .int a1] s z := by
  refine xMi_of (by decide) (Nat.le_of_ble_eq_true rfl) (fun B C R => ?_)
  have C : xC (GM Y) Z B "BetweenStopsModel" cX10_order 5 8 := C
  show xWS (GM Y) B 5 s [(0, .ref (Y.1 0)), (1, .int a1)] 0 []
  unfold fX10_order at h
  refine ws_iload_n (pc := 0) C dX10_order_0 rfl 1 rfl ?_
  refine ws_iconst (pc := 1) C dX10_order_1 ci_0 ?_
  refine ws_bipush (pc := 2) C dX10_order_2 cb_8 ?_
  obtain ⟨r1, s2, q3, h⟩ := bd_ok h
  refine wc_iS (pc := 4)  C [.int a1, .int (0 : Int32), .int (8 : Int32)] [] (mX10_in q3) dX10_order_4 mw_X10_in ks_X10_in kl_X10_162 rfl rfl (Nat.le_of_ble_eq_true rfl) ⟨by decide, by decide⟩ ?_
  refine ws_if_ne (pc := 7) (tgt := 13) C dX10_order_7 (by decide) (fun c4 => ?_) (fun c4 => ?_)
  · have h := ite_f h c4
    refine ws_aload_n (pc := 13) C dX10_order_13 rfl 0 rfl ?_
    obtain ⟨r5, s6, q7, h⟩ := bd_ok h
    refine wc_vV (pc := 14)  C [] [] (mX10_keeps q7) dX10_order_14 mw_X10_keeps mv_X10_keeps kl_X10_322 so_M rfl rfl (Nat.le_of_ble_eq_true rfl) ⟨by decide, by decide⟩ ?_
    refine ws_iconst (pc := 17) C dX10_order_17 ci_0 ?_
    refine ws_istore_n (pc := 18) C dX10_order_18 rfl (by decide) rfl ?_
    refine ws_iconst (pc := 19) C dX10_order_19 ci_0 ?_
    refine ws_istore_n (pc := 20) C dX10_order_20 rfl (by decide) rfl ?_
    refine ws_less [2, 3, 1, 0] rfl ?_
    refine pX10_order_L21 C R (fun x8 s9 h => ?_) fu _ _ _ h
    · refine ws_aload_n (pc := 62) C dX10_order_62 rfl 0 rfl ?_
      obtain ⟨r10, s11, q12, h⟩ := bd_ok h
      refine wc_vV (pc := 63)  C [] [] (mX10_lays q12) dX10_order_63 mw_X10_lays mv_X10_lays kl_X10_339 so_M rfl rfl (Nat.le_of_ble_eq_true rfl) ⟨by decide, by decide⟩ ?_
      refine ws_iload_n (pc := 66) C dX10_order_66 rfl 1 rfl ?_
      exact wr_i (pc := 67) C R dX10_order_67 rfl h
  · have h := ite_t h c4
    refine ws_bipush (pc := 10) C dX10_order_10 cb_m2 ?_
    exact wr_i (pc := 12) C R dX10_order_12 rfl h
set_option maxRecDepth 20000 in
set_option maxHeartbeats 4000000 in
theorem pX10_thins_L7 {Y : xY} {Z : xZ} {B : xB} {z : Int32 × xM} (C : xC (GM Y) Z B "BetweenStopsModel" cX10_thins 3 8) (R : xRi (GM Y) B .int z) {k42 : Int32 → xM → Option (Int32 × xM)}
    (hk42 : ∀ (a1 : Int32) (s : xM), k42 a1 s = some z → xWS (GM Y) B 3 s [(1, .int a1)] 42 []) : ∀ (n : Nat) (a1 : Int32) (a2 : Int32) (s : xM), fX10_thins_L7 k42 n a1 a2 s = some z → xWS (GM Y) B 3 s [(0, .ref (Y.1 0)), (1, .int a1), (2, .int a2)] 7 [] := by
  intro n
  induction n with
  | zero =>
    intro a1 a2 s h
    rw [fX10_thins_L7] at h
    cases h
  | succ n ih =>
    intro a1 a2 s h
    rw [fX10_thins_L7] at h
    refine ws_iload_n (pc := 7) C dX10_thins_7 rfl 2 rfl ?_
    refine ws_iconst (pc := 8) C dX10_thins_8 ci_m1 ?_
    refine ws_icmp_eq (pc := 9) (tgt := 42) C dX10_thins_9 (by decide) (fun c1 => ?_) (fun c1 => ?_)
    · have h := ite_t h c1
      refine ws_less [1] rfl ?_
      exact hk42 _ _ h
    · have h := ite_f h c1
      refine ws_aload_n (pc := 12) C dX10_thins_12 rfl 0 rfl ?_
      refine ws_getl (pc := 13) C dX10_thins_13 fd_X10_352 sf_M_62 ?_
      refine ws_aload_n (pc := 16) C dX10_thins_16 rfl 0 rfl ?_
      obtain ⟨r2, s3, q4, h⟩ := bd_ok h
      refine wc_lV (pc := 17)  C [] [.long (gl s 0 62)] (mX10_total q4) dX10_thins_17 mw_X10_total mv_X10_total kl_X10_257 so_M rfl rfl (Nat.le_of_ble_eq_true rfl) ⟨by decide, by decide⟩ ?_
      refine ws_lcmp (pc := 20) C dX10_thins_20 ?_
      refine ws_if_gt (pc := 21) (tgt := 42) C dX10_thins_21 (by decide) (fun c5 => ?_) (fun c5 => ?_)
      · have h := ite_t h c5
        refine ws_less [1] rfl ?_
        exact hk42 _ _ h
      · have h := ite_f h c5
        refine ws_aload_n (pc := 24) C dX10_thins_24 rfl 0 rfl ?_
        refine ws_getr (pc := 25) C dX10_thins_25 fd_X10_35 sf_M_9 ?_
        refine ws_iload_n (pc := 28) C dX10_thins_28 rfl 2 rfl ?_
        refine ws_iconst (pc := 29) C dX10_thins_29 ci_0 ?_
        obtain ⟨g6, h⟩ := gd_ok h
        obtain ⟨s7, e8, h⟩ := lz_ok h
        refine ws_iastK (pc := 30) C dX10_thins_30 sr_m_open g6 rfl e8 ?_
        refine ws_iinc (j := 1) (pc := 31) C dX10_thins_31 rfl (cn_1 _) (by decide) rfl ?_
        refine ws_aload_n (pc := 34) C dX10_thins_34 rfl 1 rfl ?_
        obtain ⟨r9, s10, q11, h⟩ := bd_ok h
        refine wc_iV (pc := 35)  C [] [] (mX10_givesUp q11) dX10_thins_35 mw_X10_givesUp mv_X10_givesUp kl_X10_355 so_M rfl rfl (Nat.le_of_ble_eq_true rfl) ⟨by decide, by decide⟩ ?_
        refine ws_istore_n (pc := 38) C dX10_thins_38 rfl (by decide) rfl ?_
        refine ws_goto (pc := 39) (tgt := 7) C dX10_thins_39 (by decide) ?_
        refine ws_less [2, 1, 0] rfl ?_
        exact ih _ _ _ h
set_option maxRecDepth 20000 in
set_option maxHeartbeats 4000000 in
theorem mX10_thins {Y : xY} {Z : xZ} {s : xM} {z : Int32 × xM} (h : fX10_thins s = some z) : xMi (GM Y) Z yX10_thins cX10_thins 3 8 .int [.ref (Y.1 0)] s z := by
  refine xMi_of (by decide) (Nat.le_of_ble_eq_true rfl) (fun B C R => ?_)
  have C : xC (GM Y) Z B "BetweenStopsModel" cX10_thins 3 8 := C
  show xWS (GM Y) B 3 s [(0, .ref (Y.1 0))] 0 []
  unfold fX10_thins at h
  refine ws_iconst (pc := 0) C dX10_thins_0 ci_0 ?_
  refine ws_istore_n (pc := 1) C dX10_thins_1 rfl (by decide) rfl ?_
  refine ws_aload_n (pc := 2) C dX10_thins_2 rfl 1 rfl ?_
  obtain ⟨r1, s2, q3, h⟩ := bd_ok h
  refine wc_iV (pc := 3)  C [] [] (mX10_givesUp q3) dX10_thins_3 mw_X10_givesUp mv_X10_givesUp kl_X10_355 so_M rfl rfl (Nat.le_of_ble_eq_true rfl) ⟨by decide, by decide⟩ ?_
  refine ws_istore_n (pc := 6) C dX10_thins_6 rfl (by decide) rfl ?_
  refine ws_less [2, 1, 0] rfl ?_
  refine pX10_thins_L7 C R (fun x4 s5 h => ?_) fu _ _ _ h
  · refine ws_iload_n (pc := 42) C dX10_thins_42 rfl 0 rfl ?_
    exact wr_i (pc := 43) C R dX10_thins_43 rfl h
set_option maxRecDepth 20000 in
set_option maxHeartbeats 4000000 in
theorem mX10_across {Y : xY} {Z : xZ} {a1 : Int32} {s : xM} {z : Int64 × xM} (h : fX10_across a1 s = some z) : xMl (GM Y) Z yX10_across cX10_across 4 7 [.ref (Y.1 0), .int a1] s z := by
  refine xMl_of (by decide) (Nat.le_of_ble_eq_true rfl) (fun B C R => ?_)
  have C : xC (GM Y) Z B "BetweenStopsModel" cX10_across 4 7 := C
  show xWS (GM Y) B 4 s [(0, .ref (Y.1 0)), (1, .int a1)] 0 []
  unfold fX10_across at h
  refine ws_aload_n (pc := 0) C dX10_across_0 rfl 0 rfl ?_
  refine ws_iload_n (pc := 1) C dX10_across_1 rfl 1 rfl ?_
  obtain ⟨r1, s2, q3, h⟩ := bd_ok h
  refine wc_iV (pc := 2)  C [.int a1] [] (mX10_isStop q3) dX10_across_2 mw_X10_isStop mv_X10_isStop kl_X10_180 so_M rfl rfl (Nat.le_of_ble_eq_true rfl) ⟨by decide, by decide⟩ ?_
  refine ws_if_eq (pc := 5) (tgt := 18) C dX10_across_5 (by decide) (fun c4 => ?_) (fun c4 => ?_)
  · have h := ite_t h c4
    refine ws_ldc2 (pc := 18) C dX10_across_18 kK_X10_255 ?_
    exact wr_l (pc := 21) C R dX10_across_21 h
  · have h := ite_f h c4
    refine ws_aload_n (pc := 8) C dX10_across_8 rfl 0 rfl ?_
    refine ws_getr (pc := 9) C dX10_across_9 fd_X10_23 sf_M_5 ?_
    refine ws_iload_n (pc := 12) C dX10_across_12 rfl 1 rfl ?_
    obtain ⟨g5, h⟩ := gd_ok h
    refine ws_ialdK (pc := 13) C dX10_across_13 sr_m_kind g5 rfl ?_
    refine ws_iconst (pc := 14) C dX10_across_14 ci_3 ?_
    refine ws_icmp_eq (pc := 15) (tgt := 22) C dX10_across_15 (by decide) (fun c6 => ?_) (fun c6 => ?_)
    · have h := ite_t h c6
      refine ws_aload_n (pc := 22) C dX10_across_22 rfl 0 rfl ?_
      obtain ⟨r7, s8, q9, h⟩ := bd_ok h
      refine wc_lV (pc := 23)  C [] [] (mX10_total q9) dX10_across_23 mw_X10_total mv_X10_total kl_X10_257 so_M rfl rfl (Nat.le_of_ble_eq_true rfl) ⟨by decide, by decide⟩ ?_
      refine ws_lstore_n (pc := 26) C dX10_across_26 rfl (by decide) rfl ?_
      refine ws_aload_n (pc := 27) C dX10_across_27 rfl 1 rfl ?_
      refine ws_getr (pc := 28) C dX10_across_28 fd_X10_23 sf_M_5 ?_
      refine ws_iload_n (pc := 31) C dX10_across_31 rfl 2 rfl ?_
      refine ws_iconst (pc := 32) C dX10_across_32 ci_0 ?_
      obtain ⟨g10, h⟩ := gd_ok h
      obtain ⟨s11, e12, h⟩ := lz_ok h
      refine ws_iastK (pc := 33) C dX10_across_33 sr_m_kind g10 rfl e12 ?_
      refine ws_lload_n (pc := 34) C dX10_across_34 rfl 0 rfl ?_
      refine ws_aload_n (pc := 35) C dX10_across_35 rfl 1 rfl ?_
      obtain ⟨r13, s14, q15, h⟩ := bd_ok h
      refine wc_lV (pc := 36)  C [] [.long r7] (mX10_total q15) dX10_across_36 mw_X10_total mv_X10_total kl_X10_257 so_M rfl rfl (Nat.le_of_ble_eq_true rfl) ⟨by decide, by decide⟩ ?_
      refine ws_lsub (pc := 39) C dX10_across_39 ?_
      obtain ⟨v16, e17, h⟩ := lz_ok h
      refine ws_topl C e17 ?_
      refine ws_lstore_n (pc := 40) C dX10_across_40 rfl (by decide) rfl ?_
      refine ws_aload_n (pc := 41) C dX10_across_41 rfl 1 rfl ?_
      refine ws_getr (pc := 42) C dX10_across_42 fd_X10_23 sf_M_5 ?_
      refine ws_iload_n (pc := 45) C dX10_across_45 rfl 2 rfl ?_
      refine ws_iconst (pc := 46) C dX10_across_46 ci_3 ?_
      obtain ⟨g18, h⟩ := gd_ok h
      obtain ⟨s19, e20, h⟩ := lz_ok h
      refine ws_iastK (pc := 47) C dX10_across_47 sr_m_kind g18 rfl e20 ?_
      refine ws_lload_n (pc := 48) C dX10_across_48 rfl 0 rfl ?_
      exact wr_l (pc := 49) C R dX10_across_49 h
    · have h := ite_f h c6
      refine ws_ldc2 (pc := 18) C dX10_across_18 kK_X10_255 ?_
      exact wr_l (pc := 21) C R dX10_across_21 h
set_option maxRecDepth 20000 in
set_option maxHeartbeats 4000000 in
theorem pX10_homesNow_L4 {Y : xY} {Z : xZ} {B : xB} {z : Int32 × xM} (C : xC (GM Y) Z B "BetweenStopsModel" cX10_homesNow 3 6) (R : xRi (GM Y) B .int z) {k73 : Int32 → xM → Option (Int32 × xM)}
    (hk73 : ∀ (a1 : Int32) (s : xM), k73 a1 s = some z → xWS (GM Y) B 3 s [(1, .int a1)] 73 []) : ∀ (n : Nat) (a1 : Int32) (a2 : Int32) (s : xM), fX10_homesNow_L4 k73 n a1 a2 s = some z → xWS (GM Y) B 3 s [(0, .ref (Y.1 0)), (1, .int a1), (2, .int a2)] 4 [] := by
  intro n
  induction n with
  | zero =>
    intro a1 a2 s h
    rw [fX10_homesNow_L4] at h
    cases h
  | succ n ih =>
    intro a1 a2 s h
    rw [fX10_homesNow_L4] at h
    refine ws_iload_n (pc := 4) C dX10_homesNow_4 rfl 2 rfl ?_
    refine ws_aload_n (pc := 5) C dX10_homesNow_5 rfl 0 rfl ?_
    refine ws_geti (pc := 6) C dX10_homesNow_6 fd_X10_169 sf_M_12 ?_
    refine ws_icmp_ge (pc := 9) (tgt := 73) C dX10_homesNow_9 (by decide) (fun c1 => ?_) (fun c1 => ?_)
    · have h := ite_t h c1
      refine ws_less [1] rfl ?_
      exact hk73 _ _ h
    · have h := ite_f h c1
      refine ws_aload_n (pc := 12) C dX10_homesNow_12 rfl 0 rfl ?_
      refine ws_iload_n (pc := 13) C dX10_homesNow_13 rfl 2 rfl ?_
      obtain ⟨r2, s3, q4, h⟩ := bd_ok h
      refine wc_vV (pc := 14)  C [.int a2] [] (mX10_finds q4) dX10_homesNow_14 mw_X10_finds mv_X10_finds kl_X10_242 so_M rfl rfl (Nat.le_of_ble_eq_true rfl) ⟨by decide, by decide⟩ ?_
      refine ws_aload_n (pc := 17) C dX10_homesNow_17 rfl 0 rfl ?_
      refine ws_aload_n (pc := 18) C dX10_homesNow_18 rfl 0 rfl ?_
      refine ws_geti (pc := 19) C dX10_homesNow_19 fd_X10_217 sf_M_37 ?_
      refine ws_aload_n (pc := 22) C dX10_homesNow_22 rfl 0 rfl ?_
      refine ws_geti (pc := 23) C dX10_homesNow_23 fd_X10_226 sf_M_40 ?_
      refine ws_aload_n (pc := 26) C dX10_homesNow_26 rfl 0 rfl ?_
      refine ws_geti (pc := 27) C dX10_homesNow_27 fd_X10_229 sf_M_41 ?_
      refine ws_aload_n (pc := 30) C dX10_homesNow_30 rfl 0 rfl ?_
      refine ws_geti (pc := 31) C dX10_homesNow_31 fd_X10_232 sf_M_42 ?_
      obtain ⟨r5, s6, q7, h⟩ := bd_ok h
      refine wc_vV (pc := 34)  C [.int (gi s3 0 37), .int (gi s3 0 40), .int (gi s3 0 41), .int (gi s3 0 42)] [] (mX10_names q7) dX10_homesNow_34 mw_X10_names mv_X10_names kl_X10_358 so_M rfl rfl (Nat.le_of_ble_eq_true rfl) ⟨by decide, by decide⟩ ?_
      refine ws_iload_n (pc := 37) C dX10_homesNow_37 rfl 1 rfl ?_
      refine ws_aload_n (pc := 38) C dX10_homesNow_38 rfl 0 rfl ?_
      refine ws_iconst (pc := 39) C dX10_homesNow_39 ci_0 ?_
      refine ws_aload_n (pc := 40) C dX10_homesNow_40 rfl 0 rfl ?_
      refine ws_getr (pc := 41) C dX10_homesNow_41 fd_X10_50 sf_M_15 ?_
      refine ws_iload_n (pc := 44) C dX10_homesNow_44 rfl 2 rfl ?_
      obtain ⟨g8, h⟩ := gd_ok h
      refine ws_ialdK (pc := 45) C dX10_homesNow_45 sr_m_tripMany g8 rfl ?_
      refine ws_aload_n (pc := 46) C dX10_homesNow_46 rfl 0 rfl ?_
      refine ws_getr (pc := 47) C dX10_homesNow_47 fd_X10_53 sf_M_16 ?_
      refine ws_iload_n (pc := 50) C dX10_homesNow_50 rfl 2 rfl ?_
      obtain ⟨g9, h⟩ := gd_ok h
      refine ws_ialdK (pc := 51) C dX10_homesNow_51 sr_m_tripSort g9 rfl ?_
      obtain ⟨r10, s11, q12, h⟩ := bd_ok h
      refine wc_iV (pc := 52)  C [.int (0 : Int32), .int (gi s6 12 a2.toNatClampNeg), .int (gi s6 13 a2.toNatClampNeg)] [.int a1] (mX10_says q12) dX10_homesNow_52 mw_X10_says mv_X10_says kl_X10_362 so_M rfl rfl (Nat.le_of_ble_eq_true rfl) ⟨by decide, by decide⟩ ?_
      refine ws_if_ne (pc := 55) (tgt := 62) C dX10_homesNow_55 (by decide) (fun c13 => ?_) (fun c13 => ?_)
      · have h := ite_f h c13
        refine ws_iconst (pc := 62) C dX10_homesNow_62 ci_1 ?_
        refine ws_iload_n (pc := 63) C dX10_homesNow_63 rfl 2 rfl ?_
        refine ws_ishl (pc := 64) C dX10_homesNow_64 ?_
        refine ws_ior (pc := 65) C dX10_homesNow_65 ?_
        obtain ⟨v14, e15, h⟩ := lz_ok h
        refine ws_topi C e15 ?_
        refine ws_istore_n (pc := 66) C dX10_homesNow_66 rfl (by decide) rfl ?_
        refine ws_iinc (j := 2) (pc := 67) C dX10_homesNow_67 rfl (cn_1 _) (by decide) rfl ?_
        refine ws_goto (pc := 70) (tgt := 4) C dX10_homesNow_70 (by decide) ?_
        refine ws_less [2, 1, 0] rfl ?_
        exact ih _ _ _ h
      · have h := ite_t h c13
        refine ws_iconst (pc := 58) C dX10_homesNow_58 ci_0 ?_
        refine ws_goto (pc := 59) (tgt := 65) C dX10_homesNow_59 (by decide) ?_
        refine ws_ior (pc := 65) C dX10_homesNow_65 ?_
        obtain ⟨v16, e17, h⟩ := lz_ok h
        refine ws_topi C e17 ?_
        refine ws_istore_n (pc := 66) C dX10_homesNow_66 rfl (by decide) rfl ?_
        refine ws_iinc (j := 2) (pc := 67) C dX10_homesNow_67 rfl (cn_1 _) (by decide) rfl ?_
        refine ws_goto (pc := 70) (tgt := 4) C dX10_homesNow_70 (by decide) ?_
        refine ws_less [2, 1, 0] rfl ?_
        exact ih _ _ _ h
set_option maxRecDepth 20000 in
set_option maxHeartbeats 4000000 in
theorem mX10_homesNow {Y : xY} {Z : xZ} {s : xM} {z : Int32 × xM} (h : fX10_homesNow s = some z) : xMi (GM Y) Z yX10_homesNow cX10_homesNow 3 6 .int [.ref (Y.1 0)] s z := by
  refine xMi_of (by decide) (Nat.le_of_ble_eq_true rfl) (fun B C R => ?_)
  have C : xC (GM Y) Z B "BetweenStopsModel" cX10_homesNow 3 6 := C
  show xWS (GM Y) B 3 s [(0, .ref (Y.1 0))] 0 []
  unfold fX10_homesNow at h
  refine ws_iconst (pc := 0) C dX10_homesNow_0 ci_0 ?_
  refine ws_istore_n (pc := 1) C dX10_homesNow_1 rfl (by decide) rfl ?_
  refine ws_iconst (pc := 2) C dX10_homesNow_2 ci_0 ?_
  refine ws_istore_n (pc := 3) C dX10_homesNow_3 rfl (by decide) rfl ?_
  refine ws_less [2, 1, 0] rfl ?_
  refine pX10_homesNow_L4 C R (fun x1 s2 h => ?_) fu _ _ _ h
  · refine ws_iload_n (pc := 73) C dX10_homesNow_73 rfl 0 rfl ?_
    exact wr_i (pc := 74) C R dX10_homesNow_74 rfl h
set_option maxRecDepth 20000 in
set_option maxHeartbeats 4000000 in
theorem mX10_homes {Y : xY} {Z : xZ} {s : xM} {z : Int32 × xM} (h : fX10_homes s = some z) : xMi (GM Y) Z yX10_homes cX10_homes 1 7 .int [.ref (Y.1 0)] s z := by
  refine xMi_of (by decide) (Nat.le_of_ble_eq_true rfl) (fun B C R => ?_)
  have C : xC (GM Y) Z B "BetweenStopsModel" cX10_homes 1 7 := C
  show xWS (GM Y) B 1 s [(0, .ref (Y.1 0))] 0 []
  unfold fX10_homes at h
  refine ws_aload_n (pc := 0) C dX10_homes_0 rfl 0 rfl ?_
  obtain ⟨r1, s2, q3, h⟩ := bd_ok h
  refine wc_iV (pc := 1)  C [] [] (mX10_homesNow q3) dX10_homes_1 mw_X10_homesNow mv_X10_homesNow kl_X10_365 so_M rfl rfl (Nat.le_of_ble_eq_true rfl) ⟨by decide, by decide⟩ ?_
  exact wr_i (pc := 4) C R dX10_homes_4 rfl h
set_option maxRecDepth 20000 in
set_option maxHeartbeats 4000000 in
theorem pX10_roundFrom_L8 {Y : xY} {Z : xZ} {B : xB} {z : Int32 × xM} (C : xC (GM Y) Z B "BetweenStopsModel" cX10_roundFrom 10 7) (R : xRi (GM Y) B .int z) {k61 : Int64 → Int64 → xM → Option (Int32 × xM)} {a1 : Int32}
    (hk61 : ∀ (a2 : Int64) (a4 : Int64) (s : xM), k61 a2 a4 s = some z → xWS (GM Y) B 10 s [(0, .ref (Y.1 0)), (2, .long a2), (4, .long a4)] 61 []) : ∀ (n : Nat) (a2 : Int64) (a4 : Int64) (a6 : Int32) (s : xM), fX10_roundFrom_L8 k61 a1 n a2 a4 a6 s = some z → xWS (GM Y) B 10 s [(0, .ref (Y.1 0)), (1, .int a1), (2, .long a2), (4, .long a4), (6, .int a6)] 8 [] := by
  intro n
  induction n with
  | zero =>
    intro a2 a4 a6 s h
    rw [fX10_roundFrom_L8] at h
    cases h
  | succ n ih =>
    intro a2 a4 a6 s h
    rw [fX10_roundFrom_L8] at h
    refine ws_iload (pc := 8) C dX10_roundFrom_8 4 rfl ?_
    refine ws_aload_n (pc := 10) C dX10_roundFrom_10 rfl 0 rfl ?_
    refine ws_geti (pc := 11) C dX10_roundFrom_11 fd_X10_169 sf_M_12 ?_
    refine ws_icmp_ge (pc := 14) (tgt := 61) C dX10_roundFrom_14 (by decide) (fun c1 => ?_) (fun c1 => ?_)
    · have h := ite_t h c1
      refine ws_less [0, 2, 3] rfl ?_
      exact hk61 _ _ _ h
    · have h := ite_f h c1
      refine ws_lload_n (pc := 17) C dX10_roundFrom_17 rfl 2 rfl ?_
      refine ws_aload_n (pc := 18) C dX10_roundFrom_18 rfl 0 rfl ?_
      refine ws_getr (pc := 19) C dX10_roundFrom_19 fd_X10_50 sf_M_15 ?_
      refine ws_iload (pc := 22) C dX10_roundFrom_22 4 rfl ?_
      obtain ⟨g2, h⟩ := gd_ok h
      refine ws_ialdK (pc := 24) C dX10_roundFrom_24 sr_m_tripMany g2 rfl ?_
      refine ws_i2l (pc := 25) C dX10_roundFrom_25 ?_
      refine ws_ladd (pc := 26) C dX10_roundFrom_26 ?_
      obtain ⟨v3, e4, h⟩ := lz_ok h
      refine ws_topl C e4 ?_
      refine ws_lstore_n (pc := 27) C dX10_roundFrom_27 rfl (by decide) rfl ?_
      refine ws_lload (pc := 28) C dX10_roundFrom_28 3 rfl ?_
      refine ws_iload_n (pc := 30) C dX10_roundFrom_30 rfl 2 rfl ?_
      refine ws_iload (pc := 31) C dX10_roundFrom_31 4 rfl ?_
      refine ws_ishr (pc := 33) C dX10_roundFrom_33 ?_
      refine ws_iconst (pc := 34) C dX10_roundFrom_34 ci_1 ?_
      refine ws_iand (pc := 35) C dX10_roundFrom_35 ?_
      refine ws_iconst (pc := 36) C dX10_roundFrom_36 ci_1 ?_
      refine ws_icmp_ne (pc := 37) (tgt := 44) C dX10_roundFrom_37 (by decide) (fun c5 => ?_) (fun c5 => ?_)
      · have h := ite_f h c5
        refine ws_aload_n (pc := 44) C dX10_roundFrom_44 rfl 1 rfl ?_
        refine ws_getr (pc := 45) C dX10_roundFrom_45 fd_X10_50 sf_M_15 ?_
        refine ws_iload (pc := 48) C dX10_roundFrom_48 4 rfl ?_
        obtain ⟨g6, h⟩ := gd_ok h
        refine ws_ialdK (pc := 50) C dX10_roundFrom_50 sr_m_tripMany g6 rfl ?_
        refine ws_i2l (pc := 51) C dX10_roundFrom_51 ?_
        refine ws_ladd (pc := 52) C dX10_roundFrom_52 ?_
        obtain ⟨v7, e8, h⟩ := lz_ok h
        refine ws_topl C e8 ?_
        refine ws_lstore (pc := 53) C dX10_roundFrom_53 (by decide) rfl ?_
        refine ws_iinc (j := 4) (pc := 55) C dX10_roundFrom_55 rfl (cn_1 _) (by decide) rfl ?_
        refine ws_goto (pc := 58) (tgt := 8) C dX10_roundFrom_58 (by decide) ?_
        refine ws_less [3, 4, 2, 1, 0] rfl ?_
        exact ih _ _ _ _ h
      · have h := ite_t h c5
        refine ws_lconst (v := 0) (pc := 40) C dX10_roundFrom_40 (by decide) ?_
        refine ws_goto (pc := 41) (tgt := 52) C dX10_roundFrom_41 (by decide) ?_
        refine ws_ladd (pc := 52) C dX10_roundFrom_52 ?_
        obtain ⟨v9, e10, h⟩ := lz_ok h
        refine ws_topl C e10 ?_
        refine ws_lstore (pc := 53) C dX10_roundFrom_53 (by decide) rfl ?_
        refine ws_iinc (j := 4) (pc := 55) C dX10_roundFrom_55 rfl (cn_1 _) (by decide) rfl ?_
        refine ws_goto (pc := 58) (tgt := 8) C dX10_roundFrom_58 (by decide) ?_
        refine ws_less [3, 4, 2, 1, 0] rfl ?_
        exact ih _ _ _ _ h
set_option maxRecDepth 20000 in
set_option maxHeartbeats 4000000 in
theorem pX10_roundFrom_J120 {Y : xY} {Z : xZ} {B : xB} {z : Int32 × xM} (C : xC (GM Y) Z B "BetweenStopsModel" cX10_roundFrom 10 7) (R : xRi (GM Y) B .int z) {a8 : Int32} {t0 : Int32} {s : xM} (h : fX10_roundFrom_J120 a8 t0 s = some z) : xWS (GM Y) B 10 s [(0, .ref (Y.1 0)), (8, .int a8)] 120 [.int t0, .ref (Y.1 0)] := by
  unfold fX10_roundFrom_J120 at h
  obtain ⟨s1, e2, h⟩ := lz_ok h
  refine ws_putI (pc := 120) C dX10_roundFrom_120 fp_X10_16 sf_M_2 e2 ?_
  refine ws_aload_n (pc := 123) C dX10_roundFrom_123 rfl 0 rfl ?_
  obtain ⟨r3, s4, q5, h⟩ := bd_ok h
  refine wc_iV (pc := 124)  C [] [] (mX10_homesNow q5) dX10_roundFrom_124 mw_X10_homesNow mv_X10_homesNow kl_X10_365 so_M rfl rfl (Nat.le_of_ble_eq_true rfl) ⟨by decide, by decide⟩ ?_
  refine ws_istore (pc := 127) C dX10_roundFrom_127 (by decide) rfl ?_
  refine ws_aload_n (pc := 129) C dX10_roundFrom_129 rfl 1 rfl ?_
  refine ws_iload (pc := 130) C dX10_roundFrom_130 2 rfl ?_
  obtain ⟨s6, e7, h⟩ := lz_ok h
  refine ws_putI (pc := 132) C dX10_roundFrom_132 fp_X10_16 sf_M_2 e7 ?_
  refine ws_iload (pc := 135) C dX10_roundFrom_135 0 rfl ?_
  exact wr_i (pc := 137) C R dX10_roundFrom_137 rfl h
set_option maxRecDepth 20000 in
set_option maxHeartbeats 4000000 in
theorem pX10_roundFrom_J81 {Y : xY} {Z : xZ} {B : xB} {z : Int32 × xM} (C : xC (GM Y) Z B "BetweenStopsModel" cX10_roundFrom 10 7) (R : xRi (GM Y) B .int z) {t0 : Int64} {t1 : Int64} {s : xM} (h : fX10_roundFrom_J81 t0 t1 s = some z) : xWS (GM Y) B 10 s [(0, .ref (Y.1 0))] 81 [.long t0, .long t1] := by
  unfold fX10_roundFrom_J81 at h
  obtain ⟨g1, h⟩ := gd_ok h
  refine ws_ldiv (pc := 81) C dX10_roundFrom_81 (of_decide_eq_true g1) ?_
  obtain ⟨v2, e3, h⟩ := lz_ok h
  refine ws_topl C e3 ?_
  refine ws_lstore (pc := 82) C dX10_roundFrom_82 (by decide) rfl ?_
  refine ws_aload_n (pc := 84) C dX10_roundFrom_84 rfl 1 rfl ?_
  refine ws_geti (pc := 85) C dX10_roundFrom_85 fd_X10_16 sf_M_2 ?_
  obtain ⟨v4, e5, h⟩ := lz_ok h
  refine ws_topi C e5 ?_
  refine ws_istore (pc := 88) C dX10_roundFrom_88 (by decide) rfl ?_
  refine ws_aload_n (pc := 90) C dX10_roundFrom_90 rfl 2 rfl ?_
  refine ws_lload (pc := 91) C dX10_roundFrom_91 1 rfl ?_
  refine ws_lconst (v := 1) (pc := 93) C dX10_roundFrom_93 (by decide) ?_
  refine ws_lcmp (pc := 94) C dX10_roundFrom_94 ?_
  refine ws_if_ge (pc := 95) (tgt := 102) C dX10_roundFrom_95 (by decide) (fun c6 => ?_) (fun c6 => ?_)
  · have h := ite_t h c6
    refine ws_lload (pc := 102) C dX10_roundFrom_102 1 rfl ?_
    refine ws_ldc2 (pc := 104) C dX10_roundFrom_104 kK_X10_368 ?_
    refine ws_lcmp (pc := 107) C dX10_roundFrom_107 ?_
    refine ws_if_le (pc := 108) (tgt := 117) C dX10_roundFrom_108 (by decide) (fun c7 => ?_) (fun c7 => ?_)
    · have h := ite_t h c7
      refine ws_lload (pc := 117) C dX10_roundFrom_117 1 rfl ?_
      refine ws_l2i (pc := 119) C dX10_roundFrom_119 ?_
      refine ws_less [2, 0] rfl ?_
      exact pX10_roundFrom_J120 C R h
    · have h := ite_f h c7
      refine ws_sipush (pc := 111) C dX10_roundFrom_111 cs_3600 ?_
      refine ws_goto (pc := 114) (tgt := 120) C dX10_roundFrom_114 (by decide) ?_
      refine ws_less [2, 0] rfl ?_
      exact pX10_roundFrom_J120 C R h
  · have h := ite_f h c6
    refine ws_iconst (pc := 98) C dX10_roundFrom_98 ci_1 ?_
    refine ws_goto (pc := 99) (tgt := 120) C dX10_roundFrom_99 (by decide) ?_
    refine ws_less [2, 0] rfl ?_
    exact pX10_roundFrom_J120 C R h
set_option maxRecDepth 20000 in
set_option maxHeartbeats 4000000 in
theorem mX10_roundFrom {Y : xY} {Z : xZ} {a1 : Int32} {s : xM} {z : Int32 × xM} (h : fX10_roundFrom a1 s = some z) : xMi (GM Y) Z yX10_roundFrom cX10_roundFrom 10 7 .int [.ref (Y.1 0), .int a1] s z := by
  refine xMi_of (by decide) (Nat.le_of_ble_eq_true rfl) (fun B C R => ?_)
  have C : xC (GM Y) Z B "BetweenStopsModel" cX10_roundFrom 10 7 := C
  show xWS (GM Y) B 10 s [(0, .ref (Y.1 0)), (1, .int a1)] 0 []
  unfold fX10_roundFrom at h
  refine ws_lconst (v := 0) (pc := 0) C dX10_roundFrom_0 (by decide) ?_
  refine ws_lstore_n (pc := 1) C dX10_roundFrom_1 rfl (by decide) rfl ?_
  refine ws_lconst (v := 0) (pc := 2) C dX10_roundFrom_2 (by decide) ?_
  refine ws_lstore (pc := 3) C dX10_roundFrom_3 (by decide) rfl ?_
  refine ws_iconst (pc := 5) C dX10_roundFrom_5 ci_0 ?_
  refine ws_istore (pc := 6) C dX10_roundFrom_6 (by decide) rfl ?_
  refine ws_less [3, 4, 2, 1, 0] rfl ?_
  refine pX10_roundFrom_L8 C R (fun x1 x2 s3 h => ?_) fu _ _ _ _ h
  · refine ws_aload_n (pc := 61) C dX10_roundFrom_61 rfl 0 rfl ?_
    refine ws_geti (pc := 62) C dX10_roundFrom_62 fd_X10_16 sf_M_2 ?_
    refine ws_i2l (pc := 65) C dX10_roundFrom_65 ?_
    refine ws_lload_n (pc := 66) C dX10_roundFrom_66 rfl 1 rfl ?_
    refine ws_lmul (pc := 67) C dX10_roundFrom_67 ?_
    refine ws_lload (pc := 68) C dX10_roundFrom_68 2 rfl ?_
    refine ws_lconst (v := 1) (pc := 70) C dX10_roundFrom_70 (by decide) ?_
    refine ws_lcmp (pc := 71) C dX10_roundFrom_71 ?_
    refine ws_if_ge (pc := 72) (tgt := 79) C dX10_roundFrom_72 (by decide) (fun c4 => ?_) (fun c4 => ?_)
    · have h := ite_t h c4
      refine ws_lload (pc := 79) C dX10_roundFrom_79 2 rfl ?_
      refine ws_less [0] rfl ?_
      exact pX10_roundFrom_J81 C R h
    · have h := ite_f h c4
      refine ws_lconst (v := 1) (pc := 75) C dX10_roundFrom_75 (by decide) ?_
      refine ws_goto (pc := 76) (tgt := 81) C dX10_roundFrom_76 (by decide) ?_
      refine ws_less [0] rfl ?_
      exact pX10_roundFrom_J81 C R h
set_option maxRecDepth 20000 in
set_option maxHeartbeats 4000000 in
theorem pX10_round_L17 {Y : xY} {Z : xZ} {B : xB} {z : Int32 × xM} (C : xC (GM Y) Z B "BetweenStopsModel" cX10_round 4 8) (R : xRi (GM Y) B .int z) {k34 : Int32 → xM → Option (Int32 × xM)} {a1 : Int32}
    (hk34 : ∀ (a2 : Int32) (s : xM), k34 a2 s = some z → xWS (GM Y) B 4 s [(2, .int a2)] 34 []) : ∀ (n : Nat) (a2 : Int32) (a3 : Int32) (s : xM), fX10_round_L17 k34 a1 n a2 a3 s = some z → xWS (GM Y) B 4 s [(0, .ref (Y.1 0)), (1, .int a1), (2, .int a2), (3, .int a3)] 17 [] := by
  intro n
  induction n with
  | zero =>
    intro a2 a3 s h
    rw [fX10_round_L17] at h
    cases h
  | succ n ih =>
    intro a2 a3 s h
    rw [fX10_round_L17] at h
    refine ws_iload_n (pc := 17) C dX10_round_17 rfl 3 rfl ?_
    refine ws_iload_n (pc := 18) C dX10_round_18 rfl 1 rfl ?_
    refine ws_icmp_ge (pc := 19) (tgt := 34) C dX10_round_19 (by decide) (fun c1 => ?_) (fun c1 => ?_)
    · have h := ite_t h c1
      refine ws_less [2] rfl ?_
      exact hk34 _ _ h
    · have h := ite_f h c1
      refine ws_aload_n (pc := 22) C dX10_round_22 rfl 0 rfl ?_
      refine ws_iload_n (pc := 23) C dX10_round_23 rfl 2 rfl ?_
      obtain ⟨r2, s3, q4, h⟩ := bd_ok h
      refine wc_iV (pc := 24)  C [.int a2] [] (mX10_roundFrom q4) dX10_round_24 mw_X10_roundFrom mv_X10_roundFrom kl_X10_370 so_M rfl rfl (Nat.le_of_ble_eq_true rfl) ⟨by decide, by decide⟩ ?_
      refine ws_istore_n (pc := 27) C dX10_round_27 rfl (by decide) rfl ?_
      refine ws_iinc (j := 3) (pc := 28) C dX10_round_28 rfl (cn_1 _) (by decide) rfl ?_
      refine ws_goto (pc := 31) (tgt := 17) C dX10_round_31 (by decide) ?_
      refine ws_less [2, 3, 1, 0] rfl ?_
      exact ih _ _ _ h
set_option maxRecDepth 20000 in
set_option maxHeartbeats 4000000 in
theorem mX10_round {Y : xY} {Z : xZ} {a1 : Int32} {s : xM} {z : Int32 × xM} (h : fX10_round a1 s = some z) : xMi (GM Y) Z yX10_round cX10_round 4 8 .int [.ref (Y.1 0), .int a1] s z := by
  refine xMi_of (by decide) (Nat.le_of_ble_eq_true rfl) (fun B C R => ?_)
  have C : xC (GM Y) Z B "BetweenStopsModel" cX10_round 4 8 := C
  show xWS (GM Y) B 4 s [(0, .ref (Y.1 0)), (1, .int a1)] 0 []
  unfold fX10_round at h
  refine ws_iload_n (pc := 0) C dX10_round_0 rfl 1 rfl ?_
  refine ws_iconst (pc := 1) C dX10_round_1 ci_0 ?_
  refine ws_bipush (pc := 2) C dX10_round_2 cb_20 ?_
  obtain ⟨r1, s2, q3, h⟩ := bd_ok h
  refine wc_iS (pc := 4)  C [.int a1, .int (0 : Int32), .int (20 : Int32)] [] (mX10_in q3) dX10_round_4 mw_X10_in ks_X10_in kl_X10_162 rfl rfl (Nat.le_of_ble_eq_true rfl) ⟨by decide, by decide⟩ ?_
  refine ws_if_ne (pc := 7) (tgt := 13) C dX10_round_7 (by decide) (fun c4 => ?_) (fun c4 => ?_)
  · have h := ite_f h c4
    refine ws_iconst (pc := 13) C dX10_round_13 ci_0 ?_
    refine ws_istore_n (pc := 14) C dX10_round_14 rfl (by decide) rfl ?_
    refine ws_iconst (pc := 15) C dX10_round_15 ci_0 ?_
    refine ws_istore_n (pc := 16) C dX10_round_16 rfl (by decide) rfl ?_
    refine ws_less [2, 3, 1, 0] rfl ?_
    refine pX10_round_L17 C R (fun x5 s6 h => ?_) fu _ _ _ h
    · refine ws_iload_n (pc := 34) C dX10_round_34 rfl 0 rfl ?_
      exact wr_i (pc := 35) C R dX10_round_35 rfl h
  · have h := ite_t h c4
    refine ws_bipush (pc := 10) C dX10_round_10 cb_m2 ?_
    exact wr_i (pc := 12) C R dX10_round_12 rfl h
set_option maxRecDepth 20000 in
set_option maxHeartbeats 4000000 in
theorem pX10_rest_L47 {Y : xY} {Z : xZ} {B : xB} {z : Int32 × xM} (C : xC (GM Y) Z B "BetweenStopsModel" cX10_rest 4 8) (R : xRi (GM Y) B .int z) {k67 : Int32 → xM → Option (Int32 × xM)} {k99 : xM → Option (Int32 × xM)} {a1 : Int32} {a2 : Int32}
    (hk67 : ∀ (a3 : Int32) (s : xM), k67 a3 s = some z → xWS (GM Y) B 4 s [(0, .ref (Y.1 0)), (1, .int a1), (2, .int a2), (3, .int a3)] 67 [])
    (hk99 : ∀  (s : xM), k99 s = some z → xWS (GM Y) B 4 s [(0, .ref (Y.1 0)), (1, .int a1), (2, .int a2)] 99 []) : ∀ (n : Nat) (a3 : Int32) (s : xM), fX10_rest_L47 k67 k99 a1 a2 n a3 s = some z → xWS (GM Y) B 4 s [(0, .ref (Y.1 0)), (1, .int a1), (2, .int a2), (3, .int a3)] 47 [] := by
  intro n
  induction n with
  | zero =>
    intro a3 s h
    rw [fX10_rest_L47] at h
    cases h
  | succ n ih =>
    intro a3 s h
    rw [fX10_rest_L47] at h
    refine ws_iload_n (pc := 47) C dX10_rest_47 rfl 3 rfl ?_
    refine ws_iload_n (pc := 48) C dX10_rest_48 rfl 2 rfl ?_
    refine ws_icmp_ge (pc := 49) (tgt := 99) C dX10_rest_49 (by decide) (fun c1 => ?_) (fun c1 => ?_)
    · have h := ite_t h c1
      refine ws_less [0, 1, 2] rfl ?_
      exact hk99 _ h
    · have h := ite_f h c1
      refine ws_aload_n (pc := 52) C dX10_rest_52 rfl 0 rfl ?_
      refine ws_getr (pc := 53) C dX10_rest_53 fd_X10_141 sf_M_63 ?_
      refine ws_iload_n (pc := 56) C dX10_rest_56 rfl 3 rfl ?_
      obtain ⟨g2, h⟩ := gd_ok h
      refine ws_ialdK (pc := 57) C dX10_rest_57 sr_m_behind g2 rfl ?_
      refine ws_aload_n (pc := 58) C dX10_rest_58 rfl 0 rfl ?_
      refine ws_getr (pc := 59) C dX10_rest_59 fd_X10_141 sf_M_63 ?_
      refine ws_iload_n (pc := 62) C dX10_rest_62 rfl 2 rfl ?_
      obtain ⟨g3, h⟩ := gd_ok h
      refine ws_ialdK (pc := 63) C dX10_rest_63 sr_m_behind g3 rfl ?_
      refine ws_icmp_ne (pc := 64) (tgt := 93) C dX10_rest_64 (by decide) (fun c4 => ?_) (fun c4 => ?_)
      · have h := ite_f h c4
        refine ws_iinc (j := 3) (pc := 93) C dX10_rest_93 rfl (cn_1 _) (by decide) rfl ?_
        refine ws_goto (pc := 96) (tgt := 47) C dX10_rest_96 (by decide) ?_
        refine ws_less [1, 2, 3, 0] rfl ?_
        exact ih _ _ h
      · have h := ite_t h c4
        refine ws_less [0, 1, 2, 3] rfl ?_
        exact hk67 _ _ h
set_option maxRecDepth 20000 in
set_option maxHeartbeats 4000000 in
theorem pX10_rest_L21 {Y : xY} {Z : xZ} {B : xB} {z : Int32 × xM} (C : xC (GM Y) Z B "BetweenStopsModel" cX10_rest 4 8) (R : xRi (GM Y) B .int z) {k67 : Int32 → Int32 → xM → Option (Int32 × xM)} {k105 : xM → Option (Int32 × xM)} {a1 : Int32}
    (hk67 : ∀ (a2 : Int32) (a3 : Int32) (s : xM), k67 a2 a3 s = some z → xWS (GM Y) B 4 s [(0, .ref (Y.1 0)), (1, .int a1), (2, .int a2), (3, .int a3)] 67 [])
    (hk105 : ∀  (s : xM), k105 s = some z → xWS (GM Y) B 4 s [] 105 []) : ∀ (n : Nat) (a2 : Int32) (s : xM), fX10_rest_L21 k67 k105 a1 n a2 s = some z → xWS (GM Y) B 4 s [(0, .ref (Y.1 0)), (1, .int a1), (2, .int a2)] 21 [] := by
  intro n
  induction n with
  | zero =>
    intro a2 s h
    rw [fX10_rest_L21] at h
    cases h
  | succ n ih =>
    intro a2 s h
    rw [fX10_rest_L21] at h
    refine ws_iload_n (pc := 21) C dX10_rest_21 rfl 2 rfl ?_
    refine ws_bipush (pc := 22) C dX10_rest_22 cb_20 ?_
    refine ws_icmp_gt (pc := 24) (tgt := 105) C dX10_rest_24 (by decide) (fun c1 => ?_) (fun c1 => ?_)
    · have h := ite_t h c1
      refine ws_less [] rfl ?_
      exact hk105 _ h
    · have h := ite_f h c1
      refine ws_aload_n (pc := 27) C dX10_rest_27 rfl 0 rfl ?_
      refine ws_getr (pc := 28) C dX10_rest_28 fd_X10_141 sf_M_63 ?_
      refine ws_iload_n (pc := 31) C dX10_rest_31 rfl 2 rfl ?_
      refine ws_aload_n (pc := 32) C dX10_rest_32 rfl 0 rfl ?_
      refine ws_aload_n (pc := 33) C dX10_rest_33 rfl 0 rfl ?_
      refine ws_getr (pc := 34) C dX10_rest_34 fd_X10_141 sf_M_63 ?_
      refine ws_iload_n (pc := 37) C dX10_rest_37 rfl 2 rfl ?_
      refine ws_iconst (pc := 38) C dX10_rest_38 ci_1 ?_
      refine ws_isub (pc := 39) C dX10_rest_39 ?_
      obtain ⟨g2, h⟩ := gd_ok h
      refine ws_ialdK (pc := 40) C dX10_rest_40 sr_m_behind g2 rfl ?_
      obtain ⟨r3, s4, q5, h⟩ := bd_ok h
      refine wc_iV (pc := 41)  C [.int (gi s 33 (a2 - (1 : Int32)).toNatClampNeg)] [.int a2, .ref (Y.1 33)] (mX10_roundFrom q5) dX10_rest_41 mw_X10_roundFrom mv_X10_roundFrom kl_X10_370 so_M rfl rfl (Nat.le_of_ble_eq_true rfl) ⟨by decide, by decide⟩ ?_
      obtain ⟨g6, h⟩ := gd_ok h
      obtain ⟨s7, e8, h⟩ := lz_ok h
      refine ws_iastK (pc := 44) C dX10_rest_44 sr_m_behind g6 rfl e8 ?_
      refine ws_iconst (pc := 45) C dX10_rest_45 ci_0 ?_
      refine ws_istore_n (pc := 46) C dX10_rest_46 rfl (by decide) rfl ?_
      refine ws_less [1, 2, 3, 0] rfl ?_
      refine pX10_rest_L47 C R (fun x9 s10 h => ?_) (fun s11 h => ?_) fu _ _ h
      · refine ws_less [0, 1, 2, 3] rfl ?_
        exact hk67 _ _ _ h
      · refine ws_iinc (j := 2) (pc := 99) C dX10_rest_99 rfl (cn_1 _) (by decide) rfl ?_
        refine ws_goto (pc := 102) (tgt := 21) C dX10_rest_102 (by decide) ?_
        refine ws_less [1, 2, 0] rfl ?_
        exact ih _ _ h
set_option maxRecDepth 20000 in
set_option maxHeartbeats 4000000 in
theorem mX10_rest {Y : xY} {Z : xZ} {a1 : Int32} {s : xM} {z : Int32 × xM} (h : fX10_rest a1 s = some z) : xMi (GM Y) Z yX10_rest cX10_rest 4 8 .int [.ref (Y.1 0), .int a1] s z := by
  refine xMi_of (by decide) (Nat.le_of_ble_eq_true rfl) (fun B C R => ?_)
  have C : xC (GM Y) Z B "BetweenStopsModel" cX10_rest 4 8 := C
  show xWS (GM Y) B 4 s [(0, .ref (Y.1 0)), (1, .int a1)] 0 []
  unfold fX10_rest at h
  refine ws_iload_n (pc := 0) C dX10_rest_0 rfl 1 rfl ?_
  refine ws_iconst (pc := 1) C dX10_rest_1 ci_0 ?_
  refine ws_iconst (pc := 2) C dX10_rest_2 ci_2 ?_
  obtain ⟨r1, s2, q3, h⟩ := bd_ok h
  refine wc_iS (pc := 3)  C [.int a1, .int (0 : Int32), .int (2 : Int32)] [] (mX10_in q3) dX10_rest_3 mw_X10_in ks_X10_in kl_X10_162 rfl rfl (Nat.le_of_ble_eq_true rfl) ⟨by decide, by decide⟩ ?_
  refine ws_if_ne (pc := 6) (tgt := 12) C dX10_rest_6 (by decide) (fun c4 => ?_) (fun c4 => ?_)
  · have h := ite_f h c4
    refine ws_aload_n (pc := 12) C dX10_rest_12 rfl 0 rfl ?_
    refine ws_getr (pc := 13) C dX10_rest_13 fd_X10_141 sf_M_63 ?_
    refine ws_iconst (pc := 16) C dX10_rest_16 ci_0 ?_
    refine ws_iconst (pc := 17) C dX10_rest_17 ci_0 ?_
    obtain ⟨s5, e6, h⟩ := lz_ok h
    refine ws_iastK (pc := 18) C dX10_rest_18 sr_m_behind (by decide) ck_0 e6 ?_
    refine ws_iconst (pc := 19) C dX10_rest_19 ci_1 ?_
    refine ws_istore_n (pc := 20) C dX10_rest_20 rfl (by decide) rfl ?_
    refine ws_less [1, 2, 0] rfl ?_
    refine pX10_rest_L21 C R (fun x7 x8 s9 h => ?_) (fun s13 h => ?_) fu _ _ h
    · refine ws_iload_n (pc := 67) C dX10_rest_67 rfl 1 rfl ?_
      refine ws_if_ne (pc := 68) (tgt := 80) C dX10_rest_68 (by decide) (fun c10 => ?_) (fun c10 => ?_)
      · have h := ite_f h c10
        refine ws_iload_n (pc := 80) C dX10_rest_80 rfl 1 rfl ?_
        refine ws_iconst (pc := 81) C dX10_rest_81 ci_1 ?_
        refine ws_icmp_ne (pc := 82) (tgt := 89) C dX10_rest_82 (by decide) (fun c11 => ?_) (fun c11 => ?_)
        · have h := ite_f h c11
          refine ws_iload_n (pc := 89) C dX10_rest_89 rfl 2 rfl ?_
          refine ws_iload_n (pc := 90) C dX10_rest_90 rfl 3 rfl ?_
          refine ws_isub (pc := 91) C dX10_rest_91 ?_
          exact wr_i (pc := 92) C R dX10_rest_92 rfl h
        · have h := ite_t h c11
          refine ws_iload_n (pc := 85) C dX10_rest_85 rfl 3 rfl ?_
          refine ws_goto (pc := 86) (tgt := 92) C dX10_rest_86 (by decide) ?_
          exact wr_i (pc := 92) C R dX10_rest_92 rfl h
      · have h := ite_t h c10
        refine ws_aload_n (pc := 71) C dX10_rest_71 rfl 0 rfl ?_
        refine ws_getr (pc := 72) C dX10_rest_72 fd_X10_141 sf_M_63 ?_
        refine ws_iload_n (pc := 75) C dX10_rest_75 rfl 2 rfl ?_
        obtain ⟨g12, h⟩ := gd_ok h
        refine ws_ialdK (pc := 76) C dX10_rest_76 sr_m_behind g12 rfl ?_
        refine ws_goto (pc := 77) (tgt := 92) C dX10_rest_77 (by decide) ?_
        exact wr_i (pc := 92) C R dX10_rest_92 rfl h
    · refine ws_bipush (pc := 105) C dX10_rest_105 cb_m3 ?_
      exact wr_i (pc := 107) C R dX10_rest_107 rfl h
  · have h := ite_t h c4
    refine ws_bipush (pc := 9) C dX10_rest_9 cb_m2 ?_
    exact wr_i (pc := 11) C R dX10_rest_11 rfl h
set_option maxRecDepth 20000 in
set_option maxHeartbeats 4000000 in
theorem mX10_asksOf {Y : xY} {Z : xZ} {a1 : Int32} {s : xM} {z : Int32 × xM} (h : fX10_asksOf a1 s = some z) : xMi (GM Y) Z yX10_asksOf cX10_asksOf 3 7 .int [.ref (Y.1 0), .int a1] s z := by
  refine xMi_of (by decide) (Nat.le_of_ble_eq_true rfl) (fun B C R => ?_)
  have C : xC (GM Y) Z B "BetweenStopsModel" cX10_asksOf 3 7 := C
  show xWS (GM Y) B 3 s [(0, .ref (Y.1 0)), (1, .int a1)] 0 []
  unfold fX10_asksOf at h
  refine ws_aload_n (pc := 0) C dX10_asksOf_0 rfl 0 rfl ?_
  refine ws_iload_n (pc := 1) C dX10_asksOf_1 rfl 1 rfl ?_
  obtain ⟨r1, s2, q3, h⟩ := bd_ok h
  refine wc_iV (pc := 2)  C [.int a1] [] (mX10_isAsked q3) dX10_asksOf_2 mw_X10_isAsked mv_X10_isAsked kl_X10_195 so_M rfl rfl (Nat.le_of_ble_eq_true rfl) ⟨by decide, by decide⟩ ?_
  refine ws_if_ne (pc := 5) (tgt := 15) C dX10_asksOf_5 (by decide) (fun c4 => ?_) (fun c4 => ?_)
  · have h := ite_f h c4
    refine ws_aload_n (pc := 15) C dX10_asksOf_15 rfl 0 rfl ?_
    refine ws_iload_n (pc := 16) C dX10_asksOf_16 rfl 1 rfl ?_
    obtain ⟨r5, s6, q7, h⟩ := bd_ok h
    refine wc_iV (pc := 17)  C [.int a1] [] (mX10_useOf q7) dX10_asksOf_17 mw_X10_useOf mv_X10_useOf kl_X10_261 so_M rfl rfl (Nat.le_of_ble_eq_true rfl) ⟨by decide, by decide⟩ ?_
    refine ws_istore_n (pc := 20) C dX10_asksOf_20 rfl (by decide) rfl ?_
    refine ws_aload_n (pc := 21) C dX10_asksOf_21 rfl 1 rfl ?_
    refine ws_iconst (pc := 22) C dX10_asksOf_22 ci_0 ?_
    refine ws_iconst (pc := 23) C dX10_asksOf_23 ci_0 ?_
    refine ws_iconst (pc := 24) C dX10_asksOf_24 ci_0 ?_
    refine ws_iconst (pc := 25) C dX10_asksOf_25 ci_0 ?_
    obtain ⟨r8, s9, q10, h⟩ := bd_ok h
    refine wc_vV (pc := 26)  C [.int (0 : Int32), .int (0 : Int32), .int (0 : Int32), .int (0 : Int32)] [] (mX10_names q10) dX10_asksOf_26 mw_X10_names mv_X10_names kl_X10_358 so_M rfl rfl (Nat.le_of_ble_eq_true rfl) ⟨by decide, by decide⟩ ?_
    refine ws_aload_n (pc := 29) C dX10_asksOf_29 rfl 1 rfl ?_
    refine ws_iconst (pc := 30) C dX10_asksOf_30 ci_2 ?_
    refine ws_iload_n (pc := 31) C dX10_asksOf_31 rfl 0 rfl ?_
    refine ws_iload_n (pc := 32) C dX10_asksOf_32 rfl 2 rfl ?_
    obtain ⟨r11, s12, q13, h⟩ := bd_ok h
    refine wc_iV (pc := 33)  C [.int (2 : Int32), .int r5, .int a1] [] (mX10_says q13) dX10_asksOf_33 mw_X10_says mv_X10_says kl_X10_362 so_M rfl rfl (Nat.le_of_ble_eq_true rfl) ⟨by decide, by decide⟩ ?_
    refine ws_bipush (pc := 36) C dX10_asksOf_36 cb_10 ?_
    obtain ⟨r14, s15, q16, h⟩ := bd_ok h
    refine wc_iS (pc := 38)  C [.int r11, .int (10 : Int32)] [] (mX10_within q16) dX10_asksOf_38 mw_X10_within ks_X10_within kl_X10_373 rfl rfl (Nat.le_of_ble_eq_true rfl) ⟨by decide, by decide⟩ ?_
    exact wr_i (pc := 41) C R dX10_asksOf_41 rfl h
  · have h := ite_t h c4
    refine ws_aload_n (pc := 8) C dX10_asksOf_8 rfl 0 rfl ?_
    refine ws_getr (pc := 9) C dX10_asksOf_9 fd_X10_38 sf_M_10 ?_
    refine ws_iload_n (pc := 12) C dX10_asksOf_12 rfl 1 rfl ?_
    obtain ⟨g17, h⟩ := gd_ok h
    refine ws_ialdK (pc := 13) C dX10_asksOf_13 sr_m_wanted g17 rfl ?_
    exact wr_i (pc := 14) C R dX10_asksOf_14 rfl h
set_option maxRecDepth 20000 in
set_option maxHeartbeats 4000000 in
theorem mX10_asks {Y : xY} {Z : xZ} {a1 : Int32} {s : xM} {z : Int32 × xM} (h : fX10_asks a1 s = some z) : xMi (GM Y) Z yX10_asks cX10_asks 2 8 .int [.ref (Y.1 0), .int a1] s z := by
  refine xMi_of (by decide) (Nat.le_of_ble_eq_true rfl) (fun B C R => ?_)
  have C : xC (GM Y) Z B "BetweenStopsModel" cX10_asks 2 8 := C
  show xWS (GM Y) B 2 s [(0, .ref (Y.1 0)), (1, .int a1)] 0 []
  unfold fX10_asks at h
  refine ws_aload_n (pc := 0) C dX10_asks_0 rfl 0 rfl ?_
  refine ws_iload_n (pc := 1) C dX10_asks_1 rfl 1 rfl ?_
  obtain ⟨r1, s2, q3, h⟩ := bd_ok h
  refine wc_iV (pc := 2)  C [.int a1] [] (mX10_isStop q3) dX10_asks_2 mw_X10_isStop mv_X10_isStop kl_X10_180 so_M rfl rfl (Nat.le_of_ble_eq_true rfl) ⟨by decide, by decide⟩ ?_
  refine ws_if_eq (pc := 5) (tgt := 16) C dX10_asks_5 (by decide) (fun c4 => ?_) (fun c4 => ?_)
  · have h := ite_t h c4
    refine ws_bipush (pc := 16) C dX10_asks_16 cb_m5 ?_
    exact wr_i (pc := 18) C R dX10_asks_18 rfl h
  · have h := ite_f h c4
    refine ws_aload_n (pc := 8) C dX10_asks_8 rfl 0 rfl ?_
    refine ws_iload_n (pc := 9) C dX10_asks_9 rfl 1 rfl ?_
    obtain ⟨r5, s6, q7, h⟩ := bd_ok h
    refine wc_iV (pc := 10)  C [.int a1] [] (mX10_asksOf q7) dX10_asks_10 mw_X10_asksOf mv_X10_asksOf kl_X10_376 so_M rfl rfl (Nat.le_of_ble_eq_true rfl) ⟨by decide, by decide⟩ ?_
    refine ws_goto (pc := 13) (tgt := 18) C dX10_asks_13 (by decide) ?_
    exact wr_i (pc := 18) C R dX10_asks_18 rfl h
set_option maxRecDepth 20000 in
set_option maxHeartbeats 4000000 in
theorem pX10_asked_L2 {Y : xY} {Z : xZ} {B : xB} {z : Int32 × xM} (C : xC (GM Y) Z B "BetweenStopsModel" cX10_asked 3 8) (R : xRi (GM Y) B .int z) {k27 : xM → Option (Int32 × xM)}
    (hk27 : ∀  (s : xM), k27 s = some z → xWS (GM Y) B 3 s [(0, .ref (Y.1 0))] 27 []) : ∀ (n : Nat) (a1 : Int32) (s : xM), fX10_asked_L2 k27 n a1 s = some z → xWS (GM Y) B 3 s [(0, .ref (Y.1 0)), (1, .int a1)] 2 [] := by
  intro n
  induction n with
  | zero =>
    intro a1 s h
    rw [fX10_asked_L2] at h
    cases h
  | succ n ih =>
    intro a1 s h
    rw [fX10_asked_L2] at h
    refine ws_iload_n (pc := 2) C dX10_asked_2 rfl 1 rfl ?_
    refine ws_aload_n (pc := 3) C dX10_asked_3 rfl 0 rfl ?_
    refine ws_geti (pc := 4) C dX10_asked_4 fd_X10_166 sf_M_4 ?_
    refine ws_icmp_ge (pc := 7) (tgt := 27) C dX10_asked_7 (by decide) (fun c1 => ?_) (fun c1 => ?_)
    · have h := ite_t h c1
      refine ws_less [0] rfl ?_
      exact hk27 _ h
    · have h := ite_f h c1
      refine ws_aload_n (pc := 10) C dX10_asked_10 rfl 0 rfl ?_
      refine ws_getr (pc := 11) C dX10_asked_11 fd_X10_144 sf_M_64 ?_
      refine ws_iload_n (pc := 14) C dX10_asked_14 rfl 1 rfl ?_
      refine ws_aload_n (pc := 15) C dX10_asked_15 rfl 0 rfl ?_
      refine ws_iload_n (pc := 16) C dX10_asked_16 rfl 1 rfl ?_
      obtain ⟨r2, s3, q4, h⟩ := bd_ok h
      refine wc_iV (pc := 17)  C [.int a1] [.int a1, .ref (Y.1 34)] (mX10_asksOf q4) dX10_asked_17 mw_X10_asksOf mv_X10_asksOf kl_X10_376 so_M rfl rfl (Nat.le_of_ble_eq_true rfl) ⟨by decide, by decide⟩ ?_
      obtain ⟨g5, h⟩ := gd_ok h
      obtain ⟨s6, e7, h⟩ := lz_ok h
      refine ws_iastK (pc := 20) C dX10_asked_20 sr_m_asking g5 rfl e7 ?_
      refine ws_iinc (j := 1) (pc := 21) C dX10_asked_21 rfl (cn_1 _) (by decide) rfl ?_
      refine ws_goto (pc := 24) (tgt := 2) C dX10_asked_24 (by decide) ?_
      refine ws_less [1, 0] rfl ?_
      exact ih _ _ h
set_option maxRecDepth 20000 in
set_option maxHeartbeats 4000000 in
theorem pX10_asked_J60 {Y : xY} {Z : xZ} {B : xB} {z : Int32 × xM} (C : xC (GM Y) Z B "BetweenStopsModel" cX10_asked 3 8) (R : xRi (GM Y) B .int z) {k80 : Int32 → xM → Option (Int32 × xM)} {b : Int32 → Int32 → xM → Option (Int32 × xM)} {a2 : Int32} {t0 : Int32} {t1 : Int32}
    (hk80 : ∀ (a1 : Int32) (s : xM), k80 a1 s = some z → xWS (GM Y) B 3 s [(1, .int a1)] 80 [])
    (hb : ∀ (a1 : Int32) (a2 : Int32) (s : xM), b a1 a2 s = some z → xWS (GM Y) B 3 s [(0, .ref (Y.1 0)), (1, .int a1), (2, .int a2)] 31 []) {s : xM} (h : fX10_asked_J60 k80 b a2 t0 t1 s = some z) : xWS (GM Y) B 3 s [(0, .ref (Y.1 0)), (2, .int a2)] 60 [.int t0, .int t1] := by
  unfold fX10_asked_J60 at h
  refine ws_iadd (pc := 60) C dX10_asked_60 ?_
  obtain ⟨v1, e2, h⟩ := lz_ok h
  refine ws_topi C e2 ?_
  refine ws_istore_n (pc := 61) C dX10_asked_61 rfl (by decide) rfl ?_
  refine ws_aload_n (pc := 62) C dX10_asked_62 rfl 1 rfl ?_
  refine ws_getr (pc := 63) C dX10_asked_63 fd_X10_38 sf_M_10 ?_
  refine ws_iload_n (pc := 66) C dX10_asked_66 rfl 2 rfl ?_
  refine ws_aload_n (pc := 67) C dX10_asked_67 rfl 1 rfl ?_
  refine ws_getr (pc := 68) C dX10_asked_68 fd_X10_144 sf_M_64 ?_
  refine ws_iload_n (pc := 71) C dX10_asked_71 rfl 2 rfl ?_
  obtain ⟨g3, h⟩ := gd_ok h
  refine ws_ialdK (pc := 72) C dX10_asked_72 sr_m_asking g3 rfl ?_
  obtain ⟨g4, h⟩ := gd_ok h
  obtain ⟨s5, e6, h⟩ := lz_ok h
  refine ws_iastK (pc := 73) C dX10_asked_73 sr_m_wanted g4 rfl e6 ?_
  refine ws_iinc (j := 2) (pc := 74) C dX10_asked_74 rfl (cn_1 _) (by decide) rfl ?_
  refine ws_goto (pc := 77) (tgt := 31) C dX10_asked_77 (by decide) ?_
  refine ws_less [2, 1, 0] rfl ?_
  exact hb _ _ _ h
set_option maxRecDepth 20000 in
set_option maxHeartbeats 4000000 in
theorem pX10_asked_L31 {Y : xY} {Z : xZ} {B : xB} {z : Int32 × xM} (C : xC (GM Y) Z B "BetweenStopsModel" cX10_asked 3 8) (R : xRi (GM Y) B .int z) {k80 : Int32 → xM → Option (Int32 × xM)}
    (hk80 : ∀ (a1 : Int32) (s : xM), k80 a1 s = some z → xWS (GM Y) B 3 s [(1, .int a1)] 80 []) : ∀ (n : Nat) (a1 : Int32) (a2 : Int32) (s : xM), fX10_asked_L31 k80 n a1 a2 s = some z → xWS (GM Y) B 3 s [(0, .ref (Y.1 0)), (1, .int a1), (2, .int a2)] 31 [] := by
  intro n
  induction n with
  | zero =>
    intro a1 a2 s h
    rw [fX10_asked_L31] at h
    cases h
  | succ n ih =>
    intro a1 a2 s h
    rw [fX10_asked_L31] at h
    refine ws_iload_n (pc := 31) C dX10_asked_31 rfl 2 rfl ?_
    refine ws_aload_n (pc := 32) C dX10_asked_32 rfl 0 rfl ?_
    refine ws_geti (pc := 33) C dX10_asked_33 fd_X10_166 sf_M_4 ?_
    refine ws_icmp_ge (pc := 36) (tgt := 80) C dX10_asked_36 (by decide) (fun c1 => ?_) (fun c1 => ?_)
    · have h := ite_t h c1
      refine ws_less [1] rfl ?_
      exact hk80 _ _ h
    · have h := ite_f h c1
      refine ws_iload_n (pc := 39) C dX10_asked_39 rfl 1 rfl ?_
      refine ws_aload_n (pc := 40) C dX10_asked_40 rfl 0 rfl ?_
      refine ws_getr (pc := 41) C dX10_asked_41 fd_X10_144 sf_M_64 ?_
      refine ws_iload_n (pc := 44) C dX10_asked_44 rfl 2 rfl ?_
      obtain ⟨g2, h⟩ := gd_ok h
      refine ws_ialdK (pc := 45) C dX10_asked_45 sr_m_asking g2 rfl ?_
      refine ws_aload_n (pc := 46) C dX10_asked_46 rfl 0 rfl ?_
      refine ws_getr (pc := 47) C dX10_asked_47 fd_X10_38 sf_M_10 ?_
      refine ws_iload_n (pc := 50) C dX10_asked_50 rfl 2 rfl ?_
      obtain ⟨g3, h⟩ := gd_ok h
      refine ws_ialdK (pc := 51) C dX10_asked_51 sr_m_wanted g3 rfl ?_
      refine ws_icmp_ne (pc := 52) (tgt := 59) C dX10_asked_52 (by decide) (fun c4 => ?_) (fun c4 => ?_)
      · have h := ite_f h c4
        refine ws_iconst (pc := 59) C dX10_asked_59 ci_1 ?_
        refine ws_less [0, 2] rfl ?_
        exact pX10_asked_J60 C R hk80 (fun a1 a2 s h => ih a1 a2 s h) h
      · have h := ite_t h c4
        refine ws_iconst (pc := 55) C dX10_asked_55 ci_0 ?_
        refine ws_goto (pc := 56) (tgt := 60) C dX10_asked_56 (by decide) ?_
        refine ws_less [0, 2] rfl ?_
        exact pX10_asked_J60 C R hk80 (fun a1 a2 s h => ih a1 a2 s h) h
set_option maxRecDepth 20000 in
set_option maxHeartbeats 4000000 in
theorem mX10_asked {Y : xY} {Z : xZ} {s : xM} {z : Int32 × xM} (h : fX10_asked s = some z) : xMi (GM Y) Z yX10_asked cX10_asked 3 8 .int [.ref (Y.1 0)] s z := by
  refine xMi_of (by decide) (Nat.le_of_ble_eq_true rfl) (fun B C R => ?_)
  have C : xC (GM Y) Z B "BetweenStopsModel" cX10_asked 3 8 := C
  show xWS (GM Y) B 3 s [(0, .ref (Y.1 0))] 0 []
  unfold fX10_asked at h
  refine ws_iconst (pc := 0) C dX10_asked_0 ci_0 ?_
  refine ws_istore_n (pc := 1) C dX10_asked_1 rfl (by decide) rfl ?_
  refine ws_less [1, 0] rfl ?_
  refine pX10_asked_L2 C R (fun s1 h => ?_) fu _ _ h
  · refine ws_iconst (pc := 27) C dX10_asked_27 ci_0 ?_
    refine ws_istore_n (pc := 28) C dX10_asked_28 rfl (by decide) rfl ?_
    refine ws_iconst (pc := 29) C dX10_asked_29 ci_0 ?_
    refine ws_istore_n (pc := 30) C dX10_asked_30 rfl (by decide) rfl ?_
    refine ws_less [2, 1, 0] rfl ?_
    refine pX10_asked_L31 C R (fun x2 s3 h => ?_) fu _ _ _ h
    · refine ws_iload_n (pc := 80) C dX10_asked_80 rfl 0 rfl ?_
      exact wr_i (pc := 81) C R dX10_asked_81 rfl h
set_option maxRecDepth 20000 in
set_option maxHeartbeats 4000000 in
theorem pX10_goesBy_J74 {Y : xY} {Z : xZ} {B : xB} {z : Int64 × xM} (C : xC (GM Y) Z B "BetweenStopsModel" cX10_goesBy 10 3) (R : xRl (GM Y) B z) {k157 : Int64 → xM → Option (Int64 × xM)} {b : Int64 → Int32 → xM → Option (Int64 × xM)} {a1 : Int32} {a6 : Int32} {a7 : Int32} {t0 : Int64}
    (hk157 : ∀ (a4 : Int64) (s : xM), k157 a4 s = some z → xWS (GM Y) B 10 s [(0, .ref (Y.1 0)), (1, .int a1), (4, .long a4), (6, .int a6)] 157 [])
    (hb : ∀ (a4 : Int64) (a7 : Int32) (s : xM), b a4 a7 s = some z → xWS (GM Y) B 10 s [(0, .ref (Y.1 0)), (1, .int a1), (4, .long a4), (6, .int a6), (7, .int a7)] 16 []) {s : xM} (h : fX10_goesBy_J74 k157 b a1 a6 a7 t0 s = some z) : xWS (GM Y) B 10 s [(0, .ref (Y.1 0)), (1, .int a1), (6, .int a6), (7, .int a7)] 74 [.long t0] := by
  unfold fX10_goesBy_J74 at h
  refine ws_lstore (pc := 74) C dX10_goesBy_74 (by decide) rfl ?_
  refine ws_lload (pc := 76) C dX10_goesBy_76 0 rfl ?_
  refine ws_aload_n (pc := 78) C dX10_goesBy_78 rfl 1 rfl ?_
  refine ws_getr (pc := 79) C dX10_goesBy_79 fd_X10_147 sf_M_65 ?_
  refine ws_iload (pc := 82) C dX10_goesBy_82 4 rfl ?_
  obtain ⟨g1, h⟩ := gd_ok h
  refine ws_laldK (pc := 84) C dX10_goesBy_84 sr_m_left g1 rfl ?_
  refine ws_lsub (pc := 85) C dX10_goesBy_85 ?_
  obtain ⟨v2, e3, h⟩ := lz_ok h
  refine ws_topl C e3 ?_
  refine ws_lstore (pc := 86) C dX10_goesBy_86 (by decide) rfl ?_
  refine ws_aload_n (pc := 88) C dX10_goesBy_88 rfl 2 rfl ?_
  refine ws_iconst (pc := 89) C dX10_goesBy_89 ci_0 ?_
  refine ws_iconst (pc := 90) C dX10_goesBy_90 ci_0 ?_
  refine ws_lload (pc := 91) C dX10_goesBy_91 0 rfl ?_
  refine ws_l2i (pc := 93) C dX10_goesBy_93 ?_
  refine ws_iconst (pc := 94) C dX10_goesBy_94 ci_0 ?_
  obtain ⟨r4, s5, q6, h⟩ := bd_ok h
  refine wc_vV (pc := 95)  C [.int (0 : Int32), .int (0 : Int32), .int (v2.toInt32), .int (0 : Int32)] [] (mX10_names q6) dX10_goesBy_95 mw_X10_names mv_X10_names kl_X10_358 so_M rfl rfl (Nat.le_of_ble_eq_true rfl) ⟨by decide, by decide⟩ ?_
  refine ws_lload (pc := 98) C dX10_goesBy_98 1 rfl ?_
  refine ws_aload_n (pc := 100) C dX10_goesBy_100 rfl 2 rfl ?_
  refine ws_iload (pc := 101) C dX10_goesBy_101 5 rfl ?_
  obtain ⟨r7, s8, q9, h⟩ := bd_ok h
  refine wc_iV (pc := 103)  C [.int a7] [.long t0] (mX10_seconds q9) dX10_goesBy_103 mw_X10_seconds mv_X10_seconds kl_X10_191 so_M rfl rfl (Nat.le_of_ble_eq_true rfl) ⟨by decide, by decide⟩ ?_
  refine ws_aload_n (pc := 106) C dX10_goesBy_106 rfl 2 rfl ?_
  refine ws_iconst (pc := 107) C dX10_goesBy_107 ci_1 ?_
  refine ws_aload_n (pc := 108) C dX10_goesBy_108 rfl 2 rfl ?_
  refine ws_getr (pc := 109) C dX10_goesBy_109 fd_X10_150 sf_M_66 ?_
  refine ws_iload (pc := 112) C dX10_goesBy_112 5 rfl ?_
  obtain ⟨g10, h⟩ := gd_ok h
  refine ws_ialdK (pc := 114) C dX10_goesBy_114 sr_m_uses g10 rfl ?_
  refine ws_i2l (pc := 115) C dX10_goesBy_115 ?_
  refine ws_lload (pc := 116) C dX10_goesBy_116 0 rfl ?_
  refine ws_lmul (pc := 118) C dX10_goesBy_118 ?_
  refine ws_aload_n (pc := 119) C dX10_goesBy_119 rfl 2 rfl ?_
  refine ws_geti (pc := 120) C dX10_goesBy_120 fd_X10_16 sf_M_2 ?_
  refine ws_i2l (pc := 123) C dX10_goesBy_123 ?_
  obtain ⟨g11, h⟩ := gd_ok h
  refine ws_ldiv (pc := 124) C dX10_goesBy_124 (of_decide_eq_true g11) ?_
  refine ws_l2i (pc := 125) C dX10_goesBy_125 ?_
  refine ws_iload (pc := 126) C dX10_goesBy_126 5 rfl ?_
  obtain ⟨r12, s13, q14, h⟩ := bd_ok h
  refine wc_iV (pc := 128)  C [.int (1 : Int32), .int (((((gi s8 36 a7.toNatClampNeg).toInt64) * v2) / ((gi s8 0 2).toInt64)).toInt32), .int a7] [.int r7, .long t0] (mX10_says q14) dX10_goesBy_128 mw_X10_says mv_X10_says kl_X10_362 so_M rfl rfl (Nat.le_of_ble_eq_true rfl) ⟨by decide, by decide⟩ ?_
  refine ws_sipush (pc := 131) C dX10_goesBy_131 cs_999 ?_
  obtain ⟨r15, s16, q17, h⟩ := bd_ok h
  refine wc_iS (pc := 134)  C [.int r12, .int (999 : Int32)] [.int r7, .long t0] (mX10_within q17) dX10_goesBy_134 mw_X10_within ks_X10_within kl_X10_373 rfl rfl (Nat.le_of_ble_eq_true rfl) ⟨by decide, by decide⟩ ?_
  refine ws_iadd (pc := 137) C dX10_goesBy_137 ?_
  refine ws_i2l (pc := 138) C dX10_goesBy_138 ?_
  refine ws_ladd (pc := 139) C dX10_goesBy_139 ?_
  obtain ⟨v18, e19, h⟩ := lz_ok h
  refine ws_topl C e19 ?_
  refine ws_lstore (pc := 140) C dX10_goesBy_140 (by decide) rfl ?_
  refine ws_aload_n (pc := 142) C dX10_goesBy_142 rfl 2 rfl ?_
  refine ws_getr (pc := 143) C dX10_goesBy_143 fd_X10_147 sf_M_65 ?_
  refine ws_iload (pc := 146) C dX10_goesBy_146 5 rfl ?_
  refine ws_lload (pc := 148) C dX10_goesBy_148 0 rfl ?_
  obtain ⟨g20, h⟩ := gd_ok h
  obtain ⟨s21, e22, h⟩ := lz_ok h
  refine ws_lastK (pc := 150) C dX10_goesBy_150 sr_m_left g20 rfl e22 ?_
  refine ws_iinc (j := 5) (pc := 151) C dX10_goesBy_151 rfl (cn_1 _) (by decide) rfl ?_
  refine ws_goto (pc := 154) (tgt := 16) C dX10_goesBy_154 (by decide) ?_
  refine ws_less [3, 4, 1, 5, 0] rfl ?_
  exact hb _ _ _ h
set_option maxRecDepth 20000 in
set_option maxHeartbeats 4000000 in
theorem pX10_goesBy_L16 {Y : xY} {Z : xZ} {B : xB} {z : Int64 × xM} (C : xC (GM Y) Z B "BetweenStopsModel" cX10_goesBy 10 3) (R : xRl (GM Y) B z) {k157 : Int64 → xM → Option (Int64 × xM)} {a1 : Int32} {a6 : Int32}
    (hk157 : ∀ (a4 : Int64) (s : xM), k157 a4 s = some z → xWS (GM Y) B 10 s [(0, .ref (Y.1 0)), (1, .int a1), (4, .long a4), (6, .int a6)] 157 []) : ∀ (n : Nat) (a4 : Int64) (a7 : Int32) (s : xM), fX10_goesBy_L16 k157 a1 a6 n a4 a7 s = some z → xWS (GM Y) B 10 s [(0, .ref (Y.1 0)), (1, .int a1), (4, .long a4), (6, .int a6), (7, .int a7)] 16 [] := by
  intro n
  induction n with
  | zero =>
    intro a4 a7 s h
    rw [fX10_goesBy_L16] at h
    cases h
  | succ n ih =>
    intro a4 a7 s h
    rw [fX10_goesBy_L16] at h
    refine ws_iload (pc := 16) C dX10_goesBy_16 4 rfl ?_
    refine ws_aload_n (pc := 18) C dX10_goesBy_18 rfl 0 rfl ?_
    refine ws_geti (pc := 19) C dX10_goesBy_19 fd_X10_166 sf_M_4 ?_
    refine ws_icmp_ge (pc := 22) (tgt := 157) C dX10_goesBy_22 (by decide) (fun c1 => ?_) (fun c1 => ?_)
    · have h := ite_t h c1
      refine ws_less [0, 1, 2, 3] rfl ?_
      exact hk157 _ _ h
    · have h := ite_f h c1
      refine ws_aload_n (pc := 25) C dX10_goesBy_25 rfl 0 rfl ?_
      refine ws_getr (pc := 26) C dX10_goesBy_26 fd_X10_26 sf_M_6 ?_
      refine ws_iload (pc := 29) C dX10_goesBy_29 4 rfl ?_
      obtain ⟨g2, h⟩ := gd_ok h
      refine ws_ialdK (pc := 31) C dX10_goesBy_31 sr_m_cellOf g2 rfl ?_
      refine ws_iload (pc := 32) C dX10_goesBy_32 3 rfl ?_
      refine ws_icmp_ne (pc := 34) (tgt := 151) C dX10_goesBy_34 (by decide) (fun c3 => ?_) (fun c3 => ?_)
      · have h := ite_f h c3
        refine ws_iinc (j := 4) (pc := 151) C dX10_goesBy_151 rfl (cn_1 _) (by decide) rfl ?_
        refine ws_goto (pc := 154) (tgt := 16) C dX10_goesBy_154 (by decide) ?_
        refine ws_less [1, 2, 3, 4, 0] rfl ?_
        exact ih _ _ _ h
      · have h := ite_t h c3
        refine ws_aload_n (pc := 37) C dX10_goesBy_37 rfl 0 rfl ?_
        refine ws_iload (pc := 38) C dX10_goesBy_38 4 rfl ?_
        refine ws_iload_n (pc := 40) C dX10_goesBy_40 rfl 1 rfl ?_
        refine ws_iconst (pc := 41) C dX10_goesBy_41 ci_2 ?_
        refine ws_irem (pc := 42) C dX10_goesBy_42 (by decide) ?_
        obtain ⟨r4, s5, q6, h⟩ := bd_ok h
        refine wc_iV (pc := 43)  C [.int a7, .int (a1 - a1 / (2 : Int32) * (2 : Int32))] [] (mX10_doesStop q6) dX10_goesBy_43 mw_X10_doesStop mv_X10_doesStop kl_X10_211 so_M rfl rfl (Nat.le_of_ble_eq_true rfl) ⟨by decide, by decide⟩ ?_
        refine ws_if_eq (pc := 46) (tgt := 151) C dX10_goesBy_46 (by decide) (fun c7 => ?_) (fun c7 => ?_)
        · have h := ite_t h c7
          refine ws_iinc (j := 4) (pc := 151) C dX10_goesBy_151 rfl (cn_1 _) (by decide) rfl ?_
          refine ws_goto (pc := 154) (tgt := 16) C dX10_goesBy_154 (by decide) ?_
          refine ws_less [1, 2, 3, 4, 0] rfl ?_
          exact ih _ _ _ h
        · have h := ite_f h c7
          refine ws_lload (pc := 49) C dX10_goesBy_49 2 rfl ?_
          refine ws_aload_n (pc := 51) C dX10_goesBy_51 rfl 0 rfl ?_
          refine ws_getr (pc := 52) C dX10_goesBy_52 fd_X10_147 sf_M_65 ?_
          refine ws_iload (pc := 55) C dX10_goesBy_55 4 rfl ?_
          obtain ⟨g8, h⟩ := gd_ok h
          refine ws_laldK (pc := 57) C dX10_goesBy_57 sr_m_left g8 rfl ?_
          refine ws_lcmp (pc := 58) C dX10_goesBy_58 ?_
          refine ws_if_ge (pc := 59) (tgt := 72) C dX10_goesBy_59 (by decide) (fun c9 => ?_) (fun c9 => ?_)
          · have h := ite_t h c9
            refine ws_lload (pc := 72) C dX10_goesBy_72 2 rfl ?_
            refine ws_less [0, 1, 3, 4] rfl ?_
            exact pX10_goesBy_J74 C R hk157 (fun a4 a7 s h => ih a4 a7 s h) h
          · have h := ite_f h c9
            refine ws_aload_n (pc := 62) C dX10_goesBy_62 rfl 0 rfl ?_
            refine ws_getr (pc := 63) C dX10_goesBy_63 fd_X10_147 sf_M_65 ?_
            refine ws_iload (pc := 66) C dX10_goesBy_66 4 rfl ?_
            obtain ⟨g10, h⟩ := gd_ok h
            refine ws_laldK (pc := 68) C dX10_goesBy_68 sr_m_left g10 rfl ?_
            refine ws_goto (pc := 69) (tgt := 74) C dX10_goesBy_69 (by decide) ?_
            refine ws_less [0, 1, 3, 4] rfl ?_
            exact pX10_goesBy_J74 C R hk157 (fun a4 a7 s h => ih a4 a7 s h) h
set_option maxRecDepth 20000 in
set_option maxHeartbeats 4000000 in
theorem pX10_goesBy_L6 {Y : xY} {Z : xZ} {B : xB} {z : Int64 × xM} (C : xC (GM Y) Z B "BetweenStopsModel" cX10_goesBy 10 3) (R : xRl (GM Y) B z) {k184 : Int64 → xM → Option (Int64 × xM)} {a1 : Int32}
    (hk184 : ∀ (a4 : Int64) (s : xM), k184 a4 s = some z → xWS (GM Y) B 10 s [(4, .long a4)] 184 []) : ∀ (n : Nat) (a4 : Int64) (a6 : Int32) (s : xM), fX10_goesBy_L6 k184 a1 n a4 a6 s = some z → xWS (GM Y) B 10 s [(0, .ref (Y.1 0)), (1, .int a1), (4, .long a4), (6, .int a6)] 6 [] := by
  intro n
  induction n with
  | zero =>
    intro a4 a6 s h
    rw [fX10_goesBy_L6] at h
    cases h
  | succ n ih =>
    intro a4 a6 s h
    rw [fX10_goesBy_L6] at h
    refine ws_iload (pc := 6) C dX10_goesBy_6 3 rfl ?_
    refine ws_bipush (pc := 8) C dX10_goesBy_8 cb_40 ?_
    refine ws_icmp_gt (pc := 10) (tgt := 184) C dX10_goesBy_10 (by decide) (fun c1 => ?_) (fun c1 => ?_)
    · have h := ite_t h c1
      refine ws_less [2] rfl ?_
      exact hk184 _ _ h
    · have h := ite_f h c1
      refine ws_iconst (pc := 13) C dX10_goesBy_13 ci_0 ?_
      refine ws_istore (pc := 14) C dX10_goesBy_14 (by decide) rfl ?_
      refine ws_less [1, 2, 3, 4, 0] rfl ?_
      refine pX10_goesBy_L16 C R (fun x2 s3 h => ?_) fu _ _ _ h
      · refine ws_lload (pc := 157) C dX10_goesBy_157 2 rfl ?_
        refine ws_iload (pc := 159) C dX10_goesBy_159 3 rfl ?_
        refine ws_bipush (pc := 161) C dX10_goesBy_161 cb_40 ?_
        refine ws_icmp_ge (pc := 163) (tgt := 174) C dX10_goesBy_163 (by decide) (fun c4 => ?_) (fun c4 => ?_)
        · have h := ite_t h c4
          refine ws_lconst (v := 0) (pc := 174) C dX10_goesBy_174 (by decide) ?_
          refine ws_ladd (pc := 175) C dX10_goesBy_175 ?_
          obtain ⟨v5, e6, h⟩ := lz_ok h
          refine ws_topl C e6 ?_
          refine ws_lstore (pc := 176) C dX10_goesBy_176 (by decide) rfl ?_
          refine ws_iinc (j := 3) (pc := 178) C dX10_goesBy_178 rfl (cn_1 _) (by decide) rfl ?_
          refine ws_goto (pc := 181) (tgt := 6) C dX10_goesBy_181 (by decide) ?_
          refine ws_less [2, 3, 1, 0] rfl ?_
          exact ih _ _ _ h
        · have h := ite_f h c4
          refine ws_aload_n (pc := 166) C dX10_goesBy_166 rfl 0 rfl ?_
          refine ws_geti (pc := 167) C dX10_goesBy_167 fd_X10_20 sf_M_3 ?_
          refine ws_i2l (pc := 170) C dX10_goesBy_170 ?_
          refine ws_goto (pc := 171) (tgt := 175) C dX10_goesBy_171 (by decide) ?_
          refine ws_ladd (pc := 175) C dX10_goesBy_175 ?_
          obtain ⟨v7, e8, h⟩ := lz_ok h
          refine ws_topl C e8 ?_
          refine ws_lstore (pc := 176) C dX10_goesBy_176 (by decide) rfl ?_
          refine ws_iinc (j := 3) (pc := 178) C dX10_goesBy_178 rfl (cn_1 _) (by decide) rfl ?_
          refine ws_goto (pc := 181) (tgt := 6) C dX10_goesBy_181 (by decide) ?_
          refine ws_less [2, 3, 1, 0] rfl ?_
          exact ih _ _ _ h
set_option maxRecDepth 20000 in
set_option maxHeartbeats 4000000 in
theorem mX10_goesBy {Y : xY} {Z : xZ} {a1 : Int32} {a2 : Int64} {s : xM} {z : Int64 × xM} (h : fX10_goesBy a1 a2 s = some z) : xMl (GM Y) Z yX10_goesBy cX10_goesBy 10 3 [.ref (Y.1 0), .int a1, .long a2] s z := by
  refine xMl_of (by decide) (Nat.le_of_ble_eq_true rfl) (fun B C R => ?_)
  have C : xC (GM Y) Z B "BetweenStopsModel" cX10_goesBy 10 3 := C
  show xWS (GM Y) B 10 s [(0, .ref (Y.1 0)), (1, .int a1), (2, .long a2)] 0 []
  unfold fX10_goesBy at h
  refine ws_lload_n (pc := 0) C dX10_goesBy_0 rfl 2 rfl ?_
  refine ws_lstore (pc := 1) C dX10_goesBy_1 (by decide) rfl ?_
  refine ws_iconst (pc := 3) C dX10_goesBy_3 ci_0 ?_
  refine ws_istore (pc := 4) C dX10_goesBy_4 (by decide) rfl ?_
  refine ws_less [2, 3, 1, 0] rfl ?_
  refine pX10_goesBy_L6 C R (fun x1 s2 h => ?_) fu _ _ _ h
  · refine ws_lload (pc := 184) C dX10_goesBy_184 0 rfl ?_
    exact wr_l (pc := 186) C R dX10_goesBy_186 h
set_option maxRecDepth 20000 in
set_option maxHeartbeats 4000000 in
theorem pX10_goesAll_L2 {Y : xY} {Z : xZ} {B : xB} {z : Int32 × xM} (C : xC (GM Y) Z B "BetweenStopsModel" cX10_goesAll 4 7) (R : xRv (GM Y) B z) {k39 : xM → Option (Int32 × xM)} {a1 : Int32} {a2 : Int32}
    (hk39 : ∀  (s : xM), k39 s = some z → xWS (GM Y) B 4 s [(0, .ref (Y.1 0)), (1, .int a1), (2, .int a2)] 39 []) : ∀ (n : Nat) (a3 : Int32) (s : xM), fX10_goesAll_L2 k39 a1 a2 n a3 s = some z → xWS (GM Y) B 4 s [(0, .ref (Y.1 0)), (1, .int a1), (2, .int a2), (3, .int a3)] 2 [] := by
  intro n
  induction n with
  | zero =>
    intro a3 s h
    rw [fX10_goesAll_L2] at h
    cases h
  | succ n ih =>
    intro a3 s h
    rw [fX10_goesAll_L2] at h
    refine ws_iload_n (pc := 2) C dX10_goesAll_2 rfl 3 rfl ?_
    refine ws_aload_n (pc := 3) C dX10_goesAll_3 rfl 0 rfl ?_
    refine ws_geti (pc := 4) C dX10_goesAll_4 fd_X10_166 sf_M_4 ?_
    refine ws_icmp_ge (pc := 7) (tgt := 39) C dX10_goesAll_7 (by decide) (fun c1 => ?_) (fun c1 => ?_)
    · have h := ite_t h c1
      refine ws_less [0, 1, 2] rfl ?_
      exact hk39 _ h
    · have h := ite_f h c1
      refine ws_aload_n (pc := 10) C dX10_goesAll_10 rfl 0 rfl ?_
      refine ws_getr (pc := 11) C dX10_goesAll_11 fd_X10_147 sf_M_65 ?_
      refine ws_iload_n (pc := 14) C dX10_goesAll_14 rfl 3 rfl ?_
      refine ws_aload_n (pc := 15) C dX10_goesAll_15 rfl 0 rfl ?_
      refine ws_geti (pc := 16) C dX10_goesAll_16 fd_X10_16 sf_M_2 ?_
      refine ws_ineg (pc := 19) C dX10_goesAll_19 ?_
      refine ws_i2l (pc := 20) C dX10_goesAll_20 ?_
      obtain ⟨g2, h⟩ := gd_ok h
      obtain ⟨s3, e4, h⟩ := lz_ok h
      refine ws_lastK (pc := 21) C dX10_goesAll_21 sr_m_left g2 rfl e4 ?_
      refine ws_aload_n (pc := 22) C dX10_goesAll_22 rfl 0 rfl ?_
      refine ws_getr (pc := 23) C dX10_goesAll_23 fd_X10_150 sf_M_66 ?_
      refine ws_iload_n (pc := 26) C dX10_goesAll_26 rfl 3 rfl ?_
      refine ws_aload_n (pc := 27) C dX10_goesAll_27 rfl 0 rfl ?_
      refine ws_iload_n (pc := 28) C dX10_goesAll_28 rfl 3 rfl ?_
      obtain ⟨r5, s6, q7, h⟩ := bd_ok h
      refine wc_iV (pc := 29)  C [.int a3] [.int a3, .ref (Y.1 36)] (mX10_useOf q7) dX10_goesAll_29 mw_X10_useOf mv_X10_useOf kl_X10_261 so_M rfl rfl (Nat.le_of_ble_eq_true rfl) ⟨by decide, by decide⟩ ?_
      obtain ⟨g8, h⟩ := gd_ok h
      obtain ⟨s9, e10, h⟩ := lz_ok h
      refine ws_iastK (pc := 32) C dX10_goesAll_32 sr_m_uses g8 rfl e10 ?_
      refine ws_iinc (j := 3) (pc := 33) C dX10_goesAll_33 rfl (cn_1 _) (by decide) rfl ?_
      refine ws_goto (pc := 36) (tgt := 2) C dX10_goesAll_36 (by decide) ?_
      refine ws_less [1, 2, 3, 0] rfl ?_
      exact ih _ _ h
set_option maxRecDepth 20000 in
set_option maxHeartbeats 4000000 in
theorem pX10_goesAll_J70 {Y : xY} {Z : xZ} {B : xB} {z : Int32 × xM} (C : xC (GM Y) Z B "BetweenStopsModel" cX10_goesAll 4 7) (R : xRv (GM Y) B z) {k82 : xM → Option (Int32 × xM)} {b : Int32 → xM → Option (Int32 × xM)} {a1 : Int32} {a2 : Int32} {a3 : Int32} {t0 : Int32} {t1 : Int64} {t2 : Int32} {t4 : Int32}
    (hk82 : ∀  (s : xM), k82 s = some z → xWS (GM Y) B 4 s [] 82 [])
    (hb : ∀ (a3 : Int32) (s : xM), b a3 s = some z → xWS (GM Y) B 4 s [(0, .ref (Y.1 0)), (1, .int a1), (2, .int a2), (3, .int a3)] 41 []) {s : xM} (h : fX10_goesAll_J70 k82 b a1 a2 a3 t0 t1 t2 t4 s = some z) : xWS (GM Y) B 4 s [(0, .ref (Y.1 0)), (1, .int a1), (2, .int a2), (3, .int a3)] 70 [.int t0, .long t1, .int t2, .ref (Y.1 0), .int t4, .ref (Y.1 37)] := by
  unfold fX10_goesAll_J70 at h
  refine ws_i2l (pc := 70) C dX10_goesAll_70 ?_
  refine ws_ladd (pc := 71) C dX10_goesAll_71 ?_
  obtain ⟨r1, s2, q3, h⟩ := bd_ok h
  refine wc_lV (pc := 72)  C [.int t2, .long (t1 + (t0.toInt64))] [.int t4, .ref (Y.1 37)] (mX10_goesBy q3) dX10_goesAll_72 mw_X10_goesBy mv_X10_goesBy kl_X10_379 so_M rfl rfl (Nat.le_of_ble_eq_true rfl) ⟨by decide, by decide⟩ ?_
  obtain ⟨g4, h⟩ := gd_ok h
  obtain ⟨s5, e6, h⟩ := lz_ok h
  refine ws_lastK (pc := 75) C dX10_goesAll_75 sr_m_ends g4 rfl e6 ?_
  refine ws_iinc (j := 3) (pc := 76) C dX10_goesAll_76 rfl (cn_1 _) (by decide) rfl ?_
  refine ws_goto (pc := 79) (tgt := 41) C dX10_goesAll_79 (by decide) ?_
  refine ws_less [1, 2, 3, 0] rfl ?_
  exact hb _ _ h
set_option maxRecDepth 20000 in
set_option maxHeartbeats 4000000 in
theorem pX10_goesAll_L41 {Y : xY} {Z : xZ} {B : xB} {z : Int32 × xM} (C : xC (GM Y) Z B "BetweenStopsModel" cX10_goesAll 4 7) (R : xRv (GM Y) B z) {k82 : xM → Option (Int32 × xM)} {a1 : Int32} {a2 : Int32}
    (hk82 : ∀  (s : xM), k82 s = some z → xWS (GM Y) B 4 s [] 82 []) : ∀ (n : Nat) (a3 : Int32) (s : xM), fX10_goesAll_L41 k82 a1 a2 n a3 s = some z → xWS (GM Y) B 4 s [(0, .ref (Y.1 0)), (1, .int a1), (2, .int a2), (3, .int a3)] 41 [] := by
  intro n
  induction n with
  | zero =>
    intro a3 s h
    rw [fX10_goesAll_L41] at h
    cases h
  | succ n ih =>
    intro a3 s h
    rw [fX10_goesAll_L41] at h
    refine ws_iload_n (pc := 41) C dX10_goesAll_41 rfl 3 rfl ?_
    refine ws_iload_n (pc := 42) C dX10_goesAll_42 rfl 1 rfl ?_
    refine ws_icmp_ge (pc := 43) (tgt := 82) C dX10_goesAll_43 (by decide) (fun c1 => ?_) (fun c1 => ?_)
    · have h := ite_t h c1
      refine ws_less [] rfl ?_
      exact hk82 _ h
    · have h := ite_f h c1
      refine ws_aload_n (pc := 46) C dX10_goesAll_46 rfl 0 rfl ?_
      refine ws_getr (pc := 47) C dX10_goesAll_47 fd_X10_153 sf_M_67 ?_
      refine ws_iload_n (pc := 50) C dX10_goesAll_50 rfl 3 rfl ?_
      refine ws_aload_n (pc := 51) C dX10_goesAll_51 rfl 0 rfl ?_
      refine ws_iload_n (pc := 52) C dX10_goesAll_52 rfl 3 rfl ?_
      refine ws_iload_n (pc := 53) C dX10_goesAll_53 rfl 3 rfl ?_
      refine ws_i2l (pc := 54) C dX10_goesAll_54 ?_
      refine ws_aload_n (pc := 55) C dX10_goesAll_55 rfl 0 rfl ?_
      refine ws_geti (pc := 56) C dX10_goesAll_56 fd_X10_16 sf_M_2 ?_
      refine ws_i2l (pc := 59) C dX10_goesAll_59 ?_
      refine ws_lmul (pc := 60) C dX10_goesAll_60 ?_
      refine ws_iload_n (pc := 61) C dX10_goesAll_61 rfl 3 rfl ?_
      refine ws_if_ne (pc := 62) (tgt := 69) C dX10_goesAll_62 (by decide) (fun c2 => ?_) (fun c2 => ?_)
      · have h := ite_f h c2
        refine ws_iconst (pc := 69) C dX10_goesAll_69 ci_0 ?_
        refine ws_less [0, 1, 2, 3] rfl ?_
        exact pX10_goesAll_J70 C R hk82 (fun a3 s h => ih a3 s h) h
      · have h := ite_t h c2
        refine ws_iload_n (pc := 65) C dX10_goesAll_65 rfl 2 rfl ?_
        refine ws_goto (pc := 66) (tgt := 70) C dX10_goesAll_66 (by decide) ?_
        refine ws_less [0, 1, 2, 3] rfl ?_
        exact pX10_goesAll_J70 C R hk82 (fun a3 s h => ih a3 s h) h
set_option maxRecDepth 20000 in
set_option maxHeartbeats 4000000 in
theorem mX10_goesAll {Y : xY} {Z : xZ} {a1 : Int32} {a2 : Int32} {s : xM} {z : Int32 × xM} (h : fX10_goesAll a1 a2 s = some z) : xMv (GM Y) Z yX10_goesAll cX10_goesAll 4 7 [.ref (Y.1 0), .int a1, .int a2] s z := by
  refine xMv_of (by decide) (Nat.le_of_ble_eq_true rfl) (fun B C R => ?_)
  have C : xC (GM Y) Z B "BetweenStopsModel" cX10_goesAll 4 7 := C
  show xWS (GM Y) B 4 s [(0, .ref (Y.1 0)), (1, .int a1), (2, .int a2)] 0 []
  unfold fX10_goesAll at h
  refine ws_iconst (pc := 0) C dX10_goesAll_0 ci_0 ?_
  refine ws_istore_n (pc := 1) C dX10_goesAll_1 rfl (by decide) rfl ?_
  refine ws_less [1, 2, 3, 0] rfl ?_
  refine pX10_goesAll_L2 C R (fun s1 h => ?_) fu _ _ h
  · refine ws_iconst (pc := 39) C dX10_goesAll_39 ci_0 ?_
    refine ws_istore_n (pc := 40) C dX10_goesAll_40 rfl (by decide) rfl ?_
    refine ws_less [1, 2, 3, 0] rfl ?_
    refine pX10_goesAll_L41 C R (fun s2 h => ?_) fu _ _ h
    · exact wr_v (pc := 82) C R dX10_goesAll_82 h
