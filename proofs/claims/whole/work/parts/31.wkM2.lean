set_option maxRecDepth 20000 in
set_option maxHeartbeats 4000000 in
theorem pX10_eRead_J100 {Y : xY} {Z : xZ} {B : xB} {z : Int32 × xM} (C : xC (GM Y) Z B "BetweenStopsModel" cX10_eRead 4 4) (R : xRi (GM Y) B .boolean z) {k98 : xM → Option (Int32 × xM)} {k118 : xM → Option (Int32 × xM)} {k142 : xM → Option (Int32 × xM)} {k149 : xM → Option (Int32 × xM)} {k160 : xM → Option (Int32 × xM)} {k199 : xM → Option (Int32 × xM)} {k248 : xM → Option (Int32 × xM)} {b : Int32 → Int32 → xM → Option (Int32 × xM)} {a1 : Int32}
    (hk98 : ∀  (s : xM), k98 s = some z → xWS (GM Y) B 4 s [] 98 [])
    (hk118 : ∀  (s : xM), k118 s = some z → xWS (GM Y) B 4 s [] 118 [])
    (hk142 : ∀  (s : xM), k142 s = some z → xWS (GM Y) B 4 s [] 142 [])
    (hk149 : ∀  (s : xM), k149 s = some z → xWS (GM Y) B 4 s [] 149 [])
    (hk160 : ∀  (s : xM), k160 s = some z → xWS (GM Y) B 4 s [(0, .ref (Y.1 0))] 160 [])
    (hk199 : ∀  (s : xM), k199 s = some z → xWS (GM Y) B 4 s [] 199 [])
    (hk248 : ∀  (s : xM), k248 s = some z → xWS (GM Y) B 4 s [] 248 [])
    (hb : ∀ (a1 : Int32) (a2 : Int32) (s : xM), b a1 a2 s = some z → xWS (GM Y) B 4 s [(0, .ref (Y.1 0)), (1, .int a1), (2, .int a2)] 14 []) {s : xM} (h : fX10_eRead_J100 k98 k118 k142 k149 k160 k199 k248 b a1 s = some z) : xWS (GM Y) B 4 s [(0, .ref (Y.1 0)), (1, .int a1)] 100 [] := by
  unfold fX10_eRead_J100 at h
  refine ws_aload_n (pc := 100) C dX10_eRead_100 rfl 0 rfl ?_
  refine ws_geti (pc := 101) C dX10_eRead_101 fd_X10_272 sf_M_49 ?_
  refine ws_bipush (pc := 104) C dX10_eRead_104 cb_45 ?_
  refine ws_icmp_ne (pc := 106) (tgt := 125) C dX10_eRead_106 (by decide) (fun c1 => ?_) (fun c1 => ?_)
  · have h := ite_f h c1
    refine ws_aload_n (pc := 125) C dX10_eRead_125 rfl 0 rfl ?_
    refine ws_geti (pc := 126) C dX10_eRead_126 fd_X10_272 sf_M_49 ?_
    refine ws_bipush (pc := 129) C dX10_eRead_129 cb_40 ?_
    refine ws_icmp_ne (pc := 131) (tgt := 149) C dX10_eRead_131 (by decide) (fun c2 => ?_) (fun c2 => ?_)
    · have h := ite_f h c2
      refine ws_less [] rfl ?_
      exact hk149 _ h
    · have h := ite_t h c2
      refine ws_aload_n (pc := 134) C dX10_eRead_134 rfl 0 rfl ?_
      refine ws_iconst (pc := 135) C dX10_eRead_135 ci_0 ?_
      obtain ⟨r3, s4, q5, h⟩ := bd_ok h
      refine wc_iV (pc := 136)  C [.int (0 : Int32)] [] (mX10_opensOne q5) dX10_eRead_136 mw_X10_opensOne mv_X10_opensOne kl_X10_306 so_M rfl rfl (Nat.le_of_ble_eq_true rfl) ⟨by decide, by decide⟩ ?_
      refine ws_if_ne (pc := 139) (tgt := 144) C dX10_eRead_139 (by decide) (fun c6 => ?_) (fun c6 => ?_)
      · have h := ite_f h c6
        refine ws_iconst (pc := 144) C dX10_eRead_144 ci_1 ?_
        refine ws_istore_n (pc := 145) C dX10_eRead_145 rfl (by decide) rfl ?_
        refine ws_goto (pc := 146) (tgt := 14) C dX10_eRead_146 (by decide) ?_
        refine ws_less [1, 2, 0] rfl ?_
        exact hb _ _ _ h
      · have h := ite_t h c6
        refine ws_less [] rfl ?_
        exact hk142 _ h
  · have h := ite_t h c1
    refine ws_aload_n (pc := 109) C dX10_eRead_109 rfl 0 rfl ?_
    refine ws_bipush (pc := 110) C dX10_eRead_110 cb_19 ?_
    obtain ⟨r7, s8, q9, h⟩ := bd_ok h
    refine wc_iV (pc := 112)  C [.int (19 : Int32)] [] (mX10_opensOne q9) dX10_eRead_112 mw_X10_opensOne mv_X10_opensOne kl_X10_306 so_M rfl rfl (Nat.le_of_ble_eq_true rfl) ⟨by decide, by decide⟩ ?_
    refine ws_if_ne (pc := 115) (tgt := 120) C dX10_eRead_115 (by decide) (fun c10 => ?_) (fun c10 => ?_)
    · have h := ite_f h c10
      refine ws_iconst (pc := 120) C dX10_eRead_120 ci_0 ?_
      refine ws_istore_n (pc := 121) C dX10_eRead_121 rfl (by decide) rfl ?_
      refine ws_goto (pc := 122) (tgt := 14) C dX10_eRead_122 (by decide) ?_
      refine ws_less [1, 2, 0] rfl ?_
      exact hb _ _ _ h
    · have h := ite_t h c10
      refine ws_less [] rfl ?_
      exact hk118 _ h
set_option maxRecDepth 20000 in
set_option maxHeartbeats 4000000 in
theorem pX10_eRead_J62 {Y : xY} {Z : xZ} {B : xB} {z : Int32 × xM} (C : xC (GM Y) Z B "BetweenStopsModel" cX10_eRead 4 4) (R : xRi (GM Y) B .boolean z) {k98 : xM → Option (Int32 × xM)} {k118 : xM → Option (Int32 × xM)} {k142 : xM → Option (Int32 × xM)} {k149 : xM → Option (Int32 × xM)} {k160 : xM → Option (Int32 × xM)} {k199 : xM → Option (Int32 × xM)} {k248 : xM → Option (Int32 × xM)} {b : Int32 → Int32 → xM → Option (Int32 × xM)} {a2 : Int32} {t0 : Int32}
    (hk98 : ∀  (s : xM), k98 s = some z → xWS (GM Y) B 4 s [] 98 [])
    (hk118 : ∀  (s : xM), k118 s = some z → xWS (GM Y) B 4 s [] 118 [])
    (hk142 : ∀  (s : xM), k142 s = some z → xWS (GM Y) B 4 s [] 142 [])
    (hk149 : ∀  (s : xM), k149 s = some z → xWS (GM Y) B 4 s [] 149 [])
    (hk160 : ∀  (s : xM), k160 s = some z → xWS (GM Y) B 4 s [(0, .ref (Y.1 0))] 160 [])
    (hk199 : ∀  (s : xM), k199 s = some z → xWS (GM Y) B 4 s [] 199 [])
    (hk248 : ∀  (s : xM), k248 s = some z → xWS (GM Y) B 4 s [] 248 [])
    (hb : ∀ (a1 : Int32) (a2 : Int32) (s : xM), b a1 a2 s = some z → xWS (GM Y) B 4 s [(0, .ref (Y.1 0)), (1, .int a1), (2, .int a2)] 14 []) {s : xM} (h : fX10_eRead_J62 k98 k118 k142 k149 k160 k199 k248 b a2 t0 s = some z) : xWS (GM Y) B 4 s [(0, .ref (Y.1 0)), (2, .int a2)] 62 [.int t0, .ref (Y.1 0)] := by
  unfold fX10_eRead_J62 at h
  obtain ⟨r1, s2, q3, h⟩ := bd_ok h
  refine wc_vV (pc := 62)  C [.int t0] [] (mX10_puts q3) dX10_eRead_62 mw_X10_puts mv_X10_puts kl_X10_293 so_M rfl rfl (Nat.le_of_ble_eq_true rfl) ⟨by decide, by decide⟩ ?_
  refine ws_aload_n (pc := 65) C dX10_eRead_65 rfl 0 rfl ?_
  refine ws_bipush (pc := 66) C dX10_eRead_66 cb_7 ?_
  obtain ⟨r4, s5, q6, h⟩ := bd_ok h
  refine wc_vV (pc := 68)  C [.int (7 : Int32)] [] (mX10_unwinds q6) dX10_eRead_68 mw_X10_unwinds mv_X10_unwinds kl_X10_299 so_M rfl rfl (Nat.le_of_ble_eq_true rfl) ⟨by decide, by decide⟩ ?_
  refine ws_iconst (pc := 71) C dX10_eRead_71 ci_0 ?_
  refine ws_istore_n (pc := 72) C dX10_eRead_72 rfl (by decide) rfl ?_
  refine ws_goto (pc := 73) (tgt := 14) C dX10_eRead_73 (by decide) ?_
  refine ws_less [1, 0, 2] rfl ?_
  exact hb _ _ _ h
set_option maxRecDepth 20000 in
set_option maxHeartbeats 4000000 in
theorem pX10_eRead_J38 {Y : xY} {Z : xZ} {B : xB} {z : Int32 × xM} (C : xC (GM Y) Z B "BetweenStopsModel" cX10_eRead 4 4) (R : xRi (GM Y) B .boolean z) {k98 : xM → Option (Int32 × xM)} {k118 : xM → Option (Int32 × xM)} {k142 : xM → Option (Int32 × xM)} {k149 : xM → Option (Int32 × xM)} {k160 : xM → Option (Int32 × xM)} {k199 : xM → Option (Int32 × xM)} {k248 : xM → Option (Int32 × xM)} {b : Int32 → Int32 → xM → Option (Int32 × xM)} {a2 : Int32}
    (hk98 : ∀  (s : xM), k98 s = some z → xWS (GM Y) B 4 s [] 98 [])
    (hk118 : ∀  (s : xM), k118 s = some z → xWS (GM Y) B 4 s [] 118 [])
    (hk142 : ∀  (s : xM), k142 s = some z → xWS (GM Y) B 4 s [] 142 [])
    (hk149 : ∀  (s : xM), k149 s = some z → xWS (GM Y) B 4 s [] 149 [])
    (hk160 : ∀  (s : xM), k160 s = some z → xWS (GM Y) B 4 s [(0, .ref (Y.1 0))] 160 [])
    (hk199 : ∀  (s : xM), k199 s = some z → xWS (GM Y) B 4 s [] 199 [])
    (hk248 : ∀  (s : xM), k248 s = some z → xWS (GM Y) B 4 s [] 248 [])
    (hb : ∀ (a1 : Int32) (a2 : Int32) (s : xM), b a1 a2 s = some z → xWS (GM Y) B 4 s [(0, .ref (Y.1 0)), (1, .int a1), (2, .int a2)] 14 []) {s : xM} (h : fX10_eRead_J38 k98 k118 k142 k149 k160 k199 k248 b a2 s = some z) : xWS (GM Y) B 4 s [(0, .ref (Y.1 0)), (2, .int a2)] 38 [] := by
  unfold fX10_eRead_J38 at h
  refine ws_aload_n (pc := 38) C dX10_eRead_38 rfl 0 rfl ?_
  refine ws_aload_n (pc := 39) C dX10_eRead_39 rfl 0 rfl ?_
  refine ws_geti (pc := 40) C dX10_eRead_40 fd_X10_272 sf_M_49 ?_
  refine ws_iconst (pc := 43) C dX10_eRead_43 ci_1 ?_
  refine ws_icmp_ne (pc := 44) (tgt := 58) C dX10_eRead_44 (by decide) (fun c1 => ?_) (fun c1 => ?_)
  · have h := ite_f h c1
    refine ws_aload_n (pc := 58) C dX10_eRead_58 rfl 0 rfl ?_
    refine ws_geti (pc := 59) C dX10_eRead_59 fd_X10_275 sf_M_50 ?_
    refine ws_less [0, 1] rfl ?_
    exact pX10_eRead_J62 C R hk98 hk118 hk142 hk149 hk160 hk199 hk248 hb h
  · have h := ite_t h c1
    refine ws_ldcw (pc := 47) C dX10_eRead_47 kk_X10_305 ?_
    refine ws_aload_n (pc := 50) C dX10_eRead_50 rfl 0 rfl ?_
    refine ws_geti (pc := 51) C dX10_eRead_51 fd_X10_275 sf_M_50 ?_
    refine ws_iadd (pc := 54) C dX10_eRead_54 ?_
    refine ws_goto (pc := 55) (tgt := 62) C dX10_eRead_55 (by decide) ?_
    refine ws_less [0, 1] rfl ?_
    exact pX10_eRead_J62 C R hk98 hk118 hk142 hk149 hk160 hk199 hk248 hb h
set_option maxRecDepth 20000 in
set_option maxHeartbeats 4000000 in
theorem pX10_eRead_L14 {Y : xY} {Z : xZ} {B : xB} {z : Int32 × xM} (C : xC (GM Y) Z B "BetweenStopsModel" cX10_eRead 4 4) (R : xRi (GM Y) B .boolean z) {k98 : xM → Option (Int32 × xM)} {k118 : xM → Option (Int32 × xM)} {k142 : xM → Option (Int32 × xM)} {k149 : xM → Option (Int32 × xM)} {k160 : xM → Option (Int32 × xM)} {k199 : xM → Option (Int32 × xM)} {k248 : xM → Option (Int32 × xM)}
    (hk98 : ∀  (s : xM), k98 s = some z → xWS (GM Y) B 4 s [] 98 [])
    (hk118 : ∀  (s : xM), k118 s = some z → xWS (GM Y) B 4 s [] 118 [])
    (hk142 : ∀  (s : xM), k142 s = some z → xWS (GM Y) B 4 s [] 142 [])
    (hk149 : ∀  (s : xM), k149 s = some z → xWS (GM Y) B 4 s [] 149 [])
    (hk160 : ∀  (s : xM), k160 s = some z → xWS (GM Y) B 4 s [(0, .ref (Y.1 0))] 160 [])
    (hk199 : ∀  (s : xM), k199 s = some z → xWS (GM Y) B 4 s [] 199 [])
    (hk248 : ∀  (s : xM), k248 s = some z → xWS (GM Y) B 4 s [] 248 []) : ∀ (n : Nat) (a1 : Int32) (a2 : Int32) (s : xM), fX10_eRead_L14 k98 k118 k142 k149 k160 k199 k248 n a1 a2 s = some z → xWS (GM Y) B 4 s [(0, .ref (Y.1 0)), (1, .int a1), (2, .int a2)] 14 [] := by
  intro n
  induction n with
  | zero =>
    intro a1 a2 s h
    rw [fX10_eRead_L14] at h
    cases h
  | succ n ih =>
    intro a1 a2 s h
    rw [fX10_eRead_L14] at h
    refine ws_aload_n (pc := 14) C dX10_eRead_14 rfl 0 rfl ?_
    obtain ⟨r1, s2, q3, h⟩ := bd_ok h
    refine wc_vV (pc := 15)  C [] [] (mX10_next q3) dX10_eRead_15 mw_X10_next mv_X10_next kl_X10_302 so_M rfl rfl (Nat.le_of_ble_eq_true rfl) ⟨by decide, by decide⟩ ?_
    refine ws_iload_n (pc := 18) C dX10_eRead_18 rfl 1 rfl ?_
    refine ws_if_eq (pc := 19) (tgt := 151) C dX10_eRead_19 (by decide) (fun c4 => ?_) (fun c4 => ?_)
    · have h := ite_t h c4
      refine ws_aload_n (pc := 151) C dX10_eRead_151 rfl 0 rfl ?_
      refine ws_geti (pc := 152) C dX10_eRead_152 fd_X10_272 sf_M_49 ?_
      refine ws_bipush (pc := 155) C dX10_eRead_155 cb_59 ?_
      refine ws_icmp_ne (pc := 157) (tgt := 178) C dX10_eRead_157 (by decide) (fun c5 => ?_) (fun c5 => ?_)
      · have h := ite_f h c5
        refine ws_aload_n (pc := 178) C dX10_eRead_178 rfl 0 rfl ?_
        refine ws_geti (pc := 179) C dX10_eRead_179 fd_X10_272 sf_M_49 ?_
        refine ws_bipush (pc := 182) C dX10_eRead_182 cb_41 ?_
        refine ws_icmp_ne (pc := 184) (tgt := 230) C dX10_eRead_184 (by decide) (fun c6 => ?_) (fun c6 => ?_)
        · have h := ite_f h c6
          refine ws_aload_n (pc := 230) C dX10_eRead_230 rfl 0 rfl ?_
          obtain ⟨r7, s8, q9, h⟩ := bd_ok h
          refine wc_iV (pc := 231)  C [] [] (mX10_signOf q9) dX10_eRead_231 mw_X10_signOf mv_X10_signOf kl_X10_309 so_M rfl rfl (Nat.le_of_ble_eq_true rfl) ⟨by decide, by decide⟩ ?_
          refine ws_istore_n (pc := 234) C dX10_eRead_234 rfl (by decide) rfl ?_
          refine ws_iload_n (pc := 235) C dX10_eRead_235 rfl 0 rfl ?_
          refine ws_iconst (pc := 236) C dX10_eRead_236 ci_m1 ?_
          refine ws_icmp_eq (pc := 237) (tgt := 248) C dX10_eRead_237 (by decide) (fun c10 => ?_) (fun c10 => ?_)
          · have h := ite_t h c10
            refine ws_less [] rfl ?_
            exact hk248 _ h
          · have h := ite_f h c10
            refine ws_aload_n (pc := 240) C dX10_eRead_240 rfl 1 rfl ?_
            refine ws_iload_n (pc := 241) C dX10_eRead_241 rfl 0 rfl ?_
            obtain ⟨r11, s12, q13, h⟩ := bd_ok h
            refine wc_iV (pc := 242)  C [.int r7] [] (mX10_between q13) dX10_eRead_242 mw_X10_between mv_X10_between kl_X10_312 so_M rfl rfl (Nat.le_of_ble_eq_true rfl) ⟨by decide, by decide⟩ ?_
            refine ws_if_ne (pc := 245) (tgt := 250) C dX10_eRead_245 (by decide) (fun c14 => ?_) (fun c14 => ?_)
            · have h := ite_f h c14
              refine ws_iconst (pc := 250) C dX10_eRead_250 ci_1 ?_
              refine ws_istore_n (pc := 251) C dX10_eRead_251 rfl (by decide) rfl ?_
              refine ws_iload_n (pc := 252) C dX10_eRead_252 rfl 1 rfl ?_
              refine ws_bipush (pc := 253) C dX10_eRead_253 cb_12 ?_
              refine ws_icmp_gt (pc := 255) (tgt := 262) C dX10_eRead_255 (by decide) (fun c15 => ?_) (fun c15 => ?_)
              · have h := ite_t h c15
                refine ws_iconst (pc := 262) C dX10_eRead_262 ci_0 ?_
                refine ws_istore_n (pc := 263) C dX10_eRead_263 rfl (by decide) rfl ?_
                refine ws_goto (pc := 264) (tgt := 14) C dX10_eRead_264 (by decide) ?_
                refine ws_less [3, 1, 0] rfl ?_
                exact ih _ _ _ h
              · have h := ite_f h c15
                refine ws_iconst (pc := 258) C dX10_eRead_258 ci_1 ?_
                refine ws_goto (pc := 259) (tgt := 263) C dX10_eRead_259 (by decide) ?_
                refine ws_istore_n (pc := 263) C dX10_eRead_263 rfl (by decide) rfl ?_
                refine ws_goto (pc := 264) (tgt := 14) C dX10_eRead_264 (by decide) ?_
                refine ws_less [3, 1, 0] rfl ?_
                exact ih _ _ _ h
            · have h := ite_t h c14
              refine ws_less [] rfl ?_
              exact hk248 _ h
        · have h := ite_t h c6
          refine ws_aload_n (pc := 187) C dX10_eRead_187 rfl 0 rfl ?_
          refine ws_iconst (pc := 188) C dX10_eRead_188 ci_1 ?_
          obtain ⟨r16, s17, q18, h⟩ := bd_ok h
          refine wc_vV (pc := 189)  C [.int (1 : Int32)] [] (mX10_unwinds q18) dX10_eRead_189 mw_X10_unwinds mv_X10_unwinds kl_X10_299 so_M rfl rfl (Nat.le_of_ble_eq_true rfl) ⟨by decide, by decide⟩ ?_
          refine ws_aload_n (pc := 192) C dX10_eRead_192 rfl 0 rfl ?_
          refine ws_geti (pc := 193) C dX10_eRead_193 fd_X10_284 sf_M_53 ?_
          refine ws_if_ne (pc := 196) (tgt := 201) C dX10_eRead_196 (by decide) (fun c19 => ?_) (fun c19 => ?_)
          · have h := ite_f h c19
            refine ws_aload_n (pc := 201) C dX10_eRead_201 rfl 0 rfl ?_
            refine ws_dup (pc := 202) C dX10_eRead_202 rfl ?_
            refine ws_geti (pc := 203) C dX10_eRead_203 fd_X10_284 sf_M_53 ?_
            refine ws_iconst (pc := 206) C dX10_eRead_206 ci_1 ?_
            refine ws_isub (pc := 207) C dX10_eRead_207 ?_
            obtain ⟨s20, e21, h⟩ := lz_ok h
            refine ws_putI (pc := 208) C dX10_eRead_208 fp_X10_284 sf_M_53 e21 ?_
            refine ws_aload_n (pc := 211) C dX10_eRead_211 rfl 0 rfl ?_
            refine ws_dup (pc := 212) C dX10_eRead_212 rfl ?_
            refine ws_geti (pc := 213) C dX10_eRead_213 fd_X10_290 sf_M_54 ?_
            refine ws_iconst (pc := 216) C dX10_eRead_216 ci_1 ?_
            refine ws_isub (pc := 217) C dX10_eRead_217 ?_
            obtain ⟨s22, e23, h⟩ := lz_ok h
            refine ws_putI (pc := 218) C dX10_eRead_218 fp_X10_290 sf_M_54 e23 ?_
            refine ws_aload_n (pc := 221) C dX10_eRead_221 rfl 0 rfl ?_
            refine ws_bipush (pc := 222) C dX10_eRead_222 cb_7 ?_
            obtain ⟨r24, s25, q26, h⟩ := bd_ok h
            refine wc_vV (pc := 224)  C [.int (7 : Int32)] [] (mX10_unwinds q26) dX10_eRead_224 mw_X10_unwinds mv_X10_unwinds kl_X10_299 so_M rfl rfl (Nat.le_of_ble_eq_true rfl) ⟨by decide, by decide⟩ ?_
            refine ws_goto (pc := 227) (tgt := 14) C dX10_eRead_227 (by decide) ?_
            refine ws_less [0, 1, 2] rfl ?_
            exact ih _ _ _ h
          · have h := ite_t h c19
            refine ws_less [] rfl ?_
            exact hk199 _ h
      · have h := ite_t h c5
        refine ws_less [0] rfl ?_
        exact hk160 _ h
    · have h := ite_f h c4
      refine ws_aload_n (pc := 22) C dX10_eRead_22 rfl 0 rfl ?_
      refine ws_geti (pc := 23) C dX10_eRead_23 fd_X10_272 sf_M_49 ?_
      refine ws_iconst (pc := 26) C dX10_eRead_26 ci_1 ?_
      refine ws_icmp_eq (pc := 27) (tgt := 38) C dX10_eRead_27 (by decide) (fun c27 => ?_) (fun c27 => ?_)
      · have h := ite_t h c27
        refine ws_less [0, 2] rfl ?_
        exact pX10_eRead_J38 C R hk98 hk118 hk142 hk149 hk160 hk199 hk248 (fun a1 a2 s h => ih a1 a2 s h) h
      · have h := ite_f h c27
        refine ws_aload_n (pc := 30) C dX10_eRead_30 rfl 0 rfl ?_
        refine ws_geti (pc := 31) C dX10_eRead_31 fd_X10_272 sf_M_49 ?_
        refine ws_iconst (pc := 34) C dX10_eRead_34 ci_2 ?_
        refine ws_icmp_ne (pc := 35) (tgt := 76) C dX10_eRead_35 (by decide) (fun c28 => ?_) (fun c28 => ?_)
        · have h := ite_f h c28
          refine ws_aload_n (pc := 76) C dX10_eRead_76 rfl 0 rfl ?_
          refine ws_geti (pc := 77) C dX10_eRead_77 fd_X10_272 sf_M_49 ?_
          refine ws_bipush (pc := 80) C dX10_eRead_80 cb_6 ?_
          refine ws_icmp_ne (pc := 82) (tgt := 100) C dX10_eRead_82 (by decide) (fun c29 => ?_) (fun c29 => ?_)
          · have h := ite_f h c29
            refine ws_less [0, 1] rfl ?_
            exact pX10_eRead_J100 C R hk98 hk118 hk142 hk149 hk160 hk199 hk248 (fun a1 a2 s h => ih a1 a2 s h) h
          · have h := ite_t h c29
            refine ws_iload_n (pc := 85) C dX10_eRead_85 rfl 2 rfl ?_
            refine ws_if_eq (pc := 86) (tgt := 100) C dX10_eRead_86 (by decide) (fun c30 => ?_) (fun c30 => ?_)
            · have h := ite_t h c30
              refine ws_less [0, 1] rfl ?_
              exact pX10_eRead_J100 C R hk98 hk118 hk142 hk149 hk160 hk199 hk248 (fun a1 a2 s h => ih a1 a2 s h) h
            · have h := ite_f h c30
              refine ws_aload_n (pc := 89) C dX10_eRead_89 rfl 0 rfl ?_
              refine ws_bipush (pc := 90) C dX10_eRead_90 cb_13 ?_
              obtain ⟨r31, s32, q33, h⟩ := bd_ok h
              refine wc_iV (pc := 92)  C [.int (13 : Int32)] [] (mX10_opensOne q33) dX10_eRead_92 mw_X10_opensOne mv_X10_opensOne kl_X10_306 so_M rfl rfl (Nat.le_of_ble_eq_true rfl) ⟨by decide, by decide⟩ ?_
              refine ws_if_ne (pc := 95) (tgt := 14) C dX10_eRead_95 (by decide) (fun c34 => ?_) (fun c34 => ?_)
              · have h := ite_f h c34
                refine ws_less [0, 1, 2] rfl ?_
                exact ih _ _ _ h
              · have h := ite_t h c34
                refine ws_less [] rfl ?_
                exact hk98 _ h
        · have h := ite_t h c28
          refine ws_less [0, 2] rfl ?_
          exact pX10_eRead_J38 C R hk98 hk118 hk142 hk149 hk160 hk199 hk248 (fun a1 a2 s h => ih a1 a2 s h) h
set_option maxRecDepth 20000 in
set_option maxHeartbeats 4000000 in
theorem mX10_eRead {Y : xY} {Z : xZ} {s : xM} {z : Int32 × xM} (h : fX10_eRead s = some z) : xMi (GM Y) Z yX10_eRead cX10_eRead 4 4 .boolean [.ref (Y.1 0)] s z := by
  refine xMi_of (by decide) (Nat.le_of_ble_eq_true rfl) (fun B C R => ?_)
  have C : xC (GM Y) Z B "BetweenStopsModel" cX10_eRead 4 4 := C
  show xWS (GM Y) B 4 s [(0, .ref (Y.1 0))] 0 []
  unfold fX10_eRead at h
  refine ws_aload_n (pc := 0) C dX10_eRead_0 rfl 0 rfl ?_
  refine ws_iconst (pc := 1) C dX10_eRead_1 ci_0 ?_
  obtain ⟨s1, e2, h⟩ := lz_ok h
  refine ws_putI (pc := 2) C dX10_eRead_2 fp_X10_284 sf_M_53 e2 ?_
  refine ws_aload_n (pc := 5) C dX10_eRead_5 rfl 0 rfl ?_
  refine ws_iconst (pc := 6) C dX10_eRead_6 ci_0 ?_
  obtain ⟨s3, e4, h⟩ := lz_ok h
  refine ws_putI (pc := 7) C dX10_eRead_7 fp_X10_290 sf_M_54 e4 ?_
  refine ws_iconst (pc := 10) C dX10_eRead_10 ci_1 ?_
  refine ws_istore_n (pc := 11) C dX10_eRead_11 rfl (by decide) rfl ?_
  refine ws_iconst (pc := 12) C dX10_eRead_12 ci_1 ?_
  refine ws_istore_n (pc := 13) C dX10_eRead_13 rfl (by decide) rfl ?_
  refine ws_less [2, 1, 0] rfl ?_
  refine pX10_eRead_L14 C R (fun s5 h => ?_) (fun s6 h => ?_) (fun s7 h => ?_) (fun s8 h => ?_) (fun s9 h => ?_) (fun s14 h => ?_) (fun s15 h => ?_) fu _ _ _ h
  · refine ws_iconst (pc := 98) C dX10_eRead_98 ci_0 ?_
    exact wr_i (pc := 99) C R dX10_eRead_99 (isZ_nar isZ0) h
  · refine ws_iconst (pc := 118) C dX10_eRead_118 ci_0 ?_
    exact wr_i (pc := 119) C R dX10_eRead_119 (isZ_nar isZ0) h
  · refine ws_iconst (pc := 142) C dX10_eRead_142 ci_0 ?_
    exact wr_i (pc := 143) C R dX10_eRead_143 (isZ_nar isZ0) h
  · refine ws_iconst (pc := 149) C dX10_eRead_149 ci_0 ?_
    exact wr_i (pc := 150) C R dX10_eRead_150 (isZ_nar isZ0) h
  · refine ws_aload_n (pc := 160) C dX10_eRead_160 rfl 0 rfl ?_
    refine ws_iconst (pc := 161) C dX10_eRead_161 ci_1 ?_
    obtain ⟨r10, s11, q12, h⟩ := bd_ok h
    refine wc_vV (pc := 162)  C [.int (1 : Int32)] [] (mX10_unwinds q12) dX10_eRead_162 mw_X10_unwinds mv_X10_unwinds kl_X10_299 so_M rfl rfl (Nat.le_of_ble_eq_true rfl) ⟨by decide, by decide⟩ ?_
    refine ws_aload_n (pc := 165) C dX10_eRead_165 rfl 0 rfl ?_
    refine ws_geti (pc := 166) C dX10_eRead_166 fd_X10_284 sf_M_53 ?_
    refine ws_if_ne (pc := 169) (tgt := 176) C dX10_eRead_169 (by decide) (fun c13 => ?_) (fun c13 => ?_)
    · have h := ite_f h c13
      refine ws_iconst (pc := 176) C dX10_eRead_176 ci_0 ?_
      exact wr_i (pc := 177) C R dX10_eRead_177 (isZ_nar isZ0) h
    · have h := ite_t h c13
      refine ws_iconst (pc := 172) C dX10_eRead_172 ci_1 ?_
      refine ws_goto (pc := 173) (tgt := 177) C dX10_eRead_173 (by decide) ?_
      exact wr_i (pc := 177) C R dX10_eRead_177 (isZ_nar isZ1) h
  · refine ws_iconst (pc := 199) C dX10_eRead_199 ci_0 ?_
    exact wr_i (pc := 200) C R dX10_eRead_200 (isZ_nar isZ0) h
  · refine ws_iconst (pc := 248) C dX10_eRead_248 ci_0 ?_
    exact wr_i (pc := 249) C R dX10_eRead_249 (isZ_nar isZ0) h
set_option maxRecDepth 20000 in
set_option maxHeartbeats 4000000 in
theorem pX10_text_J60 {Y : xY} {Z : xZ} {B : xB} {z : Int32 × xM} (C : xC (GM Y) Z B "BetweenStopsModel" cX10_text 3 5) (R : xRi (GM Y) B .int z) {k101 : Int32 → xM → Option (Int32 × xM)} {b : Int32 → Int32 → xM → Option (Int32 × xM)} {a2 : Int32} {t0 : Int32}
    (hk101 : ∀ (a1 : Int32) (s : xM), k101 a1 s = some z → xWS (GM Y) B 3 s [(0, .ref (Y.1 0)), (1, .int a1)] 101 [])
    (hb : ∀ (a1 : Int32) (a2 : Int32) (s : xM), b a1 a2 s = some z → xWS (GM Y) B 3 s [(0, .ref (Y.1 0)), (1, .int a1), (2, .int a2)] 26 []) {s : xM} (h : fX10_text_J60 k101 b a2 t0 s = some z) : xWS (GM Y) B 3 s [(0, .ref (Y.1 0)), (2, .int a2)] 60 [.int t0] := by
  unfold fX10_text_J60 at h
  refine ws_istore_n (pc := 60) C dX10_text_60 rfl (by decide) rfl ?_
  refine ws_aload_n (pc := 61) C dX10_text_61 rfl 1 rfl ?_
  refine ws_getr (pc := 62) C dX10_text_62 fd_X10_62 sf_M_20 ?_
  refine ws_iconst (pc := 65) C dX10_text_65 ci_4 ?_
  refine ws_aload_n (pc := 66) C dX10_text_66 rfl 1 rfl ?_
  refine ws_geti (pc := 67) C dX10_text_67 fd_X10_65 sf_M_21 ?_
  refine ws_imul (pc := 70) C dX10_text_70 ?_
  refine ws_iload_n (pc := 71) C dX10_text_71 rfl 2 rfl ?_
  refine ws_iadd (pc := 72) C dX10_text_72 ?_
  refine ws_aload_n (pc := 73) C dX10_text_73 rfl 1 rfl ?_
  refine ws_geti (pc := 74) C dX10_text_74 fd_X10_281 sf_M_55 ?_
  obtain ⟨g1, h⟩ := gd_ok h
  obtain ⟨s2, e3, h⟩ := lz_ok h
  refine ws_iastK (pc := 77) C dX10_text_77 sr_m_starts g1 rfl e3 ?_
  refine ws_iload_n (pc := 78) C dX10_text_78 rfl 0 rfl ?_
  refine ws_if_eq (pc := 79) (tgt := 93) C dX10_text_79 (by decide) (fun c4 => ?_) (fun c4 => ?_)
  · have h := ite_t h c4
    refine ws_iconst (pc := 93) C dX10_text_93 ci_0 ?_
    refine ws_istore_n (pc := 94) C dX10_text_94 rfl (by decide) rfl ?_
    refine ws_iinc (j := 2) (pc := 95) C dX10_text_95 rfl (cn_1 _) (by decide) rfl ?_
    refine ws_goto (pc := 98) (tgt := 26) C dX10_text_98 (by decide) ?_
    refine ws_less [2, 1, 0] rfl ?_
    exact hb _ _ _ h
  · have h := ite_f h c4
    refine ws_aload_n (pc := 82) C dX10_text_82 rfl 1 rfl ?_
    obtain ⟨r5, s6, q7, h⟩ := bd_ok h
    refine wc_iV (pc := 83)  C [] [] (mX10_eRead q7) dX10_text_83 mw_X10_eRead mv_X10_eRead kl_X10_315 so_M rfl rfl (Nat.le_of_ble_eq_true rfl) ⟨by decide, by decide⟩ ?_
    refine ws_if_eq (pc := 86) (tgt := 93) C dX10_text_86 (by decide) (fun c8 => ?_) (fun c8 => ?_)
    · have h := ite_t h c8
      refine ws_iconst (pc := 93) C dX10_text_93 ci_0 ?_
      refine ws_istore_n (pc := 94) C dX10_text_94 rfl (by decide) rfl ?_
      refine ws_iinc (j := 2) (pc := 95) C dX10_text_95 rfl (cn_1 _) (by decide) rfl ?_
      refine ws_goto (pc := 98) (tgt := 26) C dX10_text_98 (by decide) ?_
      refine ws_less [2, 1, 0] rfl ?_
      exact hb _ _ _ h
    · have h := ite_f h c8
      refine ws_iconst (pc := 89) C dX10_text_89 ci_1 ?_
      refine ws_goto (pc := 90) (tgt := 94) C dX10_text_90 (by decide) ?_
      refine ws_istore_n (pc := 94) C dX10_text_94 rfl (by decide) rfl ?_
      refine ws_iinc (j := 2) (pc := 95) C dX10_text_95 rfl (cn_1 _) (by decide) rfl ?_
      refine ws_goto (pc := 98) (tgt := 26) C dX10_text_98 (by decide) ?_
      refine ws_less [2, 1, 0] rfl ?_
      exact hb _ _ _ h
set_option maxRecDepth 20000 in
set_option maxHeartbeats 4000000 in
theorem pX10_text_J59 {Y : xY} {Z : xZ} {B : xB} {z : Int32 × xM} (C : xC (GM Y) Z B "BetweenStopsModel" cX10_text 3 5) (R : xRi (GM Y) B .int z) {k101 : Int32 → xM → Option (Int32 × xM)} {b : Int32 → Int32 → xM → Option (Int32 × xM)} {a2 : Int32}
    (hk101 : ∀ (a1 : Int32) (s : xM), k101 a1 s = some z → xWS (GM Y) B 3 s [(0, .ref (Y.1 0)), (1, .int a1)] 101 [])
    (hb : ∀ (a1 : Int32) (a2 : Int32) (s : xM), b a1 a2 s = some z → xWS (GM Y) B 3 s [(0, .ref (Y.1 0)), (1, .int a1), (2, .int a2)] 26 []) {s : xM} (h : fX10_text_J59 k101 b a2 s = some z) : xWS (GM Y) B 3 s [(0, .ref (Y.1 0)), (2, .int a2)] 59 [] := by
  unfold fX10_text_J59 at h
  refine ws_iconst (pc := 59) C dX10_text_59 ci_0 ?_
  refine ws_less [0, 1] rfl ?_
  exact pX10_text_J60 C R hk101 hb h
set_option maxRecDepth 20000 in
set_option maxHeartbeats 4000000 in
theorem pX10_text_L26 {Y : xY} {Z : xZ} {B : xB} {z : Int32 × xM} (C : xC (GM Y) Z B "BetweenStopsModel" cX10_text 3 5) (R : xRi (GM Y) B .int z) {k101 : Int32 → xM → Option (Int32 × xM)}
    (hk101 : ∀ (a1 : Int32) (s : xM), k101 a1 s = some z → xWS (GM Y) B 3 s [(0, .ref (Y.1 0)), (1, .int a1)] 101 []) : ∀ (n : Nat) (a1 : Int32) (a2 : Int32) (s : xM), fX10_text_L26 k101 n a1 a2 s = some z → xWS (GM Y) B 3 s [(0, .ref (Y.1 0)), (1, .int a1), (2, .int a2)] 26 [] := by
  intro n
  induction n with
  | zero =>
    intro a1 a2 s h
    rw [fX10_text_L26] at h
    cases h
  | succ n ih =>
    intro a1 a2 s h
    rw [fX10_text_L26] at h
    refine ws_iload_n (pc := 26) C dX10_text_26 rfl 2 rfl ?_
    refine ws_iconst (pc := 27) C dX10_text_27 ci_3 ?_
    refine ws_icmp_ge (pc := 28) (tgt := 101) C dX10_text_28 (by decide) (fun c1 => ?_) (fun c1 => ?_)
    · have h := ite_t h c1
      refine ws_less [0, 1] rfl ?_
      exact hk101 _ _ h
    · have h := ite_f h c1
      refine ws_iload_n (pc := 31) C dX10_text_31 rfl 1 rfl ?_
      refine ws_if_eq (pc := 32) (tgt := 101) C dX10_text_32 (by decide) (fun c2 => ?_) (fun c2 => ?_)
      · have h := ite_t h c2
        refine ws_less [0, 1] rfl ?_
        exact hk101 _ _ h
      · have h := ite_f h c2
        refine ws_aload_n (pc := 35) C dX10_text_35 rfl 0 rfl ?_
        obtain ⟨r3, s4, q5, h⟩ := bd_ok h
        refine wc_vV (pc := 36)  C [] [] (mX10_next q5) dX10_text_36 mw_X10_next mv_X10_next kl_X10_302 so_M rfl rfl (Nat.le_of_ble_eq_true rfl) ⟨by decide, by decide⟩ ?_
        refine ws_aload_n (pc := 39) C dX10_text_39 rfl 0 rfl ?_
        refine ws_geti (pc := 40) C dX10_text_40 fd_X10_272 sf_M_49 ?_
        refine ws_iconst (pc := 43) C dX10_text_43 ci_3 ?_
        refine ws_icmp_ne (pc := 44) (tgt := 59) C dX10_text_44 (by decide) (fun c6 => ?_) (fun c6 => ?_)
        · have h := ite_f h c6
          refine ws_less [0, 2] rfl ?_
          exact pX10_text_J59 C R hk101 (fun a1 a2 s h => ih a1 a2 s h) h
        · have h := ite_t h c6
          refine ws_aload_n (pc := 47) C dX10_text_47 rfl 0 rfl ?_
          refine ws_geti (pc := 48) C dX10_text_48 fd_X10_275 sf_M_50 ?_
          refine ws_iload_n (pc := 51) C dX10_text_51 rfl 2 rfl ?_
          refine ws_icmp_ne (pc := 52) (tgt := 59) C dX10_text_52 (by decide) (fun c7 => ?_) (fun c7 => ?_)
          · have h := ite_f h c7
            refine ws_less [0, 2] rfl ?_
            exact pX10_text_J59 C R hk101 (fun a1 a2 s h => ih a1 a2 s h) h
          · have h := ite_t h c7
            refine ws_iconst (pc := 55) C dX10_text_55 ci_1 ?_
            refine ws_goto (pc := 56) (tgt := 60) C dX10_text_56 (by decide) ?_
            refine ws_less [0, 2] rfl ?_
            exact pX10_text_J60 C R hk101 (fun a1 a2 s h => ih a1 a2 s h) h
set_option maxRecDepth 20000 in
set_option maxHeartbeats 4000000 in
theorem pX10_text_J122 {Y : xY} {Z : xZ} {B : xB} {z : Int32 × xM} (C : xC (GM Y) Z B "BetweenStopsModel" cX10_text 3 5) (R : xRi (GM Y) B .int z) {a1 : Int32} {s : xM} (h : fX10_text_J122 a1 s = some z) : xWS (GM Y) B 3 s [(0, .ref (Y.1 0)), (1, .int a1)] 122 [] := by
  unfold fX10_text_J122 at h
  refine ws_aload_n (pc := 122) C dX10_text_122 rfl 0 rfl ?_
  refine ws_getr (pc := 123) C dX10_text_123 fd_X10_62 sf_M_20 ?_
  refine ws_iconst (pc := 126) C dX10_text_126 ci_4 ?_
  refine ws_aload_n (pc := 127) C dX10_text_127 rfl 0 rfl ?_
  refine ws_geti (pc := 128) C dX10_text_128 fd_X10_65 sf_M_21 ?_
  refine ws_imul (pc := 131) C dX10_text_131 ?_
  refine ws_iconst (pc := 132) C dX10_text_132 ci_3 ?_
  refine ws_iadd (pc := 133) C dX10_text_133 ?_
  refine ws_aload_n (pc := 134) C dX10_text_134 rfl 0 rfl ?_
  refine ws_geti (pc := 135) C dX10_text_135 fd_X10_281 sf_M_55 ?_
  obtain ⟨g1, h⟩ := gd_ok h
  obtain ⟨s2, e3, h⟩ := lz_ok h
  refine ws_iastK (pc := 138) C dX10_text_138 sr_m_starts g1 rfl e3 ?_
  refine ws_aload_n (pc := 139) C dX10_text_139 rfl 0 rfl ?_
  refine ws_iconst (pc := 140) C dX10_text_140 ci_0 ?_
  obtain ⟨s4, e5, h⟩ := lz_ok h
  refine ws_putI (pc := 141) C dX10_text_141 fp_X10_205 sf_M_18 e5 ?_
  refine ws_iload_n (pc := 144) C dX10_text_144 rfl 1 rfl ?_
  refine ws_if_ne (pc := 145) (tgt := 156) C dX10_text_145 (by decide) (fun c6 => ?_) (fun c6 => ?_)
  · have h := ite_f h c6
    refine ws_aload_n (pc := 156) C dX10_text_156 rfl 0 rfl ?_
    refine ws_dup (pc := 157) C dX10_text_157 rfl ?_
    refine ws_geti (pc := 158) C dX10_text_158 fd_X10_65 sf_M_21 ?_
    refine ws_iconst (pc := 161) C dX10_text_161 ci_1 ?_
    refine ws_iadd (pc := 162) C dX10_text_162 ?_
    obtain ⟨s7, e8, h⟩ := lz_ok h
    refine ws_putI (pc := 163) C dX10_text_163 fp_X10_65 sf_M_21 e8 ?_
    refine ws_aload_n (pc := 166) C dX10_text_166 rfl 0 rfl ?_
    refine ws_geti (pc := 167) C dX10_text_167 fd_X10_65 sf_M_21 ?_
    refine ws_iconst (pc := 170) C dX10_text_170 ci_1 ?_
    refine ws_isub (pc := 171) C dX10_text_171 ?_
    exact wr_i (pc := 172) C R dX10_text_172 rfl h
  · have h := ite_t h c6
    refine ws_bipush (pc := 148) C dX10_text_148 cb_m100 ?_
    refine ws_aload_n (pc := 150) C dX10_text_150 rfl 0 rfl ?_
    refine ws_geti (pc := 151) C dX10_text_151 fd_X10_269 sf_M_48 ?_
    refine ws_isub (pc := 154) C dX10_text_154 ?_
    exact wr_i (pc := 155) C R dX10_text_155 rfl h
set_option maxRecDepth 20000 in
set_option maxHeartbeats 4000000 in
theorem pX10_text_J121 {Y : xY} {Z : xZ} {B : xB} {z : Int32 × xM} (C : xC (GM Y) Z B "BetweenStopsModel" cX10_text 3 5) (R : xRi (GM Y) B .int z) {t0 : Int32} {s : xM} (h : fX10_text_J121 t0 s = some z) : xWS (GM Y) B 3 s [(0, .ref (Y.1 0))] 121 [.int t0] := by
  unfold fX10_text_J121 at h
  refine ws_istore_n (pc := 121) C dX10_text_121 rfl (by decide) rfl ?_
  refine ws_less [1, 0] rfl ?_
  exact pX10_text_J122 C R h
set_option maxRecDepth 20000 in
set_option maxHeartbeats 4000000 in
theorem mX10_text {Y : xY} {Z : xZ} {s : xM} {z : Int32 × xM} (h : fX10_text s = some z) : xMi (GM Y) Z yX10_text cX10_text 3 5 .int [.ref (Y.1 0)] s z := by
  refine xMi_of (by decide) (Nat.le_of_ble_eq_true rfl) (fun B C R => ?_)
  have C : xC (GM Y) Z B "BetweenStopsModel" cX10_text 3 5 := C
  show xWS (GM Y) B 3 s [(0, .ref (Y.1 0))] 0 []
  unfold fX10_text at h
  refine ws_aload_n (pc := 0) C dX10_text_0 rfl 0 rfl ?_
  refine ws_geti (pc := 1) C dX10_text_1 fd_X10_65 sf_M_21 ?_
  refine ws_bipush (pc := 4) C dX10_text_4 cb_6 ?_
  refine ws_icmp_ne (pc := 6) (tgt := 12) C dX10_text_6 (by decide) (fun c1 => ?_) (fun c1 => ?_)
  · have h := ite_f h c1
    refine ws_aload_n (pc := 12) C dX10_text_12 rfl 0 rfl ?_
    refine ws_iconst (pc := 13) C dX10_text_13 ci_0 ?_
    obtain ⟨s2, e3, h⟩ := lz_ok h
    refine ws_putI (pc := 14) C dX10_text_14 fp_X10_266 sf_M_47 e3 ?_
    refine ws_aload_n (pc := 17) C dX10_text_17 rfl 0 rfl ?_
    refine ws_iconst (pc := 18) C dX10_text_18 ci_0 ?_
    obtain ⟨s4, e5, h⟩ := lz_ok h
    refine ws_putI (pc := 19) C dX10_text_19 fp_X10_281 sf_M_55 e5 ?_
    refine ws_iconst (pc := 22) C dX10_text_22 ci_1 ?_
    refine ws_istore_n (pc := 23) C dX10_text_23 rfl (by decide) rfl ?_
    refine ws_iconst (pc := 24) C dX10_text_24 ci_0 ?_
    refine ws_istore_n (pc := 25) C dX10_text_25 rfl (by decide) rfl ?_
    refine ws_less [2, 1, 0] rfl ?_
    refine pX10_text_L26 C R (fun x6 s7 h => ?_) fu _ _ _ h
    · refine ws_iload_n (pc := 101) C dX10_text_101 rfl 1 rfl ?_
      refine ws_if_eq (pc := 102) (tgt := 122) C dX10_text_102 (by decide) (fun c8 => ?_) (fun c8 => ?_)
      · have h := ite_t h c8
        refine ws_less [0, 1] rfl ?_
        exact pX10_text_J122 C R h
      · have h := ite_f h c8
        refine ws_aload_n (pc := 105) C dX10_text_105 rfl 0 rfl ?_
        obtain ⟨r9, s10, q11, h⟩ := bd_ok h
        refine wc_vV (pc := 106)  C [] [] (mX10_next q11) dX10_text_106 mw_X10_next mv_X10_next kl_X10_302 so_M rfl rfl (Nat.le_of_ble_eq_true rfl) ⟨by decide, by decide⟩ ?_
        refine ws_aload_n (pc := 109) C dX10_text_109 rfl 0 rfl ?_
        refine ws_geti (pc := 110) C dX10_text_110 fd_X10_272 sf_M_49 ?_
        refine ws_if_ne (pc := 113) (tgt := 120) C dX10_text_113 (by decide) (fun c12 => ?_) (fun c12 => ?_)
        · have h := ite_f h c12
          refine ws_iconst (pc := 120) C dX10_text_120 ci_0 ?_
          refine ws_less [0] rfl ?_
          exact pX10_text_J121 C R h
        · have h := ite_t h c12
          refine ws_iconst (pc := 116) C dX10_text_116 ci_1 ?_
          refine ws_goto (pc := 117) (tgt := 121) C dX10_text_117 (by decide) ?_
          refine ws_less [0] rfl ?_
          exact pX10_text_J121 C R h
  · have h := ite_t h c1
    refine ws_bipush (pc := 9) C dX10_text_9 cb_m4 ?_
    exact wr_i (pc := 11) C R dX10_text_11 rfl h
set_option maxRecDepth 20000 in
set_option maxHeartbeats 4000000 in
theorem mX10_two {Y : xY} {Z : xZ} {a0 : Int32} {a1 : Int32} {a2 : Int32} {s : xM} {z : Int32 × xM} (h : fX10_two a0 a1 a2 s = some z) : xMi (GM Y) Z yX10_two cX10_two 3 1 .int [.int a0, .int a1, .int a2] s z := by
  refine xMi_of (by decide) (Nat.le_of_ble_eq_true rfl) (fun B C R => ?_)
  have C : xC (GM Y) Z B "BetweenStopsModel" cX10_two 3 1 := C
  show xWS (GM Y) B 3 s [(0, .int a0), (1, .int a1), (2, .int a2)] 0 []
  unfold fX10_two at h
  refine ws_iload_n (pc := 0) C dX10_two_0 rfl 0 rfl ?_
  by_cases c1 : a0 = (11 : Int32)
  · have h := ite_t h c1
    refine ws_tab (pc := 1) (off := 43) (tgt := 44) C c1 dX10_two_1 (by decide) (by decide) (by decide) (by decide) ?_
    refine ws_iload_n (pc := 44) C dX10_two_44 rfl 1 rfl ?_
    refine ws_if_ne (pc := 45) (tgt := 52) C dX10_two_45 (by decide) (fun c2 => ?_) (fun c2 => ?_)
    · have h := ite_f h c2
      refine ws_iconst (pc := 52) C dX10_two_52 ci_1 ?_
      refine ws_goto (pc := 53) (tgt := 57) C dX10_two_53 (by decide) ?_
      exact wr_i (pc := 57) C R dX10_two_57 rfl h
    · have h := ite_t h c2
      refine ws_iload_n (pc := 48) C dX10_two_48 rfl 2 rfl ?_
      refine ws_if_eq (pc := 49) (tgt := 56) C dX10_two_49 (by decide) (fun c3 => ?_) (fun c3 => ?_)
      · have h := ite_t h c3
        refine ws_iconst (pc := 56) C dX10_two_56 ci_0 ?_
        exact wr_i (pc := 57) C R dX10_two_57 rfl h
      · have h := ite_f h c3
        refine ws_iconst (pc := 52) C dX10_two_52 ci_1 ?_
        refine ws_goto (pc := 53) (tgt := 57) C dX10_two_53 (by decide) ?_
        exact wr_i (pc := 57) C R dX10_two_57 rfl h
  replace h := ite_f h c1
  by_cases c4 : a0 = (12 : Int32)
  · have h := ite_t h c4
    refine ws_tab (pc := 1) (off := 57) (tgt := 58) C c4 dX10_two_1 (by decide) (by decide) (by decide) (by decide) ?_
    refine ws_iload_n (pc := 58) C dX10_two_58 rfl 1 rfl ?_
    refine ws_if_eq (pc := 59) (tgt := 70) C dX10_two_59 (by decide) (fun c5 => ?_) (fun c5 => ?_)
    · have h := ite_t h c5
      refine ws_iconst (pc := 70) C dX10_two_70 ci_0 ?_
      exact wr_i (pc := 71) C R dX10_two_71 rfl h
    · have h := ite_f h c5
      refine ws_iload_n (pc := 62) C dX10_two_62 rfl 2 rfl ?_
      refine ws_if_eq (pc := 63) (tgt := 70) C dX10_two_63 (by decide) (fun c6 => ?_) (fun c6 => ?_)
      · have h := ite_t h c6
        refine ws_iconst (pc := 70) C dX10_two_70 ci_0 ?_
        exact wr_i (pc := 71) C R dX10_two_71 rfl h
      · have h := ite_f h c6
        refine ws_iconst (pc := 66) C dX10_two_66 ci_1 ?_
        refine ws_goto (pc := 67) (tgt := 71) C dX10_two_67 (by decide) ?_
        exact wr_i (pc := 71) C R dX10_two_71 rfl h
  replace h := ite_f h c4
  by_cases c7 : a0 = (13 : Int32)
  · have h := ite_t h c7
    refine ws_tab (pc := 1) (off := 101) (tgt := 102) C c7 dX10_two_1 (by decide) (by decide) (by decide) (by decide) ?_
    refine ws_iload_n (pc := 102) C dX10_two_102 rfl 1 rfl ?_
    refine ws_iload_n (pc := 103) C dX10_two_103 rfl 2 rfl ?_
    refine ws_imul (pc := 104) C dX10_two_104 ?_
    exact wr_i (pc := 105) C R dX10_two_105 rfl h
  replace h := ite_f h c7
  by_cases c8 : a0 = (14 : Int32)
  · have h := ite_t h c8
    refine ws_tab (pc := 1) (off := 71) (tgt := 72) C c8 dX10_two_1 (by decide) (by decide) (by decide) (by decide) ?_
    refine ws_iload_n (pc := 72) C dX10_two_72 rfl 1 rfl ?_
    refine ws_iload_n (pc := 73) C dX10_two_73 rfl 2 rfl ?_
    refine ws_icmp_ge (pc := 74) (tgt := 81) C dX10_two_74 (by decide) (fun c9 => ?_) (fun c9 => ?_)
    · have h := ite_t h c9
      refine ws_iconst (pc := 81) C dX10_two_81 ci_0 ?_
      exact wr_i (pc := 82) C R dX10_two_82 rfl h
    · have h := ite_f h c9
      refine ws_iconst (pc := 77) C dX10_two_77 ci_1 ?_
      refine ws_goto (pc := 78) (tgt := 82) C dX10_two_78 (by decide) ?_
      exact wr_i (pc := 82) C R dX10_two_82 rfl h
  replace h := ite_f h c8
  by_cases c10 : a0 = (15 : Int32)
  · have h := ite_t h c10
    refine ws_tab (pc := 1) (off := 82) (tgt := 83) C c10 dX10_two_1 (by decide) (by decide) (by decide) (by decide) ?_
    refine ws_iload_n (pc := 83) C dX10_two_83 rfl 1 rfl ?_
    refine ws_iload_n (pc := 84) C dX10_two_84 rfl 2 rfl ?_
    refine ws_icmp_ne (pc := 85) (tgt := 92) C dX10_two_85 (by decide) (fun c11 => ?_) (fun c11 => ?_)
    · have h := ite_f h c11
      refine ws_iconst (pc := 92) C dX10_two_92 ci_0 ?_
      exact wr_i (pc := 93) C R dX10_two_93 rfl h
    · have h := ite_t h c11
      refine ws_iconst (pc := 88) C dX10_two_88 ci_1 ?_
      refine ws_goto (pc := 89) (tgt := 93) C dX10_two_89 (by decide) ?_
      exact wr_i (pc := 93) C R dX10_two_93 rfl h
  replace h := ite_f h c10
  by_cases c12 : a0 = (16 : Int32)
  · have h := ite_t h c12
    refine ws_tab (pc := 1) (off := 93) (tgt := 94) C c12 dX10_two_1 (by decide) (by decide) (by decide) (by decide) ?_
    refine ws_iload_n (pc := 94) C dX10_two_94 rfl 1 rfl ?_
    refine ws_iload_n (pc := 95) C dX10_two_95 rfl 2 rfl ?_
    refine ws_iadd (pc := 96) C dX10_two_96 ?_
    exact wr_i (pc := 97) C R dX10_two_97 rfl h
  replace h := ite_f h c12
  by_cases c13 : a0 = (17 : Int32)
  · have h := ite_t h c13
    refine ws_tab (pc := 1) (off := 97) (tgt := 98) C c13 dX10_two_1 (by decide) (by decide) (by decide) (by decide) ?_
    refine ws_iload_n (pc := 98) C dX10_two_98 rfl 1 rfl ?_
    refine ws_iload_n (pc := 99) C dX10_two_99 rfl 2 rfl ?_
    refine ws_isub (pc := 100) C dX10_two_100 ?_
    exact wr_i (pc := 101) C R dX10_two_101 rfl h
  replace h := ite_f h c13
  have ec1 : ¬ (11 : Int) = (a0).toInt := fun q => lv_neT c1 (show (11 : Int32).toInt = 11 by decide) q.symm
  have ec4 : ¬ (12 : Int) = (a0).toInt := fun q => lv_neT c4 (show (12 : Int32).toInt = 12 by decide) q.symm
  have ec7 : ¬ (13 : Int) = (a0).toInt := fun q => lv_neT c7 (show (13 : Int32).toInt = 13 by decide) q.symm
  have ec8 : ¬ (14 : Int) = (a0).toInt := fun q => lv_neT c8 (show (14 : Int32).toInt = 14 by decide) q.symm
  have ec10 : ¬ (15 : Int) = (a0).toInt := fun q => lv_neT c10 (show (15 : Int32).toInt = 15 by decide) q.symm
  have ec12 : ¬ (16 : Int) = (a0).toInt := fun q => lv_neT c12 (show (16 : Int32).toInt = 16 by decide) q.symm
  have ec13 : ¬ (17 : Int) = (a0).toInt := fun q => lv_neT c13 (show (17 : Int32).toInt = 17 by decide) q.symm
  refine ws_tableOut (pc := 1) (tgt := 102) C dX10_two_1 (by omega) (by decide) ?_
  refine ws_iload_n (pc := 102) C dX10_two_102 rfl 1 rfl ?_
  refine ws_iload_n (pc := 103) C dX10_two_103 rfl 2 rfl ?_
  refine ws_imul (pc := 104) C dX10_two_104 ?_
  exact wr_i (pc := 105) C R dX10_two_105 rfl h
set_option maxRecDepth 20000 in
set_option maxHeartbeats 4000000 in
theorem pX10_says_J153 {Y : xY} {Z : xZ} {B : xB} {z : Int32 × xM} (C : xC (GM Y) Z B "BetweenStopsModel" cX10_says 7 2) (R : xRi (GM Y) B .int z) {k225 : xM → Option (Int32 × xM)} {b : Int32 → Int32 → xM → Option (Int32 × xM)} {a1 : Int32} {a4 : Int32} {a5 : Int32} {t0 : Int32} {t1 : Int32}
    (hk225 : ∀  (s : xM), k225 s = some z → xWS (GM Y) B 7 s [(0, .ref (Y.1 0))] 225 [])
    (hb : ∀ (a4 : Int32) (a5 : Int32) (s : xM), b a4 a5 s = some z → xWS (GM Y) B 7 s [(0, .ref (Y.1 0)), (1, .int a1), (4, .int a4), (5, .int a5)] 32 []) {s : xM} (h : fX10_says_J153 k225 b a1 a4 a5 t0 t1 s = some z) : xWS (GM Y) B 7 s [(0, .ref (Y.1 0)), (1, .int a1), (4, .int a4), (5, .int a5)] 153 [.int t0, .int t1, .ref (Y.1 28)] := by
  unfold fX10_says_J153 at h
  obtain ⟨g1, h⟩ := gd_ok h
  obtain ⟨s2, e3, h⟩ := lz_ok h
  refine ws_iastK (pc := 153) C dX10_says_153 sr_m_stack g1 rfl e3 ?_
  refine ws_goto (pc := 154) (tgt := 219) C dX10_says_154 (by decide) ?_
  refine ws_iinc (j := 3) (pc := 219) C dX10_says_219 rfl (cn_1 _) (by decide) rfl ?_
  refine ws_goto (pc := 222) (tgt := 32) C dX10_says_222 (by decide) ?_
  refine ws_less [1, 2, 3, 0] rfl ?_
  exact hb _ _ _ h
set_option maxRecDepth 20000 in
set_option maxHeartbeats 4000000 in
theorem pX10_says_J114 {Y : xY} {Z : xZ} {B : xB} {z : Int32 × xM} (C : xC (GM Y) Z B "BetweenStopsModel" cX10_says 7 2) (R : xRi (GM Y) B .int z) {k225 : xM → Option (Int32 × xM)} {b : Int32 → Int32 → xM → Option (Int32 × xM)} {a1 : Int32} {a4 : Int32} {a5 : Int32} {t0 : Int32} {t1 : Int32}
    (hk225 : ∀  (s : xM), k225 s = some z → xWS (GM Y) B 7 s [(0, .ref (Y.1 0))] 225 [])
    (hb : ∀ (a4 : Int32) (a5 : Int32) (s : xM), b a4 a5 s = some z → xWS (GM Y) B 7 s [(0, .ref (Y.1 0)), (1, .int a1), (4, .int a4), (5, .int a5)] 32 []) {s : xM} (h : fX10_says_J114 k225 b a1 a4 a5 t0 t1 s = some z) : xWS (GM Y) B 7 s [(0, .ref (Y.1 0)), (1, .int a1), (4, .int a4), (5, .int a5)] 114 [.int t0, .int t1, .ref (Y.1 28)] := by
  unfold fX10_says_J114 at h
  obtain ⟨g1, h⟩ := gd_ok h
  obtain ⟨s2, e3, h⟩ := lz_ok h
  refine ws_iastK (pc := 114) C dX10_says_114 sr_m_stack g1 rfl e3 ?_
  refine ws_iinc (j := 2) (pc := 115) C dX10_says_115 rfl (cn_1 _) (by decide) rfl ?_
  refine ws_goto (pc := 118) (tgt := 219) C dX10_says_118 (by decide) ?_
  refine ws_iinc (j := 3) (pc := 219) C dX10_says_219 rfl (cn_1 _) (by decide) rfl ?_
  refine ws_goto (pc := 222) (tgt := 32) C dX10_says_222 (by decide) ?_
  refine ws_less [2, 3, 1, 0] rfl ?_
  exact hb _ _ _ h
set_option maxRecDepth 20000 in
set_option maxHeartbeats 4000000 in
theorem pX10_says_J85 {Y : xY} {Z : xZ} {B : xB} {z : Int32 × xM} (C : xC (GM Y) Z B "BetweenStopsModel" cX10_says 7 2) (R : xRi (GM Y) B .int z) {k225 : xM → Option (Int32 × xM)} {b : Int32 → Int32 → xM → Option (Int32 × xM)} {a1 : Int32} {a4 : Int32} {a5 : Int32} {a6 : Int32}
    (hk225 : ∀  (s : xM), k225 s = some z → xWS (GM Y) B 7 s [(0, .ref (Y.1 0))] 225 [])
    (hb : ∀ (a4 : Int32) (a5 : Int32) (s : xM), b a4 a5 s = some z → xWS (GM Y) B 7 s [(0, .ref (Y.1 0)), (1, .int a1), (4, .int a4), (5, .int a5)] 32 []) {s : xM} (h : fX10_says_J85 k225 b a1 a4 a5 a6 s = some z) : xWS (GM Y) B 7 s [(0, .ref (Y.1 0)), (1, .int a1), (4, .int a4), (5, .int a5), (6, .int a6)] 85 [] := by
  unfold fX10_says_J85 at h
  refine ws_aload_n (pc := 85) C dX10_says_85 rfl 0 rfl ?_
  refine ws_getr (pc := 86) C dX10_says_86 fd_X10_126 sf_M_56 ?_
  refine ws_iload (pc := 89) C dX10_says_89 2 rfl ?_
  refine ws_iload (pc := 91) C dX10_says_91 4 rfl ?_
  refine ws_bipush (pc := 93) C dX10_says_93 cb_11 ?_
  refine ws_icmp_ge (pc := 95) (tgt := 108) C dX10_says_95 (by decide) (fun c1 => ?_) (fun c1 => ?_)
  · have h := ite_t h c1
    refine ws_iload (pc := 108) C dX10_says_108 4 rfl ?_
    refine ws_ldcw (pc := 110) C dX10_says_110 kk_X10_305 ?_
    refine ws_isub (pc := 113) C dX10_says_113 ?_
    refine ws_less [0, 1, 2, 3] rfl ?_
    exact pX10_says_J114 C R hk225 hb h
  · have h := ite_f h c1
    refine ws_aload_n (pc := 98) C dX10_says_98 rfl 0 rfl ?_
    refine ws_getr (pc := 99) C dX10_says_99 fd_X10_129 sf_M_57 ?_
    refine ws_iload (pc := 102) C dX10_says_102 4 rfl ?_
    obtain ⟨g2, h⟩ := gd_ok h
    refine ws_ialdK (pc := 104) C dX10_says_104 sr_m_named g2 rfl ?_
    refine ws_goto (pc := 105) (tgt := 114) C dX10_says_105 (by decide) ?_
    refine ws_less [0, 1, 2, 3] rfl ?_
    exact pX10_says_J114 C R hk225 hb h
set_option maxRecDepth 20000 in
set_option maxHeartbeats 4000000 in
theorem pX10_says_L32 {Y : xY} {Z : xZ} {B : xB} {z : Int32 × xM} (C : xC (GM Y) Z B "BetweenStopsModel" cX10_says 7 2) (R : xRi (GM Y) B .int z) {k225 : xM → Option (Int32 × xM)} {a1 : Int32}
    (hk225 : ∀  (s : xM), k225 s = some z → xWS (GM Y) B 7 s [(0, .ref (Y.1 0))] 225 []) : ∀ (n : Nat) (a4 : Int32) (a5 : Int32) (s : xM), fX10_says_L32 k225 a1 n a4 a5 s = some z → xWS (GM Y) B 7 s [(0, .ref (Y.1 0)), (1, .int a1), (4, .int a4), (5, .int a5)] 32 [] := by
  intro n
  induction n with
  | zero =>
    intro a4 a5 s h
    rw [fX10_says_L32] at h
    cases h
  | succ n ih =>
    intro a4 a5 s h
    rw [fX10_says_L32] at h
    refine ws_iload (pc := 32) C dX10_says_32 3 rfl ?_
    refine ws_aload_n (pc := 34) C dX10_says_34 rfl 0 rfl ?_
    refine ws_getr (pc := 35) C dX10_says_35 fd_X10_62 sf_M_20 ?_
    refine ws_iconst (pc := 38) C dX10_says_38 ci_4 ?_
    refine ws_aload_n (pc := 39) C dX10_says_39 rfl 0 rfl ?_
    refine ws_geti (pc := 40) C dX10_says_40 fd_X10_202 sf_M_22 ?_
    refine ws_imul (pc := 43) C dX10_says_43 ?_
    refine ws_iload_n (pc := 44) C dX10_says_44 rfl 1 rfl ?_
    refine ws_iadd (pc := 45) C dX10_says_45 ?_
    refine ws_iconst (pc := 46) C dX10_says_46 ci_1 ?_
    refine ws_iadd (pc := 47) C dX10_says_47 ?_
    obtain ⟨g1, h⟩ := gd_ok h
    refine ws_ialdK (pc := 48) C dX10_says_48 sr_m_starts g1 rfl ?_
    refine ws_icmp_ge (pc := 49) (tgt := 225) C dX10_says_49 (by decide) (fun c2 => ?_) (fun c2 => ?_)
    · have h := ite_t h c2
      refine ws_less [0] rfl ?_
      exact hk225 _ h
    · have h := ite_f h c2
      refine ws_aload_n (pc := 52) C dX10_says_52 rfl 0 rfl ?_
      refine ws_getr (pc := 53) C dX10_says_53 fd_X10_59 sf_M_19 ?_
      refine ws_sipush (pc := 56) C dX10_says_56 cs_200 ?_
      refine ws_aload_n (pc := 59) C dX10_says_59 rfl 0 rfl ?_
      refine ws_geti (pc := 60) C dX10_says_60 fd_X10_202 sf_M_22 ?_
      refine ws_imul (pc := 63) C dX10_says_63 ?_
      refine ws_iload (pc := 64) C dX10_says_64 3 rfl ?_
      refine ws_iadd (pc := 66) C dX10_says_66 ?_
      obtain ⟨g3, h⟩ := gd_ok h
      refine ws_ialdK (pc := 67) C dX10_says_67 sr_m_codes g3 rfl ?_
      obtain ⟨v4, e5, h⟩ := lz_ok h
      refine ws_topi C e5 ?_
      refine ws_istore (pc := 68) C dX10_says_68 (by decide) rfl ?_
      refine ws_iload (pc := 70) C dX10_says_70 0 rfl ?_
      refine ws_ldcw (pc := 72) C dX10_says_72 kk_X10_305 ?_
      refine ws_icmp_ge (pc := 75) (tgt := 85) C dX10_says_75 (by decide) (fun c6 => ?_) (fun c6 => ?_)
      · have h := ite_t h c6
        refine ws_less [1, 2, 3, 4, 0] rfl ?_
        exact pX10_says_J85 C R hk225 (fun a4 a5 s h => ih a4 a5 s h) h
      · have h := ite_f h c6
        refine ws_iload (pc := 78) C dX10_says_78 0 rfl ?_
        refine ws_bipush (pc := 80) C dX10_says_80 cb_11 ?_
        refine ws_icmp_ge (pc := 82) (tgt := 121) C dX10_says_82 (by decide) (fun c7 => ?_) (fun c7 => ?_)
        · have h := ite_t h c7
          refine ws_iload (pc := 121) C dX10_says_121 0 rfl ?_
          refine ws_bipush (pc := 123) C dX10_says_123 cb_13 ?_
          refine ws_icmp_ne (pc := 125) (tgt := 157) C dX10_says_125 (by decide) (fun c8 => ?_) (fun c8 => ?_)
          · have h := ite_f h c8
            refine ws_iload (pc := 157) C dX10_says_157 0 rfl ?_
            refine ws_bipush (pc := 159) C dX10_says_159 cb_19 ?_
            refine ws_icmp_ne (pc := 161) (tgt := 186) C dX10_says_161 (by decide) (fun c9 => ?_) (fun c9 => ?_)
            · have h := ite_f h c9
              refine ws_iinc (j := 3) (pc := 186) C dX10_says_186 rfl (cn_m1 _) (by decide) rfl ?_
              refine ws_aload_n (pc := 189) C dX10_says_189 rfl 2 rfl ?_
              refine ws_getr (pc := 190) C dX10_says_190 fd_X10_126 sf_M_56 ?_
              refine ws_iload (pc := 193) C dX10_says_193 0 rfl ?_
              refine ws_iconst (pc := 195) C dX10_says_195 ci_1 ?_
              refine ws_isub (pc := 196) C dX10_says_196 ?_
              refine ws_iload (pc := 197) C dX10_says_197 1 rfl ?_
              refine ws_aload_n (pc := 199) C dX10_says_199 rfl 2 rfl ?_
              refine ws_getr (pc := 200) C dX10_says_200 fd_X10_126 sf_M_56 ?_
              refine ws_iload (pc := 203) C dX10_says_203 0 rfl ?_
              refine ws_iconst (pc := 205) C dX10_says_205 ci_1 ?_
              refine ws_isub (pc := 206) C dX10_says_206 ?_
              obtain ⟨g10, h⟩ := gd_ok h
              refine ws_ialdK (pc := 207) C dX10_says_207 sr_m_stack g10 rfl ?_
              refine ws_aload_n (pc := 208) C dX10_says_208 rfl 2 rfl ?_
              refine ws_getr (pc := 209) C dX10_says_209 fd_X10_126 sf_M_56 ?_
              refine ws_iload (pc := 212) C dX10_says_212 0 rfl ?_
              obtain ⟨g11, h⟩ := gd_ok h
              refine ws_ialdK (pc := 214) C dX10_says_214 sr_m_stack g11 rfl ?_
              obtain ⟨r12, s13, q14, h⟩ := bd_ok h
              refine wc_iS (pc := 215)  C [.int v4, .int (gi s 28 ((a4 + (-1)) - (1 : Int32)).toNatClampNeg), .int (gi s 28 (a4 + (-1)).toNatClampNeg)] [.int ((a4 + (-1)) - (1 : Int32)), .ref (Y.1 28)] (mX10_two q14) dX10_says_215 mw_X10_two ks_X10_two kl_X10_319 rfl rfl (Nat.le_of_ble_eq_true rfl) ⟨by decide, by decide⟩ ?_
              obtain ⟨g15, h⟩ := gd_ok h
              obtain ⟨s16, e17, h⟩ := lz_ok h
              refine ws_iastK (pc := 218) C dX10_says_218 sr_m_stack g15 rfl e17 ?_
              refine ws_iinc (j := 4) (pc := 219) C dX10_says_219 rfl (cn_1 _) (by decide) rfl ?_
              refine ws_goto (pc := 222) (tgt := 32) C dX10_says_222 (by decide) ?_
              refine ws_less [3, 4, 1, 0] rfl ?_
              exact ih _ _ _ h
            · have h := ite_t h c9
              refine ws_aload_n (pc := 164) C dX10_says_164 rfl 1 rfl ?_
              refine ws_getr (pc := 165) C dX10_says_165 fd_X10_126 sf_M_56 ?_
              refine ws_iload (pc := 168) C dX10_says_168 3 rfl ?_
              refine ws_iconst (pc := 170) C dX10_says_170 ci_1 ?_
              refine ws_isub (pc := 171) C dX10_says_171 ?_
              refine ws_aload_n (pc := 172) C dX10_says_172 rfl 1 rfl ?_
              refine ws_getr (pc := 173) C dX10_says_173 fd_X10_126 sf_M_56 ?_
              refine ws_iload (pc := 176) C dX10_says_176 3 rfl ?_
              refine ws_iconst (pc := 178) C dX10_says_178 ci_1 ?_
              refine ws_isub (pc := 179) C dX10_says_179 ?_
              obtain ⟨g18, h⟩ := gd_ok h
              refine ws_ialdK (pc := 180) C dX10_says_180 sr_m_stack g18 rfl ?_
              refine ws_ineg (pc := 181) C dX10_says_181 ?_
              obtain ⟨g19, h⟩ := gd_ok h
              obtain ⟨s20, e21, h⟩ := lz_ok h
              refine ws_iastK (pc := 182) C dX10_says_182 sr_m_stack g19 rfl e21 ?_
              refine ws_goto (pc := 183) (tgt := 219) C dX10_says_183 (by decide) ?_
              refine ws_iinc (j := 4) (pc := 219) C dX10_says_219 rfl (cn_1 _) (by decide) rfl ?_
              refine ws_goto (pc := 222) (tgt := 32) C dX10_says_222 (by decide) ?_
              refine ws_less [2, 3, 4, 0] rfl ?_
              exact ih _ _ _ h
          · have h := ite_t h c8
            refine ws_aload_n (pc := 128) C dX10_says_128 rfl 1 rfl ?_
            refine ws_getr (pc := 129) C dX10_says_129 fd_X10_126 sf_M_56 ?_
            refine ws_iload (pc := 132) C dX10_says_132 3 rfl ?_
            refine ws_iconst (pc := 134) C dX10_says_134 ci_1 ?_
            refine ws_isub (pc := 135) C dX10_says_135 ?_
            refine ws_aload_n (pc := 136) C dX10_says_136 rfl 1 rfl ?_
            refine ws_getr (pc := 137) C dX10_says_137 fd_X10_126 sf_M_56 ?_
            refine ws_iload (pc := 140) C dX10_says_140 3 rfl ?_
            refine ws_iconst (pc := 142) C dX10_says_142 ci_1 ?_
            refine ws_isub (pc := 143) C dX10_says_143 ?_
            obtain ⟨g22, h⟩ := gd_ok h
            refine ws_ialdK (pc := 144) C dX10_says_144 sr_m_stack g22 rfl ?_
            refine ws_if_ne (pc := 145) (tgt := 152) C dX10_says_145 (by decide) (fun c23 => ?_) (fun c23 => ?_)
            · have h := ite_f h c23
              refine ws_iconst (pc := 152) C dX10_says_152 ci_0 ?_
              refine ws_less [1, 2, 3, 4] rfl ?_
              exact pX10_says_J153 C R hk225 (fun a4 a5 s h => ih a4 a5 s h) h
            · have h := ite_t h c23
              refine ws_iconst (pc := 148) C dX10_says_148 ci_1 ?_
              refine ws_goto (pc := 149) (tgt := 153) C dX10_says_149 (by decide) ?_
              refine ws_less [1, 2, 3, 4] rfl ?_
              exact pX10_says_J153 C R hk225 (fun a4 a5 s h => ih a4 a5 s h) h
        · have h := ite_f h c7
          refine ws_less [1, 2, 3, 4, 0] rfl ?_
          exact pX10_says_J85 C R hk225 (fun a4 a5 s h => ih a4 a5 s h) h
set_option maxRecDepth 20000 in
set_option maxHeartbeats 4000000 in
theorem mX10_says {Y : xY} {Z : xZ} {a1 : Int32} {a2 : Int32} {a3 : Int32} {s : xM} {z : Int32 × xM} (h : fX10_says a1 a2 a3 s = some z) : xMi (GM Y) Z yX10_says cX10_says 7 2 .int [.ref (Y.1 0), .int a1, .int a2, .int a3] s z := by
  refine xMi_of (by decide) (Nat.le_of_ble_eq_true rfl) (fun B C R => ?_)
  have C : xC (GM Y) Z B "BetweenStopsModel" cX10_says 7 2 := C
  show xWS (GM Y) B 7 s [(0, .ref (Y.1 0)), (1, .int a1), (2, .int a2), (3, .int a3)] 0 []
  unfold fX10_says at h
  refine ws_aload_n (pc := 0) C dX10_says_0 rfl 0 rfl ?_
  refine ws_getr (pc := 1) C dX10_says_1 fd_X10_129 sf_M_57 ?_
  refine ws_iconst (pc := 4) C dX10_says_4 ci_4 ?_
  refine ws_iload_n (pc := 5) C dX10_says_5 rfl 2 rfl ?_
  obtain ⟨s1, e2, h⟩ := lz_ok h
  refine ws_iastK (pc := 6) C dX10_says_6 sr_m_named (by decide) ck_4 e2 ?_
  refine ws_aload_n (pc := 7) C dX10_says_7 rfl 0 rfl ?_
  refine ws_getr (pc := 8) C dX10_says_8 fd_X10_129 sf_M_57 ?_
  refine ws_iconst (pc := 11) C dX10_says_11 ci_5 ?_
  refine ws_iload_n (pc := 12) C dX10_says_12 rfl 3 rfl ?_
  obtain ⟨s3, e4, h⟩ := lz_ok h
  refine ws_iastK (pc := 13) C dX10_says_13 sr_m_named (by decide) ck_5 e4 ?_
  refine ws_iconst (pc := 14) C dX10_says_14 ci_0 ?_
  refine ws_istore (pc := 15) C dX10_says_15 (by decide) rfl ?_
  refine ws_aload_n (pc := 17) C dX10_says_17 rfl 1 rfl ?_
  refine ws_getr (pc := 18) C dX10_says_18 fd_X10_62 sf_M_20 ?_
  refine ws_iconst (pc := 21) C dX10_says_21 ci_4 ?_
  refine ws_aload_n (pc := 22) C dX10_says_22 rfl 1 rfl ?_
  refine ws_geti (pc := 23) C dX10_says_23 fd_X10_202 sf_M_22 ?_
  refine ws_imul (pc := 26) C dX10_says_26 ?_
  refine ws_iload_n (pc := 27) C dX10_says_27 rfl 2 rfl ?_
  refine ws_iadd (pc := 28) C dX10_says_28 ?_
  obtain ⟨g5, h⟩ := gd_ok h
  refine ws_ialdK (pc := 29) C dX10_says_29 sr_m_starts g5 rfl ?_
  obtain ⟨v6, e7, h⟩ := lz_ok h
  refine ws_topi C e7 ?_
  refine ws_istore (pc := 30) C dX10_says_30 (by decide) rfl ?_
  refine ws_less [2, 3, 1, 0] rfl ?_
  refine pX10_says_L32 C R (fun s8 h => ?_) fu _ _ _ h
  · refine ws_aload_n (pc := 225) C dX10_says_225 rfl 0 rfl ?_
    refine ws_getr (pc := 226) C dX10_says_226 fd_X10_126 sf_M_56 ?_
    refine ws_iconst (pc := 229) C dX10_says_229 ci_0 ?_
    refine ws_ialdK (pc := 230) C dX10_says_230 sr_m_stack (by decide) ck_0 ?_
    exact wr_i (pc := 231) C R dX10_says_231 rfl h
set_option maxRecDepth 20000 in
set_option maxHeartbeats 4000000 in
theorem mX10_names {Y : xY} {Z : xZ} {a1 : Int32} {a2 : Int32} {a3 : Int32} {a4 : Int32} {s : xM} {z : Int32 × xM} (h : fX10_names a1 a2 a3 a4 s = some z) : xMv (GM Y) Z yX10_names cX10_names 5 1 [.ref (Y.1 0), .int a1, .int a2, .int a3, .int a4] s z := by
  refine xMv_of (by decide) (Nat.le_of_ble_eq_true rfl) (fun B C R => ?_)
  have C : xC (GM Y) Z B "BetweenStopsModel" cX10_names 5 1 := C
  show xWS (GM Y) B 5 s [(0, .ref (Y.1 0)), (1, .int a1), (2, .int a2), (3, .int a3), (4, .int a4)] 0 []
  unfold fX10_names at h
  refine ws_aload_n (pc := 0) C dX10_names_0 rfl 0 rfl ?_
  refine ws_getr (pc := 1) C dX10_names_1 fd_X10_129 sf_M_57 ?_
  refine ws_iconst (pc := 4) C dX10_names_4 ci_0 ?_
  refine ws_iload_n (pc := 5) C dX10_names_5 rfl 1 rfl ?_
  obtain ⟨s1, e2, h⟩ := lz_ok h
  refine ws_iastK (pc := 6) C dX10_names_6 sr_m_named (by decide) ck_0 e2 ?_
  refine ws_aload_n (pc := 7) C dX10_names_7 rfl 0 rfl ?_
  refine ws_getr (pc := 8) C dX10_names_8 fd_X10_129 sf_M_57 ?_
  refine ws_iconst (pc := 11) C dX10_names_11 ci_1 ?_
  refine ws_iload_n (pc := 12) C dX10_names_12 rfl 2 rfl ?_
  obtain ⟨s3, e4, h⟩ := lz_ok h
  refine ws_iastK (pc := 13) C dX10_names_13 sr_m_named (by decide) ck_1 e4 ?_
  refine ws_aload_n (pc := 14) C dX10_names_14 rfl 0 rfl ?_
  refine ws_getr (pc := 15) C dX10_names_15 fd_X10_129 sf_M_57 ?_
  refine ws_iconst (pc := 18) C dX10_names_18 ci_2 ?_
  refine ws_iload_n (pc := 19) C dX10_names_19 rfl 3 rfl ?_
  obtain ⟨s5, e6, h⟩ := lz_ok h
  refine ws_iastK (pc := 20) C dX10_names_20 sr_m_named (by decide) ck_2 e6 ?_
  refine ws_aload_n (pc := 21) C dX10_names_21 rfl 0 rfl ?_
  refine ws_getr (pc := 22) C dX10_names_22 fd_X10_129 sf_M_57 ?_
  refine ws_iconst (pc := 25) C dX10_names_25 ci_3 ?_
  refine ws_iload (pc := 26) C dX10_names_26 4 rfl ?_
  obtain ⟨s7, e8, h⟩ := lz_ok h
  refine ws_iastK (pc := 28) C dX10_names_28 sr_m_named (by decide) ck_3 e8 ?_
  exact wr_v (pc := 29) C R dX10_names_29 h
set_option maxRecDepth 20000 in
set_option maxHeartbeats 4000000 in
theorem mX10_within {Y : xY} {Z : xZ} {a0 : Int32} {a1 : Int32} {s : xM} {z : Int32 × xM} (h : fX10_within a0 a1 s = some z) : xMi (GM Y) Z yX10_within cX10_within 2 1 .int [.int a0, .int a1] s z := by
  refine xMi_of (by decide) (Nat.le_of_ble_eq_true rfl) (fun B C R => ?_)
  have C : xC (GM Y) Z B "BetweenStopsModel" cX10_within 2 1 := C
  show xWS (GM Y) B 2 s [(0, .int a0), (1, .int a1)] 0 []
  unfold fX10_within at h
  refine ws_iload_n (pc := 0) C dX10_within_0 rfl 0 rfl ?_
  refine ws_if_ge (pc := 1) (tgt := 8) C dX10_within_1 (by decide) (fun c1 => ?_) (fun c1 => ?_)
  · have h := ite_t h c1
    refine ws_iload_n (pc := 8) C dX10_within_8 rfl 0 rfl ?_
    refine ws_iload_n (pc := 9) C dX10_within_9 rfl 1 rfl ?_
    refine ws_icmp_le (pc := 10) (tgt := 17) C dX10_within_10 (by decide) (fun c2 => ?_) (fun c2 => ?_)
    · have h := ite_t h c2
      refine ws_iload_n (pc := 17) C dX10_within_17 rfl 0 rfl ?_
      exact wr_i (pc := 18) C R dX10_within_18 rfl h
    · have h := ite_f h c2
      refine ws_iload_n (pc := 13) C dX10_within_13 rfl 1 rfl ?_
      refine ws_goto (pc := 14) (tgt := 18) C dX10_within_14 (by decide) ?_
      exact wr_i (pc := 18) C R dX10_within_18 rfl h
  · have h := ite_f h c1
    refine ws_iconst (pc := 4) C dX10_within_4 ci_0 ?_
    refine ws_goto (pc := 5) (tgt := 18) C dX10_within_5 (by decide) ?_
    exact wr_i (pc := 18) C R dX10_within_18 rfl h
set_option maxRecDepth 20000 in
set_option maxHeartbeats 4000000 in
theorem mX10_force {Y : xY} {Z : xZ} {a1 : Int32} {s : xM} {z : Int32 × xM} (h : fX10_force a1 s = some z) : xMi (GM Y) Z yX10_force cX10_force 3 2 .int [.ref (Y.1 0), .int a1] s z := by
  refine xMi_of (by decide) (Nat.le_of_ble_eq_true rfl) (fun B C R => ?_)
  have C : xC (GM Y) Z B "BetweenStopsModel" cX10_force 3 2 := C
  show xWS (GM Y) B 3 s [(0, .ref (Y.1 0)), (1, .int a1)] 0 []
  unfold fX10_force at h
  refine ws_iload_n (pc := 0) C dX10_force_0 rfl 1 rfl ?_
  refine ws_iconst (pc := 1) C dX10_force_1 ci_0 ?_
  refine ws_aload_n (pc := 2) C dX10_force_2 rfl 0 rfl ?_
  refine ws_geti (pc := 3) C dX10_force_3 fd_X10_65 sf_M_21 ?_
  refine ws_iconst (pc := 6) C dX10_force_6 ci_1 ?_
  refine ws_isub (pc := 7) C dX10_force_7 ?_
  obtain ⟨r1, s2, q3, h⟩ := bd_ok h
  refine wc_iS (pc := 8)  C [.int a1, .int (0 : Int32), .int ((gi s 0 21) - (1 : Int32))] [] (mX10_in q3) dX10_force_8 mw_X10_in ks_X10_in kl_X10_162 rfl rfl (Nat.le_of_ble_eq_true rfl) ⟨by decide, by decide⟩ ?_
  refine ws_if_ne (pc := 11) (tgt := 17) C dX10_force_11 (by decide) (fun c4 => ?_) (fun c4 => ?_)
  · have h := ite_f h c4
    refine ws_aload_n (pc := 17) C dX10_force_17 rfl 0 rfl ?_
    refine ws_geti (pc := 18) C dX10_force_18 fd_X10_202 sf_M_22 ?_
    obtain ⟨v5, e6, h⟩ := lz_ok h
    refine ws_topi C e6 ?_
    refine ws_istore_n (pc := 21) C dX10_force_21 rfl (by decide) rfl ?_
    refine ws_aload_n (pc := 22) C dX10_force_22 rfl 1 rfl ?_
    refine ws_iload_n (pc := 23) C dX10_force_23 rfl 2 rfl ?_
    obtain ⟨s7, e8, h⟩ := lz_ok h
    refine ws_putI (pc := 24) C dX10_force_24 fp_X10_202 sf_M_22 e8 ?_
    refine ws_iload_n (pc := 27) C dX10_force_27 rfl 0 rfl ?_
    exact wr_i (pc := 28) C R dX10_force_28 rfl h
  · have h := ite_t h c4
    refine ws_bipush (pc := 14) C dX10_force_14 cb_m2 ?_
    exact wr_i (pc := 16) C R dX10_force_16 rfl h
set_option maxRecDepth 20000 in
set_option maxHeartbeats 4000000 in
theorem pX10_keeps_L2 {Y : xY} {Z : xZ} {B : xB} {z : Int32 × xM} (C : xC (GM Y) Z B "BetweenStopsModel" cX10_keeps 2 1) (R : xRv (GM Y) B z) {k26 : xM → Option (Int32 × xM)}
    (hk26 : ∀  (s : xM), k26 s = some z → xWS (GM Y) B 2 s [] 26 []) : ∀ (n : Nat) (a1 : Int32) (s : xM), fX10_keeps_L2 k26 n a1 s = some z → xWS (GM Y) B 2 s [(0, .ref (Y.1 0)), (1, .int a1)] 2 [] := by
  intro n
  induction n with
  | zero =>
    intro a1 s h
    rw [fX10_keeps_L2] at h
    cases h
  | succ n ih =>
    intro a1 s h
    rw [fX10_keeps_L2] at h
    refine ws_iload_n (pc := 2) C dX10_keeps_2 rfl 1 rfl ?_
    refine ws_bipush (pc := 3) C dX10_keeps_3 cb_8 ?_
    refine ws_icmp_ge (pc := 5) (tgt := 26) C dX10_keeps_5 (by decide) (fun c1 => ?_) (fun c1 => ?_)
    · have h := ite_t h c1
      refine ws_less [] rfl ?_
      exact hk26 _ h
    · have h := ite_f h c1
      refine ws_aload_n (pc := 8) C dX10_keeps_8 rfl 0 rfl ?_
      refine ws_getr (pc := 9) C dX10_keeps_9 fd_X10_132 sf_M_58 ?_
      refine ws_iload_n (pc := 12) C dX10_keeps_12 rfl 1 rfl ?_
      refine ws_aload_n (pc := 13) C dX10_keeps_13 rfl 0 rfl ?_
      refine ws_getr (pc := 14) C dX10_keeps_14 fd_X10_35 sf_M_9 ?_
      refine ws_iload_n (pc := 17) C dX10_keeps_17 rfl 1 rfl ?_
      obtain ⟨g2, h⟩ := gd_ok h
      refine ws_ialdK (pc := 18) C dX10_keeps_18 sr_m_open g2 rfl ?_
      obtain ⟨g3, h⟩ := gd_ok h
      obtain ⟨s4, e5, h⟩ := lz_ok h
      refine ws_iastK (pc := 19) C dX10_keeps_19 sr_m_keptOpen g3 rfl e5 ?_
      refine ws_iinc (j := 1) (pc := 20) C dX10_keeps_20 rfl (cn_1 _) (by decide) rfl ?_
      refine ws_goto (pc := 23) (tgt := 2) C dX10_keeps_23 (by decide) ?_
      refine ws_less [1, 0] rfl ?_
      exact ih _ _ h
set_option maxRecDepth 20000 in
set_option maxHeartbeats 4000000 in
theorem mX10_keeps {Y : xY} {Z : xZ} {s : xM} {z : Int32 × xM} (h : fX10_keeps s = some z) : xMv (GM Y) Z yX10_keeps cX10_keeps 2 1 [.ref (Y.1 0)] s z := by
  refine xMv_of (by decide) (Nat.le_of_ble_eq_true rfl) (fun B C R => ?_)
  have C : xC (GM Y) Z B "BetweenStopsModel" cX10_keeps 2 1 := C
  show xWS (GM Y) B 2 s [(0, .ref (Y.1 0))] 0 []
  unfold fX10_keeps at h
  refine ws_iconst (pc := 0) C dX10_keeps_0 ci_0 ?_
  refine ws_istore_n (pc := 1) C dX10_keeps_1 rfl (by decide) rfl ?_
  refine ws_less [1, 0] rfl ?_
  refine pX10_keeps_L2 C R (fun s1 h => ?_) fu _ _ h
  · exact wr_v (pc := 26) C R dX10_keeps_26 h
set_option maxRecDepth 20000 in
set_option maxHeartbeats 4000000 in
theorem pX10_lays_L2 {Y : xY} {Z : xZ} {B : xB} {z : Int32 × xM} (C : xC (GM Y) Z B "BetweenStopsModel" cX10_lays 2 1) (R : xRv (GM Y) B z) {k26 : xM → Option (Int32 × xM)}
    (hk26 : ∀  (s : xM), k26 s = some z → xWS (GM Y) B 2 s [] 26 []) : ∀ (n : Nat) (a1 : Int32) (s : xM), fX10_lays_L2 k26 n a1 s = some z → xWS (GM Y) B 2 s [(0, .ref (Y.1 0)), (1, .int a1)] 2 [] := by
  intro n
  induction n with
  | zero =>
    intro a1 s h
    rw [fX10_lays_L2] at h
    cases h
  | succ n ih =>
    intro a1 s h
    rw [fX10_lays_L2] at h
    refine ws_iload_n (pc := 2) C dX10_lays_2 rfl 1 rfl ?_
    refine ws_bipush (pc := 3) C dX10_lays_3 cb_8 ?_
    refine ws_icmp_ge (pc := 5) (tgt := 26) C dX10_lays_5 (by decide) (fun c1 => ?_) (fun c1 => ?_)
    · have h := ite_t h c1
      refine ws_less [] rfl ?_
      exact hk26 _ h
    · have h := ite_f h c1
      refine ws_aload_n (pc := 8) C dX10_lays_8 rfl 0 rfl ?_
      refine ws_getr (pc := 9) C dX10_lays_9 fd_X10_35 sf_M_9 ?_
      refine ws_iload_n (pc := 12) C dX10_lays_12 rfl 1 rfl ?_
      refine ws_aload_n (pc := 13) C dX10_lays_13 rfl 0 rfl ?_
      refine ws_getr (pc := 14) C dX10_lays_14 fd_X10_132 sf_M_58 ?_
      refine ws_iload_n (pc := 17) C dX10_lays_17 rfl 1 rfl ?_
      obtain ⟨g2, h⟩ := gd_ok h
      refine ws_ialdK (pc := 18) C dX10_lays_18 sr_m_keptOpen g2 rfl ?_
      obtain ⟨g3, h⟩ := gd_ok h
      obtain ⟨s4, e5, h⟩ := lz_ok h
      refine ws_iastK (pc := 19) C dX10_lays_19 sr_m_open g3 rfl e5 ?_
      refine ws_iinc (j := 1) (pc := 20) C dX10_lays_20 rfl (cn_1 _) (by decide) rfl ?_
      refine ws_goto (pc := 23) (tgt := 2) C dX10_lays_23 (by decide) ?_
      refine ws_less [1, 0] rfl ?_
      exact ih _ _ h
set_option maxRecDepth 20000 in
set_option maxHeartbeats 4000000 in
theorem mX10_lays {Y : xY} {Z : xZ} {s : xM} {z : Int32 × xM} (h : fX10_lays s = some z) : xMv (GM Y) Z yX10_lays cX10_lays 2 1 [.ref (Y.1 0)] s z := by
  refine xMv_of (by decide) (Nat.le_of_ble_eq_true rfl) (fun B C R => ?_)
  have C : xC (GM Y) Z B "BetweenStopsModel" cX10_lays 2 1 := C
  show xWS (GM Y) B 2 s [(0, .ref (Y.1 0))] 0 []
  unfold fX10_lays at h
  refine ws_iconst (pc := 0) C dX10_lays_0 ci_0 ?_
  refine ws_istore_n (pc := 1) C dX10_lays_1 rfl (by decide) rfl ?_
  refine ws_less [1, 0] rfl ?_
  refine pX10_lays_L2 C R (fun s1 h => ?_) fu _ _ h
  · exact wr_v (pc := 26) C R dX10_lays_26 h
set_option maxRecDepth 20000 in
set_option maxHeartbeats 4000000 in
theorem pX10_totalWith_L2 {Y : xY} {Z : xZ} {B : xB} {z : Int64 × xM} (C : xC (GM Y) Z B "BetweenStopsModel" cX10_totalWith 3 7) (R : xRl (GM Y) B z) {k27 : xM → Option (Int64 × xM)} {a1 : Int32}
    (hk27 : ∀  (s : xM), k27 s = some z → xWS (GM Y) B 3 s [(0, .ref (Y.1 0))] 27 []) : ∀ (n : Nat) (a2 : Int32) (s : xM), fX10_totalWith_L2 k27 a1 n a2 s = some z → xWS (GM Y) B 3 s [(0, .ref (Y.1 0)), (1, .int a1), (2, .int a2)] 2 [] := by
  intro n
  induction n with
  | zero =>
    intro a2 s h
    rw [fX10_totalWith_L2] at h
    cases h
  | succ n ih =>
    intro a2 s h
    rw [fX10_totalWith_L2] at h
    refine ws_iload_n (pc := 2) C dX10_totalWith_2 rfl 2 rfl ?_
    refine ws_aload_n (pc := 3) C dX10_totalWith_3 rfl 0 rfl ?_
    refine ws_geti (pc := 4) C dX10_totalWith_4 fd_X10_166 sf_M_4 ?_
    refine ws_icmp_ge (pc := 7) (tgt := 27) C dX10_totalWith_7 (by decide) (fun c1 => ?_) (fun c1 => ?_)
    · have h := ite_t h c1
      refine ws_less [0] rfl ?_
      exact hk27 _ h
    · have h := ite_f h c1
      refine ws_aload_n (pc := 10) C dX10_totalWith_10 rfl 0 rfl ?_
      refine ws_getr (pc := 11) C dX10_totalWith_11 fd_X10_35 sf_M_9 ?_
      refine ws_iload_n (pc := 14) C dX10_totalWith_14 rfl 2 rfl ?_
      refine ws_iload_n (pc := 15) C dX10_totalWith_15 rfl 1 rfl ?_
      refine ws_iload_n (pc := 16) C dX10_totalWith_16 rfl 2 rfl ?_
      refine ws_ishr (pc := 17) C dX10_totalWith_17 ?_
      refine ws_iconst (pc := 18) C dX10_totalWith_18 ci_1 ?_
      refine ws_iand (pc := 19) C dX10_totalWith_19 ?_
      obtain ⟨g2, h⟩ := gd_ok h
      obtain ⟨s3, e4, h⟩ := lz_ok h
      refine ws_iastK (pc := 20) C dX10_totalWith_20 sr_m_open g2 rfl e4 ?_
      refine ws_iinc (j := 2) (pc := 21) C dX10_totalWith_21 rfl (cn_1 _) (by decide) rfl ?_
      refine ws_goto (pc := 24) (tgt := 2) C dX10_totalWith_24 (by decide) ?_
      refine ws_less [1, 2, 0] rfl ?_
      exact ih _ _ h
set_option maxRecDepth 20000 in
set_option maxHeartbeats 4000000 in
theorem mX10_totalWith {Y : xY} {Z : xZ} {a1 : Int32} {s : xM} {z : Int64 × xM} (h : fX10_totalWith a1 s = some z) : xMl (GM Y) Z yX10_totalWith cX10_totalWith 3 7 [.ref (Y.1 0), .int a1] s z := by
  refine xMl_of (by decide) (Nat.le_of_ble_eq_true rfl) (fun B C R => ?_)
  have C : xC (GM Y) Z B "BetweenStopsModel" cX10_totalWith 3 7 := C
  show xWS (GM Y) B 3 s [(0, .ref (Y.1 0)), (1, .int a1)] 0 []
  unfold fX10_totalWith at h
  refine ws_iconst (pc := 0) C dX10_totalWith_0 ci_0 ?_
  refine ws_istore_n (pc := 1) C dX10_totalWith_1 rfl (by decide) rfl ?_
  refine ws_less [1, 2, 0] rfl ?_
  refine pX10_totalWith_L2 C R (fun s1 h => ?_) fu _ _ h
  · refine ws_aload_n (pc := 27) C dX10_totalWith_27 rfl 0 rfl ?_
    obtain ⟨r2, s3, q4, h⟩ := bd_ok h
    refine wc_lV (pc := 28)  C [] [] (mX10_total q4) dX10_totalWith_28 mw_X10_total mv_X10_total kl_X10_257 so_M rfl rfl (Nat.le_of_ble_eq_true rfl) ⟨by decide, by decide⟩ ?_
    exact wr_l (pc := 31) C R dX10_totalWith_31 h
set_option maxRecDepth 20000 in
set_option maxHeartbeats 4000000 in
theorem pX10_ones_L4 {Y : xY} {Z : xZ} {B : xB} {z : Int32 × xM} (C : xC (GM Y) Z B "BetweenStopsModel" cX10_ones 3 1) (R : xRi (GM Y) B .int z) {k24 : Int32 → xM → Option (Int32 × xM)} {a0 : Int32}
    (hk24 : ∀ (a1 : Int32) (s : xM), k24 a1 s = some z → xWS (GM Y) B 3 s [(1, .int a1)] 24 []) : ∀ (n : Nat) (a1 : Int32) (a2 : Int32) (s : xM), fX10_ones_L4 k24 a0 n a1 a2 s = some z → xWS (GM Y) B 3 s [(0, .int a0), (1, .int a1), (2, .int a2)] 4 [] := by
  intro n
  induction n with
  | zero =>
    intro a1 a2 s h
    rw [fX10_ones_L4] at h
    cases h
  | succ n ih =>
    intro a1 a2 s h
    rw [fX10_ones_L4] at h
    refine ws_iload_n (pc := 4) C dX10_ones_4 rfl 2 rfl ?_
    refine ws_bipush (pc := 5) C dX10_ones_5 cb_8 ?_
    refine ws_icmp_ge (pc := 7) (tgt := 24) C dX10_ones_7 (by decide) (fun c1 => ?_) (fun c1 => ?_)
    · have h := ite_t h c1
      refine ws_less [1] rfl ?_
      exact hk24 _ _ h
    · have h := ite_f h c1
      refine ws_iload_n (pc := 10) C dX10_ones_10 rfl 1 rfl ?_
      refine ws_iload_n (pc := 11) C dX10_ones_11 rfl 0 rfl ?_
      refine ws_iload_n (pc := 12) C dX10_ones_12 rfl 2 rfl ?_
      refine ws_ishr (pc := 13) C dX10_ones_13 ?_
      refine ws_iconst (pc := 14) C dX10_ones_14 ci_1 ?_
      refine ws_iand (pc := 15) C dX10_ones_15 ?_
      refine ws_iadd (pc := 16) C dX10_ones_16 ?_
      obtain ⟨v2, e3, h⟩ := lz_ok h
      refine ws_topi C e3 ?_
      refine ws_istore_n (pc := 17) C dX10_ones_17 rfl (by decide) rfl ?_
      refine ws_iinc (j := 2) (pc := 18) C dX10_ones_18 rfl (cn_1 _) (by decide) rfl ?_
      refine ws_goto (pc := 21) (tgt := 4) C dX10_ones_21 (by decide) ?_
      refine ws_less [2, 1, 0] rfl ?_
      exact ih _ _ _ h
set_option maxRecDepth 20000 in
set_option maxHeartbeats 4000000 in
theorem mX10_ones {Y : xY} {Z : xZ} {a0 : Int32} {s : xM} {z : Int32 × xM} (h : fX10_ones a0 s = some z) : xMi (GM Y) Z yX10_ones cX10_ones 3 1 .int [.int a0] s z := by
  refine xMi_of (by decide) (Nat.le_of_ble_eq_true rfl) (fun B C R => ?_)
  have C : xC (GM Y) Z B "BetweenStopsModel" cX10_ones 3 1 := C
  show xWS (GM Y) B 3 s [(0, .int a0)] 0 []
  unfold fX10_ones at h
  refine ws_iconst (pc := 0) C dX10_ones_0 ci_0 ?_
  refine ws_istore_n (pc := 1) C dX10_ones_1 rfl (by decide) rfl ?_
  refine ws_iconst (pc := 2) C dX10_ones_2 ci_0 ?_
  refine ws_istore_n (pc := 3) C dX10_ones_3 rfl (by decide) rfl ?_
  refine ws_less [2, 1, 0] rfl ?_
  refine pX10_ones_L4 C R (fun x1 s2 h => ?_) fu _ _ _ h
  · refine ws_iload_n (pc := 24) C dX10_ones_24 rfl 0 rfl ?_
    exact wr_i (pc := 25) C R dX10_ones_25 rfl h
set_option maxRecDepth 20000 in
set_option maxHeartbeats 4000000 in
theorem pX10_isWithin_L2 {Y : xY} {Z : xZ} {B : xB} {z : Int32 × xM} (C : xC (GM Y) Z B "BetweenStopsModel" cX10_isWithin 3 1) (R : xRi (GM Y) B .boolean z) {k27 : xM → Option (Int32 × xM)} {k35 : xM → Option (Int32 × xM)} {a1 : Int32}
    (hk27 : ∀  (s : xM), k27 s = some z → xWS (GM Y) B 3 s [] 27 [])
    (hk35 : ∀  (s : xM), k35 s = some z → xWS (GM Y) B 3 s [] 35 []) : ∀ (n : Nat) (a2 : Int32) (s : xM), fX10_isWithin_L2 k27 k35 a1 n a2 s = some z → xWS (GM Y) B 3 s [(0, .ref (Y.1 0)), (1, .int a1), (2, .int a2)] 2 [] := by
  intro n
  induction n with
  | zero =>
    intro a2 s h
    rw [fX10_isWithin_L2] at h
    cases h
  | succ n ih =>
    intro a2 s h
    rw [fX10_isWithin_L2] at h
    refine ws_iload_n (pc := 2) C dX10_isWithin_2 rfl 2 rfl ?_
    refine ws_aload_n (pc := 3) C dX10_isWithin_3 rfl 0 rfl ?_
    refine ws_geti (pc := 4) C dX10_isWithin_4 fd_X10_169 sf_M_12 ?_
    refine ws_icmp_ge (pc := 7) (tgt := 35) C dX10_isWithin_7 (by decide) (fun c1 => ?_) (fun c1 => ?_)
    · have h := ite_t h c1
      refine ws_less [] rfl ?_
      exact hk35 _ h
    · have h := ite_f h c1
      refine ws_aload_n (pc := 10) C dX10_isWithin_10 rfl 0 rfl ?_
      refine ws_getr (pc := 11) C dX10_isWithin_11 fd_X10_92 sf_M_43 ?_
      refine ws_iload_n (pc := 14) C dX10_isWithin_14 rfl 2 rfl ?_
      obtain ⟨g2, h⟩ := gd_ok h
      refine ws_ialdK (pc := 15) C dX10_isWithin_15 sr_m_costOf g2 rfl ?_
      refine ws_aload_n (pc := 16) C dX10_isWithin_16 rfl 0 rfl ?_
      refine ws_getr (pc := 17) C dX10_isWithin_17 fd_X10_135 sf_M_59 ?_
      refine ws_iload_n (pc := 20) C dX10_isWithin_20 rfl 2 rfl ?_
      obtain ⟨g3, h⟩ := gd_ok h
      refine ws_ialdK (pc := 21) C dX10_isWithin_21 sr_m_nowCost g3 rfl ?_
      refine ws_isub (pc := 22) C dX10_isWithin_22 ?_
      refine ws_iload_n (pc := 23) C dX10_isWithin_23 rfl 1 rfl ?_
      refine ws_icmp_le (pc := 24) (tgt := 29) C dX10_isWithin_24 (by decide) (fun c4 => ?_) (fun c4 => ?_)
      · have h := ite_t h c4
        refine ws_iinc (j := 2) (pc := 29) C dX10_isWithin_29 rfl (cn_1 _) (by decide) rfl ?_
        refine ws_goto (pc := 32) (tgt := 2) C dX10_isWithin_32 (by decide) ?_
        refine ws_less [1, 2, 0] rfl ?_
        exact ih _ _ h
      · have h := ite_f h c4
        refine ws_less [] rfl ?_
        exact hk27 _ h
set_option maxRecDepth 20000 in
set_option maxHeartbeats 4000000 in
theorem mX10_isWithin {Y : xY} {Z : xZ} {a1 : Int32} {s : xM} {z : Int32 × xM} (h : fX10_isWithin a1 s = some z) : xMi (GM Y) Z yX10_isWithin cX10_isWithin 3 1 .boolean [.ref (Y.1 0), .int a1] s z := by
  refine xMi_of (by decide) (Nat.le_of_ble_eq_true rfl) (fun B C R => ?_)
  have C : xC (GM Y) Z B "BetweenStopsModel" cX10_isWithin 3 1 := C
  show xWS (GM Y) B 3 s [(0, .ref (Y.1 0)), (1, .int a1)] 0 []
  unfold fX10_isWithin at h
  refine ws_iconst (pc := 0) C dX10_isWithin_0 ci_0 ?_
  refine ws_istore_n (pc := 1) C dX10_isWithin_1 rfl (by decide) rfl ?_
  refine ws_less [1, 2, 0] rfl ?_
  refine pX10_isWithin_L2 C R (fun s1 h => ?_) (fun s2 h => ?_) fu _ _ h
  · refine ws_iconst (pc := 27) C dX10_isWithin_27 ci_0 ?_
    exact wr_i (pc := 28) C R dX10_isWithin_28 (isZ_nar isZ0) h
  · refine ws_iconst (pc := 35) C dX10_isWithin_35 ci_1 ?_
    exact wr_i (pc := 36) C R dX10_isWithin_36 (isZ_nar isZ1) h
set_option maxRecDepth 20000 in
set_option maxHeartbeats 4000000 in
theorem pX10_bestSet_L7 {Y : xY} {Z : xZ} {B : xB} {z : Int32 × xM} (C : xC (GM Y) Z B "BetweenStopsModel" cX10_bestSet 7 8) (R : xRi (GM Y) B .int z) {k33 : xM → Option (Int32 × xM)} {a1 : Int32} {a2 : Int32}
    (hk33 : ∀  (s : xM), k33 s = some z → xWS (GM Y) B 7 s [(0, .ref (Y.1 0)), (1, .int a1), (2, .int a2)] 33 []) : ∀ (n : Nat) (a3 : Int32) (s : xM), fX10_bestSet_L7 k33 a1 a2 n a3 s = some z → xWS (GM Y) B 7 s [(0, .ref (Y.1 0)), (1, .int a1), (2, .int a2), (3, .int a3)] 7 [] := by
  intro n
  induction n with
  | zero =>
    intro a3 s h
    rw [fX10_bestSet_L7] at h
    cases h
  | succ n ih =>
    intro a3 s h
    rw [fX10_bestSet_L7] at h
    refine ws_iload_n (pc := 7) C dX10_bestSet_7 rfl 3 rfl ?_
    refine ws_aload_n (pc := 8) C dX10_bestSet_8 rfl 0 rfl ?_
    refine ws_geti (pc := 9) C dX10_bestSet_9 fd_X10_169 sf_M_12 ?_
    refine ws_icmp_ge (pc := 12) (tgt := 33) C dX10_bestSet_12 (by decide) (fun c1 => ?_) (fun c1 => ?_)
    · have h := ite_t h c1
      refine ws_less [0, 1, 2] rfl ?_
      exact hk33 _ h
    · have h := ite_f h c1
      refine ws_aload_n (pc := 15) C dX10_bestSet_15 rfl 0 rfl ?_
      refine ws_getr (pc := 16) C dX10_bestSet_16 fd_X10_135 sf_M_59 ?_
      refine ws_iload_n (pc := 19) C dX10_bestSet_19 rfl 3 rfl ?_
      refine ws_aload_n (pc := 20) C dX10_bestSet_20 rfl 0 rfl ?_
      refine ws_getr (pc := 21) C dX10_bestSet_21 fd_X10_92 sf_M_43 ?_
      refine ws_iload_n (pc := 24) C dX10_bestSet_24 rfl 3 rfl ?_
      obtain ⟨g2, h⟩ := gd_ok h
      refine ws_ialdK (pc := 25) C dX10_bestSet_25 sr_m_costOf g2 rfl ?_
      obtain ⟨g3, h⟩ := gd_ok h
      obtain ⟨s4, e5, h⟩ := lz_ok h
      refine ws_iastK (pc := 26) C dX10_bestSet_26 sr_m_nowCost g3 rfl e5 ?_
      refine ws_iinc (j := 3) (pc := 27) C dX10_bestSet_27 rfl (cn_1 _) (by decide) rfl ?_
      refine ws_goto (pc := 30) (tgt := 7) C dX10_bestSet_30 (by decide) ?_
      refine ws_less [1, 2, 3, 0] rfl ?_
      exact ih _ _ h
set_option maxRecDepth 20000 in
set_option maxHeartbeats 4000000 in
theorem pX10_bestSet_J122 {Y : xY} {Z : xZ} {B : xB} {z : Int32 × xM} (C : xC (GM Y) Z B "BetweenStopsModel" cX10_bestSet 7 8) (R : xRi (GM Y) B .int z) {k137 : Int32 → xM → Option (Int32 × xM)} {b : Int32 → Int32 → xM → Option (Int32 × xM)} {a1 : Int32} {a2 : Int32} {a4 : Int32} {a5 : Int64}
    (hk137 : ∀ (a3 : Int32) (s : xM), k137 a3 s = some z → xWS (GM Y) B 7 s [(0, .ref (Y.1 0)), (3, .int a3)] 137 [])
    (hb : ∀ (a3 : Int32) (a4 : Int32) (s : xM), b a3 a4 s = some z → xWS (GM Y) B 7 s [(0, .ref (Y.1 0)), (1, .int a1), (2, .int a2), (3, .int a3), (4, .int a4)] 42 []) {s : xM} (h : fX10_bestSet_J122 k137 b a1 a2 a4 a5 s = some z) : xWS (GM Y) B 7 s [(0, .ref (Y.1 0)), (1, .int a1), (2, .int a2), (4, .int a4), (5, .long a5)] 122 [] := by
  unfold fX10_bestSet_J122 at h
  refine ws_iload (pc := 122) C dX10_bestSet_122 3 rfl ?_
  refine ws_istore_n (pc := 124) C dX10_bestSet_124 rfl (by decide) rfl ?_
  refine ws_aload_n (pc := 125) C dX10_bestSet_125 rfl 1 rfl ?_
  refine ws_lload (pc := 126) C dX10_bestSet_126 5 rfl ?_
  obtain ⟨s1, e2, h⟩ := lz_ok h
  refine ws_putL (pc := 128) C dX10_bestSet_128 fp_X10_332 sf_M_60 e2 ?_
  refine ws_iinc (j := 4) (pc := 131) C dX10_bestSet_131 rfl (cn_1 _) (by decide) rfl ?_
  refine ws_goto (pc := 134) (tgt := 42) C dX10_bestSet_134 (by decide) ?_
  refine ws_less [2, 3, 4, 1, 0] rfl ?_
  exact hb _ _ _ h
set_option maxRecDepth 20000 in
set_option maxHeartbeats 4000000 in
theorem pX10_bestSet_J85 {Y : xY} {Z : xZ} {B : xB} {z : Int32 × xM} (C : xC (GM Y) Z B "BetweenStopsModel" cX10_bestSet 7 8) (R : xRi (GM Y) B .int z) {k137 : Int32 → xM → Option (Int32 × xM)} {b : Int32 → Int32 → xM → Option (Int32 × xM)} {a1 : Int32} {a2 : Int32} {a3 : Int32} {a4 : Int32} {a5 : Int64}
    (hk137 : ∀ (a3 : Int32) (s : xM), k137 a3 s = some z → xWS (GM Y) B 7 s [(0, .ref (Y.1 0)), (3, .int a3)] 137 [])
    (hb : ∀ (a3 : Int32) (a4 : Int32) (s : xM), b a3 a4 s = some z → xWS (GM Y) B 7 s [(0, .ref (Y.1 0)), (1, .int a1), (2, .int a2), (3, .int a3), (4, .int a4)] 42 []) {s : xM} (h : fX10_bestSet_J85 k137 b a1 a2 a3 a4 a5 s = some z) : xWS (GM Y) B 7 s [(0, .ref (Y.1 0)), (1, .int a1), (2, .int a2), (3, .int a3), (4, .int a4), (5, .long a5)] 85 [] := by
  unfold fX10_bestSet_J85 at h
  refine ws_iload_n (pc := 85) C dX10_bestSet_85 rfl 3 rfl ?_
  refine ws_iconst (pc := 86) C dX10_bestSet_86 ci_m1 ?_
  refine ws_icmp_eq (pc := 87) (tgt := 122) C dX10_bestSet_87 (by decide) (fun c1 => ?_) (fun c1 => ?_)
  · have h := ite_t h c1
    refine ws_less [0, 1, 2, 4, 5] rfl ?_
    exact pX10_bestSet_J122 C R hk137 hb h
  · have h := ite_f h c1
    refine ws_lload (pc := 90) C dX10_bestSet_90 5 rfl ?_
    refine ws_aload_n (pc := 92) C dX10_bestSet_92 rfl 0 rfl ?_
    refine ws_getl (pc := 93) C dX10_bestSet_93 fd_X10_332 sf_M_60 ?_
    refine ws_lcmp (pc := 96) C dX10_bestSet_96 ?_
    refine ws_if_lt (pc := 97) (tgt := 122) C dX10_bestSet_97 (by decide) (fun c2 => ?_) (fun c2 => ?_)
    · have h := ite_t h c2
      refine ws_less [0, 1, 2, 4, 5] rfl ?_
      exact pX10_bestSet_J122 C R hk137 hb h
    · have h := ite_f h c2
      refine ws_lload (pc := 100) C dX10_bestSet_100 5 rfl ?_
      refine ws_aload_n (pc := 102) C dX10_bestSet_102 rfl 0 rfl ?_
      refine ws_getl (pc := 103) C dX10_bestSet_103 fd_X10_332 sf_M_60 ?_
      refine ws_lcmp (pc := 106) C dX10_bestSet_106 ?_
      refine ws_if_ne (pc := 107) (tgt := 131) C dX10_bestSet_107 (by decide) (fun c3 => ?_) (fun c3 => ?_)
      · have h := ite_f h c3
        refine ws_iinc (j := 4) (pc := 131) C dX10_bestSet_131 rfl (cn_1 _) (by decide) rfl ?_
        refine ws_goto (pc := 134) (tgt := 42) C dX10_bestSet_134 (by decide) ?_
        refine ws_less [1, 2, 3, 4, 0] rfl ?_
        exact hb _ _ _ h
      · have h := ite_t h c3
        refine ws_iload (pc := 110) C dX10_bestSet_110 4 rfl ?_
        obtain ⟨r4, s5, q6, h⟩ := bd_ok h
        refine wc_iS (pc := 112)  C [.int a4] [] (mX10_ones q6) dX10_bestSet_112 mw_X10_ones ks_X10_ones kl_X10_336 rfl rfl (Nat.le_of_ble_eq_true rfl) ⟨by decide, by decide⟩ ?_
        refine ws_iload_n (pc := 115) C dX10_bestSet_115 rfl 3 rfl ?_
        obtain ⟨r7, s8, q9, h⟩ := bd_ok h
        refine wc_iS (pc := 116)  C [.int a3] [.int r4] (mX10_ones q9) dX10_bestSet_116 mw_X10_ones ks_X10_ones kl_X10_336 rfl rfl (Nat.le_of_ble_eq_true rfl) ⟨by decide, by decide⟩ ?_
        refine ws_icmp_ge (pc := 119) (tgt := 131) C dX10_bestSet_119 (by decide) (fun c10 => ?_) (fun c10 => ?_)
        · have h := ite_t h c10
          refine ws_iinc (j := 4) (pc := 131) C dX10_bestSet_131 rfl (cn_1 _) (by decide) rfl ?_
          refine ws_goto (pc := 134) (tgt := 42) C dX10_bestSet_134 (by decide) ?_
          refine ws_less [1, 2, 3, 4, 0] rfl ?_
          exact hb _ _ _ h
        · have h := ite_f h c10
          refine ws_less [0, 1, 2, 4, 5] rfl ?_
          exact pX10_bestSet_J122 C R hk137 hb h
set_option maxRecDepth 20000 in
set_option maxHeartbeats 4000000 in
theorem pX10_bestSet_J73 {Y : xY} {Z : xZ} {B : xB} {z : Int32 × xM} (C : xC (GM Y) Z B "BetweenStopsModel" cX10_bestSet 7 8) (R : xRi (GM Y) B .int z) {k137 : Int32 → xM → Option (Int32 × xM)} {b : Int32 → Int32 → xM → Option (Int32 × xM)} {a1 : Int32} {a2 : Int32} {a3 : Int32} {a4 : Int32} {a5 : Int64}
    (hk137 : ∀ (a3 : Int32) (s : xM), k137 a3 s = some z → xWS (GM Y) B 7 s [(0, .ref (Y.1 0)), (3, .int a3)] 137 [])
    (hb : ∀ (a3 : Int32) (a4 : Int32) (s : xM), b a3 a4 s = some z → xWS (GM Y) B 7 s [(0, .ref (Y.1 0)), (1, .int a1), (2, .int a2), (3, .int a3), (4, .int a4)] 42 []) {s : xM} (h : fX10_bestSet_J73 k137 b a1 a2 a3 a4 a5 s = some z) : xWS (GM Y) B 7 s [(0, .ref (Y.1 0)), (1, .int a1), (2, .int a2), (3, .int a3), (4, .int a4), (5, .long a5)] 73 [] := by
  unfold fX10_bestSet_J73 at h
  refine ws_iload_n (pc := 73) C dX10_bestSet_73 rfl 2 rfl ?_
  refine ws_if_lt (pc := 74) (tgt := 85) C dX10_bestSet_74 (by decide) (fun c1 => ?_) (fun c1 => ?_)
  · have h := ite_t h c1
    refine ws_less [0, 1, 2, 3, 4, 5] rfl ?_
    exact pX10_bestSet_J85 C R hk137 hb h
  · have h := ite_f h c1
    refine ws_aload_n (pc := 77) C dX10_bestSet_77 rfl 0 rfl ?_
    refine ws_iload_n (pc := 78) C dX10_bestSet_78 rfl 2 rfl ?_
    obtain ⟨r2, s3, q4, h⟩ := bd_ok h
    refine wc_iV (pc := 79)  C [.int a2] [] (mX10_isWithin q4) dX10_bestSet_79 mw_X10_isWithin mv_X10_isWithin kl_X10_329 so_M rfl rfl (Nat.le_of_ble_eq_true rfl) ⟨by decide, by decide⟩ ?_
    refine ws_if_eq (pc := 82) (tgt := 131) C dX10_bestSet_82 (by decide) (fun c5 => ?_) (fun c5 => ?_)
    · have h := ite_t h c5
      refine ws_iinc (j := 4) (pc := 131) C dX10_bestSet_131 rfl (cn_1 _) (by decide) rfl ?_
      refine ws_goto (pc := 134) (tgt := 42) C dX10_bestSet_134 (by decide) ?_
      refine ws_less [1, 2, 3, 4, 0] rfl ?_
      exact hb _ _ _ h
    · have h := ite_f h c5
      refine ws_less [0, 1, 2, 3, 4, 5] rfl ?_
      exact pX10_bestSet_J85 C R hk137 hb h
set_option maxRecDepth 20000 in
set_option maxHeartbeats 4000000 in
theorem pX10_bestSet_L42 {Y : xY} {Z : xZ} {B : xB} {z : Int32 × xM} (C : xC (GM Y) Z B "BetweenStopsModel" cX10_bestSet 7 8) (R : xRi (GM Y) B .int z) {k137 : Int32 → xM → Option (Int32 × xM)} {a1 : Int32} {a2 : Int32}
    (hk137 : ∀ (a3 : Int32) (s : xM), k137 a3 s = some z → xWS (GM Y) B 7 s [(0, .ref (Y.1 0)), (3, .int a3)] 137 []) : ∀ (n : Nat) (a3 : Int32) (a4 : Int32) (s : xM), fX10_bestSet_L42 k137 a1 a2 n a3 a4 s = some z → xWS (GM Y) B 7 s [(0, .ref (Y.1 0)), (1, .int a1), (2, .int a2), (3, .int a3), (4, .int a4)] 42 [] := by
  intro n
  induction n with
  | zero =>
    intro a3 a4 s h
    rw [fX10_bestSet_L42] at h
    cases h
  | succ n ih =>
    intro a3 a4 s h
    rw [fX10_bestSet_L42] at h
    refine ws_iload (pc := 42) C dX10_bestSet_42 4 rfl ?_
    refine ws_iconst (pc := 44) C dX10_bestSet_44 ci_1 ?_
    refine ws_aload_n (pc := 45) C dX10_bestSet_45 rfl 0 rfl ?_
    refine ws_geti (pc := 46) C dX10_bestSet_46 fd_X10_166 sf_M_4 ?_
    refine ws_ishl (pc := 49) C dX10_bestSet_49 ?_
    refine ws_icmp_ge (pc := 50) (tgt := 137) C dX10_bestSet_50 (by decide) (fun c1 => ?_) (fun c1 => ?_)
    · have h := ite_t h c1
      refine ws_less [0, 3] rfl ?_
      exact hk137 _ _ h
    · have h := ite_f h c1
      refine ws_aload_n (pc := 53) C dX10_bestSet_53 rfl 0 rfl ?_
      refine ws_iload (pc := 54) C dX10_bestSet_54 4 rfl ?_
      obtain ⟨r2, s3, q4, h⟩ := bd_ok h
      refine wc_lV (pc := 56)  C [.int a4] [] (mX10_totalWith q4) dX10_bestSet_56 mw_X10_totalWith mv_X10_totalWith kl_X10_325 so_M rfl rfl (Nat.le_of_ble_eq_true rfl) ⟨by decide, by decide⟩ ?_
      refine ws_lstore (pc := 59) C dX10_bestSet_59 (by decide) rfl ?_
      refine ws_iload_n (pc := 61) C dX10_bestSet_61 rfl 2 rfl ?_
      refine ws_if_lt (pc := 62) (tgt := 73) C dX10_bestSet_62 (by decide) (fun c5 => ?_) (fun c5 => ?_)
      · have h := ite_t h c5
        refine ws_less [1, 2, 3, 4, 5, 0] rfl ?_
        exact pX10_bestSet_J73 C R hk137 (fun a3 a4 s h => ih a3 a4 s h) h
      · have h := ite_f h c5
        refine ws_aload_n (pc := 65) C dX10_bestSet_65 rfl 1 rfl ?_
        refine ws_geti (pc := 66) C dX10_bestSet_66 fd_X10_246 sf_M_44 ?_
        refine ws_iload_n (pc := 69) C dX10_bestSet_69 rfl 2 rfl ?_
        refine ws_icmp_gt (pc := 70) (tgt := 131) C dX10_bestSet_70 (by decide) (fun c6 => ?_) (fun c6 => ?_)
        · have h := ite_t h c6
          refine ws_iinc (j := 5) (pc := 131) C dX10_bestSet_131 rfl (cn_1 _) (by decide) rfl ?_
          refine ws_goto (pc := 134) (tgt := 42) C dX10_bestSet_134 (by decide) ?_
          refine ws_less [2, 3, 4, 5, 0] rfl ?_
          exact ih _ _ _ h
        · have h := ite_f h c6
          refine ws_less [1, 2, 3, 4, 5, 0] rfl ?_
          exact pX10_bestSet_J73 C R hk137 (fun a3 a4 s h => ih a3 a4 s h) h
set_option maxRecDepth 20000 in
set_option maxHeartbeats 4000000 in
theorem mX10_bestSet {Y : xY} {Z : xZ} {a1 : Int32} {a2 : Int32} {s : xM} {z : Int32 × xM} (h : fX10_bestSet a1 a2 s = some z) : xMi (GM Y) Z yX10_bestSet cX10_bestSet 7 8 .int [.ref (Y.1 0), .int a1, .int a2] s z := by
  refine xMi_of (by decide) (Nat.le_of_ble_eq_true rfl) (fun B C R => ?_)
  have C : xC (GM Y) Z B "BetweenStopsModel" cX10_bestSet 7 8 := C
  show xWS (GM Y) B 7 s [(0, .ref (Y.1 0)), (1, .int a1), (2, .int a2)] 0 []
  unfold fX10_bestSet at h
  refine ws_aload_n (pc := 0) C dX10_bestSet_0 rfl 0 rfl ?_
  obtain ⟨r1, s2, q3, h⟩ := bd_ok h
  refine wc_lV (pc := 1)  C [] [] (mX10_total q3) dX10_bestSet_1 mw_X10_total mv_X10_total kl_X10_257 so_M rfl rfl (Nat.le_of_ble_eq_true rfl) ⟨by decide, by decide⟩ ?_
  refine ws_pop2 (pc := 4) C dX10_bestSet_4 rfl ?_
  refine ws_iconst (pc := 5) C dX10_bestSet_5 ci_0 ?_
  refine ws_istore_n (pc := 6) C dX10_bestSet_6 rfl (by decide) rfl ?_
  refine ws_less [1, 2, 3, 0] rfl ?_
  refine pX10_bestSet_L7 C R (fun s4 h => ?_) fu _ _ h
  · refine ws_aload_n (pc := 33) C dX10_bestSet_33 rfl 0 rfl ?_
    obtain ⟨r5, s6, q7, h⟩ := bd_ok h
    refine wc_vV (pc := 34)  C [] [] (mX10_keeps q7) dX10_bestSet_34 mw_X10_keeps mv_X10_keeps kl_X10_322 so_M rfl rfl (Nat.le_of_ble_eq_true rfl) ⟨by decide, by decide⟩ ?_
    refine ws_iconst (pc := 37) C dX10_bestSet_37 ci_m1 ?_
    refine ws_istore_n (pc := 38) C dX10_bestSet_38 rfl (by decide) rfl ?_
    refine ws_iconst (pc := 39) C dX10_bestSet_39 ci_0 ?_
    refine ws_istore (pc := 40) C dX10_bestSet_40 (by decide) rfl ?_
    refine ws_less [2, 3, 4, 1, 0] rfl ?_
    refine pX10_bestSet_L42 C R (fun x8 s9 h => ?_) fu _ _ _ h
    · refine ws_aload_n (pc := 137) C dX10_bestSet_137 rfl 0 rfl ?_
      obtain ⟨r10, s11, q12, h⟩ := bd_ok h
      refine wc_vV (pc := 138)  C [] [] (mX10_lays q12) dX10_bestSet_138 mw_X10_lays mv_X10_lays kl_X10_339 so_M rfl rfl (Nat.le_of_ble_eq_true rfl) ⟨by decide, by decide⟩ ?_
      refine ws_iload_n (pc := 141) C dX10_bestSet_141 rfl 1 rfl ?_
      exact wr_i (pc := 142) C R dX10_bestSet_142 rfl h
set_option maxRecDepth 20000 in
set_option maxHeartbeats 4000000 in
theorem mX10_best {Y : xY} {Z : xZ} {a1 : Int32} {s : xM} {z : Int64 × xM} (h : fX10_best a1 s = some z) : xMl (GM Y) Z yX10_best cX10_best 3 9 [.ref (Y.1 0), .int a1] s z := by
  refine xMl_of (by decide) (Nat.le_of_ble_eq_true rfl) (fun B C R => ?_)
  have C : xC (GM Y) Z B "BetweenStopsModel" cX10_best 3 9 := C
  show xWS (GM Y) B 3 s [(0, .ref (Y.1 0)), (1, .int a1)] 0 []
  unfold fX10_best at h
  refine ws_iload_n (pc := 0) C dX10_best_0 rfl 1 rfl ?_
  refine ws_iconst (pc := 1) C dX10_best_1 ci_0 ?_
  refine ws_iconst (pc := 2) C dX10_best_2 ci_1 ?_
  obtain ⟨r1, s2, q3, h⟩ := bd_ok h
  refine wc_iS (pc := 3)  C [.int a1, .int (0 : Int32), .int (1 : Int32)] [] (mX10_in q3) dX10_best_3 mw_X10_in ks_X10_in kl_X10_162 rfl rfl (Nat.le_of_ble_eq_true rfl) ⟨by decide, by decide⟩ ?_
  refine ws_if_ne (pc := 6) (tgt := 13) C dX10_best_6 (by decide) (fun c4 => ?_) (fun c4 => ?_)
  · have h := ite_f h c4
    refine ws_aload_n (pc := 13) C dX10_best_13 rfl 0 rfl ?_
    refine ws_iconst (pc := 14) C dX10_best_14 ci_m1 ?_
    refine ws_iconst (pc := 15) C dX10_best_15 ci_m1 ?_
    obtain ⟨r5, s6, q7, h⟩ := bd_ok h
    refine wc_iV (pc := 16)  C [.int (-1 : Int32), .int (-1 : Int32)] [] (mX10_bestSet q7) dX10_best_16 mw_X10_bestSet mv_X10_bestSet kl_X10_342 so_M rfl rfl (Nat.le_of_ble_eq_true rfl) ⟨by decide, by decide⟩ ?_
    refine ws_istore_n (pc := 19) C dX10_best_19 rfl (by decide) rfl ?_
    refine ws_iload_n (pc := 20) C dX10_best_20 rfl 2 rfl ?_
    refine ws_if_ne (pc := 21) (tgt := 29) C dX10_best_21 (by decide) (fun c8 => ?_) (fun c8 => ?_)
    · have h := ite_f h c8
      refine ws_aload_n (pc := 29) C dX10_best_29 rfl 1 rfl ?_
      refine ws_getl (pc := 30) C dX10_best_30 fd_X10_332 sf_M_60 ?_
      exact wr_l (pc := 33) C R dX10_best_33 h
    · have h := ite_t h c8
      refine ws_iload_n (pc := 24) C dX10_best_24 rfl 0 rfl ?_
      refine ws_i2l (pc := 25) C dX10_best_25 ?_
      refine ws_goto (pc := 26) (tgt := 33) C dX10_best_26 (by decide) ?_
      exact wr_l (pc := 33) C R dX10_best_33 h
  · have h := ite_t h c4
    refine ws_ldc2 (pc := 9) C dX10_best_9 kK_X10_255 ?_
    exact wr_l (pc := 12) C R dX10_best_12 h
set_option maxRecDepth 20000 in
set_option maxHeartbeats 4000000 in
theorem mX10_bound {Y : xY} {Z : xZ} {a1 : Int32} {s : xM} {z : Int32 × xM} (h : fX10_bound a1 s = some z) : xMi (GM Y) Z yX10_bound cX10_bound 2 9 .int [.ref (Y.1 0), .int a1] s z := by
  refine xMi_of (by decide) (Nat.le_of_ble_eq_true rfl) (fun B C R => ?_)
  have C : xC (GM Y) Z B "BetweenStopsModel" cX10_bound 2 9 := C
  show xWS (GM Y) B 2 s [(0, .ref (Y.1 0)), (1, .int a1)] 0 []
  unfold fX10_bound at h
  refine ws_iload_n (pc := 0) C dX10_bound_0 rfl 1 rfl ?_
  refine ws_iconst (pc := 1) C dX10_bound_1 ci_0 ?_
  refine ws_ldcw (pc := 2) C dX10_bound_2 kk_X10_345 ?_
  obtain ⟨r1, s2, q3, h⟩ := bd_ok h
  refine wc_iS (pc := 5)  C [.int a1, .int (0 : Int32), .int (99999 : Int32)] [] (mX10_in q3) dX10_bound_5 mw_X10_in ks_X10_in kl_X10_162 rfl rfl (Nat.le_of_ble_eq_true rfl) ⟨by decide, by decide⟩ ?_
  refine ws_if_eq (pc := 8) (tgt := 20) C dX10_bound_8 (by decide) (fun c4 => ?_) (fun c4 => ?_)
  · have h := ite_t h c4
    refine ws_bipush (pc := 20) C dX10_bound_20 cb_m2 ?_
    exact wr_i (pc := 22) C R dX10_bound_22 rfl h
  · have h := ite_f h c4
    refine ws_aload_n (pc := 11) C dX10_bound_11 rfl 0 rfl ?_
    refine ws_iload_n (pc := 12) C dX10_bound_12 rfl 1 rfl ?_
    refine ws_iconst (pc := 13) C dX10_bound_13 ci_m1 ?_
    obtain ⟨r5, s6, q7, h⟩ := bd_ok h
    refine wc_iV (pc := 14)  C [.int a1, .int (-1 : Int32)] [] (mX10_bestSet q7) dX10_bound_14 mw_X10_bestSet mv_X10_bestSet kl_X10_342 so_M rfl rfl (Nat.le_of_ble_eq_true rfl) ⟨by decide, by decide⟩ ?_
    refine ws_goto (pc := 17) (tgt := 22) C dX10_bound_17 (by decide) ?_
    exact wr_i (pc := 22) C R dX10_bound_22 rfl h
set_option maxRecDepth 20000 in
set_option maxHeartbeats 4000000 in
theorem mX10_least {Y : xY} {Z : xZ} {a1 : Int32} {s : xM} {z : Int32 × xM} (h : fX10_least a1 s = some z) : xMi (GM Y) Z yX10_least cX10_least 2 9 .int [.ref (Y.1 0), .int a1] s z := by
  refine xMi_of (by decide) (Nat.le_of_ble_eq_true rfl) (fun B C R => ?_)
  have C : xC (GM Y) Z B "BetweenStopsModel" cX10_least 2 9 := C
  show xWS (GM Y) B 2 s [(0, .ref (Y.1 0)), (1, .int a1)] 0 []
  unfold fX10_least at h
  refine ws_iload_n (pc := 0) C dX10_least_0 rfl 1 rfl ?_
  refine ws_iconst (pc := 1) C dX10_least_1 ci_0 ?_
  refine ws_ldcw (pc := 2) C dX10_least_2 kk_X10_346 ?_
  obtain ⟨r1, s2, q3, h⟩ := bd_ok h
  refine wc_iS (pc := 5)  C [.int a1, .int (0 : Int32), .int (999999 : Int32)] [] (mX10_in q3) dX10_least_5 mw_X10_in ks_X10_in kl_X10_162 rfl rfl (Nat.le_of_ble_eq_true rfl) ⟨by decide, by decide⟩ ?_
  refine ws_if_eq (pc := 8) (tgt := 20) C dX10_least_8 (by decide) (fun c4 => ?_) (fun c4 => ?_)
  · have h := ite_t h c4
    refine ws_bipush (pc := 20) C dX10_least_20 cb_m2 ?_
    exact wr_i (pc := 22) C R dX10_least_22 rfl h
  · have h := ite_f h c4
    refine ws_aload_n (pc := 11) C dX10_least_11 rfl 0 rfl ?_
    refine ws_iconst (pc := 12) C dX10_least_12 ci_m1 ?_
    refine ws_iload_n (pc := 13) C dX10_least_13 rfl 1 rfl ?_
    obtain ⟨r5, s6, q7, h⟩ := bd_ok h
    refine wc_iV (pc := 14)  C [.int (-1 : Int32), .int a1] [] (mX10_bestSet q7) dX10_least_14 mw_X10_bestSet mv_X10_bestSet kl_X10_342 so_M rfl rfl (Nat.le_of_ble_eq_true rfl) ⟨by decide, by decide⟩ ?_
    refine ws_goto (pc := 17) (tgt := 22) C dX10_least_17 (by decide) ?_
    exact wr_i (pc := 22) C R dX10_least_22 rfl h
set_option maxRecDepth 20000 in
set_option maxHeartbeats 4000000 in
theorem pX10_fair_J39 {Y : xY} {Z : xZ} {B : xB} {z : Int32 × xM} (C : xC (GM Y) Z B "BetweenStopsModel" cX10_fair 4 8) (R : xRi (GM Y) B .int z) {k52 : Int32 → xM → Option (Int32 × xM)} {b : Int32 → Int32 → Int32 → xM → Option (Int32 × xM)} {a3 : Int32}
    (hk52 : ∀ (a1 : Int32) (s : xM), k52 a1 s = some z → xWS (GM Y) B 4 s [(0, .ref (Y.1 0)), (1, .int a1)] 52 [])
    (hb : ∀ (a1 : Int32) (a2 : Int32) (a3 : Int32) (s : xM), b a1 a2 a3 s = some z → xWS (GM Y) B 4 s [(0, .ref (Y.1 0)), (1, .int a1), (2, .int a2), (3, .int a3)] 10 []) {s : xM} (h : fX10_fair_J39 k52 b a3 s = some z) : xWS (GM Y) B 4 s [(0, .ref (Y.1 0)), (3, .int a3)] 39 [] := by
  unfold fX10_fair_J39 at h
  refine ws_iload_n (pc := 39) C dX10_fair_39 rfl 1 rfl ?_
  refine ws_istore_n (pc := 40) C dX10_fair_40 rfl (by decide) rfl ?_
  refine ws_aload_n (pc := 41) C dX10_fair_41 rfl 1 rfl ?_
  refine ws_geti (pc := 42) C dX10_fair_42 fd_X10_249 sf_M_45 ?_
  obtain ⟨v1, e2, h⟩ := lz_ok h
  refine ws_topi C e2 ?_
  refine ws_istore_n (pc := 45) C dX10_fair_45 rfl (by decide) rfl ?_
  refine ws_iinc (j := 3) (pc := 46) C dX10_fair_46 rfl (cn_1 _) (by decide) rfl ?_
  refine ws_goto (pc := 49) (tgt := 10) C dX10_fair_49 (by decide) ?_
  refine ws_less [3, 2, 1, 0] rfl ?_
  exact hb _ _ _ _ h
set_option maxRecDepth 20000 in
set_option maxHeartbeats 4000000 in
theorem pX10_fair_L10 {Y : xY} {Z : xZ} {B : xB} {z : Int32 × xM} (C : xC (GM Y) Z B "BetweenStopsModel" cX10_fair 4 8) (R : xRi (GM Y) B .int z) {k52 : Int32 → xM → Option (Int32 × xM)}
    (hk52 : ∀ (a1 : Int32) (s : xM), k52 a1 s = some z → xWS (GM Y) B 4 s [(0, .ref (Y.1 0)), (1, .int a1)] 52 []) : ∀ (n : Nat) (a1 : Int32) (a2 : Int32) (a3 : Int32) (s : xM), fX10_fair_L10 k52 n a1 a2 a3 s = some z → xWS (GM Y) B 4 s [(0, .ref (Y.1 0)), (1, .int a1), (2, .int a2), (3, .int a3)] 10 [] := by
  intro n
  induction n with
  | zero =>
    intro a1 a2 a3 s h
    rw [fX10_fair_L10] at h
    cases h
  | succ n ih =>
    intro a1 a2 a3 s h
    rw [fX10_fair_L10] at h
    refine ws_iload_n (pc := 10) C dX10_fair_10 rfl 3 rfl ?_
    refine ws_iconst (pc := 11) C dX10_fair_11 ci_1 ?_
    refine ws_aload_n (pc := 12) C dX10_fair_12 rfl 0 rfl ?_
    refine ws_geti (pc := 13) C dX10_fair_13 fd_X10_166 sf_M_4 ?_
    refine ws_ishl (pc := 16) C dX10_fair_16 ?_
    refine ws_icmp_ge (pc := 17) (tgt := 52) C dX10_fair_17 (by decide) (fun c1 => ?_) (fun c1 => ?_)
    · have h := ite_t h c1
      refine ws_less [0, 1] rfl ?_
      exact hk52 _ _ h
    · have h := ite_f h c1
      refine ws_aload_n (pc := 20) C dX10_fair_20 rfl 0 rfl ?_
      refine ws_iload_n (pc := 21) C dX10_fair_21 rfl 3 rfl ?_
      obtain ⟨r2, s3, q4, h⟩ := bd_ok h
      refine wc_lV (pc := 22)  C [.int a3] [] (mX10_totalWith q4) dX10_fair_22 mw_X10_totalWith mv_X10_totalWith kl_X10_325 so_M rfl rfl (Nat.le_of_ble_eq_true rfl) ⟨by decide, by decide⟩ ?_
      refine ws_pop2 (pc := 25) C dX10_fair_25 rfl ?_
      refine ws_iload_n (pc := 26) C dX10_fair_26 rfl 1 rfl ?_
      refine ws_iconst (pc := 27) C dX10_fair_27 ci_m1 ?_
      refine ws_icmp_eq (pc := 28) (tgt := 39) C dX10_fair_28 (by decide) (fun c5 => ?_) (fun c5 => ?_)
      · have h := ite_t h c5
        refine ws_less [0, 3] rfl ?_
        exact pX10_fair_J39 C R hk52 (fun a1 a2 a3 s h => ih a1 a2 a3 s h) h
      · have h := ite_f h c5
        refine ws_aload_n (pc := 31) C dX10_fair_31 rfl 0 rfl ?_
        refine ws_geti (pc := 32) C dX10_fair_32 fd_X10_249 sf_M_45 ?_
        refine ws_iload_n (pc := 35) C dX10_fair_35 rfl 2 rfl ?_
        refine ws_icmp_ge (pc := 36) (tgt := 46) C dX10_fair_36 (by decide) (fun c6 => ?_) (fun c6 => ?_)
        · have h := ite_t h c6
          refine ws_iinc (j := 3) (pc := 46) C dX10_fair_46 rfl (cn_1 _) (by decide) rfl ?_
          refine ws_goto (pc := 49) (tgt := 10) C dX10_fair_49 (by decide) ?_
          refine ws_less [1, 2, 3, 0] rfl ?_
          exact ih _ _ _ _ h
        · have h := ite_f h c6
          refine ws_less [0, 3] rfl ?_
          exact pX10_fair_J39 C R hk52 (fun a1 a2 a3 s h => ih a1 a2 a3 s h) h
set_option maxRecDepth 20000 in
set_option maxHeartbeats 4000000 in
theorem mX10_fair {Y : xY} {Z : xZ} {s : xM} {z : Int32 × xM} (h : fX10_fair s = some z) : xMi (GM Y) Z yX10_fair cX10_fair 4 8 .int [.ref (Y.1 0)] s z := by
  refine xMi_of (by decide) (Nat.le_of_ble_eq_true rfl) (fun B C R => ?_)
  have C : xC (GM Y) Z B "BetweenStopsModel" cX10_fair 4 8 := C
  show xWS (GM Y) B 4 s [(0, .ref (Y.1 0))] 0 []
  unfold fX10_fair at h
  refine ws_aload_n (pc := 0) C dX10_fair_0 rfl 0 rfl ?_
  obtain ⟨r1, s2, q3, h⟩ := bd_ok h
  refine wc_vV (pc := 1)  C [] [] (mX10_keeps q3) dX10_fair_1 mw_X10_keeps mv_X10_keeps kl_X10_322 so_M rfl rfl (Nat.le_of_ble_eq_true rfl) ⟨by decide, by decide⟩ ?_
  refine ws_iconst (pc := 4) C dX10_fair_4 ci_m1 ?_
  refine ws_istore_n (pc := 5) C dX10_fair_5 rfl (by decide) rfl ?_
  refine ws_iconst (pc := 6) C dX10_fair_6 ci_0 ?_
  refine ws_istore_n (pc := 7) C dX10_fair_7 rfl (by decide) rfl ?_
  refine ws_iconst (pc := 8) C dX10_fair_8 ci_0 ?_
  refine ws_istore_n (pc := 9) C dX10_fair_9 rfl (by decide) rfl ?_
  refine ws_less [3, 2, 1, 0] rfl ?_
  refine pX10_fair_L10 C R (fun x4 s5 h => ?_) fu _ _ _ _ h
  · refine ws_aload_n (pc := 52) C dX10_fair_52 rfl 0 rfl ?_
    obtain ⟨r6, s7, q8, h⟩ := bd_ok h
    refine wc_vV (pc := 53)  C [] [] (mX10_lays q8) dX10_fair_53 mw_X10_lays mv_X10_lays kl_X10_339 so_M rfl rfl (Nat.le_of_ble_eq_true rfl) ⟨by decide, by decide⟩ ?_
    refine ws_iload_n (pc := 56) C dX10_fair_56 rfl 1 rfl ?_
    exact wr_i (pc := 57) C R dX10_fair_57 rfl h
set_option maxRecDepth 20000 in
set_option maxHeartbeats 4000000 in
theorem pX10_fewest_J48 {Y : xY} {Z : xZ} {B : xB} {z : Int32 × xM} (C : xC (GM Y) Z B "BetweenStopsModel" cX10_fewest 4 8) (R : xRi (GM Y) B .int z) {k67 : Int32 → xM → Option (Int32 × xM)} {b : Int32 → Int32 → xM → Option (Int32 × xM)} {a1 : Int32} {a2 : Int32} {a3 : Int32}
    (hk67 : ∀ (a2 : Int32) (s : xM), k67 a2 s = some z → xWS (GM Y) B 4 s [(0, .ref (Y.1 0)), (2, .int a2)] 67 [])
    (hb : ∀ (a2 : Int32) (a3 : Int32) (s : xM), b a2 a3 s = some z → xWS (GM Y) B 4 s [(0, .ref (Y.1 0)), (1, .int a1), (2, .int a2), (3, .int a3)] 22 []) {s : xM} (h : fX10_fewest_J48 k67 b a1 a2 a3 s = some z) : xWS (GM Y) B 4 s [(0, .ref (Y.1 0)), (1, .int a1), (2, .int a2), (3, .int a3)] 48 [] := by
  unfold fX10_fewest_J48 at h
  refine ws_aload_n (pc := 48) C dX10_fewest_48 rfl 0 rfl ?_
  refine ws_iload_n (pc := 49) C dX10_fewest_49 rfl 3 rfl ?_
  obtain ⟨r1, s2, q3, h⟩ := bd_ok h
  refine wc_lV (pc := 50)  C [.int a3] [] (mX10_totalWith q3) dX10_fewest_50 mw_X10_totalWith mv_X10_totalWith kl_X10_325 so_M rfl rfl (Nat.le_of_ble_eq_true rfl) ⟨by decide, by decide⟩ ?_
  refine ws_iload_n (pc := 53) C dX10_fewest_53 rfl 1 rfl ?_
  refine ws_i2l (pc := 54) C dX10_fewest_54 ?_
  refine ws_lcmp (pc := 55) C dX10_fewest_55 ?_
  refine ws_if_gt (pc := 56) (tgt := 61) C dX10_fewest_56 (by decide) (fun c4 => ?_) (fun c4 => ?_)
  · have h := ite_t h c4
    refine ws_iinc (j := 3) (pc := 61) C dX10_fewest_61 rfl (cn_1 _) (by decide) rfl ?_
    refine ws_goto (pc := 64) (tgt := 22) C dX10_fewest_64 (by decide) ?_
    refine ws_less [1, 2, 3, 0] rfl ?_
    exact hb _ _ _ h
  · have h := ite_f h c4
    refine ws_iload_n (pc := 59) C dX10_fewest_59 rfl 3 rfl ?_
    refine ws_istore_n (pc := 60) C dX10_fewest_60 rfl (by decide) rfl ?_
    refine ws_iinc (j := 3) (pc := 61) C dX10_fewest_61 rfl (cn_1 _) (by decide) rfl ?_
    refine ws_goto (pc := 64) (tgt := 22) C dX10_fewest_64 (by decide) ?_
    refine ws_less [2, 3, 1, 0] rfl ?_
    exact hb _ _ _ h
set_option maxRecDepth 20000 in
set_option maxHeartbeats 4000000 in
theorem pX10_fewest_L22 {Y : xY} {Z : xZ} {B : xB} {z : Int32 × xM} (C : xC (GM Y) Z B "BetweenStopsModel" cX10_fewest 4 8) (R : xRi (GM Y) B .int z) {k67 : Int32 → xM → Option (Int32 × xM)} {a1 : Int32}
    (hk67 : ∀ (a2 : Int32) (s : xM), k67 a2 s = some z → xWS (GM Y) B 4 s [(0, .ref (Y.1 0)), (2, .int a2)] 67 []) : ∀ (n : Nat) (a2 : Int32) (a3 : Int32) (s : xM), fX10_fewest_L22 k67 a1 n a2 a3 s = some z → xWS (GM Y) B 4 s [(0, .ref (Y.1 0)), (1, .int a1), (2, .int a2), (3, .int a3)] 22 [] := by
  intro n
  induction n with
  | zero =>
    intro a2 a3 s h
    rw [fX10_fewest_L22] at h
    cases h
  | succ n ih =>
    intro a2 a3 s h
    rw [fX10_fewest_L22] at h
    refine ws_iload_n (pc := 22) C dX10_fewest_22 rfl 3 rfl ?_
    refine ws_iconst (pc := 23) C dX10_fewest_23 ci_1 ?_
    refine ws_aload_n (pc := 24) C dX10_fewest_24 rfl 0 rfl ?_
    refine ws_geti (pc := 25) C dX10_fewest_25 fd_X10_166 sf_M_4 ?_
    refine ws_ishl (pc := 28) C dX10_fewest_28 ?_
    refine ws_icmp_ge (pc := 29) (tgt := 67) C dX10_fewest_29 (by decide) (fun c1 => ?_) (fun c1 => ?_)
    · have h := ite_t h c1
      refine ws_less [0, 2] rfl ?_
      exact hk67 _ _ h
    · have h := ite_f h c1
      refine ws_iload_n (pc := 32) C dX10_fewest_32 rfl 2 rfl ?_
      refine ws_iconst (pc := 33) C dX10_fewest_33 ci_m1 ?_
      refine ws_icmp_eq (pc := 34) (tgt := 48) C dX10_fewest_34 (by decide) (fun c2 => ?_) (fun c2 => ?_)
      · have h := ite_t h c2
        refine ws_less [0, 1, 2, 3] rfl ?_
        exact pX10_fewest_J48 C R hk67 (fun a2 a3 s h => ih a2 a3 s h) h
      · have h := ite_f h c2
        refine ws_iload_n (pc := 37) C dX10_fewest_37 rfl 3 rfl ?_
        obtain ⟨r3, s4, q5, h⟩ := bd_ok h
        refine wc_iS (pc := 38)  C [.int a3] [] (mX10_ones q5) dX10_fewest_38 mw_X10_ones ks_X10_ones kl_X10_336 rfl rfl (Nat.le_of_ble_eq_true rfl) ⟨by decide, by decide⟩ ?_
        refine ws_iload_n (pc := 41) C dX10_fewest_41 rfl 2 rfl ?_
        obtain ⟨r6, s7, q8, h⟩ := bd_ok h
        refine wc_iS (pc := 42)  C [.int a2] [.int r3] (mX10_ones q8) dX10_fewest_42 mw_X10_ones ks_X10_ones kl_X10_336 rfl rfl (Nat.le_of_ble_eq_true rfl) ⟨by decide, by decide⟩ ?_
        refine ws_icmp_ge (pc := 45) (tgt := 61) C dX10_fewest_45 (by decide) (fun c9 => ?_) (fun c9 => ?_)
        · have h := ite_t h c9
          refine ws_iinc (j := 3) (pc := 61) C dX10_fewest_61 rfl (cn_1 _) (by decide) rfl ?_
          refine ws_goto (pc := 64) (tgt := 22) C dX10_fewest_64 (by decide) ?_
          refine ws_less [1, 2, 3, 0] rfl ?_
          exact ih _ _ _ h
        · have h := ite_f h c9
          refine ws_less [0, 1, 2, 3] rfl ?_
          exact pX10_fewest_J48 C R hk67 (fun a2 a3 s h => ih a2 a3 s h) h
set_option maxRecDepth 20000 in
set_option maxHeartbeats 4000000 in
theorem mX10_fewest {Y : xY} {Z : xZ} {a1 : Int32} {s : xM} {z : Int32 × xM} (h : fX10_fewest a1 s = some z) : xMi (GM Y) Z yX10_fewest cX10_fewest 4 8 .int [.ref (Y.1 0), .int a1] s z := by
  refine xMi_of (by decide) (Nat.le_of_ble_eq_true rfl) (fun B C R => ?_)
  have C : xC (GM Y) Z B "BetweenStopsModel" cX10_fewest 4 8 := C
  show xWS (GM Y) B 4 s [(0, .ref (Y.1 0)), (1, .int a1)] 0 []
  unfold fX10_fewest at h
  refine ws_iload_n (pc := 0) C dX10_fewest_0 rfl 1 rfl ?_
  refine ws_iconst (pc := 1) C dX10_fewest_1 ci_0 ?_
  refine ws_ldcw (pc := 2) C dX10_fewest_2 kk_X10_347 ?_
  obtain ⟨r1, s2, q3, h⟩ := bd_ok h
  refine wc_iS (pc := 5)  C [.int a1, .int (0 : Int32), .int (999999999 : Int32)] [] (mX10_in q3) dX10_fewest_5 mw_X10_in ks_X10_in kl_X10_162 rfl rfl (Nat.le_of_ble_eq_true rfl) ⟨by decide, by decide⟩ ?_
  refine ws_if_ne (pc := 8) (tgt := 14) C dX10_fewest_8 (by decide) (fun c4 => ?_) (fun c4 => ?_)
  · have h := ite_f h c4
    refine ws_aload_n (pc := 14) C dX10_fewest_14 rfl 0 rfl ?_
    obtain ⟨r5, s6, q7, h⟩ := bd_ok h
    refine wc_vV (pc := 15)  C [] [] (mX10_keeps q7) dX10_fewest_15 mw_X10_keeps mv_X10_keeps kl_X10_322 so_M rfl rfl (Nat.le_of_ble_eq_true rfl) ⟨by decide, by decide⟩ ?_
    refine ws_iconst (pc := 18) C dX10_fewest_18 ci_m1 ?_
    refine ws_istore_n (pc := 19) C dX10_fewest_19 rfl (by decide) rfl ?_
    refine ws_iconst (pc := 20) C dX10_fewest_20 ci_0 ?_
    refine ws_istore_n (pc := 21) C dX10_fewest_21 rfl (by decide) rfl ?_
    refine ws_less [2, 3, 1, 0] rfl ?_
    refine pX10_fewest_L22 C R (fun x8 s9 h => ?_) fu _ _ _ h
    · refine ws_aload_n (pc := 67) C dX10_fewest_67 rfl 0 rfl ?_
      obtain ⟨r10, s11, q12, h⟩ := bd_ok h
      refine wc_vV (pc := 68)  C [] [] (mX10_lays q12) dX10_fewest_68 mw_X10_lays mv_X10_lays kl_X10_339 so_M rfl rfl (Nat.le_of_ble_eq_true rfl) ⟨by decide, by decide⟩ ?_
      refine ws_iload_n (pc := 71) C dX10_fewest_71 rfl 1 rfl ?_
      exact wr_i (pc := 72) C R dX10_fewest_72 rfl h
  · have h := ite_t h c4
    refine ws_bipush (pc := 11) C dX10_fewest_11 cb_m2 ?_
    exact wr_i (pc := 13) C R dX10_fewest_13 rfl h
set_option maxRecDepth 20000 in
set_option maxHeartbeats 4000000 in
theorem pX10_judge_L49 {Y : xY} {Z : xZ} {B : xB} {z : Int32 × xM} (C : xC (GM Y) Z B "BetweenStopsModel" cX10_judge 6 8) (R : xRi (GM Y) B .int z) {k112 : Int32 → Int32 → xM → Option (Int32 × xM)} {a1 : Int32}
    (hk112 : ∀ (a2 : Int32) (a3 : Int32) (s : xM), k112 a2 a3 s = some z → xWS (GM Y) B 6 s [(0, .ref (Y.1 0)), (2, .int a2), (3, .int a3)] 112 []) : ∀ (n : Nat) (a2 : Int32) (a3 : Int32) (a4 : Int32) (s : xM), fX10_judge_L49 k112 a1 n a2 a3 a4 s = some z → xWS (GM Y) B 6 s [(0, .ref (Y.1 0)), (1, .int a1), (2, .int a2), (3, .int a3), (4, .int a4)] 49 [] := by
  intro n
  induction n with
  | zero =>
    intro a2 a3 a4 s h
    rw [fX10_judge_L49] at h
    cases h
  | succ n ih =>
    intro a2 a3 a4 s h
    rw [fX10_judge_L49] at h
    refine ws_iload (pc := 49) C dX10_judge_49 4 rfl ?_
    refine ws_aload_n (pc := 51) C dX10_judge_51 rfl 0 rfl ?_
    refine ws_geti (pc := 52) C dX10_judge_52 fd_X10_166 sf_M_4 ?_
    refine ws_icmp_ge (pc := 55) (tgt := 112) C dX10_judge_55 (by decide) (fun c1 => ?_) (fun c1 => ?_)
    · have h := ite_t h c1
      refine ws_less [0, 2, 3] rfl ?_
      exact hk112 _ _ _ h
    · have h := ite_f h c1
      refine ws_iload_n (pc := 58) C dX10_judge_58 rfl 2 rfl ?_
      refine ws_if_eq (pc := 59) (tgt := 112) C dX10_judge_59 (by decide) (fun c2 => ?_) (fun c2 => ?_)
      · have h := ite_t h c2
        refine ws_less [0, 2, 3] rfl ?_
        exact hk112 _ _ _ h
      · have h := ite_f h c2
        refine ws_aload_n (pc := 62) C dX10_judge_62 rfl 0 rfl ?_
        refine ws_getr (pc := 63) C dX10_judge_63 fd_X10_89 sf_M_36 ?_
        refine ws_bipush (pc := 66) C dX10_judge_66 cb_41 ?_
        refine ws_iload_n (pc := 68) C dX10_judge_68 rfl 1 rfl ?_
        refine ws_imul (pc := 69) C dX10_judge_69 ?_
        refine ws_iload (pc := 70) C dX10_judge_70 4 rfl ?_
        refine ws_iadd (pc := 72) C dX10_judge_72 ?_
        obtain ⟨g3, h⟩ := gd_ok h
        refine ws_ialdK (pc := 73) C dX10_judge_73 sr_m_cells g3 rfl ?_
        refine ws_iconst (pc := 74) C dX10_judge_74 ci_0 ?_
        refine ws_iconst (pc := 75) C dX10_judge_75 ci_1 ?_
        obtain ⟨r4, s5, q6, h⟩ := bd_ok h
        refine wc_iS (pc := 76)  C [.int (gi s 24 (((41 : Int32) * a1) + a4).toNatClampNeg), .int (0 : Int32), .int (1 : Int32)] [] (mX10_in q6) dX10_judge_76 mw_X10_in ks_X10_in kl_X10_162 rfl rfl (Nat.le_of_ble_eq_true rfl) ⟨by decide, by decide⟩ ?_
        refine ws_istore_n (pc := 79) C dX10_judge_79 rfl (by decide) rfl ?_
        refine ws_iload_n (pc := 80) C dX10_judge_80 rfl 3 rfl ?_
        refine ws_iload_n (pc := 81) C dX10_judge_81 rfl 0 rfl ?_
        refine ws_if_eq (pc := 82) (tgt := 103) C dX10_judge_82 (by decide) (fun c7 => ?_) (fun c7 => ?_)
        · have h := ite_t h c7
          refine ws_iconst (pc := 103) C dX10_judge_103 ci_0 ?_
          refine ws_ior (pc := 104) C dX10_judge_104 ?_
          obtain ⟨v8, e9, h⟩ := lz_ok h
          refine ws_topi C e9 ?_
          refine ws_istore_n (pc := 105) C dX10_judge_105 rfl (by decide) rfl ?_
          refine ws_iinc (j := 4) (pc := 106) C dX10_judge_106 rfl (cn_1 _) (by decide) rfl ?_
          refine ws_goto (pc := 109) (tgt := 49) C dX10_judge_109 (by decide) ?_
          refine ws_less [3, 4, 2, 1, 0] rfl ?_
          exact ih _ _ _ _ h
        · have h := ite_f h c7
          refine ws_aload_n (pc := 85) C dX10_judge_85 rfl 1 rfl ?_
          refine ws_getr (pc := 86) C dX10_judge_86 fd_X10_89 sf_M_36 ?_
          refine ws_bipush (pc := 89) C dX10_judge_89 cb_41 ?_
          refine ws_iload_n (pc := 91) C dX10_judge_91 rfl 2 rfl ?_
          refine ws_imul (pc := 92) C dX10_judge_92 ?_
          refine ws_iload (pc := 93) C dX10_judge_93 4 rfl ?_
          refine ws_iadd (pc := 95) C dX10_judge_95 ?_
          obtain ⟨g10, h⟩ := gd_ok h
          refine ws_ialdK (pc := 96) C dX10_judge_96 sr_m_cells g10 rfl ?_
          refine ws_iload (pc := 97) C dX10_judge_97 4 rfl ?_
          refine ws_ishl (pc := 99) C dX10_judge_99 ?_
          refine ws_goto (pc := 100) (tgt := 104) C dX10_judge_100 (by decide) ?_
          refine ws_ior (pc := 104) C dX10_judge_104 ?_
          obtain ⟨v11, e12, h⟩ := lz_ok h
          refine ws_topi C e12 ?_
          refine ws_istore_n (pc := 105) C dX10_judge_105 rfl (by decide) rfl ?_
          refine ws_iinc (j := 4) (pc := 106) C dX10_judge_106 rfl (cn_1 _) (by decide) rfl ?_
          refine ws_goto (pc := 109) (tgt := 49) C dX10_judge_109 (by decide) ?_
          refine ws_less [3, 4, 2, 1, 0] rfl ?_
          exact ih _ _ _ _ h
set_option maxRecDepth 20000 in
set_option maxHeartbeats 4000000 in
theorem pX10_judge_L140 {Y : xY} {Z : xZ} {B : xB} {z : Int32 × xM} (C : xC (GM Y) Z B "BetweenStopsModel" cX10_judge 6 8) (R : xRi (GM Y) B .int z) {k190 : Int32 → xM → Option (Int32 × xM)}
    (hk190 : ∀ (a4 : Int32) (s : xM), k190 a4 s = some z → xWS (GM Y) B 6 s [(0, .ref (Y.1 0)), (4, .int a4)] 190 []) : ∀ (n : Nat) (a4 : Int32) (a5 : Int32) (s : xM), fX10_judge_L140 k190 n a4 a5 s = some z → xWS (GM Y) B 6 s [(0, .ref (Y.1 0)), (4, .int a4), (5, .int a5)] 140 [] := by
  intro n
  induction n with
  | zero =>
    intro a4 a5 s h
    rw [fX10_judge_L140] at h
    cases h
  | succ n ih =>
    intro a4 a5 s h
    rw [fX10_judge_L140] at h
    refine ws_iload (pc := 140) C dX10_judge_140 2 rfl ?_
    refine ws_if_lt (pc := 142) (tgt := 190) C dX10_judge_142 (by decide) (fun c1 => ?_) (fun c1 => ?_)
    · have h := ite_t h c1
      refine ws_less [0, 1] rfl ?_
      exact hk190 _ _ h
    · have h := ite_f h c1
      refine ws_aload_n (pc := 145) C dX10_judge_145 rfl 0 rfl ?_
      refine ws_iload (pc := 146) C dX10_judge_146 2 rfl ?_
      obtain ⟨r2, s3, q4, h⟩ := bd_ok h
      refine wc_vV (pc := 148)  C [.int a5] [] (mX10_finds q4) dX10_judge_148 mw_X10_finds mv_X10_finds kl_X10_242 so_M rfl rfl (Nat.le_of_ble_eq_true rfl) ⟨by decide, by decide⟩ ?_
      refine ws_aload_n (pc := 151) C dX10_judge_151 rfl 0 rfl ?_
      refine ws_geti (pc := 152) C dX10_judge_152 fd_X10_226 sf_M_40 ?_
      refine ws_aload_n (pc := 155) C dX10_judge_155 rfl 0 rfl ?_
      refine ws_getr (pc := 156) C dX10_judge_156 fd_X10_13 sf_M_1 ?_
      refine ws_bipush (pc := 159) C dX10_judge_159 cb_6 ?_
      refine ws_aload_n (pc := 161) C dX10_judge_161 rfl 0 rfl ?_
      refine ws_getr (pc := 162) C dX10_judge_162 fd_X10_53 sf_M_16 ?_
      refine ws_iload (pc := 165) C dX10_judge_165 2 rfl ?_
      obtain ⟨g5, h⟩ := gd_ok h
      refine ws_ialdK (pc := 167) C dX10_judge_167 sr_m_tripSort g5 rfl ?_
      refine ws_imul (pc := 168) C dX10_judge_168 ?_
      refine ws_iconst (pc := 169) C dX10_judge_169 ci_5 ?_
      refine ws_iadd (pc := 170) C dX10_judge_170 ?_
      obtain ⟨g6, h⟩ := gd_ok h
      refine ws_ialdK (pc := 171) C dX10_judge_171 sr_m_sorts g6 rfl ?_
      refine ws_icmp_le (pc := 172) (tgt := 180) C dX10_judge_172 (by decide) (fun c7 => ?_) (fun c7 => ?_)
      · have h := ite_t h c7
        refine ws_iload (pc := 180) C dX10_judge_180 1 rfl ?_
        refine ws_istore (pc := 182) C dX10_judge_182 (by decide) rfl ?_
        refine ws_iinc (j := 2) (pc := 184) C dX10_judge_184 rfl (cn_m1 _) (by decide) rfl ?_
        refine ws_goto (pc := 187) (tgt := 140) C dX10_judge_187 (by decide) ?_
        refine ws_less [2, 1, 0] rfl ?_
        exact ih _ _ _ h
      · have h := ite_f h c7
        refine ws_iload (pc := 175) C dX10_judge_175 2 rfl ?_
        refine ws_goto (pc := 177) (tgt := 182) C dX10_judge_177 (by decide) ?_
        refine ws_istore (pc := 182) C dX10_judge_182 (by decide) rfl ?_
        refine ws_iinc (j := 2) (pc := 184) C dX10_judge_184 rfl (cn_m1 _) (by decide) rfl ?_
        refine ws_goto (pc := 187) (tgt := 140) C dX10_judge_187 (by decide) ?_
        refine ws_less [2, 1, 0] rfl ?_
        exact ih _ _ _ h
set_option maxRecDepth 20000 in
set_option maxHeartbeats 4000000 in
theorem pX10_judge_J43 {Y : xY} {Z : xZ} {B : xB} {z : Int32 × xM} (C : xC (GM Y) Z B "BetweenStopsModel" cX10_judge 6 8) (R : xRi (GM Y) B .int z) {a1 : Int32} {t0 : Int32} {s : xM} (h : fX10_judge_J43 a1 t0 s = some z) : xWS (GM Y) B 6 s [(0, .ref (Y.1 0)), (1, .int a1)] 43 [.int t0] := by
  unfold fX10_judge_J43 at h
  refine ws_istore_n (pc := 43) C dX10_judge_43 rfl (by decide) rfl ?_
  refine ws_iconst (pc := 44) C dX10_judge_44 ci_0 ?_
  refine ws_istore_n (pc := 45) C dX10_judge_45 rfl (by decide) rfl ?_
  refine ws_iconst (pc := 46) C dX10_judge_46 ci_0 ?_
  refine ws_istore (pc := 47) C dX10_judge_47 (by decide) rfl ?_
  refine ws_less [3, 4, 2, 1, 0] rfl ?_
  refine pX10_judge_L49 C R (fun x1 x2 s3 h => ?_) fu _ _ _ _ h
  · refine ws_iload_n (pc := 112) C dX10_judge_112 rfl 1 rfl ?_
    refine ws_if_ne (pc := 113) (tgt := 119) C dX10_judge_113 (by decide) (fun c4 => ?_) (fun c4 => ?_)
    · have h := ite_f h c4
      refine ws_aload_n (pc := 119) C dX10_judge_119 rfl 0 rfl ?_
      obtain ⟨r5, s6, q7, h⟩ := bd_ok h
      refine wc_vV (pc := 120)  C [] [] (mX10_keeps q7) dX10_judge_120 mw_X10_keeps mv_X10_keeps kl_X10_322 so_M rfl rfl (Nat.le_of_ble_eq_true rfl) ⟨by decide, by decide⟩ ?_
      refine ws_aload_n (pc := 123) C dX10_judge_123 rfl 0 rfl ?_
      refine ws_iload_n (pc := 124) C dX10_judge_124 rfl 2 rfl ?_
      obtain ⟨r8, s9, q10, h⟩ := bd_ok h
      refine wc_lV (pc := 125)  C [.int x2] [] (mX10_totalWith q10) dX10_judge_125 mw_X10_totalWith mv_X10_totalWith kl_X10_325 so_M rfl rfl (Nat.le_of_ble_eq_true rfl) ⟨by decide, by decide⟩ ?_
      refine ws_pop2 (pc := 128) C dX10_judge_128 rfl ?_
      refine ws_iconst (pc := 129) C dX10_judge_129 ci_m1 ?_
      refine ws_istore (pc := 130) C dX10_judge_130 (by decide) rfl ?_
      refine ws_aload_n (pc := 132) C dX10_judge_132 rfl 1 rfl ?_
      refine ws_geti (pc := 133) C dX10_judge_133 fd_X10_169 sf_M_12 ?_
      refine ws_iconst (pc := 136) C dX10_judge_136 ci_1 ?_
      refine ws_isub (pc := 137) C dX10_judge_137 ?_
      obtain ⟨v11, e12, h⟩ := lz_ok h
      refine ws_topi C e12 ?_
      refine ws_istore (pc := 138) C dX10_judge_138 (by decide) rfl ?_
      refine ws_less [2, 1, 0] rfl ?_
      refine pX10_judge_L140 C R (fun x13 s14 h => ?_) fu _ _ _ h
      · refine ws_aload_n (pc := 190) C dX10_judge_190 rfl 0 rfl ?_
        obtain ⟨r15, s16, q17, h⟩ := bd_ok h
        refine wc_vV (pc := 191)  C [] [] (mX10_lays q17) dX10_judge_191 mw_X10_lays mv_X10_lays kl_X10_339 so_M rfl rfl (Nat.le_of_ble_eq_true rfl) ⟨by decide, by decide⟩ ?_
        refine ws_iload (pc := 194) C dX10_judge_194 1 rfl ?_
        exact wr_i (pc := 196) C R dX10_judge_196 rfl h
    · have h := ite_t h c4
      refine ws_bipush (pc := 116) C dX10_judge_116 cb_m2 ?_
      exact wr_i (pc := 118) C R dX10_judge_118 rfl h
set_option maxRecDepth 20000 in
set_option maxHeartbeats 4000000 in
theorem mX10_judge {Y : xY} {Z : xZ} {a1 : Int32} {s : xM} {z : Int32 × xM} (h : fX10_judge a1 s = some z) : xMi (GM Y) Z yX10_judge cX10_judge 6 8 .int [.ref (Y.1 0), .int a1] s z := by
  refine xMi_of (by decide) (Nat.le_of_ble_eq_true rfl) (fun B C R => ?_)
  have C : xC (GM Y) Z B "BetweenStopsModel" cX10_judge 6 8 := C
  show xWS (GM Y) B 6 s [(0, .ref (Y.1 0)), (1, .int a1)] 0 []
  unfold fX10_judge at h
  refine ws_iload_n (pc := 0) C dX10_judge_0 rfl 1 rfl ?_
  refine ws_iconst (pc := 1) C dX10_judge_1 ci_0 ?_
  refine ws_iconst (pc := 2) C dX10_judge_2 ci_3 ?_
  obtain ⟨r1, s2, q3, h⟩ := bd_ok h
  refine wc_iS (pc := 3)  C [.int a1, .int (0 : Int32), .int (3 : Int32)] [] (mX10_in q3) dX10_judge_3 mw_X10_in ks_X10_in kl_X10_162 rfl rfl (Nat.le_of_ble_eq_true rfl) ⟨by decide, by decide⟩ ?_
  refine ws_if_ne (pc := 6) (tgt := 12) C dX10_judge_6 (by decide) (fun c4 => ?_) (fun c4 => ?_)
  · have h := ite_f h c4
    refine ws_aload_n (pc := 12) C dX10_judge_12 rfl 0 rfl ?_
    refine ws_getr (pc := 13) C dX10_judge_13 fd_X10_83 sf_M_34 ?_
    refine ws_iload_n (pc := 16) C dX10_judge_16 rfl 1 rfl ?_
    obtain ⟨g5, h⟩ := gd_ok h
    refine ws_ialdK (pc := 17) C dX10_judge_17 sr_m_sheetSort g5 rfl ?_
    refine ws_iconst (pc := 18) C dX10_judge_18 ci_m1 ?_
    refine ws_icmp_ne (pc := 19) (tgt := 25) C dX10_judge_19 (by decide) (fun c6 => ?_) (fun c6 => ?_)
    · have h := ite_f h c6
      refine ws_aload_n (pc := 25) C dX10_judge_25 rfl 0 rfl ?_
      refine ws_getr (pc := 26) C dX10_judge_26 fd_X10_86 sf_M_35 ?_
      refine ws_iload_n (pc := 29) C dX10_judge_29 rfl 1 rfl ?_
      obtain ⟨g7, h⟩ := gd_ok h
      refine ws_ialdK (pc := 30) C dX10_judge_30 sr_m_sheetSize g7 rfl ?_
      refine ws_aload_n (pc := 31) C dX10_judge_31 rfl 0 rfl ?_
      refine ws_geti (pc := 32) C dX10_judge_32 fd_X10_166 sf_M_4 ?_
      refine ws_icmp_ne (pc := 35) (tgt := 42) C dX10_judge_35 (by decide) (fun c8 => ?_) (fun c8 => ?_)
      · have h := ite_f h c8
        refine ws_iconst (pc := 42) C dX10_judge_42 ci_0 ?_
        refine ws_less [0, 1] rfl ?_
        exact pX10_judge_J43 C R h
      · have h := ite_t h c8
        refine ws_iconst (pc := 38) C dX10_judge_38 ci_1 ?_
        refine ws_goto (pc := 39) (tgt := 43) C dX10_judge_39 (by decide) ?_
        refine ws_less [0, 1] rfl ?_
        exact pX10_judge_J43 C R h
    · have h := ite_t h c6
      refine ws_bipush (pc := 22) C dX10_judge_22 cb_m11 ?_
      exact wr_i (pc := 24) C R dX10_judge_24 rfl h
  · have h := ite_t h c4
    refine ws_bipush (pc := 9) C dX10_judge_9 cb_m2 ?_
    exact wr_i (pc := 11) C R dX10_judge_11 rfl h
