set_option maxRecDepth 20000 in
set_option maxHeartbeats 4000000 in
theorem mX10_bunch {Y : xY} {Z : xZ} {a1 : Int32} {a2 : Int32} {s : xM} {z : Int32 × xM} (h : fX10_bunch a1 a2 s = some z) : xMi (GM Y) Z yX10_bunch cX10_bunch 3 8 .int [.ref (Y.1 0), .int a1, .int a2] s z := by
  refine xMi_of (by decide) (Nat.le_of_ble_eq_true rfl) (fun B C R => ?_)
  have C : xC (GM Y) Z B "BetweenStopsModel" cX10_bunch 3 8 := C
  show xWS (GM Y) B 3 s [(0, .ref (Y.1 0)), (1, .int a1), (2, .int a2)] 0 []
  unfold fX10_bunch at h
  refine ws_iload_n (pc := 0) C dX10_bunch_0 rfl 1 rfl ?_
  refine ws_iconst (pc := 1) C dX10_bunch_1 ci_0 ?_
  refine ws_bipush (pc := 2) C dX10_bunch_2 cb_11 ?_
  obtain ⟨r1, s2, q3, h⟩ := bd_ok h
  refine wc_iS (pc := 4)  C [.int a1, .int (0 : Int32), .int (11 : Int32)] [] (mX10_in q3) dX10_bunch_4 mw_X10_in ks_X10_in kl_X10_162 rfl rfl (Nat.le_of_ble_eq_true rfl) ⟨by decide, by decide⟩ ?_
  refine ws_if_eq (pc := 7) (tgt := 21) C dX10_bunch_7 (by decide) (fun c4 => ?_) (fun c4 => ?_)
  · have h := ite_t h c4
    refine ws_bipush (pc := 21) C dX10_bunch_21 cb_m2 ?_
    exact wr_i (pc := 23) C R dX10_bunch_23 rfl h
  · have h := ite_f h c4
    refine ws_iload_n (pc := 10) C dX10_bunch_10 rfl 2 rfl ?_
    refine ws_iconst (pc := 11) C dX10_bunch_11 ci_0 ?_
    refine ws_sipush (pc := 12) C dX10_bunch_12 cs_3600 ?_
    obtain ⟨r5, s6, q7, h⟩ := bd_ok h
    refine wc_iS (pc := 15)  C [.int a2, .int (0 : Int32), .int (3600 : Int32)] [] (mX10_in q7) dX10_bunch_15 mw_X10_in ks_X10_in kl_X10_162 rfl rfl (Nat.le_of_ble_eq_true rfl) ⟨by decide, by decide⟩ ?_
    refine ws_if_ne (pc := 18) (tgt := 24) C dX10_bunch_18 (by decide) (fun c8 => ?_) (fun c8 => ?_)
    · have h := ite_f h c8
      refine ws_aload_n (pc := 24) C dX10_bunch_24 rfl 0 rfl ?_
      refine ws_iload_n (pc := 25) C dX10_bunch_25 rfl 1 rfl ?_
      refine ws_iconst (pc := 26) C dX10_bunch_26 ci_1 ?_
      refine ws_iadd (pc := 27) C dX10_bunch_27 ?_
      refine ws_iload_n (pc := 28) C dX10_bunch_28 rfl 2 rfl ?_
      obtain ⟨r9, s10, q11, h⟩ := bd_ok h
      refine wc_vV (pc := 29)  C [.int (a1 + (1 : Int32)), .int a2] [] (mX10_goesAll q11) dX10_bunch_29 mw_X10_goesAll mv_X10_goesAll kl_X10_383 so_M rfl rfl (Nat.le_of_ble_eq_true rfl) ⟨by decide, by decide⟩ ?_
      refine ws_aload_n (pc := 32) C dX10_bunch_32 rfl 0 rfl ?_
      refine ws_getr (pc := 33) C dX10_bunch_33 fd_X10_153 sf_M_67 ?_
      refine ws_iload_n (pc := 36) C dX10_bunch_36 rfl 1 rfl ?_
      obtain ⟨g12, h⟩ := gd_ok h
      refine ws_laldK (pc := 37) C dX10_bunch_37 sr_m_ends g12 rfl ?_
      refine ws_l2i (pc := 38) C dX10_bunch_38 ?_
      exact wr_i (pc := 39) C R dX10_bunch_39 rfl h
    · have h := ite_t h c8
      refine ws_bipush (pc := 21) C dX10_bunch_21 cb_m2 ?_
      exact wr_i (pc := 23) C R dX10_bunch_23 rfl h
set_option maxRecDepth 20000 in
set_option maxHeartbeats 4000000 in
theorem pX10_crowd_L47 {Y : xY} {Z : xZ} {B : xB} {z : Int32 × xM} (C : xC (GM Y) Z B "BetweenStopsModel" cX10_crowd 6 8) (R : xRi (GM Y) B .int z) {k103 : Int64 → xM → Option (Int32 × xM)} {a1 : Int32}
    (hk103 : ∀ (a3 : Int64) (s : xM), k103 a3 s = some z → xWS (GM Y) B 6 s [(3, .long a3)] 103 []) : ∀ (n : Nat) (a3 : Int64) (a5 : Int32) (s : xM), fX10_crowd_L47 k103 a1 n a3 a5 s = some z → xWS (GM Y) B 6 s [(0, .ref (Y.1 0)), (1, .int a1), (3, .long a3), (5, .int a5)] 47 [] := by
  intro n
  induction n with
  | zero =>
    intro a3 a5 s h
    rw [fX10_crowd_L47] at h
    cases h
  | succ n ih =>
    intro a3 a5 s h
    rw [fX10_crowd_L47] at h
    refine ws_iload (pc := 47) C dX10_crowd_47 3 rfl ?_
    refine ws_iload_n (pc := 49) C dX10_crowd_49 rfl 1 rfl ?_
    refine ws_icmp_ge (pc := 50) (tgt := 103) C dX10_crowd_50 (by decide) (fun c1 => ?_) (fun c1 => ?_)
    · have h := ite_t h c1
      refine ws_less [2] rfl ?_
      exact hk103 _ _ h
    · have h := ite_f h c1
      refine ws_aload_n (pc := 53) C dX10_crowd_53 rfl 0 rfl ?_
      refine ws_getr (pc := 54) C dX10_crowd_54 fd_X10_153 sf_M_67 ?_
      refine ws_iload (pc := 57) C dX10_crowd_57 3 rfl ?_
      obtain ⟨g2, h⟩ := gd_ok h
      refine ws_laldK (pc := 59) C dX10_crowd_59 sr_m_ends g2 rfl ?_
      refine ws_aload_n (pc := 60) C dX10_crowd_60 rfl 0 rfl ?_
      refine ws_getr (pc := 61) C dX10_crowd_61 fd_X10_153 sf_M_67 ?_
      refine ws_iload (pc := 64) C dX10_crowd_64 3 rfl ?_
      refine ws_iconst (pc := 66) C dX10_crowd_66 ci_1 ?_
      refine ws_isub (pc := 67) C dX10_crowd_67 ?_
      obtain ⟨g3, h⟩ := gd_ok h
      refine ws_laldK (pc := 68) C dX10_crowd_68 sr_m_ends g3 rfl ?_
      refine ws_lsub (pc := 69) C dX10_crowd_69 ?_
      refine ws_lload_n (pc := 70) C dX10_crowd_70 rfl 2 rfl ?_
      refine ws_lcmp (pc := 71) C dX10_crowd_71 ?_
      refine ws_if_ge (pc := 72) (tgt := 95) C dX10_crowd_72 (by decide) (fun c4 => ?_) (fun c4 => ?_)
      · have h := ite_t h c4
        refine ws_lload_n (pc := 95) C dX10_crowd_95 rfl 2 rfl ?_
        refine ws_lstore_n (pc := 96) C dX10_crowd_96 rfl (by decide) rfl ?_
        refine ws_iinc (j := 3) (pc := 97) C dX10_crowd_97 rfl (cn_1 _) (by decide) rfl ?_
        refine ws_goto (pc := 100) (tgt := 47) C dX10_crowd_100 (by decide) ?_
        refine ws_less [2, 3, 1, 0] rfl ?_
        exact ih _ _ _ h
      · have h := ite_f h c4
        refine ws_aload_n (pc := 75) C dX10_crowd_75 rfl 0 rfl ?_
        refine ws_getr (pc := 76) C dX10_crowd_76 fd_X10_153 sf_M_67 ?_
        refine ws_iload (pc := 79) C dX10_crowd_79 3 rfl ?_
        obtain ⟨g5, h⟩ := gd_ok h
        refine ws_laldK (pc := 81) C dX10_crowd_81 sr_m_ends g5 rfl ?_
        refine ws_aload_n (pc := 82) C dX10_crowd_82 rfl 0 rfl ?_
        refine ws_getr (pc := 83) C dX10_crowd_83 fd_X10_153 sf_M_67 ?_
        refine ws_iload (pc := 86) C dX10_crowd_86 3 rfl ?_
        refine ws_iconst (pc := 88) C dX10_crowd_88 ci_1 ?_
        refine ws_isub (pc := 89) C dX10_crowd_89 ?_
        obtain ⟨g6, h⟩ := gd_ok h
        refine ws_laldK (pc := 90) C dX10_crowd_90 sr_m_ends g6 rfl ?_
        refine ws_lsub (pc := 91) C dX10_crowd_91 ?_
        refine ws_goto (pc := 92) (tgt := 96) C dX10_crowd_92 (by decide) ?_
        obtain ⟨v7, e8, h⟩ := lz_ok h
        refine ws_topl C e8 ?_
        refine ws_lstore_n (pc := 96) C dX10_crowd_96 rfl (by decide) rfl ?_
        refine ws_iinc (j := 3) (pc := 97) C dX10_crowd_97 rfl (cn_1 _) (by decide) rfl ?_
        refine ws_goto (pc := 100) (tgt := 47) C dX10_crowd_100 (by decide) ?_
        refine ws_less [2, 3, 1, 0] rfl ?_
        exact ih _ _ _ h
set_option maxRecDepth 20000 in
set_option maxHeartbeats 4000000 in
theorem mX10_crowd {Y : xY} {Z : xZ} {a1 : Int32} {a2 : Int32} {s : xM} {z : Int32 × xM} (h : fX10_crowd a1 a2 s = some z) : xMi (GM Y) Z yX10_crowd cX10_crowd 6 8 .int [.ref (Y.1 0), .int a1, .int a2] s z := by
  refine xMi_of (by decide) (Nat.le_of_ble_eq_true rfl) (fun B C R => ?_)
  have C : xC (GM Y) Z B "BetweenStopsModel" cX10_crowd 6 8 := C
  show xWS (GM Y) B 6 s [(0, .ref (Y.1 0)), (1, .int a1), (2, .int a2)] 0 []
  unfold fX10_crowd at h
  refine ws_iload_n (pc := 0) C dX10_crowd_0 rfl 1 rfl ?_
  refine ws_iconst (pc := 1) C dX10_crowd_1 ci_2 ?_
  refine ws_bipush (pc := 2) C dX10_crowd_2 cb_12 ?_
  obtain ⟨r1, s2, q3, h⟩ := bd_ok h
  refine wc_iS (pc := 4)  C [.int a1, .int (2 : Int32), .int (12 : Int32)] [] (mX10_in q3) dX10_crowd_4 mw_X10_in ks_X10_in kl_X10_162 rfl rfl (Nat.le_of_ble_eq_true rfl) ⟨by decide, by decide⟩ ?_
  refine ws_if_eq (pc := 7) (tgt := 21) C dX10_crowd_7 (by decide) (fun c4 => ?_) (fun c4 => ?_)
  · have h := ite_t h c4
    refine ws_bipush (pc := 21) C dX10_crowd_21 cb_m2 ?_
    exact wr_i (pc := 23) C R dX10_crowd_23 rfl h
  · have h := ite_f h c4
    refine ws_iload_n (pc := 10) C dX10_crowd_10 rfl 2 rfl ?_
    refine ws_iconst (pc := 11) C dX10_crowd_11 ci_0 ?_
    refine ws_sipush (pc := 12) C dX10_crowd_12 cs_3600 ?_
    obtain ⟨r5, s6, q7, h⟩ := bd_ok h
    refine wc_iS (pc := 15)  C [.int a2, .int (0 : Int32), .int (3600 : Int32)] [] (mX10_in q7) dX10_crowd_15 mw_X10_in ks_X10_in kl_X10_162 rfl rfl (Nat.le_of_ble_eq_true rfl) ⟨by decide, by decide⟩ ?_
    refine ws_if_ne (pc := 18) (tgt := 24) C dX10_crowd_18 (by decide) (fun c8 => ?_) (fun c8 => ?_)
    · have h := ite_f h c8
      refine ws_aload_n (pc := 24) C dX10_crowd_24 rfl 0 rfl ?_
      refine ws_iload_n (pc := 25) C dX10_crowd_25 rfl 1 rfl ?_
      refine ws_iload_n (pc := 26) C dX10_crowd_26 rfl 2 rfl ?_
      obtain ⟨r9, s10, q11, h⟩ := bd_ok h
      refine wc_vV (pc := 27)  C [.int a1, .int a2] [] (mX10_goesAll q11) dX10_crowd_27 mw_X10_goesAll mv_X10_goesAll kl_X10_383 so_M rfl rfl (Nat.le_of_ble_eq_true rfl) ⟨by decide, by decide⟩ ?_
      refine ws_aload_n (pc := 30) C dX10_crowd_30 rfl 0 rfl ?_
      refine ws_getr (pc := 31) C dX10_crowd_31 fd_X10_153 sf_M_67 ?_
      refine ws_iconst (pc := 34) C dX10_crowd_34 ci_1 ?_
      refine ws_laldK (pc := 35) C dX10_crowd_35 sr_m_ends (by decide) ck_1 ?_
      refine ws_aload_n (pc := 36) C dX10_crowd_36 rfl 0 rfl ?_
      refine ws_getr (pc := 37) C dX10_crowd_37 fd_X10_153 sf_M_67 ?_
      refine ws_iconst (pc := 40) C dX10_crowd_40 ci_0 ?_
      refine ws_laldK (pc := 41) C dX10_crowd_41 sr_m_ends (by decide) ck_0 ?_
      refine ws_lsub (pc := 42) C dX10_crowd_42 ?_
      obtain ⟨v12, e13, h⟩ := lz_ok h
      refine ws_topl C e13 ?_
      refine ws_lstore_n (pc := 43) C dX10_crowd_43 rfl (by decide) rfl ?_
      refine ws_iconst (pc := 44) C dX10_crowd_44 ci_2 ?_
      refine ws_istore (pc := 45) C dX10_crowd_45 (by decide) rfl ?_
      refine ws_less [2, 3, 1, 0] rfl ?_
      refine pX10_crowd_L47 C R (fun x14 s15 h => ?_) fu _ _ _ h
      · refine ws_lload_n (pc := 103) C dX10_crowd_103 rfl 0 rfl ?_
        refine ws_l2i (pc := 104) C dX10_crowd_104 ?_
        exact wr_i (pc := 105) C R dX10_crowd_105 rfl h
    · have h := ite_t h c8
      refine ws_bipush (pc := 21) C dX10_crowd_21 cb_m2 ?_
      exact wr_i (pc := 23) C R dX10_crowd_23 rfl h
set_option maxRecDepth 20000 in
set_option maxHeartbeats 4000000 in
theorem pX10_drawn_L218 {Y : xY} {Z : xZ} {B : xB} {z : Int32 × xM} (C : xC (GM Y) Z B "BetweenStopsModel" cX10_drawn 10 6) (R : xRi (GM Y) B .int z) {k331 : Int32 → xM → Option (Int32 × xM)} {a7 : Int32}
    (hk331 : ∀ (a8 : Int32) (s : xM), k331 a8 s = some z → xWS (GM Y) B 10 s [(8, .int a8)] 331 []) : ∀ (n : Nat) (a5 : Int64) (a8 : Int32) (a9 : Int32) (s : xM), fX10_drawn_L218 k331 a7 n a5 a8 a9 s = some z → xWS (GM Y) B 10 s [(0, .ref (Y.1 0)), (5, .long a5), (7, .int a7), (8, .int a8), (9, .int a9)] 218 [] := by
  intro n
  induction n with
  | zero =>
    intro a5 a8 a9 s h
    rw [fX10_drawn_L218] at h
    cases h
  | succ n ih =>
    intro a5 a8 a9 s h
    rw [fX10_drawn_L218] at h
    refine ws_iload (pc := 218) C dX10_drawn_218 4 rfl ?_
    refine ws_aload_n (pc := 220) C dX10_drawn_220 rfl 0 rfl ?_
    refine ws_geti (pc := 221) C dX10_drawn_221 fd_X10_166 sf_M_4 ?_
    refine ws_icmp_ge (pc := 224) (tgt := 331) C dX10_drawn_224 (by decide) (fun c1 => ?_) (fun c1 => ?_)
    · have h := ite_t h c1
      refine ws_less [3] rfl ?_
      exact hk331 _ _ h
    · have h := ite_f h c1
      refine ws_lload (pc := 227) C dX10_drawn_227 1 rfl ?_
      refine ws_ldc2 (pc := 229) C dX10_drawn_229 kK_X10_387 ?_
      refine ws_lmul (pc := 232) C dX10_drawn_232 ?_
      refine ws_ldc2 (pc := 233) C dX10_drawn_233 kK_X10_389 ?_
      refine ws_lrem (pc := 236) C dX10_drawn_236 (by decide) ?_
      obtain ⟨v2, e3, h⟩ := lz_ok h
      refine ws_topl C e3 ?_
      refine ws_lstore (pc := 237) C dX10_drawn_237 (by decide) rfl ?_
      refine ws_aload_n (pc := 239) C dX10_drawn_239 rfl 1 rfl ?_
      refine ws_aload_n (pc := 240) C dX10_drawn_240 rfl 1 rfl ?_
      refine ws_getr (pc := 241) C dX10_drawn_241 fd_X10_26 sf_M_6 ?_
      refine ws_iload (pc := 244) C dX10_drawn_244 4 rfl ?_
      obtain ⟨g4, h⟩ := gd_ok h
      refine ws_ialdK (pc := 246) C dX10_drawn_246 sr_m_cellOf g4 rfl ?_
      refine ws_aload_n (pc := 247) C dX10_drawn_247 rfl 1 rfl ?_
      refine ws_geti (pc := 248) C dX10_drawn_248 fd_X10_220 sf_M_38 ?_
      refine ws_aload_n (pc := 251) C dX10_drawn_251 rfl 1 rfl ?_
      refine ws_geti (pc := 252) C dX10_drawn_252 fd_X10_223 sf_M_39 ?_
      obtain ⟨r5, s6, q7, h⟩ := bd_ok h
      refine wc_iV (pc := 255)  C [.int (gi s 4 a9.toNatClampNeg), .int (gi s 0 38), .int (gi s 0 39)] [] (mX10_isBetween q7) dX10_drawn_255 mw_X10_isBetween mv_X10_isBetween kl_X10_208 so_M rfl rfl (Nat.le_of_ble_eq_true rfl) ⟨by decide, by decide⟩ ?_
      refine ws_if_eq (pc := 258) (tgt := 325) C dX10_drawn_258 (by decide) (fun c8 => ?_) (fun c8 => ?_)
      · have h := ite_t h c8
        refine ws_iinc (j := 4) (pc := 325) C dX10_drawn_325 rfl (cn_1 _) (by decide) rfl ?_
        refine ws_goto (pc := 328) (tgt := 218) C dX10_drawn_328 (by decide) ?_
        refine ws_less [2, 1, 3, 4, 0] rfl ?_
        exact ih _ _ _ _ h
      · have h := ite_f h c8
        refine ws_aload_n (pc := 261) C dX10_drawn_261 rfl 1 rfl ?_
        refine ws_iload (pc := 262) C dX10_drawn_262 4 rfl ?_
        refine ws_iload (pc := 264) C dX10_drawn_264 2 rfl ?_
        obtain ⟨r9, s10, q11, h⟩ := bd_ok h
        refine wc_iV (pc := 266)  C [.int a9, .int a7] [] (mX10_doesStop q11) dX10_drawn_266 mw_X10_doesStop mv_X10_doesStop kl_X10_211 so_M rfl rfl (Nat.le_of_ble_eq_true rfl) ⟨by decide, by decide⟩ ?_
        refine ws_if_eq (pc := 269) (tgt := 325) C dX10_drawn_269 (by decide) (fun c12 => ?_) (fun c12 => ?_)
        · have h := ite_t h c12
          refine ws_iinc (j := 4) (pc := 325) C dX10_drawn_325 rfl (cn_1 _) (by decide) rfl ?_
          refine ws_goto (pc := 328) (tgt := 218) C dX10_drawn_328 (by decide) ?_
          refine ws_less [2, 1, 3, 4, 0] rfl ?_
          exact ih _ _ _ _ h
        · have h := ite_f h c12
          refine ws_iload (pc := 272) C dX10_drawn_272 3 rfl ?_
          refine ws_aload_n (pc := 274) C dX10_drawn_274 rfl 1 rfl ?_
          refine ws_iload (pc := 275) C dX10_drawn_275 4 rfl ?_
          obtain ⟨r13, s14, q15, h⟩ := bd_ok h
          refine wc_iV (pc := 277)  C [.int a9] [.int a8] (mX10_isAsked q15) dX10_drawn_277 mw_X10_isAsked mv_X10_isAsked kl_X10_195 so_M rfl rfl (Nat.le_of_ble_eq_true rfl) ⟨by decide, by decide⟩ ?_
          refine ws_if_ne (pc := 280) (tgt := 292) C dX10_drawn_280 (by decide) (fun c16 => ?_) (fun c16 => ?_)
          · have h := ite_f h c16
            refine ws_lload (pc := 292) C dX10_drawn_292 0 rfl ?_
            refine ws_ldc2 (pc := 294) C dX10_drawn_294 kK_X10_350 ?_
            refine ws_lrem (pc := 297) C dX10_drawn_297 (by decide) ?_
            refine ws_aload_n (pc := 298) C dX10_drawn_298 rfl 1 rfl ?_
            refine ws_getr (pc := 299) C dX10_drawn_299 fd_X10_38 sf_M_10 ?_
            refine ws_iload (pc := 302) C dX10_drawn_302 4 rfl ?_
            obtain ⟨g17, h⟩ := gd_ok h
            refine ws_ialdK (pc := 304) C dX10_drawn_304 sr_m_wanted g17 rfl ?_
            refine ws_i2l (pc := 305) C dX10_drawn_305 ?_
            refine ws_lcmp (pc := 306) C dX10_drawn_306 ?_
            refine ws_if_ge (pc := 307) (tgt := 321) C dX10_drawn_307 (by decide) (fun c18 => ?_) (fun c18 => ?_)
            · have h := ite_t h c18
              refine ws_iconst (pc := 321) C dX10_drawn_321 ci_0 ?_
              refine ws_iadd (pc := 322) C dX10_drawn_322 ?_
              obtain ⟨v19, e20, h⟩ := lz_ok h
              refine ws_topi C e20 ?_
              refine ws_istore (pc := 323) C dX10_drawn_323 (by decide) rfl ?_
              refine ws_iinc (j := 4) (pc := 325) C dX10_drawn_325 rfl (cn_1 _) (by decide) rfl ?_
              refine ws_goto (pc := 328) (tgt := 218) C dX10_drawn_328 (by decide) ?_
              refine ws_less [3, 2, 4, 1, 0] rfl ?_
              exact ih _ _ _ _ h
            · have h := ite_f h c18
              refine ws_aload_n (pc := 310) C dX10_drawn_310 rfl 1 rfl ?_
              refine ws_iload (pc := 311) C dX10_drawn_311 4 rfl ?_
              refine ws_bipush (pc := 313) C dX10_drawn_313 cb_10 ?_
              obtain ⟨r21, s22, q23, h⟩ := bd_ok h
              refine wc_iV (pc := 315)  C [.int a9, .int (10 : Int32)] [.int a8] (mX10_secondsBy q23) dX10_drawn_315 mw_X10_secondsBy mv_X10_secondsBy kl_X10_183 so_M rfl rfl (Nat.le_of_ble_eq_true rfl) ⟨by decide, by decide⟩ ?_
              refine ws_goto (pc := 318) (tgt := 322) C dX10_drawn_318 (by decide) ?_
              refine ws_iadd (pc := 322) C dX10_drawn_322 ?_
              obtain ⟨v24, e25, h⟩ := lz_ok h
              refine ws_topi C e25 ?_
              refine ws_istore (pc := 323) C dX10_drawn_323 (by decide) rfl ?_
              refine ws_iinc (j := 4) (pc := 325) C dX10_drawn_325 rfl (cn_1 _) (by decide) rfl ?_
              refine ws_goto (pc := 328) (tgt := 218) C dX10_drawn_328 (by decide) ?_
              refine ws_less [3, 2, 4, 1, 0] rfl ?_
              exact ih _ _ _ _ h
          · have h := ite_t h c16
            refine ws_aload_n (pc := 283) C dX10_drawn_283 rfl 1 rfl ?_
            refine ws_iload (pc := 284) C dX10_drawn_284 4 rfl ?_
            obtain ⟨r26, s27, q28, h⟩ := bd_ok h
            refine wc_iV (pc := 286)  C [.int a9] [.int a8] (mX10_seconds q28) dX10_drawn_286 mw_X10_seconds mv_X10_seconds kl_X10_191 so_M rfl rfl (Nat.le_of_ble_eq_true rfl) ⟨by decide, by decide⟩ ?_
            refine ws_goto (pc := 289) (tgt := 322) C dX10_drawn_289 (by decide) ?_
            refine ws_iadd (pc := 322) C dX10_drawn_322 ?_
            obtain ⟨v29, e30, h⟩ := lz_ok h
            refine ws_topi C e30 ?_
            refine ws_istore (pc := 323) C dX10_drawn_323 (by decide) rfl ?_
            refine ws_iinc (j := 4) (pc := 325) C dX10_drawn_325 rfl (cn_1 _) (by decide) rfl ?_
            refine ws_goto (pc := 328) (tgt := 218) C dX10_drawn_328 (by decide) ?_
            refine ws_less [3, 2, 4, 1, 0] rfl ?_
            exact ih _ _ _ _ h
set_option maxRecDepth 20000 in
set_option maxHeartbeats 4000000 in
theorem pX10_drawn_J212 {Y : xY} {Z : xZ} {B : xB} {z : Int32 × xM} (C : xC (GM Y) Z B "BetweenStopsModel" cX10_drawn 10 6) (R : xRi (GM Y) B .int z) {a5 : Int64} {a7 : Int32} {t0 : Int32} {t1 : Int32} {s : xM} (h : fX10_drawn_J212 a5 a7 t0 t1 s = some z) : xWS (GM Y) B 10 s [(0, .ref (Y.1 0)), (5, .long a5), (7, .int a7)] 212 [.int t0, .int t1] := by
  unfold fX10_drawn_J212 at h
  refine ws_imul (pc := 212) C dX10_drawn_212 ?_
  obtain ⟨v1, e2, h⟩ := lz_ok h
  refine ws_topi C e2 ?_
  refine ws_istore (pc := 213) C dX10_drawn_213 (by decide) rfl ?_
  refine ws_iconst (pc := 215) C dX10_drawn_215 ci_0 ?_
  refine ws_istore (pc := 216) C dX10_drawn_216 (by decide) rfl ?_
  refine ws_less [2, 3, 4, 1, 0] rfl ?_
  refine pX10_drawn_L218 C R (fun x3 s4 h => ?_) fu _ _ _ _ h
  · refine ws_iload (pc := 331) C dX10_drawn_331 0 rfl ?_
    exact wr_i (pc := 333) C R dX10_drawn_333 rfl h
set_option maxRecDepth 20000 in
set_option maxHeartbeats 4000000 in
theorem pX10_drawn_J144 {Y : xY} {Z : xZ} {B : xB} {z : Int32 × xM} (C : xC (GM Y) Z B "BetweenStopsModel" cX10_drawn 10 6) (R : xRi (GM Y) B .int z) {a5 : Int64} {t0 : Int32} {s : xM} (h : fX10_drawn_J144 a5 t0 s = some z) : xWS (GM Y) B 10 s [(0, .ref (Y.1 0)), (5, .long a5)] 144 [.int t0] := by
  unfold fX10_drawn_J144 at h
  refine ws_istore (pc := 144) C dX10_drawn_144 (by decide) rfl ?_
  refine ws_aload_n (pc := 146) C dX10_drawn_146 rfl 1 rfl ?_
  refine ws_geti (pc := 147) C dX10_drawn_147 fd_X10_20 sf_M_3 ?_
  refine ws_aload_n (pc := 150) C dX10_drawn_150 rfl 1 rfl ?_
  refine ws_getr (pc := 151) C dX10_drawn_151 fd_X10_26 sf_M_6 ?_
  refine ws_aload_n (pc := 154) C dX10_drawn_154 rfl 1 rfl ?_
  refine ws_geti (pc := 155) C dX10_drawn_155 fd_X10_220 sf_M_38 ?_
  obtain ⟨g1, h⟩ := gd_ok h
  refine ws_ialdK (pc := 158) C dX10_drawn_158 sr_m_cellOf g1 rfl ?_
  refine ws_aload_n (pc := 159) C dX10_drawn_159 rfl 1 rfl ?_
  refine ws_getr (pc := 160) C dX10_drawn_160 fd_X10_26 sf_M_6 ?_
  refine ws_aload_n (pc := 163) C dX10_drawn_163 rfl 1 rfl ?_
  refine ws_geti (pc := 164) C dX10_drawn_164 fd_X10_223 sf_M_39 ?_
  obtain ⟨g2, h⟩ := gd_ok h
  refine ws_ialdK (pc := 167) C dX10_drawn_167 sr_m_cellOf g2 rfl ?_
  refine ws_icmp_ge (pc := 168) (tgt := 193) C dX10_drawn_168 (by decide) (fun c3 => ?_) (fun c3 => ?_)
  · have h := ite_t h c3
    refine ws_aload_n (pc := 193) C dX10_drawn_193 rfl 1 rfl ?_
    refine ws_getr (pc := 194) C dX10_drawn_194 fd_X10_26 sf_M_6 ?_
    refine ws_aload_n (pc := 197) C dX10_drawn_197 rfl 1 rfl ?_
    refine ws_geti (pc := 198) C dX10_drawn_198 fd_X10_220 sf_M_38 ?_
    obtain ⟨g4, h⟩ := gd_ok h
    refine ws_ialdK (pc := 201) C dX10_drawn_201 sr_m_cellOf g4 rfl ?_
    refine ws_aload_n (pc := 202) C dX10_drawn_202 rfl 1 rfl ?_
    refine ws_getr (pc := 203) C dX10_drawn_203 fd_X10_26 sf_M_6 ?_
    refine ws_aload_n (pc := 206) C dX10_drawn_206 rfl 1 rfl ?_
    refine ws_geti (pc := 207) C dX10_drawn_207 fd_X10_223 sf_M_39 ?_
    obtain ⟨g5, h⟩ := gd_ok h
    refine ws_ialdK (pc := 210) C dX10_drawn_210 sr_m_cellOf g5 rfl ?_
    refine ws_isub (pc := 211) C dX10_drawn_211 ?_
    refine ws_less [1, 2, 0] rfl ?_
    exact pX10_drawn_J212 C R h
  · have h := ite_f h c3
    refine ws_aload_n (pc := 171) C dX10_drawn_171 rfl 1 rfl ?_
    refine ws_getr (pc := 172) C dX10_drawn_172 fd_X10_26 sf_M_6 ?_
    refine ws_aload_n (pc := 175) C dX10_drawn_175 rfl 1 rfl ?_
    refine ws_geti (pc := 176) C dX10_drawn_176 fd_X10_223 sf_M_39 ?_
    obtain ⟨g6, h⟩ := gd_ok h
    refine ws_ialdK (pc := 179) C dX10_drawn_179 sr_m_cellOf g6 rfl ?_
    refine ws_aload_n (pc := 180) C dX10_drawn_180 rfl 1 rfl ?_
    refine ws_getr (pc := 181) C dX10_drawn_181 fd_X10_26 sf_M_6 ?_
    refine ws_aload_n (pc := 184) C dX10_drawn_184 rfl 1 rfl ?_
    refine ws_geti (pc := 185) C dX10_drawn_185 fd_X10_220 sf_M_38 ?_
    obtain ⟨g7, h⟩ := gd_ok h
    refine ws_ialdK (pc := 188) C dX10_drawn_188 sr_m_cellOf g7 rfl ?_
    refine ws_isub (pc := 189) C dX10_drawn_189 ?_
    refine ws_goto (pc := 190) (tgt := 212) C dX10_drawn_190 (by decide) ?_
    refine ws_less [1, 2, 0] rfl ?_
    exact pX10_drawn_J212 C R h
set_option maxRecDepth 20000 in
set_option maxHeartbeats 4000000 in
theorem pX10_drawn_J135 {Y : xY} {Z : xZ} {B : xB} {z : Int32 × xM} (C : xC (GM Y) Z B "BetweenStopsModel" cX10_drawn 10 6) (R : xRi (GM Y) B .int z) {a3 : Int32} {a5 : Int64} {s : xM} (h : fX10_drawn_J135 a3 a5 s = some z) : xWS (GM Y) B 10 s [(0, .ref (Y.1 0)), (3, .int a3), (5, .long a5)] 135 [] := by
  unfold fX10_drawn_J135 at h
  refine ws_iload_n (pc := 135) C dX10_drawn_135 rfl 1 rfl ?_
  refine ws_if_eq (pc := 136) (tgt := 143) C dX10_drawn_136 (by decide) (fun c1 => ?_) (fun c1 => ?_)
  · have h := ite_t h c1
    refine ws_iconst (pc := 143) C dX10_drawn_143 ci_1 ?_
    refine ws_less [0, 2] rfl ?_
    exact pX10_drawn_J144 C R h
  · have h := ite_f h c1
    refine ws_iconst (pc := 139) C dX10_drawn_139 ci_0 ?_
    refine ws_goto (pc := 140) (tgt := 144) C dX10_drawn_140 (by decide) ?_
    refine ws_less [0, 2] rfl ?_
    exact pX10_drawn_J144 C R h
set_option maxRecDepth 20000 in
set_option maxHeartbeats 4000000 in
theorem pX10_drawn_J100 {Y : xY} {Z : xZ} {B : xB} {z : Int32 × xM} (C : xC (GM Y) Z B "BetweenStopsModel" cX10_drawn 10 6) (R : xRi (GM Y) B .int z) {a2 : Int32} {a3 : Int32} {t0 : Int32} {s : xM} (h : fX10_drawn_J100 a2 a3 t0 s = some z) : xWS (GM Y) B 10 s [(0, .ref (Y.1 0)), (2, .int a2), (3, .int a3)] 100 [.int t0] := by
  unfold fX10_drawn_J100 at h
  refine ws_istore (pc := 100) C dX10_drawn_100 (by decide) rfl ?_
  refine ws_iload_n (pc := 102) C dX10_drawn_102 rfl 2 rfl ?_
  refine ws_i2l (pc := 103) C dX10_drawn_103 ?_
  refine ws_lconst (v := 1) (pc := 104) C dX10_drawn_104 (by decide) ?_
  refine ws_ladd (pc := 105) C dX10_drawn_105 ?_
  refine ws_ldc2 (pc := 106) C dX10_drawn_106 kK_X10_387 ?_
  refine ws_lmul (pc := 109) C dX10_drawn_109 ?_
  refine ws_ldc2 (pc := 110) C dX10_drawn_110 kK_X10_389 ?_
  refine ws_lrem (pc := 113) C dX10_drawn_113 (by decide) ?_
  obtain ⟨v1, e2, h⟩ := lz_ok h
  refine ws_topl C e2 ?_
  refine ws_lstore (pc := 114) C dX10_drawn_114 (by decide) rfl ?_
  refine ws_iload_n (pc := 116) C dX10_drawn_116 rfl 4 rfl ?_
  refine ws_if_eq (pc := 117) (tgt := 135) C dX10_drawn_117 (by decide) (fun c3 => ?_) (fun c3 => ?_)
  · have h := ite_t h c3
    refine ws_less [2, 4, 0] rfl ?_
    exact pX10_drawn_J135 C R h
  · have h := ite_f h c3
    refine ws_iload (pc := 120) C dX10_drawn_120 1 rfl ?_
    refine ws_if_eq (pc := 122) (tgt := 135) C dX10_drawn_122 (by decide) (fun c4 => ?_) (fun c4 => ?_)
    · have h := ite_t h c4
      refine ws_less [2, 4, 0] rfl ?_
      exact pX10_drawn_J135 C R h
    · have h := ite_f h c4
      refine ws_lload (pc := 125) C dX10_drawn_125 0 rfl ?_
      refine ws_ldc2 (pc := 127) C dX10_drawn_127 kK_X10_391 ?_
      refine ws_lrem (pc := 130) C dX10_drawn_130 (by decide) ?_
      refine ws_l2i (pc := 131) C dX10_drawn_131 ?_
      refine ws_goto (pc := 132) (tgt := 144) C dX10_drawn_132 (by decide) ?_
      refine ws_less [2, 0] rfl ?_
      exact pX10_drawn_J144 C R h
set_option maxRecDepth 20000 in
set_option maxHeartbeats 4000000 in
theorem pX10_drawn_J99 {Y : xY} {Z : xZ} {B : xB} {z : Int32 × xM} (C : xC (GM Y) Z B "BetweenStopsModel" cX10_drawn 10 6) (R : xRi (GM Y) B .int z) {a2 : Int32} {a3 : Int32} {s : xM} (h : fX10_drawn_J99 a2 a3 s = some z) : xWS (GM Y) B 10 s [(0, .ref (Y.1 0)), (2, .int a2), (3, .int a3)] 99 [] := by
  unfold fX10_drawn_J99 at h
  refine ws_iconst (pc := 99) C dX10_drawn_99 ci_0 ?_
  refine ws_less [0, 1, 2] rfl ?_
  exact pX10_drawn_J100 C R h
set_option maxRecDepth 20000 in
set_option maxHeartbeats 4000000 in
theorem pX10_drawn_J70 {Y : xY} {Z : xZ} {B : xB} {z : Int32 × xM} (C : xC (GM Y) Z B "BetweenStopsModel" cX10_drawn 10 6) (R : xRi (GM Y) B .int z) {a2 : Int32} {t0 : Int32} {s : xM} (h : fX10_drawn_J70 a2 t0 s = some z) : xWS (GM Y) B 10 s [(0, .ref (Y.1 0)), (2, .int a2)] 70 [.int t0] := by
  unfold fX10_drawn_J70 at h
  refine ws_istore_n (pc := 70) C dX10_drawn_70 rfl (by decide) rfl ?_
  refine ws_aload_n (pc := 71) C dX10_drawn_71 rfl 1 rfl ?_
  refine ws_aload_n (pc := 72) C dX10_drawn_72 rfl 1 rfl ?_
  refine ws_geti (pc := 73) C dX10_drawn_73 fd_X10_220 sf_M_38 ?_
  refine ws_iconst (pc := 76) C dX10_drawn_76 ci_1 ?_
  obtain ⟨r1, s2, q3, h⟩ := bd_ok h
  refine wc_iV (pc := 77)  C [.int (gi s 0 38), .int (1 : Int32)] [] (mX10_doesStop q3) dX10_drawn_77 mw_X10_doesStop mv_X10_doesStop kl_X10_211 so_M rfl rfl (Nat.le_of_ble_eq_true rfl) ⟨by decide, by decide⟩ ?_
  refine ws_if_eq (pc := 80) (tgt := 99) C dX10_drawn_80 (by decide) (fun c4 => ?_) (fun c4 => ?_)
  · have h := ite_t h c4
    refine ws_less [1, 2, 0] rfl ?_
    exact pX10_drawn_J99 C R h
  · have h := ite_f h c4
    refine ws_aload_n (pc := 83) C dX10_drawn_83 rfl 1 rfl ?_
    refine ws_aload_n (pc := 84) C dX10_drawn_84 rfl 1 rfl ?_
    refine ws_geti (pc := 85) C dX10_drawn_85 fd_X10_223 sf_M_39 ?_
    refine ws_iconst (pc := 88) C dX10_drawn_88 ci_1 ?_
    obtain ⟨r5, s6, q7, h⟩ := bd_ok h
    refine wc_iV (pc := 89)  C [.int (gi s2 0 39), .int (1 : Int32)] [] (mX10_doesStop q7) dX10_drawn_89 mw_X10_doesStop mv_X10_doesStop kl_X10_211 so_M rfl rfl (Nat.le_of_ble_eq_true rfl) ⟨by decide, by decide⟩ ?_
    refine ws_if_eq (pc := 92) (tgt := 99) C dX10_drawn_92 (by decide) (fun c8 => ?_) (fun c8 => ?_)
    · have h := ite_t h c8
      refine ws_less [1, 2, 0] rfl ?_
      exact pX10_drawn_J99 C R h
    · have h := ite_f h c8
      refine ws_iconst (pc := 95) C dX10_drawn_95 ci_1 ?_
      refine ws_goto (pc := 96) (tgt := 100) C dX10_drawn_96 (by decide) ?_
      refine ws_less [1, 2, 0] rfl ?_
      exact pX10_drawn_J100 C R h
set_option maxRecDepth 20000 in
set_option maxHeartbeats 4000000 in
theorem pX10_drawn_J69 {Y : xY} {Z : xZ} {B : xB} {z : Int32 × xM} (C : xC (GM Y) Z B "BetweenStopsModel" cX10_drawn 10 6) (R : xRi (GM Y) B .int z) {a2 : Int32} {s : xM} (h : fX10_drawn_J69 a2 s = some z) : xWS (GM Y) B 10 s [(0, .ref (Y.1 0)), (2, .int a2)] 69 [] := by
  unfold fX10_drawn_J69 at h
  refine ws_iconst (pc := 69) C dX10_drawn_69 ci_0 ?_
  refine ws_less [0, 1] rfl ?_
  exact pX10_drawn_J70 C R h
set_option maxRecDepth 20000 in
set_option maxHeartbeats 4000000 in
theorem mX10_drawn {Y : xY} {Z : xZ} {a1 : Int32} {a2 : Int32} {s : xM} {z : Int32 × xM} (h : fX10_drawn a1 a2 s = some z) : xMi (GM Y) Z yX10_drawn cX10_drawn 10 6 .int [.ref (Y.1 0), .int a1, .int a2] s z := by
  refine xMi_of (by decide) (Nat.le_of_ble_eq_true rfl) (fun B C R => ?_)
  have C : xC (GM Y) Z B "BetweenStopsModel" cX10_drawn 10 6 := C
  show xWS (GM Y) B 10 s [(0, .ref (Y.1 0)), (1, .int a1), (2, .int a2)] 0 []
  unfold fX10_drawn at h
  refine ws_aload_n (pc := 0) C dX10_drawn_0 rfl 0 rfl ?_
  refine ws_iload_n (pc := 1) C dX10_drawn_1 rfl 1 rfl ?_
  obtain ⟨r1, s2, q3, h⟩ := bd_ok h
  refine wc_iV (pc := 2)  C [.int a1] [] (mX10_isTrip q3) dX10_drawn_2 mw_X10_isTrip mv_X10_isTrip kl_X10_239 so_M rfl rfl (Nat.le_of_ble_eq_true rfl) ⟨by decide, by decide⟩ ?_
  refine ws_if_ne (pc := 5) (tgt := 11) C dX10_drawn_5 (by decide) (fun c4 => ?_) (fun c4 => ?_)
  · have h := ite_f h c4
    refine ws_iload_n (pc := 11) C dX10_drawn_11 rfl 2 rfl ?_
    refine ws_iconst (pc := 12) C dX10_drawn_12 ci_0 ?_
    refine ws_ldcw (pc := 13) C dX10_drawn_13 kk_X10_345 ?_
    obtain ⟨r5, s6, q7, h⟩ := bd_ok h
    refine wc_iS (pc := 16)  C [.int a2, .int (0 : Int32), .int (99999 : Int32)] [] (mX10_in q7) dX10_drawn_16 mw_X10_in ks_X10_in kl_X10_162 rfl rfl (Nat.le_of_ble_eq_true rfl) ⟨by decide, by decide⟩ ?_
    refine ws_if_ne (pc := 19) (tgt := 25) C dX10_drawn_19 (by decide) (fun c8 => ?_) (fun c8 => ?_)
    · have h := ite_f h c8
      refine ws_aload_n (pc := 25) C dX10_drawn_25 rfl 0 rfl ?_
      refine ws_iload_n (pc := 26) C dX10_drawn_26 rfl 1 rfl ?_
      obtain ⟨r9, s10, q11, h⟩ := bd_ok h
      refine wc_vV (pc := 27)  C [.int a1] [] (mX10_finds q11) dX10_drawn_27 mw_X10_finds mv_X10_finds kl_X10_242 so_M rfl rfl (Nat.le_of_ble_eq_true rfl) ⟨by decide, by decide⟩ ?_
      refine ws_aload_n (pc := 30) C dX10_drawn_30 rfl 0 rfl ?_
      refine ws_geti (pc := 31) C dX10_drawn_31 fd_X10_220 sf_M_38 ?_
      refine ws_iconst (pc := 34) C dX10_drawn_34 ci_m1 ?_
      refine ws_icmp_ne (pc := 35) (tgt := 41) C dX10_drawn_35 (by decide) (fun c12 => ?_) (fun c12 => ?_)
      · have h := ite_f h c12
        refine ws_aload_n (pc := 41) C dX10_drawn_41 rfl 0 rfl ?_
        refine ws_aload_n (pc := 42) C dX10_drawn_42 rfl 0 rfl ?_
        refine ws_geti (pc := 43) C dX10_drawn_43 fd_X10_220 sf_M_38 ?_
        refine ws_iconst (pc := 46) C dX10_drawn_46 ci_0 ?_
        obtain ⟨r13, s14, q15, h⟩ := bd_ok h
        refine wc_iV (pc := 47)  C [.int (gi s10 0 38), .int (0 : Int32)] [] (mX10_doesStop q15) dX10_drawn_47 mw_X10_doesStop mv_X10_doesStop kl_X10_211 so_M rfl rfl (Nat.le_of_ble_eq_true rfl) ⟨by decide, by decide⟩ ?_
        refine ws_if_eq (pc := 50) (tgt := 69) C dX10_drawn_50 (by decide) (fun c16 => ?_) (fun c16 => ?_)
        · have h := ite_t h c16
          refine ws_less [0, 2] rfl ?_
          exact pX10_drawn_J69 C R h
        · have h := ite_f h c16
          refine ws_aload_n (pc := 53) C dX10_drawn_53 rfl 0 rfl ?_
          refine ws_aload_n (pc := 54) C dX10_drawn_54 rfl 0 rfl ?_
          refine ws_geti (pc := 55) C dX10_drawn_55 fd_X10_223 sf_M_39 ?_
          refine ws_iconst (pc := 58) C dX10_drawn_58 ci_0 ?_
          obtain ⟨r17, s18, q19, h⟩ := bd_ok h
          refine wc_iV (pc := 59)  C [.int (gi s14 0 39), .int (0 : Int32)] [] (mX10_doesStop q19) dX10_drawn_59 mw_X10_doesStop mv_X10_doesStop kl_X10_211 so_M rfl rfl (Nat.le_of_ble_eq_true rfl) ⟨by decide, by decide⟩ ?_
          refine ws_if_eq (pc := 62) (tgt := 69) C dX10_drawn_62 (by decide) (fun c20 => ?_) (fun c20 => ?_)
          · have h := ite_t h c20
            refine ws_less [0, 2] rfl ?_
            exact pX10_drawn_J69 C R h
          · have h := ite_f h c20
            refine ws_iconst (pc := 65) C dX10_drawn_65 ci_1 ?_
            refine ws_goto (pc := 66) (tgt := 70) C dX10_drawn_66 (by decide) ?_
            refine ws_less [0, 2] rfl ?_
            exact pX10_drawn_J70 C R h
      · have h := ite_t h c12
        refine ws_bipush (pc := 38) C dX10_drawn_38 cb_m3 ?_
        exact wr_i (pc := 40) C R dX10_drawn_40 rfl h
    · have h := ite_t h c8
      refine ws_bipush (pc := 22) C dX10_drawn_22 cb_m7 ?_
      exact wr_i (pc := 24) C R dX10_drawn_24 rfl h
  · have h := ite_t h c4
    refine ws_bipush (pc := 8) C dX10_drawn_8 cb_m5 ?_
    exact wr_i (pc := 10) C R dX10_drawn_10 rfl h
set_option maxRecDepth 20000 in
set_option maxHeartbeats 4000000 in
theorem pX10_image_L47 {Y : xY} {Z : xZ} {B : xB} {z : Int32 × xM} (C : xC (GM Y) Z B "BetweenStopsModel" cX10_image 2 1) (R : xRi (GM Y) B .int z) {k71 : xM → Option (Int32 × xM)}
    (hk71 : ∀  (s : xM), k71 s = some z → xWS (GM Y) B 2 s [(0, .ref (Y.1 0))] 71 []) : ∀ (n : Nat) (a1 : Int32) (s : xM), fX10_image_L47 k71 n a1 s = some z → xWS (GM Y) B 2 s [(0, .ref (Y.1 0)), (1, .int a1)] 47 [] := by
  intro n
  induction n with
  | zero =>
    intro a1 s h
    rw [fX10_image_L47] at h
    cases h
  | succ n ih =>
    intro a1 s h
    rw [fX10_image_L47] at h
    refine ws_iload_n (pc := 47) C dX10_image_47 rfl 1 rfl ?_
    refine ws_bipush (pc := 48) C dX10_image_48 cb_40 ?_
    refine ws_icmp_gt (pc := 50) (tgt := 71) C dX10_image_50 (by decide) (fun c1 => ?_) (fun c1 => ?_)
    · have h := ite_t h c1
      refine ws_less [0] rfl ?_
      exact hk71 _ h
    · have h := ite_f h c1
      refine ws_aload_n (pc := 53) C dX10_image_53 rfl 0 rfl ?_
      refine ws_getr (pc := 54) C dX10_image_54 fd_X10_68 sf_M_29 ?_
      refine ws_iload_n (pc := 57) C dX10_image_57 rfl 1 rfl ?_
      refine ws_aload_n (pc := 58) C dX10_image_58 rfl 0 rfl ?_
      refine ws_getr (pc := 59) C dX10_image_59 fd_X10_7 sf_M_0 ?_
      refine ws_iload_n (pc := 62) C dX10_image_62 rfl 1 rfl ?_
      obtain ⟨g2, h⟩ := gd_ok h
      refine ws_ialdK (pc := 63) C dX10_image_63 sr_m_height g2 rfl ?_
      obtain ⟨g3, h⟩ := gd_ok h
      obtain ⟨s4, e5, h⟩ := lz_ok h
      refine ws_iastK (pc := 64) C dX10_image_64 sr_m_imageHeight g3 rfl e5 ?_
      refine ws_iinc (j := 1) (pc := 65) C dX10_image_65 rfl (cn_1 _) (by decide) rfl ?_
      refine ws_goto (pc := 68) (tgt := 47) C dX10_image_68 (by decide) ?_
      refine ws_less [1, 0] rfl ?_
      exact ih _ _ h
set_option maxRecDepth 20000 in
set_option maxHeartbeats 4000000 in
theorem pX10_image_L73 {Y : xY} {Z : xZ} {B : xB} {z : Int32 × xM} (C : xC (GM Y) Z B "BetweenStopsModel" cX10_image 2 1) (R : xRi (GM Y) B .int z) {k97 : xM → Option (Int32 × xM)}
    (hk97 : ∀  (s : xM), k97 s = some z → xWS (GM Y) B 2 s [(0, .ref (Y.1 0))] 97 []) : ∀ (n : Nat) (a1 : Int32) (s : xM), fX10_image_L73 k97 n a1 s = some z → xWS (GM Y) B 2 s [(0, .ref (Y.1 0)), (1, .int a1)] 73 [] := by
  intro n
  induction n with
  | zero =>
    intro a1 s h
    rw [fX10_image_L73] at h
    cases h
  | succ n ih =>
    intro a1 s h
    rw [fX10_image_L73] at h
    refine ws_iload_n (pc := 73) C dX10_image_73 rfl 1 rfl ?_
    refine ws_bipush (pc := 74) C dX10_image_74 cb_18 ?_
    refine ws_icmp_ge (pc := 76) (tgt := 97) C dX10_image_76 (by decide) (fun c1 => ?_) (fun c1 => ?_)
    · have h := ite_t h c1
      refine ws_less [0] rfl ?_
      exact hk97 _ h
    · have h := ite_f h c1
      refine ws_aload_n (pc := 79) C dX10_image_79 rfl 0 rfl ?_
      refine ws_getr (pc := 80) C dX10_image_80 fd_X10_71 sf_M_30 ?_
      refine ws_iload_n (pc := 83) C dX10_image_83 rfl 1 rfl ?_
      refine ws_aload_n (pc := 84) C dX10_image_84 rfl 0 rfl ?_
      refine ws_getr (pc := 85) C dX10_image_85 fd_X10_13 sf_M_1 ?_
      refine ws_iload_n (pc := 88) C dX10_image_88 rfl 1 rfl ?_
      obtain ⟨g2, h⟩ := gd_ok h
      refine ws_ialdK (pc := 89) C dX10_image_89 sr_m_sorts g2 rfl ?_
      obtain ⟨g3, h⟩ := gd_ok h
      obtain ⟨s4, e5, h⟩ := lz_ok h
      refine ws_iastK (pc := 90) C dX10_image_90 sr_m_imageSorts g3 rfl e5 ?_
      refine ws_iinc (j := 1) (pc := 91) C dX10_image_91 rfl (cn_1 _) (by decide) rfl ?_
      refine ws_goto (pc := 94) (tgt := 73) C dX10_image_94 (by decide) ?_
      refine ws_less [1, 0] rfl ?_
      exact ih _ _ h
set_option maxRecDepth 20000 in
set_option maxHeartbeats 4000000 in
theorem pX10_image_L99 {Y : xY} {Z : xZ} {B : xB} {z : Int32 × xM} (C : xC (GM Y) Z B "BetweenStopsModel" cX10_image 2 1) (R : xRi (GM Y) B .int z) {k147 : xM → Option (Int32 × xM)}
    (hk147 : ∀  (s : xM), k147 s = some z → xWS (GM Y) B 2 s [(0, .ref (Y.1 0))] 147 []) : ∀ (n : Nat) (a1 : Int32) (s : xM), fX10_image_L99 k147 n a1 s = some z → xWS (GM Y) B 2 s [(0, .ref (Y.1 0)), (1, .int a1)] 99 [] := by
  intro n
  induction n with
  | zero =>
    intro a1 s h
    rw [fX10_image_L99] at h
    cases h
  | succ n ih =>
    intro a1 s h
    rw [fX10_image_L99] at h
    refine ws_iload_n (pc := 99) C dX10_image_99 rfl 1 rfl ?_
    refine ws_bipush (pc := 100) C dX10_image_100 cb_8 ?_
    refine ws_icmp_ge (pc := 102) (tgt := 147) C dX10_image_102 (by decide) (fun c1 => ?_) (fun c1 => ?_)
    · have h := ite_t h c1
      refine ws_less [0] rfl ?_
      exact hk147 _ h
    · have h := ite_f h c1
      refine ws_aload_n (pc := 105) C dX10_image_105 rfl 0 rfl ?_
      refine ws_getr (pc := 106) C dX10_image_106 fd_X10_74 sf_M_31 ?_
      refine ws_iload_n (pc := 109) C dX10_image_109 rfl 1 rfl ?_
      refine ws_aload_n (pc := 110) C dX10_image_110 rfl 0 rfl ?_
      refine ws_getr (pc := 111) C dX10_image_111 fd_X10_35 sf_M_9 ?_
      refine ws_iload_n (pc := 114) C dX10_image_114 rfl 1 rfl ?_
      obtain ⟨g2, h⟩ := gd_ok h
      refine ws_ialdK (pc := 115) C dX10_image_115 sr_m_open g2 rfl ?_
      obtain ⟨g3, h⟩ := gd_ok h
      obtain ⟨s4, e5, h⟩ := lz_ok h
      refine ws_iastK (pc := 116) C dX10_image_116 sr_m_imageOpen g3 rfl e5 ?_
      refine ws_aload_n (pc := 117) C dX10_image_117 rfl 0 rfl ?_
      refine ws_getr (pc := 118) C dX10_image_118 fd_X10_77 sf_M_32 ?_
      refine ws_iload_n (pc := 121) C dX10_image_121 rfl 1 rfl ?_
      refine ws_aload_n (pc := 122) C dX10_image_122 rfl 0 rfl ?_
      refine ws_getr (pc := 123) C dX10_image_123 fd_X10_38 sf_M_10 ?_
      refine ws_iload_n (pc := 126) C dX10_image_126 rfl 1 rfl ?_
      obtain ⟨g6, h⟩ := gd_ok h
      refine ws_ialdK (pc := 127) C dX10_image_127 sr_m_wanted g6 rfl ?_
      obtain ⟨g7, h⟩ := gd_ok h
      obtain ⟨s8, e9, h⟩ := lz_ok h
      refine ws_iastK (pc := 128) C dX10_image_128 sr_m_imageWanted g7 rfl e9 ?_
      refine ws_aload_n (pc := 129) C dX10_image_129 rfl 0 rfl ?_
      refine ws_getr (pc := 130) C dX10_image_130 fd_X10_80 sf_M_33 ?_
      refine ws_iload_n (pc := 133) C dX10_image_133 rfl 1 rfl ?_
      refine ws_aload_n (pc := 134) C dX10_image_134 rfl 0 rfl ?_
      refine ws_getr (pc := 135) C dX10_image_135 fd_X10_41 sf_M_11 ?_
      refine ws_iload_n (pc := 138) C dX10_image_138 rfl 1 rfl ?_
      obtain ⟨g10, h⟩ := gd_ok h
      refine ws_ialdK (pc := 139) C dX10_image_139 sr_m_pattern g10 rfl ?_
      obtain ⟨g11, h⟩ := gd_ok h
      obtain ⟨s12, e13, h⟩ := lz_ok h
      refine ws_iastK (pc := 140) C dX10_image_140 sr_m_imagePattern g11 rfl e13 ?_
      refine ws_iinc (j := 1) (pc := 141) C dX10_image_141 rfl (cn_1 _) (by decide) rfl ?_
      refine ws_goto (pc := 144) (tgt := 99) C dX10_image_144 (by decide) ?_
      refine ws_less [1, 0] rfl ?_
      exact ih _ _ h
set_option maxRecDepth 20000 in
set_option maxHeartbeats 4000000 in
theorem mX10_image {Y : xY} {Z : xZ} {s : xM} {z : Int32 × xM} (h : fX10_image s = some z) : xMi (GM Y) Z yX10_image cX10_image 2 1 .int [.ref (Y.1 0)] s z := by
  refine xMi_of (by decide) (Nat.le_of_ble_eq_true rfl) (fun B C R => ?_)
  have C : xC (GM Y) Z B "BetweenStopsModel" cX10_image 2 1 := C
  show xWS (GM Y) B 2 s [(0, .ref (Y.1 0))] 0 []
  unfold fX10_image at h
  refine ws_aload_n (pc := 0) C dX10_image_0 rfl 0 rfl ?_
  refine ws_iconst (pc := 1) C dX10_image_1 ci_1 ?_
  obtain ⟨s1, e2, h⟩ := lz_ok h
  refine ws_putZ (pc := 2) C dX10_image_2 fp_X10_393 sf_M_23 isZ1 e2 ?_
  refine ws_aload_n (pc := 5) C dX10_image_5 rfl 0 rfl ?_
  refine ws_aload_n (pc := 6) C dX10_image_6 rfl 0 rfl ?_
  refine ws_geti (pc := 7) C dX10_image_7 fd_X10_166 sf_M_4 ?_
  obtain ⟨s3, e4, h⟩ := lz_ok h
  refine ws_putI (pc := 10) C dX10_image_10 fp_X10_397 sf_M_24 e4 ?_
  refine ws_aload_n (pc := 13) C dX10_image_13 rfl 0 rfl ?_
  refine ws_aload_n (pc := 14) C dX10_image_14 rfl 0 rfl ?_
  refine ws_geti (pc := 15) C dX10_image_15 fd_X10_169 sf_M_12 ?_
  obtain ⟨s5, e6, h⟩ := lz_ok h
  refine ws_putI (pc := 18) C dX10_image_18 fp_X10_400 sf_M_25 e6 ?_
  refine ws_aload_n (pc := 21) C dX10_image_21 rfl 0 rfl ?_
  refine ws_aload_n (pc := 22) C dX10_image_22 rfl 0 rfl ?_
  refine ws_geti (pc := 23) C dX10_image_23 fd_X10_16 sf_M_2 ?_
  obtain ⟨s7, e8, h⟩ := lz_ok h
  refine ws_putI (pc := 26) C dX10_image_26 fp_X10_403 sf_M_26 e8 ?_
  refine ws_aload_n (pc := 29) C dX10_image_29 rfl 0 rfl ?_
  refine ws_aload_n (pc := 30) C dX10_image_30 rfl 0 rfl ?_
  refine ws_geti (pc := 31) C dX10_image_31 fd_X10_20 sf_M_3 ?_
  obtain ⟨s9, e10, h⟩ := lz_ok h
  refine ws_putI (pc := 34) C dX10_image_34 fp_X10_406 sf_M_27 e10 ?_
  refine ws_aload_n (pc := 37) C dX10_image_37 rfl 0 rfl ?_
  refine ws_aload_n (pc := 38) C dX10_image_38 rfl 0 rfl ?_
  refine ws_geti (pc := 39) C dX10_image_39 fd_X10_202 sf_M_22 ?_
  obtain ⟨s11, e12, h⟩ := lz_ok h
  refine ws_putI (pc := 42) C dX10_image_42 fp_X10_409 sf_M_28 e12 ?_
  refine ws_iconst (pc := 45) C dX10_image_45 ci_0 ?_
  refine ws_istore_n (pc := 46) C dX10_image_46 rfl (by decide) rfl ?_
  refine ws_less [1, 0] rfl ?_
  refine pX10_image_L47 C R (fun s13 h => ?_) fu _ _ h
  · refine ws_iconst (pc := 71) C dX10_image_71 ci_0 ?_
    refine ws_istore_n (pc := 72) C dX10_image_72 rfl (by decide) rfl ?_
    refine ws_less [1, 0] rfl ?_
    refine pX10_image_L73 C R (fun s14 h => ?_) fu _ _ h
    · refine ws_iconst (pc := 97) C dX10_image_97 ci_0 ?_
      refine ws_istore_n (pc := 98) C dX10_image_98 rfl (by decide) rfl ?_
      refine ws_less [1, 0] rfl ?_
      refine pX10_image_L99 C R (fun s15 h => ?_) fu _ _ h
      · refine ws_aload_n (pc := 147) C dX10_image_147 rfl 0 rfl ?_
        refine ws_geti (pc := 148) C dX10_image_148 fd_X10_166 sf_M_4 ?_
        exact wr_i (pc := 151) C R dX10_image_151 rfl h
set_option maxRecDepth 20000 in
set_option maxHeartbeats 4000000 in
theorem pX10_back_L44 {Y : xY} {Z : xZ} {B : xB} {z : Int32 × xM} (C : xC (GM Y) Z B "BetweenStopsModel" cX10_back 2 1) (R : xRi (GM Y) B .int z) {k68 : xM → Option (Int32 × xM)}
    (hk68 : ∀  (s : xM), k68 s = some z → xWS (GM Y) B 2 s [(0, .ref (Y.1 0))] 68 []) : ∀ (n : Nat) (a1 : Int32) (s : xM), fX10_back_L44 k68 n a1 s = some z → xWS (GM Y) B 2 s [(0, .ref (Y.1 0)), (1, .int a1)] 44 [] := by
  intro n
  induction n with
  | zero =>
    intro a1 s h
    rw [fX10_back_L44] at h
    cases h
  | succ n ih =>
    intro a1 s h
    rw [fX10_back_L44] at h
    refine ws_iload_n (pc := 44) C dX10_back_44 rfl 1 rfl ?_
    refine ws_bipush (pc := 45) C dX10_back_45 cb_40 ?_
    refine ws_icmp_gt (pc := 47) (tgt := 68) C dX10_back_47 (by decide) (fun c1 => ?_) (fun c1 => ?_)
    · have h := ite_t h c1
      refine ws_less [0] rfl ?_
      exact hk68 _ h
    · have h := ite_f h c1
      refine ws_aload_n (pc := 50) C dX10_back_50 rfl 0 rfl ?_
      refine ws_getr (pc := 51) C dX10_back_51 fd_X10_7 sf_M_0 ?_
      refine ws_iload_n (pc := 54) C dX10_back_54 rfl 1 rfl ?_
      refine ws_aload_n (pc := 55) C dX10_back_55 rfl 0 rfl ?_
      refine ws_getr (pc := 56) C dX10_back_56 fd_X10_68 sf_M_29 ?_
      refine ws_iload_n (pc := 59) C dX10_back_59 rfl 1 rfl ?_
      obtain ⟨g2, h⟩ := gd_ok h
      refine ws_ialdK (pc := 60) C dX10_back_60 sr_m_imageHeight g2 rfl ?_
      obtain ⟨g3, h⟩ := gd_ok h
      obtain ⟨s4, e5, h⟩ := lz_ok h
      refine ws_iastK (pc := 61) C dX10_back_61 sr_m_height g3 rfl e5 ?_
      refine ws_iinc (j := 1) (pc := 62) C dX10_back_62 rfl (cn_1 _) (by decide) rfl ?_
      refine ws_goto (pc := 65) (tgt := 44) C dX10_back_65 (by decide) ?_
      refine ws_less [1, 0] rfl ?_
      exact ih _ _ h
set_option maxRecDepth 20000 in
set_option maxHeartbeats 4000000 in
theorem pX10_back_L70 {Y : xY} {Z : xZ} {B : xB} {z : Int32 × xM} (C : xC (GM Y) Z B "BetweenStopsModel" cX10_back 2 1) (R : xRi (GM Y) B .int z) {k94 : xM → Option (Int32 × xM)}
    (hk94 : ∀  (s : xM), k94 s = some z → xWS (GM Y) B 2 s [(0, .ref (Y.1 0))] 94 []) : ∀ (n : Nat) (a1 : Int32) (s : xM), fX10_back_L70 k94 n a1 s = some z → xWS (GM Y) B 2 s [(0, .ref (Y.1 0)), (1, .int a1)] 70 [] := by
  intro n
  induction n with
  | zero =>
    intro a1 s h
    rw [fX10_back_L70] at h
    cases h
  | succ n ih =>
    intro a1 s h
    rw [fX10_back_L70] at h
    refine ws_iload_n (pc := 70) C dX10_back_70 rfl 1 rfl ?_
    refine ws_bipush (pc := 71) C dX10_back_71 cb_18 ?_
    refine ws_icmp_ge (pc := 73) (tgt := 94) C dX10_back_73 (by decide) (fun c1 => ?_) (fun c1 => ?_)
    · have h := ite_t h c1
      refine ws_less [0] rfl ?_
      exact hk94 _ h
    · have h := ite_f h c1
      refine ws_aload_n (pc := 76) C dX10_back_76 rfl 0 rfl ?_
      refine ws_getr (pc := 77) C dX10_back_77 fd_X10_13 sf_M_1 ?_
      refine ws_iload_n (pc := 80) C dX10_back_80 rfl 1 rfl ?_
      refine ws_aload_n (pc := 81) C dX10_back_81 rfl 0 rfl ?_
      refine ws_getr (pc := 82) C dX10_back_82 fd_X10_71 sf_M_30 ?_
      refine ws_iload_n (pc := 85) C dX10_back_85 rfl 1 rfl ?_
      obtain ⟨g2, h⟩ := gd_ok h
      refine ws_ialdK (pc := 86) C dX10_back_86 sr_m_imageSorts g2 rfl ?_
      obtain ⟨g3, h⟩ := gd_ok h
      obtain ⟨s4, e5, h⟩ := lz_ok h
      refine ws_iastK (pc := 87) C dX10_back_87 sr_m_sorts g3 rfl e5 ?_
      refine ws_iinc (j := 1) (pc := 88) C dX10_back_88 rfl (cn_1 _) (by decide) rfl ?_
      refine ws_goto (pc := 91) (tgt := 70) C dX10_back_91 (by decide) ?_
      refine ws_less [1, 0] rfl ?_
      exact ih _ _ h
set_option maxRecDepth 20000 in
set_option maxHeartbeats 4000000 in
theorem pX10_back_L96 {Y : xY} {Z : xZ} {B : xB} {z : Int32 × xM} (C : xC (GM Y) Z B "BetweenStopsModel" cX10_back 2 1) (R : xRi (GM Y) B .int z) {k146 : xM → Option (Int32 × xM)}
    (hk146 : ∀  (s : xM), k146 s = some z → xWS (GM Y) B 2 s [(0, .ref (Y.1 0))] 146 []) : ∀ (n : Nat) (a1 : Int32) (s : xM), fX10_back_L96 k146 n a1 s = some z → xWS (GM Y) B 2 s [(0, .ref (Y.1 0)), (1, .int a1)] 96 [] := by
  intro n
  induction n with
  | zero =>
    intro a1 s h
    rw [fX10_back_L96] at h
    cases h
  | succ n ih =>
    intro a1 s h
    rw [fX10_back_L96] at h
    refine ws_iload_n (pc := 96) C dX10_back_96 rfl 1 rfl ?_
    refine ws_aload_n (pc := 97) C dX10_back_97 rfl 0 rfl ?_
    refine ws_geti (pc := 98) C dX10_back_98 fd_X10_397 sf_M_24 ?_
    refine ws_icmp_ge (pc := 101) (tgt := 146) C dX10_back_101 (by decide) (fun c1 => ?_) (fun c1 => ?_)
    · have h := ite_t h c1
      refine ws_less [0] rfl ?_
      exact hk146 _ h
    · have h := ite_f h c1
      refine ws_aload_n (pc := 104) C dX10_back_104 rfl 0 rfl ?_
      refine ws_getr (pc := 105) C dX10_back_105 fd_X10_35 sf_M_9 ?_
      refine ws_iload_n (pc := 108) C dX10_back_108 rfl 1 rfl ?_
      refine ws_aload_n (pc := 109) C dX10_back_109 rfl 0 rfl ?_
      refine ws_getr (pc := 110) C dX10_back_110 fd_X10_74 sf_M_31 ?_
      refine ws_iload_n (pc := 113) C dX10_back_113 rfl 1 rfl ?_
      obtain ⟨g2, h⟩ := gd_ok h
      refine ws_ialdK (pc := 114) C dX10_back_114 sr_m_imageOpen g2 rfl ?_
      obtain ⟨g3, h⟩ := gd_ok h
      obtain ⟨s4, e5, h⟩ := lz_ok h
      refine ws_iastK (pc := 115) C dX10_back_115 sr_m_open g3 rfl e5 ?_
      refine ws_aload_n (pc := 116) C dX10_back_116 rfl 0 rfl ?_
      refine ws_getr (pc := 117) C dX10_back_117 fd_X10_38 sf_M_10 ?_
      refine ws_iload_n (pc := 120) C dX10_back_120 rfl 1 rfl ?_
      refine ws_aload_n (pc := 121) C dX10_back_121 rfl 0 rfl ?_
      refine ws_getr (pc := 122) C dX10_back_122 fd_X10_77 sf_M_32 ?_
      refine ws_iload_n (pc := 125) C dX10_back_125 rfl 1 rfl ?_
      obtain ⟨g6, h⟩ := gd_ok h
      refine ws_ialdK (pc := 126) C dX10_back_126 sr_m_imageWanted g6 rfl ?_
      obtain ⟨g7, h⟩ := gd_ok h
      obtain ⟨s8, e9, h⟩ := lz_ok h
      refine ws_iastK (pc := 127) C dX10_back_127 sr_m_wanted g7 rfl e9 ?_
      refine ws_aload_n (pc := 128) C dX10_back_128 rfl 0 rfl ?_
      refine ws_getr (pc := 129) C dX10_back_129 fd_X10_41 sf_M_11 ?_
      refine ws_iload_n (pc := 132) C dX10_back_132 rfl 1 rfl ?_
      refine ws_aload_n (pc := 133) C dX10_back_133 rfl 0 rfl ?_
      refine ws_getr (pc := 134) C dX10_back_134 fd_X10_80 sf_M_33 ?_
      refine ws_iload_n (pc := 137) C dX10_back_137 rfl 1 rfl ?_
      obtain ⟨g10, h⟩ := gd_ok h
      refine ws_ialdK (pc := 138) C dX10_back_138 sr_m_imagePattern g10 rfl ?_
      obtain ⟨g11, h⟩ := gd_ok h
      obtain ⟨s12, e13, h⟩ := lz_ok h
      refine ws_iastK (pc := 139) C dX10_back_139 sr_m_pattern g11 rfl e13 ?_
      refine ws_iinc (j := 1) (pc := 140) C dX10_back_140 rfl (cn_1 _) (by decide) rfl ?_
      refine ws_goto (pc := 143) (tgt := 96) C dX10_back_143 (by decide) ?_
      refine ws_less [1, 0] rfl ?_
      exact ih _ _ h
set_option maxRecDepth 20000 in
set_option maxHeartbeats 4000000 in
theorem mX10_back {Y : xY} {Z : xZ} {s : xM} {z : Int32 × xM} (h : fX10_back s = some z) : xMi (GM Y) Z yX10_back cX10_back 2 1 .int [.ref (Y.1 0)] s z := by
  refine xMi_of (by decide) (Nat.le_of_ble_eq_true rfl) (fun B C R => ?_)
  have C : xC (GM Y) Z B "BetweenStopsModel" cX10_back 2 1 := C
  show xWS (GM Y) B 2 s [(0, .ref (Y.1 0))] 0 []
  unfold fX10_back at h
  refine ws_aload_n (pc := 0) C dX10_back_0 rfl 0 rfl ?_
  refine ws_geti (pc := 1) C dX10_back_1 fd_X10_393 sf_M_23 ?_
  refine ws_if_ne (pc := 4) (tgt := 10) C dX10_back_4 (by decide) (fun c1 => ?_) (fun c1 => ?_)
  · have h := ite_f h c1
    refine ws_aload_n (pc := 10) C dX10_back_10 rfl 0 rfl ?_
    refine ws_aload_n (pc := 11) C dX10_back_11 rfl 0 rfl ?_
    refine ws_geti (pc := 12) C dX10_back_12 fd_X10_400 sf_M_25 ?_
    obtain ⟨s2, e3, h⟩ := lz_ok h
    refine ws_putI (pc := 15) C dX10_back_15 fp_X10_169 sf_M_12 e3 ?_
    refine ws_aload_n (pc := 18) C dX10_back_18 rfl 0 rfl ?_
    refine ws_aload_n (pc := 19) C dX10_back_19 rfl 0 rfl ?_
    refine ws_geti (pc := 20) C dX10_back_20 fd_X10_403 sf_M_26 ?_
    obtain ⟨s4, e5, h⟩ := lz_ok h
    refine ws_putI (pc := 23) C dX10_back_23 fp_X10_16 sf_M_2 e5 ?_
    refine ws_aload_n (pc := 26) C dX10_back_26 rfl 0 rfl ?_
    refine ws_aload_n (pc := 27) C dX10_back_27 rfl 0 rfl ?_
    refine ws_geti (pc := 28) C dX10_back_28 fd_X10_406 sf_M_27 ?_
    obtain ⟨s6, e7, h⟩ := lz_ok h
    refine ws_putI (pc := 31) C dX10_back_31 fp_X10_20 sf_M_3 e7 ?_
    refine ws_aload_n (pc := 34) C dX10_back_34 rfl 0 rfl ?_
    refine ws_aload_n (pc := 35) C dX10_back_35 rfl 0 rfl ?_
    refine ws_geti (pc := 36) C dX10_back_36 fd_X10_409 sf_M_28 ?_
    obtain ⟨s8, e9, h⟩ := lz_ok h
    refine ws_putI (pc := 39) C dX10_back_39 fp_X10_202 sf_M_22 e9 ?_
    refine ws_iconst (pc := 42) C dX10_back_42 ci_0 ?_
    refine ws_istore_n (pc := 43) C dX10_back_43 rfl (by decide) rfl ?_
    refine ws_less [1, 0] rfl ?_
    refine pX10_back_L44 C R (fun s10 h => ?_) fu _ _ h
    · refine ws_iconst (pc := 68) C dX10_back_68 ci_0 ?_
      refine ws_istore_n (pc := 69) C dX10_back_69 rfl (by decide) rfl ?_
      refine ws_less [1, 0] rfl ?_
      refine pX10_back_L70 C R (fun s11 h => ?_) fu _ _ h
      · refine ws_iconst (pc := 94) C dX10_back_94 ci_0 ?_
        refine ws_istore_n (pc := 95) C dX10_back_95 rfl (by decide) rfl ?_
        refine ws_less [1, 0] rfl ?_
        refine pX10_back_L96 C R (fun s12 h => ?_) fu _ _ h
        · refine ws_aload_n (pc := 146) C dX10_back_146 rfl 0 rfl ?_
          refine ws_geti (pc := 147) C dX10_back_147 fd_X10_166 sf_M_4 ?_
          exact wr_i (pc := 150) C R dX10_back_150 rfl h
  · have h := ite_t h c1
    refine ws_bipush (pc := 7) C dX10_back_7 cb_m3 ?_
    exact wr_i (pc := 9) C R dX10_back_9 rfl h
set_option maxRecDepth 20000 in
set_option maxHeartbeats 4000000 in
theorem pX10_sheet_L70 {Y : xY} {Z : xZ} {B : xB} {z : Int32 × xM} (C : xC (GM Y) Z B "BetweenStopsModel" cX10_sheet 5 2) (R : xRi (GM Y) B .int z) {k96 : xM → Option (Int32 × xM)} {a1 : Int32}
    (hk96 : ∀  (s : xM), k96 s = some z → xWS (GM Y) B 5 s [] 96 []) : ∀ (n : Nat) (a4 : Int32) (s : xM), fX10_sheet_L70 k96 a1 n a4 s = some z → xWS (GM Y) B 5 s [(0, .ref (Y.1 0)), (1, .int a1), (4, .int a4)] 70 [] := by
  intro n
  induction n with
  | zero =>
    intro a4 s h
    rw [fX10_sheet_L70] at h
    cases h
  | succ n ih =>
    intro a4 s h
    rw [fX10_sheet_L70] at h
    refine ws_iload (pc := 70) C dX10_sheet_70 2 rfl ?_
    refine ws_bipush (pc := 72) C dX10_sheet_72 cb_41 ?_
    refine ws_icmp_ge (pc := 74) (tgt := 96) C dX10_sheet_74 (by decide) (fun c1 => ?_) (fun c1 => ?_)
    · have h := ite_t h c1
      refine ws_less [] rfl ?_
      exact hk96 _ h
    · have h := ite_f h c1
      refine ws_aload_n (pc := 77) C dX10_sheet_77 rfl 0 rfl ?_
      refine ws_getr (pc := 78) C dX10_sheet_78 fd_X10_89 sf_M_36 ?_
      refine ws_bipush (pc := 81) C dX10_sheet_81 cb_41 ?_
      refine ws_iload_n (pc := 83) C dX10_sheet_83 rfl 1 rfl ?_
      refine ws_imul (pc := 84) C dX10_sheet_84 ?_
      refine ws_iload (pc := 85) C dX10_sheet_85 2 rfl ?_
      refine ws_iadd (pc := 87) C dX10_sheet_87 ?_
      refine ws_iconst (pc := 88) C dX10_sheet_88 ci_0 ?_
      obtain ⟨g2, h⟩ := gd_ok h
      obtain ⟨s3, e4, h⟩ := lz_ok h
      refine ws_iastK (pc := 89) C dX10_sheet_89 sr_m_cells g2 rfl e4 ?_
      refine ws_iinc (j := 2) (pc := 90) C dX10_sheet_90 rfl (cn_1 _) (by decide) rfl ?_
      refine ws_goto (pc := 93) (tgt := 70) C dX10_sheet_93 (by decide) ?_
      refine ws_less [1, 2, 0] rfl ?_
      exact ih _ _ h
set_option maxRecDepth 20000 in
set_option maxHeartbeats 4000000 in
theorem pX10_sheet_J66 {Y : xY} {Z : xZ} {B : xB} {z : Int32 × xM} (C : xC (GM Y) Z B "BetweenStopsModel" cX10_sheet 5 2) (R : xRi (GM Y) B .int z) {a1 : Int32} {t0 : Int32} {t1 : Int32} {s : xM} (h : fX10_sheet_J66 a1 t0 t1 s = some z) : xWS (GM Y) B 5 s [(0, .ref (Y.1 0)), (1, .int a1)] 66 [.int t0, .int t1, .ref (Y.1 23)] := by
  unfold fX10_sheet_J66 at h
  obtain ⟨g1, h⟩ := gd_ok h
  obtain ⟨s2, e3, h⟩ := lz_ok h
  refine ws_iastK (pc := 66) C dX10_sheet_66 sr_m_sheetSize g1 rfl e3 ?_
  refine ws_iconst (pc := 67) C dX10_sheet_67 ci_0 ?_
  refine ws_istore (pc := 68) C dX10_sheet_68 (by decide) rfl ?_
  refine ws_less [1, 2, 0] rfl ?_
  refine pX10_sheet_L70 C R (fun s4 h => ?_) fu _ _ h
  · refine ws_iconst (pc := 96) C dX10_sheet_96 ci_1 ?_
    exact wr_i (pc := 97) C R dX10_sheet_97 rfl h
set_option maxRecDepth 20000 in
set_option maxHeartbeats 4000000 in
theorem pX10_sheet_J44 {Y : xY} {Z : xZ} {B : xB} {z : Int32 × xM} (C : xC (GM Y) Z B "BetweenStopsModel" cX10_sheet 5 2) (R : xRi (GM Y) B .int z) {a1 : Int32} {a2 : Int32} {a3 : Int32} {s : xM} (h : fX10_sheet_J44 a1 a2 a3 s = some z) : xWS (GM Y) B 5 s [(0, .ref (Y.1 0)), (1, .int a1), (2, .int a2), (3, .int a3)] 44 [] := by
  unfold fX10_sheet_J44 at h
  refine ws_aload_n (pc := 44) C dX10_sheet_44 rfl 0 rfl ?_
  refine ws_getr (pc := 45) C dX10_sheet_45 fd_X10_83 sf_M_34 ?_
  refine ws_iload_n (pc := 48) C dX10_sheet_48 rfl 1 rfl ?_
  refine ws_iload_n (pc := 49) C dX10_sheet_49 rfl 2 rfl ?_
  obtain ⟨g1, h⟩ := gd_ok h
  obtain ⟨s2, e3, h⟩ := lz_ok h
  refine ws_iastK (pc := 50) C dX10_sheet_50 sr_m_sheetSort g1 rfl e3 ?_
  refine ws_aload_n (pc := 51) C dX10_sheet_51 rfl 0 rfl ?_
  refine ws_getr (pc := 52) C dX10_sheet_52 fd_X10_86 sf_M_35 ?_
  refine ws_iload_n (pc := 55) C dX10_sheet_55 rfl 1 rfl ?_
  refine ws_iload_n (pc := 56) C dX10_sheet_56 rfl 2 rfl ?_
  refine ws_iconst (pc := 57) C dX10_sheet_57 ci_m1 ?_
  refine ws_icmp_ne (pc := 58) (tgt := 65) C dX10_sheet_58 (by decide) (fun c4 => ?_) (fun c4 => ?_)
  · have h := ite_f h c4
    refine ws_iload_n (pc := 65) C dX10_sheet_65 rfl 3 rfl ?_
    refine ws_less [0, 1] rfl ?_
    exact pX10_sheet_J66 C R h
  · have h := ite_t h c4
    refine ws_iconst (pc := 61) C dX10_sheet_61 ci_0 ?_
    refine ws_goto (pc := 62) (tgt := 66) C dX10_sheet_62 (by decide) ?_
    refine ws_less [0, 1] rfl ?_
    exact pX10_sheet_J66 C R h
set_option maxRecDepth 20000 in
set_option maxHeartbeats 4000000 in
theorem pX10_sheet_J32 {Y : xY} {Z : xZ} {B : xB} {z : Int32 × xM} (C : xC (GM Y) Z B "BetweenStopsModel" cX10_sheet 5 2) (R : xRi (GM Y) B .int z) {a1 : Int32} {a2 : Int32} {a3 : Int32} {s : xM} (h : fX10_sheet_J32 a1 a2 a3 s = some z) : xWS (GM Y) B 5 s [(0, .ref (Y.1 0)), (1, .int a1), (2, .int a2), (3, .int a3)] 32 [] := by
  unfold fX10_sheet_J32 at h
  refine ws_iload_n (pc := 32) C dX10_sheet_32 rfl 2 rfl ?_
  refine ws_iconst (pc := 33) C dX10_sheet_33 ci_m1 ?_
  refine ws_icmp_eq (pc := 34) (tgt := 44) C dX10_sheet_34 (by decide) (fun c1 => ?_) (fun c1 => ?_)
  · have h := ite_t h c1
    refine ws_less [0, 1, 2, 3] rfl ?_
    exact pX10_sheet_J44 C R h
  · have h := ite_f h c1
    refine ws_iload_n (pc := 37) C dX10_sheet_37 rfl 3 rfl ?_
    refine ws_if_ge (pc := 38) (tgt := 44) C dX10_sheet_38 (by decide) (fun c2 => ?_) (fun c2 => ?_)
    · have h := ite_t h c2
      refine ws_less [0, 1, 2, 3] rfl ?_
      exact pX10_sheet_J44 C R h
    · have h := ite_f h c2
      refine ws_bipush (pc := 41) C dX10_sheet_41 cb_m14 ?_
      exact wr_i (pc := 43) C R dX10_sheet_43 rfl h
set_option maxRecDepth 20000 in
set_option maxHeartbeats 4000000 in
theorem mX10_sheet {Y : xY} {Z : xZ} {a1 : Int32} {a2 : Int32} {a3 : Int32} {s : xM} {z : Int32 × xM} (h : fX10_sheet a1 a2 a3 s = some z) : xMi (GM Y) Z yX10_sheet cX10_sheet 5 2 .int [.ref (Y.1 0), .int a1, .int a2, .int a3] s z := by
  refine xMi_of (by decide) (Nat.le_of_ble_eq_true rfl) (fun B C R => ?_)
  have C : xC (GM Y) Z B "BetweenStopsModel" cX10_sheet 5 2 := C
  show xWS (GM Y) B 5 s [(0, .ref (Y.1 0)), (1, .int a1), (2, .int a2), (3, .int a3)] 0 []
  unfold fX10_sheet at h
  refine ws_iload_n (pc := 0) C dX10_sheet_0 rfl 1 rfl ?_
  refine ws_iconst (pc := 1) C dX10_sheet_1 ci_0 ?_
  refine ws_iconst (pc := 2) C dX10_sheet_2 ci_3 ?_
  obtain ⟨r1, s2, q3, h⟩ := bd_ok h
  refine wc_iS (pc := 3)  C [.int a1, .int (0 : Int32), .int (3 : Int32)] [] (mX10_in q3) dX10_sheet_3 mw_X10_in ks_X10_in kl_X10_162 rfl rfl (Nat.le_of_ble_eq_true rfl) ⟨by decide, by decide⟩ ?_
  refine ws_if_eq (pc := 6) (tgt := 29) C dX10_sheet_6 (by decide) (fun c4 => ?_) (fun c4 => ?_)
  · have h := ite_t h c4
    refine ws_bipush (pc := 29) C dX10_sheet_29 cb_m2 ?_
    exact wr_i (pc := 31) C R dX10_sheet_31 rfl h
  · have h := ite_f h c4
    refine ws_iload_n (pc := 9) C dX10_sheet_9 rfl 2 rfl ?_
    refine ws_iconst (pc := 10) C dX10_sheet_10 ci_m1 ?_
    refine ws_iconst (pc := 11) C dX10_sheet_11 ci_2 ?_
    obtain ⟨r5, s6, q7, h⟩ := bd_ok h
    refine wc_iS (pc := 12)  C [.int a2, .int (-1 : Int32), .int (2 : Int32)] [] (mX10_in q7) dX10_sheet_12 mw_X10_in ks_X10_in kl_X10_162 rfl rfl (Nat.le_of_ble_eq_true rfl) ⟨by decide, by decide⟩ ?_
    refine ws_if_eq (pc := 15) (tgt := 29) C dX10_sheet_15 (by decide) (fun c8 => ?_) (fun c8 => ?_)
    · have h := ite_t h c8
      refine ws_bipush (pc := 29) C dX10_sheet_29 cb_m2 ?_
      exact wr_i (pc := 31) C R dX10_sheet_31 rfl h
    · have h := ite_f h c8
      refine ws_iload_n (pc := 18) C dX10_sheet_18 rfl 2 rfl ?_
      refine ws_iconst (pc := 19) C dX10_sheet_19 ci_m1 ?_
      refine ws_icmp_eq (pc := 20) (tgt := 32) C dX10_sheet_20 (by decide) (fun c9 => ?_) (fun c9 => ?_)
      · have h := ite_t h c9
        refine ws_less [0, 1, 2, 3] rfl ?_
        exact pX10_sheet_J32 C R h
      · have h := ite_f h c9
        refine ws_iload_n (pc := 23) C dX10_sheet_23 rfl 3 rfl ?_
        refine ws_bipush (pc := 24) C dX10_sheet_24 cb_41 ?_
        refine ws_icmp_le (pc := 26) (tgt := 32) C dX10_sheet_26 (by decide) (fun c10 => ?_) (fun c10 => ?_)
        · have h := ite_t h c10
          refine ws_less [0, 1, 2, 3] rfl ?_
          exact pX10_sheet_J32 C R h
        · have h := ite_f h c10
          refine ws_bipush (pc := 29) C dX10_sheet_29 cb_m2 ?_
          exact wr_i (pc := 31) C R dX10_sheet_31 rfl h
set_option maxRecDepth 20000 in
set_option maxHeartbeats 4000000 in
theorem pX10_cell_J84 {Y : xY} {Z : xZ} {B : xB} {z : Int32 × xM} (C : xC (GM Y) Z B "BetweenStopsModel" cX10_cell 4 2) (R : xRi (GM Y) B .int z) {t0 : Int32} {t1 : Int32} {s : xM} (h : fX10_cell_J84 t0 t1 s = some z) : xWS (GM Y) B 4 s [] 84 [.int t0, .int t1, .ref (Y.1 24)] := by
  unfold fX10_cell_J84 at h
  obtain ⟨g1, h⟩ := gd_ok h
  obtain ⟨s2, e3, h⟩ := lz_ok h
  refine ws_iastK (pc := 84) C dX10_cell_84 sr_m_cells g1 rfl e3 ?_
  refine ws_iconst (pc := 85) C dX10_cell_85 ci_1 ?_
  exact wr_i (pc := 86) C R dX10_cell_86 rfl h
set_option maxRecDepth 20000 in
set_option maxHeartbeats 4000000 in
theorem mX10_cell {Y : xY} {Z : xZ} {a1 : Int32} {a2 : Int32} {a3 : Int32} {s : xM} {z : Int32 × xM} (h : fX10_cell a1 a2 a3 s = some z) : xMi (GM Y) Z yX10_cell cX10_cell 4 2 .int [.ref (Y.1 0), .int a1, .int a2, .int a3] s z := by
  refine xMi_of (by decide) (Nat.le_of_ble_eq_true rfl) (fun B C R => ?_)
  have C : xC (GM Y) Z B "BetweenStopsModel" cX10_cell 4 2 := C
  show xWS (GM Y) B 4 s [(0, .ref (Y.1 0)), (1, .int a1), (2, .int a2), (3, .int a3)] 0 []
  unfold fX10_cell at h
  refine ws_iload_n (pc := 0) C dX10_cell_0 rfl 1 rfl ?_
  refine ws_iconst (pc := 1) C dX10_cell_1 ci_0 ?_
  refine ws_iconst (pc := 2) C dX10_cell_2 ci_3 ?_
  obtain ⟨r1, s2, q3, h⟩ := bd_ok h
  refine wc_iS (pc := 3)  C [.int a1, .int (0 : Int32), .int (3 : Int32)] [] (mX10_in q3) dX10_cell_3 mw_X10_in ks_X10_in kl_X10_162 rfl rfl (Nat.le_of_ble_eq_true rfl) ⟨by decide, by decide⟩ ?_
  refine ws_if_ne (pc := 6) (tgt := 12) C dX10_cell_6 (by decide) (fun c4 => ?_) (fun c4 => ?_)
  · have h := ite_f h c4
    refine ws_aload_n (pc := 12) C dX10_cell_12 rfl 0 rfl ?_
    refine ws_getr (pc := 13) C dX10_cell_13 fd_X10_83 sf_M_34 ?_
    refine ws_iload_n (pc := 16) C dX10_cell_16 rfl 1 rfl ?_
    obtain ⟨g5, h⟩ := gd_ok h
    refine ws_ialdK (pc := 17) C dX10_cell_17 sr_m_sheetSort g5 rfl ?_
    refine ws_iconst (pc := 18) C dX10_cell_18 ci_m1 ?_
    refine ws_icmp_ne (pc := 19) (tgt := 25) C dX10_cell_19 (by decide) (fun c6 => ?_) (fun c6 => ?_)
    · have h := ite_f h c6
      refine ws_iload_n (pc := 25) C dX10_cell_25 rfl 2 rfl ?_
      refine ws_iconst (pc := 26) C dX10_cell_26 ci_0 ?_
      refine ws_aload_n (pc := 27) C dX10_cell_27 rfl 0 rfl ?_
      refine ws_getr (pc := 28) C dX10_cell_28 fd_X10_86 sf_M_35 ?_
      refine ws_iload_n (pc := 31) C dX10_cell_31 rfl 1 rfl ?_
      obtain ⟨g7, h⟩ := gd_ok h
      refine ws_ialdK (pc := 32) C dX10_cell_32 sr_m_sheetSize g7 rfl ?_
      refine ws_iconst (pc := 33) C dX10_cell_33 ci_1 ?_
      refine ws_isub (pc := 34) C dX10_cell_34 ?_
      obtain ⟨r8, s9, q10, h⟩ := bd_ok h
      refine wc_iS (pc := 35)  C [.int a2, .int (0 : Int32), .int ((gi s2 23 a1.toNatClampNeg) - (1 : Int32))] [] (mX10_in q10) dX10_cell_35 mw_X10_in ks_X10_in kl_X10_162 rfl rfl (Nat.le_of_ble_eq_true rfl) ⟨by decide, by decide⟩ ?_
      refine ws_if_ne (pc := 38) (tgt := 44) C dX10_cell_38 (by decide) (fun c11 => ?_) (fun c11 => ?_)
      · have h := ite_f h c11
        refine ws_aload_n (pc := 44) C dX10_cell_44 rfl 0 rfl ?_
        refine ws_getr (pc := 45) C dX10_cell_45 fd_X10_89 sf_M_36 ?_
        refine ws_bipush (pc := 48) C dX10_cell_48 cb_41 ?_
        refine ws_iload_n (pc := 50) C dX10_cell_50 rfl 1 rfl ?_
        refine ws_imul (pc := 51) C dX10_cell_51 ?_
        refine ws_iload_n (pc := 52) C dX10_cell_52 rfl 2 rfl ?_
        refine ws_iadd (pc := 53) C dX10_cell_53 ?_
        refine ws_aload_n (pc := 54) C dX10_cell_54 rfl 0 rfl ?_
        refine ws_getr (pc := 55) C dX10_cell_55 fd_X10_83 sf_M_34 ?_
        refine ws_iload_n (pc := 58) C dX10_cell_58 rfl 1 rfl ?_
        obtain ⟨g12, h⟩ := gd_ok h
        refine ws_ialdK (pc := 59) C dX10_cell_59 sr_m_sheetSort g12 rfl ?_
        refine ws_if_ne (pc := 60) (tgt := 68) C dX10_cell_60 (by decide) (fun c13 => ?_) (fun c13 => ?_)
        · have h := ite_f h c13
          refine ws_aload_n (pc := 68) C dX10_cell_68 rfl 0 rfl ?_
          refine ws_getr (pc := 69) C dX10_cell_69 fd_X10_83 sf_M_34 ?_
          refine ws_iload_n (pc := 72) C dX10_cell_72 rfl 1 rfl ?_
          obtain ⟨g14, h⟩ := gd_ok h
          refine ws_ialdK (pc := 73) C dX10_cell_73 sr_m_sheetSort g14 rfl ?_
          refine ws_iconst (pc := 74) C dX10_cell_74 ci_1 ?_
          refine ws_icmp_ne (pc := 75) (tgt := 83) C dX10_cell_75 (by decide) (fun c15 => ?_) (fun c15 => ?_)
          · have h := ite_f h c15
            refine ws_iload_n (pc := 83) C dX10_cell_83 rfl 3 rfl ?_
            refine ws_less [] rfl ?_
            exact pX10_cell_J84 C R h
          · have h := ite_t h c15
            refine ws_iload_n (pc := 78) C dX10_cell_78 rfl 3 rfl ?_
            refine ws_i2s (pc := 79) C dX10_cell_79 ?_
            refine ws_goto (pc := 80) (tgt := 84) C dX10_cell_80 (by decide) ?_
            refine ws_less [] rfl ?_
            exact pX10_cell_J84 C R h
        · have h := ite_t h c13
          refine ws_iload_n (pc := 63) C dX10_cell_63 rfl 3 rfl ?_
          refine ws_i2b (pc := 64) C dX10_cell_64 ?_
          refine ws_goto (pc := 65) (tgt := 84) C dX10_cell_65 (by decide) ?_
          refine ws_less [] rfl ?_
          exact pX10_cell_J84 C R h
      · have h := ite_t h c11
        refine ws_bipush (pc := 41) C dX10_cell_41 cb_m12 ?_
        exact wr_i (pc := 43) C R dX10_cell_43 rfl h
    · have h := ite_t h c6
      refine ws_bipush (pc := 22) C dX10_cell_22 cb_m11 ?_
      exact wr_i (pc := 24) C R dX10_cell_24 rfl h
  · have h := ite_t h c4
    refine ws_bipush (pc := 9) C dX10_cell_9 cb_m2 ?_
    exact wr_i (pc := 11) C R dX10_cell_11 rfl h
set_option maxRecDepth 20000 in
set_option maxHeartbeats 4000000 in
theorem pX10_copy_J173 {Y : xY} {Z : xZ} {B : xB} {z : Int32 × xM} (C : xC (GM Y) Z B "BetweenStopsModel" cX10_copy 10 2) (R : xRi (GM Y) B .int z) {k201 : xM → Option (Int32 × xM)} {b : Int32 → xM → Option (Int32 × xM)} {a5 : Int32} {a6 : Int32} {a7 : Int32} {a8 : Int32} {t0 : Int32}
    (hk201 : ∀  (s : xM), k201 s = some z → xWS (GM Y) B 10 s [(5, .int a5)] 201 [])
    (hb : ∀ (a8 : Int32) (s : xM), b a8 s = some z → xWS (GM Y) B 10 s [(0, .ref (Y.1 0)), (5, .int a5), (6, .int a6), (7, .int a7), (8, .int a8)] 147 []) {s : xM} (h : fX10_copy_J173 k201 b a5 a6 a7 a8 t0 s = some z) : xWS (GM Y) B 10 s [(0, .ref (Y.1 0)), (5, .int a5), (6, .int a6), (7, .int a7), (8, .int a8)] 173 [.int t0] := by
  unfold fX10_copy_J173 at h
  refine ws_istore (pc := 173) C dX10_copy_173 (by decide) rfl ?_
  refine ws_aload_n (pc := 175) C dX10_copy_175 rfl 1 rfl ?_
  refine ws_getr (pc := 176) C dX10_copy_176 fd_X10_89 sf_M_36 ?_
  refine ws_iload (pc := 179) C dX10_copy_179 4 rfl ?_
  refine ws_iload (pc := 181) C dX10_copy_181 0 rfl ?_
  refine ws_iadd (pc := 183) C dX10_copy_183 ?_
  refine ws_aload_n (pc := 184) C dX10_copy_184 rfl 1 rfl ?_
  refine ws_getr (pc := 185) C dX10_copy_185 fd_X10_89 sf_M_36 ?_
  refine ws_iload (pc := 188) C dX10_copy_188 3 rfl ?_
  refine ws_iload (pc := 190) C dX10_copy_190 0 rfl ?_
  refine ws_iadd (pc := 192) C dX10_copy_192 ?_
  obtain ⟨g1, h⟩ := gd_ok h
  refine ws_ialdK (pc := 193) C dX10_copy_193 sr_m_cells g1 rfl ?_
  obtain ⟨g2, h⟩ := gd_ok h
  obtain ⟨s3, e4, h⟩ := lz_ok h
  refine ws_iastK (pc := 194) C dX10_copy_194 sr_m_cells g2 rfl e4 ?_
  refine ws_iinc (j := 5) (pc := 195) C dX10_copy_195 rfl (cn_1 _) (by decide) rfl ?_
  refine ws_goto (pc := 198) (tgt := 147) C dX10_copy_198 (by decide) ?_
  refine ws_less [2, 3, 4, 5, 0] rfl ?_
  exact hb _ _ h
set_option maxRecDepth 20000 in
set_option maxHeartbeats 4000000 in
theorem pX10_copy_L147 {Y : xY} {Z : xZ} {B : xB} {z : Int32 × xM} (C : xC (GM Y) Z B "BetweenStopsModel" cX10_copy 10 2) (R : xRi (GM Y) B .int z) {k201 : xM → Option (Int32 × xM)} {a5 : Int32} {a6 : Int32} {a7 : Int32}
    (hk201 : ∀  (s : xM), k201 s = some z → xWS (GM Y) B 10 s [(5, .int a5)] 201 []) : ∀ (n : Nat) (a8 : Int32) (s : xM), fX10_copy_L147 k201 a5 a6 a7 n a8 s = some z → xWS (GM Y) B 10 s [(0, .ref (Y.1 0)), (5, .int a5), (6, .int a6), (7, .int a7), (8, .int a8)] 147 [] := by
  intro n
  induction n with
  | zero =>
    intro a8 s h
    rw [fX10_copy_L147] at h
    cases h
  | succ n ih =>
    intro a8 s h
    rw [fX10_copy_L147] at h
    refine ws_iload (pc := 147) C dX10_copy_147 4 rfl ?_
    refine ws_iload (pc := 149) C dX10_copy_149 1 rfl ?_
    refine ws_icmp_ge (pc := 151) (tgt := 201) C dX10_copy_151 (by decide) (fun c1 => ?_) (fun c1 => ?_)
    · have h := ite_t h c1
      refine ws_less [1] rfl ?_
      exact hk201 _ h
    · have h := ite_f h c1
      refine ws_iload (pc := 154) C dX10_copy_154 2 rfl ?_
      refine ws_iload (pc := 156) C dX10_copy_156 3 rfl ?_
      refine ws_icmp_ge (pc := 158) (tgt := 171) C dX10_copy_158 (by decide) (fun c2 => ?_) (fun c2 => ?_)
      · have h := ite_t h c2
        refine ws_iload (pc := 171) C dX10_copy_171 4 rfl ?_
        refine ws_less [0, 1, 2, 3, 4] rfl ?_
        exact pX10_copy_J173 C R hk201 (fun a8 s h => ih a8 s h) h
      · have h := ite_f h c2
        refine ws_iload (pc := 161) C dX10_copy_161 1 rfl ?_
        refine ws_iconst (pc := 163) C dX10_copy_163 ci_1 ?_
        refine ws_isub (pc := 164) C dX10_copy_164 ?_
        refine ws_iload (pc := 165) C dX10_copy_165 4 rfl ?_
        refine ws_isub (pc := 167) C dX10_copy_167 ?_
        refine ws_goto (pc := 168) (tgt := 173) C dX10_copy_168 (by decide) ?_
        refine ws_less [0, 1, 2, 3, 4] rfl ?_
        exact pX10_copy_J173 C R hk201 (fun a8 s h => ih a8 s h) h
set_option maxRecDepth 20000 in
set_option maxHeartbeats 4000000 in
theorem mX10_copy {Y : xY} {Z : xZ} {a1 : Int32} {a2 : Int32} {a3 : Int32} {a4 : Int32} {a5 : Int32} {s : xM} {z : Int32 × xM} (h : fX10_copy a1 a2 a3 a4 a5 s = some z) : xMi (GM Y) Z yX10_copy cX10_copy 10 2 .int [.ref (Y.1 0), .int a1, .int a2, .int a3, .int a4, .int a5] s z := by
  refine xMi_of (by decide) (Nat.le_of_ble_eq_true rfl) (fun B C R => ?_)
  have C : xC (GM Y) Z B "BetweenStopsModel" cX10_copy 10 2 := C
  show xWS (GM Y) B 10 s [(0, .ref (Y.1 0)), (1, .int a1), (2, .int a2), (3, .int a3), (4, .int a4), (5, .int a5)] 0 []
  unfold fX10_copy at h
  refine ws_iload_n (pc := 0) C dX10_copy_0 rfl 1 rfl ?_
  refine ws_iconst (pc := 1) C dX10_copy_1 ci_0 ?_
  refine ws_iconst (pc := 2) C dX10_copy_2 ci_3 ?_
  obtain ⟨r1, s2, q3, h⟩ := bd_ok h
  refine wc_iS (pc := 3)  C [.int a1, .int (0 : Int32), .int (3 : Int32)] [] (mX10_in q3) dX10_copy_3 mw_X10_in ks_X10_in kl_X10_162 rfl rfl (Nat.le_of_ble_eq_true rfl) ⟨by decide, by decide⟩ ?_
  refine ws_if_eq (pc := 6) (tgt := 18) C dX10_copy_6 (by decide) (fun c4 => ?_) (fun c4 => ?_)
  · have h := ite_t h c4
    refine ws_bipush (pc := 18) C dX10_copy_18 cb_m2 ?_
    exact wr_i (pc := 20) C R dX10_copy_20 rfl h
  · have h := ite_f h c4
    refine ws_iload_n (pc := 9) C dX10_copy_9 rfl 3 rfl ?_
    refine ws_iconst (pc := 10) C dX10_copy_10 ci_0 ?_
    refine ws_iconst (pc := 11) C dX10_copy_11 ci_3 ?_
    obtain ⟨r5, s6, q7, h⟩ := bd_ok h
    refine wc_iS (pc := 12)  C [.int a3, .int (0 : Int32), .int (3 : Int32)] [] (mX10_in q7) dX10_copy_12 mw_X10_in ks_X10_in kl_X10_162 rfl rfl (Nat.le_of_ble_eq_true rfl) ⟨by decide, by decide⟩ ?_
    refine ws_if_ne (pc := 15) (tgt := 21) C dX10_copy_15 (by decide) (fun c8 => ?_) (fun c8 => ?_)
    · have h := ite_f h c8
      refine ws_aload_n (pc := 21) C dX10_copy_21 rfl 0 rfl ?_
      refine ws_getr (pc := 22) C dX10_copy_22 fd_X10_83 sf_M_34 ?_
      refine ws_iload_n (pc := 25) C dX10_copy_25 rfl 1 rfl ?_
      obtain ⟨g9, h⟩ := gd_ok h
      refine ws_ialdK (pc := 26) C dX10_copy_26 sr_m_sheetSort g9 rfl ?_
      refine ws_iconst (pc := 27) C dX10_copy_27 ci_m1 ?_
      refine ws_icmp_eq (pc := 28) (tgt := 41) C dX10_copy_28 (by decide) (fun c10 => ?_) (fun c10 => ?_)
      · have h := ite_t h c10
        refine ws_bipush (pc := 41) C dX10_copy_41 cb_m11 ?_
        exact wr_i (pc := 43) C R dX10_copy_43 rfl h
      · have h := ite_f h c10
        refine ws_aload_n (pc := 31) C dX10_copy_31 rfl 0 rfl ?_
        refine ws_getr (pc := 32) C dX10_copy_32 fd_X10_83 sf_M_34 ?_
        refine ws_iload_n (pc := 35) C dX10_copy_35 rfl 3 rfl ?_
        obtain ⟨g11, h⟩ := gd_ok h
        refine ws_ialdK (pc := 36) C dX10_copy_36 sr_m_sheetSort g11 rfl ?_
        refine ws_iconst (pc := 37) C dX10_copy_37 ci_m1 ?_
        refine ws_icmp_ne (pc := 38) (tgt := 44) C dX10_copy_38 (by decide) (fun c12 => ?_) (fun c12 => ?_)
        · have h := ite_f h c12
          refine ws_aload_n (pc := 44) C dX10_copy_44 rfl 0 rfl ?_
          refine ws_getr (pc := 45) C dX10_copy_45 fd_X10_83 sf_M_34 ?_
          refine ws_iload_n (pc := 48) C dX10_copy_48 rfl 1 rfl ?_
          obtain ⟨g13, h⟩ := gd_ok h
          refine ws_ialdK (pc := 49) C dX10_copy_49 sr_m_sheetSort g13 rfl ?_
          refine ws_aload_n (pc := 50) C dX10_copy_50 rfl 0 rfl ?_
          refine ws_getr (pc := 51) C dX10_copy_51 fd_X10_83 sf_M_34 ?_
          refine ws_iload_n (pc := 54) C dX10_copy_54 rfl 3 rfl ?_
          obtain ⟨g14, h⟩ := gd_ok h
          refine ws_ialdK (pc := 55) C dX10_copy_55 sr_m_sheetSort g14 rfl ?_
          refine ws_icmp_eq (pc := 56) (tgt := 62) C dX10_copy_56 (by decide) (fun c15 => ?_) (fun c15 => ?_)
          · have h := ite_t h c15
            refine ws_iload (pc := 62) C dX10_copy_62 5 rfl ?_
            refine ws_if_lt (pc := 64) (tgt := 124) C dX10_copy_64 (by decide) (fun c16 => ?_) (fun c16 => ?_)
            · have h := ite_t h c16
              refine ws_bipush (pc := 124) C dX10_copy_124 cb_m12 ?_
              exact wr_i (pc := 126) C R dX10_copy_126 rfl h
            · have h := ite_f h c16
              refine ws_iload_n (pc := 67) C dX10_copy_67 rfl 2 rfl ?_
              refine ws_if_lt (pc := 68) (tgt := 124) C dX10_copy_68 (by decide) (fun c17 => ?_) (fun c17 => ?_)
              · have h := ite_t h c17
                refine ws_bipush (pc := 124) C dX10_copy_124 cb_m12 ?_
                exact wr_i (pc := 126) C R dX10_copy_126 rfl h
              · have h := ite_f h c17
                refine ws_iload (pc := 71) C dX10_copy_71 4 rfl ?_
                refine ws_if_lt (pc := 73) (tgt := 124) C dX10_copy_73 (by decide) (fun c18 => ?_) (fun c18 => ?_)
                · have h := ite_t h c18
                  refine ws_bipush (pc := 124) C dX10_copy_124 cb_m12 ?_
                  exact wr_i (pc := 126) C R dX10_copy_126 rfl h
                · have h := ite_f h c18
                  refine ws_iload_n (pc := 76) C dX10_copy_76 rfl 2 rfl ?_
                  refine ws_aload_n (pc := 77) C dX10_copy_77 rfl 0 rfl ?_
                  refine ws_getr (pc := 78) C dX10_copy_78 fd_X10_86 sf_M_35 ?_
                  refine ws_iload_n (pc := 81) C dX10_copy_81 rfl 1 rfl ?_
                  obtain ⟨g19, h⟩ := gd_ok h
                  refine ws_ialdK (pc := 82) C dX10_copy_82 sr_m_sheetSize g19 rfl ?_
                  refine ws_icmp_gt (pc := 83) (tgt := 124) C dX10_copy_83 (by decide) (fun c20 => ?_) (fun c20 => ?_)
                  · have h := ite_t h c20
                    refine ws_bipush (pc := 124) C dX10_copy_124 cb_m12 ?_
                    exact wr_i (pc := 126) C R dX10_copy_126 rfl h
                  · have h := ite_f h c20
                    refine ws_iload (pc := 86) C dX10_copy_86 4 rfl ?_
                    refine ws_aload_n (pc := 88) C dX10_copy_88 rfl 0 rfl ?_
                    refine ws_getr (pc := 89) C dX10_copy_89 fd_X10_86 sf_M_35 ?_
                    refine ws_iload_n (pc := 92) C dX10_copy_92 rfl 3 rfl ?_
                    obtain ⟨g21, h⟩ := gd_ok h
                    refine ws_ialdK (pc := 93) C dX10_copy_93 sr_m_sheetSize g21 rfl ?_
                    refine ws_icmp_gt (pc := 94) (tgt := 124) C dX10_copy_94 (by decide) (fun c22 => ?_) (fun c22 => ?_)
                    · have h := ite_t h c22
                      refine ws_bipush (pc := 124) C dX10_copy_124 cb_m12 ?_
                      exact wr_i (pc := 126) C R dX10_copy_126 rfl h
                    · have h := ite_f h c22
                      refine ws_iload (pc := 97) C dX10_copy_97 5 rfl ?_
                      refine ws_aload_n (pc := 99) C dX10_copy_99 rfl 0 rfl ?_
                      refine ws_getr (pc := 100) C dX10_copy_100 fd_X10_86 sf_M_35 ?_
                      refine ws_iload_n (pc := 103) C dX10_copy_103 rfl 1 rfl ?_
                      obtain ⟨g23, h⟩ := gd_ok h
                      refine ws_ialdK (pc := 104) C dX10_copy_104 sr_m_sheetSize g23 rfl ?_
                      refine ws_iload_n (pc := 105) C dX10_copy_105 rfl 2 rfl ?_
                      refine ws_isub (pc := 106) C dX10_copy_106 ?_
                      refine ws_icmp_gt (pc := 107) (tgt := 124) C dX10_copy_107 (by decide) (fun c24 => ?_) (fun c24 => ?_)
                      · have h := ite_t h c24
                        refine ws_bipush (pc := 124) C dX10_copy_124 cb_m12 ?_
                        exact wr_i (pc := 126) C R dX10_copy_126 rfl h
                      · have h := ite_f h c24
                        refine ws_iload (pc := 110) C dX10_copy_110 5 rfl ?_
                        refine ws_aload_n (pc := 112) C dX10_copy_112 rfl 0 rfl ?_
                        refine ws_getr (pc := 113) C dX10_copy_113 fd_X10_86 sf_M_35 ?_
                        refine ws_iload_n (pc := 116) C dX10_copy_116 rfl 3 rfl ?_
                        obtain ⟨g25, h⟩ := gd_ok h
                        refine ws_ialdK (pc := 117) C dX10_copy_117 sr_m_sheetSize g25 rfl ?_
                        refine ws_iload (pc := 118) C dX10_copy_118 4 rfl ?_
                        refine ws_isub (pc := 120) C dX10_copy_120 ?_
                        refine ws_icmp_le (pc := 121) (tgt := 127) C dX10_copy_121 (by decide) (fun c26 => ?_) (fun c26 => ?_)
                        · have h := ite_t h c26
                          refine ws_bipush (pc := 127) C dX10_copy_127 cb_41 ?_
                          refine ws_iload_n (pc := 129) C dX10_copy_129 rfl 1 rfl ?_
                          refine ws_imul (pc := 130) C dX10_copy_130 ?_
                          refine ws_iload_n (pc := 131) C dX10_copy_131 rfl 2 rfl ?_
                          refine ws_iadd (pc := 132) C dX10_copy_132 ?_
                          obtain ⟨v27, e28, h⟩ := lz_ok h
                          refine ws_topi C e28 ?_
                          refine ws_istore (pc := 133) C dX10_copy_133 (by decide) rfl ?_
                          refine ws_bipush (pc := 135) C dX10_copy_135 cb_41 ?_
                          refine ws_iload_n (pc := 137) C dX10_copy_137 rfl 4 rfl ?_
                          refine ws_imul (pc := 138) C dX10_copy_138 ?_
                          refine ws_iload (pc := 139) C dX10_copy_139 5 rfl ?_
                          refine ws_iadd (pc := 141) C dX10_copy_141 ?_
                          obtain ⟨v29, e30, h⟩ := lz_ok h
                          refine ws_topi C e30 ?_
                          refine ws_istore (pc := 142) C dX10_copy_142 (by decide) rfl ?_
                          refine ws_iconst (pc := 144) C dX10_copy_144 ci_0 ?_
                          refine ws_istore (pc := 145) C dX10_copy_145 (by decide) rfl ?_
                          refine ws_less [3, 8, 2, 1, 0] rfl ?_
                          refine pX10_copy_L147 C R (fun s31 h => ?_) fu _ _ h
                          · refine ws_iload (pc := 201) C dX10_copy_201 0 rfl ?_
                            exact wr_i (pc := 203) C R dX10_copy_203 rfl h
                        · have h := ite_f h c26
                          refine ws_bipush (pc := 124) C dX10_copy_124 cb_m12 ?_
                          exact wr_i (pc := 126) C R dX10_copy_126 rfl h
          · have h := ite_f h c15
            refine ws_bipush (pc := 59) C dX10_copy_59 cb_m13 ?_
            exact wr_i (pc := 61) C R dX10_copy_61 rfl h
        · have h := ite_t h c12
          refine ws_bipush (pc := 41) C dX10_copy_41 cb_m11 ?_
          exact wr_i (pc := 43) C R dX10_copy_43 rfl h
    · have h := ite_t h c8
      refine ws_bipush (pc := 18) C dX10_copy_18 cb_m2 ?_
      exact wr_i (pc := 20) C R dX10_copy_20 rfl h
set_option maxRecDepth 20000 in
set_option maxHeartbeats 4000000 in
theorem pX10_tripsBy_L64 {Y : xY} {Z : xZ} {B : xB} {z : Int32 × xM} (C : xC (GM Y) Z B "BetweenStopsModel" cX10_tripsBy 9 4) (R : xRi (GM Y) B .int z) {k102 : xM → Option (Int32 × xM)} {k171 : Int32 → xM → Option (Int32 × xM)} {a1 : Int32} {a3 : Int32} {a4 : Int32}
    (hk102 : ∀  (s : xM), k102 s = some z → xWS (GM Y) B 9 s [] 102 [])
    (hk171 : ∀ (a5 : Int32) (s : xM), k171 a5 s = some z → xWS (GM Y) B 9 s [(5, .int a5)] 171 []) : ∀ (n : Nat) (a5 : Int32) (a6 : Int32) (s : xM), fX10_tripsBy_L64 k102 k171 a1 a3 a4 n a5 a6 s = some z → xWS (GM Y) B 9 s [(0, .ref (Y.1 0)), (1, .int a1), (3, .int a3), (4, .int a4), (5, .int a5), (6, .int a6)] 64 [] := by
  intro n
  induction n with
  | zero =>
    intro a5 a6 s h
    rw [fX10_tripsBy_L64] at h
    cases h
  | succ n ih =>
    intro a5 a6 s h
    rw [fX10_tripsBy_L64] at h
    refine ws_iload (pc := 64) C dX10_tripsBy_64 5 rfl ?_
    refine ws_iload (pc := 66) C dX10_tripsBy_66 3 rfl ?_
    refine ws_icmp_ge (pc := 68) (tgt := 171) C dX10_tripsBy_68 (by decide) (fun c1 => ?_) (fun c1 => ?_)
    · have h := ite_t h c1
      refine ws_less [4] rfl ?_
      exact hk171 _ _ h
    · have h := ite_f h c1
      refine ws_iload_n (pc := 71) C dX10_tripsBy_71 rfl 2 rfl ?_
      refine ws_iconst (pc := 72) C dX10_tripsBy_72 ci_4 ?_
      refine ws_iload (pc := 73) C dX10_tripsBy_73 5 rfl ?_
      refine ws_imul (pc := 75) C dX10_tripsBy_75 ?_
      refine ws_iadd (pc := 76) C dX10_tripsBy_76 ?_
      obtain ⟨v2, e3, h⟩ := lz_ok h
      refine ws_topi C e3 ?_
      refine ws_istore (pc := 77) C dX10_tripsBy_77 (by decide) rfl ?_
      refine ws_iload_n (pc := 79) C dX10_tripsBy_79 rfl 3 rfl ?_
      refine ws_if_lt (pc := 80) (tgt := 102) C dX10_tripsBy_80 (by decide) (fun c4 => ?_) (fun c4 => ?_)
      · have h := ite_t h c4
        refine ws_less [] rfl ?_
        exact hk102 _ h
      · have h := ite_f h c4
        refine ws_iload (pc := 83) C dX10_tripsBy_83 0 rfl ?_
        refine ws_iload_n (pc := 85) C dX10_tripsBy_85 rfl 3 rfl ?_
        refine ws_icmp_lt (pc := 86) (tgt := 102) C dX10_tripsBy_86 (by decide) (fun c5 => ?_) (fun c5 => ?_)
        · have h := ite_t h c5
          refine ws_less [] rfl ?_
          exact hk102 _ h
        · have h := ite_f h c5
          refine ws_iload (pc := 89) C dX10_tripsBy_89 0 rfl ?_
          refine ws_aload_n (pc := 91) C dX10_tripsBy_91 rfl 1 rfl ?_
          refine ws_getr (pc := 92) C dX10_tripsBy_92 fd_X10_86 sf_M_35 ?_
          refine ws_iload_n (pc := 95) C dX10_tripsBy_95 rfl 2 rfl ?_
          obtain ⟨g6, h⟩ := gd_ok h
          refine ws_ialdK (pc := 96) C dX10_tripsBy_96 sr_m_sheetSize g6 rfl ?_
          refine ws_iconst (pc := 97) C dX10_tripsBy_97 ci_4 ?_
          refine ws_isub (pc := 98) C dX10_tripsBy_98 ?_
          refine ws_icmp_le (pc := 99) (tgt := 105) C dX10_tripsBy_99 (by decide) (fun c7 => ?_) (fun c7 => ?_)
          · have h := ite_t h c7
            refine ws_bipush (pc := 105) C dX10_tripsBy_105 cb_41 ?_
            refine ws_iload_n (pc := 107) C dX10_tripsBy_107 rfl 2 rfl ?_
            refine ws_imul (pc := 108) C dX10_tripsBy_108 ?_
            refine ws_iload (pc := 109) C dX10_tripsBy_109 0 rfl ?_
            refine ws_iadd (pc := 111) C dX10_tripsBy_111 ?_
            obtain ⟨v8, e9, h⟩ := lz_ok h
            refine ws_topi C e9 ?_
            refine ws_istore (pc := 112) C dX10_tripsBy_112 (by decide) rfl ?_
            refine ws_iload (pc := 114) C dX10_tripsBy_114 6 rfl ?_
            refine ws_aload_n (pc := 116) C dX10_tripsBy_116 rfl 2 rfl ?_
            refine ws_aload_n (pc := 117) C dX10_tripsBy_117 rfl 2 rfl ?_
            refine ws_getr (pc := 118) C dX10_tripsBy_118 fd_X10_89 sf_M_36 ?_
            refine ws_iload (pc := 121) C dX10_tripsBy_121 0 rfl ?_
            obtain ⟨g10, h⟩ := gd_ok h
            refine ws_ialdK (pc := 123) C dX10_tripsBy_123 sr_m_cells g10 rfl ?_
            refine ws_aload_n (pc := 124) C dX10_tripsBy_124 rfl 2 rfl ?_
            refine ws_getr (pc := 125) C dX10_tripsBy_125 fd_X10_89 sf_M_36 ?_
            refine ws_iload (pc := 128) C dX10_tripsBy_128 0 rfl ?_
            refine ws_iconst (pc := 130) C dX10_tripsBy_130 ci_1 ?_
            refine ws_iadd (pc := 131) C dX10_tripsBy_131 ?_
            obtain ⟨g11, h⟩ := gd_ok h
            refine ws_ialdK (pc := 132) C dX10_tripsBy_132 sr_m_cells g11 rfl ?_
            refine ws_aload_n (pc := 133) C dX10_tripsBy_133 rfl 2 rfl ?_
            refine ws_getr (pc := 134) C dX10_tripsBy_134 fd_X10_89 sf_M_36 ?_
            refine ws_iload (pc := 137) C dX10_tripsBy_137 0 rfl ?_
            refine ws_iconst (pc := 139) C dX10_tripsBy_139 ci_2 ?_
            refine ws_iadd (pc := 140) C dX10_tripsBy_140 ?_
            obtain ⟨g12, h⟩ := gd_ok h
            refine ws_ialdK (pc := 141) C dX10_tripsBy_141 sr_m_cells g12 rfl ?_
            refine ws_aload_n (pc := 142) C dX10_tripsBy_142 rfl 2 rfl ?_
            refine ws_getr (pc := 143) C dX10_tripsBy_143 fd_X10_89 sf_M_36 ?_
            refine ws_iload (pc := 146) C dX10_tripsBy_146 0 rfl ?_
            refine ws_iconst (pc := 148) C dX10_tripsBy_148 ci_3 ?_
            refine ws_iadd (pc := 149) C dX10_tripsBy_149 ?_
            obtain ⟨g13, h⟩ := gd_ok h
            refine ws_ialdK (pc := 150) C dX10_tripsBy_150 sr_m_cells g13 rfl ?_
            obtain ⟨r14, s15, q16, h⟩ := bd_ok h
            refine wc_iV (pc := 151)  C [.int (gi s 24 v8.toNatClampNeg), .int (gi s 24 (v8 + (1 : Int32)).toNatClampNeg), .int (gi s 24 (v8 + (2 : Int32)).toNatClampNeg), .int (gi s 24 (v8 + (3 : Int32)).toNatClampNeg)] [.int a5] (mX10_trip q16) dX10_tripsBy_151 mw_X10_trip mv_X10_trip kl_X10_412 so_M rfl rfl (Nat.le_of_ble_eq_true rfl) ⟨by decide, by decide⟩ ?_
            refine ws_if_lt (pc := 154) (tgt := 161) C dX10_tripsBy_154 (by decide) (fun c17 => ?_) (fun c17 => ?_)
            · have h := ite_t h c17
              refine ws_iconst (pc := 161) C dX10_tripsBy_161 ci_0 ?_
              refine ws_iadd (pc := 162) C dX10_tripsBy_162 ?_
              obtain ⟨v18, e19, h⟩ := lz_ok h
              refine ws_topi C e19 ?_
              refine ws_istore (pc := 163) C dX10_tripsBy_163 (by decide) rfl ?_
              refine ws_iinc (j := 7) (pc := 165) C dX10_tripsBy_165 rfl (cn_1 _) (by decide) rfl ?_
              refine ws_goto (pc := 168) (tgt := 64) C dX10_tripsBy_168 (by decide) ?_
              refine ws_less [4, 5, 6, 7, 1, 0] rfl ?_
              exact ih _ _ _ h
            · have h := ite_f h c17
              refine ws_iconst (pc := 157) C dX10_tripsBy_157 ci_1 ?_
              refine ws_goto (pc := 158) (tgt := 162) C dX10_tripsBy_158 (by decide) ?_
              refine ws_iadd (pc := 162) C dX10_tripsBy_162 ?_
              obtain ⟨v20, e21, h⟩ := lz_ok h
              refine ws_topi C e21 ?_
              refine ws_istore (pc := 163) C dX10_tripsBy_163 (by decide) rfl ?_
              refine ws_iinc (j := 7) (pc := 165) C dX10_tripsBy_165 rfl (cn_1 _) (by decide) rfl ?_
              refine ws_goto (pc := 168) (tgt := 64) C dX10_tripsBy_168 (by decide) ?_
              refine ws_less [4, 5, 6, 7, 1, 0] rfl ?_
              exact ih _ _ _ h
          · have h := ite_f h c7
            refine ws_less [] rfl ?_
            exact hk102 _ h
set_option maxRecDepth 20000 in
set_option maxHeartbeats 4000000 in
theorem mX10_tripsBy {Y : xY} {Z : xZ} {a1 : Int32} {a2 : Int32} {a3 : Int32} {a4 : Int32} {s : xM} {z : Int32 × xM} (h : fX10_tripsBy a1 a2 a3 a4 s = some z) : xMi (GM Y) Z yX10_tripsBy cX10_tripsBy 9 4 .int [.ref (Y.1 0), .int a1, .int a2, .int a3, .int a4] s z := by
  refine xMi_of (by decide) (Nat.le_of_ble_eq_true rfl) (fun B C R => ?_)
  have C : xC (GM Y) Z B "BetweenStopsModel" cX10_tripsBy 9 4 := C
  show xWS (GM Y) B 9 s [(0, .ref (Y.1 0)), (1, .int a1), (2, .int a2), (3, .int a3), (4, .int a4)] 0 []
  unfold fX10_tripsBy at h
  refine ws_iload_n (pc := 0) C dX10_tripsBy_0 rfl 1 rfl ?_
  refine ws_iconst (pc := 1) C dX10_tripsBy_1 ci_0 ?_
  refine ws_iconst (pc := 2) C dX10_tripsBy_2 ci_3 ?_
  obtain ⟨r1, s2, q3, h⟩ := bd_ok h
  refine wc_iS (pc := 3)  C [.int a1, .int (0 : Int32), .int (3 : Int32)] [] (mX10_in q3) dX10_tripsBy_3 mw_X10_in ks_X10_in kl_X10_162 rfl rfl (Nat.le_of_ble_eq_true rfl) ⟨by decide, by decide⟩ ?_
  refine ws_if_eq (pc := 6) (tgt := 29) C dX10_tripsBy_6 (by decide) (fun c4 => ?_) (fun c4 => ?_)
  · have h := ite_t h c4
    refine ws_bipush (pc := 29) C dX10_tripsBy_29 cb_m2 ?_
    exact wr_i (pc := 31) C R dX10_tripsBy_31 rfl h
  · have h := ite_f h c4
    refine ws_iload_n (pc := 9) C dX10_tripsBy_9 rfl 2 rfl ?_
    refine ws_iconst (pc := 10) C dX10_tripsBy_10 ci_0 ?_
    refine ws_iconst (pc := 11) C dX10_tripsBy_11 ci_2 ?_
    obtain ⟨r5, s6, q7, h⟩ := bd_ok h
    refine wc_iS (pc := 12)  C [.int a2, .int (0 : Int32), .int (2 : Int32)] [] (mX10_in q7) dX10_tripsBy_12 mw_X10_in ks_X10_in kl_X10_162 rfl rfl (Nat.le_of_ble_eq_true rfl) ⟨by decide, by decide⟩ ?_
    refine ws_if_eq (pc := 15) (tgt := 29) C dX10_tripsBy_15 (by decide) (fun c8 => ?_) (fun c8 => ?_)
    · have h := ite_t h c8
      refine ws_bipush (pc := 29) C dX10_tripsBy_29 cb_m2 ?_
      exact wr_i (pc := 31) C R dX10_tripsBy_31 rfl h
    · have h := ite_f h c8
      refine ws_iload (pc := 18) C dX10_tripsBy_18 4 rfl ?_
      refine ws_iconst (pc := 20) C dX10_tripsBy_20 ci_0 ?_
      refine ws_bipush (pc := 21) C dX10_tripsBy_21 cb_8 ?_
      obtain ⟨r9, s10, q11, h⟩ := bd_ok h
      refine wc_iS (pc := 23)  C [.int a4, .int (0 : Int32), .int (8 : Int32)] [] (mX10_in q11) dX10_tripsBy_23 mw_X10_in ks_X10_in kl_X10_162 rfl rfl (Nat.le_of_ble_eq_true rfl) ⟨by decide, by decide⟩ ?_
      refine ws_if_ne (pc := 26) (tgt := 32) C dX10_tripsBy_26 (by decide) (fun c12 => ?_) (fun c12 => ?_)
      · have h := ite_f h c12
        refine ws_aload_n (pc := 32) C dX10_tripsBy_32 rfl 0 rfl ?_
        refine ws_getr (pc := 33) C dX10_tripsBy_33 fd_X10_83 sf_M_34 ?_
        refine ws_iload_n (pc := 36) C dX10_tripsBy_36 rfl 1 rfl ?_
        obtain ⟨g13, h⟩ := gd_ok h
        refine ws_ialdK (pc := 37) C dX10_tripsBy_37 sr_m_sheetSort g13 rfl ?_
        refine ws_iconst (pc := 38) C dX10_tripsBy_38 ci_m1 ?_
        refine ws_icmp_ne (pc := 39) (tgt := 45) C dX10_tripsBy_39 (by decide) (fun c14 => ?_) (fun c14 => ?_)
        · have h := ite_f h c14
          refine ws_aload_n (pc := 45) C dX10_tripsBy_45 rfl 0 rfl ?_
          refine ws_getr (pc := 46) C dX10_tripsBy_46 fd_X10_83 sf_M_34 ?_
          refine ws_iload_n (pc := 49) C dX10_tripsBy_49 rfl 1 rfl ?_
          obtain ⟨g15, h⟩ := gd_ok h
          refine ws_ialdK (pc := 50) C dX10_tripsBy_50 sr_m_sheetSort g15 rfl ?_
          refine ws_iload_n (pc := 51) C dX10_tripsBy_51 rfl 2 rfl ?_
          refine ws_icmp_eq (pc := 52) (tgt := 58) C dX10_tripsBy_52 (by decide) (fun c16 => ?_) (fun c16 => ?_)
          · have h := ite_t h c16
            refine ws_iconst (pc := 58) C dX10_tripsBy_58 ci_0 ?_
            refine ws_istore (pc := 59) C dX10_tripsBy_59 (by decide) rfl ?_
            refine ws_iconst (pc := 61) C dX10_tripsBy_61 ci_0 ?_
            refine ws_istore (pc := 62) C dX10_tripsBy_62 (by decide) rfl ?_
            refine ws_less [2, 3, 5, 6, 1, 0] rfl ?_
            refine pX10_tripsBy_L64 C R (fun s17 h => ?_) (fun x18 s19 h => ?_) fu _ _ _ h
            · refine ws_bipush (pc := 102) C dX10_tripsBy_102 cb_m12 ?_
              exact wr_i (pc := 104) C R dX10_tripsBy_104 rfl h
            · refine ws_iload (pc := 171) C dX10_tripsBy_171 0 rfl ?_
              exact wr_i (pc := 173) C R dX10_tripsBy_173 rfl h
          · have h := ite_f h c16
            refine ws_bipush (pc := 55) C dX10_tripsBy_55 cb_m13 ?_
            exact wr_i (pc := 57) C R dX10_tripsBy_57 rfl h
        · have h := ite_t h c14
          refine ws_bipush (pc := 42) C dX10_tripsBy_42 cb_m11 ?_
          exact wr_i (pc := 44) C R dX10_tripsBy_44 rfl h
      · have h := ite_t h c12
        refine ws_bipush (pc := 29) C dX10_tripsBy_29 cb_m2 ?_
        exact wr_i (pc := 31) C R dX10_tripsBy_31 rfl h
set_option maxRecDepth 20000 in
set_option maxHeartbeats 4000000 in
theorem pX10_isUnder_J19 {Y : xY} {Z : xZ} {B : xB} {z : Int32 × xM} (C : xC (GM Y) Z B "BetweenStopsModel" cX10_isUnder 2 1) (R : xRi (GM Y) B .boolean z) {a0 : Int32} {a1 : Int32} {s : xM} (h : fX10_isUnder_J19 a0 a1 s = some z) : xWS (GM Y) B 2 s [(0, .int a0), (1, .int a1)] 19 [] := by
  unfold fX10_isUnder_J19 at h
  refine ws_iload_n (pc := 19) C dX10_isUnder_19 rfl 1 rfl ?_
  refine ws_iconst (pc := 20) C dX10_isUnder_20 ci_2 ?_
  refine ws_icmp_ne (pc := 21) (tgt := 33) C dX10_isUnder_21 (by decide) (fun c1 => ?_) (fun c1 => ?_)
  · have h := ite_f h c1
    refine ws_iconst (pc := 33) C dX10_isUnder_33 ci_0 ?_
    exact wr_i (pc := 34) C R dX10_isUnder_34 (isZ_nar isZ0) h
  · have h := ite_t h c1
    refine ws_iload_n (pc := 24) C dX10_isUnder_24 rfl 0 rfl ?_
    refine ws_iconst (pc := 25) C dX10_isUnder_25 ci_4 ?_
    refine ws_icmp_ne (pc := 26) (tgt := 33) C dX10_isUnder_26 (by decide) (fun c2 => ?_) (fun c2 => ?_)
    · have h := ite_f h c2
      refine ws_iconst (pc := 33) C dX10_isUnder_33 ci_0 ?_
      exact wr_i (pc := 34) C R dX10_isUnder_34 (isZ_nar isZ0) h
    · have h := ite_t h c2
      refine ws_iconst (pc := 29) C dX10_isUnder_29 ci_1 ?_
      refine ws_goto (pc := 30) (tgt := 34) C dX10_isUnder_30 (by decide) ?_
      exact wr_i (pc := 34) C R dX10_isUnder_34 (isZ_nar isZ1) h
set_option maxRecDepth 20000 in
set_option maxHeartbeats 4000000 in
theorem mX10_isUnder {Y : xY} {Z : xZ} {a0 : Int32} {a1 : Int32} {s : xM} {z : Int32 × xM} (h : fX10_isUnder a0 a1 s = some z) : xMi (GM Y) Z yX10_isUnder cX10_isUnder 2 1 .boolean [.int a0, .int a1] s z := by
  refine xMi_of (by decide) (Nat.le_of_ble_eq_true rfl) (fun B C R => ?_)
  have C : xC (GM Y) Z B "BetweenStopsModel" cX10_isUnder 2 1 := C
  show xWS (GM Y) B 2 s [(0, .int a0), (1, .int a1)] 0 []
  unfold fX10_isUnder at h
  refine ws_iload_n (pc := 0) C dX10_isUnder_0 rfl 1 rfl ?_
  refine ws_if_eq (pc := 1) (tgt := 29) C dX10_isUnder_1 (by decide) (fun c1 => ?_) (fun c1 => ?_)
  · have h := ite_t h c1
    refine ws_iconst (pc := 29) C dX10_isUnder_29 ci_1 ?_
    refine ws_goto (pc := 30) (tgt := 34) C dX10_isUnder_30 (by decide) ?_
    exact wr_i (pc := 34) C R dX10_isUnder_34 (isZ_nar isZ1) h
  · have h := ite_f h c1
    refine ws_iload_n (pc := 4) C dX10_isUnder_4 rfl 0 rfl ?_
    refine ws_iload_n (pc := 5) C dX10_isUnder_5 rfl 1 rfl ?_
    refine ws_icmp_eq (pc := 6) (tgt := 29) C dX10_isUnder_6 (by decide) (fun c2 => ?_) (fun c2 => ?_)
    · have h := ite_t h c2
      refine ws_iconst (pc := 29) C dX10_isUnder_29 ci_1 ?_
      refine ws_goto (pc := 30) (tgt := 34) C dX10_isUnder_30 (by decide) ?_
      exact wr_i (pc := 34) C R dX10_isUnder_34 (isZ_nar isZ1) h
    · have h := ite_f h c2
      refine ws_iload_n (pc := 9) C dX10_isUnder_9 rfl 1 rfl ?_
      refine ws_iconst (pc := 10) C dX10_isUnder_10 ci_1 ?_
      refine ws_icmp_ne (pc := 11) (tgt := 19) C dX10_isUnder_11 (by decide) (fun c3 => ?_) (fun c3 => ?_)
      · have h := ite_f h c3
        refine ws_less [0, 1] rfl ?_
        exact pX10_isUnder_J19 C R h
      · have h := ite_t h c3
        refine ws_iload_n (pc := 14) C dX10_isUnder_14 rfl 0 rfl ?_
        refine ws_iconst (pc := 15) C dX10_isUnder_15 ci_5 ?_
        refine ws_icmp_eq (pc := 16) (tgt := 29) C dX10_isUnder_16 (by decide) (fun c4 => ?_) (fun c4 => ?_)
        · have h := ite_t h c4
          refine ws_iconst (pc := 29) C dX10_isUnder_29 ci_1 ?_
          refine ws_goto (pc := 30) (tgt := 34) C dX10_isUnder_30 (by decide) ?_
          exact wr_i (pc := 34) C R dX10_isUnder_34 (isZ_nar isZ1) h
        · have h := ite_f h c4
          refine ws_less [0, 1] rfl ?_
          exact pX10_isUnder_J19 C R h
set_option maxRecDepth 20000 in
set_option maxHeartbeats 4000000 in
theorem mX10_taken {Y : xY} {Z : xZ} {a1 : Int32} {a2 : Int32} {s : xM} {z : Int32 × xM} (h : fX10_taken a1 a2 s = some z) : xMi (GM Y) Z yX10_taken cX10_taken 3 2 .int [.ref (Y.1 0), .int a1, .int a2] s z := by
  refine xMi_of (by decide) (Nat.le_of_ble_eq_true rfl) (fun B C R => ?_)
  have C : xC (GM Y) Z B "BetweenStopsModel" cX10_taken 3 2 := C
  show xWS (GM Y) B 3 s [(0, .ref (Y.1 0)), (1, .int a1), (2, .int a2)] 0 []
  unfold fX10_taken at h
  refine ws_iload_n (pc := 0) C dX10_taken_0 rfl 2 rfl ?_
  refine ws_iconst (pc := 1) C dX10_taken_1 ci_0 ?_
  refine ws_bipush (pc := 2) C dX10_taken_2 cb_6 ?_
  obtain ⟨r1, s2, q3, h⟩ := bd_ok h
  refine wc_iS (pc := 4)  C [.int a2, .int (0 : Int32), .int (6 : Int32)] [] (mX10_in q3) dX10_taken_4 mw_X10_in ks_X10_in kl_X10_162 rfl rfl (Nat.le_of_ble_eq_true rfl) ⟨by decide, by decide⟩ ?_
  refine ws_if_ne (pc := 7) (tgt := 13) C dX10_taken_7 (by decide) (fun c4 => ?_) (fun c4 => ?_)
  · have h := ite_f h c4
    refine ws_iload_n (pc := 13) C dX10_taken_13 rfl 1 rfl ?_
    refine ws_iconst (pc := 14) C dX10_taken_14 ci_0 ?_
    refine ws_bipush (pc := 15) C dX10_taken_15 cb_15 ?_
    obtain ⟨r5, s6, q7, h⟩ := bd_ok h
    refine wc_iS (pc := 17)  C [.int a1, .int (0 : Int32), .int (15 : Int32)] [] (mX10_in q7) dX10_taken_17 mw_X10_in ks_X10_in kl_X10_162 rfl rfl (Nat.le_of_ble_eq_true rfl) ⟨by decide, by decide⟩ ?_
    refine ws_if_ne (pc := 20) (tgt := 26) C dX10_taken_20 (by decide) (fun c8 => ?_) (fun c8 => ?_)
    · have h := ite_f h c8
      refine ws_iload_n (pc := 26) C dX10_taken_26 rfl 1 rfl ?_
      refine ws_bipush (pc := 27) C dX10_taken_27 cb_8 ?_
      refine ws_icmp_ge (pc := 29) (tgt := 63) C dX10_taken_29 (by decide) (fun c9 => ?_) (fun c9 => ?_)
      · have h := ite_t h c9
        refine ws_iload_n (pc := 63) C dX10_taken_63 rfl 1 rfl ?_
        refine ws_bipush (pc := 64) C dX10_taken_64 cb_8 ?_
        refine ws_isub (pc := 66) C dX10_taken_66 ?_
        refine ws_aload_n (pc := 67) C dX10_taken_67 rfl 0 rfl ?_
        refine ws_geti (pc := 68) C dX10_taken_68 fd_X10_166 sf_M_4 ?_
        refine ws_icmp_lt (pc := 71) (tgt := 79) C dX10_taken_71 (by decide) (fun c10 => ?_) (fun c10 => ?_)
        · have h := ite_t h c10
          refine ws_iload_n (pc := 79) C dX10_taken_79 rfl 2 rfl ?_
          refine ws_bipush (pc := 80) C dX10_taken_80 cb_6 ?_
          refine ws_icmp_ge (pc := 82) (tgt := 108) C dX10_taken_82 (by decide) (fun c11 => ?_) (fun c11 => ?_)
          · have h := ite_t h c11
            refine ws_bipush (pc := 108) C dX10_taken_108 cb_m13 ?_
            exact wr_i (pc := 110) C R dX10_taken_110 rfl h
          · have h := ite_f h c11
            refine ws_aload_n (pc := 85) C dX10_taken_85 rfl 0 rfl ?_
            refine ws_getr (pc := 86) C dX10_taken_86 fd_X10_23 sf_M_5 ?_
            refine ws_iload_n (pc := 89) C dX10_taken_89 rfl 1 rfl ?_
            refine ws_bipush (pc := 90) C dX10_taken_90 cb_8 ?_
            refine ws_isub (pc := 92) C dX10_taken_92 ?_
            obtain ⟨g12, h⟩ := gd_ok h
            refine ws_ialdK (pc := 93) C dX10_taken_93 sr_m_kind g12 rfl ?_
            refine ws_iload_n (pc := 94) C dX10_taken_94 rfl 2 rfl ?_
            obtain ⟨r13, s14, q15, h⟩ := bd_ok h
            refine wc_iS (pc := 95)  C [.int (gi s6 3 (a1 - (8 : Int32)).toNatClampNeg), .int a2] [] (mX10_isUnder q15) dX10_taken_95 mw_X10_isUnder ks_X10_isUnder kl_X10_416 rfl rfl (Nat.le_of_ble_eq_true rfl) ⟨by decide, by decide⟩ ?_
            refine ws_if_eq (pc := 98) (tgt := 108) C dX10_taken_98 (by decide) (fun c16 => ?_) (fun c16 => ?_)
            · have h := ite_t h c16
              refine ws_bipush (pc := 108) C dX10_taken_108 cb_m13 ?_
              exact wr_i (pc := 110) C R dX10_taken_110 rfl h
            · have h := ite_f h c16
              refine ws_iload_n (pc := 101) C dX10_taken_101 rfl 1 rfl ?_
              refine ws_bipush (pc := 102) C dX10_taken_102 cb_8 ?_
              refine ws_isub (pc := 104) C dX10_taken_104 ?_
              refine ws_goto (pc := 105) (tgt := 110) C dX10_taken_105 (by decide) ?_
              exact wr_i (pc := 110) C R dX10_taken_110 rfl h
        · have h := ite_f h c10
          refine ws_bipush (pc := 74) C dX10_taken_74 cb_m11 ?_
          refine ws_goto (pc := 76) (tgt := 110) C dX10_taken_76 (by decide) ?_
          exact wr_i (pc := 110) C R dX10_taken_110 rfl h
      · have h := ite_f h c9
        refine ws_iload_n (pc := 32) C dX10_taken_32 rfl 1 rfl ?_
        refine ws_aload_n (pc := 33) C dX10_taken_33 rfl 0 rfl ?_
        refine ws_geti (pc := 34) C dX10_taken_34 fd_X10_169 sf_M_12 ?_
        refine ws_icmp_lt (pc := 37) (tgt := 45) C dX10_taken_37 (by decide) (fun c17 => ?_) (fun c17 => ?_)
        · have h := ite_t h c17
          refine ws_iload_n (pc := 45) C dX10_taken_45 rfl 2 rfl ?_
          refine ws_bipush (pc := 46) C dX10_taken_46 cb_6 ?_
          refine ws_icmp_ne (pc := 48) (tgt := 60) C dX10_taken_48 (by decide) (fun c18 => ?_) (fun c18 => ?_)
          · have h := ite_f h c18
            refine ws_bipush (pc := 60) C dX10_taken_60 cb_m13 ?_
            exact wr_i (pc := 62) C R dX10_taken_62 rfl h
          · have h := ite_t h c18
            refine ws_aload_n (pc := 51) C dX10_taken_51 rfl 0 rfl ?_
            refine ws_getr (pc := 52) C dX10_taken_52 fd_X10_50 sf_M_15 ?_
            refine ws_iload_n (pc := 55) C dX10_taken_55 rfl 1 rfl ?_
            obtain ⟨g19, h⟩ := gd_ok h
            refine ws_ialdK (pc := 56) C dX10_taken_56 sr_m_tripMany g19 rfl ?_
            refine ws_goto (pc := 57) (tgt := 62) C dX10_taken_57 (by decide) ?_
            exact wr_i (pc := 62) C R dX10_taken_62 rfl h
        · have h := ite_f h c17
          refine ws_bipush (pc := 40) C dX10_taken_40 cb_m11 ?_
          refine ws_goto (pc := 42) (tgt := 62) C dX10_taken_42 (by decide) ?_
          exact wr_i (pc := 62) C R dX10_taken_62 rfl h
    · have h := ite_t h c8
      refine ws_bipush (pc := 23) C dX10_taken_23 cb_m12 ?_
      exact wr_i (pc := 25) C R dX10_taken_25 rfl h
  · have h := ite_t h c4
    refine ws_bipush (pc := 10) C dX10_taken_10 cb_m2 ?_
    exact wr_i (pc := 12) C R dX10_taken_12 rfl h
