set_option maxRecDepth 20000 in
set_option maxHeartbeats 4000000 in
theorem pX10_finds_L81 {Y : xY} {Z : xZ} {B : xB} {z : Int32 × xM} (C : xC (GM Y) Z B "BetweenStopsModel" cX10_finds 5 5) (R : xRv (GM Y) B z) {k110 : xM → Option (Int32 × xM)} {a1 : Int32} {a3 : Int32}
    (hk110 : ∀  (s : xM), k110 s = some z → xWS (GM Y) B 5 s [(0, .ref (Y.1 0)), (1, .int a1), (3, .int a3)] 110 []) : ∀ (n : Nat) (a4 : Int32) (s : xM), fX10_finds_L81 k110 a1 a3 n a4 s = some z → xWS (GM Y) B 5 s [(0, .ref (Y.1 0)), (1, .int a1), (3, .int a3), (4, .int a4)] 81 [] := by
  intro n
  induction n with
  | zero =>
    intro a4 s h
    rw [fX10_finds_L81] at h
    cases h
  | succ n ih =>
    intro a4 s h
    rw [fX10_finds_L81] at h
    refine ws_iload (pc := 81) C dX10_finds_81 3 rfl ?_
    refine ws_aload_n (pc := 83) C dX10_finds_83 rfl 0 rfl ?_
    refine ws_geti (pc := 84) C dX10_finds_84 fd_X10_166 sf_M_4 ?_
    refine ws_icmp_ge (pc := 87) (tgt := 110) C dX10_finds_87 (by decide) (fun c1 => ?_) (fun c1 => ?_)
    · have h := ite_t h c1
      refine ws_less [0, 1, 2] rfl ?_
      exact hk110 _ h
    · have h := ite_f h c1
      refine ws_iload_n (pc := 90) C dX10_finds_90 rfl 2 rfl ?_
      refine ws_iload (pc := 91) C dX10_finds_91 3 rfl ?_
      refine ws_icmp_eq (pc := 93) (tgt := 104) C dX10_finds_93 (by decide) (fun c2 => ?_) (fun c2 => ?_)
      · have h := ite_t h c2
        refine ws_iinc (j := 3) (pc := 104) C dX10_finds_104 rfl (cn_1 _) (by decide) rfl ?_
        refine ws_goto (pc := 107) (tgt := 81) C dX10_finds_107 (by decide) ?_
        refine ws_less [1, 2, 3, 0] rfl ?_
        exact ih _ _ h
      · have h := ite_f h c2
        refine ws_aload_n (pc := 96) C dX10_finds_96 rfl 0 rfl ?_
        refine ws_iload_n (pc := 97) C dX10_finds_97 rfl 1 rfl ?_
        refine ws_iload_n (pc := 98) C dX10_finds_98 rfl 2 rfl ?_
        refine ws_iload (pc := 99) C dX10_finds_99 3 rfl ?_
        obtain ⟨r3, s4, q5, h⟩ := bd_ok h
        refine wc_vV (pc := 101)  C [.int a1, .int a3, .int a4] [] (mX10_tries q5) dX10_finds_101 mw_X10_tries mv_X10_tries kl_X10_235 so_M rfl rfl (Nat.le_of_ble_eq_true rfl) ⟨by decide, by decide⟩ ?_
        refine ws_iinc (j := 3) (pc := 104) C dX10_finds_104 rfl (cn_1 _) (by decide) rfl ?_
        refine ws_goto (pc := 107) (tgt := 81) C dX10_finds_107 (by decide) ?_
        refine ws_less [1, 2, 3, 0] rfl ?_
        exact ih _ _ h
set_option maxRecDepth 20000 in
set_option maxHeartbeats 4000000 in
theorem pX10_finds_L70 {Y : xY} {Z : xZ} {B : xB} {z : Int32 × xM} (C : xC (GM Y) Z B "BetweenStopsModel" cX10_finds 5 5) (R : xRv (GM Y) B z) {k116 : xM → Option (Int32 × xM)} {a1 : Int32}
    (hk116 : ∀  (s : xM), k116 s = some z → xWS (GM Y) B 5 s [] 116 []) : ∀ (n : Nat) (a3 : Int32) (s : xM), fX10_finds_L70 k116 a1 n a3 s = some z → xWS (GM Y) B 5 s [(0, .ref (Y.1 0)), (1, .int a1), (3, .int a3)] 70 [] := by
  intro n
  induction n with
  | zero =>
    intro a3 s h
    rw [fX10_finds_L70] at h
    cases h
  | succ n ih =>
    intro a3 s h
    rw [fX10_finds_L70] at h
    refine ws_iload_n (pc := 70) C dX10_finds_70 rfl 2 rfl ?_
    refine ws_aload_n (pc := 71) C dX10_finds_71 rfl 0 rfl ?_
    refine ws_geti (pc := 72) C dX10_finds_72 fd_X10_166 sf_M_4 ?_
    refine ws_icmp_ge (pc := 75) (tgt := 116) C dX10_finds_75 (by decide) (fun c1 => ?_) (fun c1 => ?_)
    · have h := ite_t h c1
      refine ws_less [] rfl ?_
      exact hk116 _ h
    · have h := ite_f h c1
      refine ws_iconst (pc := 78) C dX10_finds_78 ci_0 ?_
      refine ws_istore (pc := 79) C dX10_finds_79 (by decide) rfl ?_
      refine ws_less [1, 2, 3, 0] rfl ?_
      refine pX10_finds_L81 C R (fun s2 h => ?_) fu _ _ h
      · refine ws_iinc (j := 2) (pc := 110) C dX10_finds_110 rfl (cn_1 _) (by decide) rfl ?_
        refine ws_goto (pc := 113) (tgt := 70) C dX10_finds_113 (by decide) ?_
        refine ws_less [1, 2, 0] rfl ?_
        exact ih _ _ h
set_option maxRecDepth 20000 in
set_option maxHeartbeats 4000000 in
theorem mX10_finds {Y : xY} {Z : xZ} {a1 : Int32} {s : xM} {z : Int32 × xM} (h : fX10_finds a1 s = some z) : xMv (GM Y) Z yX10_finds cX10_finds 5 5 [.ref (Y.1 0), .int a1] s z := by
  refine xMv_of (by decide) (Nat.le_of_ble_eq_true rfl) (fun B C R => ?_)
  have C : xC (GM Y) Z B "BetweenStopsModel" cX10_finds 5 5 := C
  show xWS (GM Y) B 5 s [(0, .ref (Y.1 0)), (1, .int a1)] 0 []
  unfold fX10_finds at h
  refine ws_aload_n (pc := 0) C dX10_finds_0 rfl 0 rfl ?_
  refine ws_getr (pc := 1) C dX10_finds_1 fd_X10_53 sf_M_16 ?_
  refine ws_iload_n (pc := 4) C dX10_finds_4 rfl 1 rfl ?_
  obtain ⟨g1, h⟩ := gd_ok h
  refine ws_ialdK (pc := 5) C dX10_finds_5 sr_m_tripSort g1 rfl ?_
  obtain ⟨v2, e3, h⟩ := lz_ok h
  refine ws_topi C e3 ?_
  refine ws_istore_n (pc := 6) C dX10_finds_6 rfl (by decide) rfl ?_
  refine ws_aload_n (pc := 7) C dX10_finds_7 rfl 1 rfl ?_
  refine ws_iconst (pc := 8) C dX10_finds_8 ci_m1 ?_
  obtain ⟨s4, e5, h⟩ := lz_ok h
  refine ws_putI (pc := 9) C dX10_finds_9 fp_X10_220 sf_M_38 e5 ?_
  refine ws_aload_n (pc := 12) C dX10_finds_12 rfl 1 rfl ?_
  refine ws_iconst (pc := 13) C dX10_finds_13 ci_m1 ?_
  obtain ⟨s6, e7, h⟩ := lz_ok h
  refine ws_putI (pc := 14) C dX10_finds_14 fp_X10_223 sf_M_39 e7 ?_
  refine ws_aload_n (pc := 17) C dX10_finds_17 rfl 1 rfl ?_
  refine ws_aload_n (pc := 18) C dX10_finds_18 rfl 1 rfl ?_
  refine ws_aload_n (pc := 19) C dX10_finds_19 rfl 1 rfl ?_
  refine ws_getr (pc := 20) C dX10_finds_20 fd_X10_44 sf_M_13 ?_
  refine ws_iload_n (pc := 23) C dX10_finds_23 rfl 2 rfl ?_
  obtain ⟨g8, h⟩ := gd_ok h
  refine ws_ialdK (pc := 24) C dX10_finds_24 sr_m_tripFrom g8 rfl ?_
  refine ws_aload_n (pc := 25) C dX10_finds_25 rfl 1 rfl ?_
  refine ws_getr (pc := 26) C dX10_finds_26 fd_X10_47 sf_M_14 ?_
  refine ws_iload_n (pc := 29) C dX10_finds_29 rfl 2 rfl ?_
  obtain ⟨g9, h⟩ := gd_ok h
  refine ws_ialdK (pc := 30) C dX10_finds_30 sr_m_tripTo g9 rfl ?_
  refine ws_iload_n (pc := 31) C dX10_finds_31 rfl 0 rfl ?_
  obtain ⟨r10, s11, q12, h⟩ := bd_ok h
  refine wc_iV (pc := 32)  C [.int (gi s6 10 a1.toNatClampNeg), .int (gi s6 11 a1.toNatClampNeg), .int v2] [.ref (Y.1 0)] (mX10_walk q12) dX10_finds_32 mw_X10_walk mv_X10_walk kl_X10_176 so_M rfl rfl (Nat.le_of_ble_eq_true rfl) ⟨by decide, by decide⟩ ?_
  obtain ⟨s13, e14, h⟩ := lz_ok h
  refine ws_putI (pc := 35) C dX10_finds_35 fp_X10_226 sf_M_40 e14 ?_
  refine ws_aload_n (pc := 38) C dX10_finds_38 rfl 1 rfl ?_
  refine ws_iconst (pc := 39) C dX10_finds_39 ci_0 ?_
  obtain ⟨s15, e16, h⟩ := lz_ok h
  refine ws_putI (pc := 40) C dX10_finds_40 fp_X10_229 sf_M_41 e16 ?_
  refine ws_aload_n (pc := 43) C dX10_finds_43 rfl 1 rfl ?_
  refine ws_iconst (pc := 44) C dX10_finds_44 ci_0 ?_
  obtain ⟨s17, e18, h⟩ := lz_ok h
  refine ws_putI (pc := 45) C dX10_finds_45 fp_X10_232 sf_M_42 e18 ?_
  refine ws_aload_n (pc := 48) C dX10_finds_48 rfl 1 rfl ?_
  refine ws_aload_n (pc := 49) C dX10_finds_49 rfl 1 rfl ?_
  refine ws_geti (pc := 50) C dX10_finds_50 fd_X10_226 sf_M_40 ?_
  refine ws_aload_n (pc := 53) C dX10_finds_53 rfl 1 rfl ?_
  refine ws_getr (pc := 54) C dX10_finds_54 fd_X10_13 sf_M_1 ?_
  refine ws_bipush (pc := 57) C dX10_finds_57 cb_6 ?_
  refine ws_iload_n (pc := 59) C dX10_finds_59 rfl 0 rfl ?_
  refine ws_imul (pc := 60) C dX10_finds_60 ?_
  refine ws_iconst (pc := 61) C dX10_finds_61 ci_2 ?_
  refine ws_iadd (pc := 62) C dX10_finds_62 ?_
  obtain ⟨g19, h⟩ := gd_ok h
  refine ws_ialdK (pc := 63) C dX10_finds_63 sr_m_sorts g19 rfl ?_
  refine ws_imul (pc := 64) C dX10_finds_64 ?_
  obtain ⟨s20, e21, h⟩ := lz_ok h
  refine ws_putI (pc := 65) C dX10_finds_65 fp_X10_217 sf_M_37 e21 ?_
  refine ws_iconst (pc := 68) C dX10_finds_68 ci_0 ?_
  refine ws_istore_n (pc := 69) C dX10_finds_69 rfl (by decide) rfl ?_
  refine ws_less [2, 3, 0] rfl ?_
  refine pX10_finds_L70 C R (fun s22 h => ?_) fu _ _ h
  · exact wr_v (pc := 116) C R dX10_finds_116 h
set_option maxRecDepth 20000 in
set_option maxHeartbeats 4000000 in
theorem mX10_takes {Y : xY} {Z : xZ} {a1 : Int32} {a2 : Int32} {s : xM} {z : Int32 × xM} (h : fX10_takes a1 a2 s = some z) : xMi (GM Y) Z yX10_takes cX10_takes 3 6 .int [.ref (Y.1 0), .int a1, .int a2] s z := by
  refine xMi_of (by decide) (Nat.le_of_ble_eq_true rfl) (fun B C R => ?_)
  have C : xC (GM Y) Z B "BetweenStopsModel" cX10_takes 3 6 := C
  show xWS (GM Y) B 3 s [(0, .ref (Y.1 0)), (1, .int a1), (2, .int a2)] 0 []
  unfold fX10_takes at h
  refine ws_aload_n (pc := 0) C dX10_takes_0 rfl 0 rfl ?_
  refine ws_iload_n (pc := 1) C dX10_takes_1 rfl 1 rfl ?_
  obtain ⟨r1, s2, q3, h⟩ := bd_ok h
  refine wc_iV (pc := 2)  C [.int a1] [] (mX10_isTrip q3) dX10_takes_2 mw_X10_isTrip mv_X10_isTrip kl_X10_239 so_M rfl rfl (Nat.le_of_ble_eq_true rfl) ⟨by decide, by decide⟩ ?_
  refine ws_if_ne (pc := 5) (tgt := 11) C dX10_takes_5 (by decide) (fun c4 => ?_) (fun c4 => ?_)
  · have h := ite_f h c4
    refine ws_aload_n (pc := 11) C dX10_takes_11 rfl 0 rfl ?_
    refine ws_iload_n (pc := 12) C dX10_takes_12 rfl 1 rfl ?_
    obtain ⟨r5, s6, q7, h⟩ := bd_ok h
    refine wc_vV (pc := 13)  C [.int a1] [] (mX10_finds q7) dX10_takes_13 mw_X10_finds mv_X10_finds kl_X10_242 so_M rfl rfl (Nat.le_of_ble_eq_true rfl) ⟨by decide, by decide⟩ ?_
    refine ws_iload_n (pc := 16) C dX10_takes_16 rfl 2 rfl ?_
    by_cases c8 : a2 = (0 : Int32)
    · have h := ite_t h c8
      refine ws_tab (pc := 17) (off := 39) (tgt := 56) C c8 dX10_takes_17 (by decide) (by decide) (by decide) (by decide) ?_
      refine ws_aload_n (pc := 56) C dX10_takes_56 rfl 0 rfl ?_
      refine ws_geti (pc := 57) C dX10_takes_57 fd_X10_217 sf_M_37 ?_
      exact wr_i (pc := 60) C R dX10_takes_60 rfl h
    replace h := ite_f h c8
    by_cases c9 : a2 = (1 : Int32)
    · have h := ite_t h c9
      refine ws_tab (pc := 17) (off := 44) (tgt := 61) C c9 dX10_takes_17 (by decide) (by decide) (by decide) (by decide) ?_
      refine ws_aload_n (pc := 61) C dX10_takes_61 rfl 0 rfl ?_
      refine ws_geti (pc := 62) C dX10_takes_62 fd_X10_220 sf_M_38 ?_
      exact wr_i (pc := 65) C R dX10_takes_65 rfl h
    replace h := ite_f h c9
    by_cases c10 : a2 = (2 : Int32)
    · have h := ite_t h c10
      refine ws_tab (pc := 17) (off := 49) (tgt := 66) C c10 dX10_takes_17 (by decide) (by decide) (by decide) (by decide) ?_
      refine ws_aload_n (pc := 66) C dX10_takes_66 rfl 0 rfl ?_
      refine ws_geti (pc := 67) C dX10_takes_67 fd_X10_223 sf_M_39 ?_
      exact wr_i (pc := 70) C R dX10_takes_70 rfl h
    replace h := ite_f h c10
    by_cases c11 : a2 = (3 : Int32)
    · have h := ite_t h c11
      refine ws_tab (pc := 17) (off := 54) (tgt := 71) C c11 dX10_takes_17 (by decide) (by decide) (by decide) (by decide) ?_
      refine ws_aload_n (pc := 71) C dX10_takes_71 rfl 0 rfl ?_
      refine ws_geti (pc := 72) C dX10_takes_72 fd_X10_226 sf_M_40 ?_
      exact wr_i (pc := 75) C R dX10_takes_75 rfl h
    replace h := ite_f h c11
    by_cases c12 : a2 = (4 : Int32)
    · have h := ite_t h c12
      refine ws_tab (pc := 17) (off := 59) (tgt := 76) C c12 dX10_takes_17 (by decide) (by decide) (by decide) (by decide) ?_
      refine ws_aload_n (pc := 76) C dX10_takes_76 rfl 0 rfl ?_
      refine ws_geti (pc := 77) C dX10_takes_77 fd_X10_229 sf_M_41 ?_
      exact wr_i (pc := 80) C R dX10_takes_80 rfl h
    replace h := ite_f h c12
    by_cases c13 : a2 = (5 : Int32)
    · have h := ite_t h c13
      refine ws_tab (pc := 17) (off := 64) (tgt := 81) C c13 dX10_takes_17 (by decide) (by decide) (by decide) (by decide) ?_
      refine ws_aload_n (pc := 81) C dX10_takes_81 rfl 0 rfl ?_
      refine ws_geti (pc := 82) C dX10_takes_82 fd_X10_232 sf_M_42 ?_
      exact wr_i (pc := 85) C R dX10_takes_85 rfl h
    replace h := ite_f h c13
    have ec8 : ¬ (0 : Int) = (a2).toInt := fun q => lv_neT c8 (show (0 : Int32).toInt = 0 by decide) q.symm
    have ec9 : ¬ (1 : Int) = (a2).toInt := fun q => lv_neT c9 (show (1 : Int32).toInt = 1 by decide) q.symm
    have ec10 : ¬ (2 : Int) = (a2).toInt := fun q => lv_neT c10 (show (2 : Int32).toInt = 2 by decide) q.symm
    have ec11 : ¬ (3 : Int) = (a2).toInt := fun q => lv_neT c11 (show (3 : Int32).toInt = 3 by decide) q.symm
    have ec12 : ¬ (4 : Int) = (a2).toInt := fun q => lv_neT c12 (show (4 : Int32).toInt = 4 by decide) q.symm
    have ec13 : ¬ (5 : Int) = (a2).toInt := fun q => lv_neT c13 (show (5 : Int32).toInt = 5 by decide) q.symm
    refine ws_tableOut (pc := 17) (tgt := 86) C dX10_takes_17 (by omega) (by decide) ?_
    refine ws_bipush (pc := 86) C dX10_takes_86 cb_m7 ?_
    exact wr_i (pc := 88) C R dX10_takes_88 rfl h
  · have h := ite_t h c4
    refine ws_bipush (pc := 8) C dX10_takes_8 cb_m5 ?_
    exact wr_i (pc := 10) C R dX10_takes_10 rfl h
set_option maxRecDepth 20000 in
set_option maxHeartbeats 4000000 in
theorem pX10_total_J103 {Y : xY} {Z : xZ} {B : xB} {z : Int64 × xM} (C : xC (GM Y) Z B "BetweenStopsModel" cX10_total 4 6) (R : xRl (GM Y) B z) {k122 : Int64 → xM → Option (Int64 × xM)} {b : Int64 → Int32 → xM → Option (Int64 × xM)} {a1 : Int64} {a3 : Int32}
    (hk122 : ∀ (a1 : Int64) (s : xM), k122 a1 s = some z → xWS (GM Y) B 4 s [(1, .long a1)] 122 [])
    (hb : ∀ (a1 : Int64) (a3 : Int32) (s : xM), b a1 a3 s = some z → xWS (GM Y) B 4 s [(0, .ref (Y.1 0)), (1, .long a1), (3, .int a3)] 19 []) {s : xM} (h : fX10_total_J103 k122 b a1 a3 s = some z) : xWS (GM Y) B 4 s [(0, .ref (Y.1 0)), (1, .long a1), (3, .int a3)] 103 [] := by
  unfold fX10_total_J103 at h
  refine ws_aload_n (pc := 103) C dX10_total_103 rfl 0 rfl ?_
  refine ws_iload_n (pc := 104) C dX10_total_104 rfl 2 rfl ?_
  obtain ⟨s1, e2, h⟩ := lz_ok h
  refine ws_putI (pc := 105) C dX10_total_105 fp_X10_252 sf_M_46 e2 ?_
  refine ws_aload_n (pc := 108) C dX10_total_108 rfl 0 rfl ?_
  refine ws_aload_n (pc := 109) C dX10_total_109 rfl 0 rfl ?_
  refine ws_geti (pc := 110) C dX10_total_110 fd_X10_217 sf_M_37 ?_
  obtain ⟨s3, e4, h⟩ := lz_ok h
  refine ws_putI (pc := 113) C dX10_total_113 fp_X10_249 sf_M_45 e4 ?_
  refine ws_iinc (j := 2) (pc := 116) C dX10_total_116 rfl (cn_1 _) (by decide) rfl ?_
  refine ws_goto (pc := 119) (tgt := 19) C dX10_total_119 (by decide) ?_
  refine ws_less [1, 2, 0] rfl ?_
  exact hb _ _ _ h
set_option maxRecDepth 20000 in
set_option maxHeartbeats 4000000 in
theorem pX10_total_J81 {Y : xY} {Z : xZ} {B : xB} {z : Int64 × xM} (C : xC (GM Y) Z B "BetweenStopsModel" cX10_total 4 6) (R : xRl (GM Y) B z) {k122 : Int64 → xM → Option (Int64 × xM)} {b : Int64 → Int32 → xM → Option (Int64 × xM)} {a1 : Int64} {a3 : Int32} {t0 : Int32}
    (hk122 : ∀ (a1 : Int64) (s : xM), k122 a1 s = some z → xWS (GM Y) B 4 s [(1, .long a1)] 122 [])
    (hb : ∀ (a1 : Int64) (a3 : Int32) (s : xM), b a1 a3 s = some z → xWS (GM Y) B 4 s [(0, .ref (Y.1 0)), (1, .long a1), (3, .int a3)] 19 []) {s : xM} (h : fX10_total_J81 k122 b a1 a3 t0 s = some z) : xWS (GM Y) B 4 s [(0, .ref (Y.1 0)), (1, .long a1), (3, .int a3)] 81 [.int t0, .ref (Y.1 0)] := by
  unfold fX10_total_J81 at h
  obtain ⟨s1, e2, h⟩ := lz_ok h
  refine ws_putI (pc := 81) C dX10_total_81 fp_X10_246 sf_M_44 e2 ?_
  refine ws_aload_n (pc := 84) C dX10_total_84 rfl 0 rfl ?_
  refine ws_geti (pc := 85) C dX10_total_85 fd_X10_252 sf_M_46 ?_
  refine ws_iconst (pc := 88) C dX10_total_88 ci_m1 ?_
  refine ws_icmp_eq (pc := 89) (tgt := 103) C dX10_total_89 (by decide) (fun c3 => ?_) (fun c3 => ?_)
  · have h := ite_t h c3
    refine ws_less [0, 1, 2] rfl ?_
    exact pX10_total_J103 C R hk122 hb h
  · have h := ite_f h c3
    refine ws_aload_n (pc := 92) C dX10_total_92 rfl 0 rfl ?_
    refine ws_geti (pc := 93) C dX10_total_93 fd_X10_217 sf_M_37 ?_
    refine ws_aload_n (pc := 96) C dX10_total_96 rfl 0 rfl ?_
    refine ws_geti (pc := 97) C dX10_total_97 fd_X10_249 sf_M_45 ?_
    refine ws_icmp_le (pc := 100) (tgt := 116) C dX10_total_100 (by decide) (fun c4 => ?_) (fun c4 => ?_)
    · have h := ite_t h c4
      refine ws_iinc (j := 2) (pc := 116) C dX10_total_116 rfl (cn_1 _) (by decide) rfl ?_
      refine ws_goto (pc := 119) (tgt := 19) C dX10_total_119 (by decide) ?_
      refine ws_less [1, 2, 0] rfl ?_
      exact hb _ _ _ h
    · have h := ite_f h c4
      refine ws_less [0, 1, 2] rfl ?_
      exact pX10_total_J103 C R hk122 hb h
set_option maxRecDepth 20000 in
set_option maxHeartbeats 4000000 in
theorem pX10_total_L19 {Y : xY} {Z : xZ} {B : xB} {z : Int64 × xM} (C : xC (GM Y) Z B "BetweenStopsModel" cX10_total 4 6) (R : xRl (GM Y) B z) {k122 : Int64 → xM → Option (Int64 × xM)}
    (hk122 : ∀ (a1 : Int64) (s : xM), k122 a1 s = some z → xWS (GM Y) B 4 s [(1, .long a1)] 122 []) : ∀ (n : Nat) (a1 : Int64) (a3 : Int32) (s : xM), fX10_total_L19 k122 n a1 a3 s = some z → xWS (GM Y) B 4 s [(0, .ref (Y.1 0)), (1, .long a1), (3, .int a3)] 19 [] := by
  intro n
  induction n with
  | zero =>
    intro a1 a3 s h
    rw [fX10_total_L19] at h
    cases h
  | succ n ih =>
    intro a1 a3 s h
    rw [fX10_total_L19] at h
    refine ws_iload_n (pc := 19) C dX10_total_19 rfl 2 rfl ?_
    refine ws_aload_n (pc := 20) C dX10_total_20 rfl 0 rfl ?_
    refine ws_geti (pc := 21) C dX10_total_21 fd_X10_169 sf_M_12 ?_
    refine ws_icmp_ge (pc := 24) (tgt := 122) C dX10_total_24 (by decide) (fun c1 => ?_) (fun c1 => ?_)
    · have h := ite_t h c1
      refine ws_less [1] rfl ?_
      exact hk122 _ _ h
    · have h := ite_f h c1
      refine ws_aload_n (pc := 27) C dX10_total_27 rfl 0 rfl ?_
      refine ws_iload_n (pc := 28) C dX10_total_28 rfl 2 rfl ?_
      obtain ⟨r2, s3, q4, h⟩ := bd_ok h
      refine wc_vV (pc := 29)  C [.int a3] [] (mX10_finds q4) dX10_total_29 mw_X10_finds mv_X10_finds kl_X10_242 so_M rfl rfl (Nat.le_of_ble_eq_true rfl) ⟨by decide, by decide⟩ ?_
      refine ws_aload_n (pc := 32) C dX10_total_32 rfl 0 rfl ?_
      refine ws_getr (pc := 33) C dX10_total_33 fd_X10_92 sf_M_43 ?_
      refine ws_iload_n (pc := 36) C dX10_total_36 rfl 2 rfl ?_
      refine ws_aload_n (pc := 37) C dX10_total_37 rfl 0 rfl ?_
      refine ws_geti (pc := 38) C dX10_total_38 fd_X10_217 sf_M_37 ?_
      obtain ⟨g5, h⟩ := gd_ok h
      obtain ⟨s6, e7, h⟩ := lz_ok h
      refine ws_iastK (pc := 41) C dX10_total_41 sr_m_costOf g5 rfl e7 ?_
      refine ws_lload_n (pc := 42) C dX10_total_42 rfl 1 rfl ?_
      refine ws_aload_n (pc := 43) C dX10_total_43 rfl 0 rfl ?_
      refine ws_getr (pc := 44) C dX10_total_44 fd_X10_50 sf_M_15 ?_
      refine ws_iload_n (pc := 47) C dX10_total_47 rfl 2 rfl ?_
      obtain ⟨g8, h⟩ := gd_ok h
      refine ws_ialdK (pc := 48) C dX10_total_48 sr_m_tripMany g8 rfl ?_
      refine ws_i2l (pc := 49) C dX10_total_49 ?_
      refine ws_aload_n (pc := 50) C dX10_total_50 rfl 0 rfl ?_
      refine ws_geti (pc := 51) C dX10_total_51 fd_X10_217 sf_M_37 ?_
      refine ws_i2l (pc := 54) C dX10_total_54 ?_
      refine ws_lmul (pc := 55) C dX10_total_55 ?_
      refine ws_ladd (pc := 56) C dX10_total_56 ?_
      obtain ⟨v9, e10, h⟩ := lz_ok h
      refine ws_topl C e10 ?_
      refine ws_lstore_n (pc := 57) C dX10_total_57 rfl (by decide) rfl ?_
      refine ws_aload_n (pc := 58) C dX10_total_58 rfl 1 rfl ?_
      refine ws_aload_n (pc := 59) C dX10_total_59 rfl 1 rfl ?_
      refine ws_geti (pc := 60) C dX10_total_60 fd_X10_226 sf_M_40 ?_
      refine ws_aload_n (pc := 63) C dX10_total_63 rfl 1 rfl ?_
      refine ws_geti (pc := 64) C dX10_total_64 fd_X10_246 sf_M_44 ?_
      refine ws_icmp_le (pc := 67) (tgt := 77) C dX10_total_67 (by decide) (fun c11 => ?_) (fun c11 => ?_)
      · have h := ite_t h c11
        refine ws_aload_n (pc := 77) C dX10_total_77 rfl 1 rfl ?_
        refine ws_geti (pc := 78) C dX10_total_78 fd_X10_246 sf_M_44 ?_
        refine ws_less [1, 0, 2] rfl ?_
        exact pX10_total_J81 C R hk122 (fun a1 a3 s h => ih a1 a3 s h) h
      · have h := ite_f h c11
        refine ws_aload_n (pc := 70) C dX10_total_70 rfl 1 rfl ?_
        refine ws_geti (pc := 71) C dX10_total_71 fd_X10_226 sf_M_40 ?_
        refine ws_goto (pc := 74) (tgt := 81) C dX10_total_74 (by decide) ?_
        refine ws_less [1, 0, 2] rfl ?_
        exact pX10_total_J81 C R hk122 (fun a1 a3 s h => ih a1 a3 s h) h
set_option maxRecDepth 20000 in
set_option maxHeartbeats 4000000 in
theorem mX10_total {Y : xY} {Z : xZ} {s : xM} {z : Int64 × xM} (h : fX10_total s = some z) : xMl (GM Y) Z yX10_total cX10_total 4 6 [.ref (Y.1 0)] s z := by
  refine xMl_of (by decide) (Nat.le_of_ble_eq_true rfl) (fun B C R => ?_)
  have C : xC (GM Y) Z B "BetweenStopsModel" cX10_total 4 6 := C
  show xWS (GM Y) B 4 s [(0, .ref (Y.1 0))] 0 []
  unfold fX10_total at h
  refine ws_lconst (v := 0) (pc := 0) C dX10_total_0 (by decide) ?_
  refine ws_lstore_n (pc := 1) C dX10_total_1 rfl (by decide) rfl ?_
  refine ws_aload_n (pc := 2) C dX10_total_2 rfl 1 rfl ?_
  refine ws_iconst (pc := 3) C dX10_total_3 ci_0 ?_
  obtain ⟨s1, e2, h⟩ := lz_ok h
  refine ws_putI (pc := 4) C dX10_total_4 fp_X10_246 sf_M_44 e2 ?_
  refine ws_aload_n (pc := 7) C dX10_total_7 rfl 1 rfl ?_
  refine ws_iconst (pc := 8) C dX10_total_8 ci_0 ?_
  obtain ⟨s3, e4, h⟩ := lz_ok h
  refine ws_putI (pc := 9) C dX10_total_9 fp_X10_249 sf_M_45 e4 ?_
  refine ws_aload_n (pc := 12) C dX10_total_12 rfl 1 rfl ?_
  refine ws_iconst (pc := 13) C dX10_total_13 ci_m1 ?_
  obtain ⟨s5, e6, h⟩ := lz_ok h
  refine ws_putI (pc := 14) C dX10_total_14 fp_X10_252 sf_M_46 e6 ?_
  refine ws_iconst (pc := 17) C dX10_total_17 ci_0 ?_
  refine ws_istore_n (pc := 18) C dX10_total_18 rfl (by decide) rfl ?_
  refine ws_less [2, 1, 0] rfl ?_
  refine pX10_total_L19 C R (fun x7 s8 h => ?_) fu _ _ _ h
  · refine ws_lload_n (pc := 122) C dX10_total_122 rfl 0 rfl ?_
    exact wr_l (pc := 123) C R dX10_total_123 h
set_option maxRecDepth 20000 in
set_option maxHeartbeats 4000000 in
theorem mX10_sum {Y : xY} {Z : xZ} {a1 : Int32} {s : xM} {z : Int64 × xM} (h : fX10_sum a1 s = some z) : xMl (GM Y) Z yX10_sum cX10_sum 4 7 [.ref (Y.1 0), .int a1] s z := by
  refine xMl_of (by decide) (Nat.le_of_ble_eq_true rfl) (fun B C R => ?_)
  have C : xC (GM Y) Z B "BetweenStopsModel" cX10_sum 4 7 := C
  show xWS (GM Y) B 4 s [(0, .ref (Y.1 0)), (1, .int a1)] 0 []
  unfold fX10_sum at h
  refine ws_iload_n (pc := 0) C dX10_sum_0 rfl 1 rfl ?_
  refine ws_iconst (pc := 1) C dX10_sum_1 ci_0 ?_
  refine ws_iconst (pc := 2) C dX10_sum_2 ci_2 ?_
  obtain ⟨r1, s2, q3, h⟩ := bd_ok h
  refine wc_iS (pc := 3)  C [.int a1, .int (0 : Int32), .int (2 : Int32)] [] (mX10_in q3) dX10_sum_3 mw_X10_in ks_X10_in kl_X10_162 rfl rfl (Nat.le_of_ble_eq_true rfl) ⟨by decide, by decide⟩ ?_
  refine ws_if_ne (pc := 6) (tgt := 13) C dX10_sum_6 (by decide) (fun c4 => ?_) (fun c4 => ?_)
  · have h := ite_f h c4
    refine ws_aload_n (pc := 13) C dX10_sum_13 rfl 0 rfl ?_
    obtain ⟨r5, s6, q7, h⟩ := bd_ok h
    refine wc_lV (pc := 14)  C [] [] (mX10_total q7) dX10_sum_14 mw_X10_total mv_X10_total kl_X10_257 so_M rfl rfl (Nat.le_of_ble_eq_true rfl) ⟨by decide, by decide⟩ ?_
    refine ws_lstore_n (pc := 17) C dX10_sum_17 rfl (by decide) rfl ?_
    refine ws_iload_n (pc := 18) C dX10_sum_18 rfl 2 rfl ?_
    refine ws_if_ne (pc := 19) (tgt := 26) C dX10_sum_19 (by decide) (fun c8 => ?_) (fun c8 => ?_)
    · have h := ite_f h c8
      refine ws_iload_n (pc := 26) C dX10_sum_26 rfl 2 rfl ?_
      refine ws_iconst (pc := 27) C dX10_sum_27 ci_1 ?_
      refine ws_icmp_ne (pc := 28) (tgt := 39) C dX10_sum_28 (by decide) (fun c9 => ?_) (fun c9 => ?_)
      · have h := ite_f h c9
        refine ws_aload_n (pc := 39) C dX10_sum_39 rfl 1 rfl ?_
        refine ws_geti (pc := 40) C dX10_sum_40 fd_X10_249 sf_M_45 ?_
        refine ws_i2l (pc := 43) C dX10_sum_43 ?_
        exact wr_l (pc := 44) C R dX10_sum_44 h
      · have h := ite_t h c9
        refine ws_aload_n (pc := 31) C dX10_sum_31 rfl 1 rfl ?_
        refine ws_geti (pc := 32) C dX10_sum_32 fd_X10_252 sf_M_46 ?_
        refine ws_i2l (pc := 35) C dX10_sum_35 ?_
        refine ws_goto (pc := 36) (tgt := 44) C dX10_sum_36 (by decide) ?_
        exact wr_l (pc := 44) C R dX10_sum_44 h
    · have h := ite_t h c8
      refine ws_lload_n (pc := 22) C dX10_sum_22 rfl 0 rfl ?_
      refine ws_goto (pc := 23) (tgt := 44) C dX10_sum_23 (by decide) ?_
      exact wr_l (pc := 44) C R dX10_sum_44 h
  · have h := ite_t h c4
    refine ws_ldc2 (pc := 9) C dX10_sum_9 kK_X10_255 ?_
    exact wr_l (pc := 12) C R dX10_sum_12 h
set_option maxRecDepth 20000 in
set_option maxHeartbeats 4000000 in
theorem pX10_useOf_J34 {Y : xY} {Z : xZ} {B : xB} {z : Int32 × xM} (C : xC (GM Y) Z B "BetweenStopsModel" cX10_useOf 4 6) (R : xRi (GM Y) B .int z) {k52 : Int32 → xM → Option (Int32 × xM)} {b : Int32 → Int32 → xM → Option (Int32 × xM)} {a1 : Int32} {a3 : Int32} {t0 : Int32}
    (hk52 : ∀ (a2 : Int32) (s : xM), k52 a2 s = some z → xWS (GM Y) B 4 s [(2, .int a2)] 52 [])
    (hb : ∀ (a2 : Int32) (a3 : Int32) (s : xM), b a2 a3 s = some z → xWS (GM Y) B 4 s [(0, .ref (Y.1 0)), (1, .int a1), (2, .int a2), (3, .int a3)] 4 []) {s : xM} (h : fX10_useOf_J34 k52 b a1 a3 t0 s = some z) : xWS (GM Y) B 4 s [(0, .ref (Y.1 0)), (1, .int a1), (3, .int a3)] 34 [.int t0] := by
  unfold fX10_useOf_J34 at h
  refine ws_aload_n (pc := 34) C dX10_useOf_34 rfl 0 rfl ?_
  refine ws_getr (pc := 35) C dX10_useOf_35 fd_X10_50 sf_M_15 ?_
  refine ws_iload_n (pc := 38) C dX10_useOf_38 rfl 2 rfl ?_
  obtain ⟨g1, h⟩ := gd_ok h
  refine ws_ialdK (pc := 39) C dX10_useOf_39 sr_m_tripMany g1 rfl ?_
  refine ws_goto (pc := 40) (tgt := 44) C dX10_useOf_40 (by decide) ?_
  refine ws_iadd (pc := 44) C dX10_useOf_44 ?_
  obtain ⟨v2, e3, h⟩ := lz_ok h
  refine ws_topi C e3 ?_
  refine ws_istore_n (pc := 45) C dX10_useOf_45 rfl (by decide) rfl ?_
  refine ws_iinc (j := 3) (pc := 46) C dX10_useOf_46 rfl (cn_1 _) (by decide) rfl ?_
  refine ws_goto (pc := 49) (tgt := 4) C dX10_useOf_49 (by decide) ?_
  refine ws_less [2, 3, 1, 0] rfl ?_
  exact hb _ _ _ h
set_option maxRecDepth 20000 in
set_option maxHeartbeats 4000000 in
theorem pX10_useOf_L4 {Y : xY} {Z : xZ} {B : xB} {z : Int32 × xM} (C : xC (GM Y) Z B "BetweenStopsModel" cX10_useOf 4 6) (R : xRi (GM Y) B .int z) {k52 : Int32 → xM → Option (Int32 × xM)} {a1 : Int32}
    (hk52 : ∀ (a2 : Int32) (s : xM), k52 a2 s = some z → xWS (GM Y) B 4 s [(2, .int a2)] 52 []) : ∀ (n : Nat) (a2 : Int32) (a3 : Int32) (s : xM), fX10_useOf_L4 k52 a1 n a2 a3 s = some z → xWS (GM Y) B 4 s [(0, .ref (Y.1 0)), (1, .int a1), (2, .int a2), (3, .int a3)] 4 [] := by
  intro n
  induction n with
  | zero =>
    intro a2 a3 s h
    rw [fX10_useOf_L4] at h
    cases h
  | succ n ih =>
    intro a2 a3 s h
    rw [fX10_useOf_L4] at h
    refine ws_iload_n (pc := 4) C dX10_useOf_4 rfl 3 rfl ?_
    refine ws_aload_n (pc := 5) C dX10_useOf_5 rfl 0 rfl ?_
    refine ws_geti (pc := 6) C dX10_useOf_6 fd_X10_169 sf_M_12 ?_
    refine ws_icmp_ge (pc := 9) (tgt := 52) C dX10_useOf_9 (by decide) (fun c1 => ?_) (fun c1 => ?_)
    · have h := ite_t h c1
      refine ws_less [2] rfl ?_
      exact hk52 _ _ h
    · have h := ite_f h c1
      refine ws_aload_n (pc := 12) C dX10_useOf_12 rfl 0 rfl ?_
      refine ws_iload_n (pc := 13) C dX10_useOf_13 rfl 3 rfl ?_
      obtain ⟨r2, s3, q4, h⟩ := bd_ok h
      refine wc_vV (pc := 14)  C [.int a3] [] (mX10_finds q4) dX10_useOf_14 mw_X10_finds mv_X10_finds kl_X10_242 so_M rfl rfl (Nat.le_of_ble_eq_true rfl) ⟨by decide, by decide⟩ ?_
      refine ws_iload_n (pc := 17) C dX10_useOf_17 rfl 2 rfl ?_
      refine ws_aload_n (pc := 18) C dX10_useOf_18 rfl 0 rfl ?_
      refine ws_geti (pc := 19) C dX10_useOf_19 fd_X10_220 sf_M_38 ?_
      refine ws_iload_n (pc := 22) C dX10_useOf_22 rfl 1 rfl ?_
      refine ws_icmp_eq (pc := 23) (tgt := 34) C dX10_useOf_23 (by decide) (fun c5 => ?_) (fun c5 => ?_)
      · have h := ite_t h c5
        refine ws_less [0, 1, 3] rfl ?_
        exact pX10_useOf_J34 C R hk52 (fun a2 a3 s h => ih a2 a3 s h) h
      · have h := ite_f h c5
        refine ws_aload_n (pc := 26) C dX10_useOf_26 rfl 0 rfl ?_
        refine ws_geti (pc := 27) C dX10_useOf_27 fd_X10_223 sf_M_39 ?_
        refine ws_iload_n (pc := 30) C dX10_useOf_30 rfl 1 rfl ?_
        refine ws_icmp_ne (pc := 31) (tgt := 43) C dX10_useOf_31 (by decide) (fun c6 => ?_) (fun c6 => ?_)
        · have h := ite_f h c6
          refine ws_iconst (pc := 43) C dX10_useOf_43 ci_0 ?_
          refine ws_iadd (pc := 44) C dX10_useOf_44 ?_
          obtain ⟨v7, e8, h⟩ := lz_ok h
          refine ws_topi C e8 ?_
          refine ws_istore_n (pc := 45) C dX10_useOf_45 rfl (by decide) rfl ?_
          refine ws_iinc (j := 3) (pc := 46) C dX10_useOf_46 rfl (cn_1 _) (by decide) rfl ?_
          refine ws_goto (pc := 49) (tgt := 4) C dX10_useOf_49 (by decide) ?_
          refine ws_less [2, 3, 1, 0] rfl ?_
          exact ih _ _ _ h
        · have h := ite_t h c6
          refine ws_less [0, 1, 3] rfl ?_
          exact pX10_useOf_J34 C R hk52 (fun a2 a3 s h => ih a2 a3 s h) h
set_option maxRecDepth 20000 in
set_option maxHeartbeats 4000000 in
theorem mX10_useOf {Y : xY} {Z : xZ} {a1 : Int32} {s : xM} {z : Int32 × xM} (h : fX10_useOf a1 s = some z) : xMi (GM Y) Z yX10_useOf cX10_useOf 4 6 .int [.ref (Y.1 0), .int a1] s z := by
  refine xMi_of (by decide) (Nat.le_of_ble_eq_true rfl) (fun B C R => ?_)
  have C : xC (GM Y) Z B "BetweenStopsModel" cX10_useOf 4 6 := C
  show xWS (GM Y) B 4 s [(0, .ref (Y.1 0)), (1, .int a1)] 0 []
  unfold fX10_useOf at h
  refine ws_iconst (pc := 0) C dX10_useOf_0 ci_0 ?_
  refine ws_istore_n (pc := 1) C dX10_useOf_1 rfl (by decide) rfl ?_
  refine ws_iconst (pc := 2) C dX10_useOf_2 ci_0 ?_
  refine ws_istore_n (pc := 3) C dX10_useOf_3 rfl (by decide) rfl ?_
  refine ws_less [2, 3, 1, 0] rfl ?_
  refine pX10_useOf_L4 C R (fun x1 s2 h => ?_) fu _ _ _ h
  · refine ws_iload_n (pc := 52) C dX10_useOf_52 rfl 0 rfl ?_
    exact wr_i (pc := 53) C R dX10_useOf_53 rfl h
set_option maxRecDepth 20000 in
set_option maxHeartbeats 4000000 in
theorem mX10_use {Y : xY} {Z : xZ} {a1 : Int32} {s : xM} {z : Int32 × xM} (h : fX10_use a1 s = some z) : xMi (GM Y) Z yX10_use cX10_use 2 7 .int [.ref (Y.1 0), .int a1] s z := by
  refine xMi_of (by decide) (Nat.le_of_ble_eq_true rfl) (fun B C R => ?_)
  have C : xC (GM Y) Z B "BetweenStopsModel" cX10_use 2 7 := C
  show xWS (GM Y) B 2 s [(0, .ref (Y.1 0)), (1, .int a1)] 0 []
  unfold fX10_use at h
  refine ws_aload_n (pc := 0) C dX10_use_0 rfl 0 rfl ?_
  refine ws_iload_n (pc := 1) C dX10_use_1 rfl 1 rfl ?_
  obtain ⟨r1, s2, q3, h⟩ := bd_ok h
  refine wc_iV (pc := 2)  C [.int a1] [] (mX10_isStop q3) dX10_use_2 mw_X10_isStop mv_X10_isStop kl_X10_180 so_M rfl rfl (Nat.le_of_ble_eq_true rfl) ⟨by decide, by decide⟩ ?_
  refine ws_if_eq (pc := 5) (tgt := 16) C dX10_use_5 (by decide) (fun c4 => ?_) (fun c4 => ?_)
  · have h := ite_t h c4
    refine ws_bipush (pc := 16) C dX10_use_16 cb_m5 ?_
    exact wr_i (pc := 18) C R dX10_use_18 rfl h
  · have h := ite_f h c4
    refine ws_aload_n (pc := 8) C dX10_use_8 rfl 0 rfl ?_
    refine ws_iload_n (pc := 9) C dX10_use_9 rfl 1 rfl ?_
    obtain ⟨r5, s6, q7, h⟩ := bd_ok h
    refine wc_iV (pc := 10)  C [.int a1] [] (mX10_useOf q7) dX10_use_10 mw_X10_useOf mv_X10_useOf kl_X10_261 so_M rfl rfl (Nat.le_of_ble_eq_true rfl) ⟨by decide, by decide⟩ ?_
    refine ws_goto (pc := 13) (tgt := 18) C dX10_use_13 (by decide) ?_
    exact wr_i (pc := 18) C R dX10_use_18 rfl h
set_option maxRecDepth 20000 in
set_option maxHeartbeats 4000000 in
theorem pX10_feed_L33 {Y : xY} {Z : xZ} {B : xB} {z : Int32 × xM} (C : xC (GM Y) Z B "BetweenStopsModel" cX10_feed 5 2) (R : xRi (GM Y) B .int z) {k75 : xM → Option (Int32 × xM)} {a1 : Int64}
    (hk75 : ∀  (s : xM), k75 s = some z → xWS (GM Y) B 5 s [(0, .ref (Y.1 0))] 75 []) : ∀ (n : Nat) (a4 : Int32) (s : xM), fX10_feed_L33 k75 a1 n a4 s = some z → xWS (GM Y) B 5 s [(0, .ref (Y.1 0)), (1, .long a1), (4, .int a4)] 33 [] := by
  intro n
  induction n with
  | zero =>
    intro a4 s h
    rw [fX10_feed_L33] at h
    cases h
  | succ n ih =>
    intro a4 s h
    rw [fX10_feed_L33] at h
    refine ws_iload (pc := 33) C dX10_feed_33 2 rfl ?_
    refine ws_if_lt (pc := 35) (tgt := 75) C dX10_feed_35 (by decide) (fun c1 => ?_) (fun c1 => ?_)
    · have h := ite_t h c1
      refine ws_less [0] rfl ?_
      exact hk75 _ h
    · have h := ite_f h c1
      refine ws_aload_n (pc := 38) C dX10_feed_38 rfl 0 rfl ?_
      refine ws_getr (pc := 39) C dX10_feed_39 fd_X10_56 sf_M_17 ?_
      refine ws_aload_n (pc := 42) C dX10_feed_42 rfl 0 rfl ?_
      refine ws_geti (pc := 43) C dX10_feed_43 fd_X10_205 sf_M_18 ?_
      refine ws_lload_n (pc := 46) C dX10_feed_46 rfl 1 rfl ?_
      refine ws_bipush (pc := 47) C dX10_feed_47 cb_8 ?_
      refine ws_iload (pc := 49) C dX10_feed_49 2 rfl ?_
      refine ws_imul (pc := 51) C dX10_feed_51 ?_
      refine ws_lshr (pc := 52) C dX10_feed_52 ?_
      refine ws_ldc2 (pc := 53) C dX10_feed_53 kK_X10_264 ?_
      refine ws_land (pc := 56) C dX10_feed_56 ?_
      refine ws_l2i (pc := 57) C dX10_feed_57 ?_
      obtain ⟨g2, h⟩ := gd_ok h
      obtain ⟨s3, e4, h⟩ := lz_ok h
      refine ws_iastK (pc := 58) C dX10_feed_58 sr_m_tape g2 rfl e4 ?_
      refine ws_aload_n (pc := 59) C dX10_feed_59 rfl 0 rfl ?_
      refine ws_dup (pc := 60) C dX10_feed_60 rfl ?_
      refine ws_geti (pc := 61) C dX10_feed_61 fd_X10_205 sf_M_18 ?_
      refine ws_iconst (pc := 64) C dX10_feed_64 ci_1 ?_
      refine ws_iadd (pc := 65) C dX10_feed_65 ?_
      obtain ⟨s5, e6, h⟩ := lz_ok h
      refine ws_putI (pc := 66) C dX10_feed_66 fp_X10_205 sf_M_18 e6 ?_
      refine ws_iinc (j := 2) (pc := 69) C dX10_feed_69 rfl (cn_m1 _) (by decide) rfl ?_
      refine ws_goto (pc := 72) (tgt := 33) C dX10_feed_72 (by decide) ?_
      refine ws_less [1, 2, 0] rfl ?_
      exact ih _ _ h
set_option maxRecDepth 20000 in
set_option maxHeartbeats 4000000 in
theorem mX10_feed {Y : xY} {Z : xZ} {a1 : Int64} {a3 : Int32} {s : xM} {z : Int32 × xM} (h : fX10_feed a1 a3 s = some z) : xMi (GM Y) Z yX10_feed cX10_feed 5 2 .int [.ref (Y.1 0), .long a1, .int a3] s z := by
  refine xMi_of (by decide) (Nat.le_of_ble_eq_true rfl) (fun B C R => ?_)
  have C : xC (GM Y) Z B "BetweenStopsModel" cX10_feed 5 2 := C
  show xWS (GM Y) B 5 s [(0, .ref (Y.1 0)), (1, .long a1), (3, .int a3)] 0 []
  unfold fX10_feed at h
  refine ws_iload_n (pc := 0) C dX10_feed_0 rfl 2 rfl ?_
  refine ws_iconst (pc := 1) C dX10_feed_1 ci_1 ?_
  refine ws_bipush (pc := 2) C dX10_feed_2 cb_8 ?_
  obtain ⟨r1, s2, q3, h⟩ := bd_ok h
  refine wc_iS (pc := 4)  C [.int a3, .int (1 : Int32), .int (8 : Int32)] [] (mX10_in q3) dX10_feed_4 mw_X10_in ks_X10_in kl_X10_162 rfl rfl (Nat.le_of_ble_eq_true rfl) ⟨by decide, by decide⟩ ?_
  refine ws_if_ne (pc := 7) (tgt := 13) C dX10_feed_7 (by decide) (fun c4 => ?_) (fun c4 => ?_)
  · have h := ite_f h c4
    refine ws_aload_n (pc := 13) C dX10_feed_13 rfl 0 rfl ?_
    refine ws_geti (pc := 14) C dX10_feed_14 fd_X10_205 sf_M_18 ?_
    refine ws_iload_n (pc := 17) C dX10_feed_17 rfl 2 rfl ?_
    refine ws_iadd (pc := 18) C dX10_feed_18 ?_
    refine ws_sipush (pc := 19) C dX10_feed_19 cs_160 ?_
    refine ws_icmp_le (pc := 22) (tgt := 28) C dX10_feed_22 (by decide) (fun c5 => ?_) (fun c5 => ?_)
    · have h := ite_t h c5
      refine ws_iload_n (pc := 28) C dX10_feed_28 rfl 2 rfl ?_
      refine ws_iconst (pc := 29) C dX10_feed_29 ci_1 ?_
      refine ws_isub (pc := 30) C dX10_feed_30 ?_
      obtain ⟨v6, e7, h⟩ := lz_ok h
      refine ws_topi C e7 ?_
      refine ws_istore (pc := 31) C dX10_feed_31 (by decide) rfl ?_
      refine ws_less [1, 2, 0] rfl ?_
      refine pX10_feed_L33 C R (fun s8 h => ?_) fu _ _ h
      · refine ws_aload_n (pc := 75) C dX10_feed_75 rfl 0 rfl ?_
        refine ws_geti (pc := 76) C dX10_feed_76 fd_X10_205 sf_M_18 ?_
        exact wr_i (pc := 79) C R dX10_feed_79 rfl h
    · have h := ite_f h c5
      refine ws_bipush (pc := 25) C dX10_feed_25 cb_m4 ?_
      exact wr_i (pc := 27) C R dX10_feed_27 rfl h
  · have h := ite_t h c4
    refine ws_bipush (pc := 10) C dX10_feed_10 cb_m2 ?_
    exact wr_i (pc := 12) C R dX10_feed_12 rfl h
set_option maxRecDepth 20000 in
set_option maxHeartbeats 4000000 in
theorem pX10_letters_J59 {Y : xY} {Z : xZ} {B : xB} {z : Int64 × xM} (C : xC (GM Y) Z B "BetweenStopsModel" cX10_letters 4 2) (R : xRl (GM Y) B z) {k76 : Int64 → Int32 → xM → Option (Int64 × xM)} {b : Int64 → Int32 → xM → Option (Int64 × xM)} {a3 : Int32} {t0 : Int64}
    (hk76 : ∀ (a1 : Int64) (a3 : Int32) (s : xM), k76 a1 a3 s = some z → xWS (GM Y) B 4 s [(1, .long a1), (3, .int a3)] 76 [])
    (hb : ∀ (a1 : Int64) (a3 : Int32) (s : xM), b a1 a3 s = some z → xWS (GM Y) B 4 s [(0, .ref (Y.1 0)), (1, .long a1), (3, .int a3)] 4 []) {s : xM} (h : fX10_letters_J59 k76 b a3 t0 s = some z) : xWS (GM Y) B 4 s [(0, .ref (Y.1 0)), (3, .int a3)] 59 [.long t0] := by
  unfold fX10_letters_J59 at h
  refine ws_lstore_n (pc := 59) C dX10_letters_59 rfl (by decide) rfl ?_
  refine ws_iinc (j := 2) (pc := 60) C dX10_letters_60 rfl (cn_1 _) (by decide) rfl ?_
  refine ws_aload_n (pc := 63) C dX10_letters_63 rfl 2 rfl ?_
  refine ws_dup (pc := 64) C dX10_letters_64 rfl ?_
  refine ws_geti (pc := 65) C dX10_letters_65 fd_X10_266 sf_M_47 ?_
  refine ws_iconst (pc := 68) C dX10_letters_68 ci_1 ?_
  refine ws_iadd (pc := 69) C dX10_letters_69 ?_
  obtain ⟨s1, e2, h⟩ := lz_ok h
  refine ws_putI (pc := 70) C dX10_letters_70 fp_X10_266 sf_M_47 e2 ?_
  refine ws_goto (pc := 73) (tgt := 4) C dX10_letters_73 (by decide) ?_
  refine ws_less [2, 1, 0] rfl ?_
  exact hb _ _ _ h
set_option maxRecDepth 20000 in
set_option maxHeartbeats 4000000 in
theorem pX10_letters_L4 {Y : xY} {Z : xZ} {B : xB} {z : Int64 × xM} (C : xC (GM Y) Z B "BetweenStopsModel" cX10_letters 4 2) (R : xRl (GM Y) B z) {k76 : Int64 → Int32 → xM → Option (Int64 × xM)}
    (hk76 : ∀ (a1 : Int64) (a3 : Int32) (s : xM), k76 a1 a3 s = some z → xWS (GM Y) B 4 s [(1, .long a1), (3, .int a3)] 76 []) : ∀ (n : Nat) (a1 : Int64) (a3 : Int32) (s : xM), fX10_letters_L4 k76 n a1 a3 s = some z → xWS (GM Y) B 4 s [(0, .ref (Y.1 0)), (1, .long a1), (3, .int a3)] 4 [] := by
  intro n
  induction n with
  | zero =>
    intro a1 a3 s h
    rw [fX10_letters_L4] at h
    cases h
  | succ n ih =>
    intro a1 a3 s h
    rw [fX10_letters_L4] at h
    refine ws_aload_n (pc := 4) C dX10_letters_4 rfl 0 rfl ?_
    refine ws_geti (pc := 5) C dX10_letters_5 fd_X10_266 sf_M_47 ?_
    refine ws_aload_n (pc := 8) C dX10_letters_8 rfl 0 rfl ?_
    refine ws_geti (pc := 9) C dX10_letters_9 fd_X10_205 sf_M_18 ?_
    refine ws_icmp_ge (pc := 12) (tgt := 76) C dX10_letters_12 (by decide) (fun c1 => ?_) (fun c1 => ?_)
    · have h := ite_t h c1
      refine ws_less [1, 2] rfl ?_
      exact hk76 _ _ _ h
    · have h := ite_f h c1
      refine ws_aload_n (pc := 15) C dX10_letters_15 rfl 0 rfl ?_
      refine ws_getr (pc := 16) C dX10_letters_16 fd_X10_56 sf_M_17 ?_
      refine ws_aload_n (pc := 19) C dX10_letters_19 rfl 0 rfl ?_
      refine ws_geti (pc := 20) C dX10_letters_20 fd_X10_266 sf_M_47 ?_
      obtain ⟨g2, h⟩ := gd_ok h
      refine ws_ialdK (pc := 23) C dX10_letters_23 sr_m_tape g2 rfl ?_
      refine ws_bipush (pc := 24) C dX10_letters_24 cb_97 ?_
      refine ws_bipush (pc := 26) C dX10_letters_26 cb_122 ?_
      obtain ⟨r3, s4, q5, h⟩ := bd_ok h
      refine wc_iS (pc := 28)  C [.int (gi s 14 (gi s 0 47).toNatClampNeg), .int (97 : Int32), .int (122 : Int32)] [] (mX10_in q5) dX10_letters_28 mw_X10_in ks_X10_in kl_X10_162 rfl rfl (Nat.le_of_ble_eq_true rfl) ⟨by decide, by decide⟩ ?_
      refine ws_if_eq (pc := 31) (tgt := 76) C dX10_letters_31 (by decide) (fun c6 => ?_) (fun c6 => ?_)
      · have h := ite_t h c6
        refine ws_less [1, 2] rfl ?_
        exact hk76 _ _ _ h
      · have h := ite_f h c6
        refine ws_iload_n (pc := 34) C dX10_letters_34 rfl 2 rfl ?_
        refine ws_bipush (pc := 35) C dX10_letters_35 cb_8 ?_
        refine ws_icmp_ge (pc := 37) (tgt := 58) C dX10_letters_37 (by decide) (fun c7 => ?_) (fun c7 => ?_)
        · have h := ite_t h c7
          refine ws_lload_n (pc := 58) C dX10_letters_58 rfl 1 rfl ?_
          refine ws_less [0, 2] rfl ?_
          exact pX10_letters_J59 C R hk76 (fun a1 a3 s h => ih a1 a3 s h) h
        · have h := ite_f h c7
          refine ws_lload_n (pc := 40) C dX10_letters_40 rfl 1 rfl ?_
          refine ws_bipush (pc := 41) C dX10_letters_41 cb_8 ?_
          refine ws_lshl (pc := 43) C dX10_letters_43 ?_
          refine ws_aload_n (pc := 44) C dX10_letters_44 rfl 0 rfl ?_
          refine ws_getr (pc := 45) C dX10_letters_45 fd_X10_56 sf_M_17 ?_
          refine ws_aload_n (pc := 48) C dX10_letters_48 rfl 0 rfl ?_
          refine ws_geti (pc := 49) C dX10_letters_49 fd_X10_266 sf_M_47 ?_
          obtain ⟨g8, h⟩ := gd_ok h
          refine ws_ialdK (pc := 52) C dX10_letters_52 sr_m_tape g8 rfl ?_
          refine ws_i2l (pc := 53) C dX10_letters_53 ?_
          refine ws_lor (pc := 54) C dX10_letters_54 ?_
          refine ws_goto (pc := 55) (tgt := 59) C dX10_letters_55 (by decide) ?_
          refine ws_less [0, 2] rfl ?_
          exact pX10_letters_J59 C R hk76 (fun a1 a3 s h => ih a1 a3 s h) h
set_option maxRecDepth 20000 in
set_option maxHeartbeats 4000000 in
theorem mX10_letters {Y : xY} {Z : xZ} {s : xM} {z : Int64 × xM} (h : fX10_letters s = some z) : xMl (GM Y) Z yX10_letters cX10_letters 4 2 [.ref (Y.1 0)] s z := by
  refine xMl_of (by decide) (Nat.le_of_ble_eq_true rfl) (fun B C R => ?_)
  have C : xC (GM Y) Z B "BetweenStopsModel" cX10_letters 4 2 := C
  show xWS (GM Y) B 4 s [(0, .ref (Y.1 0))] 0 []
  unfold fX10_letters at h
  refine ws_lconst (v := 0) (pc := 0) C dX10_letters_0 (by decide) ?_
  refine ws_lstore_n (pc := 1) C dX10_letters_1 rfl (by decide) rfl ?_
  refine ws_iconst (pc := 2) C dX10_letters_2 ci_0 ?_
  refine ws_istore_n (pc := 3) C dX10_letters_3 rfl (by decide) rfl ?_
  refine ws_less [2, 1, 0] rfl ?_
  refine pX10_letters_L4 C R (fun x1 x2 s3 h => ?_) fu _ _ _ h
  · refine ws_iload_n (pc := 76) C dX10_letters_76 rfl 1 rfl ?_
    refine ws_iconst (pc := 77) C dX10_letters_77 ci_4 ?_
    refine ws_icmp_le (pc := 78) (tgt := 85) C dX10_letters_78 (by decide) (fun c4 => ?_) (fun c4 => ?_)
    · have h := ite_t h c4
      refine ws_lload_n (pc := 85) C dX10_letters_85 rfl 0 rfl ?_
      exact wr_l (pc := 86) C R dX10_letters_86 h
    · have h := ite_f h c4
      refine ws_lconst (v := 0) (pc := 81) C dX10_letters_81 (by decide) ?_
      refine ws_goto (pc := 82) (tgt := 86) C dX10_letters_82 (by decide) ?_
      exact wr_l (pc := 86) C R dX10_letters_86 h
set_option maxRecDepth 20000 in
set_option maxHeartbeats 4000000 in
theorem pX10_next_J39 {Y : xY} {Z : xZ} {B : xB} {z : Int32 × xM} (C : xC (GM Y) Z B "BetweenStopsModel" cX10_next 5 3) (R : xRv (GM Y) B z) {k52 : xM → Option (Int32 × xM)} {b : xM → Option (Int32 × xM)}
    (hk52 : ∀  (s : xM), k52 s = some z → xWS (GM Y) B 5 s [(0, .ref (Y.1 0))] 52 [])
    (hb : ∀  (s : xM), b s = some z → xWS (GM Y) B 5 s [(0, .ref (Y.1 0))] 0 []) {s : xM} (h : fX10_next_J39 k52 b s = some z) : xWS (GM Y) B 5 s [(0, .ref (Y.1 0))] 39 [] := by
  unfold fX10_next_J39 at h
  refine ws_aload_n (pc := 39) C dX10_next_39 rfl 0 rfl ?_
  refine ws_dup (pc := 40) C dX10_next_40 rfl ?_
  refine ws_geti (pc := 41) C dX10_next_41 fd_X10_266 sf_M_47 ?_
  refine ws_iconst (pc := 44) C dX10_next_44 ci_1 ?_
  refine ws_iadd (pc := 45) C dX10_next_45 ?_
  obtain ⟨s1, e2, h⟩ := lz_ok h
  refine ws_putI (pc := 46) C dX10_next_46 fp_X10_266 sf_M_47 e2 ?_
  refine ws_goto (pc := 49) (tgt := 0) C dX10_next_49 (by decide) ?_
  refine ws_less [0] rfl ?_
  exact hb _ h
set_option maxRecDepth 20000 in
set_option maxHeartbeats 4000000 in
theorem pX10_next_L0 {Y : xY} {Z : xZ} {B : xB} {z : Int32 × xM} (C : xC (GM Y) Z B "BetweenStopsModel" cX10_next 5 3) (R : xRv (GM Y) B z) {k52 : xM → Option (Int32 × xM)}
    (hk52 : ∀  (s : xM), k52 s = some z → xWS (GM Y) B 5 s [(0, .ref (Y.1 0))] 52 []) : ∀ (n : Nat)  (s : xM), fX10_next_L0 k52 n s = some z → xWS (GM Y) B 5 s [(0, .ref (Y.1 0))] 0 [] := by
  intro n
  induction n with
  | zero =>
    intro s h
    rw [fX10_next_L0] at h
    cases h
  | succ n ih =>
    intro s h
    rw [fX10_next_L0] at h
    refine ws_aload_n (pc := 0) C dX10_next_0 rfl 0 rfl ?_
    refine ws_geti (pc := 1) C dX10_next_1 fd_X10_266 sf_M_47 ?_
    refine ws_aload_n (pc := 4) C dX10_next_4 rfl 0 rfl ?_
    refine ws_geti (pc := 5) C dX10_next_5 fd_X10_205 sf_M_18 ?_
    refine ws_icmp_ge (pc := 8) (tgt := 52) C dX10_next_8 (by decide) (fun c1 => ?_) (fun c1 => ?_)
    · have h := ite_t h c1
      refine ws_less [0] rfl ?_
      exact hk52 _ h
    · have h := ite_f h c1
      refine ws_aload_n (pc := 11) C dX10_next_11 rfl 0 rfl ?_
      refine ws_getr (pc := 12) C dX10_next_12 fd_X10_56 sf_M_17 ?_
      refine ws_aload_n (pc := 15) C dX10_next_15 rfl 0 rfl ?_
      refine ws_geti (pc := 16) C dX10_next_16 fd_X10_266 sf_M_47 ?_
      obtain ⟨g2, h⟩ := gd_ok h
      refine ws_ialdK (pc := 19) C dX10_next_19 sr_m_tape g2 rfl ?_
      refine ws_bipush (pc := 20) C dX10_next_20 cb_32 ?_
      refine ws_icmp_eq (pc := 22) (tgt := 39) C dX10_next_22 (by decide) (fun c3 => ?_) (fun c3 => ?_)
      · have h := ite_t h c3
        refine ws_less [0] rfl ?_
        exact pX10_next_J39 C R hk52 (fun s h => ih s h) h
      · have h := ite_f h c3
        refine ws_aload_n (pc := 25) C dX10_next_25 rfl 0 rfl ?_
        refine ws_getr (pc := 26) C dX10_next_26 fd_X10_56 sf_M_17 ?_
        refine ws_aload_n (pc := 29) C dX10_next_29 rfl 0 rfl ?_
        refine ws_geti (pc := 30) C dX10_next_30 fd_X10_266 sf_M_47 ?_
        obtain ⟨g4, h⟩ := gd_ok h
        refine ws_ialdK (pc := 33) C dX10_next_33 sr_m_tape g4 rfl ?_
        refine ws_bipush (pc := 34) C dX10_next_34 cb_10 ?_
        refine ws_icmp_ne (pc := 36) (tgt := 52) C dX10_next_36 (by decide) (fun c5 => ?_) (fun c5 => ?_)
        · have h := ite_f h c5
          refine ws_less [0] rfl ?_
          exact hk52 _ h
        · have h := ite_t h c5
          refine ws_less [0] rfl ?_
          exact pX10_next_J39 C R hk52 (fun s h => ih s h) h
set_option maxRecDepth 20000 in
set_option maxHeartbeats 4000000 in
theorem pX10_next_L111 {Y : xY} {Z : xZ} {B : xB} {z : Int32 × xM} (C : xC (GM Y) Z B "BetweenStopsModel" cX10_next 5 3) (R : xRv (GM Y) B z) {k136 : Int32 → xM → Option (Int32 × xM)} {a2 : Int64}
    (hk136 : ∀ (a4 : Int32) (s : xM), k136 a4 s = some z → xWS (GM Y) B 5 s [(0, .ref (Y.1 0)), (4, .int a4)] 136 []) : ∀ (n : Nat) (a4 : Int32) (s : xM), fX10_next_L111 k136 a2 n a4 s = some z → xWS (GM Y) B 5 s [(0, .ref (Y.1 0)), (2, .long a2), (4, .int a4)] 111 [] := by
  intro n
  induction n with
  | zero =>
    intro a4 s h
    rw [fX10_next_L111] at h
    cases h
  | succ n ih =>
    intro a4 s h
    rw [fX10_next_L111] at h
    refine ws_iload (pc := 111) C dX10_next_111 2 rfl ?_
    refine ws_bipush (pc := 113) C dX10_next_113 cb_12 ?_
    refine ws_icmp_ge (pc := 115) (tgt := 136) C dX10_next_115 (by decide) (fun c1 => ?_) (fun c1 => ?_)
    · have h := ite_t h c1
      refine ws_less [0, 2] rfl ?_
      exact hk136 _ _ h
    · have h := ite_f h c1
      refine ws_aload_n (pc := 118) C dX10_next_118 rfl 0 rfl ?_
      refine ws_getr (pc := 119) C dX10_next_119 fd_X10_119 sf_M_51 ?_
      refine ws_iload (pc := 122) C dX10_next_122 2 rfl ?_
      obtain ⟨g2, h⟩ := gd_ok h
      refine ws_laldK (pc := 124) C dX10_next_124 sr_m_words g2 rfl ?_
      refine ws_lload_n (pc := 125) C dX10_next_125 rfl 1 rfl ?_
      refine ws_lcmp (pc := 126) C dX10_next_126 ?_
      refine ws_if_eq (pc := 127) (tgt := 136) C dX10_next_127 (by decide) (fun c3 => ?_) (fun c3 => ?_)
      · have h := ite_t h c3
        refine ws_less [0, 2] rfl ?_
        exact hk136 _ _ h
      · have h := ite_f h c3
        refine ws_iinc (j := 2) (pc := 130) C dX10_next_130 rfl (cn_1 _) (by decide) rfl ?_
        refine ws_goto (pc := 133) (tgt := 111) C dX10_next_133 (by decide) ?_
        refine ws_less [1, 2, 0] rfl ?_
        exact ih _ _ h
set_option maxRecDepth 20000 in
set_option maxHeartbeats 4000000 in
theorem pX10_next_J274 {Y : xY} {Z : xZ} {B : xB} {z : Int32 × xM} (C : xC (GM Y) Z B "BetweenStopsModel" cX10_next 5 3) (R : xRv (GM Y) B z) {k293 : Int32 → xM → Option (Int32 × xM)} {b : Int32 → xM → Option (Int32 × xM)} {a2 : Int32} {t0 : Int32}
    (hk293 : ∀ (a2 : Int32) (s : xM), k293 a2 s = some z → xWS (GM Y) B 5 s [(0, .ref (Y.1 0)), (2, .int a2)] 293 [])
    (hb : ∀ (a2 : Int32) (s : xM), b a2 s = some z → xWS (GM Y) B 5 s [(0, .ref (Y.1 0)), (2, .int a2)] 214 []) {s : xM} (h : fX10_next_J274 k293 b a2 t0 s = some z) : xWS (GM Y) B 5 s [(0, .ref (Y.1 0)), (2, .int a2)] 274 [.int t0, .ref (Y.1 0)] := by
  unfold fX10_next_J274 at h
  obtain ⟨s1, e2, h⟩ := lz_ok h
  refine ws_putI (pc := 274) C dX10_next_274 fp_X10_275 sf_M_50 e2 ?_
  refine ws_iinc (j := 1) (pc := 277) C dX10_next_277 rfl (cn_1 _) (by decide) rfl ?_
  refine ws_aload_n (pc := 280) C dX10_next_280 rfl 1 rfl ?_
  refine ws_dup (pc := 281) C dX10_next_281 rfl ?_
  refine ws_geti (pc := 282) C dX10_next_282 fd_X10_266 sf_M_47 ?_
  refine ws_iconst (pc := 285) C dX10_next_285 ci_1 ?_
  refine ws_iadd (pc := 286) C dX10_next_286 ?_
  obtain ⟨s3, e4, h⟩ := lz_ok h
  refine ws_putI (pc := 287) C dX10_next_287 fp_X10_266 sf_M_47 e4 ?_
  refine ws_goto (pc := 290) (tgt := 214) C dX10_next_290 (by decide) ?_
  refine ws_less [1, 0] rfl ?_
  exact hb _ _ h
set_option maxRecDepth 20000 in
set_option maxHeartbeats 4000000 in
theorem pX10_next_L214 {Y : xY} {Z : xZ} {B : xB} {z : Int32 × xM} (C : xC (GM Y) Z B "BetweenStopsModel" cX10_next 5 3) (R : xRv (GM Y) B z) {k293 : Int32 → xM → Option (Int32 × xM)}
    (hk293 : ∀ (a2 : Int32) (s : xM), k293 a2 s = some z → xWS (GM Y) B 5 s [(0, .ref (Y.1 0)), (2, .int a2)] 293 []) : ∀ (n : Nat) (a2 : Int32) (s : xM), fX10_next_L214 k293 n a2 s = some z → xWS (GM Y) B 5 s [(0, .ref (Y.1 0)), (2, .int a2)] 214 [] := by
  intro n
  induction n with
  | zero =>
    intro a2 s h
    rw [fX10_next_L214] at h
    cases h
  | succ n ih =>
    intro a2 s h
    rw [fX10_next_L214] at h
    refine ws_aload_n (pc := 214) C dX10_next_214 rfl 0 rfl ?_
    refine ws_geti (pc := 215) C dX10_next_215 fd_X10_266 sf_M_47 ?_
    refine ws_aload_n (pc := 218) C dX10_next_218 rfl 0 rfl ?_
    refine ws_geti (pc := 219) C dX10_next_219 fd_X10_205 sf_M_18 ?_
    refine ws_icmp_ge (pc := 222) (tgt := 293) C dX10_next_222 (by decide) (fun c1 => ?_) (fun c1 => ?_)
    · have h := ite_t h c1
      refine ws_less [0, 1] rfl ?_
      exact hk293 _ _ h
    · have h := ite_f h c1
      refine ws_aload_n (pc := 225) C dX10_next_225 rfl 0 rfl ?_
      refine ws_getr (pc := 226) C dX10_next_226 fd_X10_56 sf_M_17 ?_
      refine ws_aload_n (pc := 229) C dX10_next_229 rfl 0 rfl ?_
      refine ws_geti (pc := 230) C dX10_next_230 fd_X10_266 sf_M_47 ?_
      obtain ⟨g2, h⟩ := gd_ok h
      refine ws_ialdK (pc := 233) C dX10_next_233 sr_m_tape g2 rfl ?_
      refine ws_bipush (pc := 234) C dX10_next_234 cb_48 ?_
      refine ws_bipush (pc := 236) C dX10_next_236 cb_57 ?_
      obtain ⟨r3, s4, q5, h⟩ := bd_ok h
      refine wc_iS (pc := 238)  C [.int (gi s 14 (gi s 0 47).toNatClampNeg), .int (48 : Int32), .int (57 : Int32)] [] (mX10_in q5) dX10_next_238 mw_X10_in ks_X10_in kl_X10_162 rfl rfl (Nat.le_of_ble_eq_true rfl) ⟨by decide, by decide⟩ ?_
      refine ws_if_eq (pc := 241) (tgt := 293) C dX10_next_241 (by decide) (fun c6 => ?_) (fun c6 => ?_)
      · have h := ite_t h c6
        refine ws_less [0, 1] rfl ?_
        exact hk293 _ _ h
      · have h := ite_f h c6
        refine ws_aload_n (pc := 244) C dX10_next_244 rfl 0 rfl ?_
        refine ws_iload_n (pc := 245) C dX10_next_245 rfl 1 rfl ?_
        refine ws_iconst (pc := 246) C dX10_next_246 ci_4 ?_
        refine ws_icmp_ge (pc := 247) (tgt := 273) C dX10_next_247 (by decide) (fun c7 => ?_) (fun c7 => ?_)
        · have h := ite_t h c7
          refine ws_iconst (pc := 273) C dX10_next_273 ci_0 ?_
          refine ws_less [0, 1] rfl ?_
          exact pX10_next_J274 C R hk293 (fun a2 s h => ih a2 s h) h
        · have h := ite_f h c7
          refine ws_bipush (pc := 250) C dX10_next_250 cb_10 ?_
          refine ws_aload_n (pc := 252) C dX10_next_252 rfl 0 rfl ?_
          refine ws_geti (pc := 253) C dX10_next_253 fd_X10_275 sf_M_50 ?_
          refine ws_imul (pc := 256) C dX10_next_256 ?_
          refine ws_aload_n (pc := 257) C dX10_next_257 rfl 0 rfl ?_
          refine ws_getr (pc := 258) C dX10_next_258 fd_X10_56 sf_M_17 ?_
          refine ws_aload_n (pc := 261) C dX10_next_261 rfl 0 rfl ?_
          refine ws_geti (pc := 262) C dX10_next_262 fd_X10_266 sf_M_47 ?_
          obtain ⟨g8, h⟩ := gd_ok h
          refine ws_ialdK (pc := 265) C dX10_next_265 sr_m_tape g8 rfl ?_
          refine ws_iadd (pc := 266) C dX10_next_266 ?_
          refine ws_bipush (pc := 267) C dX10_next_267 cb_48 ?_
          refine ws_isub (pc := 269) C dX10_next_269 ?_
          refine ws_goto (pc := 270) (tgt := 274) C dX10_next_270 (by decide) ?_
          refine ws_less [0, 1] rfl ?_
          exact pX10_next_J274 C R hk293 (fun a2 s h => ih a2 s h) h
set_option maxRecDepth 20000 in
set_option maxHeartbeats 4000000 in
theorem pX10_next_J374 {Y : xY} {Z : xZ} {B : xB} {z : Int32 × xM} (C : xC (GM Y) Z B "BetweenStopsModel" cX10_next 5 3) (R : xRv (GM Y) B z) {t0 : Int32} {s : xM} (h : fX10_next_J374 t0 s = some z) : xWS (GM Y) B 5 s [(0, .ref (Y.1 0))] 374 [.int t0, .ref (Y.1 0)] := by
  unfold fX10_next_J374 at h
  obtain ⟨s1, e2, h⟩ := lz_ok h
  refine ws_putI (pc := 374) C dX10_next_374 fp_X10_272 sf_M_49 e2 ?_
  refine ws_aload_n (pc := 377) C dX10_next_377 rfl 0 rfl ?_
  refine ws_dup (pc := 378) C dX10_next_378 rfl ?_
  refine ws_geti (pc := 379) C dX10_next_379 fd_X10_266 sf_M_47 ?_
  refine ws_iconst (pc := 382) C dX10_next_382 ci_1 ?_
  refine ws_iadd (pc := 383) C dX10_next_383 ?_
  obtain ⟨s3, e4, h⟩ := lz_ok h
  refine ws_putI (pc := 384) C dX10_next_384 fp_X10_266 sf_M_47 e4 ?_
  exact wr_v (pc := 387) C R dX10_next_387 h
set_option maxRecDepth 20000 in
set_option maxHeartbeats 4000000 in
theorem pX10_next_J363 {Y : xY} {Z : xZ} {B : xB} {z : Int32 × xM} (C : xC (GM Y) Z B "BetweenStopsModel" cX10_next 5 3) (R : xRv (GM Y) B z) {a1 : Int32} {t0 : Int32} {s : xM} (h : fX10_next_J363 a1 t0 s = some z) : xWS (GM Y) B 5 s [(0, .ref (Y.1 0)), (1, .int a1)] 363 [.int t0] := by
  unfold fX10_next_J363 at h
  refine ws_istore_n (pc := 363) C dX10_next_363 rfl (by decide) rfl ?_
  refine ws_aload_n (pc := 364) C dX10_next_364 rfl 1 rfl ?_
  refine ws_iload_n (pc := 365) C dX10_next_365 rfl 0 rfl ?_
  refine ws_if_eq (pc := 366) (tgt := 373) C dX10_next_366 (by decide) (fun c1 => ?_) (fun c1 => ?_)
  · have h := ite_t h c1
    refine ws_iconst (pc := 373) C dX10_next_373 ci_m1 ?_
    refine ws_less [1] rfl ?_
    exact pX10_next_J374 C R h
  · have h := ite_f h c1
    refine ws_iload_n (pc := 369) C dX10_next_369 rfl 2 rfl ?_
    refine ws_goto (pc := 370) (tgt := 374) C dX10_next_370 (by decide) ?_
    refine ws_less [1] rfl ?_
    exact pX10_next_J374 C R h
set_option maxRecDepth 20000 in
set_option maxHeartbeats 4000000 in
theorem pX10_next_J358 {Y : xY} {Z : xZ} {B : xB} {z : Int32 × xM} (C : xC (GM Y) Z B "BetweenStopsModel" cX10_next 5 3) (R : xRv (GM Y) B z) {a1 : Int32} {s : xM} (h : fX10_next_J358 a1 s = some z) : xWS (GM Y) B 5 s [(0, .ref (Y.1 0)), (1, .int a1)] 358 [] := by
  unfold fX10_next_J358 at h
  refine ws_iconst (pc := 358) C dX10_next_358 ci_1 ?_
  refine ws_goto (pc := 359) (tgt := 363) C dX10_next_359 (by decide) ?_
  refine ws_less [0, 1] rfl ?_
  exact pX10_next_J363 C R h
set_option maxRecDepth 20000 in
set_option maxHeartbeats 4000000 in
theorem pX10_next_J304 {Y : xY} {Z : xZ} {B : xB} {z : Int32 × xM} (C : xC (GM Y) Z B "BetweenStopsModel" cX10_next 5 3) (R : xRv (GM Y) B z) {t0 : Int32} {s : xM} (h : fX10_next_J304 t0 s = some z) : xWS (GM Y) B 5 s [] 304 [.int t0, .ref (Y.1 0)] := by
  unfold fX10_next_J304 at h
  obtain ⟨s1, e2, h⟩ := lz_ok h
  refine ws_putI (pc := 304) C dX10_next_304 fp_X10_272 sf_M_49 e2 ?_
  refine ws_goto (pc := 307) (tgt := 387) C dX10_next_307 (by decide) ?_
  exact wr_v (pc := 387) C R dX10_next_387 h
set_option maxRecDepth 20000 in
set_option maxHeartbeats 4000000 in
theorem pX10_next_J195 {Y : xY} {Z : xZ} {B : xB} {z : Int32 × xM} (C : xC (GM Y) Z B "BetweenStopsModel" cX10_next 5 3) (R : xRv (GM Y) B z) {t0 : Int32} {s : xM} (h : fX10_next_J195 t0 s = some z) : xWS (GM Y) B 5 s [] 195 [.int t0, .ref (Y.1 0)] := by
  unfold fX10_next_J195 at h
  obtain ⟨s1, e2, h⟩ := lz_ok h
  refine ws_putI (pc := 195) C dX10_next_195 fp_X10_275 sf_M_50 e2 ?_
  refine ws_goto (pc := 198) (tgt := 387) C dX10_next_198 (by decide) ?_
  exact wr_v (pc := 387) C R dX10_next_387 h
set_option maxRecDepth 20000 in
set_option maxHeartbeats 4000000 in
theorem pX10_next_J176 {Y : xY} {Z : xZ} {B : xB} {z : Int32 × xM} (C : xC (GM Y) Z B "BetweenStopsModel" cX10_next 5 3) (R : xRv (GM Y) B z) {a4 : Int32} {t0 : Int32} {s : xM} (h : fX10_next_J176 a4 t0 s = some z) : xWS (GM Y) B 5 s [(0, .ref (Y.1 0)), (4, .int a4)] 176 [.int t0, .ref (Y.1 0)] := by
  unfold fX10_next_J176 at h
  obtain ⟨s1, e2, h⟩ := lz_ok h
  refine ws_putI (pc := 176) C dX10_next_176 fp_X10_272 sf_M_49 e2 ?_
  refine ws_aload_n (pc := 179) C dX10_next_179 rfl 0 rfl ?_
  refine ws_iload (pc := 180) C dX10_next_180 1 rfl ?_
  refine ws_iconst (pc := 182) C dX10_next_182 ci_3 ?_
  refine ws_icmp_ge (pc := 183) (tgt := 191) C dX10_next_183 (by decide) (fun c3 => ?_) (fun c3 => ?_)
  · have h := ite_t h c3
    refine ws_iload (pc := 191) C dX10_next_191 1 rfl ?_
    refine ws_iconst (pc := 193) C dX10_next_193 ci_3 ?_
    refine ws_isub (pc := 194) C dX10_next_194 ?_
    refine ws_less [] rfl ?_
    exact pX10_next_J195 C R h
  · have h := ite_f h c3
    refine ws_iload (pc := 186) C dX10_next_186 1 rfl ?_
    refine ws_goto (pc := 188) (tgt := 195) C dX10_next_188 (by decide) ?_
    refine ws_less [] rfl ?_
    exact pX10_next_J195 C R h
set_option maxRecDepth 20000 in
set_option maxHeartbeats 4000000 in
theorem mX10_next {Y : xY} {Z : xZ} {s : xM} {z : Int32 × xM} (h : fX10_next s = some z) : xMv (GM Y) Z yX10_next cX10_next 5 3 [.ref (Y.1 0)] s z := by
  refine xMv_of (by decide) (Nat.le_of_ble_eq_true rfl) (fun B C R => ?_)
  have C : xC (GM Y) Z B "BetweenStopsModel" cX10_next 5 3 := C
  show xWS (GM Y) B 5 s [(0, .ref (Y.1 0))] 0 []
  unfold fX10_next at h
  refine ws_less [0] rfl ?_
  refine pX10_next_L0 C R (fun s1 h => ?_) fu _ h
  · refine ws_aload_n (pc := 52) C dX10_next_52 rfl 0 rfl ?_
    refine ws_aload_n (pc := 53) C dX10_next_53 rfl 0 rfl ?_
    refine ws_geti (pc := 54) C dX10_next_54 fd_X10_266 sf_M_47 ?_
    obtain ⟨s2, e3, h⟩ := lz_ok h
    refine ws_putI (pc := 57) C dX10_next_57 fp_X10_269 sf_M_48 e3 ?_
    refine ws_aload_n (pc := 60) C dX10_next_60 rfl 0 rfl ?_
    refine ws_iconst (pc := 61) C dX10_next_61 ci_0 ?_
    obtain ⟨s4, e5, h⟩ := lz_ok h
    refine ws_putI (pc := 62) C dX10_next_62 fp_X10_272 sf_M_49 e5 ?_
    refine ws_aload_n (pc := 65) C dX10_next_65 rfl 0 rfl ?_
    refine ws_iconst (pc := 66) C dX10_next_66 ci_0 ?_
    obtain ⟨s6, e7, h⟩ := lz_ok h
    refine ws_putI (pc := 67) C dX10_next_67 fp_X10_275 sf_M_50 e7 ?_
    refine ws_aload_n (pc := 70) C dX10_next_70 rfl 0 rfl ?_
    refine ws_geti (pc := 71) C dX10_next_71 fd_X10_266 sf_M_47 ?_
    refine ws_aload_n (pc := 74) C dX10_next_74 rfl 0 rfl ?_
    refine ws_geti (pc := 75) C dX10_next_75 fd_X10_205 sf_M_18 ?_
    refine ws_icmp_ne (pc := 78) (tgt := 82) C dX10_next_78 (by decide) (fun c8 => ?_) (fun c8 => ?_)
    · have h := ite_f h c8
      refine ws_aload_n (pc := 82) C dX10_next_82 rfl 0 rfl ?_
      refine ws_getr (pc := 83) C dX10_next_83 fd_X10_56 sf_M_17 ?_
      refine ws_aload_n (pc := 86) C dX10_next_86 rfl 0 rfl ?_
      refine ws_geti (pc := 87) C dX10_next_87 fd_X10_266 sf_M_47 ?_
      obtain ⟨g9, h⟩ := gd_ok h
      refine ws_ialdK (pc := 90) C dX10_next_90 sr_m_tape g9 rfl ?_
      obtain ⟨v10, e11, h⟩ := lz_ok h
      refine ws_topi C e11 ?_
      refine ws_istore_n (pc := 91) C dX10_next_91 rfl (by decide) rfl ?_
      refine ws_iload_n (pc := 92) C dX10_next_92 rfl 0 rfl ?_
      refine ws_bipush (pc := 93) C dX10_next_93 cb_97 ?_
      refine ws_bipush (pc := 95) C dX10_next_95 cb_122 ?_
      obtain ⟨r12, s13, q14, h⟩ := bd_ok h
      refine wc_iS (pc := 97)  C [.int v10, .int (97 : Int32), .int (122 : Int32)] [] (mX10_in q14) dX10_next_97 mw_X10_in ks_X10_in kl_X10_162 rfl rfl (Nat.le_of_ble_eq_true rfl) ⟨by decide, by decide⟩ ?_
      refine ws_if_eq (pc := 100) (tgt := 201) C dX10_next_100 (by decide) (fun c15 => ?_) (fun c15 => ?_)
      · have h := ite_t h c15
        refine ws_iload_n (pc := 201) C dX10_next_201 rfl 0 rfl ?_
        refine ws_bipush (pc := 202) C dX10_next_202 cb_48 ?_
        refine ws_bipush (pc := 204) C dX10_next_204 cb_57 ?_
        obtain ⟨r16, s17, q18, h⟩ := bd_ok h
        refine wc_iS (pc := 206)  C [.int v10, .int (48 : Int32), .int (57 : Int32)] [] (mX10_in q18) dX10_next_206 mw_X10_in ks_X10_in kl_X10_162 rfl rfl (Nat.le_of_ble_eq_true rfl) ⟨by decide, by decide⟩ ?_
        refine ws_if_eq (pc := 209) (tgt := 310) C dX10_next_209 (by decide) (fun c19 => ?_) (fun c19 => ?_)
        · have h := ite_t h c19
          refine ws_iload_n (pc := 310) C dX10_next_310 rfl 0 rfl ?_
          refine ws_bipush (pc := 311) C dX10_next_311 cb_40 ?_
          refine ws_icmp_eq (pc := 313) (tgt := 358) C dX10_next_313 (by decide) (fun c20 => ?_) (fun c20 => ?_)
          · have h := ite_t h c20
            refine ws_less [1, 0] rfl ?_
            exact pX10_next_J358 C R h
          · have h := ite_f h c20
            refine ws_iload_n (pc := 316) C dX10_next_316 rfl 0 rfl ?_
            refine ws_bipush (pc := 317) C dX10_next_317 cb_41 ?_
            refine ws_icmp_eq (pc := 319) (tgt := 358) C dX10_next_319 (by decide) (fun c21 => ?_) (fun c21 => ?_)
            · have h := ite_t h c21
              refine ws_less [1, 0] rfl ?_
              exact pX10_next_J358 C R h
            · have h := ite_f h c21
              refine ws_iload_n (pc := 322) C dX10_next_322 rfl 0 rfl ?_
              refine ws_bipush (pc := 323) C dX10_next_323 cb_59 ?_
              refine ws_icmp_eq (pc := 325) (tgt := 358) C dX10_next_325 (by decide) (fun c22 => ?_) (fun c22 => ?_)
              · have h := ite_t h c22
                refine ws_less [1, 0] rfl ?_
                exact pX10_next_J358 C R h
              · have h := ite_f h c22
                refine ws_iload_n (pc := 328) C dX10_next_328 rfl 0 rfl ?_
                refine ws_bipush (pc := 329) C dX10_next_329 cb_43 ?_
                refine ws_icmp_eq (pc := 331) (tgt := 358) C dX10_next_331 (by decide) (fun c23 => ?_) (fun c23 => ?_)
                · have h := ite_t h c23
                  refine ws_less [1, 0] rfl ?_
                  exact pX10_next_J358 C R h
                · have h := ite_f h c23
                  refine ws_iload_n (pc := 334) C dX10_next_334 rfl 0 rfl ?_
                  refine ws_bipush (pc := 335) C dX10_next_335 cb_45 ?_
                  refine ws_icmp_eq (pc := 337) (tgt := 358) C dX10_next_337 (by decide) (fun c24 => ?_) (fun c24 => ?_)
                  · have h := ite_t h c24
                    refine ws_less [1, 0] rfl ?_
                    exact pX10_next_J358 C R h
                  · have h := ite_f h c24
                    refine ws_iload_n (pc := 340) C dX10_next_340 rfl 0 rfl ?_
                    refine ws_bipush (pc := 341) C dX10_next_341 cb_42 ?_
                    refine ws_icmp_eq (pc := 343) (tgt := 358) C dX10_next_343 (by decide) (fun c25 => ?_) (fun c25 => ?_)
                    · have h := ite_t h c25
                      refine ws_less [1, 0] rfl ?_
                      exact pX10_next_J358 C R h
                    · have h := ite_f h c25
                      refine ws_iload_n (pc := 346) C dX10_next_346 rfl 0 rfl ?_
                      refine ws_bipush (pc := 347) C dX10_next_347 cb_60 ?_
                      refine ws_icmp_eq (pc := 349) (tgt := 358) C dX10_next_349 (by decide) (fun c26 => ?_) (fun c26 => ?_)
                      · have h := ite_t h c26
                        refine ws_less [1, 0] rfl ?_
                        exact pX10_next_J358 C R h
                      · have h := ite_f h c26
                        refine ws_iload_n (pc := 352) C dX10_next_352 rfl 0 rfl ?_
                        refine ws_bipush (pc := 353) C dX10_next_353 cb_61 ?_
                        refine ws_icmp_ne (pc := 355) (tgt := 362) C dX10_next_355 (by decide) (fun c27 => ?_) (fun c27 => ?_)
                        · have h := ite_f h c27
                          refine ws_iconst (pc := 362) C dX10_next_362 ci_0 ?_
                          refine ws_less [1, 0] rfl ?_
                          exact pX10_next_J363 C R h
                        · have h := ite_t h c27
                          refine ws_less [1, 0] rfl ?_
                          exact pX10_next_J358 C R h
        · have h := ite_f h c19
          refine ws_iconst (pc := 212) C dX10_next_212 ci_0 ?_
          refine ws_istore_n (pc := 213) C dX10_next_213 rfl (by decide) rfl ?_
          refine ws_less [2, 0] rfl ?_
          refine pX10_next_L214 C R (fun x28 s29 h => ?_) fu _ _ h
          · refine ws_aload_n (pc := 293) C dX10_next_293 rfl 0 rfl ?_
            refine ws_iload_n (pc := 294) C dX10_next_294 rfl 1 rfl ?_
            refine ws_iconst (pc := 295) C dX10_next_295 ci_4 ?_
            refine ws_icmp_le (pc := 296) (tgt := 303) C dX10_next_296 (by decide) (fun c30 => ?_) (fun c30 => ?_)
            · have h := ite_t h c30
              refine ws_iconst (pc := 303) C dX10_next_303 ci_1 ?_
              refine ws_less [] rfl ?_
              exact pX10_next_J304 C R h
            · have h := ite_f h c30
              refine ws_iconst (pc := 299) C dX10_next_299 ci_m1 ?_
              refine ws_goto (pc := 300) (tgt := 304) C dX10_next_300 (by decide) ?_
              refine ws_less [] rfl ?_
              exact pX10_next_J304 C R h
      · have h := ite_f h c15
        refine ws_aload_n (pc := 103) C dX10_next_103 rfl 1 rfl ?_
        obtain ⟨r31, s32, q33, h⟩ := bd_ok h
        refine wc_lV (pc := 104)  C [] [] (mX10_letters q33) dX10_next_104 mw_X10_letters mv_X10_letters kl_X10_278 so_M rfl rfl (Nat.le_of_ble_eq_true rfl) ⟨by decide, by decide⟩ ?_
        refine ws_lstore_n (pc := 107) C dX10_next_107 rfl (by decide) rfl ?_
        refine ws_iconst (pc := 108) C dX10_next_108 ci_0 ?_
        refine ws_istore (pc := 109) C dX10_next_109 (by decide) rfl ?_
        refine ws_less [3, 1, 0] rfl ?_
        refine pX10_next_L111 C R (fun x34 s35 h => ?_) fu _ _ h
        · refine ws_aload_n (pc := 136) C dX10_next_136 rfl 0 rfl ?_
          refine ws_iload (pc := 137) C dX10_next_137 1 rfl ?_
          refine ws_iconst (pc := 139) C dX10_next_139 ci_3 ?_
          refine ws_icmp_ge (pc := 140) (tgt := 147) C dX10_next_140 (by decide) (fun c36 => ?_) (fun c36 => ?_)
          · have h := ite_t h c36
            refine ws_iload (pc := 147) C dX10_next_147 1 rfl ?_
            refine ws_bipush (pc := 149) C dX10_next_149 cb_9 ?_
            refine ws_icmp_ge (pc := 151) (tgt := 158) C dX10_next_151 (by decide) (fun c37 => ?_) (fun c37 => ?_)
            · have h := ite_t h c37
              refine ws_iload (pc := 158) C dX10_next_158 1 rfl ?_
              refine ws_bipush (pc := 160) C dX10_next_160 cb_12 ?_
              refine ws_icmp_ne (pc := 162) (tgt := 169) C dX10_next_162 (by decide) (fun c38 => ?_) (fun c38 => ?_)
              · have h := ite_f h c38
                refine ws_iconst (pc := 169) C dX10_next_169 ci_4 ?_
                refine ws_iload (pc := 170) C dX10_next_170 1 rfl ?_
                refine ws_iadd (pc := 172) C dX10_next_172 ?_
                refine ws_bipush (pc := 173) C dX10_next_173 cb_9 ?_
                refine ws_isub (pc := 175) C dX10_next_175 ?_
                refine ws_less [0, 1] rfl ?_
                exact pX10_next_J176 C R h
              · have h := ite_t h c38
                refine ws_iconst (pc := 165) C dX10_next_165 ci_m1 ?_
                refine ws_goto (pc := 166) (tgt := 176) C dX10_next_166 (by decide) ?_
                refine ws_less [0, 1] rfl ?_
                exact pX10_next_J176 C R h
            · have h := ite_f h c37
              refine ws_iconst (pc := 154) C dX10_next_154 ci_2 ?_
              refine ws_goto (pc := 155) (tgt := 176) C dX10_next_155 (by decide) ?_
              refine ws_less [0, 1] rfl ?_
              exact pX10_next_J176 C R h
          · have h := ite_f h c36
            refine ws_iconst (pc := 143) C dX10_next_143 ci_3 ?_
            refine ws_goto (pc := 144) (tgt := 176) C dX10_next_144 (by decide) ?_
            refine ws_less [0, 1] rfl ?_
            exact pX10_next_J176 C R h
    · have h := ite_t h c8
      exact wr_v (pc := 81) C R dX10_next_81 h
set_option maxRecDepth 20000 in
set_option maxHeartbeats 4000000 in
theorem mX10_rank {Y : xY} {Z : xZ} {a0 : Int32} {s : xM} {z : Int32 × xM} (h : fX10_rank a0 s = some z) : xMi (GM Y) Z yX10_rank cX10_rank 1 1 .int [.int a0] s z := by
  refine xMi_of (by decide) (Nat.le_of_ble_eq_true rfl) (fun B C R => ?_)
  have C : xC (GM Y) Z B "BetweenStopsModel" cX10_rank 1 1 := C
  show xWS (GM Y) B 1 s [(0, .int a0)] 0 []
  unfold fX10_rank at h
  refine ws_iload_n (pc := 0) C dX10_rank_0 rfl 0 rfl ?_
  refine ws_if_ne (pc := 1) (tgt := 8) C dX10_rank_1 (by decide) (fun c1 => ?_) (fun c1 => ?_)
  · have h := ite_f h c1
    refine ws_iload_n (pc := 8) C dX10_rank_8 rfl 0 rfl ?_
    refine ws_bipush (pc := 9) C dX10_rank_9 cb_11 ?_
    refine ws_icmp_ne (pc := 11) (tgt := 18) C dX10_rank_11 (by decide) (fun c2 => ?_) (fun c2 => ?_)
    · have h := ite_f h c2
      refine ws_iload_n (pc := 18) C dX10_rank_18 rfl 0 rfl ?_
      refine ws_bipush (pc := 19) C dX10_rank_19 cb_12 ?_
      refine ws_icmp_ne (pc := 21) (tgt := 28) C dX10_rank_21 (by decide) (fun c3 => ?_) (fun c3 => ?_)
      · have h := ite_f h c3
        refine ws_iload_n (pc := 28) C dX10_rank_28 rfl 0 rfl ?_
        refine ws_bipush (pc := 29) C dX10_rank_29 cb_13 ?_
        refine ws_icmp_ne (pc := 31) (tgt := 38) C dX10_rank_31 (by decide) (fun c4 => ?_) (fun c4 => ?_)
        · have h := ite_f h c4
          refine ws_iload_n (pc := 38) C dX10_rank_38 rfl 0 rfl ?_
          refine ws_bipush (pc := 39) C dX10_rank_39 cb_15 ?_
          refine ws_icmp_gt (pc := 41) (tgt := 48) C dX10_rank_41 (by decide) (fun c5 => ?_) (fun c5 => ?_)
          · have h := ite_t h c5
            refine ws_iload_n (pc := 48) C dX10_rank_48 rfl 0 rfl ?_
            refine ws_bipush (pc := 49) C dX10_rank_49 cb_17 ?_
            refine ws_icmp_gt (pc := 51) (tgt := 58) C dX10_rank_51 (by decide) (fun c6 => ?_) (fun c6 => ?_)
            · have h := ite_t h c6
              refine ws_iload_n (pc := 58) C dX10_rank_58 rfl 0 rfl ?_
              refine ws_bipush (pc := 59) C dX10_rank_59 cb_18 ?_
              refine ws_icmp_ne (pc := 61) (tgt := 69) C dX10_rank_61 (by decide) (fun c7 => ?_) (fun c7 => ?_)
              · have h := ite_f h c7
                refine ws_bipush (pc := 69) C dX10_rank_69 cb_7 ?_
                exact wr_i (pc := 71) C R dX10_rank_71 rfl h
              · have h := ite_t h c7
                refine ws_bipush (pc := 64) C dX10_rank_64 cb_6 ?_
                refine ws_goto (pc := 66) (tgt := 71) C dX10_rank_66 (by decide) ?_
                exact wr_i (pc := 71) C R dX10_rank_71 rfl h
            · have h := ite_f h c6
              refine ws_iconst (pc := 54) C dX10_rank_54 ci_5 ?_
              refine ws_goto (pc := 55) (tgt := 71) C dX10_rank_55 (by decide) ?_
              exact wr_i (pc := 71) C R dX10_rank_71 rfl h
          · have h := ite_f h c5
            refine ws_iconst (pc := 44) C dX10_rank_44 ci_4 ?_
            refine ws_goto (pc := 45) (tgt := 71) C dX10_rank_45 (by decide) ?_
            exact wr_i (pc := 71) C R dX10_rank_71 rfl h
        · have h := ite_t h c4
          refine ws_iconst (pc := 34) C dX10_rank_34 ci_3 ?_
          refine ws_goto (pc := 35) (tgt := 71) C dX10_rank_35 (by decide) ?_
          exact wr_i (pc := 71) C R dX10_rank_71 rfl h
      · have h := ite_t h c3
        refine ws_iconst (pc := 24) C dX10_rank_24 ci_2 ?_
        refine ws_goto (pc := 25) (tgt := 71) C dX10_rank_25 (by decide) ?_
        exact wr_i (pc := 71) C R dX10_rank_71 rfl h
    · have h := ite_t h c2
      refine ws_iconst (pc := 14) C dX10_rank_14 ci_1 ?_
      refine ws_goto (pc := 15) (tgt := 71) C dX10_rank_15 (by decide) ?_
      exact wr_i (pc := 71) C R dX10_rank_71 rfl h
  · have h := ite_t h c1
    refine ws_iconst (pc := 4) C dX10_rank_4 ci_0 ?_
    refine ws_goto (pc := 5) (tgt := 71) C dX10_rank_5 (by decide) ?_
    exact wr_i (pc := 71) C R dX10_rank_71 rfl h
set_option maxRecDepth 20000 in
set_option maxHeartbeats 4000000 in
theorem mX10_puts {Y : xY} {Z : xZ} {a1 : Int32} {s : xM} {z : Int32 × xM} (h : fX10_puts a1 s = some z) : xMv (GM Y) Z yX10_puts cX10_puts 2 1 [.ref (Y.1 0), .int a1] s z := by
  refine xMv_of (by decide) (Nat.le_of_ble_eq_true rfl) (fun B C R => ?_)
  have C : xC (GM Y) Z B "BetweenStopsModel" cX10_puts 2 1 := C
  show xWS (GM Y) B 2 s [(0, .ref (Y.1 0)), (1, .int a1)] 0 []
  unfold fX10_puts at h
  refine ws_aload_n (pc := 0) C dX10_puts_0 rfl 0 rfl ?_
  refine ws_getr (pc := 1) C dX10_puts_1 fd_X10_59 sf_M_19 ?_
  refine ws_sipush (pc := 4) C dX10_puts_4 cs_200 ?_
  refine ws_aload_n (pc := 7) C dX10_puts_7 rfl 0 rfl ?_
  refine ws_geti (pc := 8) C dX10_puts_8 fd_X10_65 sf_M_21 ?_
  refine ws_imul (pc := 11) C dX10_puts_11 ?_
  refine ws_aload_n (pc := 12) C dX10_puts_12 rfl 0 rfl ?_
  refine ws_geti (pc := 13) C dX10_puts_13 fd_X10_281 sf_M_55 ?_
  refine ws_iadd (pc := 16) C dX10_puts_16 ?_
  refine ws_iload_n (pc := 17) C dX10_puts_17 rfl 1 rfl ?_
  obtain ⟨g1, h⟩ := gd_ok h
  obtain ⟨s2, e3, h⟩ := lz_ok h
  refine ws_iastK (pc := 18) C dX10_puts_18 sr_m_codes g1 rfl e3 ?_
  refine ws_aload_n (pc := 19) C dX10_puts_19 rfl 0 rfl ?_
  refine ws_dup (pc := 20) C dX10_puts_20 rfl ?_
  refine ws_geti (pc := 21) C dX10_puts_21 fd_X10_281 sf_M_55 ?_
  refine ws_iconst (pc := 24) C dX10_puts_24 ci_1 ?_
  refine ws_iadd (pc := 25) C dX10_puts_25 ?_
  obtain ⟨s4, e5, h⟩ := lz_ok h
  refine ws_putI (pc := 26) C dX10_puts_26 fp_X10_281 sf_M_55 e5 ?_
  exact wr_v (pc := 29) C R dX10_puts_29 h
set_option maxRecDepth 20000 in
set_option maxHeartbeats 4000000 in
theorem pX10_unwinds_J67 {Y : xY} {Z : xZ} {B : xB} {z : Int32 × xM} (C : xC (GM Y) Z B "BetweenStopsModel" cX10_unwinds 3 2) (R : xRv (GM Y) B z) {k79 : xM → Option (Int32 × xM)} {b : xM → Option (Int32 × xM)} {a1 : Int32} {a2 : Int32} {t0 : Int32} {t1 : Int32}
    (hk79 : ∀  (s : xM), k79 s = some z → xWS (GM Y) B 3 s [] 79 [])
    (hb : ∀  (s : xM), b s = some z → xWS (GM Y) B 3 s [(0, .ref (Y.1 0)), (1, .int a1)] 0 []) {s : xM} (h : fX10_unwinds_J67 k79 b a1 a2 t0 t1 s = some z) : xWS (GM Y) B 3 s [(0, .ref (Y.1 0)), (1, .int a1), (2, .int a2)] 67 [.int t0, .int t1, .ref (Y.1 0)] := by
  unfold fX10_unwinds_J67 at h
  refine ws_isub (pc := 67) C dX10_unwinds_67 ?_
  obtain ⟨s1, e2, h⟩ := lz_ok h
  refine ws_putI (pc := 68) C dX10_unwinds_68 fp_X10_290 sf_M_54 e2 ?_
  refine ws_aload_n (pc := 71) C dX10_unwinds_71 rfl 0 rfl ?_
  refine ws_iload_n (pc := 72) C dX10_unwinds_72 rfl 2 rfl ?_
  obtain ⟨r3, s4, q5, h⟩ := bd_ok h
  refine wc_vV (pc := 73)  C [.int a2] [] (mX10_puts q5) dX10_unwinds_73 mw_X10_puts mv_X10_puts kl_X10_293 so_M rfl rfl (Nat.le_of_ble_eq_true rfl) ⟨by decide, by decide⟩ ?_
  refine ws_goto (pc := 76) (tgt := 0) C dX10_unwinds_76 (by decide) ?_
  refine ws_less [0, 1] rfl ?_
  exact hb _ h
set_option maxRecDepth 20000 in
set_option maxHeartbeats 4000000 in
theorem pX10_unwinds_J62 {Y : xY} {Z : xZ} {B : xB} {z : Int32 × xM} (C : xC (GM Y) Z B "BetweenStopsModel" cX10_unwinds 3 2) (R : xRv (GM Y) B z) {k79 : xM → Option (Int32 × xM)} {b : xM → Option (Int32 × xM)} {a1 : Int32} {a2 : Int32} {t0 : Int32}
    (hk79 : ∀  (s : xM), k79 s = some z → xWS (GM Y) B 3 s [] 79 [])
    (hb : ∀  (s : xM), b s = some z → xWS (GM Y) B 3 s [(0, .ref (Y.1 0)), (1, .int a1)] 0 []) {s : xM} (h : fX10_unwinds_J62 k79 b a1 a2 t0 s = some z) : xWS (GM Y) B 3 s [(0, .ref (Y.1 0)), (1, .int a1), (2, .int a2)] 62 [.int t0, .ref (Y.1 0)] := by
  unfold fX10_unwinds_J62 at h
  refine ws_iconst (pc := 62) C dX10_unwinds_62 ci_1 ?_
  refine ws_goto (pc := 63) (tgt := 67) C dX10_unwinds_63 (by decide) ?_
  refine ws_less [0, 1, 2] rfl ?_
  exact pX10_unwinds_J67 C R hk79 hb h
set_option maxRecDepth 20000 in
set_option maxHeartbeats 4000000 in
theorem pX10_unwinds_L0 {Y : xY} {Z : xZ} {B : xB} {z : Int32 × xM} (C : xC (GM Y) Z B "BetweenStopsModel" cX10_unwinds 3 2) (R : xRv (GM Y) B z) {k79 : xM → Option (Int32 × xM)} {a1 : Int32}
    (hk79 : ∀  (s : xM), k79 s = some z → xWS (GM Y) B 3 s [] 79 []) : ∀ (n : Nat)  (s : xM), fX10_unwinds_L0 k79 a1 n s = some z → xWS (GM Y) B 3 s [(0, .ref (Y.1 0)), (1, .int a1)] 0 [] := by
  intro n
  induction n with
  | zero =>
    intro s h
    rw [fX10_unwinds_L0] at h
    cases h
  | succ n ih =>
    intro s h
    rw [fX10_unwinds_L0] at h
    refine ws_aload_n (pc := 0) C dX10_unwinds_0 rfl 0 rfl ?_
    refine ws_geti (pc := 1) C dX10_unwinds_1 fd_X10_284 sf_M_53 ?_
    refine ws_if_le (pc := 4) (tgt := 79) C dX10_unwinds_4 (by decide) (fun c1 => ?_) (fun c1 => ?_)
    · have h := ite_t h c1
      refine ws_less [] rfl ?_
      exact hk79 _ h
    · have h := ite_f h c1
      refine ws_aload_n (pc := 7) C dX10_unwinds_7 rfl 0 rfl ?_
      refine ws_getr (pc := 8) C dX10_unwinds_8 fd_X10_123 sf_M_52 ?_
      refine ws_aload_n (pc := 11) C dX10_unwinds_11 rfl 0 rfl ?_
      refine ws_geti (pc := 12) C dX10_unwinds_12 fd_X10_284 sf_M_53 ?_
      refine ws_iconst (pc := 15) C dX10_unwinds_15 ci_1 ?_
      refine ws_isub (pc := 16) C dX10_unwinds_16 ?_
      obtain ⟨g2, h⟩ := gd_ok h
      refine ws_ialdK (pc := 17) C dX10_unwinds_17 sr_m_held g2 rfl ?_
      obtain ⟨r3, s4, q5, h⟩ := bd_ok h
      refine wc_iS (pc := 18)  C [.int (gi s 27 ((gi s 0 53) - (1 : Int32)).toNatClampNeg)] [] (mX10_rank q5) dX10_unwinds_18 mw_X10_rank ks_X10_rank kl_X10_287 rfl rfl (Nat.le_of_ble_eq_true rfl) ⟨by decide, by decide⟩ ?_
      refine ws_iload_n (pc := 21) C dX10_unwinds_21 rfl 1 rfl ?_
      refine ws_icmp_lt (pc := 22) (tgt := 79) C dX10_unwinds_22 (by decide) (fun c6 => ?_) (fun c6 => ?_)
      · have h := ite_t h c6
        refine ws_less [] rfl ?_
        exact hk79 _ h
      · have h := ite_f h c6
        refine ws_aload_n (pc := 25) C dX10_unwinds_25 rfl 0 rfl ?_
        refine ws_dup (pc := 26) C dX10_unwinds_26 rfl ?_
        refine ws_geti (pc := 27) C dX10_unwinds_27 fd_X10_284 sf_M_53 ?_
        refine ws_iconst (pc := 30) C dX10_unwinds_30 ci_1 ?_
        refine ws_isub (pc := 31) C dX10_unwinds_31 ?_
        obtain ⟨s7, e8, h⟩ := lz_ok h
        refine ws_putI (pc := 32) C dX10_unwinds_32 fp_X10_284 sf_M_53 e8 ?_
        refine ws_aload_n (pc := 35) C dX10_unwinds_35 rfl 0 rfl ?_
        refine ws_getr (pc := 36) C dX10_unwinds_36 fd_X10_123 sf_M_52 ?_
        refine ws_aload_n (pc := 39) C dX10_unwinds_39 rfl 0 rfl ?_
        refine ws_geti (pc := 40) C dX10_unwinds_40 fd_X10_284 sf_M_53 ?_
        obtain ⟨g9, h⟩ := gd_ok h
        refine ws_ialdK (pc := 43) C dX10_unwinds_43 sr_m_held g9 rfl ?_
        obtain ⟨v10, e11, h⟩ := lz_ok h
        refine ws_topi C e11 ?_
        refine ws_istore_n (pc := 44) C dX10_unwinds_44 rfl (by decide) rfl ?_
        refine ws_aload_n (pc := 45) C dX10_unwinds_45 rfl 1 rfl ?_
        refine ws_dup (pc := 46) C dX10_unwinds_46 rfl ?_
        refine ws_geti (pc := 47) C dX10_unwinds_47 fd_X10_290 sf_M_54 ?_
        refine ws_iload_n (pc := 50) C dX10_unwinds_50 rfl 0 rfl ?_
        refine ws_bipush (pc := 51) C dX10_unwinds_51 cb_13 ?_
        refine ws_icmp_eq (pc := 53) (tgt := 62) C dX10_unwinds_53 (by decide) (fun c12 => ?_) (fun c12 => ?_)
        · have h := ite_t h c12
          refine ws_less [1, 2, 0] rfl ?_
          exact pX10_unwinds_J62 C R hk79 (fun s h => ih s h) h
        · have h := ite_f h c12
          refine ws_iload_n (pc := 56) C dX10_unwinds_56 rfl 0 rfl ?_
          refine ws_bipush (pc := 57) C dX10_unwinds_57 cb_19 ?_
          refine ws_icmp_ne (pc := 59) (tgt := 66) C dX10_unwinds_59 (by decide) (fun c13 => ?_) (fun c13 => ?_)
          · have h := ite_f h c13
            refine ws_iconst (pc := 66) C dX10_unwinds_66 ci_0 ?_
            refine ws_less [1, 2, 0] rfl ?_
            exact pX10_unwinds_J67 C R hk79 (fun s h => ih s h) h
          · have h := ite_t h c13
            refine ws_less [1, 2, 0] rfl ?_
            exact pX10_unwinds_J62 C R hk79 (fun s h => ih s h) h
set_option maxRecDepth 20000 in
set_option maxHeartbeats 4000000 in
theorem mX10_unwinds {Y : xY} {Z : xZ} {a1 : Int32} {s : xM} {z : Int32 × xM} (h : fX10_unwinds a1 s = some z) : xMv (GM Y) Z yX10_unwinds cX10_unwinds 3 2 [.ref (Y.1 0), .int a1] s z := by
  refine xMv_of (by decide) (Nat.le_of_ble_eq_true rfl) (fun B C R => ?_)
  have C : xC (GM Y) Z B "BetweenStopsModel" cX10_unwinds 3 2 := C
  show xWS (GM Y) B 3 s [(0, .ref (Y.1 0)), (1, .int a1)] 0 []
  unfold fX10_unwinds at h
  refine ws_less [0, 1] rfl ?_
  refine pX10_unwinds_L0 C R (fun s1 h => ?_) fu _ h
  · exact wr_v (pc := 79) C R dX10_unwinds_79 h
set_option maxRecDepth 20000 in
set_option maxHeartbeats 4000000 in
theorem mX10_holds {Y : xY} {Z : xZ} {a1 : Int32} {s : xM} {z : Int32 × xM} (h : fX10_holds a1 s = some z) : xMv (GM Y) Z yX10_holds cX10_holds 2 1 [.ref (Y.1 0), .int a1] s z := by
  refine xMv_of (by decide) (Nat.le_of_ble_eq_true rfl) (fun B C R => ?_)
  have C : xC (GM Y) Z B "BetweenStopsModel" cX10_holds 2 1 := C
  show xWS (GM Y) B 2 s [(0, .ref (Y.1 0)), (1, .int a1)] 0 []
  unfold fX10_holds at h
  refine ws_aload_n (pc := 0) C dX10_holds_0 rfl 0 rfl ?_
  refine ws_getr (pc := 1) C dX10_holds_1 fd_X10_123 sf_M_52 ?_
  refine ws_aload_n (pc := 4) C dX10_holds_4 rfl 0 rfl ?_
  refine ws_geti (pc := 5) C dX10_holds_5 fd_X10_284 sf_M_53 ?_
  refine ws_iload_n (pc := 8) C dX10_holds_8 rfl 1 rfl ?_
  obtain ⟨g1, h⟩ := gd_ok h
  obtain ⟨s2, e3, h⟩ := lz_ok h
  refine ws_iastK (pc := 9) C dX10_holds_9 sr_m_held g1 rfl e3 ?_
  refine ws_aload_n (pc := 10) C dX10_holds_10 rfl 0 rfl ?_
  refine ws_dup (pc := 11) C dX10_holds_11 rfl ?_
  refine ws_geti (pc := 12) C dX10_holds_12 fd_X10_284 sf_M_53 ?_
  refine ws_iconst (pc := 15) C dX10_holds_15 ci_1 ?_
  refine ws_iadd (pc := 16) C dX10_holds_16 ?_
  obtain ⟨s4, e5, h⟩ := lz_ok h
  refine ws_putI (pc := 17) C dX10_holds_17 fp_X10_284 sf_M_53 e5 ?_
  exact wr_v (pc := 20) C R dX10_holds_20 h
set_option maxRecDepth 20000 in
set_option maxHeartbeats 4000000 in
theorem mX10_opensOne {Y : xY} {Z : xZ} {a1 : Int32} {s : xM} {z : Int32 × xM} (h : fX10_opensOne a1 s = some z) : xMi (GM Y) Z yX10_opensOne cX10_opensOne 2 2 .boolean [.ref (Y.1 0), .int a1] s z := by
  refine xMi_of (by decide) (Nat.le_of_ble_eq_true rfl) (fun B C R => ?_)
  have C : xC (GM Y) Z B "BetweenStopsModel" cX10_opensOne 2 2 := C
  show xWS (GM Y) B 2 s [(0, .ref (Y.1 0)), (1, .int a1)] 0 []
  unfold fX10_opensOne at h
  refine ws_aload_n (pc := 0) C dX10_opensOne_0 rfl 0 rfl ?_
  refine ws_geti (pc := 1) C dX10_opensOne_1 fd_X10_290 sf_M_54 ?_
  refine ws_iconst (pc := 4) C dX10_opensOne_4 ci_5 ?_
  refine ws_icmp_ne (pc := 5) (tgt := 10) C dX10_opensOne_5 (by decide) (fun c1 => ?_) (fun c1 => ?_)
  · have h := ite_f h c1
    refine ws_aload_n (pc := 10) C dX10_opensOne_10 rfl 0 rfl ?_
    refine ws_dup (pc := 11) C dX10_opensOne_11 rfl ?_
    refine ws_geti (pc := 12) C dX10_opensOne_12 fd_X10_290 sf_M_54 ?_
    refine ws_iconst (pc := 15) C dX10_opensOne_15 ci_1 ?_
    refine ws_iadd (pc := 16) C dX10_opensOne_16 ?_
    obtain ⟨s2, e3, h⟩ := lz_ok h
    refine ws_putI (pc := 17) C dX10_opensOne_17 fp_X10_290 sf_M_54 e3 ?_
    refine ws_aload_n (pc := 20) C dX10_opensOne_20 rfl 0 rfl ?_
    refine ws_iload_n (pc := 21) C dX10_opensOne_21 rfl 1 rfl ?_
    obtain ⟨r4, s5, q6, h⟩ := bd_ok h
    refine wc_vV (pc := 22)  C [.int a1] [] (mX10_holds q6) dX10_opensOne_22 mw_X10_holds mv_X10_holds kl_X10_296 so_M rfl rfl (Nat.le_of_ble_eq_true rfl) ⟨by decide, by decide⟩ ?_
    refine ws_iconst (pc := 25) C dX10_opensOne_25 ci_1 ?_
    exact wr_i (pc := 26) C R dX10_opensOne_26 (isZ_nar isZ1) h
  · have h := ite_t h c1
    refine ws_iconst (pc := 8) C dX10_opensOne_8 ci_0 ?_
    exact wr_i (pc := 9) C R dX10_opensOne_9 (isZ_nar isZ0) h
set_option maxRecDepth 20000 in
set_option maxHeartbeats 4000000 in
theorem pX10_between_J55 {Y : xY} {Z : xZ} {B : xB} {z : Int32 × xM} (C : xC (GM Y) Z B "BetweenStopsModel" cX10_between 2 3) (R : xRi (GM Y) B .boolean z) {a1 : Int32} {s : xM} (h : fX10_between_J55 a1 s = some z) : xWS (GM Y) B 2 s [(0, .ref (Y.1 0)), (1, .int a1)] 55 [] := by
  unfold fX10_between_J55 at h
  refine ws_aload_n (pc := 55) C dX10_between_55 rfl 0 rfl ?_
  refine ws_iload_n (pc := 56) C dX10_between_56 rfl 1 rfl ?_
  obtain ⟨r1, s2, q3, h⟩ := bd_ok h
  refine wc_vV (pc := 57)  C [.int a1] [] (mX10_holds q3) dX10_between_57 mw_X10_holds mv_X10_holds kl_X10_296 so_M rfl rfl (Nat.le_of_ble_eq_true rfl) ⟨by decide, by decide⟩ ?_
  refine ws_iconst (pc := 60) C dX10_between_60 ci_1 ?_
  exact wr_i (pc := 61) C R dX10_between_61 (isZ_nar isZ1) h
set_option maxRecDepth 20000 in
set_option maxHeartbeats 4000000 in
theorem pX10_between_J17 {Y : xY} {Z : xZ} {B : xB} {z : Int32 × xM} (C : xC (GM Y) Z B "BetweenStopsModel" cX10_between 2 3) (R : xRi (GM Y) B .boolean z) {a1 : Int32} {t0 : Int32} {s : xM} (h : fX10_between_J17 a1 t0 s = some z) : xWS (GM Y) B 2 s [(0, .ref (Y.1 0)), (1, .int a1)] 17 [.int t0, .ref (Y.1 0)] := by
  unfold fX10_between_J17 at h
  obtain ⟨r1, s2, q3, h⟩ := bd_ok h
  refine wc_vV (pc := 17)  C [.int t0] [] (mX10_unwinds q3) dX10_between_17 mw_X10_unwinds mv_X10_unwinds kl_X10_299 so_M rfl rfl (Nat.le_of_ble_eq_true rfl) ⟨by decide, by decide⟩ ?_
  refine ws_iload_n (pc := 20) C dX10_between_20 rfl 1 rfl ?_
  obtain ⟨r4, s5, q6, h⟩ := bd_ok h
  refine wc_iS (pc := 21)  C [.int a1] [] (mX10_rank q6) dX10_between_21 mw_X10_rank ks_X10_rank kl_X10_287 rfl rfl (Nat.le_of_ble_eq_true rfl) ⟨by decide, by decide⟩ ?_
  refine ws_iconst (pc := 24) C dX10_between_24 ci_4 ?_
  refine ws_icmp_ne (pc := 25) (tgt := 55) C dX10_between_25 (by decide) (fun c7 => ?_) (fun c7 => ?_)
  · have h := ite_f h c7
    refine ws_less [0, 1] rfl ?_
    exact pX10_between_J55 C R h
  · have h := ite_t h c7
    refine ws_aload_n (pc := 28) C dX10_between_28 rfl 0 rfl ?_
    refine ws_geti (pc := 29) C dX10_between_29 fd_X10_284 sf_M_53 ?_
    refine ws_if_le (pc := 32) (tgt := 55) C dX10_between_32 (by decide) (fun c8 => ?_) (fun c8 => ?_)
    · have h := ite_t h c8
      refine ws_less [0, 1] rfl ?_
      exact pX10_between_J55 C R h
    · have h := ite_f h c8
      refine ws_aload_n (pc := 35) C dX10_between_35 rfl 0 rfl ?_
      refine ws_getr (pc := 36) C dX10_between_36 fd_X10_123 sf_M_52 ?_
      refine ws_aload_n (pc := 39) C dX10_between_39 rfl 0 rfl ?_
      refine ws_geti (pc := 40) C dX10_between_40 fd_X10_284 sf_M_53 ?_
      refine ws_iconst (pc := 43) C dX10_between_43 ci_1 ?_
      refine ws_isub (pc := 44) C dX10_between_44 ?_
      obtain ⟨g9, h⟩ := gd_ok h
      refine ws_ialdK (pc := 45) C dX10_between_45 sr_m_held g9 rfl ?_
      obtain ⟨r10, s11, q12, h⟩ := bd_ok h
      refine wc_iS (pc := 46)  C [.int (gi s5 27 ((gi s5 0 53) - (1 : Int32)).toNatClampNeg)] [] (mX10_rank q12) dX10_between_46 mw_X10_rank ks_X10_rank kl_X10_287 rfl rfl (Nat.le_of_ble_eq_true rfl) ⟨by decide, by decide⟩ ?_
      refine ws_iconst (pc := 49) C dX10_between_49 ci_4 ?_
      refine ws_icmp_ne (pc := 50) (tgt := 55) C dX10_between_50 (by decide) (fun c13 => ?_) (fun c13 => ?_)
      · have h := ite_f h c13
        refine ws_less [0, 1] rfl ?_
        exact pX10_between_J55 C R h
      · have h := ite_t h c13
        refine ws_iconst (pc := 53) C dX10_between_53 ci_0 ?_
        exact wr_i (pc := 54) C R dX10_between_54 (isZ_nar isZ0) h
set_option maxRecDepth 20000 in
set_option maxHeartbeats 4000000 in
theorem mX10_between {Y : xY} {Z : xZ} {a1 : Int32} {s : xM} {z : Int32 × xM} (h : fX10_between a1 s = some z) : xMi (GM Y) Z yX10_between cX10_between 2 3 .boolean [.ref (Y.1 0), .int a1] s z := by
  refine xMi_of (by decide) (Nat.le_of_ble_eq_true rfl) (fun B C R => ?_)
  have C : xC (GM Y) Z B "BetweenStopsModel" cX10_between 2 3 := C
  show xWS (GM Y) B 2 s [(0, .ref (Y.1 0)), (1, .int a1)] 0 []
  unfold fX10_between at h
  refine ws_aload_n (pc := 0) C dX10_between_0 rfl 0 rfl ?_
  refine ws_iload_n (pc := 1) C dX10_between_1 rfl 1 rfl ?_
  obtain ⟨r1, s2, q3, h⟩ := bd_ok h
  refine wc_iS (pc := 2)  C [.int a1] [.ref (Y.1 0)] (mX10_rank q3) dX10_between_2 mw_X10_rank ks_X10_rank kl_X10_287 rfl rfl (Nat.le_of_ble_eq_true rfl) ⟨by decide, by decide⟩ ?_
  refine ws_iconst (pc := 5) C dX10_between_5 ci_4 ?_
  refine ws_icmp_ne (pc := 6) (tgt := 13) C dX10_between_6 (by decide) (fun c4 => ?_) (fun c4 => ?_)
  · have h := ite_f h c4
    refine ws_iload_n (pc := 13) C dX10_between_13 rfl 1 rfl ?_
    obtain ⟨r5, s6, q7, h⟩ := bd_ok h
    refine wc_iS (pc := 14)  C [.int a1] [.ref (Y.1 0)] (mX10_rank q7) dX10_between_14 mw_X10_rank ks_X10_rank kl_X10_287 rfl rfl (Nat.le_of_ble_eq_true rfl) ⟨by decide, by decide⟩ ?_
    refine ws_less [0, 1] rfl ?_
    exact pX10_between_J17 C R h
  · have h := ite_t h c4
    refine ws_iconst (pc := 9) C dX10_between_9 ci_5 ?_
    refine ws_goto (pc := 10) (tgt := 17) C dX10_between_10 (by decide) ?_
    refine ws_less [0, 1] rfl ?_
    exact pX10_between_J17 C R h
set_option maxRecDepth 20000 in
set_option maxHeartbeats 4000000 in
theorem mX10_signOf {Y : xY} {Z : xZ} {s : xM} {z : Int32 × xM} (h : fX10_signOf s = some z) : xMi (GM Y) Z yX10_signOf cX10_signOf 1 1 .int [.ref (Y.1 0)] s z := by
  refine xMi_of (by decide) (Nat.le_of_ble_eq_true rfl) (fun B C R => ?_)
  have C : xC (GM Y) Z B "BetweenStopsModel" cX10_signOf 1 1 := C
  show xWS (GM Y) B 1 s [(0, .ref (Y.1 0))] 0 []
  unfold fX10_signOf at h
  refine ws_aload_n (pc := 0) C dX10_signOf_0 rfl 0 rfl ?_
  refine ws_geti (pc := 1) C dX10_signOf_1 fd_X10_272 sf_M_49 ?_
  refine ws_iconst (pc := 4) C dX10_signOf_4 ci_4 ?_
  refine ws_icmp_ne (pc := 5) (tgt := 13) C dX10_signOf_5 (by decide) (fun c1 => ?_) (fun c1 => ?_)
  · have h := ite_f h c1
    refine ws_aload_n (pc := 13) C dX10_signOf_13 rfl 0 rfl ?_
    refine ws_geti (pc := 14) C dX10_signOf_14 fd_X10_272 sf_M_49 ?_
    refine ws_iconst (pc := 17) C dX10_signOf_17 ci_5 ?_
    refine ws_icmp_ne (pc := 18) (tgt := 26) C dX10_signOf_18 (by decide) (fun c2 => ?_) (fun c2 => ?_)
    · have h := ite_f h c2
      refine ws_aload_n (pc := 26) C dX10_signOf_26 rfl 0 rfl ?_
      refine ws_geti (pc := 27) C dX10_signOf_27 fd_X10_272 sf_M_49 ?_
      refine ws_bipush (pc := 30) C dX10_signOf_30 cb_60 ?_
      refine ws_icmp_ne (pc := 32) (tgt := 40) C dX10_signOf_32 (by decide) (fun c3 => ?_) (fun c3 => ?_)
      · have h := ite_f h c3
        refine ws_aload_n (pc := 40) C dX10_signOf_40 rfl 0 rfl ?_
        refine ws_geti (pc := 41) C dX10_signOf_41 fd_X10_272 sf_M_49 ?_
        refine ws_bipush (pc := 44) C dX10_signOf_44 cb_61 ?_
        refine ws_icmp_ne (pc := 46) (tgt := 54) C dX10_signOf_46 (by decide) (fun c4 => ?_) (fun c4 => ?_)
        · have h := ite_f h c4
          refine ws_aload_n (pc := 54) C dX10_signOf_54 rfl 0 rfl ?_
          refine ws_geti (pc := 55) C dX10_signOf_55 fd_X10_272 sf_M_49 ?_
          refine ws_bipush (pc := 58) C dX10_signOf_58 cb_43 ?_
          refine ws_icmp_ne (pc := 60) (tgt := 68) C dX10_signOf_60 (by decide) (fun c5 => ?_) (fun c5 => ?_)
          · have h := ite_f h c5
            refine ws_aload_n (pc := 68) C dX10_signOf_68 rfl 0 rfl ?_
            refine ws_geti (pc := 69) C dX10_signOf_69 fd_X10_272 sf_M_49 ?_
            refine ws_bipush (pc := 72) C dX10_signOf_72 cb_45 ?_
            refine ws_icmp_ne (pc := 74) (tgt := 82) C dX10_signOf_74 (by decide) (fun c6 => ?_) (fun c6 => ?_)
            · have h := ite_f h c6
              refine ws_aload_n (pc := 82) C dX10_signOf_82 rfl 0 rfl ?_
              refine ws_geti (pc := 83) C dX10_signOf_83 fd_X10_272 sf_M_49 ?_
              refine ws_bipush (pc := 86) C dX10_signOf_86 cb_42 ?_
              refine ws_icmp_ne (pc := 88) (tgt := 96) C dX10_signOf_88 (by decide) (fun c7 => ?_) (fun c7 => ?_)
              · have h := ite_f h c7
                refine ws_iconst (pc := 96) C dX10_signOf_96 ci_m1 ?_
                exact wr_i (pc := 97) C R dX10_signOf_97 rfl h
              · have h := ite_t h c7
                refine ws_bipush (pc := 91) C dX10_signOf_91 cb_18 ?_
                refine ws_goto (pc := 93) (tgt := 97) C dX10_signOf_93 (by decide) ?_
                exact wr_i (pc := 97) C R dX10_signOf_97 rfl h
            · have h := ite_t h c6
              refine ws_bipush (pc := 77) C dX10_signOf_77 cb_17 ?_
              refine ws_goto (pc := 79) (tgt := 97) C dX10_signOf_79 (by decide) ?_
              exact wr_i (pc := 97) C R dX10_signOf_97 rfl h
          · have h := ite_t h c5
            refine ws_bipush (pc := 63) C dX10_signOf_63 cb_16 ?_
            refine ws_goto (pc := 65) (tgt := 97) C dX10_signOf_65 (by decide) ?_
            exact wr_i (pc := 97) C R dX10_signOf_97 rfl h
        · have h := ite_t h c4
          refine ws_bipush (pc := 49) C dX10_signOf_49 cb_15 ?_
          refine ws_goto (pc := 51) (tgt := 97) C dX10_signOf_51 (by decide) ?_
          exact wr_i (pc := 97) C R dX10_signOf_97 rfl h
      · have h := ite_t h c3
        refine ws_bipush (pc := 35) C dX10_signOf_35 cb_14 ?_
        refine ws_goto (pc := 37) (tgt := 97) C dX10_signOf_37 (by decide) ?_
        exact wr_i (pc := 97) C R dX10_signOf_97 rfl h
    · have h := ite_t h c2
      refine ws_bipush (pc := 21) C dX10_signOf_21 cb_12 ?_
      refine ws_goto (pc := 23) (tgt := 97) C dX10_signOf_23 (by decide) ?_
      exact wr_i (pc := 97) C R dX10_signOf_97 rfl h
  · have h := ite_t h c1
    refine ws_bipush (pc := 8) C dX10_signOf_8 cb_11 ?_
    refine ws_goto (pc := 10) (tgt := 97) C dX10_signOf_10 (by decide) ?_
    exact wr_i (pc := 97) C R dX10_signOf_97 rfl h
