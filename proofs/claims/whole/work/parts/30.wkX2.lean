set_option maxRecDepth 20000 in
set_option maxHeartbeats 4000000 in
theorem mX9_count {Y : xY} {Z : xZ} {a1 : Int32} {s : xM} {z : Int32 × xM} (h : fX9_count a1 s = some z) : xMi (GX Y) Z yX9_count cX9_count 2 3 .int [.ref (Y.1 0), .int a1] s z := by
  refine xMi_of (by decide) (Nat.le_of_ble_eq_true rfl) (fun B C R => ?_)
  have C : xC (GX Y) Z B "BetweenStops" cX9_count 2 3 := C
  show xWS (GX Y) B 2 s [(0, .ref (Y.1 0)), (1, .int a1)] 0 []
  unfold fX9_count at h
  refine ws_iload_n (pc := 0) C dX9_count_0 rfl 1 rfl ?_
  by_cases c1 : a1 = (0 : Int32)
  · have h := ite_t h c1
    refine ws_tab (pc := 1) (off := 47) (tgt := 48) C c1 dX9_count_1 (by decide) (by decide) (by decide) (by decide) ?_
    refine ws_aload_n (pc := 48) C dX9_count_48 rfl 0 rfl ?_
    refine ws_getr (pc := 49) C dX9_count_49 fd_X9_10 sf_BS_0 ?_
    refine ws_geti (pc := 52) C dX9_count_52 fd_X9_151 sf_town_7 ?_
    exact wr_i (pc := 55) C R dX9_count_55 rfl h
  replace h := ite_f h c1
  by_cases c2 : a1 = (1 : Int32)
  · have h := ite_t h c2
    refine ws_tab (pc := 1) (off := 55) (tgt := 56) C c2 dX9_count_1 (by decide) (by decide) (by decide) (by decide) ?_
    refine ws_aload_n (pc := 56) C dX9_count_56 rfl 0 rfl ?_
    refine ws_getr (pc := 57) C dX9_count_57 fd_X9_10 sf_BS_0 ?_
    refine ws_geti (pc := 60) C dX9_count_60 fd_X9_197 sf_town_9 ?_
    exact wr_i (pc := 63) C R dX9_count_63 rfl h
  replace h := ite_f h c2
  by_cases c3 : a1 = (2 : Int32)
  · have h := ite_t h c3
    refine ws_tab (pc := 1) (off := 63) (tgt := 64) C c3 dX9_count_1 (by decide) (by decide) (by decide) (by decide) ?_
    refine ws_aload_n (pc := 64) C dX9_count_64 rfl 0 rfl ?_
    refine ws_getr (pc := 65) C dX9_count_65 fd_X9_10 sf_BS_0 ?_
    obtain ⟨r4, s5, q6, h⟩ := bd_ok h
    refine wc_iV (pc := 68)  C [] [] (mX6_openSet q6) dX9_count_68 mw_X6_openSet mv_X6_openSet kl_X9_207 so_town rfl rfl (Nat.le_of_ble_eq_true rfl) ⟨by decide, by decide⟩ ?_
    obtain ⟨r7, s8, q9, h⟩ := bd_ok h
    refine wc_iS (pc := 71)  C [.int r4] [] (mJ6_bitCount_0f7a4 q9) dX9_count_71 mw_J6_bitCount_0f7a4 ks_J6_bitCount_0f7a4 kl_X9_210 rfl rfl (Nat.le_of_ble_eq_true rfl) ⟨by decide, by decide⟩ ?_
    exact wr_i (pc := 74) C R dX9_count_74 rfl h
  replace h := ite_f h c3
  by_cases c10 : a1 = (3 : Int32)
  · have h := ite_t h c10
    refine ws_tab (pc := 1) (off := 74) (tgt := 75) C c10 dX9_count_1 (by decide) (by decide) (by decide) (by decide) ?_
    refine ws_aload_n (pc := 75) C dX9_count_75 rfl 0 rfl ?_
    refine ws_geti (pc := 76) C dX9_count_76 fd_X9_47 sf_BS_5 ?_
    exact wr_i (pc := 79) C R dX9_count_79 rfl h
  replace h := ite_f h c10
  by_cases c11 : a1 = (4 : Int32)
  · have h := ite_t h c11
    refine ws_tab (pc := 1) (off := 79) (tgt := 80) C c11 dX9_count_1 (by decide) (by decide) (by decide) (by decide) ?_
    refine ws_aload_n (pc := 80) C dX9_count_80 rfl 0 rfl ?_
    refine ws_geti (pc := 81) C dX9_count_81 fd_X9_51 sf_BS_6 ?_
    exact wr_i (pc := 84) C R dX9_count_84 rfl h
  replace h := ite_f h c11
  by_cases c12 : a1 = (5 : Int32)
  · have h := ite_t h c12
    refine ws_tab (pc := 1) (off := 84) (tgt := 85) C c12 dX9_count_1 (by decide) (by decide) (by decide) (by decide) ?_
    refine ws_aload_n (pc := 85) C dX9_count_85 rfl 0 rfl ?_
    refine ws_getr (pc := 86) C dX9_count_86 fd_X9_28 sf_BS_2 ?_
    refine ws_geti (pc := 89) C dX9_count_89 fd_X9_108 sf_tape_1 ?_
    exact wr_i (pc := 92) C R dX9_count_92 rfl h
  replace h := ite_f h c12
  by_cases c13 : a1 = (6 : Int32)
  · have h := ite_t h c13
    refine ws_tab (pc := 1) (off := 92) (tgt := 93) C c13 dX9_count_1 (by decide) (by decide) (by decide) (by decide) ?_
    refine ws_aload_n (pc := 93) C dX9_count_93 rfl 0 rfl ?_
    refine ws_getr (pc := 94) C dX9_count_94 fd_X9_10 sf_BS_0 ?_
    refine ws_geti (pc := 97) C dX9_count_97 fd_X9_135 sf_town_4 ?_
    exact wr_i (pc := 100) C R dX9_count_100 rfl h
  replace h := ite_f h c13
  by_cases c14 : a1 = (7 : Int32)
  · have h := ite_t h c14
    refine ws_tab (pc := 1) (off := 100) (tgt := 101) C c14 dX9_count_1 (by decide) (by decide) (by decide) (by decide) ?_
    refine ws_aload_n (pc := 101) C dX9_count_101 rfl 0 rfl ?_
    refine ws_getr (pc := 102) C dX9_count_102 fd_X9_10 sf_BS_0 ?_
    refine ws_geti (pc := 105) C dX9_count_105 fd_X9_138 sf_town_5 ?_
    exact wr_i (pc := 108) C R dX9_count_108 rfl h
  replace h := ite_f h c14
  have ec1 : ¬ (0 : Int) = (a1).toInt := fun q => lv_neT c1 (show (0 : Int32).toInt = 0 by decide) q.symm
  have ec2 : ¬ (1 : Int) = (a1).toInt := fun q => lv_neT c2 (show (1 : Int32).toInt = 1 by decide) q.symm
  have ec3 : ¬ (2 : Int) = (a1).toInt := fun q => lv_neT c3 (show (2 : Int32).toInt = 2 by decide) q.symm
  have ec10 : ¬ (3 : Int) = (a1).toInt := fun q => lv_neT c10 (show (3 : Int32).toInt = 3 by decide) q.symm
  have ec11 : ¬ (4 : Int) = (a1).toInt := fun q => lv_neT c11 (show (4 : Int32).toInt = 4 by decide) q.symm
  have ec12 : ¬ (5 : Int) = (a1).toInt := fun q => lv_neT c12 (show (5 : Int32).toInt = 5 by decide) q.symm
  have ec13 : ¬ (6 : Int) = (a1).toInt := fun q => lv_neT c13 (show (6 : Int32).toInt = 6 by decide) q.symm
  have ec14 : ¬ (7 : Int) = (a1).toInt := fun q => lv_neT c14 (show (7 : Int32).toInt = 7 by decide) q.symm
  refine ws_tableOut (pc := 1) (tgt := 109) C dX9_count_1 (by omega) (by decide) ?_
  refine ws_bipush (pc := 109) C dX9_count_109 cb_m2 ?_
  exact wr_i (pc := 111) C R dX9_count_111 rfl h
set_option maxRecDepth 20000 in
set_option maxHeartbeats 4000000 in
theorem mX9_isTrip {Y : xY} {Z : xZ} {a1 : Int32} {s : xM} {z : Int32 × xM} (h : fX9_isTrip a1 s = some z) : xMi (GX Y) Z yX9_isTrip cX9_isTrip 2 2 .boolean [.ref (Y.1 0), .int a1] s z := by
  refine xMi_of (by decide) (Nat.le_of_ble_eq_true rfl) (fun B C R => ?_)
  have C : xC (GX Y) Z B "BetweenStops" cX9_isTrip 2 2 := C
  show xWS (GX Y) B 2 s [(0, .ref (Y.1 0)), (1, .int a1)] 0 []
  unfold fX9_isTrip at h
  refine ws_iload_n (pc := 0) C dX9_isTrip_0 rfl 1 rfl ?_
  refine ws_iconst (pc := 1) C dX9_isTrip_1 ci_0 ?_
  refine ws_aload_n (pc := 2) C dX9_isTrip_2 rfl 0 rfl ?_
  refine ws_getr (pc := 3) C dX9_isTrip_3 fd_X9_10 sf_BS_0 ?_
  refine ws_geti (pc := 6) C dX9_isTrip_6 fd_X9_197 sf_town_9 ?_
  refine ws_iconst (pc := 9) C dX9_isTrip_9 ci_1 ?_
  refine ws_isub (pc := 10) C dX9_isTrip_10 ?_
  obtain ⟨r1, s2, q3, h⟩ := bd_ok h
  refine wc_iS (pc := 11)  C [.int a1, .int (0 : Int32), .int ((gi s 1 9) - (1 : Int32))] [] (mX9_isWithin q3) dX9_isTrip_11 mw_X9_isWithin ks_X9_isWithin kl_X9_111 rfl rfl (Nat.le_of_ble_eq_true rfl) ⟨by decide, by decide⟩ ?_
  obtain ⟨g4, h⟩ := gd_ok h
  exact wr_i (pc := 14) C R dX9_isTrip_14 (isZ_nar g4) h
set_option maxRecDepth 20000 in
set_option maxHeartbeats 4000000 in
theorem mX9_lookAtNow {Y : xY} {Z : xZ} {s : xM} {z : Int32 × xM} (h : fX9_lookAtNow s = some z) : xMv (GX Y) Z yX9_lookAtNow cX9_lookAtNow 1 5 [.ref (Y.1 0)] s z := by
  refine xMv_of (by decide) (Nat.le_of_ble_eq_true rfl) (fun B C R => ?_)
  have C : xC (GX Y) Z B "BetweenStops" cX9_lookAtNow 1 5 := C
  show xWS (GX Y) B 1 s [(0, .ref (Y.1 0))] 0 []
  unfold fX9_lookAtNow at h
  refine ws_aload_n (pc := 0) C dX9_lookAtNow_0 rfl 0 rfl ?_
  refine ws_getr (pc := 1) C dX9_lookAtNow_1 fd_X9_21 sf_BS_1 ?_
  obtain ⟨r1, s2, q3, h⟩ := bd_ok h
  refine wc_vV (pc := 4)  C [] [] (mX8_measure q3) dX9_lookAtNow_4 mw_X8_measure mv_X8_measure kl_X9_254 so_ways rfl rfl (Nat.le_of_ble_eq_true rfl) ⟨by decide, by decide⟩ ?_
  refine ws_aload_n (pc := 7) C dX9_lookAtNow_7 rfl 0 rfl ?_
  refine ws_getr (pc := 8) C dX9_lookAtNow_8 fd_X9_21 sf_BS_1 ?_
  refine ws_aload_n (pc := 11) C dX9_lookAtNow_11 rfl 0 rfl ?_
  refine ws_getr (pc := 12) C dX9_lookAtNow_12 fd_X9_10 sf_BS_0 ?_
  obtain ⟨r4, s5, q6, h⟩ := bd_ok h
  refine wc_iV (pc := 15)  C [] [.ref (Y.1 27)] (mX6_openSet q6) dX9_lookAtNow_15 mw_X6_openSet mv_X6_openSet kl_X9_207 so_town rfl rfl (Nat.le_of_ble_eq_true rfl) ⟨by decide, by decide⟩ ?_
  refine ws_aload_n (pc := 18) C dX9_lookAtNow_18 rfl 0 rfl ?_
  refine ws_getr (pc := 19) C dX9_lookAtNow_19 fd_X9_10 sf_BS_0 ?_
  refine ws_geti (pc := 22) C dX9_lookAtNow_22 fd_X9_135 sf_town_4 ?_
  obtain ⟨r7, s8, q9, h⟩ := bd_ok h
  refine wc_vV (pc := 25)  C [.int r4, .int (gi s5 1 4)] [] (mX8_look q9) dX9_lookAtNow_25 mw_X8_look mv_X8_look kl_X9_274 so_ways rfl rfl (Nat.le_of_ble_eq_true rfl) ⟨by decide, by decide⟩ ?_
  exact wr_v (pc := 28) C R dX9_lookAtNow_28 h
set_option maxRecDepth 20000 in
set_option maxHeartbeats 4000000 in
theorem mX9_takes {Y : xY} {Z : xZ} {a1 : Int32} {a2 : Int32} {s : xM} {z : Int32 × xM} (h : fX9_takes a1 a2 s = some z) : xMi (GX Y) Z yX9_takes cX9_takes 3 6 .int [.ref (Y.1 0), .int a1, .int a2] s z := by
  refine xMi_of (by decide) (Nat.le_of_ble_eq_true rfl) (fun B C R => ?_)
  have C : xC (GX Y) Z B "BetweenStops" cX9_takes 3 6 := C
  show xWS (GX Y) B 3 s [(0, .ref (Y.1 0)), (1, .int a1), (2, .int a2)] 0 []
  unfold fX9_takes at h
  refine ws_aload_n (pc := 0) C dX9_takes_0 rfl 0 rfl ?_
  refine ws_iload_n (pc := 1) C dX9_takes_1 rfl 1 rfl ?_
  obtain ⟨r1, s2, q3, h⟩ := bd_ok h
  refine wc_iV (pc := 2)  C [.int a1] [] (mX9_isTrip q3) dX9_takes_2 mw_X9_isTrip mv_X9_isTrip kl_X9_215 so_BS rfl rfl (Nat.le_of_ble_eq_true rfl) ⟨by decide, by decide⟩ ?_
  refine ws_if_ne (pc := 5) (tgt := 11) C dX9_takes_5 (by decide) (fun c4 => ?_) (fun c4 => ?_)
  · have h := ite_f h c4
    refine ws_iload_n (pc := 11) C dX9_takes_11 rfl 2 rfl ?_
    refine ws_iconst (pc := 12) C dX9_takes_12 ci_0 ?_
    refine ws_iconst (pc := 13) C dX9_takes_13 ci_5 ?_
    obtain ⟨r5, s6, q7, h⟩ := bd_ok h
    refine wc_iS (pc := 14)  C [.int a2, .int (0 : Int32), .int (5 : Int32)] [] (mX9_isWithin q7) dX9_takes_14 mw_X9_isWithin ks_X9_isWithin kl_X9_111 rfl rfl (Nat.le_of_ble_eq_true rfl) ⟨by decide, by decide⟩ ?_
    refine ws_if_ne (pc := 17) (tgt := 23) C dX9_takes_17 (by decide) (fun c8 => ?_) (fun c8 => ?_)
    · have h := ite_f h c8
      refine ws_aload_n (pc := 23) C dX9_takes_23 rfl 0 rfl ?_
      obtain ⟨r9, s10, q11, h⟩ := bd_ok h
      refine wc_vV (pc := 24)  C [] [] (mX9_lookAtNow q11) dX9_takes_24 mw_X9_lookAtNow mv_X9_lookAtNow kl_X9_218 so_BS rfl rfl (Nat.le_of_ble_eq_true rfl) ⟨by decide, by decide⟩ ?_
      refine ws_iload_n (pc := 27) C dX9_takes_27 rfl 2 rfl ?_
      by_cases c12 : a2 = (0 : Int32)
      · have h := ite_t h c12
        refine ws_tab (pc := 28) (off := 36) (tgt := 64) C c12 dX9_takes_28 (by decide) (by decide) (by decide) (by decide) ?_
        refine ws_aload_n (pc := 64) C dX9_takes_64 rfl 0 rfl ?_
        refine ws_getr (pc := 65) C dX9_takes_65 fd_X9_21 sf_BS_1 ?_
        refine ws_getr (pc := 68) C dX9_takes_68 fd_X9_221 sf_ways_11 ?_
        refine ws_iload_n (pc := 71) C dX9_takes_71 rfl 1 rfl ?_
        obtain ⟨g13, h⟩ := gd_ok h
        refine ws_ialdK (pc := 72) C dX9_takes_72 sr_w_costs g13 rfl ?_
        exact wr_i (pc := 73) C R dX9_takes_73 rfl h
      replace h := ite_f h c12
      by_cases c14 : a2 = (1 : Int32)
      · have h := ite_t h c14
        refine ws_tab (pc := 28) (off := 46) (tgt := 74) C c14 dX9_takes_28 (by decide) (by decide) (by decide) (by decide) ?_
        refine ws_aload_n (pc := 74) C dX9_takes_74 rfl 0 rfl ?_
        refine ws_getr (pc := 75) C dX9_takes_75 fd_X9_21 sf_BS_1 ?_
        refine ws_getr (pc := 78) C dX9_takes_78 fd_X9_224 sf_ways_12 ?_
        refine ws_iload_n (pc := 81) C dX9_takes_81 rfl 1 rfl ?_
        obtain ⟨g15, h⟩ := gd_ok h
        refine ws_ialdK (pc := 82) C dX9_takes_82 sr_w_ins g15 rfl ?_
        exact wr_i (pc := 83) C R dX9_takes_83 rfl h
      replace h := ite_f h c14
      by_cases c16 : a2 = (2 : Int32)
      · have h := ite_t h c16
        refine ws_tab (pc := 28) (off := 56) (tgt := 84) C c16 dX9_takes_28 (by decide) (by decide) (by decide) (by decide) ?_
        refine ws_aload_n (pc := 84) C dX9_takes_84 rfl 0 rfl ?_
        refine ws_getr (pc := 85) C dX9_takes_85 fd_X9_21 sf_BS_1 ?_
        refine ws_getr (pc := 88) C dX9_takes_88 fd_X9_227 sf_ways_13 ?_
        refine ws_iload_n (pc := 91) C dX9_takes_91 rfl 1 rfl ?_
        obtain ⟨g17, h⟩ := gd_ok h
        refine ws_ialdK (pc := 92) C dX9_takes_92 sr_w_outs g17 rfl ?_
        exact wr_i (pc := 93) C R dX9_takes_93 rfl h
      replace h := ite_f h c16
      by_cases c18 : a2 = (3 : Int32)
      · have h := ite_t h c18
        refine ws_tab (pc := 28) (off := 66) (tgt := 94) C c18 dX9_takes_28 (by decide) (by decide) (by decide) (by decide) ?_
        refine ws_aload_n (pc := 94) C dX9_takes_94 rfl 0 rfl ?_
        refine ws_getr (pc := 95) C dX9_takes_95 fd_X9_21 sf_BS_1 ?_
        refine ws_getr (pc := 98) C dX9_takes_98 fd_X9_230 sf_ways_14 ?_
        refine ws_iload_n (pc := 101) C dX9_takes_101 rfl 1 rfl ?_
        obtain ⟨g19, h⟩ := gd_ok h
        refine ws_ialdK (pc := 102) C dX9_takes_102 sr_w_walked g19 rfl ?_
        exact wr_i (pc := 103) C R dX9_takes_103 rfl h
      replace h := ite_f h c18
      by_cases c20 : a2 = (4 : Int32)
      · have h := ite_t h c20
        refine ws_tab (pc := 28) (off := 76) (tgt := 104) C c20 dX9_takes_28 (by decide) (by decide) (by decide) (by decide) ?_
        refine ws_aload_n (pc := 104) C dX9_takes_104 rfl 0 rfl ?_
        refine ws_getr (pc := 105) C dX9_takes_105 fd_X9_21 sf_BS_1 ?_
        refine ws_getr (pc := 108) C dX9_takes_108 fd_X9_233 sf_ways_15 ?_
        refine ws_iload_n (pc := 111) C dX9_takes_111 rfl 1 rfl ?_
        obtain ⟨g21, h⟩ := gd_ok h
        refine ws_ialdK (pc := 112) C dX9_takes_112 sr_w_waited g21 rfl ?_
        exact wr_i (pc := 113) C R dX9_takes_113 rfl h
      replace h := ite_f h c20
      have ec12 : ¬ (0 : Int) = (a2).toInt := fun q => lv_neT c12 (show (0 : Int32).toInt = 0 by decide) q.symm
      have ec14 : ¬ (1 : Int) = (a2).toInt := fun q => lv_neT c14 (show (1 : Int32).toInt = 1 by decide) q.symm
      have ec16 : ¬ (2 : Int) = (a2).toInt := fun q => lv_neT c16 (show (2 : Int32).toInt = 2 by decide) q.symm
      have ec18 : ¬ (3 : Int) = (a2).toInt := fun q => lv_neT c18 (show (3 : Int32).toInt = 3 by decide) q.symm
      have ec20 : ¬ (4 : Int) = (a2).toInt := fun q => lv_neT c20 (show (4 : Int32).toInt = 4 by decide) q.symm
      refine ws_tableOut (pc := 28) (tgt := 114) C dX9_takes_28 (by omega) (by decide) ?_
      refine ws_aload_n (pc := 114) C dX9_takes_114 rfl 0 rfl ?_
      refine ws_getr (pc := 115) C dX9_takes_115 fd_X9_21 sf_BS_1 ?_
      refine ws_getr (pc := 118) C dX9_takes_118 fd_X9_236 sf_ways_16 ?_
      refine ws_iload_n (pc := 121) C dX9_takes_121 rfl 1 rfl ?_
      obtain ⟨g22, h⟩ := gd_ok h
      refine ws_ialdK (pc := 122) C dX9_takes_122 sr_w_ridden g22 rfl ?_
      exact wr_i (pc := 123) C R dX9_takes_123 rfl h
    · have h := ite_t h c8
      refine ws_bipush (pc := 20) C dX9_takes_20 cb_m7 ?_
      exact wr_i (pc := 22) C R dX9_takes_22 rfl h
  · have h := ite_t h c4
    refine ws_bipush (pc := 8) C dX9_takes_8 cb_m5 ?_
    exact wr_i (pc := 10) C R dX9_takes_10 rfl h
set_option maxRecDepth 20000 in
set_option maxHeartbeats 4000000 in
theorem mX9_sum {Y : xY} {Z : xZ} {a1 : Int32} {s : xM} {z : Int64 × xM} (h : fX9_sum a1 s = some z) : xMl (GX Y) Z yX9_sum cX9_sum 2 6 [.ref (Y.1 0), .int a1] s z := by
  refine xMl_of (by decide) (Nat.le_of_ble_eq_true rfl) (fun B C R => ?_)
  have C : xC (GX Y) Z B "BetweenStops" cX9_sum 2 6 := C
  show xWS (GX Y) B 2 s [(0, .ref (Y.1 0)), (1, .int a1)] 0 []
  unfold fX9_sum at h
  refine ws_iload_n (pc := 0) C dX9_sum_0 rfl 1 rfl ?_
  refine ws_iconst (pc := 1) C dX9_sum_1 ci_0 ?_
  refine ws_iconst (pc := 2) C dX9_sum_2 ci_2 ?_
  obtain ⟨r1, s2, q3, h⟩ := bd_ok h
  refine wc_iS (pc := 3)  C [.int a1, .int (0 : Int32), .int (2 : Int32)] [] (mX9_isWithin q3) dX9_sum_3 mw_X9_isWithin ks_X9_isWithin kl_X9_111 rfl rfl (Nat.le_of_ble_eq_true rfl) ⟨by decide, by decide⟩ ?_
  refine ws_if_ne (pc := 6) (tgt := 13) C dX9_sum_6 (by decide) (fun c4 => ?_) (fun c4 => ?_)
  · have h := ite_f h c4
    refine ws_aload_n (pc := 13) C dX9_sum_13 rfl 0 rfl ?_
    obtain ⟨r5, s6, q7, h⟩ := bd_ok h
    refine wc_vV (pc := 14)  C [] [] (mX9_lookAtNow q7) dX9_sum_14 mw_X9_lookAtNow mv_X9_lookAtNow kl_X9_218 so_BS rfl rfl (Nat.le_of_ble_eq_true rfl) ⟨by decide, by decide⟩ ?_
    refine ws_iload_n (pc := 17) C dX9_sum_17 rfl 1 rfl ?_
    by_cases c8 : a1 = (0 : Int32)
    · have h := ite_t h c8
      refine ws_lku (pc := 18) (off := 26) (tgt := 44) C c8 dX9_sum_18 (by decide) (by decide) (by decide) ?_
      refine ws_aload_n (pc := 44) C dX9_sum_44 rfl 0 rfl ?_
      refine ws_getr (pc := 45) C dX9_sum_45 fd_X9_21 sf_BS_1 ?_
      obtain ⟨r9, s10, q11, h⟩ := bd_ok h
      refine wc_lV (pc := 48)  C [] [] (mX8_total q11) dX9_sum_48 mw_X8_total mv_X8_total kl_X9_241 so_ways rfl rfl (Nat.le_of_ble_eq_true rfl) ⟨by decide, by decide⟩ ?_
      exact wr_l (pc := 51) C R dX9_sum_51 h
    replace h := ite_f h c8
    by_cases c12 : a1 = (1 : Int32)
    · have h := ite_t h c12
      refine ws_lku (pc := 18) (off := 34) (tgt := 52) C c12 dX9_sum_18 (by decide) (by decide) (by decide) ?_
      refine ws_aload_n (pc := 52) C dX9_sum_52 rfl 0 rfl ?_
      refine ws_getr (pc := 53) C dX9_sum_53 fd_X9_21 sf_BS_1 ?_
      obtain ⟨r13, s14, q15, h⟩ := bd_ok h
      refine wc_iV (pc := 56)  C [] [] (mX8_dearest q15) dX9_sum_56 mw_X8_dearest mv_X8_dearest kl_X9_245 so_ways rfl rfl (Nat.le_of_ble_eq_true rfl) ⟨by decide, by decide⟩ ?_
      refine ws_i2l (pc := 59) C dX9_sum_59 ?_
      exact wr_l (pc := 60) C R dX9_sum_60 h
    replace h := ite_f h c12
    have ec8 : ¬ (0 : Int) = (a1).toInt := fun q => lv_neT c8 (show (0 : Int32).toInt = 0 by decide) q.symm
    have ec12 : ¬ (1 : Int) = (a1).toInt := fun q => lv_neT c12 (show (1 : Int32).toInt = 1 by decide) q.symm
    refine ws_lookup (pc := 18) (off := 43) (tgt := 61) C dX9_sum_18 (by decide) (by simp [Op.lookupswitch.offset, ec8, ec12]) (by decide) ?_
    refine ws_aload_n (pc := 61) C dX9_sum_61 rfl 0 rfl ?_
    refine ws_getr (pc := 62) C dX9_sum_62 fd_X9_21 sf_BS_1 ?_
    obtain ⟨r16, s17, q18, h⟩ := bd_ok h
    refine wc_iV (pc := 65)  C [] [] (mX8_dearestCost q18) dX9_sum_65 mw_X8_dearestCost mv_X8_dearestCost kl_X9_248 so_ways rfl rfl (Nat.le_of_ble_eq_true rfl) ⟨by decide, by decide⟩ ?_
    refine ws_i2l (pc := 68) C dX9_sum_68 ?_
    exact wr_l (pc := 69) C R dX9_sum_69 h
  · have h := ite_t h c4
    refine ws_ldc2 (pc := 9) C dX9_sum_9 kK_X9_239 ?_
    exact wr_l (pc := 12) C R dX9_sum_12 h
set_option maxRecDepth 20000 in
set_option maxHeartbeats 4000000 in
theorem mX9_use {Y : xY} {Z : xZ} {a1 : Int32} {s : xM} {z : Int32 × xM} (h : fX9_use a1 s = some z) : xMi (GX Y) Z yX9_use cX9_use 2 6 .int [.ref (Y.1 0), .int a1] s z := by
  refine xMi_of (by decide) (Nat.le_of_ble_eq_true rfl) (fun B C R => ?_)
  have C : xC (GX Y) Z B "BetweenStops" cX9_use 2 6 := C
  show xWS (GX Y) B 2 s [(0, .ref (Y.1 0)), (1, .int a1)] 0 []
  unfold fX9_use at h
  refine ws_aload_n (pc := 0) C dX9_use_0 rfl 0 rfl ?_
  refine ws_iload_n (pc := 1) C dX9_use_1 rfl 1 rfl ?_
  obtain ⟨r1, s2, q3, h⟩ := bd_ok h
  refine wc_iV (pc := 2)  C [.int a1] [] (mX9_isStop q3) dX9_use_2 mw_X9_isStop mv_X9_isStop kl_X9_164 so_BS rfl rfl (Nat.le_of_ble_eq_true rfl) ⟨by decide, by decide⟩ ?_
  refine ws_if_ne (pc := 5) (tgt := 11) C dX9_use_5 (by decide) (fun c4 => ?_) (fun c4 => ?_)
  · have h := ite_f h c4
    refine ws_aload_n (pc := 11) C dX9_use_11 rfl 0 rfl ?_
    obtain ⟨r5, s6, q7, h⟩ := bd_ok h
    refine wc_vV (pc := 12)  C [] [] (mX9_lookAtNow q7) dX9_use_12 mw_X9_lookAtNow mv_X9_lookAtNow kl_X9_218 so_BS rfl rfl (Nat.le_of_ble_eq_true rfl) ⟨by decide, by decide⟩ ?_
    refine ws_aload_n (pc := 15) C dX9_use_15 rfl 0 rfl ?_
    refine ws_getr (pc := 16) C dX9_use_16 fd_X9_21 sf_BS_1 ?_
    refine ws_iload_n (pc := 19) C dX9_use_19 rfl 1 rfl ?_
    obtain ⟨r8, s9, q10, h⟩ := bd_ok h
    refine wc_iV (pc := 20)  C [.int a1] [] (mX8_usersOf q10) dX9_use_20 mw_X8_usersOf mv_X8_usersOf kl_X9_251 so_ways rfl rfl (Nat.le_of_ble_eq_true rfl) ⟨by decide, by decide⟩ ?_
    exact wr_i (pc := 23) C R dX9_use_23 rfl h
  · have h := ite_t h c4
    refine ws_bipush (pc := 8) C dX9_use_8 cb_m5 ?_
    exact wr_i (pc := 10) C R dX9_use_10 rfl h
set_option maxRecDepth 20000 in
set_option maxHeartbeats 4000000 in
theorem pX9_feed_L36 {Y : xY} {Z : xZ} {B : xB} {z : Int32 × xM} (C : xC (GX Y) Z B "BetweenStops" cX9_feed 5 2) (R : xRi (GX Y) B .int z) {k66 : xM → Option (Int32 × xM)} {a1 : Int64}
    (hk66 : ∀  (s : xM), k66 s = some z → xWS (GX Y) B 5 s [(0, .ref (Y.1 0))] 66 []) : ∀ (n : Nat) (a4 : Int32) (s : xM), fX9_feed_L36 k66 a1 n a4 s = some z → xWS (GX Y) B 5 s [(0, .ref (Y.1 0)), (1, .long a1), (4, .int a4)] 36 [] := by
  intro n
  induction n with
  | zero =>
    intro a4 s h
    rw [fX9_feed_L36] at h
    cases h
  | succ n ih =>
    intro a4 s h
    rw [fX9_feed_L36] at h
    refine ws_iload (pc := 36) C dX9_feed_36 2 rfl ?_
    refine ws_if_lt (pc := 38) (tgt := 66) C dX9_feed_38 (by decide) (fun c1 => ?_) (fun c1 => ?_)
    · have h := ite_t h c1
      refine ws_less [0] rfl ?_
      exact hk66 _ h
    · have h := ite_f h c1
      refine ws_aload_n (pc := 41) C dX9_feed_41 rfl 0 rfl ?_
      refine ws_getr (pc := 42) C dX9_feed_42 fd_X9_28 sf_BS_2 ?_
      refine ws_lload_n (pc := 45) C dX9_feed_45 rfl 1 rfl ?_
      refine ws_bipush (pc := 46) C dX9_feed_46 cb_8 ?_
      refine ws_iload (pc := 48) C dX9_feed_48 2 rfl ?_
      refine ws_imul (pc := 50) C dX9_feed_50 ?_
      refine ws_lushr (pc := 51) C dX9_feed_51 ?_
      refine ws_l2i (pc := 52) C dX9_feed_52 ?_
      refine ws_sipush (pc := 53) C dX9_feed_53 cs_255 ?_
      refine ws_iand (pc := 56) C dX9_feed_56 ?_
      obtain ⟨r2, s3, q4, h⟩ := bd_ok h
      refine wc_vV (pc := 57)  C [.int ((((a1.toUInt64 >>> (((8 : Int32) * a4).toInt64.toUInt64 &&& Int64.toUInt64 63)).toInt64).toInt32) &&& (255 : Int32))] [] (mX4_append q4) dX9_feed_57 mw_X4_append mv_X4_append kl_X9_100 so_tape rfl rfl (Nat.le_of_ble_eq_true rfl) ⟨by decide, by decide⟩ ?_
      refine ws_iinc (j := 2) (pc := 60) C dX9_feed_60 rfl (cn_m1 _) (by decide) rfl ?_
      refine ws_goto (pc := 63) (tgt := 36) C dX9_feed_63 (by decide) ?_
      refine ws_less [1, 2, 0] rfl ?_
      exact ih _ _ h
set_option maxRecDepth 20000 in
set_option maxHeartbeats 4000000 in
theorem mX9_feed {Y : xY} {Z : xZ} {a1 : Int64} {a3 : Int32} {s : xM} {z : Int32 × xM} (h : fX9_feed a1 a3 s = some z) : xMi (GX Y) Z yX9_feed cX9_feed 5 2 .int [.ref (Y.1 0), .long a1, .int a3] s z := by
  refine xMi_of (by decide) (Nat.le_of_ble_eq_true rfl) (fun B C R => ?_)
  have C : xC (GX Y) Z B "BetweenStops" cX9_feed 5 2 := C
  show xWS (GX Y) B 5 s [(0, .ref (Y.1 0)), (1, .long a1), (3, .int a3)] 0 []
  unfold fX9_feed at h
  refine ws_iload_n (pc := 0) C dX9_feed_0 rfl 2 rfl ?_
  refine ws_iconst (pc := 1) C dX9_feed_1 ci_1 ?_
  refine ws_bipush (pc := 2) C dX9_feed_2 cb_8 ?_
  obtain ⟨r1, s2, q3, h⟩ := bd_ok h
  refine wc_iS (pc := 4)  C [.int a3, .int (1 : Int32), .int (8 : Int32)] [] (mX9_isWithin q3) dX9_feed_4 mw_X9_isWithin ks_X9_isWithin kl_X9_111 rfl rfl (Nat.le_of_ble_eq_true rfl) ⟨by decide, by decide⟩ ?_
  refine ws_if_ne (pc := 7) (tgt := 13) C dX9_feed_7 (by decide) (fun c4 => ?_) (fun c4 => ?_)
  · have h := ite_f h c4
    refine ws_aload_n (pc := 13) C dX9_feed_13 rfl 0 rfl ?_
    refine ws_getr (pc := 14) C dX9_feed_14 fd_X9_28 sf_BS_2 ?_
    refine ws_geti (pc := 17) C dX9_feed_17 fd_X9_108 sf_tape_1 ?_
    refine ws_iload_n (pc := 20) C dX9_feed_20 rfl 2 rfl ?_
    refine ws_iadd (pc := 21) C dX9_feed_21 ?_
    refine ws_sipush (pc := 22) C dX9_feed_22 cs_160 ?_
    refine ws_icmp_le (pc := 25) (tgt := 31) C dX9_feed_25 (by decide) (fun c5 => ?_) (fun c5 => ?_)
    · have h := ite_t h c5
      refine ws_iload_n (pc := 31) C dX9_feed_31 rfl 2 rfl ?_
      refine ws_iconst (pc := 32) C dX9_feed_32 ci_1 ?_
      refine ws_isub (pc := 33) C dX9_feed_33 ?_
      obtain ⟨v6, e7, h⟩ := lz_ok h
      refine ws_topi C e7 ?_
      refine ws_istore (pc := 34) C dX9_feed_34 (by decide) rfl ?_
      refine ws_less [1, 2, 0] rfl ?_
      refine pX9_feed_L36 C R (fun s8 h => ?_) fu _ _ h
      · refine ws_aload_n (pc := 66) C dX9_feed_66 rfl 0 rfl ?_
        refine ws_getr (pc := 67) C dX9_feed_67 fd_X9_28 sf_BS_2 ?_
        refine ws_geti (pc := 70) C dX9_feed_70 fd_X9_108 sf_tape_1 ?_
        exact wr_i (pc := 73) C R dX9_feed_73 rfl h
    · have h := ite_f h c5
      refine ws_bipush (pc := 28) C dX9_feed_28 cb_m4 ?_
      exact wr_i (pc := 30) C R dX9_feed_30 rfl h
  · have h := ite_t h c4
    refine ws_bipush (pc := 10) C dX9_feed_10 cb_m2 ?_
    exact wr_i (pc := 12) C R dX9_feed_12 rfl h
set_option maxRecDepth 20000 in
set_option maxHeartbeats 4000000 in
theorem mX9_force {Y : xY} {Z : xZ} {a1 : Int32} {s : xM} {z : Int32 × xM} (h : fX9_force a1 s = some z) : xMi (GX Y) Z yX9_force cX9_force 3 2 .int [.ref (Y.1 0), .int a1] s z := by
  refine xMi_of (by decide) (Nat.le_of_ble_eq_true rfl) (fun B C R => ?_)
  have C : xC (GX Y) Z B "BetweenStops" cX9_force 3 2 := C
  show xWS (GX Y) B 3 s [(0, .ref (Y.1 0)), (1, .int a1)] 0 []
  unfold fX9_force at h
  refine ws_iload_n (pc := 0) C dX9_force_0 rfl 1 rfl ?_
  refine ws_iconst (pc := 1) C dX9_force_1 ci_0 ?_
  refine ws_aload_n (pc := 2) C dX9_force_2 rfl 0 rfl ?_
  refine ws_geti (pc := 3) C dX9_force_3 fd_X9_47 sf_BS_5 ?_
  refine ws_iconst (pc := 6) C dX9_force_6 ci_1 ?_
  refine ws_isub (pc := 7) C dX9_force_7 ?_
  obtain ⟨r1, s2, q3, h⟩ := bd_ok h
  refine wc_iS (pc := 8)  C [.int a1, .int (0 : Int32), .int ((gi s 0 5) - (1 : Int32))] [] (mX9_isWithin q3) dX9_force_8 mw_X9_isWithin ks_X9_isWithin kl_X9_111 rfl rfl (Nat.le_of_ble_eq_true rfl) ⟨by decide, by decide⟩ ?_
  refine ws_if_ne (pc := 11) (tgt := 17) C dX9_force_11 (by decide) (fun c4 => ?_) (fun c4 => ?_)
  · have h := ite_f h c4
    refine ws_aload_n (pc := 17) C dX9_force_17 rfl 0 rfl ?_
    refine ws_geti (pc := 18) C dX9_force_18 fd_X9_51 sf_BS_6 ?_
    obtain ⟨v5, e6, h⟩ := lz_ok h
    refine ws_topi C e6 ?_
    refine ws_istore_n (pc := 21) C dX9_force_21 rfl (by decide) rfl ?_
    refine ws_aload_n (pc := 22) C dX9_force_22 rfl 1 rfl ?_
    refine ws_iload_n (pc := 23) C dX9_force_23 rfl 2 rfl ?_
    obtain ⟨s7, e8, h⟩ := lz_ok h
    refine ws_putI (pc := 24) C dX9_force_24 fp_X9_51 sf_BS_6 e8 ?_
    refine ws_iload_n (pc := 27) C dX9_force_27 rfl 0 rfl ?_
    exact wr_i (pc := 28) C R dX9_force_28 rfl h
  · have h := ite_t h c4
    refine ws_bipush (pc := 14) C dX9_force_14 cb_m2 ?_
    exact wr_i (pc := 16) C R dX9_force_16 rfl h
set_option maxRecDepth 20000 in
set_option maxHeartbeats 4000000 in
theorem mX9_totalOf {Y : xY} {Z : xZ} {a1 : Int32} {s : xM} {z : Int64 × xM} (h : fX9_totalOf a1 s = some z) : xMl (GX Y) Z yX9_totalOf cX9_totalOf 2 4 [.ref (Y.1 0), .int a1] s z := by
  refine xMl_of (by decide) (Nat.le_of_ble_eq_true rfl) (fun B C R => ?_)
  have C : xC (GX Y) Z B "BetweenStops" cX9_totalOf 2 4 := C
  show xWS (GX Y) B 2 s [(0, .ref (Y.1 0)), (1, .int a1)] 0 []
  unfold fX9_totalOf at h
  refine ws_aload_n (pc := 0) C dX9_totalOf_0 rfl 0 rfl ?_
  refine ws_getr (pc := 1) C dX9_totalOf_1 fd_X9_21 sf_BS_1 ?_
  refine ws_iload_n (pc := 4) C dX9_totalOf_4 rfl 1 rfl ?_
  refine ws_aload_n (pc := 5) C dX9_totalOf_5 rfl 0 rfl ?_
  refine ws_getr (pc := 6) C dX9_totalOf_6 fd_X9_10 sf_BS_0 ?_
  refine ws_geti (pc := 9) C dX9_totalOf_9 fd_X9_135 sf_town_4 ?_
  obtain ⟨r1, s2, q3, h⟩ := bd_ok h
  refine wc_vV (pc := 12)  C [.int a1, .int (gi s 1 4)] [] (mX8_look q3) dX9_totalOf_12 mw_X8_look mv_X8_look kl_X9_274 so_ways rfl rfl (Nat.le_of_ble_eq_true rfl) ⟨by decide, by decide⟩ ?_
  refine ws_aload_n (pc := 15) C dX9_totalOf_15 rfl 0 rfl ?_
  refine ws_getr (pc := 16) C dX9_totalOf_16 fd_X9_21 sf_BS_1 ?_
  obtain ⟨r4, s5, q6, h⟩ := bd_ok h
  refine wc_lV (pc := 19)  C [] [] (mX8_total q6) dX9_totalOf_19 mw_X8_total mv_X8_total kl_X9_241 so_ways rfl rfl (Nat.le_of_ble_eq_true rfl) ⟨by decide, by decide⟩ ?_
  exact wr_l (pc := 22) C R dX9_totalOf_22 h
set_option maxRecDepth 20000 in
set_option maxHeartbeats 4000000 in
theorem pX9_walksAtMost_L2 {Y : xY} {Z : xZ} {B : xB} {z : Int32 × xM} (C : xC (GX Y) Z B "BetweenStops" cX9_walksAtMost 3 1) (R : xRi (GX Y) B .boolean z) {k26 : xM → Option (Int32 × xM)} {k34 : xM → Option (Int32 × xM)} {a1 : Int32}
    (hk26 : ∀  (s : xM), k26 s = some z → xWS (GX Y) B 3 s [] 26 [])
    (hk34 : ∀  (s : xM), k34 s = some z → xWS (GX Y) B 3 s [] 34 []) : ∀ (n : Nat) (a2 : Int32) (s : xM), fX9_walksAtMost_L2 k26 k34 a1 n a2 s = some z → xWS (GX Y) B 3 s [(0, .ref (Y.1 0)), (1, .int a1), (2, .int a2)] 2 [] := by
  intro n
  induction n with
  | zero =>
    intro a2 s h
    rw [fX9_walksAtMost_L2] at h
    cases h
  | succ n ih =>
    intro a2 s h
    rw [fX9_walksAtMost_L2] at h
    refine ws_iload_n (pc := 2) C dX9_walksAtMost_2 rfl 2 rfl ?_
    refine ws_aload_n (pc := 3) C dX9_walksAtMost_3 rfl 0 rfl ?_
    refine ws_getr (pc := 4) C dX9_walksAtMost_4 fd_X9_10 sf_BS_0 ?_
    refine ws_geti (pc := 7) C dX9_walksAtMost_7 fd_X9_197 sf_town_9 ?_
    refine ws_icmp_ge (pc := 10) (tgt := 34) C dX9_walksAtMost_10 (by decide) (fun c1 => ?_) (fun c1 => ?_)
    · have h := ite_t h c1
      refine ws_less [] rfl ?_
      exact hk34 _ h
    · have h := ite_f h c1
      refine ws_aload_n (pc := 13) C dX9_walksAtMost_13 rfl 0 rfl ?_
      refine ws_getr (pc := 14) C dX9_walksAtMost_14 fd_X9_21 sf_BS_1 ?_
      refine ws_getr (pc := 17) C dX9_walksAtMost_17 fd_X9_230 sf_ways_14 ?_
      refine ws_iload_n (pc := 20) C dX9_walksAtMost_20 rfl 2 rfl ?_
      obtain ⟨g2, h⟩ := gd_ok h
      refine ws_ialdK (pc := 21) C dX9_walksAtMost_21 sr_w_walked g2 rfl ?_
      refine ws_iload_n (pc := 22) C dX9_walksAtMost_22 rfl 1 rfl ?_
      refine ws_icmp_le (pc := 23) (tgt := 28) C dX9_walksAtMost_23 (by decide) (fun c3 => ?_) (fun c3 => ?_)
      · have h := ite_t h c3
        refine ws_iinc (j := 2) (pc := 28) C dX9_walksAtMost_28 rfl (cn_1 _) (by decide) rfl ?_
        refine ws_goto (pc := 31) (tgt := 2) C dX9_walksAtMost_31 (by decide) ?_
        refine ws_less [1, 2, 0] rfl ?_
        exact ih _ _ h
      · have h := ite_f h c3
        refine ws_less [] rfl ?_
        exact hk26 _ h
set_option maxRecDepth 20000 in
set_option maxHeartbeats 4000000 in
theorem mX9_walksAtMost {Y : xY} {Z : xZ} {a1 : Int32} {s : xM} {z : Int32 × xM} (h : fX9_walksAtMost a1 s = some z) : xMi (GX Y) Z yX9_walksAtMost cX9_walksAtMost 3 1 .boolean [.ref (Y.1 0), .int a1] s z := by
  refine xMi_of (by decide) (Nat.le_of_ble_eq_true rfl) (fun B C R => ?_)
  have C : xC (GX Y) Z B "BetweenStops" cX9_walksAtMost 3 1 := C
  show xWS (GX Y) B 3 s [(0, .ref (Y.1 0)), (1, .int a1)] 0 []
  unfold fX9_walksAtMost at h
  refine ws_iconst (pc := 0) C dX9_walksAtMost_0 ci_0 ?_
  refine ws_istore_n (pc := 1) C dX9_walksAtMost_1 rfl (by decide) rfl ?_
  refine ws_less [1, 2, 0] rfl ?_
  refine pX9_walksAtMost_L2 C R (fun s1 h => ?_) (fun s2 h => ?_) fu _ _ h
  · refine ws_iconst (pc := 26) C dX9_walksAtMost_26 ci_0 ?_
    exact wr_i (pc := 27) C R dX9_walksAtMost_27 (isZ_nar isZ0) h
  · refine ws_iconst (pc := 34) C dX9_walksAtMost_34 ci_1 ?_
    exact wr_i (pc := 35) C R dX9_walksAtMost_35 (isZ_nar isZ1) h
set_option maxRecDepth 20000 in
set_option maxHeartbeats 4000000 in
theorem pX9_dropsAtMost_L2 {Y : xY} {Z : xZ} {B : xB} {z : Int32 × xM} (C : xC (GX Y) Z B "BetweenStops" cX9_dropsAtMost 3 1) (R : xRi (GX Y) B .boolean z) {k40 : xM → Option (Int32 × xM)} {k48 : xM → Option (Int32 × xM)} {a1 : Int32}
    (hk40 : ∀  (s : xM), k40 s = some z → xWS (GX Y) B 3 s [] 40 [])
    (hk48 : ∀  (s : xM), k48 s = some z → xWS (GX Y) B 3 s [] 48 []) : ∀ (n : Nat) (a2 : Int32) (s : xM), fX9_dropsAtMost_L2 k40 k48 a1 n a2 s = some z → xWS (GX Y) B 3 s [(0, .ref (Y.1 0)), (1, .int a1), (2, .int a2)] 2 [] := by
  intro n
  induction n with
  | zero =>
    intro a2 s h
    rw [fX9_dropsAtMost_L2] at h
    cases h
  | succ n ih =>
    intro a2 s h
    rw [fX9_dropsAtMost_L2] at h
    refine ws_iload_n (pc := 2) C dX9_dropsAtMost_2 rfl 1 rfl ?_
    refine ws_ldcw (pc := 3) C dX9_dropsAtMost_3 kk_X9_257 ?_
    refine ws_icmp_eq (pc := 6) (tgt := 48) C dX9_dropsAtMost_6 (by decide) (fun c1 => ?_) (fun c1 => ?_)
    · have h := ite_t h c1
      refine ws_less [] rfl ?_
      exact hk48 _ h
    · have h := ite_f h c1
      refine ws_iload_n (pc := 9) C dX9_dropsAtMost_9 rfl 2 rfl ?_
      refine ws_aload_n (pc := 10) C dX9_dropsAtMost_10 rfl 0 rfl ?_
      refine ws_getr (pc := 11) C dX9_dropsAtMost_11 fd_X9_10 sf_BS_0 ?_
      refine ws_geti (pc := 14) C dX9_dropsAtMost_14 fd_X9_197 sf_town_9 ?_
      refine ws_icmp_ge (pc := 17) (tgt := 48) C dX9_dropsAtMost_17 (by decide) (fun c2 => ?_) (fun c2 => ?_)
      · have h := ite_t h c2
        refine ws_less [] rfl ?_
        exact hk48 _ h
      · have h := ite_f h c2
        refine ws_aload_n (pc := 20) C dX9_dropsAtMost_20 rfl 0 rfl ?_
        refine ws_getr (pc := 21) C dX9_dropsAtMost_21 fd_X9_21 sf_BS_1 ?_
        refine ws_getr (pc := 24) C dX9_dropsAtMost_24 fd_X9_221 sf_ways_11 ?_
        refine ws_iload_n (pc := 27) C dX9_dropsAtMost_27 rfl 2 rfl ?_
        obtain ⟨g3, h⟩ := gd_ok h
        refine ws_ialdK (pc := 28) C dX9_dropsAtMost_28 sr_w_costs g3 rfl ?_
        refine ws_aload_n (pc := 29) C dX9_dropsAtMost_29 rfl 0 rfl ?_
        refine ws_getr (pc := 30) C dX9_dropsAtMost_30 fd_X9_71 sf_BS_10 ?_
        refine ws_iload_n (pc := 33) C dX9_dropsAtMost_33 rfl 2 rfl ?_
        obtain ⟨g4, h⟩ := gd_ok h
        refine ws_ialdK (pc := 34) C dX9_dropsAtMost_34 sr_b_costsNow g4 rfl ?_
        refine ws_isub (pc := 35) C dX9_dropsAtMost_35 ?_
        refine ws_iload_n (pc := 36) C dX9_dropsAtMost_36 rfl 1 rfl ?_
        refine ws_icmp_le (pc := 37) (tgt := 42) C dX9_dropsAtMost_37 (by decide) (fun c5 => ?_) (fun c5 => ?_)
        · have h := ite_t h c5
          refine ws_iinc (j := 2) (pc := 42) C dX9_dropsAtMost_42 rfl (cn_1 _) (by decide) rfl ?_
          refine ws_goto (pc := 45) (tgt := 2) C dX9_dropsAtMost_45 (by decide) ?_
          refine ws_less [1, 2, 0] rfl ?_
          exact ih _ _ h
        · have h := ite_f h c5
          refine ws_less [] rfl ?_
          exact hk40 _ h
set_option maxRecDepth 20000 in
set_option maxHeartbeats 4000000 in
theorem mX9_dropsAtMost {Y : xY} {Z : xZ} {a1 : Int32} {s : xM} {z : Int32 × xM} (h : fX9_dropsAtMost a1 s = some z) : xMi (GX Y) Z yX9_dropsAtMost cX9_dropsAtMost 3 1 .boolean [.ref (Y.1 0), .int a1] s z := by
  refine xMi_of (by decide) (Nat.le_of_ble_eq_true rfl) (fun B C R => ?_)
  have C : xC (GX Y) Z B "BetweenStops" cX9_dropsAtMost 3 1 := C
  show xWS (GX Y) B 3 s [(0, .ref (Y.1 0)), (1, .int a1)] 0 []
  unfold fX9_dropsAtMost at h
  refine ws_iconst (pc := 0) C dX9_dropsAtMost_0 ci_0 ?_
  refine ws_istore_n (pc := 1) C dX9_dropsAtMost_1 rfl (by decide) rfl ?_
  refine ws_less [1, 2, 0] rfl ?_
  refine pX9_dropsAtMost_L2 C R (fun s1 h => ?_) (fun s2 h => ?_) fu _ _ h
  · refine ws_iconst (pc := 40) C dX9_dropsAtMost_40 ci_0 ?_
    exact wr_i (pc := 41) C R dX9_dropsAtMost_41 (isZ_nar isZ0) h
  · refine ws_iconst (pc := 48) C dX9_dropsAtMost_48 ci_1 ?_
    exact wr_i (pc := 49) C R dX9_dropsAtMost_49 (isZ_nar isZ1) h
set_option maxRecDepth 20000 in
set_option maxHeartbeats 4000000 in
theorem pX9_bestSet_J91 {Y : xY} {Z : xZ} {B : xB} {z : Int32 × xM} (C : xC (GX Y) Z B "BetweenStops" cX9_bestSet 10 5) (R : xRi (GX Y) B .int z) {k104 : Int32 → xM → Option (Int32 × xM)} {b : Int32 → Int64 → Int32 → xM → Option (Int32 × xM)} {a1 : Int32} {a2 : Int32} {a6 : Int32} {a7 : Int64}
    (hk104 : ∀ (a3 : Int32) (s : xM), k104 a3 s = some z → xWS (GX Y) B 10 s [(3, .int a3)] 104 [])
    (hb : ∀ (a3 : Int32) (a4 : Int64) (a6 : Int32) (s : xM), b a3 a4 a6 s = some z → xWS (GX Y) B 10 s [(0, .ref (Y.1 0)), (1, .int a1), (2, .int a2), (3, .int a3), (4, .long a4), (6, .int a6)] 8 []) {s : xM} (h : fX9_bestSet_J91 k104 b a1 a2 a6 a7 s = some z) : xWS (GX Y) B 10 s [(0, .ref (Y.1 0)), (1, .int a1), (2, .int a2), (6, .int a6), (7, .long a7)] 91 [] := by
  unfold fX9_bestSet_J91 at h
  refine ws_iload (pc := 91) C dX9_bestSet_91 3 rfl ?_
  refine ws_istore_n (pc := 93) C dX9_bestSet_93 rfl (by decide) rfl ?_
  refine ws_lload (pc := 94) C dX9_bestSet_94 5 rfl ?_
  refine ws_lstore (pc := 96) C dX9_bestSet_96 (by decide) rfl ?_
  refine ws_iinc (j := 5) (pc := 98) C dX9_bestSet_98 rfl (cn_1 _) (by decide) rfl ?_
  refine ws_goto (pc := 101) (tgt := 8) C dX9_bestSet_101 (by decide) ?_
  refine ws_less [3, 4, 5, 2, 1, 0] rfl ?_
  exact hb _ _ _ _ h
set_option maxRecDepth 20000 in
set_option maxHeartbeats 4000000 in
theorem pX9_bestSet_J72 {Y : xY} {Z : xZ} {B : xB} {z : Int32 × xM} (C : xC (GX Y) Z B "BetweenStops" cX9_bestSet 10 5) (R : xRi (GX Y) B .int z) {k104 : Int32 → xM → Option (Int32 × xM)} {b : Int32 → Int64 → Int32 → xM → Option (Int32 × xM)} {a1 : Int32} {a2 : Int32} {a3 : Int32} {a4 : Int64} {a6 : Int32} {a7 : Int64} {t0 : Int32}
    (hk104 : ∀ (a3 : Int32) (s : xM), k104 a3 s = some z → xWS (GX Y) B 10 s [(3, .int a3)] 104 [])
    (hb : ∀ (a3 : Int32) (a4 : Int64) (a6 : Int32) (s : xM), b a3 a4 a6 s = some z → xWS (GX Y) B 10 s [(0, .ref (Y.1 0)), (1, .int a1), (2, .int a2), (3, .int a3), (4, .long a4), (6, .int a6)] 8 []) {s : xM} (h : fX9_bestSet_J72 k104 b a1 a2 a3 a4 a6 a7 t0 s = some z) : xWS (GX Y) B 10 s [(0, .ref (Y.1 0)), (1, .int a1), (2, .int a2), (3, .int a3), (4, .long a4), (6, .int a6), (7, .long a7)] 72 [.int t0] := by
  unfold fX9_bestSet_J72 at h
  refine ws_istore (pc := 72) C dX9_bestSet_72 (by decide) rfl ?_
  refine ws_iload_n (pc := 74) C dX9_bestSet_74 rfl 4 rfl ?_
  refine ws_if_lt (pc := 75) (tgt := 91) C dX9_bestSet_75 (by decide) (fun c1 => ?_) (fun c1 => ?_)
  · have h := ite_t h c1
    refine ws_less [1, 2, 3, 6, 7] rfl ?_
    exact pX9_bestSet_J91 C R hk104 hb h
  · have h := ite_f h c1
    refine ws_lload (pc := 78) C dX9_bestSet_78 7 rfl ?_
    refine ws_lload (pc := 80) C dX9_bestSet_80 5 rfl ?_
    refine ws_lcmp (pc := 82) C dX9_bestSet_82 ?_
    refine ws_if_lt (pc := 83) (tgt := 91) C dX9_bestSet_83 (by decide) (fun c2 => ?_) (fun c2 => ?_)
    · have h := ite_t h c2
      refine ws_less [1, 2, 3, 6, 7] rfl ?_
      exact pX9_bestSet_J91 C R hk104 hb h
    · have h := ite_f h c2
      refine ws_iload (pc := 86) C dX9_bestSet_86 0 rfl ?_
      refine ws_if_eq (pc := 88) (tgt := 98) C dX9_bestSet_88 (by decide) (fun c3 => ?_) (fun c3 => ?_)
      · have h := ite_t h c3
        refine ws_iinc (j := 6) (pc := 98) C dX9_bestSet_98 rfl (cn_1 _) (by decide) rfl ?_
        refine ws_goto (pc := 101) (tgt := 8) C dX9_bestSet_101 (by decide) ?_
        refine ws_less [2, 3, 4, 5, 6, 0] rfl ?_
        exact hb _ _ _ _ h
      · have h := ite_f h c3
        refine ws_less [1, 2, 3, 6, 7] rfl ?_
        exact pX9_bestSet_J91 C R hk104 hb h
set_option maxRecDepth 20000 in
set_option maxHeartbeats 4000000 in
theorem pX9_bestSet_J71 {Y : xY} {Z : xZ} {B : xB} {z : Int32 × xM} (C : xC (GX Y) Z B "BetweenStops" cX9_bestSet 10 5) (R : xRi (GX Y) B .int z) {k104 : Int32 → xM → Option (Int32 × xM)} {b : Int32 → Int64 → Int32 → xM → Option (Int32 × xM)} {a1 : Int32} {a2 : Int32} {a3 : Int32} {a4 : Int64} {a6 : Int32} {a7 : Int64}
    (hk104 : ∀ (a3 : Int32) (s : xM), k104 a3 s = some z → xWS (GX Y) B 10 s [(3, .int a3)] 104 [])
    (hb : ∀ (a3 : Int32) (a4 : Int64) (a6 : Int32) (s : xM), b a3 a4 a6 s = some z → xWS (GX Y) B 10 s [(0, .ref (Y.1 0)), (1, .int a1), (2, .int a2), (3, .int a3), (4, .long a4), (6, .int a6)] 8 []) {s : xM} (h : fX9_bestSet_J71 k104 b a1 a2 a3 a4 a6 a7 s = some z) : xWS (GX Y) B 10 s [(0, .ref (Y.1 0)), (1, .int a1), (2, .int a2), (3, .int a3), (4, .long a4), (6, .int a6), (7, .long a7)] 71 [] := by
  unfold fX9_bestSet_J71 at h
  refine ws_iconst (pc := 71) C dX9_bestSet_71 ci_0 ?_
  refine ws_less [0, 1, 2, 3, 4, 5, 6] rfl ?_
  exact pX9_bestSet_J72 C R hk104 hb h
set_option maxRecDepth 20000 in
set_option maxHeartbeats 4000000 in
theorem pX9_bestSet_L8 {Y : xY} {Z : xZ} {B : xB} {z : Int32 × xM} (C : xC (GX Y) Z B "BetweenStops" cX9_bestSet 10 5) (R : xRi (GX Y) B .int z) {k104 : Int32 → xM → Option (Int32 × xM)} {a1 : Int32} {a2 : Int32}
    (hk104 : ∀ (a3 : Int32) (s : xM), k104 a3 s = some z → xWS (GX Y) B 10 s [(3, .int a3)] 104 []) : ∀ (n : Nat) (a3 : Int32) (a4 : Int64) (a6 : Int32) (s : xM), fX9_bestSet_L8 k104 a1 a2 n a3 a4 a6 s = some z → xWS (GX Y) B 10 s [(0, .ref (Y.1 0)), (1, .int a1), (2, .int a2), (3, .int a3), (4, .long a4), (6, .int a6)] 8 [] := by
  intro n
  induction n with
  | zero =>
    intro a3 a4 a6 s h
    rw [fX9_bestSet_L8] at h
    cases h
  | succ n ih =>
    intro a3 a4 a6 s h
    rw [fX9_bestSet_L8] at h
    refine ws_iload (pc := 8) C dX9_bestSet_8 5 rfl ?_
    refine ws_aload_n (pc := 10) C dX9_bestSet_10 rfl 0 rfl ?_
    refine ws_getr (pc := 11) C dX9_bestSet_11 fd_X9_10 sf_BS_0 ?_
    obtain ⟨r1, s2, q3, h⟩ := bd_ok h
    refine wc_iV (pc := 14)  C [] [.int a6] (mX6_setCount q3) dX9_bestSet_14 mw_X6_setCount mv_X6_setCount kl_X9_271 so_town rfl rfl (Nat.le_of_ble_eq_true rfl) ⟨by decide, by decide⟩ ?_
    refine ws_icmp_ge (pc := 17) (tgt := 104) C dX9_bestSet_17 (by decide) (fun c4 => ?_) (fun c4 => ?_)
    · have h := ite_t h c4
      refine ws_less [3] rfl ?_
      exact hk104 _ _ h
    · have h := ite_f h c4
      refine ws_aload_n (pc := 20) C dX9_bestSet_20 rfl 0 rfl ?_
      refine ws_iload (pc := 21) C dX9_bestSet_21 5 rfl ?_
      obtain ⟨r5, s6, q7, h⟩ := bd_ok h
      refine wc_lV (pc := 23)  C [.int a6] [] (mX9_totalOf q7) dX9_bestSet_23 mw_X9_totalOf mv_X9_totalOf kl_X9_262 so_BS rfl rfl (Nat.le_of_ble_eq_true rfl) ⟨by decide, by decide⟩ ?_
      refine ws_lstore (pc := 26) C dX9_bestSet_26 (by decide) rfl ?_
      refine ws_aload_n (pc := 28) C dX9_bestSet_28 rfl 1 rfl ?_
      refine ws_iload_n (pc := 29) C dX9_bestSet_29 rfl 2 rfl ?_
      obtain ⟨r8, s9, q10, h⟩ := bd_ok h
      refine wc_iV (pc := 30)  C [.int a1] [] (mX9_walksAtMost q10) dX9_bestSet_30 mw_X9_walksAtMost mv_X9_walksAtMost kl_X9_371 so_BS rfl rfl (Nat.le_of_ble_eq_true rfl) ⟨by decide, by decide⟩ ?_
      refine ws_if_eq (pc := 33) (tgt := 98) C dX9_bestSet_33 (by decide) (fun c11 => ?_) (fun c11 => ?_)
      · have h := ite_t h c11
        refine ws_iinc (j := 6) (pc := 98) C dX9_bestSet_98 rfl (cn_1 _) (by decide) rfl ?_
        refine ws_goto (pc := 101) (tgt := 8) C dX9_bestSet_101 (by decide) ?_
        refine ws_less [2, 3, 4, 5, 6, 0] rfl ?_
        exact ih _ _ _ _ h
      · have h := ite_f h c11
        refine ws_aload_n (pc := 36) C dX9_bestSet_36 rfl 1 rfl ?_
        refine ws_iload_n (pc := 37) C dX9_bestSet_37 rfl 3 rfl ?_
        obtain ⟨r12, s13, q14, h⟩ := bd_ok h
        refine wc_iV (pc := 38)  C [.int a2] [] (mX9_dropsAtMost q14) dX9_bestSet_38 mw_X9_dropsAtMost mv_X9_dropsAtMost kl_X9_374 so_BS rfl rfl (Nat.le_of_ble_eq_true rfl) ⟨by decide, by decide⟩ ?_
        refine ws_if_ne (pc := 41) (tgt := 47) C dX9_bestSet_41 (by decide) (fun c15 => ?_) (fun c15 => ?_)
        · have h := ite_f h c15
          refine ws_lload (pc := 47) C dX9_bestSet_47 0 rfl ?_
          refine ws_lload (pc := 49) C dX9_bestSet_49 5 rfl ?_
          refine ws_lcmp (pc := 51) C dX9_bestSet_51 ?_
          refine ws_if_ne (pc := 52) (tgt := 71) C dX9_bestSet_52 (by decide) (fun c16 => ?_) (fun c16 => ?_)
          · have h := ite_f h c16
            refine ws_less [1, 2, 3, 4, 5, 6, 0] rfl ?_
            exact pX9_bestSet_J71 C R hk104 (fun a3 a4 a6 s h => ih a3 a4 a6 s h) h
          · have h := ite_t h c16
            refine ws_iload (pc := 55) C dX9_bestSet_55 6 rfl ?_
            obtain ⟨r17, s18, q19, h⟩ := bd_ok h
            refine wc_iS (pc := 57)  C [.int a6] [] (mJ6_bitCount_0f7a4 q19) dX9_bestSet_57 mw_J6_bitCount_0f7a4 ks_J6_bitCount_0f7a4 kl_X9_210 rfl rfl (Nat.le_of_ble_eq_true rfl) ⟨by decide, by decide⟩ ?_
            refine ws_iload_n (pc := 60) C dX9_bestSet_60 rfl 4 rfl ?_
            obtain ⟨r20, s21, q22, h⟩ := bd_ok h
            refine wc_iS (pc := 61)  C [.int a3] [.int r17] (mJ6_bitCount_0f7a4 q22) dX9_bestSet_61 mw_J6_bitCount_0f7a4 ks_J6_bitCount_0f7a4 kl_X9_210 rfl rfl (Nat.le_of_ble_eq_true rfl) ⟨by decide, by decide⟩ ?_
            refine ws_icmp_ge (pc := 64) (tgt := 71) C dX9_bestSet_64 (by decide) (fun c23 => ?_) (fun c23 => ?_)
            · have h := ite_t h c23
              refine ws_less [1, 2, 3, 4, 5, 6, 0] rfl ?_
              exact pX9_bestSet_J71 C R hk104 (fun a3 a4 a6 s h => ih a3 a4 a6 s h) h
            · have h := ite_f h c23
              refine ws_iconst (pc := 67) C dX9_bestSet_67 ci_1 ?_
              refine ws_goto (pc := 68) (tgt := 72) C dX9_bestSet_68 (by decide) ?_
              refine ws_less [1, 2, 3, 4, 5, 6, 0] rfl ?_
              exact pX9_bestSet_J72 C R hk104 (fun a3 a4 a6 s h => ih a3 a4 a6 s h) h
        · have h := ite_t h c15
          refine ws_goto (pc := 44) (tgt := 98) C dX9_bestSet_44 (by decide) ?_
          refine ws_iinc (j := 6) (pc := 98) C dX9_bestSet_98 rfl (cn_1 _) (by decide) rfl ?_
          refine ws_goto (pc := 101) (tgt := 8) C dX9_bestSet_101 (by decide) ?_
          refine ws_less [2, 3, 4, 5, 6, 0] rfl ?_
          exact ih _ _ _ _ h
set_option maxRecDepth 20000 in
set_option maxHeartbeats 4000000 in
theorem mX9_bestSet {Y : xY} {Z : xZ} {a1 : Int32} {a2 : Int32} {s : xM} {z : Int32 × xM} (h : fX9_bestSet a1 a2 s = some z) : xMi (GX Y) Z yX9_bestSet cX9_bestSet 10 5 .int [.ref (Y.1 0), .int a1, .int a2] s z := by
  refine xMi_of (by decide) (Nat.le_of_ble_eq_true rfl) (fun B C R => ?_)
  have C : xC (GX Y) Z B "BetweenStops" cX9_bestSet 10 5 := C
  show xWS (GX Y) B 10 s [(0, .ref (Y.1 0)), (1, .int a1), (2, .int a2)] 0 []
  unfold fX9_bestSet at h
  refine ws_iconst (pc := 0) C dX9_bestSet_0 ci_m1 ?_
  refine ws_istore_n (pc := 1) C dX9_bestSet_1 rfl (by decide) rfl ?_
  refine ws_lconst (v := 0) (pc := 2) C dX9_bestSet_2 (by decide) ?_
  refine ws_lstore (pc := 3) C dX9_bestSet_3 (by decide) rfl ?_
  refine ws_iconst (pc := 5) C dX9_bestSet_5 ci_0 ?_
  refine ws_istore (pc := 6) C dX9_bestSet_6 (by decide) rfl ?_
  refine ws_less [3, 4, 5, 2, 1, 0] rfl ?_
  refine pX9_bestSet_L8 C R (fun x1 s2 h => ?_) fu _ _ _ _ h
  · refine ws_iload_n (pc := 104) C dX9_bestSet_104 rfl 0 rfl ?_
    exact wr_i (pc := 105) C R dX9_bestSet_105 rfl h
set_option maxRecDepth 20000 in
set_option maxHeartbeats 4000000 in
theorem mX9_best {Y : xY} {Z : xZ} {a1 : Int32} {s : xM} {z : Int64 × xM} (h : fX9_best a1 s = some z) : xMl (GX Y) Z yX9_best cX9_best 3 6 [.ref (Y.1 0), .int a1] s z := by
  refine xMl_of (by decide) (Nat.le_of_ble_eq_true rfl) (fun B C R => ?_)
  have C : xC (GX Y) Z B "BetweenStops" cX9_best 3 6 := C
  show xWS (GX Y) B 3 s [(0, .ref (Y.1 0)), (1, .int a1)] 0 []
  unfold fX9_best at h
  refine ws_iload_n (pc := 0) C dX9_best_0 rfl 1 rfl ?_
  refine ws_iconst (pc := 1) C dX9_best_1 ci_0 ?_
  refine ws_iconst (pc := 2) C dX9_best_2 ci_1 ?_
  obtain ⟨r1, s2, q3, h⟩ := bd_ok h
  refine wc_iS (pc := 3)  C [.int a1, .int (0 : Int32), .int (1 : Int32)] [] (mX9_isWithin q3) dX9_best_3 mw_X9_isWithin ks_X9_isWithin kl_X9_111 rfl rfl (Nat.le_of_ble_eq_true rfl) ⟨by decide, by decide⟩ ?_
  refine ws_if_ne (pc := 6) (tgt := 13) C dX9_best_6 (by decide) (fun c4 => ?_) (fun c4 => ?_)
  · have h := ite_f h c4
    refine ws_aload_n (pc := 13) C dX9_best_13 rfl 0 rfl ?_
    refine ws_getr (pc := 14) C dX9_best_14 fd_X9_21 sf_BS_1 ?_
    obtain ⟨r5, s6, q7, h⟩ := bd_ok h
    refine wc_vV (pc := 17)  C [] [] (mX8_measure q7) dX9_best_17 mw_X8_measure mv_X8_measure kl_X9_254 so_ways rfl rfl (Nat.le_of_ble_eq_true rfl) ⟨by decide, by decide⟩ ?_
    refine ws_aload_n (pc := 20) C dX9_best_20 rfl 0 rfl ?_
    refine ws_ldcw (pc := 21) C dX9_best_21 kk_X9_257 ?_
    refine ws_ldcw (pc := 24) C dX9_best_24 kk_X9_257 ?_
    obtain ⟨r8, s9, q10, h⟩ := bd_ok h
    refine wc_iV (pc := 27)  C [.int (2147483647 : Int32), .int (2147483647 : Int32)] [] (mX9_bestSet q10) dX9_best_27 mw_X9_bestSet mv_X9_bestSet kl_X9_258 so_BS rfl rfl (Nat.le_of_ble_eq_true rfl) ⟨by decide, by decide⟩ ?_
    refine ws_istore_n (pc := 30) C dX9_best_30 rfl (by decide) rfl ?_
    refine ws_iload_n (pc := 31) C dX9_best_31 rfl 2 rfl ?_
    refine ws_if_ne (pc := 32) (tgt := 40) C dX9_best_32 (by decide) (fun c11 => ?_) (fun c11 => ?_)
    · have h := ite_f h c11
      refine ws_aload_n (pc := 40) C dX9_best_40 rfl 1 rfl ?_
      refine ws_iload_n (pc := 41) C dX9_best_41 rfl 0 rfl ?_
      obtain ⟨r12, s13, q14, h⟩ := bd_ok h
      refine wc_lV (pc := 42)  C [.int r8] [] (mX9_totalOf q14) dX9_best_42 mw_X9_totalOf mv_X9_totalOf kl_X9_262 so_BS rfl rfl (Nat.le_of_ble_eq_true rfl) ⟨by decide, by decide⟩ ?_
      exact wr_l (pc := 45) C R dX9_best_45 h
    · have h := ite_t h c11
      refine ws_iload_n (pc := 35) C dX9_best_35 rfl 0 rfl ?_
      refine ws_i2l (pc := 36) C dX9_best_36 ?_
      refine ws_goto (pc := 37) (tgt := 45) C dX9_best_37 (by decide) ?_
      exact wr_l (pc := 45) C R dX9_best_45 h
  · have h := ite_t h c4
    refine ws_ldc2 (pc := 9) C dX9_best_9 kK_X9_239 ?_
    exact wr_l (pc := 12) C R dX9_best_12 h
set_option maxRecDepth 20000 in
set_option maxHeartbeats 4000000 in
theorem mX9_bound {Y : xY} {Z : xZ} {a1 : Int32} {s : xM} {z : Int32 × xM} (h : fX9_bound a1 s = some z) : xMi (GX Y) Z yX9_bound cX9_bound 2 6 .int [.ref (Y.1 0), .int a1] s z := by
  refine xMi_of (by decide) (Nat.le_of_ble_eq_true rfl) (fun B C R => ?_)
  have C : xC (GX Y) Z B "BetweenStops" cX9_bound 2 6 := C
  show xWS (GX Y) B 2 s [(0, .ref (Y.1 0)), (1, .int a1)] 0 []
  unfold fX9_bound at h
  refine ws_iload_n (pc := 0) C dX9_bound_0 rfl 1 rfl ?_
  refine ws_iconst (pc := 1) C dX9_bound_1 ci_0 ?_
  refine ws_ldcw (pc := 2) C dX9_bound_2 kk_X9_266 ?_
  obtain ⟨r1, s2, q3, h⟩ := bd_ok h
  refine wc_iS (pc := 5)  C [.int a1, .int (0 : Int32), .int (99999 : Int32)] [] (mX9_isWithin q3) dX9_bound_5 mw_X9_isWithin ks_X9_isWithin kl_X9_111 rfl rfl (Nat.le_of_ble_eq_true rfl) ⟨by decide, by decide⟩ ?_
  refine ws_if_ne (pc := 8) (tgt := 14) C dX9_bound_8 (by decide) (fun c4 => ?_) (fun c4 => ?_)
  · have h := ite_f h c4
    refine ws_aload_n (pc := 14) C dX9_bound_14 rfl 0 rfl ?_
    refine ws_getr (pc := 15) C dX9_bound_15 fd_X9_21 sf_BS_1 ?_
    obtain ⟨r5, s6, q7, h⟩ := bd_ok h
    refine wc_vV (pc := 18)  C [] [] (mX8_measure q7) dX9_bound_18 mw_X8_measure mv_X8_measure kl_X9_254 so_ways rfl rfl (Nat.le_of_ble_eq_true rfl) ⟨by decide, by decide⟩ ?_
    refine ws_aload_n (pc := 21) C dX9_bound_21 rfl 0 rfl ?_
    refine ws_iload_n (pc := 22) C dX9_bound_22 rfl 1 rfl ?_
    refine ws_ldcw (pc := 23) C dX9_bound_23 kk_X9_257 ?_
    obtain ⟨r8, s9, q10, h⟩ := bd_ok h
    refine wc_iV (pc := 26)  C [.int a1, .int (2147483647 : Int32)] [] (mX9_bestSet q10) dX9_bound_26 mw_X9_bestSet mv_X9_bestSet kl_X9_258 so_BS rfl rfl (Nat.le_of_ble_eq_true rfl) ⟨by decide, by decide⟩ ?_
    exact wr_i (pc := 29) C R dX9_bound_29 rfl h
  · have h := ite_t h c4
    refine ws_bipush (pc := 11) C dX9_bound_11 cb_m2 ?_
    exact wr_i (pc := 13) C R dX9_bound_13 rfl h
set_option maxRecDepth 20000 in
set_option maxHeartbeats 4000000 in
theorem mX9_keepCosts {Y : xY} {Z : xZ} {s : xM} {z : Int32 × xM} (h : fX9_keepCosts s = some z) : xMv (GX Y) Z yX9_keepCosts cX9_keepCosts 1 1 [.ref (Y.1 0)] s z := by
  refine xMv_of (by decide) (Nat.le_of_ble_eq_true rfl) (fun B C R => ?_)
  have C : xC (GX Y) Z B "BetweenStops" cX9_keepCosts 1 1 := C
  show xWS (GX Y) B 1 s [(0, .ref (Y.1 0))] 0 []
  unfold fX9_keepCosts at h
  refine ws_aload_n (pc := 0) C dX9_keepCosts_0 rfl 0 rfl ?_
  refine ws_getr (pc := 1) C dX9_keepCosts_1 fd_X9_21 sf_BS_1 ?_
  refine ws_getr (pc := 4) C dX9_keepCosts_4 fd_X9_221 sf_ways_11 ?_
  refine ws_iconst (pc := 7) C dX9_keepCosts_7 ci_0 ?_
  refine ws_aload_n (pc := 8) C dX9_keepCosts_8 rfl 0 rfl ?_
  refine ws_getr (pc := 9) C dX9_keepCosts_9 fd_X9_71 sf_BS_10 ?_
  refine ws_iconst (pc := 12) C dX9_keepCosts_12 ci_0 ?_
  refine ws_bipush (pc := 13) C dX9_keepCosts_13 cb_8 ?_
  obtain ⟨g1, h⟩ := gd_ok h
  obtain ⟨s2, e3, h⟩ := lz_ok h
  refine ws_copyK (pc := 15) C dX9_keepCosts_15 ac_X9_355 sr_w_costs sr_b_costsNow g1 (Nat.le_of_ble_eq_true rfl) (by decide) e3 ?_
  exact wr_v (pc := 18) C R dX9_keepCosts_18 h
set_option maxRecDepth 20000 in
set_option maxHeartbeats 4000000 in
theorem mX9_least {Y : xY} {Z : xZ} {a1 : Int32} {s : xM} {z : Int32 × xM} (h : fX9_least a1 s = some z) : xMi (GX Y) Z yX9_least cX9_least 2 6 .int [.ref (Y.1 0), .int a1] s z := by
  refine xMi_of (by decide) (Nat.le_of_ble_eq_true rfl) (fun B C R => ?_)
  have C : xC (GX Y) Z B "BetweenStops" cX9_least 2 6 := C
  show xWS (GX Y) B 2 s [(0, .ref (Y.1 0)), (1, .int a1)] 0 []
  unfold fX9_least at h
  refine ws_iload_n (pc := 0) C dX9_least_0 rfl 1 rfl ?_
  refine ws_iconst (pc := 1) C dX9_least_1 ci_0 ?_
  refine ws_ldcw (pc := 2) C dX9_least_2 kk_X9_267 ?_
  obtain ⟨r1, s2, q3, h⟩ := bd_ok h
  refine wc_iS (pc := 5)  C [.int a1, .int (0 : Int32), .int (999999 : Int32)] [] (mX9_isWithin q3) dX9_least_5 mw_X9_isWithin ks_X9_isWithin kl_X9_111 rfl rfl (Nat.le_of_ble_eq_true rfl) ⟨by decide, by decide⟩ ?_
  refine ws_if_ne (pc := 8) (tgt := 14) C dX9_least_8 (by decide) (fun c4 => ?_) (fun c4 => ?_)
  · have h := ite_f h c4
    refine ws_aload_n (pc := 14) C dX9_least_14 rfl 0 rfl ?_
    obtain ⟨r5, s6, q7, h⟩ := bd_ok h
    refine wc_vV (pc := 15)  C [] [] (mX9_lookAtNow q7) dX9_least_15 mw_X9_lookAtNow mv_X9_lookAtNow kl_X9_218 so_BS rfl rfl (Nat.le_of_ble_eq_true rfl) ⟨by decide, by decide⟩ ?_
    refine ws_aload_n (pc := 18) C dX9_least_18 rfl 0 rfl ?_
    obtain ⟨r8, s9, q10, h⟩ := bd_ok h
    refine wc_vV (pc := 19)  C [] [] (mX9_keepCosts q10) dX9_least_19 mw_X9_keepCosts mv_X9_keepCosts kl_X9_268 so_BS rfl rfl (Nat.le_of_ble_eq_true rfl) ⟨by decide, by decide⟩ ?_
    refine ws_aload_n (pc := 22) C dX9_least_22 rfl 0 rfl ?_
    refine ws_ldcw (pc := 23) C dX9_least_23 kk_X9_257 ?_
    refine ws_iload_n (pc := 26) C dX9_least_26 rfl 1 rfl ?_
    obtain ⟨r11, s12, q13, h⟩ := bd_ok h
    refine wc_iV (pc := 27)  C [.int (2147483647 : Int32), .int a1] [] (mX9_bestSet q13) dX9_least_27 mw_X9_bestSet mv_X9_bestSet kl_X9_258 so_BS rfl rfl (Nat.le_of_ble_eq_true rfl) ⟨by decide, by decide⟩ ?_
    exact wr_i (pc := 30) C R dX9_least_30 rfl h
  · have h := ite_t h c4
    refine ws_bipush (pc := 11) C dX9_least_11 cb_m2 ?_
    exact wr_i (pc := 13) C R dX9_least_13 rfl h
set_option maxRecDepth 20000 in
set_option maxHeartbeats 4000000 in
theorem pX9_fair_L15 {Y : xY} {Z : xZ} {B : xB} {z : Int32 × xM} (C : xC (GX Y) Z B "BetweenStops" cX9_fair 4 5) (R : xRi (GX Y) B .int z) {k68 : Int32 → xM → Option (Int32 × xM)}
    (hk68 : ∀ (a1 : Int32) (s : xM), k68 a1 s = some z → xWS (GX Y) B 4 s [(1, .int a1)] 68 []) : ∀ (n : Nat) (a1 : Int32) (a2 : Int32) (a3 : Int32) (s : xM), fX9_fair_L15 k68 n a1 a2 a3 s = some z → xWS (GX Y) B 4 s [(0, .ref (Y.1 0)), (1, .int a1), (2, .int a2), (3, .int a3)] 15 [] := by
  intro n
  induction n with
  | zero =>
    intro a1 a2 a3 s h
    rw [fX9_fair_L15] at h
    cases h
  | succ n ih =>
    intro a1 a2 a3 s h
    rw [fX9_fair_L15] at h
    refine ws_iload_n (pc := 15) C dX9_fair_15 rfl 3 rfl ?_
    refine ws_aload_n (pc := 16) C dX9_fair_16 rfl 0 rfl ?_
    refine ws_getr (pc := 17) C dX9_fair_17 fd_X9_10 sf_BS_0 ?_
    obtain ⟨r1, s2, q3, h⟩ := bd_ok h
    refine wc_iV (pc := 20)  C [] [.int a3] (mX6_setCount q3) dX9_fair_20 mw_X6_setCount mv_X6_setCount kl_X9_271 so_town rfl rfl (Nat.le_of_ble_eq_true rfl) ⟨by decide, by decide⟩ ?_
    refine ws_icmp_ge (pc := 23) (tgt := 68) C dX9_fair_23 (by decide) (fun c4 => ?_) (fun c4 => ?_)
    · have h := ite_t h c4
      refine ws_less [1] rfl ?_
      exact hk68 _ _ h
    · have h := ite_f h c4
      refine ws_aload_n (pc := 26) C dX9_fair_26 rfl 0 rfl ?_
      refine ws_getr (pc := 27) C dX9_fair_27 fd_X9_21 sf_BS_1 ?_
      refine ws_iload_n (pc := 30) C dX9_fair_30 rfl 3 rfl ?_
      refine ws_aload_n (pc := 31) C dX9_fair_31 rfl 0 rfl ?_
      refine ws_getr (pc := 32) C dX9_fair_32 fd_X9_10 sf_BS_0 ?_
      refine ws_geti (pc := 35) C dX9_fair_35 fd_X9_135 sf_town_4 ?_
      obtain ⟨r5, s6, q7, h⟩ := bd_ok h
      refine wc_vV (pc := 38)  C [.int a3, .int (gi s2 1 4)] [] (mX8_look q7) dX9_fair_38 mw_X8_look mv_X8_look kl_X9_274 so_ways rfl rfl (Nat.le_of_ble_eq_true rfl) ⟨by decide, by decide⟩ ?_
      refine ws_aload_n (pc := 41) C dX9_fair_41 rfl 0 rfl ?_
      refine ws_getr (pc := 42) C dX9_fair_42 fd_X9_21 sf_BS_1 ?_
      obtain ⟨r8, s9, q10, h⟩ := bd_ok h
      refine wc_iV (pc := 45)  C [] [] (mX8_dearestCost q10) dX9_fair_45 mw_X8_dearestCost mv_X8_dearestCost kl_X9_248 so_ways rfl rfl (Nat.le_of_ble_eq_true rfl) ⟨by decide, by decide⟩ ?_
      refine ws_iload_n (pc := 48) C dX9_fair_48 rfl 2 rfl ?_
      refine ws_icmp_ge (pc := 49) (tgt := 62) C dX9_fair_49 (by decide) (fun c11 => ?_) (fun c11 => ?_)
      · have h := ite_t h c11
        refine ws_iinc (j := 3) (pc := 62) C dX9_fair_62 rfl (cn_1 _) (by decide) rfl ?_
        refine ws_goto (pc := 65) (tgt := 15) C dX9_fair_65 (by decide) ?_
        refine ws_less [1, 2, 3, 0] rfl ?_
        exact ih _ _ _ _ h
      · have h := ite_f h c11
        refine ws_aload_n (pc := 52) C dX9_fair_52 rfl 0 rfl ?_
        refine ws_getr (pc := 53) C dX9_fair_53 fd_X9_21 sf_BS_1 ?_
        obtain ⟨r12, s13, q14, h⟩ := bd_ok h
        refine wc_iV (pc := 56)  C [] [] (mX8_dearestCost q14) dX9_fair_56 mw_X8_dearestCost mv_X8_dearestCost kl_X9_248 so_ways rfl rfl (Nat.le_of_ble_eq_true rfl) ⟨by decide, by decide⟩ ?_
        refine ws_istore_n (pc := 59) C dX9_fair_59 rfl (by decide) rfl ?_
        refine ws_iload_n (pc := 60) C dX9_fair_60 rfl 3 rfl ?_
        refine ws_istore_n (pc := 61) C dX9_fair_61 rfl (by decide) rfl ?_
        refine ws_iinc (j := 3) (pc := 62) C dX9_fair_62 rfl (cn_1 _) (by decide) rfl ?_
        refine ws_goto (pc := 65) (tgt := 15) C dX9_fair_65 (by decide) ?_
        refine ws_less [3, 1, 2, 0] rfl ?_
        exact ih _ _ _ _ h
set_option maxRecDepth 20000 in
set_option maxHeartbeats 4000000 in
theorem mX9_fair {Y : xY} {Z : xZ} {s : xM} {z : Int32 × xM} (h : fX9_fair s = some z) : xMi (GX Y) Z yX9_fair cX9_fair 4 5 .int [.ref (Y.1 0)] s z := by
  refine xMi_of (by decide) (Nat.le_of_ble_eq_true rfl) (fun B C R => ?_)
  have C : xC (GX Y) Z B "BetweenStops" cX9_fair 4 5 := C
  show xWS (GX Y) B 4 s [(0, .ref (Y.1 0))] 0 []
  unfold fX9_fair at h
  refine ws_aload_n (pc := 0) C dX9_fair_0 rfl 0 rfl ?_
  refine ws_getr (pc := 1) C dX9_fair_1 fd_X9_21 sf_BS_1 ?_
  obtain ⟨r1, s2, q3, h⟩ := bd_ok h
  refine wc_vV (pc := 4)  C [] [] (mX8_measure q3) dX9_fair_4 mw_X8_measure mv_X8_measure kl_X9_254 so_ways rfl rfl (Nat.le_of_ble_eq_true rfl) ⟨by decide, by decide⟩ ?_
  refine ws_iconst (pc := 7) C dX9_fair_7 ci_0 ?_
  refine ws_istore_n (pc := 8) C dX9_fair_8 rfl (by decide) rfl ?_
  refine ws_ldcw (pc := 9) C dX9_fair_9 kk_X9_257 ?_
  refine ws_istore_n (pc := 12) C dX9_fair_12 rfl (by decide) rfl ?_
  refine ws_iconst (pc := 13) C dX9_fair_13 ci_0 ?_
  refine ws_istore_n (pc := 14) C dX9_fair_14 rfl (by decide) rfl ?_
  refine ws_less [3, 2, 1, 0] rfl ?_
  refine pX9_fair_L15 C R (fun x4 s5 h => ?_) fu _ _ _ _ h
  · refine ws_iload_n (pc := 68) C dX9_fair_68 rfl 0 rfl ?_
    exact wr_i (pc := 69) C R dX9_fair_69 rfl h
set_option maxRecDepth 20000 in
set_option maxHeartbeats 4000000 in
theorem pX9_fewest_L29 {Y : xY} {Z : xZ} {B : xB} {z : Int32 × xM} (C : xC (GX Y) Z B "BetweenStops" cX9_fewest 5 5) (R : xRi (GX Y) B .int z) {k77 : Int32 → xM → Option (Int32 × xM)} {a1 : Int32}
    (hk77 : ∀ (a2 : Int32) (s : xM), k77 a2 s = some z → xWS (GX Y) B 5 s [(2, .int a2)] 77 []) : ∀ (n : Nat) (a2 : Int32) (a3 : Int32) (a4 : Int32) (s : xM), fX9_fewest_L29 k77 a1 n a2 a3 a4 s = some z → xWS (GX Y) B 5 s [(0, .ref (Y.1 0)), (1, .int a1), (2, .int a2), (3, .int a3), (4, .int a4)] 29 [] := by
  intro n
  induction n with
  | zero =>
    intro a2 a3 a4 s h
    rw [fX9_fewest_L29] at h
    cases h
  | succ n ih =>
    intro a2 a3 a4 s h
    rw [fX9_fewest_L29] at h
    refine ws_iload (pc := 29) C dX9_fewest_29 4 rfl ?_
    refine ws_aload_n (pc := 31) C dX9_fewest_31 rfl 0 rfl ?_
    refine ws_getr (pc := 32) C dX9_fewest_32 fd_X9_10 sf_BS_0 ?_
    obtain ⟨r1, s2, q3, h⟩ := bd_ok h
    refine wc_iV (pc := 35)  C [] [.int a4] (mX6_setCount q3) dX9_fewest_35 mw_X6_setCount mv_X6_setCount kl_X9_271 so_town rfl rfl (Nat.le_of_ble_eq_true rfl) ⟨by decide, by decide⟩ ?_
    refine ws_icmp_ge (pc := 38) (tgt := 77) C dX9_fewest_38 (by decide) (fun c4 => ?_) (fun c4 => ?_)
    · have h := ite_t h c4
      refine ws_less [2] rfl ?_
      exact hk77 _ _ h
    · have h := ite_f h c4
      refine ws_iload (pc := 41) C dX9_fewest_41 4 rfl ?_
      obtain ⟨r5, s6, q7, h⟩ := bd_ok h
      refine wc_iS (pc := 43)  C [.int a4] [] (mJ6_bitCount_0f7a4 q7) dX9_fewest_43 mw_J6_bitCount_0f7a4 ks_J6_bitCount_0f7a4 kl_X9_210 rfl rfl (Nat.le_of_ble_eq_true rfl) ⟨by decide, by decide⟩ ?_
      refine ws_iload_n (pc := 46) C dX9_fewest_46 rfl 3 rfl ?_
      refine ws_icmp_ge (pc := 47) (tgt := 71) C dX9_fewest_47 (by decide) (fun c8 => ?_) (fun c8 => ?_)
      · have h := ite_t h c8
        refine ws_iinc (j := 4) (pc := 71) C dX9_fewest_71 rfl (cn_1 _) (by decide) rfl ?_
        refine ws_goto (pc := 74) (tgt := 29) C dX9_fewest_74 (by decide) ?_
        refine ws_less [1, 2, 3, 4, 0] rfl ?_
        exact ih _ _ _ _ h
      · have h := ite_f h c8
        refine ws_aload_n (pc := 50) C dX9_fewest_50 rfl 0 rfl ?_
        refine ws_iload (pc := 51) C dX9_fewest_51 4 rfl ?_
        obtain ⟨r9, s10, q11, h⟩ := bd_ok h
        refine wc_lV (pc := 53)  C [.int a4] [] (mX9_totalOf q11) dX9_fewest_53 mw_X9_totalOf mv_X9_totalOf kl_X9_262 so_BS rfl rfl (Nat.le_of_ble_eq_true rfl) ⟨by decide, by decide⟩ ?_
        refine ws_iload_n (pc := 56) C dX9_fewest_56 rfl 1 rfl ?_
        refine ws_i2l (pc := 57) C dX9_fewest_57 ?_
        refine ws_lcmp (pc := 58) C dX9_fewest_58 ?_
        refine ws_if_gt (pc := 59) (tgt := 71) C dX9_fewest_59 (by decide) (fun c12 => ?_) (fun c12 => ?_)
        · have h := ite_t h c12
          refine ws_iinc (j := 4) (pc := 71) C dX9_fewest_71 rfl (cn_1 _) (by decide) rfl ?_
          refine ws_goto (pc := 74) (tgt := 29) C dX9_fewest_74 (by decide) ?_
          refine ws_less [1, 2, 3, 4, 0] rfl ?_
          exact ih _ _ _ _ h
        · have h := ite_f h c12
          refine ws_iload (pc := 62) C dX9_fewest_62 4 rfl ?_
          refine ws_istore_n (pc := 64) C dX9_fewest_64 rfl (by decide) rfl ?_
          refine ws_iload (pc := 65) C dX9_fewest_65 4 rfl ?_
          obtain ⟨r13, s14, q15, h⟩ := bd_ok h
          refine wc_iS (pc := 67)  C [.int a4] [] (mJ6_bitCount_0f7a4 q15) dX9_fewest_67 mw_J6_bitCount_0f7a4 ks_J6_bitCount_0f7a4 kl_X9_210 rfl rfl (Nat.le_of_ble_eq_true rfl) ⟨by decide, by decide⟩ ?_
          refine ws_istore_n (pc := 70) C dX9_fewest_70 rfl (by decide) rfl ?_
          refine ws_iinc (j := 4) (pc := 71) C dX9_fewest_71 rfl (cn_1 _) (by decide) rfl ?_
          refine ws_goto (pc := 74) (tgt := 29) C dX9_fewest_74 (by decide) ?_
          refine ws_less [3, 4, 2, 1, 0] rfl ?_
          exact ih _ _ _ _ h
set_option maxRecDepth 20000 in
set_option maxHeartbeats 4000000 in
theorem mX9_fewest {Y : xY} {Z : xZ} {a1 : Int32} {s : xM} {z : Int32 × xM} (h : fX9_fewest a1 s = some z) : xMi (GX Y) Z yX9_fewest cX9_fewest 5 5 .int [.ref (Y.1 0), .int a1] s z := by
  refine xMi_of (by decide) (Nat.le_of_ble_eq_true rfl) (fun B C R => ?_)
  have C : xC (GX Y) Z B "BetweenStops" cX9_fewest 5 5 := C
  show xWS (GX Y) B 5 s [(0, .ref (Y.1 0)), (1, .int a1)] 0 []
  unfold fX9_fewest at h
  refine ws_iload_n (pc := 0) C dX9_fewest_0 rfl 1 rfl ?_
  refine ws_iconst (pc := 1) C dX9_fewest_1 ci_0 ?_
  refine ws_ldcw (pc := 2) C dX9_fewest_2 kk_X9_278 ?_
  obtain ⟨r1, s2, q3, h⟩ := bd_ok h
  refine wc_iS (pc := 5)  C [.int a1, .int (0 : Int32), .int (999999999 : Int32)] [] (mX9_isWithin q3) dX9_fewest_5 mw_X9_isWithin ks_X9_isWithin kl_X9_111 rfl rfl (Nat.le_of_ble_eq_true rfl) ⟨by decide, by decide⟩ ?_
  refine ws_if_ne (pc := 8) (tgt := 14) C dX9_fewest_8 (by decide) (fun c4 => ?_) (fun c4 => ?_)
  · have h := ite_f h c4
    refine ws_aload_n (pc := 14) C dX9_fewest_14 rfl 0 rfl ?_
    refine ws_getr (pc := 15) C dX9_fewest_15 fd_X9_21 sf_BS_1 ?_
    obtain ⟨r5, s6, q7, h⟩ := bd_ok h
    refine wc_vV (pc := 18)  C [] [] (mX8_measure q7) dX9_fewest_18 mw_X8_measure mv_X8_measure kl_X9_254 so_ways rfl rfl (Nat.le_of_ble_eq_true rfl) ⟨by decide, by decide⟩ ?_
    refine ws_iconst (pc := 21) C dX9_fewest_21 ci_m1 ?_
    refine ws_istore_n (pc := 22) C dX9_fewest_22 rfl (by decide) rfl ?_
    refine ws_bipush (pc := 23) C dX9_fewest_23 cb_9 ?_
    refine ws_istore_n (pc := 25) C dX9_fewest_25 rfl (by decide) rfl ?_
    refine ws_iconst (pc := 26) C dX9_fewest_26 ci_0 ?_
    refine ws_istore (pc := 27) C dX9_fewest_27 (by decide) rfl ?_
    refine ws_less [3, 4, 2, 1, 0] rfl ?_
    refine pX9_fewest_L29 C R (fun x8 s9 h => ?_) fu _ _ _ _ h
    · refine ws_iload_n (pc := 77) C dX9_fewest_77 rfl 0 rfl ?_
      exact wr_i (pc := 78) C R dX9_fewest_78 rfl h
  · have h := ite_t h c4
    refine ws_bipush (pc := 11) C dX9_fewest_11 cb_m2 ?_
    exact wr_i (pc := 13) C R dX9_fewest_13 rfl h
set_option maxRecDepth 20000 in
set_option maxHeartbeats 4000000 in
theorem mX9_isSheet {Y : xY} {Z : xZ} {a0 : Int32} {s : xM} {z : Int32 × xM} (h : fX9_isSheet a0 s = some z) : xMi (GX Y) Z yX9_isSheet cX9_isSheet 1 2 .boolean [.int a0] s z := by
  refine xMi_of (by decide) (Nat.le_of_ble_eq_true rfl) (fun B C R => ?_)
  have C : xC (GX Y) Z B "BetweenStops" cX9_isSheet 1 2 := C
  show xWS (GX Y) B 1 s [(0, .int a0)] 0 []
  unfold fX9_isSheet at h
  refine ws_iload_n (pc := 0) C dX9_isSheet_0 rfl 0 rfl ?_
  refine ws_iconst (pc := 1) C dX9_isSheet_1 ci_0 ?_
  refine ws_iconst (pc := 2) C dX9_isSheet_2 ci_3 ?_
  obtain ⟨r1, s2, q3, h⟩ := bd_ok h
  refine wc_iS (pc := 3)  C [.int a0, .int (0 : Int32), .int (3 : Int32)] [] (mX9_isWithin q3) dX9_isSheet_3 mw_X9_isWithin ks_X9_isWithin kl_X9_111 rfl rfl (Nat.le_of_ble_eq_true rfl) ⟨by decide, by decide⟩ ?_
  obtain ⟨g4, h⟩ := gd_ok h
  exact wr_i (pc := 6) C R dX9_isSheet_6 (isZ_nar g4) h
set_option maxRecDepth 20000 in
set_option maxHeartbeats 4000000 in
theorem pX9_judge_L49 {Y : xY} {Z : xZ} {B : xB} {z : Int32 × xM} (C : xC (GX Y) Z B "BetweenStops" cX9_judge 5 5) (R : xRi (GX Y) B .int z) {k76 : xM → Option (Int32 × xM)} {k98 : Int32 → xM → Option (Int32 × xM)} {a2 : Nat}
    (hk76 : ∀  (s : xM), k76 s = some z → xWS (GX Y) B 5 s [] 76 [])
    (hk98 : ∀ (a3 : Int32) (s : xM), k98 a3 s = some z → xWS (GX Y) B 5 s [(0, .ref (Y.1 0)), (3, .int a3)] 98 []) (ha2 : a2 < 4) : ∀ (n : Nat) (a3 : Int32) (a4 : Int32) (s : xM), fX9_judge_L49 k76 k98 a2 n a3 a4 s = some z → xWS (GX Y) B 5 s [(0, .ref (Y.1 0)), (2, .ref (Y.1 (121 + 2 * a2))), (3, .int a3), (4, .int a4)] 49 [] := by
  intro n
  induction n with
  | zero =>
    intro a3 a4 s h
    rw [fX9_judge_L49] at h
    cases h
  | succ n ih =>
    intro a3 a4 s h
    rw [fX9_judge_L49] at h
    refine ws_iload (pc := 49) C dX9_judge_49 3 rfl ?_
    refine ws_aload_n (pc := 51) C dX9_judge_51 rfl 0 rfl ?_
    refine ws_getr (pc := 52) C dX9_judge_52 fd_X9_10 sf_BS_0 ?_
    refine ws_geti (pc := 55) C dX9_judge_55 fd_X9_151 sf_town_7 ?_
    refine ws_icmp_ge (pc := 58) (tgt := 98) C dX9_judge_58 (by decide) (fun c1 => ?_) (fun c1 => ?_)
    · have h := ite_t h c1
      refine ws_less [0, 2] rfl ?_
      exact hk98 _ _ h
    · have h := ite_f h c1
      refine ws_aload_n (pc := 61) C dX9_judge_61 rfl 1 rfl ?_
      refine ws_getr (pc := 62) C dX9_judge_62 fd_X9_287 (sf_sheet_0 ha2) ?_
      refine ws_iload (pc := 65) C dX9_judge_65 3 rfl ?_
      obtain ⟨g2, h⟩ := gd_ok h
      refine ws_ialdK (pc := 67) C dX9_judge_67 (sr_row ha2) g2 rfl ?_
      refine ws_iconst (pc := 68) C dX9_judge_68 ci_0 ?_
      refine ws_iconst (pc := 69) C dX9_judge_69 ci_1 ?_
      obtain ⟨r3, s4, q5, h⟩ := bd_ok h
      refine wc_iS (pc := 70)  C [.int (gi s (122 + 2 * a2) a4.toNatClampNeg), .int (0 : Int32), .int (1 : Int32)] [] (mX9_isWithin q5) dX9_judge_70 mw_X9_isWithin ks_X9_isWithin kl_X9_111 rfl rfl (Nat.le_of_ble_eq_true rfl) ⟨by decide, by decide⟩ ?_
      refine ws_if_ne (pc := 73) (tgt := 79) C dX9_judge_73 (by decide) (fun c6 => ?_) (fun c6 => ?_)
      · have h := ite_f h c6
        refine ws_iload_n (pc := 79) C dX9_judge_79 rfl 2 rfl ?_
        refine ws_aload_n (pc := 80) C dX9_judge_80 rfl 1 rfl ?_
        refine ws_getr (pc := 81) C dX9_judge_81 fd_X9_287 (sf_sheet_0 ha2) ?_
        refine ws_iload (pc := 84) C dX9_judge_84 3 rfl ?_
        obtain ⟨g7, h⟩ := gd_ok h
        refine ws_ialdK (pc := 86) C dX9_judge_86 (sr_row ha2) g7 rfl ?_
        refine ws_iload (pc := 87) C dX9_judge_87 3 rfl ?_
        refine ws_ishl (pc := 89) C dX9_judge_89 ?_
        refine ws_ior (pc := 90) C dX9_judge_90 ?_
        obtain ⟨v8, e9, h⟩ := lz_ok h
        refine ws_topi C e9 ?_
        refine ws_istore_n (pc := 91) C dX9_judge_91 rfl (by decide) rfl ?_
        refine ws_iinc (j := 3) (pc := 92) C dX9_judge_92 rfl (cn_1 _) (by decide) rfl ?_
        refine ws_goto (pc := 95) (tgt := 49) C dX9_judge_95 (by decide) ?_
        refine ws_less [2, 3, 1, 0] rfl ?_
        exact ih _ _ _ h
      · have h := ite_t h c6
        refine ws_less [] rfl ?_
        exact hk76 _ h
set_option maxRecDepth 20000 in
set_option maxHeartbeats 4000000 in
theorem pX9_judge_L123 {Y : xY} {Z : xZ} {B : xB} {z : Int32 × xM} (C : xC (GX Y) Z B "BetweenStops" cX9_judge 5 5) (R : xRi (GX Y) B .int z) {k171 : Int32 → xM → Option (Int32 × xM)} {k180 : xM → Option (Int32 × xM)}
    (hk171 : ∀ (a4 : Int32) (s : xM), k171 a4 s = some z → xWS (GX Y) B 5 s [(4, .int a4)] 171 [])
    (hk180 : ∀  (s : xM), k180 s = some z → xWS (GX Y) B 5 s [] 180 []) : ∀ (n : Nat) (a4 : Int32) (s : xM), fX9_judge_L123 k171 k180 n a4 s = some z → xWS (GX Y) B 5 s [(0, .ref (Y.1 0)), (4, .int a4)] 123 [] := by
  intro n
  induction n with
  | zero =>
    intro a4 s h
    rw [fX9_judge_L123] at h
    cases h
  | succ n ih =>
    intro a4 s h
    rw [fX9_judge_L123] at h
    refine ws_iload (pc := 123) C dX9_judge_123 1 rfl ?_
    refine ws_aload_n (pc := 125) C dX9_judge_125 rfl 0 rfl ?_
    refine ws_getr (pc := 126) C dX9_judge_126 fd_X9_10 sf_BS_0 ?_
    refine ws_geti (pc := 129) C dX9_judge_129 fd_X9_197 sf_town_9 ?_
    refine ws_icmp_ge (pc := 132) (tgt := 180) C dX9_judge_132 (by decide) (fun c1 => ?_) (fun c1 => ?_)
    · have h := ite_t h c1
      refine ws_less [] rfl ?_
      exact hk180 _ h
    · have h := ite_f h c1
      refine ws_aload_n (pc := 135) C dX9_judge_135 rfl 0 rfl ?_
      refine ws_getr (pc := 136) C dX9_judge_136 fd_X9_21 sf_BS_1 ?_
      refine ws_getr (pc := 139) C dX9_judge_139 fd_X9_230 sf_ways_14 ?_
      refine ws_iload (pc := 142) C dX9_judge_142 1 rfl ?_
      obtain ⟨g2, h⟩ := gd_ok h
      refine ws_ialdK (pc := 144) C dX9_judge_144 sr_w_walked g2 rfl ?_
      refine ws_aload_n (pc := 145) C dX9_judge_145 rfl 0 rfl ?_
      refine ws_getr (pc := 146) C dX9_judge_146 fd_X9_10 sf_BS_0 ?_
      refine ws_getr (pc := 149) C dX9_judge_149 fd_X9_131 sf_town_3 ?_
      refine ws_aload_n (pc := 152) C dX9_judge_152 rfl 0 rfl ?_
      refine ws_getr (pc := 153) C dX9_judge_153 fd_X9_10 sf_BS_0 ?_
      refine ws_getr (pc := 156) C dX9_judge_156 fd_X9_200 sf_town_8 ?_
      refine ws_iload (pc := 159) C dX9_judge_159 1 rfl ?_
      obtain ⟨g3, h⟩ := gd_ok h
      refine ws_aaldK (q := (19 + a4.toNatClampNeg)) (pc := 161) C dX9_judge_161 (by decide) sq_trips g3 rfl rfl ?_
      refine ws_geti (pc := 162) C dX9_judge_162 fd_X9_290 (sf_trip_3 (inb_lt g3)) ?_
      obtain ⟨g4, h⟩ := gd_ok h
      refine ws_aaldK (q := (6 + (gi s (19 + a4.toNatClampNeg) 3).toNatClampNeg)) (pc := 165) C dX9_judge_165 (by decide) sq_sorts g4 rfl rfl ?_
      refine ws_iconst (pc := 166) C dX9_judge_166 ci_5 ?_
      refine ws_ialdK (pc := 167) C dX9_judge_167 (sr_sortrow (inb_lt g4)) (by decide) ck_5 ?_
      refine ws_icmp_le (pc := 168) (tgt := 174) C dX9_judge_168 (by decide) (fun c5 => ?_) (fun c5 => ?_)
      · have h := ite_t h c5
        refine ws_iinc (j := 1) (pc := 174) C dX9_judge_174 rfl (cn_1 _) (by decide) rfl ?_
        refine ws_goto (pc := 177) (tgt := 123) C dX9_judge_177 (by decide) ?_
        refine ws_less [1, 0] rfl ?_
        exact ih _ _ h
      · have h := ite_f h c5
        refine ws_less [1] rfl ?_
        exact hk171 _ _ h
set_option maxRecDepth 20000 in
set_option maxHeartbeats 4000000 in
theorem mX9_judge {Y : xY} {Z : xZ} {a1 : Int32} {s : xM} {z : Int32 × xM} (h : fX9_judge a1 s = some z) : xMi (GX Y) Z yX9_judge cX9_judge 5 5 .int [.ref (Y.1 0), .int a1] s z := by
  refine xMi_of (by decide) (Nat.le_of_ble_eq_true rfl) (fun B C R => ?_)
  have C : xC (GX Y) Z B "BetweenStops" cX9_judge 5 5 := C
  show xWS (GX Y) B 5 s [(0, .ref (Y.1 0)), (1, .int a1)] 0 []
  unfold fX9_judge at h
  refine ws_iload_n (pc := 0) C dX9_judge_0 rfl 1 rfl ?_
  obtain ⟨r1, s2, q3, h⟩ := bd_ok h
  refine wc_iS (pc := 1)  C [.int a1] [] (mX9_isSheet q3) dX9_judge_1 mw_X9_isSheet ks_X9_isSheet kl_X9_279 rfl rfl (Nat.le_of_ble_eq_true rfl) ⟨by decide, by decide⟩ ?_
  refine ws_if_ne (pc := 4) (tgt := 10) C dX9_judge_4 (by decide) (fun c4 => ?_) (fun c4 => ?_)
  · have h := ite_f h c4
    refine ws_aload_n (pc := 10) C dX9_judge_10 rfl 0 rfl ?_
    refine ws_getr (pc := 11) C dX9_judge_11 fd_X9_63 sf_BS_8 ?_
    refine ws_iload_n (pc := 14) C dX9_judge_14 rfl 1 rfl ?_
    obtain ⟨g5, h⟩ := gd_ok h
    refine ws_aaldK (q := (121 + 2 * a1.toNatClampNeg)) (pc := 15) C dX9_judge_15 (by decide) sq_sheets g5 rfl rfl ?_
    refine ws_astore_n (pc := 16) C dX9_judge_16 rfl (by decide) rfl ?_
    refine ws_aload_n (pc := 17) C dX9_judge_17 rfl 0 rfl ?_
    obtain ⟨r6, s7, q8, h⟩ := bd_ok h
    refine wc_iV (pc := 18)  C [] [] (mX2_isMissing (inb_lt g5) q8) dX9_judge_18 mw_X2_isMissing mv_X2_isMissing kl_X9_282 (so_sheet (inb_lt g5)) rfl rfl (Nat.le_of_ble_eq_true rfl) ⟨by decide, by decide⟩ ?_
    refine ws_if_eq (pc := 21) (tgt := 27) C dX9_judge_21 (by decide) (fun c9 => ?_) (fun c9 => ?_)
    · have h := ite_t h c9
      refine ws_aload_n (pc := 27) C dX9_judge_27 rfl 0 rfl ?_
      refine ws_geti (pc := 28) C dX9_judge_28 fd_X9_286 (sf_sheet_2 (inb_lt g5)) ?_
      refine ws_aload_n (pc := 31) C dX9_judge_31 rfl 1 rfl ?_
      refine ws_getr (pc := 32) C dX9_judge_32 fd_X9_10 sf_BS_0 ?_
      refine ws_geti (pc := 35) C dX9_judge_35 fd_X9_151 sf_town_7 ?_
      refine ws_icmp_eq (pc := 38) (tgt := 44) C dX9_judge_38 (by decide) (fun c10 => ?_) (fun c10 => ?_)
      · have h := ite_t h c10
        refine ws_iconst (pc := 44) C dX9_judge_44 ci_0 ?_
        refine ws_istore_n (pc := 45) C dX9_judge_45 rfl (by decide) rfl ?_
        refine ws_iconst (pc := 46) C dX9_judge_46 ci_0 ?_
        refine ws_istore (pc := 47) C dX9_judge_47 (by decide) rfl ?_
        refine ws_less [3, 2, 1, 0] rfl ?_
        refine pX9_judge_L49 C R (fun s11 h => ?_) (fun x12 s13 h => ?_) (inb_lt g5) fu _ _ _ h
        · refine ws_bipush (pc := 76) C dX9_judge_76 cb_m2 ?_
          exact wr_i (pc := 78) C R dX9_judge_78 rfl h
        · refine ws_aload_n (pc := 98) C dX9_judge_98 rfl 0 rfl ?_
          refine ws_getr (pc := 99) C dX9_judge_99 fd_X9_21 sf_BS_1 ?_
          obtain ⟨r14, s15, q16, h⟩ := bd_ok h
          refine wc_vV (pc := 102)  C [] [] (mX8_measure q16) dX9_judge_102 mw_X8_measure mv_X8_measure kl_X9_254 so_ways rfl rfl (Nat.le_of_ble_eq_true rfl) ⟨by decide, by decide⟩ ?_
          refine ws_aload_n (pc := 105) C dX9_judge_105 rfl 0 rfl ?_
          refine ws_getr (pc := 106) C dX9_judge_106 fd_X9_21 sf_BS_1 ?_
          refine ws_iload_n (pc := 109) C dX9_judge_109 rfl 1 rfl ?_
          refine ws_aload_n (pc := 110) C dX9_judge_110 rfl 0 rfl ?_
          refine ws_getr (pc := 111) C dX9_judge_111 fd_X9_10 sf_BS_0 ?_
          refine ws_geti (pc := 114) C dX9_judge_114 fd_X9_135 sf_town_4 ?_
          obtain ⟨r17, s18, q19, h⟩ := bd_ok h
          refine wc_vV (pc := 117)  C [.int x12, .int (gi s15 1 4)] [] (mX8_look q19) dX9_judge_117 mw_X8_look mv_X8_look kl_X9_274 so_ways rfl rfl (Nat.le_of_ble_eq_true rfl) ⟨by decide, by decide⟩ ?_
          refine ws_iconst (pc := 120) C dX9_judge_120 ci_0 ?_
          refine ws_istore (pc := 121) C dX9_judge_121 (by decide) rfl ?_
          refine ws_less [1, 0] rfl ?_
          refine pX9_judge_L123 C R (fun x20 s21 h => ?_) (fun s22 h => ?_) fu _ _ h
          · refine ws_iload (pc := 171) C dX9_judge_171 0 rfl ?_
            exact wr_i (pc := 173) C R dX9_judge_173 rfl h
          · refine ws_iconst (pc := 180) C dX9_judge_180 ci_m1 ?_
            exact wr_i (pc := 181) C R dX9_judge_181 rfl h
      · have h := ite_f h c10
        refine ws_bipush (pc := 41) C dX9_judge_41 cb_m2 ?_
        exact wr_i (pc := 43) C R dX9_judge_43 rfl h
    · have h := ite_f h c9
      refine ws_bipush (pc := 24) C dX9_judge_24 cb_m11 ?_
      exact wr_i (pc := 26) C R dX9_judge_26 rfl h
  · have h := ite_t h c4
    refine ws_bipush (pc := 7) C dX9_judge_7 cb_m2 ?_
    exact wr_i (pc := 9) C R dX9_judge_9 rfl h
set_option maxRecDepth 20000 in
set_option maxHeartbeats 4000000 in
theorem pX9_takePatterns_L13 {Y : xY} {Z : xZ} {B : xB} {z : Int32 × xM} (C : xC (GX Y) Z B "BetweenStops" cX9_takePatterns 8 4) (R : xRi (GX Y) B .int z) {k76 : Int32 → xM → Option (Int32 × xM)}
    (hk76 : ∀ (a3 : Int32) (s : xM), k76 a3 s = some z → xWS (GX Y) B 8 s [(3, .int a3)] 76 []) : ∀ (n : Nat) (a3 : Int32) (a4 : Int32) (a5 : Int32) (a6 : Int32) (s : xM), fX9_takePatterns_L13 k76 n a3 a4 a5 a6 s = some z → xWS (GX Y) B 8 s [(0, .ref (Y.1 0)), (3, .int a3), (4, .int a4), (5, .int a5), (6, .int a6)] 13 [] := by
  intro n
  induction n with
  | zero =>
    intro a3 a4 a5 a6 s h
    rw [fX9_takePatterns_L13] at h
    cases h
  | succ n ih =>
    intro a3 a4 a5 a6 s h
    rw [fX9_takePatterns_L13] at h
    refine ws_iload (pc := 13) C dX9_takePatterns_13 4 rfl ?_
    refine ws_if_lt (pc := 15) (tgt := 76) C dX9_takePatterns_15 (by decide) (fun c1 => ?_) (fun c1 => ?_)
    · have h := ite_t h c1
      refine ws_less [1] rfl ?_
      exact hk76 _ _ h
    · have h := ite_f h c1
      refine ws_iload (pc := 18) C dX9_takePatterns_18 3 rfl ?_
      refine ws_iconst (pc := 20) C dX9_takePatterns_20 ci_3 ?_
      refine ws_irem (pc := 21) C dX9_takePatterns_21 (by decide) ?_
      obtain ⟨v2, e3, h⟩ := lz_ok h
      refine ws_topi C e3 ?_
      refine ws_istore (pc := 22) C dX9_takePatterns_22 (by decide) rfl ?_
      refine ws_iload (pc := 24) C dX9_takePatterns_24 4 rfl ?_
      refine ws_iconst (pc := 26) C dX9_takePatterns_26 ci_3 ?_
      refine ws_idiv (pc := 27) C dX9_takePatterns_27 (by decide) ?_
      obtain ⟨v4, e5, h⟩ := lz_ok h
      refine ws_topi C e5 ?_
      refine ws_istore (pc := 28) C dX9_takePatterns_28 (by decide) rfl ?_
      refine ws_aload_n (pc := 30) C dX9_takePatterns_30 rfl 2 rfl ?_
      refine ws_getr (pc := 31) C dX9_takePatterns_31 fd_X9_21 sf_BS_1 ?_
      refine ws_getr (pc := 34) C dX9_takePatterns_34 fd_X9_377 sf_ways_1 ?_
      refine ws_iload (pc := 37) C dX9_takePatterns_37 5 rfl ?_
      refine ws_aload_n (pc := 39) C dX9_takePatterns_39 rfl 2 rfl ?_
      refine ws_getr (pc := 40) C dX9_takePatterns_40 fd_X9_10 sf_BS_0 ?_
      refine ws_getr (pc := 43) C dX9_takePatterns_43 fd_X9_154 sf_town_6 ?_
      refine ws_iload (pc := 46) C dX9_takePatterns_46 5 rfl ?_
      obtain ⟨g6, h⟩ := gd_ok h
      refine ws_aaldK (q := (11 + a6.toNatClampNeg)) (pc := 48) C dX9_takePatterns_48 (by decide) sq_stops g6 rfl rfl ?_
      refine ws_iload (pc := 49) C dX9_takePatterns_49 1 rfl ?_
      obtain ⟨r7, s8, q9, h⟩ := bd_ok h
      refine wc_iV (pc := 51)  C [.int v2] [.int a6, .ref (Y.1 28)] (mX3_carsBy (inb_lt g6) q9) dX9_takePatterns_51 mw_X3_carsBy mv_X3_carsBy kl_X9_191 (so_stop (inb_lt g6)) rfl rfl (Nat.le_of_ble_eq_true rfl) ⟨by decide, by decide⟩ ?_
      obtain ⟨g10, h⟩ := gd_ok h
      obtain ⟨s11, e12, h⟩ := lz_ok h
      refine ws_iastK (pc := 54) C dX9_takePatterns_54 sr_w_cars g10 rfl e12 ?_
      refine ws_iload_n (pc := 55) C dX9_takePatterns_55 rfl 3 rfl ?_
      refine ws_iload (pc := 56) C dX9_takePatterns_56 1 rfl ?_
      refine ws_iload (pc := 58) C dX9_takePatterns_58 4 rfl ?_
      refine ws_imul (pc := 60) C dX9_takePatterns_60 ?_
      refine ws_iadd (pc := 61) C dX9_takePatterns_61 ?_
      obtain ⟨v13, e14, h⟩ := lz_ok h
      refine ws_topi C e14 ?_
      refine ws_istore_n (pc := 62) C dX9_takePatterns_62 rfl (by decide) rfl ?_
      refine ws_iload (pc := 63) C dX9_takePatterns_63 4 rfl ?_
      refine ws_bipush (pc := 65) C dX9_takePatterns_65 cb_10 ?_
      refine ws_imul (pc := 67) C dX9_takePatterns_67 ?_
      obtain ⟨v15, e16, h⟩ := lz_ok h
      refine ws_topi C e16 ?_
      refine ws_istore (pc := 68) C dX9_takePatterns_68 (by decide) rfl ?_
      refine ws_iinc (j := 5) (pc := 70) C dX9_takePatterns_70 rfl (cn_m1 _) (by decide) rfl ?_
      refine ws_goto (pc := 73) (tgt := 13) C dX9_takePatterns_73 (by decide) ?_
      refine ws_less [5, 2, 1, 3, 0] rfl ?_
      exact ih _ _ _ _ _ h
set_option maxRecDepth 20000 in
set_option maxHeartbeats 4000000 in
theorem mX9_takePatterns {Y : xY} {Z : xZ} {a1 : Int32} {a2 : Int32} {s : xM} {z : Int32 × xM} (h : fX9_takePatterns a1 a2 s = some z) : xMi (GX Y) Z yX9_takePatterns cX9_takePatterns 8 4 .int [.ref (Y.1 0), .int a1, .int a2] s z := by
  refine xMi_of (by decide) (Nat.le_of_ble_eq_true rfl) (fun B C R => ?_)
  have C : xC (GX Y) Z B "BetweenStops" cX9_takePatterns 8 4 := C
  show xWS (GX Y) B 8 s [(0, .ref (Y.1 0)), (1, .int a1), (2, .int a2)] 0 []
  unfold fX9_takePatterns at h
  refine ws_iconst (pc := 0) C dX9_takePatterns_0 ci_0 ?_
  refine ws_istore_n (pc := 1) C dX9_takePatterns_1 rfl (by decide) rfl ?_
  refine ws_iconst (pc := 2) C dX9_takePatterns_2 ci_1 ?_
  refine ws_istore (pc := 3) C dX9_takePatterns_3 (by decide) rfl ?_
  refine ws_iload_n (pc := 5) C dX9_takePatterns_5 rfl 4 rfl ?_
  refine ws_istore (pc := 6) C dX9_takePatterns_6 (by decide) rfl ?_
  refine ws_iload_n (pc := 8) C dX9_takePatterns_8 rfl 4 rfl ?_
  refine ws_iconst (pc := 9) C dX9_takePatterns_9 ci_1 ?_
  refine ws_isub (pc := 10) C dX9_takePatterns_10 ?_
  obtain ⟨v1, e2, h⟩ := lz_ok h
  refine ws_topi C e2 ?_
  refine ws_istore (pc := 11) C dX9_takePatterns_11 (by decide) rfl ?_
  refine ws_less [4, 3, 2, 1, 0] rfl ?_
  refine pX9_takePatterns_L13 C R (fun x3 s4 h => ?_) fu _ _ _ _ _ h
  · refine ws_iload_n (pc := 76) C dX9_takePatterns_76 rfl 0 rfl ?_
    exact wr_i (pc := 77) C R dX9_takePatterns_77 rfl h
set_option maxRecDepth 20000 in
set_option maxHeartbeats 4000000 in
theorem pX9_patterns_L37 {Y : xY} {Z : xZ} {B : xB} {z : Int64 × xM} (C : xC (GX Y) Z B "BetweenStops" cX9_patterns 12 5) (R : xRl (GX Y) B z) {k53 : Int32 → xM → Option (Int64 × xM)} {a1 : Int32} {a2 : Int32}
    (hk53 : ∀ (a3 : Int32) (s : xM), k53 a3 s = some z → xWS (GX Y) B 12 s [(0, .ref (Y.1 0)), (1, .int a1), (2, .int a2), (3, .int a3)] 53 []) : ∀ (n : Nat) (a3 : Int32) (a4 : Int32) (s : xM), fX9_patterns_L37 k53 a1 a2 n a3 a4 s = some z → xWS (GX Y) B 12 s [(0, .ref (Y.1 0)), (1, .int a1), (2, .int a2), (3, .int a3), (4, .int a4)] 37 [] := by
  intro n
  induction n with
  | zero =>
    intro a3 a4 s h
    rw [fX9_patterns_L37] at h
    cases h
  | succ n ih =>
    intro a3 a4 s h
    rw [fX9_patterns_L37] at h
    refine ws_iload (pc := 37) C dX9_patterns_37 4 rfl ?_
    refine ws_iload_n (pc := 39) C dX9_patterns_39 rfl 2 rfl ?_
    refine ws_icmp_ge (pc := 40) (tgt := 53) C dX9_patterns_40 (by decide) (fun c1 => ?_) (fun c1 => ?_)
    · have h := ite_t h c1
      refine ws_less [0, 1, 2, 3] rfl ?_
      exact hk53 _ _ h
    · have h := ite_f h c1
      refine ws_iload_n (pc := 43) C dX9_patterns_43 rfl 3 rfl ?_
      refine ws_iconst (pc := 44) C dX9_patterns_44 ci_3 ?_
      refine ws_imul (pc := 45) C dX9_patterns_45 ?_
      obtain ⟨v2, e3, h⟩ := lz_ok h
      refine ws_topi C e3 ?_
      refine ws_istore_n (pc := 46) C dX9_patterns_46 rfl (by decide) rfl ?_
      refine ws_iinc (j := 4) (pc := 47) C dX9_patterns_47 rfl (cn_1 _) (by decide) rfl ?_
      refine ws_goto (pc := 50) (tgt := 37) C dX9_patterns_50 (by decide) ?_
      refine ws_less [2, 3, 4, 1, 0] rfl ?_
      exact ih _ _ _ h
set_option maxRecDepth 20000 in
set_option maxHeartbeats 4000000 in
theorem pX9_patterns_J109 {Y : xY} {Z : xZ} {B : xB} {z : Int64 × xM} (C : xC (GX Y) Z B "BetweenStops" cX9_patterns 12 5) (R : xRl (GX Y) B z) {k124 : Int64 → Int64 → xM → Option (Int64 × xM)} {b : Int64 → Int64 → Int32 → xM → Option (Int64 × xM)} {a1 : Int32} {a2 : Int32} {a3 : Int32} {a8 : Int32} {a9 : Int32} {a10 : Int64}
    (hk124 : ∀ (a4 : Int64) (a6 : Int64) (s : xM), k124 a4 a6 s = some z → xWS (GX Y) B 12 s [(1, .int a1), (4, .long a4), (6, .long a6)] 124 [])
    (hb : ∀ (a4 : Int64) (a6 : Int64) (a8 : Int32) (s : xM), b a4 a6 a8 s = some z → xWS (GX Y) B 12 s [(0, .ref (Y.1 0)), (1, .int a1), (2, .int a2), (3, .int a3), (4, .long a4), (6, .long a6), (8, .int a8)] 64 []) {s : xM} (h : fX9_patterns_J109 k124 b a1 a2 a3 a8 a9 a10 s = some z) : xWS (GX Y) B 12 s [(0, .ref (Y.1 0)), (1, .int a1), (2, .int a2), (3, .int a3), (8, .int a8), (9, .int a9), (10, .long a10)] 109 [] := by
  unfold fX9_patterns_J109 at h
  refine ws_lload (pc := 109) C dX9_patterns_109 6 rfl ?_
  refine ws_lstore (pc := 111) C dX9_patterns_111 (by decide) rfl ?_
  refine ws_iload (pc := 113) C dX9_patterns_113 6 rfl ?_
  refine ws_i2l (pc := 115) C dX9_patterns_115 ?_
  obtain ⟨v1, e2, h⟩ := lz_ok h
  refine ws_topl C e2 ?_
  refine ws_lstore (pc := 116) C dX9_patterns_116 (by decide) rfl ?_
  refine ws_iinc (j := 6) (pc := 118) C dX9_patterns_118 rfl (cn_1 _) (by decide) rfl ?_
  refine ws_goto (pc := 121) (tgt := 64) C dX9_patterns_121 (by decide) ?_
  refine ws_less [3, 4, 5, 6, 1, 2, 0] rfl ?_
  exact hb _ _ _ _ h
set_option maxRecDepth 20000 in
set_option maxHeartbeats 4000000 in
theorem pX9_patterns_L64 {Y : xY} {Z : xZ} {B : xB} {z : Int64 × xM} (C : xC (GX Y) Z B "BetweenStops" cX9_patterns 12 5) (R : xRl (GX Y) B z) {k124 : Int64 → Int64 → xM → Option (Int64 × xM)} {a1 : Int32} {a2 : Int32} {a3 : Int32}
    (hk124 : ∀ (a4 : Int64) (a6 : Int64) (s : xM), k124 a4 a6 s = some z → xWS (GX Y) B 12 s [(1, .int a1), (4, .long a4), (6, .long a6)] 124 []) : ∀ (n : Nat) (a4 : Int64) (a6 : Int64) (a8 : Int32) (s : xM), fX9_patterns_L64 k124 a1 a2 a3 n a4 a6 a8 s = some z → xWS (GX Y) B 12 s [(0, .ref (Y.1 0)), (1, .int a1), (2, .int a2), (3, .int a3), (4, .long a4), (6, .long a6), (8, .int a8)] 64 [] := by
  intro n
  induction n with
  | zero =>
    intro a4 a6 a8 s h
    rw [fX9_patterns_L64] at h
    cases h
  | succ n ih =>
    intro a4 a6 a8 s h
    rw [fX9_patterns_L64] at h
    refine ws_iload (pc := 64) C dX9_patterns_64 6 rfl ?_
    refine ws_iload_n (pc := 66) C dX9_patterns_66 rfl 3 rfl ?_
    refine ws_icmp_ge (pc := 67) (tgt := 124) C dX9_patterns_67 (by decide) (fun c1 => ?_) (fun c1 => ?_)
    · have h := ite_t h c1
      refine ws_less [1, 4, 5] rfl ?_
      exact hk124 _ _ _ h
    · have h := ite_f h c1
      refine ws_aload_n (pc := 70) C dX9_patterns_70 rfl 0 rfl ?_
      refine ws_iload_n (pc := 71) C dX9_patterns_71 rfl 2 rfl ?_
      refine ws_iload (pc := 72) C dX9_patterns_72 6 rfl ?_
      obtain ⟨r2, s3, q4, h⟩ := bd_ok h
      refine wc_iV (pc := 74)  C [.int a2, .int a8] [] (mX9_takePatterns q4) dX9_patterns_74 mw_X9_takePatterns mv_X9_takePatterns kl_X9_298 so_BS rfl rfl (Nat.le_of_ble_eq_true rfl) ⟨by decide, by decide⟩ ?_
      refine ws_istore (pc := 77) C dX9_patterns_77 (by decide) rfl ?_
      refine ws_aload_n (pc := 79) C dX9_patterns_79 rfl 1 rfl ?_
      refine ws_aload_n (pc := 80) C dX9_patterns_80 rfl 1 rfl ?_
      refine ws_getr (pc := 81) C dX9_patterns_81 fd_X9_10 sf_BS_0 ?_
      obtain ⟨r5, s6, q7, h⟩ := bd_ok h
      refine wc_iV (pc := 84)  C [] [.ref (Y.1 0)] (mX6_openSet q7) dX9_patterns_84 mw_X6_openSet mv_X6_openSet kl_X9_207 so_town rfl rfl (Nat.le_of_ble_eq_true rfl) ⟨by decide, by decide⟩ ?_
      obtain ⟨r8, s9, q10, h⟩ := bd_ok h
      refine wc_lV (pc := 87)  C [.int r5] [] (mX9_totalOf q10) dX9_patterns_87 mw_X9_totalOf mv_X9_totalOf kl_X9_262 so_BS rfl rfl (Nat.le_of_ble_eq_true rfl) ⟨by decide, by decide⟩ ?_
      refine ws_lstore (pc := 90) C dX9_patterns_90 (by decide) rfl ?_
      refine ws_lload (pc := 92) C dX9_patterns_92 7 rfl ?_
      refine ws_ldc2 (pc := 94) C dX9_patterns_94 kK_X9_239 ?_
      refine ws_lcmp (pc := 97) C dX9_patterns_97 ?_
      refine ws_if_eq (pc := 98) (tgt := 109) C dX9_patterns_98 (by decide) (fun c11 => ?_) (fun c11 => ?_)
      · have h := ite_t h c11
        refine ws_less [2, 3, 4, 5, 8, 1, 0] rfl ?_
        exact pX9_patterns_J109 C R hk124 (fun a4 a6 a8 s h => ih a4 a6 a8 s h) h
      · have h := ite_f h c11
        refine ws_lload (pc := 101) C dX9_patterns_101 0 rfl ?_
        refine ws_lload (pc := 103) C dX9_patterns_103 7 rfl ?_
        refine ws_lcmp (pc := 105) C dX9_patterns_105 ?_
        refine ws_if_ge (pc := 106) (tgt := 118) C dX9_patterns_106 (by decide) (fun c12 => ?_) (fun c12 => ?_)
        · have h := ite_t h c12
          refine ws_iinc (j := 8) (pc := 118) C dX9_patterns_118 rfl (cn_1 _) (by decide) rfl ?_
          refine ws_goto (pc := 121) (tgt := 64) C dX9_patterns_121 (by decide) ?_
          refine ws_less [3, 4, 5, 6, 7, 8, 0] rfl ?_
          exact ih _ _ _ _ h
        · have h := ite_f h c12
          refine ws_less [2, 3, 4, 5, 8, 1, 0] rfl ?_
          exact pX9_patterns_J109 C R hk124 (fun a4 a6 a8 s h => ih a4 a6 a8 s h) h
set_option maxRecDepth 20000 in
set_option maxHeartbeats 4000000 in
theorem mX9_patterns {Y : xY} {Z : xZ} {a1 : Int32} {s : xM} {z : Int64 × xM} (h : fX9_patterns a1 s = some z) : xMl (GX Y) Z yX9_patterns cX9_patterns 12 5 [.ref (Y.1 0), .int a1] s z := by
  refine xMl_of (by decide) (Nat.le_of_ble_eq_true rfl) (fun B C R => ?_)
  have C : xC (GX Y) Z B "BetweenStops" cX9_patterns 12 5 := C
  show xWS (GX Y) B 12 s [(0, .ref (Y.1 0)), (1, .int a1)] 0 []
  unfold fX9_patterns at h
  refine ws_iload_n (pc := 0) C dX9_patterns_0 rfl 1 rfl ?_
  refine ws_iconst (pc := 1) C dX9_patterns_1 ci_0 ?_
  refine ws_iconst (pc := 2) C dX9_patterns_2 ci_1 ?_
  obtain ⟨r1, s2, q3, h⟩ := bd_ok h
  refine wc_iS (pc := 3)  C [.int a1, .int (0 : Int32), .int (1 : Int32)] [] (mX9_isWithin q3) dX9_patterns_3 mw_X9_isWithin ks_X9_isWithin kl_X9_111 rfl rfl (Nat.le_of_ble_eq_true rfl) ⟨by decide, by decide⟩ ?_
  refine ws_if_ne (pc := 6) (tgt := 13) C dX9_patterns_6 (by decide) (fun c4 => ?_) (fun c4 => ?_)
  · have h := ite_f h c4
    refine ws_aload_n (pc := 13) C dX9_patterns_13 rfl 0 rfl ?_
    refine ws_getr (pc := 14) C dX9_patterns_14 fd_X9_21 sf_BS_1 ?_
    obtain ⟨r5, s6, q7, h⟩ := bd_ok h
    refine wc_vV (pc := 17)  C [] [] (mX8_measure q7) dX9_patterns_17 mw_X8_measure mv_X8_measure kl_X9_254 so_ways rfl rfl (Nat.le_of_ble_eq_true rfl) ⟨by decide, by decide⟩ ?_
    refine ws_iconst (pc := 20) C dX9_patterns_20 ci_5 ?_
    refine ws_aload_n (pc := 21) C dX9_patterns_21 rfl 0 rfl ?_
    refine ws_getr (pc := 22) C dX9_patterns_22 fd_X9_10 sf_BS_0 ?_
    refine ws_geti (pc := 25) C dX9_patterns_25 fd_X9_151 sf_town_7 ?_
    refine ws_min (pc := 28) C dX9_patterns_28 ma_X9_293 (Nat.le_of_ble_eq_true rfl) (by decide) ?_
    obtain ⟨v8, e9, h⟩ := lz_ok h
    refine ws_topi C e9 ?_
    refine ws_istore_n (pc := 31) C dX9_patterns_31 rfl (by decide) rfl ?_
    refine ws_iconst (pc := 32) C dX9_patterns_32 ci_1 ?_
    refine ws_istore_n (pc := 33) C dX9_patterns_33 rfl (by decide) rfl ?_
    refine ws_iconst (pc := 34) C dX9_patterns_34 ci_0 ?_
    refine ws_istore (pc := 35) C dX9_patterns_35 (by decide) rfl ?_
    refine ws_less [3, 4, 2, 1, 0] rfl ?_
    refine pX9_patterns_L37 C R (fun x10 s11 h => ?_) fu _ _ _ h
    · refine ws_lconst (v := 0) (pc := 53) C dX9_patterns_53 (by decide) ?_
      refine ws_lstore (pc := 54) C dX9_patterns_54 (by decide) rfl ?_
      refine ws_ldc2 (pc := 56) C dX9_patterns_56 kK_X9_239 ?_
      refine ws_lstore (pc := 59) C dX9_patterns_59 (by decide) rfl ?_
      refine ws_iconst (pc := 61) C dX9_patterns_61 ci_0 ?_
      refine ws_istore (pc := 62) C dX9_patterns_62 (by decide) rfl ?_
      refine ws_less [3, 4, 5, 6, 2, 1, 0] rfl ?_
      refine pX9_patterns_L64 C R (fun x12 x13 s14 h => ?_) fu _ _ _ _ h
      · refine ws_iload_n (pc := 124) C dX9_patterns_124 rfl 0 rfl ?_
        refine ws_if_ne (pc := 125) (tgt := 133) C dX9_patterns_125 (by decide) (fun c15 => ?_) (fun c15 => ?_)
        · have h := ite_f h c15
          refine ws_lload (pc := 133) C dX9_patterns_133 2 rfl ?_
          exact wr_l (pc := 135) C R dX9_patterns_135 h
        · have h := ite_t h c15
          refine ws_lload (pc := 128) C dX9_patterns_128 1 rfl ?_
          refine ws_goto (pc := 130) (tgt := 135) C dX9_patterns_130 (by decide) ?_
          exact wr_l (pc := 135) C R dX9_patterns_135 h
  · have h := ite_t h c4
    refine ws_ldc2 (pc := 9) C dX9_patterns_9 kK_X9_239 ?_
    exact wr_l (pc := 12) C R dX9_patterns_12 h
set_option maxRecDepth 20000 in
set_option maxHeartbeats 4000000 in
theorem pX9_peopleWhoPayMore_L4 {Y : xY} {Z : xZ} {B : xB} {z : Int32 × xM} (C : xC (GX Y) Z B "BetweenStops" cX9_peopleWhoPayMore 4 1) (R : xRi (GX Y) B .int z) {k57 : Int32 → xM → Option (Int32 × xM)} {a1 : Int32}
    (hk57 : ∀ (a2 : Int32) (s : xM), k57 a2 s = some z → xWS (GX Y) B 4 s [(2, .int a2)] 57 []) : ∀ (n : Nat) (a2 : Int32) (a3 : Int32) (s : xM), fX9_peopleWhoPayMore_L4 k57 a1 n a2 a3 s = some z → xWS (GX Y) B 4 s [(0, .ref (Y.1 0)), (1, .int a1), (2, .int a2), (3, .int a3)] 4 [] := by
  intro n
  induction n with
  | zero =>
    intro a2 a3 s h
    rw [fX9_peopleWhoPayMore_L4] at h
    cases h
  | succ n ih =>
    intro a2 a3 s h
    rw [fX9_peopleWhoPayMore_L4] at h
    refine ws_iload_n (pc := 4) C dX9_peopleWhoPayMore_4 rfl 3 rfl ?_
    refine ws_aload_n (pc := 5) C dX9_peopleWhoPayMore_5 rfl 0 rfl ?_
    refine ws_getr (pc := 6) C dX9_peopleWhoPayMore_6 fd_X9_10 sf_BS_0 ?_
    refine ws_geti (pc := 9) C dX9_peopleWhoPayMore_9 fd_X9_197 sf_town_9 ?_
    refine ws_icmp_ge (pc := 12) (tgt := 57) C dX9_peopleWhoPayMore_12 (by decide) (fun c1 => ?_) (fun c1 => ?_)
    · have h := ite_t h c1
      refine ws_less [2] rfl ?_
      exact hk57 _ _ h
    · have h := ite_f h c1
      refine ws_aload_n (pc := 15) C dX9_peopleWhoPayMore_15 rfl 0 rfl ?_
      refine ws_getr (pc := 16) C dX9_peopleWhoPayMore_16 fd_X9_21 sf_BS_1 ?_
      refine ws_getr (pc := 19) C dX9_peopleWhoPayMore_19 fd_X9_221 sf_ways_11 ?_
      refine ws_iload_n (pc := 22) C dX9_peopleWhoPayMore_22 rfl 3 rfl ?_
      obtain ⟨g2, h⟩ := gd_ok h
      refine ws_ialdK (pc := 23) C dX9_peopleWhoPayMore_23 sr_w_costs g2 rfl ?_
      refine ws_aload_n (pc := 24) C dX9_peopleWhoPayMore_24 rfl 0 rfl ?_
      refine ws_getr (pc := 25) C dX9_peopleWhoPayMore_25 fd_X9_71 sf_BS_10 ?_
      refine ws_iload_n (pc := 28) C dX9_peopleWhoPayMore_28 rfl 3 rfl ?_
      obtain ⟨g3, h⟩ := gd_ok h
      refine ws_ialdK (pc := 29) C dX9_peopleWhoPayMore_29 sr_b_costsNow g3 rfl ?_
      refine ws_isub (pc := 30) C dX9_peopleWhoPayMore_30 ?_
      refine ws_iload_n (pc := 31) C dX9_peopleWhoPayMore_31 rfl 1 rfl ?_
      refine ws_imul (pc := 32) C dX9_peopleWhoPayMore_32 ?_
      refine ws_if_le (pc := 33) (tgt := 51) C dX9_peopleWhoPayMore_33 (by decide) (fun c4 => ?_) (fun c4 => ?_)
      · have h := ite_t h c4
        refine ws_iinc (j := 3) (pc := 51) C dX9_peopleWhoPayMore_51 rfl (cn_1 _) (by decide) rfl ?_
        refine ws_goto (pc := 54) (tgt := 4) C dX9_peopleWhoPayMore_54 (by decide) ?_
        refine ws_less [1, 2, 3, 0] rfl ?_
        exact ih _ _ _ h
      · have h := ite_f h c4
        refine ws_iload_n (pc := 36) C dX9_peopleWhoPayMore_36 rfl 2 rfl ?_
        refine ws_aload_n (pc := 37) C dX9_peopleWhoPayMore_37 rfl 0 rfl ?_
        refine ws_getr (pc := 38) C dX9_peopleWhoPayMore_38 fd_X9_10 sf_BS_0 ?_
        refine ws_getr (pc := 41) C dX9_peopleWhoPayMore_41 fd_X9_200 sf_town_8 ?_
        refine ws_iload_n (pc := 44) C dX9_peopleWhoPayMore_44 rfl 3 rfl ?_
        obtain ⟨g5, h⟩ := gd_ok h
        refine ws_aaldK (q := (19 + a3.toNatClampNeg)) (pc := 45) C dX9_peopleWhoPayMore_45 (by decide) sq_trips g5 rfl rfl ?_
        refine ws_geti (pc := 46) C dX9_peopleWhoPayMore_46 fd_X9_365 (sf_trip_2 (inb_lt g5)) ?_
        refine ws_iadd (pc := 49) C dX9_peopleWhoPayMore_49 ?_
        obtain ⟨v6, e7, h⟩ := lz_ok h
        refine ws_topi C e7 ?_
        refine ws_istore_n (pc := 50) C dX9_peopleWhoPayMore_50 rfl (by decide) rfl ?_
        refine ws_iinc (j := 3) (pc := 51) C dX9_peopleWhoPayMore_51 rfl (cn_1 _) (by decide) rfl ?_
        refine ws_goto (pc := 54) (tgt := 4) C dX9_peopleWhoPayMore_54 (by decide) ?_
        refine ws_less [2, 3, 1, 0] rfl ?_
        exact ih _ _ _ h
set_option maxRecDepth 20000 in
set_option maxHeartbeats 4000000 in
theorem mX9_peopleWhoPayMore {Y : xY} {Z : xZ} {a1 : Int32} {s : xM} {z : Int32 × xM} (h : fX9_peopleWhoPayMore a1 s = some z) : xMi (GX Y) Z yX9_peopleWhoPayMore cX9_peopleWhoPayMore 4 1 .int [.ref (Y.1 0), .int a1] s z := by
  refine xMi_of (by decide) (Nat.le_of_ble_eq_true rfl) (fun B C R => ?_)
  have C : xC (GX Y) Z B "BetweenStops" cX9_peopleWhoPayMore 4 1 := C
  show xWS (GX Y) B 4 s [(0, .ref (Y.1 0)), (1, .int a1)] 0 []
  unfold fX9_peopleWhoPayMore at h
  refine ws_iconst (pc := 0) C dX9_peopleWhoPayMore_0 ci_0 ?_
  refine ws_istore_n (pc := 1) C dX9_peopleWhoPayMore_1 rfl (by decide) rfl ?_
  refine ws_iconst (pc := 2) C dX9_peopleWhoPayMore_2 ci_0 ?_
  refine ws_istore_n (pc := 3) C dX9_peopleWhoPayMore_3 rfl (by decide) rfl ?_
  refine ws_less [2, 3, 1, 0] rfl ?_
  refine pX9_peopleWhoPayMore_L4 C R (fun x1 s2 h => ?_) fu _ _ _ h
  · refine ws_iload_n (pc := 57) C dX9_peopleWhoPayMore_57 rfl 0 rfl ?_
    exact wr_i (pc := 58) C R dX9_peopleWhoPayMore_58 rfl h
set_option maxRecDepth 20000 in
set_option maxHeartbeats 4000000 in
theorem pX9_mostPaidMore_L4 {Y : xY} {Z : xZ} {B : xB} {z : Int32 × xM} (C : xC (GX Y) Z B "BetweenStops" cX9_mostPaidMore 3 1) (R : xRi (GX Y) B .int z) {k42 : Int32 → xM → Option (Int32 × xM)}
    (hk42 : ∀ (a1 : Int32) (s : xM), k42 a1 s = some z → xWS (GX Y) B 3 s [(1, .int a1)] 42 []) : ∀ (n : Nat) (a1 : Int32) (a2 : Int32) (s : xM), fX9_mostPaidMore_L4 k42 n a1 a2 s = some z → xWS (GX Y) B 3 s [(0, .ref (Y.1 0)), (1, .int a1), (2, .int a2)] 4 [] := by
  intro n
  induction n with
  | zero =>
    intro a1 a2 s h
    rw [fX9_mostPaidMore_L4] at h
    cases h
  | succ n ih =>
    intro a1 a2 s h
    rw [fX9_mostPaidMore_L4] at h
    refine ws_iload_n (pc := 4) C dX9_mostPaidMore_4 rfl 2 rfl ?_
    refine ws_aload_n (pc := 5) C dX9_mostPaidMore_5 rfl 0 rfl ?_
    refine ws_getr (pc := 6) C dX9_mostPaidMore_6 fd_X9_10 sf_BS_0 ?_
    refine ws_geti (pc := 9) C dX9_mostPaidMore_9 fd_X9_197 sf_town_9 ?_
    refine ws_icmp_ge (pc := 12) (tgt := 42) C dX9_mostPaidMore_12 (by decide) (fun c1 => ?_) (fun c1 => ?_)
    · have h := ite_t h c1
      refine ws_less [1] rfl ?_
      exact hk42 _ _ h
    · have h := ite_f h c1
      refine ws_iload_n (pc := 15) C dX9_mostPaidMore_15 rfl 1 rfl ?_
      refine ws_aload_n (pc := 16) C dX9_mostPaidMore_16 rfl 0 rfl ?_
      refine ws_getr (pc := 17) C dX9_mostPaidMore_17 fd_X9_21 sf_BS_1 ?_
      refine ws_getr (pc := 20) C dX9_mostPaidMore_20 fd_X9_221 sf_ways_11 ?_
      refine ws_iload_n (pc := 23) C dX9_mostPaidMore_23 rfl 2 rfl ?_
      obtain ⟨g2, h⟩ := gd_ok h
      refine ws_ialdK (pc := 24) C dX9_mostPaidMore_24 sr_w_costs g2 rfl ?_
      refine ws_aload_n (pc := 25) C dX9_mostPaidMore_25 rfl 0 rfl ?_
      refine ws_getr (pc := 26) C dX9_mostPaidMore_26 fd_X9_71 sf_BS_10 ?_
      refine ws_iload_n (pc := 29) C dX9_mostPaidMore_29 rfl 2 rfl ?_
      obtain ⟨g3, h⟩ := gd_ok h
      refine ws_ialdK (pc := 30) C dX9_mostPaidMore_30 sr_b_costsNow g3 rfl ?_
      refine ws_isub (pc := 31) C dX9_mostPaidMore_31 ?_
      refine ws_max (pc := 32) C dX9_mostPaidMore_32 ma_X9_368 (Nat.le_of_ble_eq_true rfl) (by decide) ?_
      obtain ⟨v4, e5, h⟩ := lz_ok h
      refine ws_topi C e5 ?_
      refine ws_istore_n (pc := 35) C dX9_mostPaidMore_35 rfl (by decide) rfl ?_
      refine ws_iinc (j := 2) (pc := 36) C dX9_mostPaidMore_36 rfl (cn_1 _) (by decide) rfl ?_
      refine ws_goto (pc := 39) (tgt := 4) C dX9_mostPaidMore_39 (by decide) ?_
      refine ws_less [2, 1, 0] rfl ?_
      exact ih _ _ _ h
set_option maxRecDepth 20000 in
set_option maxHeartbeats 4000000 in
theorem mX9_mostPaidMore {Y : xY} {Z : xZ} {s : xM} {z : Int32 × xM} (h : fX9_mostPaidMore s = some z) : xMi (GX Y) Z yX9_mostPaidMore cX9_mostPaidMore 3 1 .int [.ref (Y.1 0)] s z := by
  refine xMi_of (by decide) (Nat.le_of_ble_eq_true rfl) (fun B C R => ?_)
  have C : xC (GX Y) Z B "BetweenStops" cX9_mostPaidMore 3 1 := C
  show xWS (GX Y) B 3 s [(0, .ref (Y.1 0))] 0 []
  unfold fX9_mostPaidMore at h
  refine ws_iconst (pc := 0) C dX9_mostPaidMore_0 ci_0 ?_
  refine ws_istore_n (pc := 1) C dX9_mostPaidMore_1 rfl (by decide) rfl ?_
  refine ws_iconst (pc := 2) C dX9_mostPaidMore_2 ci_0 ?_
  refine ws_istore_n (pc := 3) C dX9_mostPaidMore_3 rfl (by decide) rfl ?_
  refine ws_less [2, 1, 0] rfl ?_
  refine pX9_mostPaidMore_L4 C R (fun x1 s2 h => ?_) fu _ _ _ h
  · refine ws_iload_n (pc := 42) C dX9_mostPaidMore_42 rfl 0 rfl ?_
    exact wr_i (pc := 43) C R dX9_mostPaidMore_43 rfl h
set_option maxRecDepth 20000 in
set_option maxHeartbeats 4000000 in
theorem mX9_bench {Y : xY} {Z : xZ} {a1 : Int32} {a2 : Int32} {s : xM} {z : Int64 × xM} (h : fX9_bench a1 a2 s = some z) : xMl (GX Y) Z yX9_bench cX9_bench 5 6 [.ref (Y.1 0), .int a1, .int a2] s z := by
  refine xMl_of (by decide) (Nat.le_of_ble_eq_true rfl) (fun B C R => ?_)
  have C : xC (GX Y) Z B "BetweenStops" cX9_bench 5 6 := C
  show xWS (GX Y) B 5 s [(0, .ref (Y.1 0)), (1, .int a1), (2, .int a2)] 0 []
  unfold fX9_bench at h
  refine ws_aload_n (pc := 0) C dX9_bench_0 rfl 0 rfl ?_
  refine ws_iload_n (pc := 1) C dX9_bench_1 rfl 1 rfl ?_
  obtain ⟨r1, s2, q3, h⟩ := bd_ok h
  refine wc_iV (pc := 2)  C [.int a1] [] (mX9_isStop q3) dX9_bench_2 mw_X9_isStop mv_X9_isStop kl_X9_164 so_BS rfl rfl (Nat.le_of_ble_eq_true rfl) ⟨by decide, by decide⟩ ?_
  refine ws_if_eq (pc := 5) (tgt := 17) C dX9_bench_5 (by decide) (fun c4 => ?_) (fun c4 => ?_)
  · have h := ite_t h c4
    refine ws_ldc2 (pc := 17) C dX9_bench_17 kK_X9_239 ?_
    exact wr_l (pc := 20) C R dX9_bench_20 h
  · have h := ite_f h c4
    refine ws_iload_n (pc := 8) C dX9_bench_8 rfl 2 rfl ?_
    refine ws_iconst (pc := 9) C dX9_bench_9 ci_0 ?_
    refine ws_iconst (pc := 10) C dX9_bench_10 ci_3 ?_
    obtain ⟨r5, s6, q7, h⟩ := bd_ok h
    refine wc_iS (pc := 11)  C [.int a2, .int (0 : Int32), .int (3 : Int32)] [] (mX9_isWithin q7) dX9_bench_11 mw_X9_isWithin ks_X9_isWithin kl_X9_111 rfl rfl (Nat.le_of_ble_eq_true rfl) ⟨by decide, by decide⟩ ?_
    refine ws_if_ne (pc := 14) (tgt := 21) C dX9_bench_14 (by decide) (fun c8 => ?_) (fun c8 => ?_)
    · have h := ite_f h c8
      refine ws_aload_n (pc := 21) C dX9_bench_21 rfl 0 rfl ?_
      obtain ⟨r9, s10, q11, h⟩ := bd_ok h
      refine wc_vV (pc := 22)  C [] [] (mX9_lookAtNow q11) dX9_bench_22 mw_X9_lookAtNow mv_X9_lookAtNow kl_X9_218 so_BS rfl rfl (Nat.le_of_ble_eq_true rfl) ⟨by decide, by decide⟩ ?_
      refine ws_aload_n (pc := 25) C dX9_bench_25 rfl 0 rfl ?_
      obtain ⟨r12, s13, q14, h⟩ := bd_ok h
      refine wc_vV (pc := 26)  C [] [] (mX9_keepCosts q14) dX9_bench_26 mw_X9_keepCosts mv_X9_keepCosts kl_X9_268 so_BS rfl rfl (Nat.le_of_ble_eq_true rfl) ⟨by decide, by decide⟩ ?_
      refine ws_aload_n (pc := 29) C dX9_bench_29 rfl 0 rfl ?_
      refine ws_getr (pc := 30) C dX9_bench_30 fd_X9_21 sf_BS_1 ?_
      obtain ⟨r15, s16, q17, h⟩ := bd_ok h
      refine wc_lV (pc := 33)  C [] [] (mX8_total q17) dX9_bench_33 mw_X8_total mv_X8_total kl_X9_241 so_ways rfl rfl (Nat.le_of_ble_eq_true rfl) ⟨by decide, by decide⟩ ?_
      refine ws_lstore_n (pc := 36) C dX9_bench_36 rfl (by decide) rfl ?_
      refine ws_aload_n (pc := 37) C dX9_bench_37 rfl 1 rfl ?_
      refine ws_getr (pc := 38) C dX9_bench_38 fd_X9_21 sf_BS_1 ?_
      refine ws_aload_n (pc := 41) C dX9_bench_41 rfl 1 rfl ?_
      refine ws_getr (pc := 42) C dX9_bench_42 fd_X9_10 sf_BS_0 ?_
      obtain ⟨r18, s19, q20, h⟩ := bd_ok h
      refine wc_iV (pc := 45)  C [] [.ref (Y.1 27)] (mX6_openSet q20) dX9_bench_45 mw_X6_openSet mv_X6_openSet kl_X9_207 so_town rfl rfl (Nat.le_of_ble_eq_true rfl) ⟨by decide, by decide⟩ ?_
      refine ws_iconst (pc := 48) C dX9_bench_48 ci_1 ?_
      refine ws_iload_n (pc := 49) C dX9_bench_49 rfl 2 rfl ?_
      refine ws_ishl (pc := 50) C dX9_bench_50 ?_
      refine ws_ixor (pc := 51) C dX9_bench_51 ?_
      refine ws_aload_n (pc := 52) C dX9_bench_52 rfl 1 rfl ?_
      refine ws_getr (pc := 53) C dX9_bench_53 fd_X9_10 sf_BS_0 ?_
      refine ws_geti (pc := 56) C dX9_bench_56 fd_X9_135 sf_town_4 ?_
      obtain ⟨r21, s22, q23, h⟩ := bd_ok h
      refine wc_vV (pc := 59)  C [.int (r18 ^^^ ((1 : Int32) <<< (a1 &&& 31))), .int (gi s19 1 4)] [] (mX8_look q23) dX9_bench_59 mw_X8_look mv_X8_look kl_X9_274 so_ways rfl rfl (Nat.le_of_ble_eq_true rfl) ⟨by decide, by decide⟩ ?_
      refine ws_iload_n (pc := 62) C dX9_bench_62 rfl 3 rfl ?_
      by_cases c24 : a2 = (0 : Int32)
      · have h := ite_t h c24
        refine ws_tab (pc := 63) (off := 25) (tgt := 88) C c24 dX9_bench_63 (by decide) (by decide) (by decide) (by decide) ?_
        refine ws_aload_n (pc := 88) C dX9_bench_88 rfl 1 rfl ?_
        refine ws_getr (pc := 89) C dX9_bench_89 fd_X9_21 sf_BS_1 ?_
        obtain ⟨r25, s26, q27, h⟩ := bd_ok h
        refine wc_lV (pc := 92)  C [] [] (mX8_total q27) dX9_bench_92 mw_X8_total mv_X8_total kl_X9_241 so_ways rfl rfl (Nat.le_of_ble_eq_true rfl) ⟨by decide, by decide⟩ ?_
        refine ws_lload_n (pc := 95) C dX9_bench_95 rfl 0 rfl ?_
        refine ws_lsub (pc := 96) C dX9_bench_96 ?_
        exact wr_l (pc := 97) C R dX9_bench_97 h
      replace h := ite_f h c24
      by_cases c28 : a2 = (1 : Int32)
      · have h := ite_t h c28
        refine ws_tab (pc := 63) (off := 35) (tgt := 98) C c28 dX9_bench_63 (by decide) (by decide) (by decide) (by decide) ?_
        refine ws_aload_n (pc := 98) C dX9_bench_98 rfl 1 rfl ?_
        refine ws_iconst (pc := 99) C dX9_bench_99 ci_1 ?_
        obtain ⟨r29, s30, q31, h⟩ := bd_ok h
        refine wc_iV (pc := 100)  C [.int (1 : Int32)] [] (mX9_peopleWhoPayMore q31) dX9_bench_100 mw_X9_peopleWhoPayMore mv_X9_peopleWhoPayMore kl_X9_301 so_BS rfl rfl (Nat.le_of_ble_eq_true rfl) ⟨by decide, by decide⟩ ?_
        refine ws_i2l (pc := 103) C dX9_bench_103 ?_
        exact wr_l (pc := 104) C R dX9_bench_104 h
      replace h := ite_f h c28
      by_cases c32 : a2 = (2 : Int32)
      · have h := ite_t h c32
        refine ws_tab (pc := 63) (off := 42) (tgt := 105) C c32 dX9_bench_63 (by decide) (by decide) (by decide) (by decide) ?_
        refine ws_aload_n (pc := 105) C dX9_bench_105 rfl 1 rfl ?_
        refine ws_iconst (pc := 106) C dX9_bench_106 ci_m1 ?_
        obtain ⟨r33, s34, q35, h⟩ := bd_ok h
        refine wc_iV (pc := 107)  C [.int (-1 : Int32)] [] (mX9_peopleWhoPayMore q35) dX9_bench_107 mw_X9_peopleWhoPayMore mv_X9_peopleWhoPayMore kl_X9_301 so_BS rfl rfl (Nat.le_of_ble_eq_true rfl) ⟨by decide, by decide⟩ ?_
        refine ws_i2l (pc := 110) C dX9_bench_110 ?_
        exact wr_l (pc := 111) C R dX9_bench_111 h
      replace h := ite_f h c32
      have ec24 : ¬ (0 : Int) = (a2).toInt := fun q => lv_neT c24 (show (0 : Int32).toInt = 0 by decide) q.symm
      have ec28 : ¬ (1 : Int) = (a2).toInt := fun q => lv_neT c28 (show (1 : Int32).toInt = 1 by decide) q.symm
      have ec32 : ¬ (2 : Int) = (a2).toInt := fun q => lv_neT c32 (show (2 : Int32).toInt = 2 by decide) q.symm
      refine ws_tableOut (pc := 63) (tgt := 112) C dX9_bench_63 (by omega) (by decide) ?_
      refine ws_aload_n (pc := 112) C dX9_bench_112 rfl 1 rfl ?_
      obtain ⟨r36, s37, q38, h⟩ := bd_ok h
      refine wc_iV (pc := 113)  C [] [] (mX9_mostPaidMore q38) dX9_bench_113 mw_X9_mostPaidMore mv_X9_mostPaidMore kl_X9_304 so_BS rfl rfl (Nat.le_of_ble_eq_true rfl) ⟨by decide, by decide⟩ ?_
      refine ws_i2l (pc := 116) C dX9_bench_116 ?_
      exact wr_l (pc := 117) C R dX9_bench_117 h
    · have h := ite_t h c8
      refine ws_ldc2 (pc := 17) C dX9_bench_17 kK_X9_239 ?_
      exact wr_l (pc := 20) C R dX9_bench_20 h
set_option maxRecDepth 20000 in
set_option maxHeartbeats 4000000 in
theorem pX9_givenUpOf_J57 {Y : xY} {Z : xZ} {B : xB} {z : Int32 × xM} (C : xC (GX Y) Z B "BetweenStops" cX9_givenUpOf 8 5) (R : xRi (GX Y) B .int z) {k69 : Int32 → xM → Option (Int32 × xM)} {b : Int32 → Int64 → Int32 → xM → Option (Int32 × xM)} {a1 : Int32} {a5 : Int32} {a6 : Int64}
    (hk69 : ∀ (a2 : Int32) (s : xM), k69 a2 s = some z → xWS (GX Y) B 8 s [(2, .int a2)] 69 [])
    (hb : ∀ (a2 : Int32) (a3 : Int64) (a5 : Int32) (s : xM), b a2 a3 a5 s = some z → xWS (GX Y) B 8 s [(0, .ref (Y.1 0)), (1, .int a1), (2, .int a2), (3, .long a3), (5, .int a5)] 7 []) {s : xM} (h : fX9_givenUpOf_J57 k69 b a1 a5 a6 s = some z) : xWS (GX Y) B 8 s [(0, .ref (Y.1 0)), (1, .int a1), (5, .int a5), (6, .long a6)] 57 [] := by
  unfold fX9_givenUpOf_J57 at h
  refine ws_iload (pc := 57) C dX9_givenUpOf_57 2 rfl ?_
  refine ws_istore_n (pc := 59) C dX9_givenUpOf_59 rfl (by decide) rfl ?_
  refine ws_lload (pc := 60) C dX9_givenUpOf_60 4 rfl ?_
  refine ws_lstore_n (pc := 62) C dX9_givenUpOf_62 rfl (by decide) rfl ?_
  refine ws_iinc (j := 4) (pc := 63) C dX9_givenUpOf_63 rfl (cn_1 _) (by decide) rfl ?_
  refine ws_goto (pc := 66) (tgt := 7) C dX9_givenUpOf_66 (by decide) ?_
  refine ws_less [3, 4, 2, 1, 0] rfl ?_
  exact hb _ _ _ _ h
set_option maxRecDepth 20000 in
set_option maxHeartbeats 4000000 in
theorem pX9_givenUpOf_L7 {Y : xY} {Z : xZ} {B : xB} {z : Int32 × xM} (C : xC (GX Y) Z B "BetweenStops" cX9_givenUpOf 8 5) (R : xRi (GX Y) B .int z) {k69 : Int32 → xM → Option (Int32 × xM)} {a1 : Int32}
    (hk69 : ∀ (a2 : Int32) (s : xM), k69 a2 s = some z → xWS (GX Y) B 8 s [(2, .int a2)] 69 []) : ∀ (n : Nat) (a2 : Int32) (a3 : Int64) (a5 : Int32) (s : xM), fX9_givenUpOf_L7 k69 a1 n a2 a3 a5 s = some z → xWS (GX Y) B 8 s [(0, .ref (Y.1 0)), (1, .int a1), (2, .int a2), (3, .long a3), (5, .int a5)] 7 [] := by
  intro n
  induction n with
  | zero =>
    intro a2 a3 a5 s h
    rw [fX9_givenUpOf_L7] at h
    cases h
  | succ n ih =>
    intro a2 a3 a5 s h
    rw [fX9_givenUpOf_L7] at h
    refine ws_iload (pc := 7) C dX9_givenUpOf_7 4 rfl ?_
    refine ws_aload_n (pc := 9) C dX9_givenUpOf_9 rfl 0 rfl ?_
    refine ws_getr (pc := 10) C dX9_givenUpOf_10 fd_X9_10 sf_BS_0 ?_
    refine ws_geti (pc := 13) C dX9_givenUpOf_13 fd_X9_151 sf_town_7 ?_
    refine ws_icmp_ge (pc := 16) (tgt := 69) C dX9_givenUpOf_16 (by decide) (fun c1 => ?_) (fun c1 => ?_)
    · have h := ite_t h c1
      refine ws_less [2] rfl ?_
      exact hk69 _ _ h
    · have h := ite_f h c1
      refine ws_iload_n (pc := 19) C dX9_givenUpOf_19 rfl 1 rfl ?_
      refine ws_iconst (pc := 20) C dX9_givenUpOf_20 ci_1 ?_
      refine ws_iload (pc := 21) C dX9_givenUpOf_21 4 rfl ?_
      refine ws_ishl (pc := 23) C dX9_givenUpOf_23 ?_
      refine ws_iand (pc := 24) C dX9_givenUpOf_24 ?_
      refine ws_if_ne (pc := 25) (tgt := 31) C dX9_givenUpOf_25 (by decide) (fun c2 => ?_) (fun c2 => ?_)
      · have h := ite_f h c2
        refine ws_aload_n (pc := 31) C dX9_givenUpOf_31 rfl 0 rfl ?_
        refine ws_iload_n (pc := 32) C dX9_givenUpOf_32 rfl 1 rfl ?_
        refine ws_iconst (pc := 33) C dX9_givenUpOf_33 ci_1 ?_
        refine ws_iload (pc := 34) C dX9_givenUpOf_34 4 rfl ?_
        refine ws_ishl (pc := 36) C dX9_givenUpOf_36 ?_
        refine ws_iconst (pc := 37) C dX9_givenUpOf_37 ci_m1 ?_
        refine ws_ixor (pc := 38) C dX9_givenUpOf_38 ?_
        refine ws_iand (pc := 39) C dX9_givenUpOf_39 ?_
        obtain ⟨r3, s4, q5, h⟩ := bd_ok h
        refine wc_lV (pc := 40)  C [.int (a1 &&& (((1 : Int32) <<< (a5 &&& 31)) ^^^ (-1 : Int32)))] [] (mX9_totalOf q5) dX9_givenUpOf_40 mw_X9_totalOf mv_X9_totalOf kl_X9_262 so_BS rfl rfl (Nat.le_of_ble_eq_true rfl) ⟨by decide, by decide⟩ ?_
        refine ws_lstore (pc := 43) C dX9_givenUpOf_43 (by decide) rfl ?_
        refine ws_iload_n (pc := 45) C dX9_givenUpOf_45 rfl 3 rfl ?_
        refine ws_iconst (pc := 46) C dX9_givenUpOf_46 ci_m1 ?_
        refine ws_icmp_eq (pc := 47) (tgt := 57) C dX9_givenUpOf_47 (by decide) (fun c6 => ?_) (fun c6 => ?_)
        · have h := ite_t h c6
          refine ws_less [1, 2, 5, 0] rfl ?_
          exact pX9_givenUpOf_J57 C R hk69 (fun a2 a3 a5 s h => ih a2 a3 a5 s h) h
        · have h := ite_f h c6
          refine ws_lload (pc := 50) C dX9_givenUpOf_50 0 rfl ?_
          refine ws_lload_n (pc := 52) C dX9_givenUpOf_52 rfl 4 rfl ?_
          refine ws_lcmp (pc := 53) C dX9_givenUpOf_53 ?_
          refine ws_if_ge (pc := 54) (tgt := 63) C dX9_givenUpOf_54 (by decide) (fun c7 => ?_) (fun c7 => ?_)
          · have h := ite_t h c7
            refine ws_iinc (j := 5) (pc := 63) C dX9_givenUpOf_63 rfl (cn_1 _) (by decide) rfl ?_
            refine ws_goto (pc := 66) (tgt := 7) C dX9_givenUpOf_66 (by decide) ?_
            refine ws_less [2, 3, 4, 5, 0] rfl ?_
            exact ih _ _ _ _ h
          · have h := ite_f h c7
            refine ws_less [1, 2, 5, 0] rfl ?_
            exact pX9_givenUpOf_J57 C R hk69 (fun a2 a3 a5 s h => ih a2 a3 a5 s h) h
      · have h := ite_t h c2
        refine ws_goto (pc := 28) (tgt := 63) C dX9_givenUpOf_28 (by decide) ?_
        refine ws_iinc (j := 4) (pc := 63) C dX9_givenUpOf_63 rfl (cn_1 _) (by decide) rfl ?_
        refine ws_goto (pc := 66) (tgt := 7) C dX9_givenUpOf_66 (by decide) ?_
        refine ws_less [1, 2, 3, 4, 0] rfl ?_
        exact ih _ _ _ _ h
set_option maxRecDepth 20000 in
set_option maxHeartbeats 4000000 in
theorem mX9_givenUpOf {Y : xY} {Z : xZ} {a1 : Int32} {s : xM} {z : Int32 × xM} (h : fX9_givenUpOf a1 s = some z) : xMi (GX Y) Z yX9_givenUpOf cX9_givenUpOf 8 5 .int [.ref (Y.1 0), .int a1] s z := by
  refine xMi_of (by decide) (Nat.le_of_ble_eq_true rfl) (fun B C R => ?_)
  have C : xC (GX Y) Z B "BetweenStops" cX9_givenUpOf 8 5 := C
  show xWS (GX Y) B 8 s [(0, .ref (Y.1 0)), (1, .int a1)] 0 []
  unfold fX9_givenUpOf at h
  refine ws_iconst (pc := 0) C dX9_givenUpOf_0 ci_m1 ?_
  refine ws_istore_n (pc := 1) C dX9_givenUpOf_1 rfl (by decide) rfl ?_
  refine ws_lconst (v := 0) (pc := 2) C dX9_givenUpOf_2 (by decide) ?_
  refine ws_lstore_n (pc := 3) C dX9_givenUpOf_3 rfl (by decide) rfl ?_
  refine ws_iconst (pc := 4) C dX9_givenUpOf_4 ci_0 ?_
  refine ws_istore (pc := 5) C dX9_givenUpOf_5 (by decide) rfl ?_
  refine ws_less [3, 4, 2, 1, 0] rfl ?_
  refine pX9_givenUpOf_L7 C R (fun x1 s2 h => ?_) fu _ _ _ _ h
  · refine ws_iload_n (pc := 69) C dX9_givenUpOf_69 rfl 0 rfl ?_
    exact wr_i (pc := 70) C R dX9_givenUpOf_70 rfl h
set_option maxRecDepth 20000 in
set_option maxHeartbeats 4000000 in
theorem mX9_give {Y : xY} {Z : xZ} {s : xM} {z : Int32 × xM} (h : fX9_give s = some z) : xMi (GX Y) Z yX9_give cX9_give 1 6 .int [.ref (Y.1 0)] s z := by
  refine xMi_of (by decide) (Nat.le_of_ble_eq_true rfl) (fun B C R => ?_)
  have C : xC (GX Y) Z B "BetweenStops" cX9_give 1 6 := C
  show xWS (GX Y) B 1 s [(0, .ref (Y.1 0))] 0 []
  unfold fX9_give at h
  refine ws_aload_n (pc := 0) C dX9_give_0 rfl 0 rfl ?_
  refine ws_getr (pc := 1) C dX9_give_1 fd_X9_21 sf_BS_1 ?_
  obtain ⟨r1, s2, q3, h⟩ := bd_ok h
  refine wc_vV (pc := 4)  C [] [] (mX8_measure q3) dX9_give_4 mw_X8_measure mv_X8_measure kl_X9_254 so_ways rfl rfl (Nat.le_of_ble_eq_true rfl) ⟨by decide, by decide⟩ ?_
  refine ws_aload_n (pc := 7) C dX9_give_7 rfl 0 rfl ?_
  refine ws_aload_n (pc := 8) C dX9_give_8 rfl 0 rfl ?_
  refine ws_getr (pc := 9) C dX9_give_9 fd_X9_10 sf_BS_0 ?_
  obtain ⟨r4, s5, q6, h⟩ := bd_ok h
  refine wc_iV (pc := 12)  C [] [.ref (Y.1 0)] (mX6_openSet q6) dX9_give_12 mw_X6_openSet mv_X6_openSet kl_X9_207 so_town rfl rfl (Nat.le_of_ble_eq_true rfl) ⟨by decide, by decide⟩ ?_
  obtain ⟨r7, s8, q9, h⟩ := bd_ok h
  refine wc_iV (pc := 15)  C [.int r4] [] (mX9_givenUpOf q9) dX9_give_15 mw_X9_givenUpOf mv_X9_givenUpOf kl_X9_307 so_BS rfl rfl (Nat.le_of_ble_eq_true rfl) ⟨by decide, by decide⟩ ?_
  exact wr_i (pc := 18) C R dX9_give_18 rfl h
set_option maxRecDepth 20000 in
set_option maxHeartbeats 4000000 in
theorem pX9_order_L33 {Y : xY} {Z : xZ} {B : xB} {z : Int32 × xM} (C : xC (GX Y) Z B "BetweenStops" cX9_order 6 6) (R : xRi (GX Y) B .int z) {k75 : Int32 → xM → Option (Int32 × xM)} {a1 : Int32}
    (hk75 : ∀ (a3 : Int32) (s : xM), k75 a3 s = some z → xWS (GX Y) B 6 s [(3, .int a3)] 75 []) : ∀ (n : Nat) (a2 : Int32) (a3 : Int32) (a4 : Int32) (s : xM), fX9_order_L33 k75 a1 n a2 a3 a4 s = some z → xWS (GX Y) B 6 s [(0, .ref (Y.1 0)), (1, .int a1), (2, .int a2), (3, .int a3), (4, .int a4)] 33 [] := by
  intro n
  induction n with
  | zero =>
    intro a2 a3 a4 s h
    rw [fX9_order_L33] at h
    cases h
  | succ n ih =>
    intro a2 a3 a4 s h
    rw [fX9_order_L33] at h
    refine ws_iload (pc := 33) C dX9_order_33 4 rfl ?_
    refine ws_iload_n (pc := 35) C dX9_order_35 rfl 1 rfl ?_
    refine ws_icmp_ge (pc := 36) (tgt := 75) C dX9_order_36 (by decide) (fun c1 => ?_) (fun c1 => ?_)
    · have h := ite_t h c1
      refine ws_less [3] rfl ?_
      exact hk75 _ _ h
    · have h := ite_f h c1
      refine ws_iload_n (pc := 39) C dX9_order_39 rfl 2 rfl ?_
      refine ws_if_eq (pc := 40) (tgt := 75) C dX9_order_40 (by decide) (fun c2 => ?_) (fun c2 => ?_)
      · have h := ite_t h c2
        refine ws_less [3] rfl ?_
        exact hk75 _ _ h
      · have h := ite_f h c2
        refine ws_aload_n (pc := 43) C dX9_order_43 rfl 0 rfl ?_
        refine ws_iload_n (pc := 44) C dX9_order_44 rfl 2 rfl ?_
        obtain ⟨r3, s4, q5, h⟩ := bd_ok h
        refine wc_iV (pc := 45)  C [.int a2] [] (mX9_givenUpOf q5) dX9_order_45 mw_X9_givenUpOf mv_X9_givenUpOf kl_X9_307 so_BS rfl rfl (Nat.le_of_ble_eq_true rfl) ⟨by decide, by decide⟩ ?_
        refine ws_istore (pc := 48) C dX9_order_48 (by decide) rfl ?_
        refine ws_iload_n (pc := 50) C dX9_order_50 rfl 3 rfl ?_
        refine ws_iconst (pc := 51) C dX9_order_51 ci_1 ?_
        refine ws_iload (pc := 52) C dX9_order_52 0 rfl ?_
        refine ws_ishl (pc := 54) C dX9_order_54 ?_
        refine ws_iconst (pc := 55) C dX9_order_55 ci_m1 ?_
        refine ws_ixor (pc := 56) C dX9_order_56 ?_
        refine ws_iand (pc := 57) C dX9_order_57 ?_
        obtain ⟨v6, e7, h⟩ := lz_ok h
        refine ws_topi C e7 ?_
        refine ws_istore_n (pc := 58) C dX9_order_58 rfl (by decide) rfl ?_
        refine ws_iload_n (pc := 59) C dX9_order_59 rfl 4 rfl ?_
        refine ws_bipush (pc := 60) C dX9_order_60 cb_10 ?_
        refine ws_imul (pc := 62) C dX9_order_62 ?_
        refine ws_iload (pc := 63) C dX9_order_63 1 rfl ?_
        refine ws_iadd (pc := 65) C dX9_order_65 ?_
        refine ws_iconst (pc := 66) C dX9_order_66 ci_1 ?_
        refine ws_iadd (pc := 67) C dX9_order_67 ?_
        obtain ⟨v8, e9, h⟩ := lz_ok h
        refine ws_topi C e9 ?_
        refine ws_istore_n (pc := 68) C dX9_order_68 rfl (by decide) rfl ?_
        refine ws_iinc (j := 5) (pc := 69) C dX9_order_69 rfl (cn_1 _) (by decide) rfl ?_
        refine ws_goto (pc := 72) (tgt := 33) C dX9_order_72 (by decide) ?_
        refine ws_less [4, 5, 2, 1, 0] rfl ?_
        exact ih _ _ _ _ h
set_option maxRecDepth 20000 in
set_option maxHeartbeats 4000000 in
theorem mX9_order {Y : xY} {Z : xZ} {a1 : Int32} {s : xM} {z : Int32 × xM} (h : fX9_order a1 s = some z) : xMi (GX Y) Z yX9_order cX9_order 6 6 .int [.ref (Y.1 0), .int a1] s z := by
  refine xMi_of (by decide) (Nat.le_of_ble_eq_true rfl) (fun B C R => ?_)
  have C : xC (GX Y) Z B "BetweenStops" cX9_order 6 6 := C
  show xWS (GX Y) B 6 s [(0, .ref (Y.1 0)), (1, .int a1)] 0 []
  unfold fX9_order at h
  refine ws_iload_n (pc := 0) C dX9_order_0 rfl 1 rfl ?_
  refine ws_iconst (pc := 1) C dX9_order_1 ci_0 ?_
  refine ws_bipush (pc := 2) C dX9_order_2 cb_8 ?_
  obtain ⟨r1, s2, q3, h⟩ := bd_ok h
  refine wc_iS (pc := 4)  C [.int a1, .int (0 : Int32), .int (8 : Int32)] [] (mX9_isWithin q3) dX9_order_4 mw_X9_isWithin ks_X9_isWithin kl_X9_111 rfl rfl (Nat.le_of_ble_eq_true rfl) ⟨by decide, by decide⟩ ?_
  refine ws_if_ne (pc := 7) (tgt := 13) C dX9_order_7 (by decide) (fun c4 => ?_) (fun c4 => ?_)
  · have h := ite_f h c4
    refine ws_aload_n (pc := 13) C dX9_order_13 rfl 0 rfl ?_
    refine ws_getr (pc := 14) C dX9_order_14 fd_X9_21 sf_BS_1 ?_
    obtain ⟨r5, s6, q7, h⟩ := bd_ok h
    refine wc_vV (pc := 17)  C [] [] (mX8_measure q7) dX9_order_17 mw_X8_measure mv_X8_measure kl_X9_254 so_ways rfl rfl (Nat.le_of_ble_eq_true rfl) ⟨by decide, by decide⟩ ?_
    refine ws_aload_n (pc := 20) C dX9_order_20 rfl 0 rfl ?_
    refine ws_getr (pc := 21) C dX9_order_21 fd_X9_10 sf_BS_0 ?_
    obtain ⟨r8, s9, q10, h⟩ := bd_ok h
    refine wc_iV (pc := 24)  C [] [] (mX6_openSet q10) dX9_order_24 mw_X6_openSet mv_X6_openSet kl_X9_207 so_town rfl rfl (Nat.le_of_ble_eq_true rfl) ⟨by decide, by decide⟩ ?_
    refine ws_istore_n (pc := 27) C dX9_order_27 rfl (by decide) rfl ?_
    refine ws_iconst (pc := 28) C dX9_order_28 ci_0 ?_
    refine ws_istore_n (pc := 29) C dX9_order_29 rfl (by decide) rfl ?_
    refine ws_iconst (pc := 30) C dX9_order_30 ci_0 ?_
    refine ws_istore (pc := 31) C dX9_order_31 (by decide) rfl ?_
    refine ws_less [3, 4, 2, 1, 0] rfl ?_
    refine pX9_order_L33 C R (fun x11 s12 h => ?_) fu _ _ _ _ h
    · refine ws_iload_n (pc := 75) C dX9_order_75 rfl 0 rfl ?_
      exact wr_i (pc := 76) C R dX9_order_76 rfl h
  · have h := ite_t h c4
    refine ws_bipush (pc := 10) C dX9_order_10 cb_m2 ?_
    exact wr_i (pc := 12) C R dX9_order_12 rfl h
set_option maxRecDepth 20000 in
set_option maxHeartbeats 4000000 in
theorem pX9_thins_L11 {Y : xY} {Z : xZ} {B : xB} {z : Int32 × xM} (C : xC (GX Y) Z B "BetweenStops" cX9_thins 5 6) (R : xRi (GX Y) B .int z) {k59 : Int32 → xM → Option (Int32 × xM)} {k85 : Int32 → xM → Option (Int32 × xM)}
    (hk59 : ∀ (a1 : Int32) (s : xM), k59 a1 s = some z → xWS (GX Y) B 5 s [(1, .int a1)] 59 [])
    (hk85 : ∀ (a1 : Int32) (s : xM), k85 a1 s = some z → xWS (GX Y) B 5 s [(1, .int a1)] 85 []) : ∀ (n : Nat) (a1 : Int32) (a2 : Int32) (s : xM), fX9_thins_L11 k59 k85 n a1 a2 s = some z → xWS (GX Y) B 5 s [(0, .ref (Y.1 0)), (1, .int a1), (2, .int a2)] 11 [] := by
  intro n
  induction n with
  | zero =>
    intro a1 a2 s h
    rw [fX9_thins_L11] at h
    cases h
  | succ n ih =>
    intro a1 a2 s h
    rw [fX9_thins_L11] at h
    refine ws_iload_n (pc := 11) C dX9_thins_11 rfl 2 rfl ?_
    refine ws_bipush (pc := 12) C dX9_thins_12 cb_8 ?_
    refine ws_icmp_ge (pc := 14) (tgt := 85) C dX9_thins_14 (by decide) (fun c1 => ?_) (fun c1 => ?_)
    · have h := ite_t h c1
      refine ws_less [1] rfl ?_
      exact hk85 _ _ h
    · have h := ite_f h c1
      refine ws_aload_n (pc := 17) C dX9_thins_17 rfl 0 rfl ?_
      refine ws_getr (pc := 18) C dX9_thins_18 fd_X9_10 sf_BS_0 ?_
      obtain ⟨r2, s3, q4, h⟩ := bd_ok h
      refine wc_iV (pc := 21)  C [] [] (mX6_openSet q4) dX9_thins_21 mw_X6_openSet mv_X6_openSet kl_X9_207 so_town rfl rfl (Nat.le_of_ble_eq_true rfl) ⟨by decide, by decide⟩ ?_
      refine ws_istore_n (pc := 24) C dX9_thins_24 rfl (by decide) rfl ?_
      refine ws_aload_n (pc := 25) C dX9_thins_25 rfl 1 rfl ?_
      refine ws_iload_n (pc := 26) C dX9_thins_26 rfl 0 rfl ?_
      obtain ⟨r5, s6, q7, h⟩ := bd_ok h
      refine wc_iV (pc := 27)  C [.int r2] [] (mX9_givenUpOf q7) dX9_thins_27 mw_X9_givenUpOf mv_X9_givenUpOf kl_X9_307 so_BS rfl rfl (Nat.le_of_ble_eq_true rfl) ⟨by decide, by decide⟩ ?_
      refine ws_istore (pc := 30) C dX9_thins_30 (by decide) rfl ?_
      refine ws_iload (pc := 32) C dX9_thins_32 0 rfl ?_
      refine ws_iconst (pc := 34) C dX9_thins_34 ci_m1 ?_
      refine ws_icmp_eq (pc := 35) (tgt := 85) C dX9_thins_35 (by decide) (fun c8 => ?_) (fun c8 => ?_)
      · have h := ite_t h c8
        refine ws_less [3] rfl ?_
        exact hk85 _ _ h
      · have h := ite_f h c8
        refine ws_aload_n (pc := 38) C dX9_thins_38 rfl 2 rfl ?_
        refine ws_iload_n (pc := 39) C dX9_thins_39 rfl 1 rfl ?_
        refine ws_iconst (pc := 40) C dX9_thins_40 ci_1 ?_
        refine ws_iload (pc := 41) C dX9_thins_41 0 rfl ?_
        refine ws_ishl (pc := 43) C dX9_thins_43 ?_
        refine ws_iconst (pc := 44) C dX9_thins_44 ci_m1 ?_
        refine ws_ixor (pc := 45) C dX9_thins_45 ?_
        refine ws_iand (pc := 46) C dX9_thins_46 ?_
        obtain ⟨r9, s10, q11, h⟩ := bd_ok h
        refine wc_lV (pc := 47)  C [.int (r2 &&& (((1 : Int32) <<< (r5 &&& 31)) ^^^ (-1 : Int32)))] [] (mX9_totalOf q11) dX9_thins_47 mw_X9_totalOf mv_X9_totalOf kl_X9_262 so_BS rfl rfl (Nat.le_of_ble_eq_true rfl) ⟨by decide, by decide⟩ ?_
        refine ws_aload_n (pc := 50) C dX9_thins_50 rfl 2 rfl ?_
        refine ws_iload_n (pc := 51) C dX9_thins_51 rfl 1 rfl ?_
        obtain ⟨r12, s13, q14, h⟩ := bd_ok h
        refine wc_lV (pc := 52)  C [.int r2] [.long r9] (mX9_totalOf q14) dX9_thins_52 mw_X9_totalOf mv_X9_totalOf kl_X9_262 so_BS rfl rfl (Nat.le_of_ble_eq_true rfl) ⟨by decide, by decide⟩ ?_
        refine ws_lcmp (pc := 55) C dX9_thins_55 ?_
        refine ws_if_le (pc := 56) (tgt := 62) C dX9_thins_56 (by decide) (fun c15 => ?_) (fun c15 => ?_)
        · have h := ite_t h c15
          refine ws_aload_n (pc := 62) C dX9_thins_62 rfl 2 rfl ?_
          refine ws_getr (pc := 63) C dX9_thins_63 fd_X9_10 sf_BS_0 ?_
          refine ws_getr (pc := 66) C dX9_thins_66 fd_X9_154 sf_town_6 ?_
          refine ws_iload (pc := 69) C dX9_thins_69 0 rfl ?_
          obtain ⟨g16, h⟩ := gd_ok h
          refine ws_aaldK (q := (11 + r5.toNatClampNeg)) (pc := 71) C dX9_thins_71 (by decide) sq_stops g16 rfl rfl ?_
          refine ws_iconst (pc := 72) C dX9_thins_72 ci_0 ?_
          obtain ⟨s17, e18, h⟩ := lz_ok h
          refine ws_putZ (pc := 73) C dX9_thins_73 fp_X9_167 (sf_stop_5 (inb_lt g16)) isZ0 e18 ?_
          refine ws_iinc (j := 3) (pc := 76) C dX9_thins_76 rfl (cn_1 _) (by decide) rfl ?_
          refine ws_iinc (j := 4) (pc := 79) C dX9_thins_79 rfl (cn_1 _) (by decide) rfl ?_
          refine ws_goto (pc := 82) (tgt := 11) C dX9_thins_82 (by decide) ?_
          refine ws_less [4, 1, 0] rfl ?_
          exact ih _ _ _ h
        · have h := ite_f h c15
          refine ws_less [3] rfl ?_
          exact hk59 _ _ h
set_option maxRecDepth 20000 in
set_option maxHeartbeats 4000000 in
theorem mX9_thins {Y : xY} {Z : xZ} {s : xM} {z : Int32 × xM} (h : fX9_thins s = some z) : xMi (GX Y) Z yX9_thins cX9_thins 5 6 .int [.ref (Y.1 0)] s z := by
  refine xMi_of (by decide) (Nat.le_of_ble_eq_true rfl) (fun B C R => ?_)
  have C : xC (GX Y) Z B "BetweenStops" cX9_thins 5 6 := C
  show xWS (GX Y) B 5 s [(0, .ref (Y.1 0))] 0 []
  unfold fX9_thins at h
  refine ws_aload_n (pc := 0) C dX9_thins_0 rfl 0 rfl ?_
  refine ws_getr (pc := 1) C dX9_thins_1 fd_X9_21 sf_BS_1 ?_
  obtain ⟨r1, s2, q3, h⟩ := bd_ok h
  refine wc_vV (pc := 4)  C [] [] (mX8_measure q3) dX9_thins_4 mw_X8_measure mv_X8_measure kl_X9_254 so_ways rfl rfl (Nat.le_of_ble_eq_true rfl) ⟨by decide, by decide⟩ ?_
  refine ws_iconst (pc := 7) C dX9_thins_7 ci_0 ?_
  refine ws_istore_n (pc := 8) C dX9_thins_8 rfl (by decide) rfl ?_
  refine ws_iconst (pc := 9) C dX9_thins_9 ci_0 ?_
  refine ws_istore_n (pc := 10) C dX9_thins_10 rfl (by decide) rfl ?_
  refine ws_less [2, 1, 0] rfl ?_
  refine pX9_thins_L11 C R (fun x4 s5 h => ?_) (fun x6 s7 h => ?_) fu _ _ _ h
  · refine ws_goto (pc := 59) (tgt := 85) C dX9_thins_59 (by decide) ?_
    refine ws_iload_n (pc := 85) C dX9_thins_85 rfl 0 rfl ?_
    exact wr_i (pc := 86) C R dX9_thins_86 rfl h
  · refine ws_iload_n (pc := 85) C dX9_thins_85 rfl 0 rfl ?_
    exact wr_i (pc := 86) C R dX9_thins_86 rfl h
set_option maxRecDepth 20000 in
set_option maxHeartbeats 4000000 in
theorem mX9_across {Y : xY} {Z : xZ} {a1 : Int32} {s : xM} {z : Int64 × xM} (h : fX9_across a1 s = some z) : xMl (GX Y) Z yX9_across cX9_across 4 6 [.ref (Y.1 0), .int a1] s z := by
  refine xMl_of (by decide) (Nat.le_of_ble_eq_true rfl) (fun B C R => ?_)
  have C : xC (GX Y) Z B "BetweenStops" cX9_across 4 6 := C
  show xWS (GX Y) B 4 s [(0, .ref (Y.1 0)), (1, .int a1)] 0 []
  unfold fX9_across at h
  refine ws_aload_n (pc := 0) C dX9_across_0 rfl 0 rfl ?_
  refine ws_iload_n (pc := 1) C dX9_across_1 rfl 1 rfl ?_
  obtain ⟨r1, s2, q3, h⟩ := bd_ok h
  refine wc_iV (pc := 2)  C [.int a1] [] (mX9_isStop q3) dX9_across_2 mw_X9_isStop mv_X9_isStop kl_X9_164 so_BS rfl rfl (Nat.le_of_ble_eq_true rfl) ⟨by decide, by decide⟩ ?_
  refine ws_if_eq (pc := 5) (tgt := 24) C dX9_across_5 (by decide) (fun c4 => ?_) (fun c4 => ?_)
  · have h := ite_t h c4
    refine ws_ldc2 (pc := 24) C dX9_across_24 kK_X9_239 ?_
    exact wr_l (pc := 27) C R dX9_across_27 h
  · have h := ite_f h c4
    refine ws_aload_n (pc := 8) C dX9_across_8 rfl 0 rfl ?_
    refine ws_getr (pc := 9) C dX9_across_9 fd_X9_10 sf_BS_0 ?_
    refine ws_getr (pc := 12) C dX9_across_12 fd_X9_154 sf_town_6 ?_
    refine ws_iload_n (pc := 15) C dX9_across_15 rfl 1 rfl ?_
    obtain ⟨g5, h⟩ := gd_ok h
    refine ws_aaldK (q := (11 + a1.toNatClampNeg)) (pc := 16) C dX9_across_16 (by decide) sq_stops g5 rfl rfl ?_
    refine ws_geti (pc := 17) C dX9_across_17 fd_X9_181 (sf_stop_0 (inb_lt g5)) ?_
    refine ws_iconst (pc := 20) C dX9_across_20 ci_3 ?_
    refine ws_icmp_eq (pc := 21) (tgt := 28) C dX9_across_21 (by decide) (fun c6 => ?_) (fun c6 => ?_)
    · have h := ite_t h c6
      refine ws_aload_n (pc := 28) C dX9_across_28 rfl 0 rfl ?_
      obtain ⟨r7, s8, q9, h⟩ := bd_ok h
      refine wc_vV (pc := 29)  C [] [] (mX9_lookAtNow q9) dX9_across_29 mw_X9_lookAtNow mv_X9_lookAtNow kl_X9_218 so_BS rfl rfl (Nat.le_of_ble_eq_true rfl) ⟨by decide, by decide⟩ ?_
      refine ws_aload_n (pc := 32) C dX9_across_32 rfl 0 rfl ?_
      refine ws_getr (pc := 33) C dX9_across_33 fd_X9_21 sf_BS_1 ?_
      obtain ⟨r10, s11, q12, h⟩ := bd_ok h
      refine wc_lV (pc := 36)  C [] [] (mX8_total q12) dX9_across_36 mw_X8_total mv_X8_total kl_X9_241 so_ways rfl rfl (Nat.le_of_ble_eq_true rfl) ⟨by decide, by decide⟩ ?_
      refine ws_lstore_n (pc := 39) C dX9_across_39 rfl (by decide) rfl ?_
      refine ws_aload_n (pc := 40) C dX9_across_40 rfl 1 rfl ?_
      refine ws_getr (pc := 41) C dX9_across_41 fd_X9_21 sf_BS_1 ?_
      refine ws_getr (pc := 44) C dX9_across_44 fd_X9_310 sf_ways_2 ?_
      refine ws_iload_n (pc := 47) C dX9_across_47 rfl 2 rfl ?_
      refine ws_aload_n (pc := 48) C dX9_across_48 rfl 1 rfl ?_
      refine ws_getr (pc := 49) C dX9_across_49 fd_X9_10 sf_BS_0 ?_
      refine ws_getr (pc := 52) C dX9_across_52 fd_X9_154 sf_town_6 ?_
      refine ws_iload_n (pc := 55) C dX9_across_55 rfl 2 rfl ?_
      obtain ⟨g13, h⟩ := gd_ok h
      refine ws_aaldK (q := (11 + a1.toNatClampNeg)) (pc := 56) C dX9_across_56 (by decide) sq_stops g13 rfl rfl ?_
      refine ws_geti (pc := 57) C dX9_across_57 fd_X9_313 (sf_stop_3 (inb_lt g13)) ?_
      obtain ⟨g14, h⟩ := gd_ok h
      obtain ⟨s15, e16, h⟩ := lz_ok h
      refine ws_iastK (pc := 60) C dX9_across_60 sr_w_seconds g14 rfl e16 ?_
      refine ws_lload_n (pc := 61) C dX9_across_61 rfl 0 rfl ?_
      refine ws_aload_n (pc := 62) C dX9_across_62 rfl 1 rfl ?_
      refine ws_aload_n (pc := 63) C dX9_across_63 rfl 1 rfl ?_
      refine ws_getr (pc := 64) C dX9_across_64 fd_X9_10 sf_BS_0 ?_
      obtain ⟨r17, s18, q19, h⟩ := bd_ok h
      refine wc_iV (pc := 67)  C [] [.ref (Y.1 0), .long r10] (mX6_openSet q19) dX9_across_67 mw_X6_openSet mv_X6_openSet kl_X9_207 so_town rfl rfl (Nat.le_of_ble_eq_true rfl) ⟨by decide, by decide⟩ ?_
      obtain ⟨r20, s21, q22, h⟩ := bd_ok h
      refine wc_lV (pc := 70)  C [.int r17] [.long r10] (mX9_totalOf q22) dX9_across_70 mw_X9_totalOf mv_X9_totalOf kl_X9_262 so_BS rfl rfl (Nat.le_of_ble_eq_true rfl) ⟨by decide, by decide⟩ ?_
      refine ws_lsub (pc := 73) C dX9_across_73 ?_
      exact wr_l (pc := 74) C R dX9_across_74 h
    · have h := ite_f h c6
      refine ws_ldc2 (pc := 24) C dX9_across_24 kK_X9_239 ?_
      exact wr_l (pc := 27) C R dX9_across_27 h
set_option maxRecDepth 20000 in
set_option maxHeartbeats 4000000 in
theorem pX9_homesIf_L19 {Y : xY} {Z : xZ} {B : xB} {z : Int32 × xM} (C : xC (GX Y) Z B "BetweenStops" cX9_homesIf 4 4) (R : xRi (GX Y) B .int z) {k158 : Int32 → xM → Option (Int32 × xM)}
    (hk158 : ∀ (a2 : Int32) (s : xM), k158 a2 s = some z → xWS (GX Y) B 4 s [(2, .int a2)] 158 []) : ∀ (n : Nat) (a2 : Int32) (a3 : Int32) (s : xM), fX9_homesIf_L19 k158 n a2 a3 s = some z → xWS (GX Y) B 4 s [(0, .ref (Y.1 0)), (2, .int a2), (3, .int a3)] 19 [] := by
  intro n
  induction n with
  | zero =>
    intro a2 a3 s h
    rw [fX9_homesIf_L19] at h
    cases h
  | succ n ih =>
    intro a2 a3 s h
    rw [fX9_homesIf_L19] at h
    refine ws_iload_n (pc := 19) C dX9_homesIf_19 rfl 2 rfl ?_
    refine ws_aload_n (pc := 20) C dX9_homesIf_20 rfl 0 rfl ?_
    refine ws_getr (pc := 21) C dX9_homesIf_21 fd_X9_10 sf_BS_0 ?_
    refine ws_geti (pc := 24) C dX9_homesIf_24 fd_X9_197 sf_town_9 ?_
    refine ws_icmp_ge (pc := 27) (tgt := 158) C dX9_homesIf_27 (by decide) (fun c1 => ?_) (fun c1 => ?_)
    · have h := ite_t h c1
      refine ws_less [1] rfl ?_
      exact hk158 _ _ h
    · have h := ite_f h c1
      refine ws_aload_n (pc := 30) C dX9_homesIf_30 rfl 0 rfl ?_
      refine ws_getr (pc := 31) C dX9_homesIf_31 fd_X9_67 sf_BS_9 ?_
      refine ws_iconst (pc := 34) C dX9_homesIf_34 ci_0 ?_
      refine ws_aload_n (pc := 35) C dX9_homesIf_35 rfl 0 rfl ?_
      refine ws_getr (pc := 36) C dX9_homesIf_36 fd_X9_21 sf_BS_1 ?_
      refine ws_getr (pc := 39) C dX9_homesIf_39 fd_X9_221 sf_ways_11 ?_
      refine ws_iload_n (pc := 42) C dX9_homesIf_42 rfl 2 rfl ?_
      obtain ⟨g2, h⟩ := gd_ok h
      refine ws_ialdK (pc := 43) C dX9_homesIf_43 sr_w_costs g2 rfl ?_
      obtain ⟨s3, e4, h⟩ := lz_ok h
      refine ws_iastK (pc := 44) C dX9_homesIf_44 sr_b_names (by decide) ck_0 e4 ?_
      refine ws_aload_n (pc := 45) C dX9_homesIf_45 rfl 0 rfl ?_
      refine ws_getr (pc := 46) C dX9_homesIf_46 fd_X9_67 sf_BS_9 ?_
      refine ws_iconst (pc := 49) C dX9_homesIf_49 ci_1 ?_
      refine ws_aload_n (pc := 50) C dX9_homesIf_50 rfl 0 rfl ?_
      refine ws_getr (pc := 51) C dX9_homesIf_51 fd_X9_21 sf_BS_1 ?_
      refine ws_getr (pc := 54) C dX9_homesIf_54 fd_X9_230 sf_ways_14 ?_
      refine ws_iload_n (pc := 57) C dX9_homesIf_57 rfl 2 rfl ?_
      obtain ⟨g5, h⟩ := gd_ok h
      refine ws_ialdK (pc := 58) C dX9_homesIf_58 sr_w_walked g5 rfl ?_
      obtain ⟨s6, e7, h⟩ := lz_ok h
      refine ws_iastK (pc := 59) C dX9_homesIf_59 sr_b_names (by decide) ck_1 e7 ?_
      refine ws_aload_n (pc := 60) C dX9_homesIf_60 rfl 0 rfl ?_
      refine ws_getr (pc := 61) C dX9_homesIf_61 fd_X9_67 sf_BS_9 ?_
      refine ws_iconst (pc := 64) C dX9_homesIf_64 ci_2 ?_
      refine ws_aload_n (pc := 65) C dX9_homesIf_65 rfl 0 rfl ?_
      refine ws_getr (pc := 66) C dX9_homesIf_66 fd_X9_21 sf_BS_1 ?_
      refine ws_getr (pc := 69) C dX9_homesIf_69 fd_X9_233 sf_ways_15 ?_
      refine ws_iload_n (pc := 72) C dX9_homesIf_72 rfl 2 rfl ?_
      obtain ⟨g8, h⟩ := gd_ok h
      refine ws_ialdK (pc := 73) C dX9_homesIf_73 sr_w_waited g8 rfl ?_
      obtain ⟨s9, e10, h⟩ := lz_ok h
      refine ws_iastK (pc := 74) C dX9_homesIf_74 sr_b_names (by decide) ck_2 e10 ?_
      refine ws_aload_n (pc := 75) C dX9_homesIf_75 rfl 0 rfl ?_
      refine ws_getr (pc := 76) C dX9_homesIf_76 fd_X9_67 sf_BS_9 ?_
      refine ws_iconst (pc := 79) C dX9_homesIf_79 ci_3 ?_
      refine ws_aload_n (pc := 80) C dX9_homesIf_80 rfl 0 rfl ?_
      refine ws_getr (pc := 81) C dX9_homesIf_81 fd_X9_21 sf_BS_1 ?_
      refine ws_getr (pc := 84) C dX9_homesIf_84 fd_X9_236 sf_ways_16 ?_
      refine ws_iload_n (pc := 87) C dX9_homesIf_87 rfl 2 rfl ?_
      obtain ⟨g11, h⟩ := gd_ok h
      refine ws_ialdK (pc := 88) C dX9_homesIf_88 sr_w_ridden g11 rfl ?_
      obtain ⟨s12, e13, h⟩ := lz_ok h
      refine ws_iastK (pc := 89) C dX9_homesIf_89 sr_b_names (by decide) ck_3 e13 ?_
      refine ws_aload_n (pc := 90) C dX9_homesIf_90 rfl 0 rfl ?_
      refine ws_getr (pc := 91) C dX9_homesIf_91 fd_X9_67 sf_BS_9 ?_
      refine ws_iconst (pc := 94) C dX9_homesIf_94 ci_4 ?_
      refine ws_aload_n (pc := 95) C dX9_homesIf_95 rfl 0 rfl ?_
      refine ws_getr (pc := 96) C dX9_homesIf_96 fd_X9_10 sf_BS_0 ?_
      refine ws_getr (pc := 99) C dX9_homesIf_99 fd_X9_200 sf_town_8 ?_
      refine ws_iload_n (pc := 102) C dX9_homesIf_102 rfl 2 rfl ?_
      obtain ⟨g14, h⟩ := gd_ok h
      refine ws_aaldK (q := (19 + a3.toNatClampNeg)) (pc := 103) C dX9_homesIf_103 (by decide) sq_trips g14 rfl rfl ?_
      refine ws_geti (pc := 104) C dX9_homesIf_104 fd_X9_365 (sf_trip_2 (inb_lt g14)) ?_
      obtain ⟨s15, e16, h⟩ := lz_ok h
      refine ws_iastK (pc := 107) C dX9_homesIf_107 sr_b_names (by decide) ck_4 e16 ?_
      refine ws_aload_n (pc := 108) C dX9_homesIf_108 rfl 0 rfl ?_
      refine ws_getr (pc := 109) C dX9_homesIf_109 fd_X9_67 sf_BS_9 ?_
      refine ws_iconst (pc := 112) C dX9_homesIf_112 ci_5 ?_
      refine ws_aload_n (pc := 113) C dX9_homesIf_113 rfl 0 rfl ?_
      refine ws_getr (pc := 114) C dX9_homesIf_114 fd_X9_10 sf_BS_0 ?_
      refine ws_getr (pc := 117) C dX9_homesIf_117 fd_X9_200 sf_town_8 ?_
      refine ws_iload_n (pc := 120) C dX9_homesIf_120 rfl 2 rfl ?_
      obtain ⟨g17, h⟩ := gd_ok h
      refine ws_aaldK (q := (19 + a3.toNatClampNeg)) (pc := 121) C dX9_homesIf_121 (by decide) sq_trips g17 rfl rfl ?_
      refine ws_geti (pc := 122) C dX9_homesIf_122 fd_X9_290 (sf_trip_3 (inb_lt g17)) ?_
      obtain ⟨s18, e19, h⟩ := lz_ok h
      refine ws_iastK (pc := 125) C dX9_homesIf_125 sr_b_names (by decide) ck_5 e19 ?_
      refine ws_aload_n (pc := 126) C dX9_homesIf_126 rfl 0 rfl ?_
      refine ws_getr (pc := 127) C dX9_homesIf_127 fd_X9_43 sf_BS_4 ?_
      refine ws_aload_n (pc := 130) C dX9_homesIf_130 rfl 0 rfl ?_
      refine ws_geti (pc := 131) C dX9_homesIf_131 fd_X9_51 sf_BS_6 ?_
      obtain ⟨g20, h⟩ := gd_ok h
      refine ws_aaldK (q := (97 + 4 * (gi s18 0 6).toNatClampNeg)) (pc := 134) C dX9_homesIf_134 (by decide) sq_texts g20 rfl rfl ?_
      refine ws_iconst (pc := 135) C dX9_homesIf_135 ci_0 ?_
      refine ws_aload_n (pc := 136) C dX9_homesIf_136 rfl 0 rfl ?_
      refine ws_getr (pc := 137) C dX9_homesIf_137 fd_X9_67 sf_BS_9 ?_
      obtain ⟨r21, s22, q23, h⟩ := bd_ok h
      refine wc_iV (pc := 140)  C [.int (0 : Int32), .ref (Y.1 91)] [] (mX5_valueOf (inb_lt g20) q23) dX9_homesIf_140 mw_X5_valueOf mv_X5_valueOf kl_X9_380 (so_text (inb_lt g20)) rfl rfl (Nat.le_of_ble_eq_true rfl) ⟨by decide, by decide⟩ ?_
      refine ws_if_eq (pc := 143) (tgt := 152) C dX9_homesIf_143 (by decide) (fun c24 => ?_) (fun c24 => ?_)
      · have h := ite_t h c24
        refine ws_iinc (j := 2) (pc := 152) C dX9_homesIf_152 rfl (cn_1 _) (by decide) rfl ?_
        refine ws_goto (pc := 155) (tgt := 19) C dX9_homesIf_155 (by decide) ?_
        refine ws_less [1, 2, 0] rfl ?_
        exact ih _ _ _ h
      · have h := ite_f h c24
        refine ws_iload_n (pc := 146) C dX9_homesIf_146 rfl 1 rfl ?_
        refine ws_iconst (pc := 147) C dX9_homesIf_147 ci_1 ?_
        refine ws_iload_n (pc := 148) C dX9_homesIf_148 rfl 2 rfl ?_
        refine ws_ishl (pc := 149) C dX9_homesIf_149 ?_
        refine ws_ior (pc := 150) C dX9_homesIf_150 ?_
        obtain ⟨v25, e26, h⟩ := lz_ok h
        refine ws_topi C e26 ?_
        refine ws_istore_n (pc := 151) C dX9_homesIf_151 rfl (by decide) rfl ?_
        refine ws_iinc (j := 2) (pc := 152) C dX9_homesIf_152 rfl (cn_1 _) (by decide) rfl ?_
        refine ws_goto (pc := 155) (tgt := 19) C dX9_homesIf_155 (by decide) ?_
        refine ws_less [2, 1, 0] rfl ?_
        exact ih _ _ _ h
set_option maxRecDepth 20000 in
set_option maxHeartbeats 4000000 in
theorem mX9_homesIf {Y : xY} {Z : xZ} {a1 : Int32} {s : xM} {z : Int32 × xM} (h : fX9_homesIf a1 s = some z) : xMi (GX Y) Z yX9_homesIf cX9_homesIf 4 4 .int [.ref (Y.1 0), .int a1] s z := by
  refine xMi_of (by decide) (Nat.le_of_ble_eq_true rfl) (fun B C R => ?_)
  have C : xC (GX Y) Z B "BetweenStops" cX9_homesIf 4 4 := C
  show xWS (GX Y) B 4 s [(0, .ref (Y.1 0)), (1, .int a1)] 0 []
  unfold fX9_homesIf at h
  refine ws_aload_n (pc := 0) C dX9_homesIf_0 rfl 0 rfl ?_
  refine ws_getr (pc := 1) C dX9_homesIf_1 fd_X9_21 sf_BS_1 ?_
  refine ws_aload_n (pc := 4) C dX9_homesIf_4 rfl 0 rfl ?_
  refine ws_getr (pc := 5) C dX9_homesIf_5 fd_X9_10 sf_BS_0 ?_
  obtain ⟨r1, s2, q3, h⟩ := bd_ok h
  refine wc_iV (pc := 8)  C [] [.ref (Y.1 27)] (mX6_openSet q3) dX9_homesIf_8 mw_X6_openSet mv_X6_openSet kl_X9_207 so_town rfl rfl (Nat.le_of_ble_eq_true rfl) ⟨by decide, by decide⟩ ?_
  refine ws_iload_n (pc := 11) C dX9_homesIf_11 rfl 1 rfl ?_
  obtain ⟨r4, s5, q6, h⟩ := bd_ok h
  refine wc_vV (pc := 12)  C [.int r1, .int a1] [] (mX8_look q6) dX9_homesIf_12 mw_X8_look mv_X8_look kl_X9_274 so_ways rfl rfl (Nat.le_of_ble_eq_true rfl) ⟨by decide, by decide⟩ ?_
  refine ws_iconst (pc := 15) C dX9_homesIf_15 ci_0 ?_
  refine ws_istore_n (pc := 16) C dX9_homesIf_16 rfl (by decide) rfl ?_
  refine ws_iconst (pc := 17) C dX9_homesIf_17 ci_0 ?_
  refine ws_istore_n (pc := 18) C dX9_homesIf_18 rfl (by decide) rfl ?_
  refine ws_less [2, 1, 0] rfl ?_
  refine pX9_homesIf_L19 C R (fun x7 s8 h => ?_) fu _ _ _ h
  · refine ws_iload_n (pc := 158) C dX9_homesIf_158 rfl 0 rfl ?_
    exact wr_i (pc := 159) C R dX9_homesIf_159 rfl h
