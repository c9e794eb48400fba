set_option maxRecDepth 20000 in
set_option maxHeartbeats 4000000 in
theorem mX10_first {Y : xY} {Z : xZ} {a1 : Int32} {a2 : Int32} {a3 : Int32} {a4 : Int32} {a5 : Int32} {s : xM} {z : Int32 × xM} (h : fX10_first a1 a2 a3 a4 a5 s = some z) : xMv (GM Y) Z yX10_first cX10_first 6 1 [.ref (Y.1 0), .int a1, .int a2, .int a3, .int a4, .int a5] s z := by
  refine xMv_of (by decide) (Nat.le_of_ble_eq_true rfl) (fun B C R => ?_)
  have C : xC (GM Y) Z B "BetweenStopsModel" cX10_first 6 1 := C
  show xWS (GM Y) B 6 s [(0, .ref (Y.1 0)), (1, .int a1), (2, .int a2), (3, .int a3), (4, .int a4), (5, .int a5)] 0 []
  unfold fX10_first at h
  refine ws_aload_n (pc := 0) C dX10_first_0 rfl 0 rfl ?_
  refine ws_getr (pc := 1) C dX10_first_1 fd_X10_59 sf_M_19 ?_
  refine ws_iload_n (pc := 4) C dX10_first_4 rfl 1 rfl ?_
  refine ws_iload_n (pc := 5) C dX10_first_5 rfl 2 rfl ?_
  obtain ⟨g1, h⟩ := gd_ok h
  obtain ⟨s2, e3, h⟩ := lz_ok h
  refine ws_iastK (pc := 6) C dX10_first_6 sr_m_codes g1 rfl e3 ?_
  refine ws_aload_n (pc := 7) C dX10_first_7 rfl 0 rfl ?_
  refine ws_getr (pc := 8) C dX10_first_8 fd_X10_59 sf_M_19 ?_
  refine ws_iload_n (pc := 11) C dX10_first_11 rfl 1 rfl ?_
  refine ws_iconst (pc := 12) C dX10_first_12 ci_1 ?_
  refine ws_iadd (pc := 13) C dX10_first_13 ?_
  refine ws_iload_n (pc := 14) C dX10_first_14 rfl 3 rfl ?_
  obtain ⟨g4, h⟩ := gd_ok h
  obtain ⟨s5, e6, h⟩ := lz_ok h
  refine ws_iastK (pc := 15) C dX10_first_15 sr_m_codes g4 rfl e6 ?_
  refine ws_aload_n (pc := 16) C dX10_first_16 rfl 0 rfl ?_
  refine ws_getr (pc := 17) C dX10_first_17 fd_X10_59 sf_M_19 ?_
  refine ws_iload_n (pc := 20) C dX10_first_20 rfl 1 rfl ?_
  refine ws_iconst (pc := 21) C dX10_first_21 ci_2 ?_
  refine ws_iadd (pc := 22) C dX10_first_22 ?_
  refine ws_iload (pc := 23) C dX10_first_23 4 rfl ?_
  obtain ⟨g7, h⟩ := gd_ok h
  obtain ⟨s8, e9, h⟩ := lz_ok h
  refine ws_iastK (pc := 25) C dX10_first_25 sr_m_codes g7 rfl e9 ?_
  refine ws_aload_n (pc := 26) C dX10_first_26 rfl 0 rfl ?_
  refine ws_getr (pc := 27) C dX10_first_27 fd_X10_59 sf_M_19 ?_
  refine ws_iload_n (pc := 30) C dX10_first_30 rfl 1 rfl ?_
  refine ws_iconst (pc := 31) C dX10_first_31 ci_3 ?_
  refine ws_iadd (pc := 32) C dX10_first_32 ?_
  refine ws_iload (pc := 33) C dX10_first_33 5 rfl ?_
  obtain ⟨g10, h⟩ := gd_ok h
  obtain ⟨s11, e12, h⟩ := lz_ok h
  refine ws_iastK (pc := 35) C dX10_first_35 sr_m_codes g10 rfl e12 ?_
  exact wr_v (pc := 36) C R dX10_first_36 h
set_option maxRecDepth 20000 in
set_option maxHeartbeats 4000000 in
theorem mX10_in {Y : xY} {Z : xZ} {a0 : Int32} {a1 : Int32} {a2 : Int32} {s : xM} {z : Int32 × xM} (h : fX10_in a0 a1 a2 s = some z) : xMi (GM Y) Z yX10_in cX10_in 3 1 .boolean [.int a0, .int a1, .int a2] s z := by
  refine xMi_of (by decide) (Nat.le_of_ble_eq_true rfl) (fun B C R => ?_)
  have C : xC (GM Y) Z B "BetweenStopsModel" cX10_in 3 1 := C
  show xWS (GM Y) B 3 s [(0, .int a0), (1, .int a1), (2, .int a2)] 0 []
  unfold fX10_in at h
  refine ws_iload_n (pc := 0) C dX10_in_0 rfl 0 rfl ?_
  refine ws_iload_n (pc := 1) C dX10_in_1 rfl 1 rfl ?_
  refine ws_icmp_lt (pc := 2) (tgt := 14) C dX10_in_2 (by decide) (fun c1 => ?_) (fun c1 => ?_)
  · have h := ite_t h c1
    refine ws_iconst (pc := 14) C dX10_in_14 ci_0 ?_
    exact wr_i (pc := 15) C R dX10_in_15 (isZ_nar isZ0) h
  · have h := ite_f h c1
    refine ws_iload_n (pc := 5) C dX10_in_5 rfl 0 rfl ?_
    refine ws_iload_n (pc := 6) C dX10_in_6 rfl 2 rfl ?_
    refine ws_icmp_gt (pc := 7) (tgt := 14) C dX10_in_7 (by decide) (fun c2 => ?_) (fun c2 => ?_)
    · have h := ite_t h c2
      refine ws_iconst (pc := 14) C dX10_in_14 ci_0 ?_
      exact wr_i (pc := 15) C R dX10_in_15 (isZ_nar isZ0) h
    · have h := ite_f h c2
      refine ws_iconst (pc := 10) C dX10_in_10 ci_1 ?_
      refine ws_goto (pc := 11) (tgt := 15) C dX10_in_11 (by decide) ?_
      exact wr_i (pc := 15) C R dX10_in_15 (isZ_nar isZ1) h
set_option maxRecDepth 20000 in
set_option maxHeartbeats 4000000 in
theorem mX10_isCell {Y : xY} {Z : xZ} {a0 : Int32} {s : xM} {z : Int32 × xM} (h : fX10_isCell a0 s = some z) : xMi (GM Y) Z yX10_isCell cX10_isCell 1 2 .boolean [.int a0] s z := by
  refine xMi_of (by decide) (Nat.le_of_ble_eq_true rfl) (fun B C R => ?_)
  have C : xC (GM Y) Z B "BetweenStopsModel" cX10_isCell 1 2 := C
  show xWS (GM Y) B 1 s [(0, .int a0)] 0 []
  unfold fX10_isCell at h
  refine ws_iload_n (pc := 0) C dX10_isCell_0 rfl 0 rfl ?_
  refine ws_iconst (pc := 1) C dX10_isCell_1 ci_0 ?_
  refine ws_bipush (pc := 2) C dX10_isCell_2 cb_40 ?_
  obtain ⟨r1, s2, q3, h⟩ := bd_ok h
  refine wc_iS (pc := 4)  C [.int a0, .int (0 : Int32), .int (40 : Int32)] [] (mX10_in q3) dX10_isCell_4 mw_X10_in ks_X10_in kl_X10_162 rfl rfl (Nat.le_of_ble_eq_true rfl) ⟨by decide, by decide⟩ ?_
  obtain ⟨g4, h⟩ := gd_ok h
  exact wr_i (pc := 7) C R dX10_isCell_7 (isZ_nar g4) h
set_option maxRecDepth 20000 in
set_option maxHeartbeats 4000000 in
theorem mX10_isStop {Y : xY} {Z : xZ} {a1 : Int32} {s : xM} {z : Int32 × xM} (h : fX10_isStop a1 s = some z) : xMi (GM Y) Z yX10_isStop cX10_isStop 2 2 .boolean [.ref (Y.1 0), .int a1] s z := by
  refine xMi_of (by decide) (Nat.le_of_ble_eq_true rfl) (fun B C R => ?_)
  have C : xC (GM Y) Z B "BetweenStopsModel" cX10_isStop 2 2 := C
  show xWS (GM Y) B 2 s [(0, .ref (Y.1 0)), (1, .int a1)] 0 []
  unfold fX10_isStop at h
  refine ws_iload_n (pc := 0) C dX10_isStop_0 rfl 1 rfl ?_
  refine ws_iconst (pc := 1) C dX10_isStop_1 ci_0 ?_
  refine ws_aload_n (pc := 2) C dX10_isStop_2 rfl 0 rfl ?_
  refine ws_geti (pc := 3) C dX10_isStop_3 fd_X10_166 sf_M_4 ?_
  refine ws_iconst (pc := 6) C dX10_isStop_6 ci_1 ?_
  refine ws_isub (pc := 7) C dX10_isStop_7 ?_
  obtain ⟨r1, s2, q3, h⟩ := bd_ok h
  refine wc_iS (pc := 8)  C [.int a1, .int (0 : Int32), .int ((gi s 0 4) - (1 : Int32))] [] (mX10_in q3) dX10_isStop_8 mw_X10_in ks_X10_in kl_X10_162 rfl rfl (Nat.le_of_ble_eq_true rfl) ⟨by decide, by decide⟩ ?_
  obtain ⟨g4, h⟩ := gd_ok h
  exact wr_i (pc := 11) C R dX10_isStop_11 (isZ_nar g4) h
set_option maxRecDepth 20000 in
set_option maxHeartbeats 4000000 in
theorem mX10_isTrip {Y : xY} {Z : xZ} {a1 : Int32} {s : xM} {z : Int32 × xM} (h : fX10_isTrip a1 s = some z) : xMi (GM Y) Z yX10_isTrip cX10_isTrip 2 2 .boolean [.ref (Y.1 0), .int a1] s z := by
  refine xMi_of (by decide) (Nat.le_of_ble_eq_true rfl) (fun B C R => ?_)
  have C : xC (GM Y) Z B "BetweenStopsModel" cX10_isTrip 2 2 := C
  show xWS (GM Y) B 2 s [(0, .ref (Y.1 0)), (1, .int a1)] 0 []
  unfold fX10_isTrip at h
  refine ws_iload_n (pc := 0) C dX10_isTrip_0 rfl 1 rfl ?_
  refine ws_iconst (pc := 1) C dX10_isTrip_1 ci_0 ?_
  refine ws_aload_n (pc := 2) C dX10_isTrip_2 rfl 0 rfl ?_
  refine ws_geti (pc := 3) C dX10_isTrip_3 fd_X10_169 sf_M_12 ?_
  refine ws_iconst (pc := 6) C dX10_isTrip_6 ci_1 ?_
  refine ws_isub (pc := 7) C dX10_isTrip_7 ?_
  obtain ⟨r1, s2, q3, h⟩ := bd_ok h
  refine wc_iS (pc := 8)  C [.int a1, .int (0 : Int32), .int ((gi s 0 12) - (1 : Int32))] [] (mX10_in q3) dX10_isTrip_8 mw_X10_in ks_X10_in kl_X10_162 rfl rfl (Nat.le_of_ble_eq_true rfl) ⟨by decide, by decide⟩ ?_
  obtain ⟨g4, h⟩ := gd_ok h
  exact wr_i (pc := 11) C R dX10_isTrip_11 (isZ_nar g4) h
set_option maxRecDepth 20000 in
set_option maxHeartbeats 4000000 in
theorem mX10_road {Y : xY} {Z : xZ} {a1 : Int32} {a2 : Int32} {s : xM} {z : Int32 × xM} (h : fX10_road a1 a2 s = some z) : xMi (GM Y) Z yX10_road cX10_road 4 3 .int [.ref (Y.1 0), .int a1, .int a2] s z := by
  refine xMi_of (by decide) (Nat.le_of_ble_eq_true rfl) (fun B C R => ?_)
  have C : xC (GM Y) Z B "BetweenStopsModel" cX10_road 4 3 := C
  show xWS (GM Y) B 4 s [(0, .ref (Y.1 0)), (1, .int a1), (2, .int a2)] 0 []
  unfold fX10_road at h
  refine ws_iload_n (pc := 0) C dX10_road_0 rfl 1 rfl ?_
  obtain ⟨r1, s2, q3, h⟩ := bd_ok h
  refine wc_iS (pc := 1)  C [.int a1] [] (mX10_isCell q3) dX10_road_1 mw_X10_isCell ks_X10_isCell kl_X10_172 rfl rfl (Nat.le_of_ble_eq_true rfl) ⟨by decide, by decide⟩ ?_
  refine ws_if_ne (pc := 4) (tgt := 9) C dX10_road_4 (by decide) (fun c4 => ?_) (fun c4 => ?_)
  · have h := ite_f h c4
    refine ws_iload_n (pc := 9) C dX10_road_9 rfl 2 rfl ?_
    refine ws_iconst (pc := 10) C dX10_road_10 ci_0 ?_
    refine ws_bipush (pc := 11) C dX10_road_11 cb_9 ?_
    obtain ⟨r5, s6, q7, h⟩ := bd_ok h
    refine wc_iS (pc := 13)  C [.int a2, .int (0 : Int32), .int (9 : Int32)] [] (mX10_in q7) dX10_road_13 mw_X10_in ks_X10_in kl_X10_162 rfl rfl (Nat.le_of_ble_eq_true rfl) ⟨by decide, by decide⟩ ?_
    refine ws_if_ne (pc := 16) (tgt := 22) C dX10_road_16 (by decide) (fun c8 => ?_) (fun c8 => ?_)
    · have h := ite_f h c8
      refine ws_aload_n (pc := 22) C dX10_road_22 rfl 0 rfl ?_
      refine ws_getr (pc := 23) C dX10_road_23 fd_X10_7 sf_M_0 ?_
      refine ws_iload_n (pc := 26) C dX10_road_26 rfl 1 rfl ?_
      obtain ⟨g9, h⟩ := gd_ok h
      refine ws_ialdK (pc := 27) C dX10_road_27 sr_m_height g9 rfl ?_
      obtain ⟨v10, e11, h⟩ := lz_ok h
      refine ws_topi C e11 ?_
      refine ws_istore_n (pc := 28) C dX10_road_28 rfl (by decide) rfl ?_
      refine ws_aload_n (pc := 29) C dX10_road_29 rfl 1 rfl ?_
      refine ws_getr (pc := 30) C dX10_road_30 fd_X10_7 sf_M_0 ?_
      refine ws_iload_n (pc := 33) C dX10_road_33 rfl 2 rfl ?_
      refine ws_iload_n (pc := 34) C dX10_road_34 rfl 3 rfl ?_
      obtain ⟨g12, h⟩ := gd_ok h
      obtain ⟨s13, e14, h⟩ := lz_ok h
      refine ws_iastK (pc := 35) C dX10_road_35 sr_m_height g12 rfl e14 ?_
      refine ws_iload_n (pc := 36) C dX10_road_36 rfl 0 rfl ?_
      exact wr_i (pc := 37) C R dX10_road_37 rfl h
    · have h := ite_t h c8
      refine ws_bipush (pc := 19) C dX10_road_19 cb_m2 ?_
      exact wr_i (pc := 21) C R dX10_road_21 rfl h
  · have h := ite_t h c4
    refine ws_iconst (pc := 7) C dX10_road_7 ci_m1 ?_
    exact wr_i (pc := 8) C R dX10_road_8 rfl h
set_option maxRecDepth 20000 in
set_option maxHeartbeats 4000000 in
theorem pX10_sort_J80 {Y : xY} {Z : xZ} {B : xB} {z : Int32 × xM} (C : xC (GM Y) Z B "BetweenStopsModel" cX10_sort 6 2) (R : xRi (GM Y) B .int z) {a1 : Int32} {a2 : Int32} {a3 : Int32} {t0 : Int32} {s : xM} (h : fX10_sort_J80 a1 a2 a3 t0 s = some z) : xWS (GM Y) B 6 s [(0, .ref (Y.1 0)), (1, .int a1), (2, .int a2), (3, .int a3)] 80 [.int t0] := by
  unfold fX10_sort_J80 at h
  refine ws_istore (pc := 80) C dX10_sort_80 (by decide) rfl ?_
  refine ws_iload (pc := 82) C dX10_sort_82 0 rfl ?_
  refine ws_if_ne (pc := 84) (tgt := 90) C dX10_sort_84 (by decide) (fun c1 => ?_) (fun c1 => ?_)
  · have h := ite_f h c1
    refine ws_aload_n (pc := 90) C dX10_sort_90 rfl 1 rfl ?_
    refine ws_getr (pc := 91) C dX10_sort_91 fd_X10_13 sf_M_1 ?_
    refine ws_bipush (pc := 94) C dX10_sort_94 cb_6 ?_
    refine ws_iload_n (pc := 96) C dX10_sort_96 rfl 2 rfl ?_
    refine ws_imul (pc := 97) C dX10_sort_97 ?_
    refine ws_iload_n (pc := 98) C dX10_sort_98 rfl 3 rfl ?_
    refine ws_iadd (pc := 99) C dX10_sort_99 ?_
    obtain ⟨g2, h⟩ := gd_ok h
    refine ws_ialdK (pc := 100) C dX10_sort_100 sr_m_sorts g2 rfl ?_
    obtain ⟨v3, e4, h⟩ := lz_ok h
    refine ws_topi C e4 ?_
    refine ws_istore (pc := 101) C dX10_sort_101 (by decide) rfl ?_
    refine ws_aload_n (pc := 103) C dX10_sort_103 rfl 2 rfl ?_
    refine ws_getr (pc := 104) C dX10_sort_104 fd_X10_13 sf_M_1 ?_
    refine ws_bipush (pc := 107) C dX10_sort_107 cb_6 ?_
    refine ws_iload_n (pc := 109) C dX10_sort_109 rfl 3 rfl ?_
    refine ws_imul (pc := 110) C dX10_sort_110 ?_
    refine ws_iload_n (pc := 111) C dX10_sort_111 rfl 4 rfl ?_
    refine ws_iadd (pc := 112) C dX10_sort_112 ?_
    refine ws_iload_n (pc := 113) C dX10_sort_113 rfl 5 rfl ?_
    obtain ⟨g5, h⟩ := gd_ok h
    obtain ⟨s6, e7, h⟩ := lz_ok h
    refine ws_iastK (pc := 114) C dX10_sort_114 sr_m_sorts g5 rfl e7 ?_
    refine ws_iload (pc := 115) C dX10_sort_115 0 rfl ?_
    exact wr_i (pc := 117) C R dX10_sort_117 rfl h
  · have h := ite_t h c1
    refine ws_bipush (pc := 87) C dX10_sort_87 cb_m2 ?_
    exact wr_i (pc := 89) C R dX10_sort_89 rfl h
set_option maxRecDepth 20000 in
set_option maxHeartbeats 4000000 in
theorem pX10_sort_J79 {Y : xY} {Z : xZ} {B : xB} {z : Int32 × xM} (C : xC (GM Y) Z B "BetweenStopsModel" cX10_sort 6 2) (R : xRi (GM Y) B .int z) {a1 : Int32} {a2 : Int32} {a3 : Int32} {s : xM} (h : fX10_sort_J79 a1 a2 a3 s = some z) : xWS (GM Y) B 6 s [(0, .ref (Y.1 0)), (1, .int a1), (2, .int a2), (3, .int a3)] 79 [] := by
  unfold fX10_sort_J79 at h
  refine ws_iconst (pc := 79) C dX10_sort_79 ci_0 ?_
  refine ws_less [0, 1, 2, 3] rfl ?_
  exact pX10_sort_J80 C R h
set_option maxRecDepth 20000 in
set_option maxHeartbeats 4000000 in
theorem mX10_sort {Y : xY} {Z : xZ} {a1 : Int32} {a2 : Int32} {a3 : Int32} {s : xM} {z : Int32 × xM} (h : fX10_sort a1 a2 a3 s = some z) : xMi (GM Y) Z yX10_sort cX10_sort 6 2 .int [.ref (Y.1 0), .int a1, .int a2, .int a3] s z := by
  refine xMi_of (by decide) (Nat.le_of_ble_eq_true rfl) (fun B C R => ?_)
  have C : xC (GM Y) Z B "BetweenStopsModel" cX10_sort 6 2 := C
  show xWS (GM Y) B 6 s [(0, .ref (Y.1 0)), (1, .int a1), (2, .int a2), (3, .int a3)] 0 []
  unfold fX10_sort at h
  refine ws_iload_n (pc := 0) C dX10_sort_0 rfl 1 rfl ?_
  refine ws_iconst (pc := 1) C dX10_sort_1 ci_0 ?_
  refine ws_iconst (pc := 2) C dX10_sort_2 ci_2 ?_
  obtain ⟨r1, s2, q3, h⟩ := bd_ok h
  refine wc_iS (pc := 3)  C [.int a1, .int (0 : Int32), .int (2 : Int32)] [] (mX10_in q3) dX10_sort_3 mw_X10_in ks_X10_in kl_X10_162 rfl rfl (Nat.le_of_ble_eq_true rfl) ⟨by decide, by decide⟩ ?_
  refine ws_if_ne (pc := 6) (tgt := 11) C dX10_sort_6 (by decide) (fun c4 => ?_) (fun c4 => ?_)
  · have h := ite_f h c4
    refine ws_iload_n (pc := 11) C dX10_sort_11 rfl 2 rfl ?_
    refine ws_if_ne (pc := 12) (tgt := 25) C dX10_sort_12 (by decide) (fun c5 => ?_) (fun c5 => ?_)
    · have h := ite_f h c5
      refine ws_iload_n (pc := 25) C dX10_sort_25 rfl 2 rfl ?_
      refine ws_iconst (pc := 26) C dX10_sort_26 ci_1 ?_
      refine ws_icmp_ne (pc := 27) (tgt := 40) C dX10_sort_27 (by decide) (fun c6 => ?_) (fun c6 => ?_)
      · have h := ite_f h c6
        refine ws_iload_n (pc := 40) C dX10_sort_40 rfl 2 rfl ?_
        refine ws_iconst (pc := 41) C dX10_sort_41 ci_2 ?_
        refine ws_iconst (pc := 42) C dX10_sort_42 ci_4 ?_
        obtain ⟨r7, s8, q9, h⟩ := bd_ok h
        refine wc_iS (pc := 43)  C [.int a2, .int (2 : Int32), .int (4 : Int32)] [] (mX10_in q9) dX10_sort_43 mw_X10_in ks_X10_in kl_X10_162 rfl rfl (Nat.le_of_ble_eq_true rfl) ⟨by decide, by decide⟩ ?_
        refine ws_if_eq (pc := 46) (tgt := 59) C dX10_sort_46 (by decide) (fun c10 => ?_) (fun c10 => ?_)
        · have h := ite_t h c10
          refine ws_iload_n (pc := 59) C dX10_sort_59 rfl 2 rfl ?_
          refine ws_iconst (pc := 60) C dX10_sort_60 ci_5 ?_
          refine ws_icmp_ne (pc := 61) (tgt := 79) C dX10_sort_61 (by decide) (fun c11 => ?_) (fun c11 => ?_)
          · have h := ite_f h c11
            refine ws_less [0, 1, 2, 3] rfl ?_
            exact pX10_sort_J79 C R h
          · have h := ite_t h c11
            refine ws_iload_n (pc := 64) C dX10_sort_64 rfl 3 rfl ?_
            refine ws_iconst (pc := 65) C dX10_sort_65 ci_0 ?_
            refine ws_sipush (pc := 66) C dX10_sort_66 cs_9999 ?_
            obtain ⟨r12, s13, q14, h⟩ := bd_ok h
            refine wc_iS (pc := 69)  C [.int a3, .int (0 : Int32), .int (9999 : Int32)] [] (mX10_in q14) dX10_sort_69 mw_X10_in ks_X10_in kl_X10_162 rfl rfl (Nat.le_of_ble_eq_true rfl) ⟨by decide, by decide⟩ ?_
            refine ws_if_eq (pc := 72) (tgt := 79) C dX10_sort_72 (by decide) (fun c15 => ?_) (fun c15 => ?_)
            · have h := ite_t h c15
              refine ws_less [0, 1, 2, 3] rfl ?_
              exact pX10_sort_J79 C R h
            · have h := ite_f h c15
              refine ws_iconst (pc := 75) C dX10_sort_75 ci_1 ?_
              refine ws_goto (pc := 76) (tgt := 80) C dX10_sort_76 (by decide) ?_
              refine ws_less [0, 1, 2, 3] rfl ?_
              exact pX10_sort_J80 C R h
        · have h := ite_f h c10
          refine ws_iload_n (pc := 49) C dX10_sort_49 rfl 3 rfl ?_
          refine ws_iconst (pc := 50) C dX10_sort_50 ci_0 ?_
          refine ws_bipush (pc := 51) C dX10_sort_51 cb_9 ?_
          obtain ⟨r16, s17, q18, h⟩ := bd_ok h
          refine wc_iS (pc := 53)  C [.int a3, .int (0 : Int32), .int (9 : Int32)] [] (mX10_in q18) dX10_sort_53 mw_X10_in ks_X10_in kl_X10_162 rfl rfl (Nat.le_of_ble_eq_true rfl) ⟨by decide, by decide⟩ ?_
          refine ws_goto (pc := 56) (tgt := 80) C dX10_sort_56 (by decide) ?_
          refine ws_less [0, 1, 2, 3] rfl ?_
          exact pX10_sort_J80 C R h
      · have h := ite_t h c6
        refine ws_iload_n (pc := 30) C dX10_sort_30 rfl 3 rfl ?_
        refine ws_iconst (pc := 31) C dX10_sort_31 ci_0 ?_
        refine ws_bipush (pc := 32) C dX10_sort_32 cb_60 ?_
        obtain ⟨r19, s20, q21, h⟩ := bd_ok h
        refine wc_iS (pc := 34)  C [.int a3, .int (0 : Int32), .int (60 : Int32)] [] (mX10_in q21) dX10_sort_34 mw_X10_in ks_X10_in kl_X10_162 rfl rfl (Nat.le_of_ble_eq_true rfl) ⟨by decide, by decide⟩ ?_
        refine ws_goto (pc := 37) (tgt := 80) C dX10_sort_37 (by decide) ?_
        refine ws_less [0, 1, 2, 3] rfl ?_
        exact pX10_sort_J80 C R h
    · have h := ite_t h c5
      refine ws_iload_n (pc := 15) C dX10_sort_15 rfl 3 rfl ?_
      refine ws_iconst (pc := 16) C dX10_sort_16 ci_1 ?_
      refine ws_bipush (pc := 17) C dX10_sort_17 cb_60 ?_
      obtain ⟨r22, s23, q24, h⟩ := bd_ok h
      refine wc_iS (pc := 19)  C [.int a3, .int (1 : Int32), .int (60 : Int32)] [] (mX10_in q24) dX10_sort_19 mw_X10_in ks_X10_in kl_X10_162 rfl rfl (Nat.le_of_ble_eq_true rfl) ⟨by decide, by decide⟩ ?_
      refine ws_goto (pc := 22) (tgt := 80) C dX10_sort_22 (by decide) ?_
      refine ws_less [0, 1, 2, 3] rfl ?_
      exact pX10_sort_J80 C R h
  · have h := ite_t h c4
    refine ws_iconst (pc := 9) C dX10_sort_9 ci_m1 ?_
    exact wr_i (pc := 10) C R dX10_sort_10 rfl h
set_option maxRecDepth 20000 in
set_option maxHeartbeats 4000000 in
theorem pX10_car_J78 {Y : xY} {Z : xZ} {B : xB} {z : Int32 × xM} (C : xC (GM Y) Z B "BetweenStopsModel" cX10_car 4 2) (R : xRi (GM Y) B .int z) {a3 : Int32} {t0 : Int32} {s : xM} (h : fX10_car_J78 a3 t0 s = some z) : xWS (GM Y) B 4 s [(3, .int a3)] 78 [.int t0, .ref (Y.1 0)] := by
  unfold fX10_car_J78 at h
  obtain ⟨s1, e2, h⟩ := lz_ok h
  refine ws_putI (pc := 78) C dX10_car_78 fp_X10_20 sf_M_3 e2 ?_
  refine ws_iload_n (pc := 81) C dX10_car_81 rfl 0 rfl ?_
  exact wr_i (pc := 82) C R dX10_car_82 rfl h
set_option maxRecDepth 20000 in
set_option maxHeartbeats 4000000 in
theorem pX10_car_J61 {Y : xY} {Z : xZ} {B : xB} {z : Int32 × xM} (C : xC (GM Y) Z B "BetweenStopsModel" cX10_car 4 2) (R : xRi (GM Y) B .int z) {a1 : Int32} {a2 : Int32} {a3 : Int32} {t0 : Int32} {s : xM} (h : fX10_car_J61 a1 a2 a3 t0 s = some z) : xWS (GM Y) B 4 s [(0, .ref (Y.1 0)), (1, .int a1), (2, .int a2), (3, .int a3)] 61 [.int t0, .ref (Y.1 0)] := by
  unfold fX10_car_J61 at h
  obtain ⟨s1, e2, h⟩ := lz_ok h
  refine ws_putI (pc := 61) C dX10_car_61 fp_X10_16 sf_M_2 e2 ?_
  refine ws_aload_n (pc := 64) C dX10_car_64 rfl 0 rfl ?_
  refine ws_iload_n (pc := 65) C dX10_car_65 rfl 1 rfl ?_
  refine ws_iconst (pc := 66) C dX10_car_66 ci_1 ?_
  refine ws_icmp_ne (pc := 67) (tgt := 74) C dX10_car_67 (by decide) (fun c3 => ?_) (fun c3 => ?_)
  · have h := ite_f h c3
    refine ws_aload_n (pc := 74) C dX10_car_74 rfl 0 rfl ?_
    refine ws_geti (pc := 75) C dX10_car_75 fd_X10_20 sf_M_3 ?_
    refine ws_less [3] rfl ?_
    exact pX10_car_J78 C R h
  · have h := ite_t h c3
    refine ws_iload_n (pc := 70) C dX10_car_70 rfl 2 rfl ?_
    refine ws_goto (pc := 71) (tgt := 78) C dX10_car_71 (by decide) ?_
    refine ws_less [3] rfl ?_
    exact pX10_car_J78 C R h
set_option maxRecDepth 20000 in
set_option maxHeartbeats 4000000 in
theorem pX10_car_J47 {Y : xY} {Z : xZ} {B : xB} {z : Int32 × xM} (C : xC (GM Y) Z B "BetweenStopsModel" cX10_car 4 2) (R : xRi (GM Y) B .int z) {a1 : Int32} {a2 : Int32} {t0 : Int32} {s : xM} (h : fX10_car_J47 a1 a2 t0 s = some z) : xWS (GM Y) B 4 s [(0, .ref (Y.1 0)), (1, .int a1), (2, .int a2)] 47 [.int t0] := by
  unfold fX10_car_J47 at h
  refine ws_istore_n (pc := 47) C dX10_car_47 rfl (by decide) rfl ?_
  refine ws_aload_n (pc := 48) C dX10_car_48 rfl 1 rfl ?_
  refine ws_iload_n (pc := 49) C dX10_car_49 rfl 2 rfl ?_
  refine ws_if_ne (pc := 50) (tgt := 57) C dX10_car_50 (by decide) (fun c1 => ?_) (fun c1 => ?_)
  · have h := ite_f h c1
    refine ws_aload_n (pc := 57) C dX10_car_57 rfl 1 rfl ?_
    refine ws_geti (pc := 58) C dX10_car_58 fd_X10_16 sf_M_2 ?_
    refine ws_less [1, 2, 3, 0] rfl ?_
    exact pX10_car_J61 C R h
  · have h := ite_t h c1
    refine ws_iload_n (pc := 53) C dX10_car_53 rfl 3 rfl ?_
    refine ws_goto (pc := 54) (tgt := 61) C dX10_car_54 (by decide) ?_
    refine ws_less [1, 2, 3, 0] rfl ?_
    exact pX10_car_J61 C R h
set_option maxRecDepth 20000 in
set_option maxHeartbeats 4000000 in
theorem pX10_car_J23 {Y : xY} {Z : xZ} {B : xB} {z : Int32 × xM} (C : xC (GM Y) Z B "BetweenStopsModel" cX10_car 4 2) (R : xRi (GM Y) B .int z) {a1 : Int32} {a2 : Int32} {t0 : Int32} {t1 : Int32} {t2 : Int32} {s : xM} (h : fX10_car_J23 a1 a2 t0 t1 t2 s = some z) : xWS (GM Y) B 4 s [(0, .ref (Y.1 0)), (1, .int a1), (2, .int a2)] 23 [.int t0, .int t1, .int t2] := by
  unfold fX10_car_J23 at h
  obtain ⟨r1, s2, q3, h⟩ := bd_ok h
  refine wc_iS (pc := 23)  C [.int t2, .int t1, .int t0] [] (mX10_in q3) dX10_car_23 mw_X10_in ks_X10_in kl_X10_162 rfl rfl (Nat.le_of_ble_eq_true rfl) ⟨by decide, by decide⟩ ?_
  refine ws_if_ne (pc := 26) (tgt := 32) C dX10_car_26 (by decide) (fun c4 => ?_) (fun c4 => ?_)
  · have h := ite_f h c4
    refine ws_iload_n (pc := 32) C dX10_car_32 rfl 1 rfl ?_
    refine ws_if_ne (pc := 33) (tgt := 43) C dX10_car_33 (by decide) (fun c5 => ?_) (fun c5 => ?_)
    · have h := ite_f h c5
      refine ws_aload_n (pc := 43) C dX10_car_43 rfl 0 rfl ?_
      refine ws_geti (pc := 44) C dX10_car_44 fd_X10_20 sf_M_3 ?_
      refine ws_less [0, 1, 2] rfl ?_
      exact pX10_car_J47 C R h
    · have h := ite_t h c5
      refine ws_aload_n (pc := 36) C dX10_car_36 rfl 0 rfl ?_
      refine ws_geti (pc := 37) C dX10_car_37 fd_X10_16 sf_M_2 ?_
      refine ws_goto (pc := 40) (tgt := 47) C dX10_car_40 (by decide) ?_
      refine ws_less [0, 1, 2] rfl ?_
      exact pX10_car_J47 C R h
  · have h := ite_t h c4
    refine ws_bipush (pc := 29) C dX10_car_29 cb_m2 ?_
    exact wr_i (pc := 31) C R dX10_car_31 rfl h
set_option maxRecDepth 20000 in
set_option maxHeartbeats 4000000 in
theorem mX10_car {Y : xY} {Z : xZ} {a1 : Int32} {a2 : Int32} {s : xM} {z : Int32 × xM} (h : fX10_car a1 a2 s = some z) : xMi (GM Y) Z yX10_car cX10_car 4 2 .int [.ref (Y.1 0), .int a1, .int a2] s z := by
  refine xMi_of (by decide) (Nat.le_of_ble_eq_true rfl) (fun B C R => ?_)
  have C : xC (GM Y) Z B "BetweenStopsModel" cX10_car 4 2 := C
  show xWS (GM Y) B 4 s [(0, .ref (Y.1 0)), (1, .int a1), (2, .int a2)] 0 []
  unfold fX10_car at h
  refine ws_iload_n (pc := 0) C dX10_car_0 rfl 1 rfl ?_
  refine ws_iconst (pc := 1) C dX10_car_1 ci_0 ?_
  refine ws_iconst (pc := 2) C dX10_car_2 ci_1 ?_
  obtain ⟨r1, s2, q3, h⟩ := bd_ok h
  refine wc_iS (pc := 3)  C [.int a1, .int (0 : Int32), .int (1 : Int32)] [] (mX10_in q3) dX10_car_3 mw_X10_in ks_X10_in kl_X10_162 rfl rfl (Nat.le_of_ble_eq_true rfl) ⟨by decide, by decide⟩ ?_
  refine ws_if_eq (pc := 6) (tgt := 29) C dX10_car_6 (by decide) (fun c4 => ?_) (fun c4 => ?_)
  · have h := ite_t h c4
    refine ws_bipush (pc := 29) C dX10_car_29 cb_m2 ?_
    exact wr_i (pc := 31) C R dX10_car_31 rfl h
  · have h := ite_f h c4
    refine ws_iload_n (pc := 9) C dX10_car_9 rfl 2 rfl ?_
    refine ws_iconst (pc := 10) C dX10_car_10 ci_1 ?_
    refine ws_iload_n (pc := 11) C dX10_car_11 rfl 1 rfl ?_
    refine ws_if_ne (pc := 12) (tgt := 21) C dX10_car_12 (by decide) (fun c5 => ?_) (fun c5 => ?_)
    · have h := ite_f h c5
      refine ws_bipush (pc := 21) C dX10_car_21 cb_60 ?_
      refine ws_less [0, 1, 2] rfl ?_
      exact pX10_car_J23 C R h
    · have h := ite_t h c5
      refine ws_sipush (pc := 15) C dX10_car_15 cs_3600 ?_
      refine ws_goto (pc := 18) (tgt := 23) C dX10_car_18 (by decide) ?_
      refine ws_less [0, 1, 2] rfl ?_
      exact pX10_car_J23 C R h
set_option maxRecDepth 20000 in
set_option maxHeartbeats 4000000 in
theorem pX10_walk_J78 {Y : xY} {Z : xZ} {B : xB} {z : Int32 × xM} (C : xC (GM Y) Z B "BetweenStopsModel" cX10_walk 8 1) (R : xRi (GM Y) B .int z) {k92 : Int32 → xM → Option (Int32 × xM)} {b : Int32 → Int32 → xM → Option (Int32 × xM)} {a2 : Int32} {a3 : Int32} {a4 : Int32} {a6 : Int32} {t0 : Int32} {t1 : Int32} {t2 : Int32}
    (hk92 : ∀ (a5 : Int32) (s : xM), k92 a5 s = some z → xWS (GM Y) B 8 s [(5, .int a5)] 92 [])
    (hb : ∀ (a5 : Int32) (a6 : Int32) (s : xM), b a5 a6 s = some z → xWS (GM Y) B 8 s [(0, .ref (Y.1 0)), (2, .int a2), (3, .int a3), (4, .int a4), (5, .int a5), (6, .int a6)] 18 []) {s : xM} (h : fX10_walk_J78 k92 b a2 a3 a4 a6 t0 t1 t2 s = some z) : xWS (GM Y) B 8 s [(0, .ref (Y.1 0)), (2, .int a2), (3, .int a3), (4, .int a4), (6, .int a6)] 78 [.int t0, .int t1, .int t2] := by
  unfold fX10_walk_J78 at h
  refine ws_iadd (pc := 78) C dX10_walk_78 ?_
  refine ws_iadd (pc := 79) C dX10_walk_79 ?_
  obtain ⟨v1, e2, h⟩ := lz_ok h
  refine ws_topi C e2 ?_
  refine ws_istore (pc := 80) C dX10_walk_80 (by decide) rfl ?_
  refine ws_iload (pc := 82) C dX10_walk_82 5 rfl ?_
  refine ws_iload (pc := 84) C dX10_walk_84 4 rfl ?_
  refine ws_iadd (pc := 86) C dX10_walk_86 ?_
  obtain ⟨v3, e4, h⟩ := lz_ok h
  refine ws_topi C e4 ?_
  refine ws_istore (pc := 87) C dX10_walk_87 (by decide) rfl ?_
  refine ws_goto (pc := 89) (tgt := 18) C dX10_walk_89 (by decide) ?_
  refine ws_less [2, 3, 4, 5, 1, 0] rfl ?_
  exact hb _ _ _ h
set_option maxRecDepth 20000 in
set_option maxHeartbeats 4000000 in
theorem pX10_walk_L18 {Y : xY} {Z : xZ} {B : xB} {z : Int32 × xM} (C : xC (GM Y) Z B "BetweenStopsModel" cX10_walk 8 1) (R : xRi (GM Y) B .int z) {k92 : Int32 → xM → Option (Int32 × xM)} {a2 : Int32} {a3 : Int32} {a4 : Int32}
    (hk92 : ∀ (a5 : Int32) (s : xM), k92 a5 s = some z → xWS (GM Y) B 8 s [(5, .int a5)] 92 []) : ∀ (n : Nat) (a5 : Int32) (a6 : Int32) (s : xM), fX10_walk_L18 k92 a2 a3 a4 n a5 a6 s = some z → xWS (GM Y) B 8 s [(0, .ref (Y.1 0)), (2, .int a2), (3, .int a3), (4, .int a4), (5, .int a5), (6, .int a6)] 18 [] := by
  intro n
  induction n with
  | zero =>
    intro a5 a6 s h
    rw [fX10_walk_L18] at h
    cases h
  | succ n ih =>
    intro a5 a6 s h
    rw [fX10_walk_L18] at h
    refine ws_iload (pc := 18) C dX10_walk_18 5 rfl ?_
    refine ws_iload_n (pc := 20) C dX10_walk_20 rfl 1 rfl ?_
    refine ws_icmp_eq (pc := 21) (tgt := 92) C dX10_walk_21 (by decide) (fun c1 => ?_) (fun c1 => ?_)
    · have h := ite_t h c1
      refine ws_less [4] rfl ?_
      exact hk92 _ _ h
    · have h := ite_f h c1
      refine ws_aload_n (pc := 24) C dX10_walk_24 rfl 0 rfl ?_
      refine ws_getr (pc := 25) C dX10_walk_25 fd_X10_7 sf_M_0 ?_
      refine ws_iload (pc := 28) C dX10_walk_28 5 rfl ?_
      refine ws_iload (pc := 30) C dX10_walk_30 3 rfl ?_
      refine ws_iadd (pc := 32) C dX10_walk_32 ?_
      obtain ⟨g2, h⟩ := gd_ok h
      refine ws_ialdK (pc := 33) C dX10_walk_33 sr_m_height g2 rfl ?_
      refine ws_aload_n (pc := 34) C dX10_walk_34 rfl 0 rfl ?_
      refine ws_getr (pc := 35) C dX10_walk_35 fd_X10_7 sf_M_0 ?_
      refine ws_iload (pc := 38) C dX10_walk_38 5 rfl ?_
      obtain ⟨g3, h⟩ := gd_ok h
      refine ws_ialdK (pc := 40) C dX10_walk_40 sr_m_height g3 rfl ?_
      refine ws_isub (pc := 41) C dX10_walk_41 ?_
      obtain ⟨v4, e5, h⟩ := lz_ok h
      refine ws_topi C e5 ?_
      refine ws_istore (pc := 42) C dX10_walk_42 (by decide) rfl ?_
      refine ws_iload (pc := 44) C dX10_walk_44 5 rfl ?_
      refine ws_aload_n (pc := 46) C dX10_walk_46 rfl 1 rfl ?_
      refine ws_getr (pc := 47) C dX10_walk_47 fd_X10_13 sf_M_1 ?_
      refine ws_bipush (pc := 50) C dX10_walk_50 cb_6 ?_
      refine ws_iload_n (pc := 52) C dX10_walk_52 rfl 3 rfl ?_
      refine ws_imul (pc := 53) C dX10_walk_53 ?_
      obtain ⟨g6, h⟩ := gd_ok h
      refine ws_ialdK (pc := 54) C dX10_walk_54 sr_m_sorts g6 rfl ?_
      refine ws_iload (pc := 55) C dX10_walk_55 0 rfl ?_
      refine ws_if_le (pc := 57) (tgt := 77) C dX10_walk_57 (by decide) (fun c7 => ?_) (fun c7 => ?_)
      · have h := ite_t h c7
        refine ws_iconst (pc := 77) C dX10_walk_77 ci_0 ?_
        refine ws_less [1, 2, 3, 4, 6] rfl ?_
        exact pX10_walk_J78 C R hk92 (fun a5 a6 s h => ih a5 a6 s h) h
      · have h := ite_f h c7
        refine ws_iload (pc := 60) C dX10_walk_60 0 rfl ?_
        refine ws_aload_n (pc := 62) C dX10_walk_62 rfl 1 rfl ?_
        refine ws_getr (pc := 63) C dX10_walk_63 fd_X10_13 sf_M_1 ?_
        refine ws_bipush (pc := 66) C dX10_walk_66 cb_6 ?_
        refine ws_iload_n (pc := 68) C dX10_walk_68 rfl 3 rfl ?_
        refine ws_imul (pc := 69) C dX10_walk_69 ?_
        refine ws_iconst (pc := 70) C dX10_walk_70 ci_1 ?_
        refine ws_iadd (pc := 71) C dX10_walk_71 ?_
        obtain ⟨g8, h⟩ := gd_ok h
        refine ws_ialdK (pc := 72) C dX10_walk_72 sr_m_sorts g8 rfl ?_
        refine ws_imul (pc := 73) C dX10_walk_73 ?_
        refine ws_goto (pc := 74) (tgt := 78) C dX10_walk_74 (by decide) ?_
        refine ws_less [1, 2, 3, 4, 6] rfl ?_
        exact pX10_walk_J78 C R hk92 (fun a5 a6 s h => ih a5 a6 s h) h
set_option maxRecDepth 20000 in
set_option maxHeartbeats 4000000 in
theorem pX10_walk_J10 {Y : xY} {Z : xZ} {B : xB} {z : Int32 × xM} (C : xC (GM Y) Z B "BetweenStopsModel" cX10_walk 8 1) (R : xRi (GM Y) B .int z) {a1 : Int32} {a2 : Int32} {a3 : Int32} {t0 : Int32} {s : xM} (h : fX10_walk_J10 a1 a2 a3 t0 s = some z) : xWS (GM Y) B 8 s [(0, .ref (Y.1 0)), (1, .int a1), (2, .int a2), (3, .int a3)] 10 [.int t0] := by
  unfold fX10_walk_J10 at h
  refine ws_istore (pc := 10) C dX10_walk_10 (by decide) rfl ?_
  refine ws_iconst (pc := 12) C dX10_walk_12 ci_0 ?_
  refine ws_istore (pc := 13) C dX10_walk_13 (by decide) rfl ?_
  refine ws_iload_n (pc := 15) C dX10_walk_15 rfl 3 rfl ?_
  refine ws_istore (pc := 16) C dX10_walk_16 (by decide) rfl ?_
  refine ws_less [3, 5, 6, 2, 1, 0] rfl ?_
  refine pX10_walk_L18 C R (fun x1 s2 h => ?_) fu _ _ _ h
  · refine ws_iload (pc := 92) C dX10_walk_92 0 rfl ?_
    exact wr_i (pc := 94) C R dX10_walk_94 rfl h
set_option maxRecDepth 20000 in
set_option maxHeartbeats 4000000 in
theorem mX10_walk {Y : xY} {Z : xZ} {a1 : Int32} {a2 : Int32} {a3 : Int32} {s : xM} {z : Int32 × xM} (h : fX10_walk a1 a2 a3 s = some z) : xMi (GM Y) Z yX10_walk cX10_walk 8 1 .int [.ref (Y.1 0), .int a1, .int a2, .int a3] s z := by
  refine xMi_of (by decide) (Nat.le_of_ble_eq_true rfl) (fun B C R => ?_)
  have C : xC (GM Y) Z B "BetweenStopsModel" cX10_walk 8 1 := C
  show xWS (GM Y) B 8 s [(0, .ref (Y.1 0)), (1, .int a1), (2, .int a2), (3, .int a3)] 0 []
  unfold fX10_walk at h
  refine ws_iload_n (pc := 0) C dX10_walk_0 rfl 1 rfl ?_
  refine ws_iload_n (pc := 1) C dX10_walk_1 rfl 2 rfl ?_
  refine ws_icmp_ge (pc := 2) (tgt := 9) C dX10_walk_2 (by decide) (fun c1 => ?_) (fun c1 => ?_)
  · have h := ite_t h c1
    refine ws_iconst (pc := 9) C dX10_walk_9 ci_m1 ?_
    refine ws_less [0, 1, 2, 3] rfl ?_
    exact pX10_walk_J10 C R h
  · have h := ite_f h c1
    refine ws_iconst (pc := 5) C dX10_walk_5 ci_1 ?_
    refine ws_goto (pc := 6) (tgt := 10) C dX10_walk_6 (by decide) ?_
    refine ws_less [0, 1, 2, 3] rfl ?_
    exact pX10_walk_J10 C R h
set_option maxRecDepth 20000 in
set_option maxHeartbeats 4000000 in
theorem mX10_walks {Y : xY} {Z : xZ} {a1 : Int32} {a2 : Int32} {a3 : Int32} {s : xM} {z : Int32 × xM} (h : fX10_walks a1 a2 a3 s = some z) : xMi (GM Y) Z yX10_walks cX10_walks 4 3 .int [.ref (Y.1 0), .int a1, .int a2, .int a3] s z := by
  refine xMi_of (by decide) (Nat.le_of_ble_eq_true rfl) (fun B C R => ?_)
  have C : xC (GM Y) Z B "BetweenStopsModel" cX10_walks 4 3 := C
  show xWS (GM Y) B 4 s [(0, .ref (Y.1 0)), (1, .int a1), (2, .int a2), (3, .int a3)] 0 []
  unfold fX10_walks at h
  refine ws_iload_n (pc := 0) C dX10_walks_0 rfl 1 rfl ?_
  obtain ⟨r1, s2, q3, h⟩ := bd_ok h
  refine wc_iS (pc := 1)  C [.int a1] [] (mX10_isCell q3) dX10_walks_1 mw_X10_isCell ks_X10_isCell kl_X10_172 rfl rfl (Nat.le_of_ble_eq_true rfl) ⟨by decide, by decide⟩ ?_
  refine ws_if_eq (pc := 4) (tgt := 14) C dX10_walks_4 (by decide) (fun c4 => ?_) (fun c4 => ?_)
  · have h := ite_t h c4
    refine ws_bipush (pc := 14) C dX10_walks_14 cb_m5 ?_
    refine ws_goto (pc := 16) (tgt := 40) C dX10_walks_16 (by decide) ?_
    exact wr_i (pc := 40) C R dX10_walks_40 rfl h
  · have h := ite_f h c4
    refine ws_iload_n (pc := 7) C dX10_walks_7 rfl 2 rfl ?_
    obtain ⟨r5, s6, q7, h⟩ := bd_ok h
    refine wc_iS (pc := 8)  C [.int a2] [] (mX10_isCell q7) dX10_walks_8 mw_X10_isCell ks_X10_isCell kl_X10_172 rfl rfl (Nat.le_of_ble_eq_true rfl) ⟨by decide, by decide⟩ ?_
    refine ws_if_ne (pc := 11) (tgt := 19) C dX10_walks_11 (by decide) (fun c8 => ?_) (fun c8 => ?_)
    · have h := ite_f h c8
      refine ws_iload_n (pc := 19) C dX10_walks_19 rfl 3 rfl ?_
      refine ws_iconst (pc := 20) C dX10_walks_20 ci_0 ?_
      refine ws_iconst (pc := 21) C dX10_walks_21 ci_2 ?_
      obtain ⟨r9, s10, q11, h⟩ := bd_ok h
      refine wc_iS (pc := 22)  C [.int a3, .int (0 : Int32), .int (2 : Int32)] [] (mX10_in q11) dX10_walks_22 mw_X10_in ks_X10_in kl_X10_162 rfl rfl (Nat.le_of_ble_eq_true rfl) ⟨by decide, by decide⟩ ?_
      refine ws_if_eq (pc := 25) (tgt := 38) C dX10_walks_25 (by decide) (fun c12 => ?_) (fun c12 => ?_)
      · have h := ite_t h c12
        refine ws_bipush (pc := 38) C dX10_walks_38 cb_m7 ?_
        exact wr_i (pc := 40) C R dX10_walks_40 rfl h
      · have h := ite_f h c12
        refine ws_aload_n (pc := 28) C dX10_walks_28 rfl 0 rfl ?_
        refine ws_iload_n (pc := 29) C dX10_walks_29 rfl 1 rfl ?_
        refine ws_iload_n (pc := 30) C dX10_walks_30 rfl 2 rfl ?_
        refine ws_iload_n (pc := 31) C dX10_walks_31 rfl 3 rfl ?_
        obtain ⟨r13, s14, q15, h⟩ := bd_ok h
        refine wc_iV (pc := 32)  C [.int a1, .int a2, .int a3] [] (mX10_walk q15) dX10_walks_32 mw_X10_walk mv_X10_walk kl_X10_176 so_M rfl rfl (Nat.le_of_ble_eq_true rfl) ⟨by decide, by decide⟩ ?_
        refine ws_goto (pc := 35) (tgt := 40) C dX10_walks_35 (by decide) ?_
        exact wr_i (pc := 40) C R dX10_walks_40 rfl h
    · have h := ite_t h c8
      refine ws_bipush (pc := 14) C dX10_walks_14 cb_m5 ?_
      refine ws_goto (pc := 16) (tgt := 40) C dX10_walks_16 (by decide) ?_
      exact wr_i (pc := 40) C R dX10_walks_40 rfl h
set_option maxRecDepth 20000 in
set_option maxHeartbeats 4000000 in
theorem mX10_stop {Y : xY} {Z : xZ} {a1 : Int32} {a2 : Int32} {a3 : Int32} {a4 : Int32} {s : xM} {z : Int32 × xM} (h : fX10_stop a1 a2 a3 a4 s = some z) : xMi (GM Y) Z yX10_stop cX10_stop 5 3 .int [.ref (Y.1 0), .int a1, .int a2, .int a3, .int a4] s z := by
  refine xMi_of (by decide) (Nat.le_of_ble_eq_true rfl) (fun B C R => ?_)
  have C : xC (GM Y) Z B "BetweenStopsModel" cX10_stop 5 3 := C
  show xWS (GM Y) B 5 s [(0, .ref (Y.1 0)), (1, .int a1), (2, .int a2), (3, .int a3), (4, .int a4)] 0 []
  unfold fX10_stop at h
  refine ws_iload_n (pc := 0) C dX10_stop_0 rfl 1 rfl ?_
  refine ws_iconst (pc := 1) C dX10_stop_1 ci_0 ?_
  refine ws_iconst (pc := 2) C dX10_stop_2 ci_5 ?_
  obtain ⟨r1, s2, q3, h⟩ := bd_ok h
  refine wc_iS (pc := 3)  C [.int a1, .int (0 : Int32), .int (5 : Int32)] [] (mX10_in q3) dX10_stop_3 mw_X10_in ks_X10_in kl_X10_162 rfl rfl (Nat.le_of_ble_eq_true rfl) ⟨by decide, by decide⟩ ?_
  refine ws_if_eq (pc := 6) (tgt := 37) C dX10_stop_6 (by decide) (fun c4 => ?_) (fun c4 => ?_)
  · have h := ite_t h c4
    refine ws_bipush (pc := 37) C dX10_stop_37 cb_m2 ?_
    exact wr_i (pc := 39) C R dX10_stop_39 rfl h
  · have h := ite_f h c4
    refine ws_iload_n (pc := 9) C dX10_stop_9 rfl 2 rfl ?_
    obtain ⟨r5, s6, q7, h⟩ := bd_ok h
    refine wc_iS (pc := 10)  C [.int a2] [] (mX10_isCell q7) dX10_stop_10 mw_X10_isCell ks_X10_isCell kl_X10_172 rfl rfl (Nat.le_of_ble_eq_true rfl) ⟨by decide, by decide⟩ ?_
    refine ws_if_eq (pc := 13) (tgt := 37) C dX10_stop_13 (by decide) (fun c8 => ?_) (fun c8 => ?_)
    · have h := ite_t h c8
      refine ws_bipush (pc := 37) C dX10_stop_37 cb_m2 ?_
      exact wr_i (pc := 39) C R dX10_stop_39 rfl h
    · have h := ite_f h c8
      refine ws_iload_n (pc := 16) C dX10_stop_16 rfl 3 rfl ?_
      refine ws_iconst (pc := 17) C dX10_stop_17 ci_0 ?_
      refine ws_bipush (pc := 18) C dX10_stop_18 cb_99 ?_
      obtain ⟨r9, s10, q11, h⟩ := bd_ok h
      refine wc_iS (pc := 20)  C [.int a3, .int (0 : Int32), .int (99 : Int32)] [] (mX10_in q11) dX10_stop_20 mw_X10_in ks_X10_in kl_X10_162 rfl rfl (Nat.le_of_ble_eq_true rfl) ⟨by decide, by decide⟩ ?_
      refine ws_if_eq (pc := 23) (tgt := 37) C dX10_stop_23 (by decide) (fun c12 => ?_) (fun c12 => ?_)
      · have h := ite_t h c12
        refine ws_bipush (pc := 37) C dX10_stop_37 cb_m2 ?_
        exact wr_i (pc := 39) C R dX10_stop_39 rfl h
      · have h := ite_f h c12
        refine ws_iload (pc := 26) C dX10_stop_26 4 rfl ?_
        refine ws_iconst (pc := 28) C dX10_stop_28 ci_0 ?_
        refine ws_bipush (pc := 29) C dX10_stop_29 cb_60 ?_
        obtain ⟨r13, s14, q15, h⟩ := bd_ok h
        refine wc_iS (pc := 31)  C [.int a4, .int (0 : Int32), .int (60 : Int32)] [] (mX10_in q15) dX10_stop_31 mw_X10_in ks_X10_in kl_X10_162 rfl rfl (Nat.le_of_ble_eq_true rfl) ⟨by decide, by decide⟩ ?_
        refine ws_if_ne (pc := 34) (tgt := 40) C dX10_stop_34 (by decide) (fun c16 => ?_) (fun c16 => ?_)
        · have h := ite_f h c16
          refine ws_aload_n (pc := 40) C dX10_stop_40 rfl 0 rfl ?_
          refine ws_geti (pc := 41) C dX10_stop_41 fd_X10_166 sf_M_4 ?_
          refine ws_bipush (pc := 44) C dX10_stop_44 cb_8 ?_
          refine ws_icmp_ne (pc := 46) (tgt := 52) C dX10_stop_46 (by decide) (fun c17 => ?_) (fun c17 => ?_)
          · have h := ite_f h c17
            refine ws_aload_n (pc := 52) C dX10_stop_52 rfl 0 rfl ?_
            refine ws_getr (pc := 53) C dX10_stop_53 fd_X10_23 sf_M_5 ?_
            refine ws_aload_n (pc := 56) C dX10_stop_56 rfl 0 rfl ?_
            refine ws_geti (pc := 57) C dX10_stop_57 fd_X10_166 sf_M_4 ?_
            refine ws_iload_n (pc := 60) C dX10_stop_60 rfl 1 rfl ?_
            obtain ⟨g18, h⟩ := gd_ok h
            obtain ⟨s19, e20, h⟩ := lz_ok h
            refine ws_iastK (pc := 61) C dX10_stop_61 sr_m_kind g18 rfl e20 ?_
            refine ws_aload_n (pc := 62) C dX10_stop_62 rfl 0 rfl ?_
            refine ws_getr (pc := 63) C dX10_stop_63 fd_X10_26 sf_M_6 ?_
            refine ws_aload_n (pc := 66) C dX10_stop_66 rfl 0 rfl ?_
            refine ws_geti (pc := 67) C dX10_stop_67 fd_X10_166 sf_M_4 ?_
            refine ws_iload_n (pc := 70) C dX10_stop_70 rfl 2 rfl ?_
            obtain ⟨g21, h⟩ := gd_ok h
            obtain ⟨s22, e23, h⟩ := lz_ok h
            refine ws_iastK (pc := 71) C dX10_stop_71 sr_m_cellOf g21 rfl e23 ?_
            refine ws_aload_n (pc := 72) C dX10_stop_72 rfl 0 rfl ?_
            refine ws_getr (pc := 73) C dX10_stop_73 fd_X10_29 sf_M_7 ?_
            refine ws_aload_n (pc := 76) C dX10_stop_76 rfl 0 rfl ?_
            refine ws_geti (pc := 77) C dX10_stop_77 fd_X10_166 sf_M_4 ?_
            refine ws_iload_n (pc := 80) C dX10_stop_80 rfl 3 rfl ?_
            obtain ⟨g24, h⟩ := gd_ok h
            obtain ⟨s25, e26, h⟩ := lz_ok h
            refine ws_iastK (pc := 81) C dX10_stop_81 sr_m_takes g24 rfl e26 ?_
            refine ws_aload_n (pc := 82) C dX10_stop_82 rfl 0 rfl ?_
            refine ws_getr (pc := 83) C dX10_stop_83 fd_X10_32 sf_M_8 ?_
            refine ws_aload_n (pc := 86) C dX10_stop_86 rfl 0 rfl ?_
            refine ws_geti (pc := 87) C dX10_stop_87 fd_X10_166 sf_M_4 ?_
            refine ws_iload (pc := 90) C dX10_stop_90 4 rfl ?_
            obtain ⟨g27, h⟩ := gd_ok h
            obtain ⟨s28, e29, h⟩ := lz_ok h
            refine ws_iastK (pc := 92) C dX10_stop_92 sr_m_more g27 rfl e29 ?_
            refine ws_aload_n (pc := 93) C dX10_stop_93 rfl 0 rfl ?_
            refine ws_getr (pc := 94) C dX10_stop_94 fd_X10_35 sf_M_9 ?_
            refine ws_aload_n (pc := 97) C dX10_stop_97 rfl 0 rfl ?_
            refine ws_geti (pc := 98) C dX10_stop_98 fd_X10_166 sf_M_4 ?_
            refine ws_iconst (pc := 101) C dX10_stop_101 ci_1 ?_
            obtain ⟨g30, h⟩ := gd_ok h
            obtain ⟨s31, e32, h⟩ := lz_ok h
            refine ws_iastK (pc := 102) C dX10_stop_102 sr_m_open g30 rfl e32 ?_
            refine ws_aload_n (pc := 103) C dX10_stop_103 rfl 0 rfl ?_
            refine ws_getr (pc := 104) C dX10_stop_104 fd_X10_38 sf_M_10 ?_
            refine ws_aload_n (pc := 107) C dX10_stop_107 rfl 0 rfl ?_
            refine ws_geti (pc := 108) C dX10_stop_108 fd_X10_166 sf_M_4 ?_
            refine ws_iconst (pc := 111) C dX10_stop_111 ci_5 ?_
            obtain ⟨g33, h⟩ := gd_ok h
            obtain ⟨s34, e35, h⟩ := lz_ok h
            refine ws_iastK (pc := 112) C dX10_stop_112 sr_m_wanted g33 rfl e35 ?_
            refine ws_aload_n (pc := 113) C dX10_stop_113 rfl 0 rfl ?_
            refine ws_dup (pc := 114) C dX10_stop_114 rfl ?_
            refine ws_geti (pc := 115) C dX10_stop_115 fd_X10_166 sf_M_4 ?_
            refine ws_iconst (pc := 118) C dX10_stop_118 ci_1 ?_
            refine ws_iadd (pc := 119) C dX10_stop_119 ?_
            obtain ⟨s36, e37, h⟩ := lz_ok h
            refine ws_putI (pc := 120) C dX10_stop_120 fp_X10_166 sf_M_4 e37 ?_
            refine ws_aload_n (pc := 123) C dX10_stop_123 rfl 0 rfl ?_
            refine ws_geti (pc := 124) C dX10_stop_124 fd_X10_166 sf_M_4 ?_
            refine ws_iconst (pc := 127) C dX10_stop_127 ci_1 ?_
            refine ws_isub (pc := 128) C dX10_stop_128 ?_
            exact wr_i (pc := 129) C R dX10_stop_129 rfl h
          · have h := ite_t h c17
            refine ws_bipush (pc := 49) C dX10_stop_49 cb_m4 ?_
            exact wr_i (pc := 51) C R dX10_stop_51 rfl h
        · have h := ite_t h c16
          refine ws_bipush (pc := 37) C dX10_stop_37 cb_m2 ?_
          exact wr_i (pc := 39) C R dX10_stop_39 rfl h
set_option maxRecDepth 20000 in
set_option maxHeartbeats 4000000 in
theorem mX10_open {Y : xY} {Z : xZ} {a1 : Int32} {a2 : Int32} {s : xM} {z : Int32 × xM} (h : fX10_open a1 a2 s = some z) : xMi (GM Y) Z yX10_open cX10_open 4 3 .int [.ref (Y.1 0), .int a1, .int a2] s z := by
  refine xMi_of (by decide) (Nat.le_of_ble_eq_true rfl) (fun B C R => ?_)
  have C : xC (GM Y) Z B "BetweenStopsModel" cX10_open 4 3 := C
  show xWS (GM Y) B 4 s [(0, .ref (Y.1 0)), (1, .int a1), (2, .int a2)] 0 []
  unfold fX10_open at h
  refine ws_aload_n (pc := 0) C dX10_open_0 rfl 0 rfl ?_
  refine ws_iload_n (pc := 1) C dX10_open_1 rfl 1 rfl ?_
  obtain ⟨r1, s2, q3, h⟩ := bd_ok h
  refine wc_iV (pc := 2)  C [.int a1] [] (mX10_isStop q3) dX10_open_2 mw_X10_isStop mv_X10_isStop kl_X10_180 so_M rfl rfl (Nat.le_of_ble_eq_true rfl) ⟨by decide, by decide⟩ ?_
  refine ws_if_ne (pc := 5) (tgt := 10) C dX10_open_5 (by decide) (fun c4 => ?_) (fun c4 => ?_)
  · have h := ite_f h c4
    refine ws_iload_n (pc := 10) C dX10_open_10 rfl 2 rfl ?_
    refine ws_iconst (pc := 11) C dX10_open_11 ci_0 ?_
    refine ws_iconst (pc := 12) C dX10_open_12 ci_1 ?_
    obtain ⟨r5, s6, q7, h⟩ := bd_ok h
    refine wc_iS (pc := 13)  C [.int a2, .int (0 : Int32), .int (1 : Int32)] [] (mX10_in q7) dX10_open_13 mw_X10_in ks_X10_in kl_X10_162 rfl rfl (Nat.le_of_ble_eq_true rfl) ⟨by decide, by decide⟩ ?_
    refine ws_if_ne (pc := 16) (tgt := 22) C dX10_open_16 (by decide) (fun c8 => ?_) (fun c8 => ?_)
    · have h := ite_f h c8
      refine ws_aload_n (pc := 22) C dX10_open_22 rfl 0 rfl ?_
      refine ws_getr (pc := 23) C dX10_open_23 fd_X10_35 sf_M_9 ?_
      refine ws_iload_n (pc := 26) C dX10_open_26 rfl 1 rfl ?_
      obtain ⟨g9, h⟩ := gd_ok h
      refine ws_ialdK (pc := 27) C dX10_open_27 sr_m_open g9 rfl ?_
      obtain ⟨v10, e11, h⟩ := lz_ok h
      refine ws_topi C e11 ?_
      refine ws_istore_n (pc := 28) C dX10_open_28 rfl (by decide) rfl ?_
      refine ws_aload_n (pc := 29) C dX10_open_29 rfl 1 rfl ?_
      refine ws_getr (pc := 30) C dX10_open_30 fd_X10_35 sf_M_9 ?_
      refine ws_iload_n (pc := 33) C dX10_open_33 rfl 2 rfl ?_
      refine ws_iload_n (pc := 34) C dX10_open_34 rfl 3 rfl ?_
      obtain ⟨g12, h⟩ := gd_ok h
      obtain ⟨s13, e14, h⟩ := lz_ok h
      refine ws_iastK (pc := 35) C dX10_open_35 sr_m_open g12 rfl e14 ?_
      refine ws_iload_n (pc := 36) C dX10_open_36 rfl 0 rfl ?_
      exact wr_i (pc := 37) C R dX10_open_37 rfl h
    · have h := ite_t h c8
      refine ws_bipush (pc := 19) C dX10_open_19 cb_m2 ?_
      exact wr_i (pc := 21) C R dX10_open_21 rfl h
  · have h := ite_t h c4
    refine ws_iconst (pc := 8) C dX10_open_8 ci_m1 ?_
    exact wr_i (pc := 9) C R dX10_open_9 rfl h
set_option maxRecDepth 20000 in
set_option maxHeartbeats 4000000 in
theorem mX10_want {Y : xY} {Z : xZ} {a1 : Int32} {a2 : Int32} {s : xM} {z : Int32 × xM} (h : fX10_want a1 a2 s = some z) : xMi (GM Y) Z yX10_want cX10_want 4 3 .int [.ref (Y.1 0), .int a1, .int a2] s z := by
  refine xMi_of (by decide) (Nat.le_of_ble_eq_true rfl) (fun B C R => ?_)
  have C : xC (GM Y) Z B "BetweenStopsModel" cX10_want 4 3 := C
  show xWS (GM Y) B 4 s [(0, .ref (Y.1 0)), (1, .int a1), (2, .int a2)] 0 []
  unfold fX10_want at h
  refine ws_aload_n (pc := 0) C dX10_want_0 rfl 0 rfl ?_
  refine ws_iload_n (pc := 1) C dX10_want_1 rfl 1 rfl ?_
  obtain ⟨r1, s2, q3, h⟩ := bd_ok h
  refine wc_iV (pc := 2)  C [.int a1] [] (mX10_isStop q3) dX10_want_2 mw_X10_isStop mv_X10_isStop kl_X10_180 so_M rfl rfl (Nat.le_of_ble_eq_true rfl) ⟨by decide, by decide⟩ ?_
  refine ws_if_ne (pc := 5) (tgt := 10) C dX10_want_5 (by decide) (fun c4 => ?_) (fun c4 => ?_)
  · have h := ite_f h c4
    refine ws_iload_n (pc := 10) C dX10_want_10 rfl 2 rfl ?_
    refine ws_iconst (pc := 11) C dX10_want_11 ci_0 ?_
    refine ws_bipush (pc := 12) C dX10_want_12 cb_10 ?_
    obtain ⟨r5, s6, q7, h⟩ := bd_ok h
    refine wc_iS (pc := 14)  C [.int a2, .int (0 : Int32), .int (10 : Int32)] [] (mX10_in q7) dX10_want_14 mw_X10_in ks_X10_in kl_X10_162 rfl rfl (Nat.le_of_ble_eq_true rfl) ⟨by decide, by decide⟩ ?_
    refine ws_if_ne (pc := 17) (tgt := 23) C dX10_want_17 (by decide) (fun c8 => ?_) (fun c8 => ?_)
    · have h := ite_f h c8
      refine ws_aload_n (pc := 23) C dX10_want_23 rfl 0 rfl ?_
      refine ws_getr (pc := 24) C dX10_want_24 fd_X10_38 sf_M_10 ?_
      refine ws_iload_n (pc := 27) C dX10_want_27 rfl 1 rfl ?_
      obtain ⟨g9, h⟩ := gd_ok h
      refine ws_ialdK (pc := 28) C dX10_want_28 sr_m_wanted g9 rfl ?_
      obtain ⟨v10, e11, h⟩ := lz_ok h
      refine ws_topi C e11 ?_
      refine ws_istore_n (pc := 29) C dX10_want_29 rfl (by decide) rfl ?_
      refine ws_aload_n (pc := 30) C dX10_want_30 rfl 1 rfl ?_
      refine ws_getr (pc := 31) C dX10_want_31 fd_X10_38 sf_M_10 ?_
      refine ws_iload_n (pc := 34) C dX10_want_34 rfl 2 rfl ?_
      refine ws_iload_n (pc := 35) C dX10_want_35 rfl 3 rfl ?_
      obtain ⟨g12, h⟩ := gd_ok h
      obtain ⟨s13, e14, h⟩ := lz_ok h
      refine ws_iastK (pc := 36) C dX10_want_36 sr_m_wanted g12 rfl e14 ?_
      refine ws_iload_n (pc := 37) C dX10_want_37 rfl 0 rfl ?_
      exact wr_i (pc := 38) C R dX10_want_38 rfl h
    · have h := ite_t h c8
      refine ws_bipush (pc := 20) C dX10_want_20 cb_m2 ?_
      exact wr_i (pc := 22) C R dX10_want_22 rfl h
  · have h := ite_t h c4
    refine ws_iconst (pc := 8) C dX10_want_8 ci_m1 ?_
    exact wr_i (pc := 9) C R dX10_want_9 rfl h
set_option maxRecDepth 20000 in
set_option maxHeartbeats 4000000 in
theorem mX10_turns {Y : xY} {Z : xZ} {a1 : Int32} {a2 : Int32} {s : xM} {z : Int32 × xM} (h : fX10_turns a1 a2 s = some z) : xMi (GM Y) Z yX10_turns cX10_turns 4 3 .int [.ref (Y.1 0), .int a1, .int a2] s z := by
  refine xMi_of (by decide) (Nat.le_of_ble_eq_true rfl) (fun B C R => ?_)
  have C : xC (GM Y) Z B "BetweenStopsModel" cX10_turns 4 3 := C
  show xWS (GM Y) B 4 s [(0, .ref (Y.1 0)), (1, .int a1), (2, .int a2)] 0 []
  unfold fX10_turns at h
  refine ws_aload_n (pc := 0) C dX10_turns_0 rfl 0 rfl ?_
  refine ws_iload_n (pc := 1) C dX10_turns_1 rfl 1 rfl ?_
  obtain ⟨r1, s2, q3, h⟩ := bd_ok h
  refine wc_iV (pc := 2)  C [.int a1] [] (mX10_isStop q3) dX10_turns_2 mw_X10_isStop mv_X10_isStop kl_X10_180 so_M rfl rfl (Nat.le_of_ble_eq_true rfl) ⟨by decide, by decide⟩ ?_
  refine ws_if_ne (pc := 5) (tgt := 10) C dX10_turns_5 (by decide) (fun c4 => ?_) (fun c4 => ?_)
  · have h := ite_f h c4
    refine ws_iload_n (pc := 10) C dX10_turns_10 rfl 2 rfl ?_
    refine ws_iconst (pc := 11) C dX10_turns_11 ci_0 ?_
    refine ws_iconst (pc := 12) C dX10_turns_12 ci_2 ?_
    obtain ⟨r5, s6, q7, h⟩ := bd_ok h
    refine wc_iS (pc := 13)  C [.int a2, .int (0 : Int32), .int (2 : Int32)] [] (mX10_in q7) dX10_turns_13 mw_X10_in ks_X10_in kl_X10_162 rfl rfl (Nat.le_of_ble_eq_true rfl) ⟨by decide, by decide⟩ ?_
    refine ws_if_ne (pc := 16) (tgt := 22) C dX10_turns_16 (by decide) (fun c8 => ?_) (fun c8 => ?_)
    · have h := ite_f h c8
      refine ws_aload_n (pc := 22) C dX10_turns_22 rfl 0 rfl ?_
      refine ws_getr (pc := 23) C dX10_turns_23 fd_X10_41 sf_M_11 ?_
      refine ws_iload_n (pc := 26) C dX10_turns_26 rfl 1 rfl ?_
      obtain ⟨g9, h⟩ := gd_ok h
      refine ws_ialdK (pc := 27) C dX10_turns_27 sr_m_pattern g9 rfl ?_
      obtain ⟨v10, e11, h⟩ := lz_ok h
      refine ws_topi C e11 ?_
      refine ws_istore_n (pc := 28) C dX10_turns_28 rfl (by decide) rfl ?_
      refine ws_aload_n (pc := 29) C dX10_turns_29 rfl 1 rfl ?_
      refine ws_getr (pc := 30) C dX10_turns_30 fd_X10_41 sf_M_11 ?_
      refine ws_iload_n (pc := 33) C dX10_turns_33 rfl 2 rfl ?_
      refine ws_iload_n (pc := 34) C dX10_turns_34 rfl 3 rfl ?_
      obtain ⟨g12, h⟩ := gd_ok h
      obtain ⟨s13, e14, h⟩ := lz_ok h
      refine ws_iastK (pc := 35) C dX10_turns_35 sr_m_pattern g12 rfl e14 ?_
      refine ws_iload_n (pc := 36) C dX10_turns_36 rfl 0 rfl ?_
      exact wr_i (pc := 37) C R dX10_turns_37 rfl h
    · have h := ite_t h c8
      refine ws_bipush (pc := 19) C dX10_turns_19 cb_m2 ?_
      exact wr_i (pc := 21) C R dX10_turns_21 rfl h
  · have h := ite_t h c4
    refine ws_iconst (pc := 8) C dX10_turns_8 ci_m1 ?_
    exact wr_i (pc := 9) C R dX10_turns_9 rfl h
set_option maxRecDepth 20000 in
set_option maxHeartbeats 4000000 in
theorem mX10_isAsked {Y : xY} {Z : xZ} {a1 : Int32} {s : xM} {z : Int32 × xM} (h : fX10_isAsked a1 s = some z) : xMi (GM Y) Z yX10_isAsked cX10_isAsked 2 1 .boolean [.ref (Y.1 0), .int a1] s z := by
  refine xMi_of (by decide) (Nat.le_of_ble_eq_true rfl) (fun B C R => ?_)
  have C : xC (GM Y) Z B "BetweenStopsModel" cX10_isAsked 2 1 := C
  show xWS (GM Y) B 2 s [(0, .ref (Y.1 0)), (1, .int a1)] 0 []
  unfold fX10_isAsked at h
  refine ws_aload_n (pc := 0) C dX10_isAsked_0 rfl 0 rfl ?_
  refine ws_getr (pc := 1) C dX10_isAsked_1 fd_X10_23 sf_M_5 ?_
  refine ws_iload_n (pc := 4) C dX10_isAsked_4 rfl 1 rfl ?_
  obtain ⟨g1, h⟩ := gd_ok h
  refine ws_ialdK (pc := 5) C dX10_isAsked_5 sr_m_kind g1 rfl ?_
  refine ws_iconst (pc := 6) C dX10_isAsked_6 ci_1 ?_
  refine ws_icmp_eq (pc := 7) (tgt := 20) C dX10_isAsked_7 (by decide) (fun c2 => ?_) (fun c2 => ?_)
  · have h := ite_t h c2
    refine ws_iconst (pc := 20) C dX10_isAsked_20 ci_1 ?_
    refine ws_goto (pc := 21) (tgt := 25) C dX10_isAsked_21 (by decide) ?_
    exact wr_i (pc := 25) C R dX10_isAsked_25 (isZ_nar isZ1) h
  · have h := ite_f h c2
    refine ws_aload_n (pc := 10) C dX10_isAsked_10 rfl 0 rfl ?_
    refine ws_getr (pc := 11) C dX10_isAsked_11 fd_X10_23 sf_M_5 ?_
    refine ws_iload_n (pc := 14) C dX10_isAsked_14 rfl 1 rfl ?_
    obtain ⟨g3, h⟩ := gd_ok h
    refine ws_ialdK (pc := 15) C dX10_isAsked_15 sr_m_kind g3 rfl ?_
    refine ws_iconst (pc := 16) C dX10_isAsked_16 ci_5 ?_
    refine ws_icmp_ne (pc := 17) (tgt := 24) C dX10_isAsked_17 (by decide) (fun c4 => ?_) (fun c4 => ?_)
    · have h := ite_f h c4
      refine ws_iconst (pc := 24) C dX10_isAsked_24 ci_0 ?_
      exact wr_i (pc := 25) C R dX10_isAsked_25 (isZ_nar isZ0) h
    · have h := ite_t h c4
      refine ws_iconst (pc := 20) C dX10_isAsked_20 ci_1 ?_
      refine ws_goto (pc := 21) (tgt := 25) C dX10_isAsked_21 (by decide) ?_
      exact wr_i (pc := 25) C R dX10_isAsked_25 (isZ_nar isZ1) h
set_option maxRecDepth 20000 in
set_option maxHeartbeats 4000000 in
theorem mX10_secondsBy {Y : xY} {Z : xZ} {a1 : Int32} {a2 : Int32} {s : xM} {z : Int32 × xM} (h : fX10_secondsBy a1 a2 s = some z) : xMi (GM Y) Z yX10_secondsBy cX10_secondsBy 3 1 .int [.ref (Y.1 0), .int a1, .int a2] s z := by
  refine xMi_of (by decide) (Nat.le_of_ble_eq_true rfl) (fun B C R => ?_)
  have C : xC (GM Y) Z B "BetweenStopsModel" cX10_secondsBy 3 1 := C
  show xWS (GM Y) B 3 s [(0, .ref (Y.1 0)), (1, .int a1), (2, .int a2)] 0 []
  unfold fX10_secondsBy at h
  refine ws_aload_n (pc := 0) C dX10_secondsBy_0 rfl 0 rfl ?_
  refine ws_getr (pc := 1) C dX10_secondsBy_1 fd_X10_23 sf_M_5 ?_
  refine ws_iload_n (pc := 4) C dX10_secondsBy_4 rfl 1 rfl ?_
  obtain ⟨g1, h⟩ := gd_ok h
  refine ws_ialdK (pc := 5) C dX10_secondsBy_5 sr_m_kind g1 rfl ?_
  by_cases c2 : (gi s 3 a1.toNatClampNeg) = (1 : Int32)
  · have h := ite_t h c2
    refine ws_tab (pc := 6) (off := 34) (tgt := 40) C c2 dX10_secondsBy_6 (by decide) (by decide) (by decide) (by decide) ?_
    refine ws_aload_n (pc := 40) C dX10_secondsBy_40 rfl 0 rfl ?_
    refine ws_getr (pc := 41) C dX10_secondsBy_41 fd_X10_29 sf_M_7 ?_
    refine ws_iload_n (pc := 44) C dX10_secondsBy_44 rfl 1 rfl ?_
    obtain ⟨g3, h⟩ := gd_ok h
    refine ws_ialdK (pc := 45) C dX10_secondsBy_45 sr_m_takes g3 rfl ?_
    refine ws_iload_n (pc := 46) C dX10_secondsBy_46 rfl 2 rfl ?_
    refine ws_imul (pc := 47) C dX10_secondsBy_47 ?_
    refine ws_bipush (pc := 48) C dX10_secondsBy_48 cb_10 ?_
    refine ws_idiv (pc := 50) C dX10_secondsBy_50 (by decide) ?_
    exact wr_i (pc := 51) C R dX10_secondsBy_51 rfl h
  replace h := ite_f h c2
  by_cases c4 : (gi s 3 a1.toNatClampNeg) = (2 : Int32)
  · have h := ite_t h c4
    refine ws_tab (pc := 6) (off := 88) (tgt := 94) C c4 dX10_secondsBy_6 (by decide) (by decide) (by decide) (by decide) ?_
    refine ws_aload_n (pc := 94) C dX10_secondsBy_94 rfl 0 rfl ?_
    refine ws_getr (pc := 95) C dX10_secondsBy_95 fd_X10_29 sf_M_7 ?_
    refine ws_iload_n (pc := 98) C dX10_secondsBy_98 rfl 1 rfl ?_
    obtain ⟨g5, h⟩ := gd_ok h
    refine ws_ialdK (pc := 99) C dX10_secondsBy_99 sr_m_takes g5 rfl ?_
    exact wr_i (pc := 100) C R dX10_secondsBy_100 rfl h
  replace h := ite_f h c4
  by_cases c6 : (gi s 3 a1.toNatClampNeg) = (3 : Int32)
  · have h := ite_t h c6
    refine ws_tab (pc := 6) (off := 46) (tgt := 52) C c6 dX10_secondsBy_6 (by decide) (by decide) (by decide) (by decide) ?_
    refine ws_aload_n (pc := 52) C dX10_secondsBy_52 rfl 0 rfl ?_
    refine ws_getr (pc := 53) C dX10_secondsBy_53 fd_X10_29 sf_M_7 ?_
    refine ws_iload_n (pc := 56) C dX10_secondsBy_56 rfl 1 rfl ?_
    obtain ⟨g7, h⟩ := gd_ok h
    refine ws_ialdK (pc := 57) C dX10_secondsBy_57 sr_m_takes g7 rfl ?_
    refine ws_aload_n (pc := 58) C dX10_secondsBy_58 rfl 0 rfl ?_
    refine ws_getr (pc := 59) C dX10_secondsBy_59 fd_X10_32 sf_M_8 ?_
    refine ws_iload_n (pc := 62) C dX10_secondsBy_62 rfl 1 rfl ?_
    obtain ⟨g8, h⟩ := gd_ok h
    refine ws_ialdK (pc := 63) C dX10_secondsBy_63 sr_m_more g8 rfl ?_
    refine ws_iadd (pc := 64) C dX10_secondsBy_64 ?_
    exact wr_i (pc := 65) C R dX10_secondsBy_65 rfl h
  replace h := ite_f h c6
  by_cases c9 : (gi s 3 a1.toNatClampNeg) = (4 : Int32)
  · have h := ite_t h c9
    refine ws_tab (pc := 6) (off := 60) (tgt := 66) C c9 dX10_secondsBy_6 (by decide) (by decide) (by decide) (by decide) ?_
    refine ws_aload_n (pc := 66) C dX10_secondsBy_66 rfl 0 rfl ?_
    refine ws_getr (pc := 67) C dX10_secondsBy_67 fd_X10_29 sf_M_7 ?_
    refine ws_iload_n (pc := 70) C dX10_secondsBy_70 rfl 1 rfl ?_
    obtain ⟨g10, h⟩ := gd_ok h
    refine ws_ialdK (pc := 71) C dX10_secondsBy_71 sr_m_takes g10 rfl ?_
    refine ws_iconst (pc := 72) C dX10_secondsBy_72 ci_2 ?_
    refine ws_idiv (pc := 73) C dX10_secondsBy_73 (by decide) ?_
    exact wr_i (pc := 74) C R dX10_secondsBy_74 rfl h
  replace h := ite_f h c9
  by_cases c11 : (gi s 3 a1.toNatClampNeg) = (5 : Int32)
  · have h := ite_t h c11
    refine ws_tab (pc := 6) (off := 69) (tgt := 75) C c11 dX10_secondsBy_6 (by decide) (by decide) (by decide) (by decide) ?_
    refine ws_aload_n (pc := 75) C dX10_secondsBy_75 rfl 0 rfl ?_
    refine ws_getr (pc := 76) C dX10_secondsBy_76 fd_X10_29 sf_M_7 ?_
    refine ws_iload_n (pc := 79) C dX10_secondsBy_79 rfl 1 rfl ?_
    obtain ⟨g12, h⟩ := gd_ok h
    refine ws_ialdK (pc := 80) C dX10_secondsBy_80 sr_m_takes g12 rfl ?_
    refine ws_iload_n (pc := 81) C dX10_secondsBy_81 rfl 2 rfl ?_
    refine ws_imul (pc := 82) C dX10_secondsBy_82 ?_
    refine ws_bipush (pc := 83) C dX10_secondsBy_83 cb_10 ?_
    refine ws_idiv (pc := 85) C dX10_secondsBy_85 (by decide) ?_
    refine ws_aload_n (pc := 86) C dX10_secondsBy_86 rfl 0 rfl ?_
    refine ws_getr (pc := 87) C dX10_secondsBy_87 fd_X10_32 sf_M_8 ?_
    refine ws_iload_n (pc := 90) C dX10_secondsBy_90 rfl 1 rfl ?_
    obtain ⟨g13, h⟩ := gd_ok h
    refine ws_ialdK (pc := 91) C dX10_secondsBy_91 sr_m_more g13 rfl ?_
    refine ws_iadd (pc := 92) C dX10_secondsBy_92 ?_
    exact wr_i (pc := 93) C R dX10_secondsBy_93 rfl h
  replace h := ite_f h c11
  have ec2 : ¬ (1 : Int) = ((gi s 3 a1.toNatClampNeg)).toInt := fun q => lv_neT c2 (show (1 : Int32).toInt = 1 by decide) q.symm
  have ec4 : ¬ (2 : Int) = ((gi s 3 a1.toNatClampNeg)).toInt := fun q => lv_neT c4 (show (2 : Int32).toInt = 2 by decide) q.symm
  have ec6 : ¬ (3 : Int) = ((gi s 3 a1.toNatClampNeg)).toInt := fun q => lv_neT c6 (show (3 : Int32).toInt = 3 by decide) q.symm
  have ec9 : ¬ (4 : Int) = ((gi s 3 a1.toNatClampNeg)).toInt := fun q => lv_neT c9 (show (4 : Int32).toInt = 4 by decide) q.symm
  have ec11 : ¬ (5 : Int) = ((gi s 3 a1.toNatClampNeg)).toInt := fun q => lv_neT c11 (show (5 : Int32).toInt = 5 by decide) q.symm
  refine ws_tableOut (pc := 6) (tgt := 94) C dX10_secondsBy_6 (by omega) (by decide) ?_
  refine ws_aload_n (pc := 94) C dX10_secondsBy_94 rfl 0 rfl ?_
  refine ws_getr (pc := 95) C dX10_secondsBy_95 fd_X10_29 sf_M_7 ?_
  refine ws_iload_n (pc := 98) C dX10_secondsBy_98 rfl 1 rfl ?_
  obtain ⟨g14, h⟩ := gd_ok h
  refine ws_ialdK (pc := 99) C dX10_secondsBy_99 sr_m_takes g14 rfl ?_
  exact wr_i (pc := 100) C R dX10_secondsBy_100 rfl h
set_option maxRecDepth 20000 in
set_option maxHeartbeats 4000000 in
theorem mX10_seconds {Y : xY} {Z : xZ} {a1 : Int32} {s : xM} {z : Int32 × xM} (h : fX10_seconds a1 s = some z) : xMi (GM Y) Z yX10_seconds cX10_seconds 2 2 .int [.ref (Y.1 0), .int a1] s z := by
  refine xMi_of (by decide) (Nat.le_of_ble_eq_true rfl) (fun B C R => ?_)
  have C : xC (GM Y) Z B "BetweenStopsModel" cX10_seconds 2 2 := C
  show xWS (GM Y) B 2 s [(0, .ref (Y.1 0)), (1, .int a1)] 0 []
  unfold fX10_seconds at h
  refine ws_aload_n (pc := 0) C dX10_seconds_0 rfl 0 rfl ?_
  refine ws_iload_n (pc := 1) C dX10_seconds_1 rfl 1 rfl ?_
  refine ws_aload_n (pc := 2) C dX10_seconds_2 rfl 0 rfl ?_
  refine ws_getr (pc := 3) C dX10_seconds_3 fd_X10_38 sf_M_10 ?_
  refine ws_iload_n (pc := 6) C dX10_seconds_6 rfl 1 rfl ?_
  obtain ⟨g1, h⟩ := gd_ok h
  refine ws_ialdK (pc := 7) C dX10_seconds_7 sr_m_wanted g1 rfl ?_
  obtain ⟨r2, s3, q4, h⟩ := bd_ok h
  refine wc_iV (pc := 8)  C [.int a1, .int (gi s 8 a1.toNatClampNeg)] [] (mX10_secondsBy q4) dX10_seconds_8 mw_X10_secondsBy mv_X10_secondsBy kl_X10_183 so_M rfl rfl (Nat.le_of_ble_eq_true rfl) ⟨by decide, by decide⟩ ?_
  exact wr_i (pc := 11) C R dX10_seconds_11 rfl h
set_option maxRecDepth 20000 in
set_option maxHeartbeats 4000000 in
theorem pX10_lets_J57 {Y : xY} {Z : xZ} {B : xB} {z : Int32 × xM} (C : xC (GM Y) Z B "BetweenStopsModel" cX10_lets 4 1) (R : xRi (GM Y) B .boolean z) {a1 : Int32} {a2 : Int32} {t0 : Int32} {s : xM} (h : fX10_lets_J57 a1 a2 t0 s = some z) : xWS (GM Y) B 4 s [(0, .ref (Y.1 0)), (1, .int a1), (2, .int a2)] 57 [.int t0] := by
  unfold fX10_lets_J57 at h
  refine ws_istore_n (pc := 57) C dX10_lets_57 rfl (by decide) rfl ?_
  refine ws_iload_n (pc := 58) C dX10_lets_58 rfl 0 rfl ?_
  refine ws_if_eq (pc := 59) (tgt := 87) C dX10_lets_59 (by decide) (fun c1 => ?_) (fun c1 => ?_)
  · have h := ite_t h c1
    refine ws_iconst (pc := 87) C dX10_lets_87 ci_0 ?_
    exact wr_i (pc := 88) C R dX10_lets_88 (isZ_nar isZ0) h
  · have h := ite_f h c1
    refine ws_aload_n (pc := 62) C dX10_lets_62 rfl 1 rfl ?_
    refine ws_getr (pc := 63) C dX10_lets_63 fd_X10_41 sf_M_11 ?_
    refine ws_iload_n (pc := 66) C dX10_lets_66 rfl 2 rfl ?_
    obtain ⟨g2, h⟩ := gd_ok h
    refine ws_ialdK (pc := 67) C dX10_lets_67 sr_m_pattern g2 rfl ?_
    refine ws_if_eq (pc := 68) (tgt := 83) C dX10_lets_68 (by decide) (fun c3 => ?_) (fun c3 => ?_)
    · have h := ite_t h c3
      refine ws_iconst (pc := 83) C dX10_lets_83 ci_1 ?_
      refine ws_goto (pc := 84) (tgt := 88) C dX10_lets_84 (by decide) ?_
      exact wr_i (pc := 88) C R dX10_lets_88 (isZ_nar isZ1) h
    · have h := ite_f h c3
      refine ws_aload_n (pc := 71) C dX10_lets_71 rfl 1 rfl ?_
      refine ws_getr (pc := 72) C dX10_lets_72 fd_X10_41 sf_M_11 ?_
      refine ws_iload_n (pc := 75) C dX10_lets_75 rfl 2 rfl ?_
      obtain ⟨g4, h⟩ := gd_ok h
      refine ws_ialdK (pc := 76) C dX10_lets_76 sr_m_pattern g4 rfl ?_
      refine ws_iload_n (pc := 77) C dX10_lets_77 rfl 3 rfl ?_
      refine ws_iconst (pc := 78) C dX10_lets_78 ci_1 ?_
      refine ws_iadd (pc := 79) C dX10_lets_79 ?_
      refine ws_icmp_ne (pc := 80) (tgt := 87) C dX10_lets_80 (by decide) (fun c5 => ?_) (fun c5 => ?_)
      · have h := ite_f h c5
        refine ws_iconst (pc := 87) C dX10_lets_87 ci_0 ?_
        exact wr_i (pc := 88) C R dX10_lets_88 (isZ_nar isZ0) h
      · have h := ite_t h c5
        refine ws_iconst (pc := 83) C dX10_lets_83 ci_1 ?_
        refine ws_goto (pc := 84) (tgt := 88) C dX10_lets_84 (by decide) ?_
        exact wr_i (pc := 88) C R dX10_lets_88 (isZ_nar isZ1) h
set_option maxRecDepth 20000 in
set_option maxHeartbeats 4000000 in
theorem pX10_lets_J52 {Y : xY} {Z : xZ} {B : xB} {z : Int32 × xM} (C : xC (GM Y) Z B "BetweenStopsModel" cX10_lets 4 1) (R : xRi (GM Y) B .boolean z) {a1 : Int32} {a2 : Int32} {s : xM} (h : fX10_lets_J52 a1 a2 s = some z) : xWS (GM Y) B 4 s [(0, .ref (Y.1 0)), (1, .int a1), (2, .int a2)] 52 [] := by
  unfold fX10_lets_J52 at h
  refine ws_iconst (pc := 52) C dX10_lets_52 ci_1 ?_
  refine ws_goto (pc := 53) (tgt := 57) C dX10_lets_53 (by decide) ?_
  refine ws_less [0, 1, 2] rfl ?_
  exact pX10_lets_J57 C R h
set_option maxRecDepth 20000 in
set_option maxHeartbeats 4000000 in
theorem mX10_lets {Y : xY} {Z : xZ} {a1 : Int32} {a2 : Int32} {s : xM} {z : Int32 × xM} (h : fX10_lets a1 a2 s = some z) : xMi (GM Y) Z yX10_lets cX10_lets 4 1 .boolean [.ref (Y.1 0), .int a1, .int a2] s z := by
  refine xMi_of (by decide) (Nat.le_of_ble_eq_true rfl) (fun B C R => ?_)
  have C : xC (GM Y) Z B "BetweenStopsModel" cX10_lets 4 1 := C
  show xWS (GM Y) B 4 s [(0, .ref (Y.1 0)), (1, .int a1), (2, .int a2)] 0 []
  unfold fX10_lets at h
  refine ws_aload_n (pc := 0) C dX10_lets_0 rfl 0 rfl ?_
  refine ws_getr (pc := 1) C dX10_lets_1 fd_X10_23 sf_M_5 ?_
  refine ws_iload_n (pc := 4) C dX10_lets_4 rfl 1 rfl ?_
  obtain ⟨g1, h⟩ := gd_ok h
  refine ws_ialdK (pc := 5) C dX10_lets_5 sr_m_kind g1 rfl ?_
  refine ws_iconst (pc := 6) C dX10_lets_6 ci_2 ?_
  refine ws_icmp_ne (pc := 7) (tgt := 30) C dX10_lets_7 (by decide) (fun c2 => ?_) (fun c2 => ?_)
  · have h := ite_f h c2
    refine ws_aload_n (pc := 30) C dX10_lets_30 rfl 0 rfl ?_
    refine ws_getr (pc := 31) C dX10_lets_31 fd_X10_23 sf_M_5 ?_
    refine ws_iload_n (pc := 34) C dX10_lets_34 rfl 1 rfl ?_
    obtain ⟨g3, h⟩ := gd_ok h
    refine ws_ialdK (pc := 35) C dX10_lets_35 sr_m_kind g3 rfl ?_
    refine ws_iconst (pc := 36) C dX10_lets_36 ci_4 ?_
    refine ws_icmp_ne (pc := 37) (tgt := 52) C dX10_lets_37 (by decide) (fun c4 => ?_) (fun c4 => ?_)
    · have h := ite_f h c4
      refine ws_less [0, 1, 2] rfl ?_
      exact pX10_lets_J52 C R h
    · have h := ite_t h c4
      refine ws_iload_n (pc := 40) C dX10_lets_40 rfl 2 rfl ?_
      refine ws_aload_n (pc := 41) C dX10_lets_41 rfl 0 rfl ?_
      refine ws_getr (pc := 42) C dX10_lets_42 fd_X10_32 sf_M_8 ?_
      refine ws_iload_n (pc := 45) C dX10_lets_45 rfl 1 rfl ?_
      obtain ⟨g5, h⟩ := gd_ok h
      refine ws_ialdK (pc := 46) C dX10_lets_46 sr_m_more g5 rfl ?_
      refine ws_iconst (pc := 47) C dX10_lets_47 ci_2 ?_
      refine ws_irem (pc := 48) C dX10_lets_48 (by decide) ?_
      refine ws_icmp_eq (pc := 49) (tgt := 56) C dX10_lets_49 (by decide) (fun c6 => ?_) (fun c6 => ?_)
      · have h := ite_t h c6
        refine ws_iconst (pc := 56) C dX10_lets_56 ci_0 ?_
        refine ws_less [0, 1, 2] rfl ?_
        exact pX10_lets_J57 C R h
      · have h := ite_f h c6
        refine ws_less [0, 1, 2] rfl ?_
        exact pX10_lets_J52 C R h
  · have h := ite_t h c2
    refine ws_iload_n (pc := 10) C dX10_lets_10 rfl 2 rfl ?_
    refine ws_aload_n (pc := 11) C dX10_lets_11 rfl 0 rfl ?_
    refine ws_getr (pc := 12) C dX10_lets_12 fd_X10_32 sf_M_8 ?_
    refine ws_iload_n (pc := 15) C dX10_lets_15 rfl 1 rfl ?_
    obtain ⟨g7, h⟩ := gd_ok h
    refine ws_ialdK (pc := 16) C dX10_lets_16 sr_m_more g7 rfl ?_
    refine ws_iconst (pc := 17) C dX10_lets_17 ci_2 ?_
    refine ws_irem (pc := 18) C dX10_lets_18 (by decide) ?_
    refine ws_icmp_ne (pc := 19) (tgt := 26) C dX10_lets_19 (by decide) (fun c8 => ?_) (fun c8 => ?_)
    · have h := ite_f h c8
      refine ws_iconst (pc := 26) C dX10_lets_26 ci_0 ?_
      refine ws_goto (pc := 27) (tgt := 57) C dX10_lets_27 (by decide) ?_
      refine ws_less [0, 1, 2] rfl ?_
      exact pX10_lets_J57 C R h
    · have h := ite_t h c8
      refine ws_iconst (pc := 22) C dX10_lets_22 ci_1 ?_
      refine ws_goto (pc := 23) (tgt := 57) C dX10_lets_23 (by decide) ?_
      refine ws_less [0, 1, 2] rfl ?_
      exact pX10_lets_J57 C R h
set_option maxRecDepth 20000 in
set_option maxHeartbeats 4000000 in
theorem mX10_doesStop {Y : xY} {Z : xZ} {a1 : Int32} {a2 : Int32} {s : xM} {z : Int32 × xM} (h : fX10_doesStop a1 a2 s = some z) : xMi (GM Y) Z yX10_doesStop cX10_doesStop 3 2 .boolean [.ref (Y.1 0), .int a1, .int a2] s z := by
  refine xMi_of (by decide) (Nat.le_of_ble_eq_true rfl) (fun B C R => ?_)
  have C : xC (GM Y) Z B "BetweenStopsModel" cX10_doesStop 3 2 := C
  show xWS (GM Y) B 3 s [(0, .ref (Y.1 0)), (1, .int a1), (2, .int a2)] 0 []
  unfold fX10_doesStop at h
  refine ws_aload_n (pc := 0) C dX10_doesStop_0 rfl 0 rfl ?_
  refine ws_getr (pc := 1) C dX10_doesStop_1 fd_X10_35 sf_M_9 ?_
  refine ws_iload_n (pc := 4) C dX10_doesStop_4 rfl 1 rfl ?_
  obtain ⟨g1, h⟩ := gd_ok h
  refine ws_ialdK (pc := 5) C dX10_doesStop_5 sr_m_open g1 rfl ?_
  refine ws_iconst (pc := 6) C dX10_doesStop_6 ci_1 ?_
  refine ws_icmp_ne (pc := 7) (tgt := 23) C dX10_doesStop_7 (by decide) (fun c2 => ?_) (fun c2 => ?_)
  · have h := ite_f h c2
    refine ws_iconst (pc := 23) C dX10_doesStop_23 ci_0 ?_
    exact wr_i (pc := 24) C R dX10_doesStop_24 (isZ_nar isZ0) h
  · have h := ite_t h c2
    refine ws_aload_n (pc := 10) C dX10_doesStop_10 rfl 0 rfl ?_
    refine ws_iload_n (pc := 11) C dX10_doesStop_11 rfl 1 rfl ?_
    refine ws_iload_n (pc := 12) C dX10_doesStop_12 rfl 2 rfl ?_
    obtain ⟨r3, s4, q5, h⟩ := bd_ok h
    refine wc_iV (pc := 13)  C [.int a1, .int a2] [] (mX10_lets q5) dX10_doesStop_13 mw_X10_lets mv_X10_lets kl_X10_187 so_M rfl rfl (Nat.le_of_ble_eq_true rfl) ⟨by decide, by decide⟩ ?_
    refine ws_if_eq (pc := 16) (tgt := 23) C dX10_doesStop_16 (by decide) (fun c6 => ?_) (fun c6 => ?_)
    · have h := ite_t h c6
      refine ws_iconst (pc := 23) C dX10_doesStop_23 ci_0 ?_
      exact wr_i (pc := 24) C R dX10_doesStop_24 (isZ_nar isZ0) h
    · have h := ite_f h c6
      refine ws_iconst (pc := 19) C dX10_doesStop_19 ci_1 ?_
      refine ws_goto (pc := 20) (tgt := 24) C dX10_doesStop_20 (by decide) ?_
      exact wr_i (pc := 24) C R dX10_doesStop_24 (isZ_nar isZ1) h
set_option maxRecDepth 20000 in
set_option maxHeartbeats 4000000 in
theorem pX10_told_J104 {Y : xY} {Z : xZ} {B : xB} {z : Int32 × xM} (C : xC (GM Y) Z B "BetweenStopsModel" cX10_told 3 3) (R : xRi (GM Y) B .int z) {a1 : Int32} {t0 : Int32} {s : xM} (h : fX10_told_J104 a1 t0 s = some z) : xWS (GM Y) B 3 s [(0, .ref (Y.1 0)), (1, .int a1)] 104 [.int t0] := by
  unfold fX10_told_J104 at h
  refine ws_aload_n (pc := 104) C dX10_told_104 rfl 0 rfl ?_
  refine ws_iload_n (pc := 105) C dX10_told_105 rfl 1 rfl ?_
  refine ws_iconst (pc := 106) C dX10_told_106 ci_1 ?_
  obtain ⟨r1, s2, q3, h⟩ := bd_ok h
  refine wc_iV (pc := 107)  C [.int a1, .int (1 : Int32)] [.int t0] (mX10_lets q3) dX10_told_107 mw_X10_lets mv_X10_lets kl_X10_187 so_M rfl rfl (Nat.le_of_ble_eq_true rfl) ⟨by decide, by decide⟩ ?_
  refine ws_if_eq (pc := 110) (tgt := 117) C dX10_told_110 (by decide) (fun c4 => ?_) (fun c4 => ?_)
  · have h := ite_t h c4
    refine ws_iconst (pc := 117) C dX10_told_117 ci_0 ?_
    refine ws_iadd (pc := 118) C dX10_told_118 ?_
    exact wr_i (pc := 119) C R dX10_told_119 rfl h
  · have h := ite_f h c4
    refine ws_iconst (pc := 113) C dX10_told_113 ci_2 ?_
    refine ws_goto (pc := 114) (tgt := 118) C dX10_told_114 (by decide) ?_
    refine ws_iadd (pc := 118) C dX10_told_118 ?_
    exact wr_i (pc := 119) C R dX10_told_119 rfl h
set_option maxRecDepth 20000 in
set_option maxHeartbeats 4000000 in
theorem mX10_told {Y : xY} {Z : xZ} {a1 : Int32} {a2 : Int32} {s : xM} {z : Int32 × xM} (h : fX10_told a1 a2 s = some z) : xMi (GM Y) Z yX10_told cX10_told 3 3 .int [.ref (Y.1 0), .int a1, .int a2] s z := by
  refine xMi_of (by decide) (Nat.le_of_ble_eq_true rfl) (fun B C R => ?_)
  have C : xC (GM Y) Z B "BetweenStopsModel" cX10_told 3 3 := C
  show xWS (GM Y) B 3 s [(0, .ref (Y.1 0)), (1, .int a1), (2, .int a2)] 0 []
  unfold fX10_told at h
  refine ws_aload_n (pc := 0) C dX10_told_0 rfl 0 rfl ?_
  refine ws_iload_n (pc := 1) C dX10_told_1 rfl 1 rfl ?_
  obtain ⟨r1, s2, q3, h⟩ := bd_ok h
  refine wc_iV (pc := 2)  C [.int a1] [] (mX10_isStop q3) dX10_told_2 mw_X10_isStop mv_X10_isStop kl_X10_180 so_M rfl rfl (Nat.le_of_ble_eq_true rfl) ⟨by decide, by decide⟩ ?_
  refine ws_if_ne (pc := 5) (tgt := 11) C dX10_told_5 (by decide) (fun c4 => ?_) (fun c4 => ?_)
  · have h := ite_f h c4
    refine ws_iload_n (pc := 11) C dX10_told_11 rfl 2 rfl ?_
    by_cases c5 : a2 = (0 : Int32)
    · have h := ite_t h c5
      refine ws_tab (pc := 12) (off := 44) (tgt := 56) C c5 dX10_told_12 (by decide) (by decide) (by decide) (by decide) ?_
      refine ws_aload_n (pc := 56) C dX10_told_56 rfl 0 rfl ?_
      refine ws_getr (pc := 57) C dX10_told_57 fd_X10_23 sf_M_5 ?_
      refine ws_iload_n (pc := 60) C dX10_told_60 rfl 1 rfl ?_
      obtain ⟨g6, h⟩ := gd_ok h
      refine ws_ialdK (pc := 61) C dX10_told_61 sr_m_kind g6 rfl ?_
      exact wr_i (pc := 62) C R dX10_told_62 rfl h
    replace h := ite_f h c5
    by_cases c7 : a2 = (1 : Int32)
    · have h := ite_t h c7
      refine ws_tab (pc := 12) (off := 51) (tgt := 63) C c7 dX10_told_12 (by decide) (by decide) (by decide) (by decide) ?_
      refine ws_aload_n (pc := 63) C dX10_told_63 rfl 0 rfl ?_
      refine ws_getr (pc := 64) C dX10_told_64 fd_X10_26 sf_M_6 ?_
      refine ws_iload_n (pc := 67) C dX10_told_67 rfl 1 rfl ?_
      obtain ⟨g8, h⟩ := gd_ok h
      refine ws_ialdK (pc := 68) C dX10_told_68 sr_m_cellOf g8 rfl ?_
      exact wr_i (pc := 69) C R dX10_told_69 rfl h
    replace h := ite_f h c7
    by_cases c9 : a2 = (2 : Int32)
    · have h := ite_t h c9
      refine ws_tab (pc := 12) (off := 58) (tgt := 70) C c9 dX10_told_12 (by decide) (by decide) (by decide) (by decide) ?_
      refine ws_aload_n (pc := 70) C dX10_told_70 rfl 0 rfl ?_
      refine ws_iload_n (pc := 71) C dX10_told_71 rfl 1 rfl ?_
      obtain ⟨r10, s11, q12, h⟩ := bd_ok h
      refine wc_iV (pc := 72)  C [.int a1] [] (mX10_seconds q12) dX10_told_72 mw_X10_seconds mv_X10_seconds kl_X10_191 so_M rfl rfl (Nat.le_of_ble_eq_true rfl) ⟨by decide, by decide⟩ ?_
      exact wr_i (pc := 75) C R dX10_told_75 rfl h
    replace h := ite_f h c9
    by_cases c13 : a2 = (3 : Int32)
    · have h := ite_t h c13
      refine ws_tab (pc := 12) (off := 64) (tgt := 76) C c13 dX10_told_12 (by decide) (by decide) (by decide) (by decide) ?_
      refine ws_aload_n (pc := 76) C dX10_told_76 rfl 0 rfl ?_
      refine ws_getr (pc := 77) C dX10_told_77 fd_X10_35 sf_M_9 ?_
      refine ws_iload_n (pc := 80) C dX10_told_80 rfl 1 rfl ?_
      obtain ⟨g14, h⟩ := gd_ok h
      refine ws_ialdK (pc := 81) C dX10_told_81 sr_m_open g14 rfl ?_
      exact wr_i (pc := 82) C R dX10_told_82 rfl h
    replace h := ite_f h c13
    by_cases c15 : a2 = (4 : Int32)
    · have h := ite_t h c15
      refine ws_tab (pc := 12) (off := 71) (tgt := 83) C c15 dX10_told_12 (by decide) (by decide) (by decide) (by decide) ?_
      refine ws_aload_n (pc := 83) C dX10_told_83 rfl 0 rfl ?_
      refine ws_getr (pc := 84) C dX10_told_84 fd_X10_38 sf_M_10 ?_
      refine ws_iload_n (pc := 87) C dX10_told_87 rfl 1 rfl ?_
      obtain ⟨g16, h⟩ := gd_ok h
      refine ws_ialdK (pc := 88) C dX10_told_88 sr_m_wanted g16 rfl ?_
      exact wr_i (pc := 89) C R dX10_told_89 rfl h
    replace h := ite_f h c15
    by_cases c17 : a2 = (5 : Int32)
    · have h := ite_t h c17
      refine ws_tab (pc := 12) (off := 78) (tgt := 90) C c17 dX10_told_12 (by decide) (by decide) (by decide) (by decide) ?_
      refine ws_aload_n (pc := 90) C dX10_told_90 rfl 0 rfl ?_
      refine ws_iload_n (pc := 91) C dX10_told_91 rfl 1 rfl ?_
      refine ws_iconst (pc := 92) C dX10_told_92 ci_0 ?_
      obtain ⟨r18, s19, q20, h⟩ := bd_ok h
      refine wc_iV (pc := 93)  C [.int a1, .int (0 : Int32)] [] (mX10_lets q20) dX10_told_93 mw_X10_lets mv_X10_lets kl_X10_187 so_M rfl rfl (Nat.le_of_ble_eq_true rfl) ⟨by decide, by decide⟩ ?_
      refine ws_if_eq (pc := 96) (tgt := 103) C dX10_told_96 (by decide) (fun c21 => ?_) (fun c21 => ?_)
      · have h := ite_t h c21
        refine ws_iconst (pc := 103) C dX10_told_103 ci_0 ?_
        refine ws_less [0, 1] rfl ?_
        exact pX10_told_J104 C R h
      · have h := ite_f h c21
        refine ws_iconst (pc := 99) C dX10_told_99 ci_1 ?_
        refine ws_goto (pc := 100) (tgt := 104) C dX10_told_100 (by decide) ?_
        refine ws_less [0, 1] rfl ?_
        exact pX10_told_J104 C R h
    replace h := ite_f h c17
    by_cases c22 : a2 = (6 : Int32)
    · have h := ite_t h c22
      refine ws_tab (pc := 12) (off := 108) (tgt := 120) C c22 dX10_told_12 (by decide) (by decide) (by decide) (by decide) ?_
      refine ws_aload_n (pc := 120) C dX10_told_120 rfl 0 rfl ?_
      refine ws_iload_n (pc := 121) C dX10_told_121 rfl 1 rfl ?_
      obtain ⟨r23, s24, q25, h⟩ := bd_ok h
      refine wc_iV (pc := 122)  C [.int a1] [] (mX10_isAsked q25) dX10_told_122 mw_X10_isAsked mv_X10_isAsked kl_X10_195 so_M rfl rfl (Nat.le_of_ble_eq_true rfl) ⟨by decide, by decide⟩ ?_
      refine ws_if_eq (pc := 125) (tgt := 132) C dX10_told_125 (by decide) (fun c26 => ?_) (fun c26 => ?_)
      · have h := ite_t h c26
        refine ws_iconst (pc := 132) C dX10_told_132 ci_0 ?_
        exact wr_i (pc := 133) C R dX10_told_133 rfl h
      · have h := ite_f h c26
        refine ws_iconst (pc := 128) C dX10_told_128 ci_1 ?_
        refine ws_goto (pc := 129) (tgt := 133) C dX10_told_129 (by decide) ?_
        exact wr_i (pc := 133) C R dX10_told_133 rfl h
    replace h := ite_f h c22
    have ec5 : ¬ (0 : Int) = (a2).toInt := fun q => lv_neT c5 (show (0 : Int32).toInt = 0 by decide) q.symm
    have ec7 : ¬ (1 : Int) = (a2).toInt := fun q => lv_neT c7 (show (1 : Int32).toInt = 1 by decide) q.symm
    have ec9 : ¬ (2 : Int) = (a2).toInt := fun q => lv_neT c9 (show (2 : Int32).toInt = 2 by decide) q.symm
    have ec13 : ¬ (3 : Int) = (a2).toInt := fun q => lv_neT c13 (show (3 : Int32).toInt = 3 by decide) q.symm
    have ec15 : ¬ (4 : Int) = (a2).toInt := fun q => lv_neT c15 (show (4 : Int32).toInt = 4 by decide) q.symm
    have ec17 : ¬ (5 : Int) = (a2).toInt := fun q => lv_neT c17 (show (5 : Int32).toInt = 5 by decide) q.symm
    have ec22 : ¬ (6 : Int) = (a2).toInt := fun q => lv_neT c22 (show (6 : Int32).toInt = 6 by decide) q.symm
    refine ws_tableOut (pc := 12) (tgt := 134) C dX10_told_12 (by omega) (by decide) ?_
    refine ws_bipush (pc := 134) C dX10_told_134 cb_m7 ?_
    exact wr_i (pc := 136) C R dX10_told_136 rfl h
  · have h := ite_t h c4
    refine ws_bipush (pc := 8) C dX10_told_8 cb_m5 ?_
    exact wr_i (pc := 10) C R dX10_told_10 rfl h
set_option maxRecDepth 20000 in
set_option maxHeartbeats 4000000 in
theorem mX10_trip {Y : xY} {Z : xZ} {a1 : Int32} {a2 : Int32} {a3 : Int32} {a4 : Int32} {s : xM} {z : Int32 × xM} (h : fX10_trip a1 a2 a3 a4 s = some z) : xMi (GM Y) Z yX10_trip cX10_trip 5 3 .int [.ref (Y.1 0), .int a1, .int a2, .int a3, .int a4] s z := by
  refine xMi_of (by decide) (Nat.le_of_ble_eq_true rfl) (fun B C R => ?_)
  have C : xC (GM Y) Z B "BetweenStopsModel" cX10_trip 5 3 := C
  show xWS (GM Y) B 5 s [(0, .ref (Y.1 0)), (1, .int a1), (2, .int a2), (3, .int a3), (4, .int a4)] 0 []
  unfold fX10_trip at h
  refine ws_iload_n (pc := 0) C dX10_trip_0 rfl 1 rfl ?_
  obtain ⟨r1, s2, q3, h⟩ := bd_ok h
  refine wc_iS (pc := 1)  C [.int a1] [] (mX10_isCell q3) dX10_trip_1 mw_X10_isCell ks_X10_isCell kl_X10_172 rfl rfl (Nat.le_of_ble_eq_true rfl) ⟨by decide, by decide⟩ ?_
  refine ws_if_eq (pc := 4) (tgt := 34) C dX10_trip_4 (by decide) (fun c4 => ?_) (fun c4 => ?_)
  · have h := ite_t h c4
    refine ws_bipush (pc := 34) C dX10_trip_34 cb_m2 ?_
    exact wr_i (pc := 36) C R dX10_trip_36 rfl h
  · have h := ite_f h c4
    refine ws_iload_n (pc := 7) C dX10_trip_7 rfl 2 rfl ?_
    obtain ⟨r5, s6, q7, h⟩ := bd_ok h
    refine wc_iS (pc := 8)  C [.int a2] [] (mX10_isCell q7) dX10_trip_8 mw_X10_isCell ks_X10_isCell kl_X10_172 rfl rfl (Nat.le_of_ble_eq_true rfl) ⟨by decide, by decide⟩ ?_
    refine ws_if_eq (pc := 11) (tgt := 34) C dX10_trip_11 (by decide) (fun c8 => ?_) (fun c8 => ?_)
    · have h := ite_t h c8
      refine ws_bipush (pc := 34) C dX10_trip_34 cb_m2 ?_
      exact wr_i (pc := 36) C R dX10_trip_36 rfl h
    · have h := ite_f h c8
      refine ws_iload_n (pc := 14) C dX10_trip_14 rfl 3 rfl ?_
      refine ws_iconst (pc := 15) C dX10_trip_15 ci_1 ?_
      refine ws_bipush (pc := 16) C dX10_trip_16 cb_99 ?_
      obtain ⟨r9, s10, q11, h⟩ := bd_ok h
      refine wc_iS (pc := 18)  C [.int a3, .int (1 : Int32), .int (99 : Int32)] [] (mX10_in q11) dX10_trip_18 mw_X10_in ks_X10_in kl_X10_162 rfl rfl (Nat.le_of_ble_eq_true rfl) ⟨by decide, by decide⟩ ?_
      refine ws_if_eq (pc := 21) (tgt := 34) C dX10_trip_21 (by decide) (fun c12 => ?_) (fun c12 => ?_)
      · have h := ite_t h c12
        refine ws_bipush (pc := 34) C dX10_trip_34 cb_m2 ?_
        exact wr_i (pc := 36) C R dX10_trip_36 rfl h
      · have h := ite_f h c12
        refine ws_iload (pc := 24) C dX10_trip_24 4 rfl ?_
        refine ws_iconst (pc := 26) C dX10_trip_26 ci_0 ?_
        refine ws_iconst (pc := 27) C dX10_trip_27 ci_2 ?_
        obtain ⟨r13, s14, q15, h⟩ := bd_ok h
        refine wc_iS (pc := 28)  C [.int a4, .int (0 : Int32), .int (2 : Int32)] [] (mX10_in q15) dX10_trip_28 mw_X10_in ks_X10_in kl_X10_162 rfl rfl (Nat.le_of_ble_eq_true rfl) ⟨by decide, by decide⟩ ?_
        refine ws_if_ne (pc := 31) (tgt := 37) C dX10_trip_31 (by decide) (fun c16 => ?_) (fun c16 => ?_)
        · have h := ite_f h c16
          refine ws_aload_n (pc := 37) C dX10_trip_37 rfl 0 rfl ?_
          refine ws_geti (pc := 38) C dX10_trip_38 fd_X10_169 sf_M_12 ?_
          refine ws_bipush (pc := 41) C dX10_trip_41 cb_8 ?_
          refine ws_icmp_ne (pc := 43) (tgt := 49) C dX10_trip_43 (by decide) (fun c17 => ?_) (fun c17 => ?_)
          · have h := ite_f h c17
            refine ws_aload_n (pc := 49) C dX10_trip_49 rfl 0 rfl ?_
            refine ws_getr (pc := 50) C dX10_trip_50 fd_X10_44 sf_M_13 ?_
            refine ws_aload_n (pc := 53) C dX10_trip_53 rfl 0 rfl ?_
            refine ws_geti (pc := 54) C dX10_trip_54 fd_X10_169 sf_M_12 ?_
            refine ws_iload_n (pc := 57) C dX10_trip_57 rfl 1 rfl ?_
            obtain ⟨g18, h⟩ := gd_ok h
            obtain ⟨s19, e20, h⟩ := lz_ok h
            refine ws_iastK (pc := 58) C dX10_trip_58 sr_m_tripFrom g18 rfl e20 ?_
            refine ws_aload_n (pc := 59) C dX10_trip_59 rfl 0 rfl ?_
            refine ws_getr (pc := 60) C dX10_trip_60 fd_X10_47 sf_M_14 ?_
            refine ws_aload_n (pc := 63) C dX10_trip_63 rfl 0 rfl ?_
            refine ws_geti (pc := 64) C dX10_trip_64 fd_X10_169 sf_M_12 ?_
            refine ws_iload_n (pc := 67) C dX10_trip_67 rfl 2 rfl ?_
            obtain ⟨g21, h⟩ := gd_ok h
            obtain ⟨s22, e23, h⟩ := lz_ok h
            refine ws_iastK (pc := 68) C dX10_trip_68 sr_m_tripTo g21 rfl e23 ?_
            refine ws_aload_n (pc := 69) C dX10_trip_69 rfl 0 rfl ?_
            refine ws_getr (pc := 70) C dX10_trip_70 fd_X10_50 sf_M_15 ?_
            refine ws_aload_n (pc := 73) C dX10_trip_73 rfl 0 rfl ?_
            refine ws_geti (pc := 74) C dX10_trip_74 fd_X10_169 sf_M_12 ?_
            refine ws_iload_n (pc := 77) C dX10_trip_77 rfl 3 rfl ?_
            obtain ⟨g24, h⟩ := gd_ok h
            obtain ⟨s25, e26, h⟩ := lz_ok h
            refine ws_iastK (pc := 78) C dX10_trip_78 sr_m_tripMany g24 rfl e26 ?_
            refine ws_aload_n (pc := 79) C dX10_trip_79 rfl 0 rfl ?_
            refine ws_getr (pc := 80) C dX10_trip_80 fd_X10_53 sf_M_16 ?_
            refine ws_aload_n (pc := 83) C dX10_trip_83 rfl 0 rfl ?_
            refine ws_geti (pc := 84) C dX10_trip_84 fd_X10_169 sf_M_12 ?_
            refine ws_iload (pc := 87) C dX10_trip_87 4 rfl ?_
            obtain ⟨g27, h⟩ := gd_ok h
            obtain ⟨s28, e29, h⟩ := lz_ok h
            refine ws_iastK (pc := 89) C dX10_trip_89 sr_m_tripSort g27 rfl e29 ?_
            refine ws_aload_n (pc := 90) C dX10_trip_90 rfl 0 rfl ?_
            refine ws_dup (pc := 91) C dX10_trip_91 rfl ?_
            refine ws_geti (pc := 92) C dX10_trip_92 fd_X10_169 sf_M_12 ?_
            refine ws_iconst (pc := 95) C dX10_trip_95 ci_1 ?_
            refine ws_iadd (pc := 96) C dX10_trip_96 ?_
            obtain ⟨s30, e31, h⟩ := lz_ok h
            refine ws_putI (pc := 97) C dX10_trip_97 fp_X10_169 sf_M_12 e31 ?_
            refine ws_aload_n (pc := 100) C dX10_trip_100 rfl 0 rfl ?_
            refine ws_geti (pc := 101) C dX10_trip_101 fd_X10_169 sf_M_12 ?_
            refine ws_iconst (pc := 104) C dX10_trip_104 ci_1 ?_
            refine ws_isub (pc := 105) C dX10_trip_105 ?_
            exact wr_i (pc := 106) C R dX10_trip_106 rfl h
          · have h := ite_t h c17
            refine ws_bipush (pc := 46) C dX10_trip_46 cb_m4 ?_
            exact wr_i (pc := 48) C R dX10_trip_48 rfl h
        · have h := ite_t h c16
          refine ws_bipush (pc := 34) C dX10_trip_34 cb_m2 ?_
          exact wr_i (pc := 36) C R dX10_trip_36 rfl h
set_option maxRecDepth 20000 in
set_option maxHeartbeats 4000000 in
theorem pX10_openMany_L4 {Y : xY} {Z : xZ} {B : xB} {z : Int32 × xM} (C : xC (GM Y) Z B "BetweenStopsModel" cX10_openMany 3 1) (R : xRi (GM Y) B .int z) {k27 : Int32 → xM → Option (Int32 × xM)}
    (hk27 : ∀ (a1 : Int32) (s : xM), k27 a1 s = some z → xWS (GM Y) B 3 s [(1, .int a1)] 27 []) : ∀ (n : Nat) (a1 : Int32) (a2 : Int32) (s : xM), fX10_openMany_L4 k27 n a1 a2 s = some z → xWS (GM Y) B 3 s [(0, .ref (Y.1 0)), (1, .int a1), (2, .int a2)] 4 [] := by
  intro n
  induction n with
  | zero =>
    intro a1 a2 s h
    rw [fX10_openMany_L4] at h
    cases h
  | succ n ih =>
    intro a1 a2 s h
    rw [fX10_openMany_L4] at h
    refine ws_iload_n (pc := 4) C dX10_openMany_4 rfl 2 rfl ?_
    refine ws_aload_n (pc := 5) C dX10_openMany_5 rfl 0 rfl ?_
    refine ws_geti (pc := 6) C dX10_openMany_6 fd_X10_166 sf_M_4 ?_
    refine ws_icmp_ge (pc := 9) (tgt := 27) C dX10_openMany_9 (by decide) (fun c1 => ?_) (fun c1 => ?_)
    · have h := ite_t h c1
      refine ws_less [1] rfl ?_
      exact hk27 _ _ h
    · have h := ite_f h c1
      refine ws_iload_n (pc := 12) C dX10_openMany_12 rfl 1 rfl ?_
      refine ws_aload_n (pc := 13) C dX10_openMany_13 rfl 0 rfl ?_
      refine ws_getr (pc := 14) C dX10_openMany_14 fd_X10_35 sf_M_9 ?_
      refine ws_iload_n (pc := 17) C dX10_openMany_17 rfl 2 rfl ?_
      obtain ⟨g2, h⟩ := gd_ok h
      refine ws_ialdK (pc := 18) C dX10_openMany_18 sr_m_open g2 rfl ?_
      refine ws_iadd (pc := 19) C dX10_openMany_19 ?_
      obtain ⟨v3, e4, h⟩ := lz_ok h
      refine ws_topi C e4 ?_
      refine ws_istore_n (pc := 20) C dX10_openMany_20 rfl (by decide) rfl ?_
      refine ws_iinc (j := 2) (pc := 21) C dX10_openMany_21 rfl (cn_1 _) (by decide) rfl ?_
      refine ws_goto (pc := 24) (tgt := 4) C dX10_openMany_24 (by decide) ?_
      refine ws_less [2, 1, 0] rfl ?_
      exact ih _ _ _ h
set_option maxRecDepth 20000 in
set_option maxHeartbeats 4000000 in
theorem mX10_openMany {Y : xY} {Z : xZ} {s : xM} {z : Int32 × xM} (h : fX10_openMany s = some z) : xMi (GM Y) Z yX10_openMany cX10_openMany 3 1 .int [.ref (Y.1 0)] s z := by
  refine xMi_of (by decide) (Nat.le_of_ble_eq_true rfl) (fun B C R => ?_)
  have C : xC (GM Y) Z B "BetweenStopsModel" cX10_openMany 3 1 := C
  show xWS (GM Y) B 3 s [(0, .ref (Y.1 0))] 0 []
  unfold fX10_openMany at h
  refine ws_iconst (pc := 0) C dX10_openMany_0 ci_0 ?_
  refine ws_istore_n (pc := 1) C dX10_openMany_1 rfl (by decide) rfl ?_
  refine ws_iconst (pc := 2) C dX10_openMany_2 ci_0 ?_
  refine ws_istore_n (pc := 3) C dX10_openMany_3 rfl (by decide) rfl ?_
  refine ws_less [2, 1, 0] rfl ?_
  refine pX10_openMany_L4 C R (fun x1 s2 h => ?_) fu _ _ _ h
  · refine ws_iload_n (pc := 27) C dX10_openMany_27 rfl 0 rfl ?_
    exact wr_i (pc := 28) C R dX10_openMany_28 rfl h
set_option maxRecDepth 20000 in
set_option maxHeartbeats 4000000 in
theorem mX10_count {Y : xY} {Z : xZ} {a1 : Int32} {s : xM} {z : Int32 × xM} (h : fX10_count a1 s = some z) : xMi (GM Y) Z yX10_count cX10_count 2 2 .int [.ref (Y.1 0), .int a1] s z := by
  refine xMi_of (by decide) (Nat.le_of_ble_eq_true rfl) (fun B C R => ?_)
  have C : xC (GM Y) Z B "BetweenStopsModel" cX10_count 2 2 := C
  show xWS (GM Y) B 2 s [(0, .ref (Y.1 0)), (1, .int a1)] 0 []
  unfold fX10_count at h
  refine ws_iload_n (pc := 0) C dX10_count_0 rfl 1 rfl ?_
  by_cases c1 : a1 = (0 : Int32)
  · have h := ite_t h c1
    refine ws_tab (pc := 1) (off := 47) (tgt := 48) C c1 dX10_count_1 (by decide) (by decide) (by decide) (by decide) ?_
    refine ws_aload_n (pc := 48) C dX10_count_48 rfl 0 rfl ?_
    refine ws_geti (pc := 49) C dX10_count_49 fd_X10_166 sf_M_4 ?_
    exact wr_i (pc := 52) C R dX10_count_52 rfl h
  replace h := ite_f h c1
  by_cases c2 : a1 = (1 : Int32)
  · have h := ite_t h c2
    refine ws_tab (pc := 1) (off := 52) (tgt := 53) C c2 dX10_count_1 (by decide) (by decide) (by decide) (by decide) ?_
    refine ws_aload_n (pc := 53) C dX10_count_53 rfl 0 rfl ?_
    refine ws_geti (pc := 54) C dX10_count_54 fd_X10_169 sf_M_12 ?_
    exact wr_i (pc := 57) C R dX10_count_57 rfl h
  replace h := ite_f h c2
  by_cases c3 : a1 = (2 : Int32)
  · have h := ite_t h c3
    refine ws_tab (pc := 1) (off := 57) (tgt := 58) C c3 dX10_count_1 (by decide) (by decide) (by decide) (by decide) ?_
    refine ws_aload_n (pc := 58) C dX10_count_58 rfl 0 rfl ?_
    obtain ⟨r4, s5, q6, h⟩ := bd_ok h
    refine wc_iV (pc := 59)  C [] [] (mX10_openMany q6) dX10_count_59 mw_X10_openMany mv_X10_openMany kl_X10_198 so_M rfl rfl (Nat.le_of_ble_eq_true rfl) ⟨by decide, by decide⟩ ?_
    exact wr_i (pc := 62) C R dX10_count_62 rfl h
  replace h := ite_f h c3
  by_cases c7 : a1 = (3 : Int32)
  · have h := ite_t h c7
    refine ws_tab (pc := 1) (off := 62) (tgt := 63) C c7 dX10_count_1 (by decide) (by decide) (by decide) (by decide) ?_
    refine ws_aload_n (pc := 63) C dX10_count_63 rfl 0 rfl ?_
    refine ws_geti (pc := 64) C dX10_count_64 fd_X10_65 sf_M_21 ?_
    exact wr_i (pc := 67) C R dX10_count_67 rfl h
  replace h := ite_f h c7
  by_cases c8 : a1 = (4 : Int32)
  · have h := ite_t h c8
    refine ws_tab (pc := 1) (off := 67) (tgt := 68) C c8 dX10_count_1 (by decide) (by decide) (by decide) (by decide) ?_
    refine ws_aload_n (pc := 68) C dX10_count_68 rfl 0 rfl ?_
    refine ws_geti (pc := 69) C dX10_count_69 fd_X10_202 sf_M_22 ?_
    exact wr_i (pc := 72) C R dX10_count_72 rfl h
  replace h := ite_f h c8
  by_cases c9 : a1 = (5 : Int32)
  · have h := ite_t h c9
    refine ws_tab (pc := 1) (off := 72) (tgt := 73) C c9 dX10_count_1 (by decide) (by decide) (by decide) (by decide) ?_
    refine ws_aload_n (pc := 73) C dX10_count_73 rfl 0 rfl ?_
    refine ws_geti (pc := 74) C dX10_count_74 fd_X10_205 sf_M_18 ?_
    exact wr_i (pc := 77) C R dX10_count_77 rfl h
  replace h := ite_f h c9
  by_cases c10 : a1 = (6 : Int32)
  · have h := ite_t h c10
    refine ws_tab (pc := 1) (off := 77) (tgt := 78) C c10 dX10_count_1 (by decide) (by decide) (by decide) (by decide) ?_
    refine ws_aload_n (pc := 78) C dX10_count_78 rfl 0 rfl ?_
    refine ws_geti (pc := 79) C dX10_count_79 fd_X10_16 sf_M_2 ?_
    exact wr_i (pc := 82) C R dX10_count_82 rfl h
  replace h := ite_f h c10
  by_cases c11 : a1 = (7 : Int32)
  · have h := ite_t h c11
    refine ws_tab (pc := 1) (off := 82) (tgt := 83) C c11 dX10_count_1 (by decide) (by decide) (by decide) (by decide) ?_
    refine ws_aload_n (pc := 83) C dX10_count_83 rfl 0 rfl ?_
    refine ws_geti (pc := 84) C dX10_count_84 fd_X10_20 sf_M_3 ?_
    exact wr_i (pc := 87) C R dX10_count_87 rfl h
  replace h := ite_f h c11
  have ec1 : ¬ (0 : Int) = (a1).toInt := fun q => lv_neT c1 (show (0 : Int32).toInt = 0 by decide) q.symm
  have ec2 : ¬ (1 : Int) = (a1).toInt := fun q => lv_neT c2 (show (1 : Int32).toInt = 1 by decide) q.symm
  have ec3 : ¬ (2 : Int) = (a1).toInt := fun q => lv_neT c3 (show (2 : Int32).toInt = 2 by decide) q.symm
  have ec7 : ¬ (3 : Int) = (a1).toInt := fun q => lv_neT c7 (show (3 : Int32).toInt = 3 by decide) q.symm
  have ec8 : ¬ (4 : Int) = (a1).toInt := fun q => lv_neT c8 (show (4 : Int32).toInt = 4 by decide) q.symm
  have ec9 : ¬ (5 : Int) = (a1).toInt := fun q => lv_neT c9 (show (5 : Int32).toInt = 5 by decide) q.symm
  have ec10 : ¬ (6 : Int) = (a1).toInt := fun q => lv_neT c10 (show (6 : Int32).toInt = 6 by decide) q.symm
  have ec11 : ¬ (7 : Int) = (a1).toInt := fun q => lv_neT c11 (show (7 : Int32).toInt = 7 by decide) q.symm
  refine ws_tableOut (pc := 1) (tgt := 88) C dX10_count_1 (by omega) (by decide) ?_
  refine ws_bipush (pc := 88) C dX10_count_88 cb_m2 ?_
  exact wr_i (pc := 90) C R dX10_count_90 rfl h
set_option maxRecDepth 20000 in
set_option maxHeartbeats 4000000 in
theorem pX10_isBetween_J65 {Y : xY} {Z : xZ} {B : xB} {z : Int32 × xM} (C : xC (GM Y) Z B "BetweenStopsModel" cX10_isBetween 4 1) (R : xRi (GM Y) B .boolean z) {t0 : Int32} {t1 : Int32} {s : xM} (h : fX10_isBetween_J65 t0 t1 s = some z) : xWS (GM Y) B 4 s [] 65 [.int t0, .int t1] := by
  unfold fX10_isBetween_J65 at h
  refine ws_icmp_ge (pc := 65) (tgt := 72) C dX10_isBetween_65 (by decide) (fun c1 => ?_) (fun c1 => ?_)
  · have h := ite_t h c1
    refine ws_iconst (pc := 72) C dX10_isBetween_72 ci_0 ?_
    exact wr_i (pc := 73) C R dX10_isBetween_73 (isZ_nar isZ0) h
  · have h := ite_f h c1
    refine ws_iconst (pc := 68) C dX10_isBetween_68 ci_1 ?_
    refine ws_goto (pc := 69) (tgt := 73) C dX10_isBetween_69 (by decide) ?_
    exact wr_i (pc := 73) C R dX10_isBetween_73 (isZ_nar isZ1) h
set_option maxRecDepth 20000 in
set_option maxHeartbeats 4000000 in
theorem pX10_isBetween_J31 {Y : xY} {Z : xZ} {B : xB} {z : Int32 × xM} (C : xC (GM Y) Z B "BetweenStopsModel" cX10_isBetween 4 1) (R : xRi (GM Y) B .boolean z) {a1 : Int32} {a2 : Int32} {a3 : Int32} {t0 : Int32} {t1 : Int32} {s : xM} (h : fX10_isBetween_J31 a1 a2 a3 t0 t1 s = some z) : xWS (GM Y) B 4 s [(0, .ref (Y.1 0)), (1, .int a1), (2, .int a2), (3, .int a3)] 31 [.int t0, .int t1] := by
  unfold fX10_isBetween_J31 at h
  refine ws_icmp_le (pc := 31) (tgt := 72) C dX10_isBetween_31 (by decide) (fun c1 => ?_) (fun c1 => ?_)
  · have h := ite_t h c1
    refine ws_iconst (pc := 72) C dX10_isBetween_72 ci_0 ?_
    exact wr_i (pc := 73) C R dX10_isBetween_73 (isZ_nar isZ0) h
  · have h := ite_f h c1
    refine ws_iload_n (pc := 34) C dX10_isBetween_34 rfl 1 rfl ?_
    refine ws_aload_n (pc := 35) C dX10_isBetween_35 rfl 0 rfl ?_
    refine ws_getr (pc := 36) C dX10_isBetween_36 fd_X10_26 sf_M_6 ?_
    refine ws_iload_n (pc := 39) C dX10_isBetween_39 rfl 2 rfl ?_
    obtain ⟨g2, h⟩ := gd_ok h
    refine ws_ialdK (pc := 40) C dX10_isBetween_40 sr_m_cellOf g2 rfl ?_
    refine ws_aload_n (pc := 41) C dX10_isBetween_41 rfl 0 rfl ?_
    refine ws_getr (pc := 42) C dX10_isBetween_42 fd_X10_26 sf_M_6 ?_
    refine ws_iload_n (pc := 45) C dX10_isBetween_45 rfl 3 rfl ?_
    obtain ⟨g3, h⟩ := gd_ok h
    refine ws_ialdK (pc := 46) C dX10_isBetween_46 sr_m_cellOf g3 rfl ?_
    refine ws_icmp_ge (pc := 47) (tgt := 59) C dX10_isBetween_47 (by decide) (fun c4 => ?_) (fun c4 => ?_)
    · have h := ite_t h c4
      refine ws_aload_n (pc := 59) C dX10_isBetween_59 rfl 0 rfl ?_
      refine ws_getr (pc := 60) C dX10_isBetween_60 fd_X10_26 sf_M_6 ?_
      refine ws_iload_n (pc := 63) C dX10_isBetween_63 rfl 2 rfl ?_
      obtain ⟨g5, h⟩ := gd_ok h
      refine ws_ialdK (pc := 64) C dX10_isBetween_64 sr_m_cellOf g5 rfl ?_
      refine ws_less [] rfl ?_
      exact pX10_isBetween_J65 C R h
    · have h := ite_f h c4
      refine ws_aload_n (pc := 50) C dX10_isBetween_50 rfl 0 rfl ?_
      refine ws_getr (pc := 51) C dX10_isBetween_51 fd_X10_26 sf_M_6 ?_
      refine ws_iload_n (pc := 54) C dX10_isBetween_54 rfl 3 rfl ?_
      obtain ⟨g6, h⟩ := gd_ok h
      refine ws_ialdK (pc := 55) C dX10_isBetween_55 sr_m_cellOf g6 rfl ?_
      refine ws_goto (pc := 56) (tgt := 65) C dX10_isBetween_56 (by decide) ?_
      refine ws_less [] rfl ?_
      exact pX10_isBetween_J65 C R h
set_option maxRecDepth 20000 in
set_option maxHeartbeats 4000000 in
theorem mX10_isBetween {Y : xY} {Z : xZ} {a1 : Int32} {a2 : Int32} {a3 : Int32} {s : xM} {z : Int32 × xM} (h : fX10_isBetween a1 a2 a3 s = some z) : xMi (GM Y) Z yX10_isBetween cX10_isBetween 4 1 .boolean [.ref (Y.1 0), .int a1, .int a2, .int a3] s z := by
  refine xMi_of (by decide) (Nat.le_of_ble_eq_true rfl) (fun B C R => ?_)
  have C : xC (GM Y) Z B "BetweenStopsModel" cX10_isBetween 4 1 := C
  show xWS (GM Y) B 4 s [(0, .ref (Y.1 0)), (1, .int a1), (2, .int a2), (3, .int a3)] 0 []
  unfold fX10_isBetween at h
  refine ws_iload_n (pc := 0) C dX10_isBetween_0 rfl 1 rfl ?_
  refine ws_aload_n (pc := 1) C dX10_isBetween_1 rfl 0 rfl ?_
  refine ws_getr (pc := 2) C dX10_isBetween_2 fd_X10_26 sf_M_6 ?_
  refine ws_iload_n (pc := 5) C dX10_isBetween_5 rfl 2 rfl ?_
  obtain ⟨g1, h⟩ := gd_ok h
  refine ws_ialdK (pc := 6) C dX10_isBetween_6 sr_m_cellOf g1 rfl ?_
  refine ws_aload_n (pc := 7) C dX10_isBetween_7 rfl 0 rfl ?_
  refine ws_getr (pc := 8) C dX10_isBetween_8 fd_X10_26 sf_M_6 ?_
  refine ws_iload_n (pc := 11) C dX10_isBetween_11 rfl 3 rfl ?_
  obtain ⟨g2, h⟩ := gd_ok h
  refine ws_ialdK (pc := 12) C dX10_isBetween_12 sr_m_cellOf g2 rfl ?_
  refine ws_icmp_ge (pc := 13) (tgt := 25) C dX10_isBetween_13 (by decide) (fun c3 => ?_) (fun c3 => ?_)
  · have h := ite_t h c3
    refine ws_aload_n (pc := 25) C dX10_isBetween_25 rfl 0 rfl ?_
    refine ws_getr (pc := 26) C dX10_isBetween_26 fd_X10_26 sf_M_6 ?_
    refine ws_iload_n (pc := 29) C dX10_isBetween_29 rfl 3 rfl ?_
    obtain ⟨g4, h⟩ := gd_ok h
    refine ws_ialdK (pc := 30) C dX10_isBetween_30 sr_m_cellOf g4 rfl ?_
    refine ws_less [0, 1, 2, 3] rfl ?_
    exact pX10_isBetween_J31 C R h
  · have h := ite_f h c3
    refine ws_aload_n (pc := 16) C dX10_isBetween_16 rfl 0 rfl ?_
    refine ws_getr (pc := 17) C dX10_isBetween_17 fd_X10_26 sf_M_6 ?_
    refine ws_iload_n (pc := 20) C dX10_isBetween_20 rfl 2 rfl ?_
    obtain ⟨g5, h⟩ := gd_ok h
    refine ws_ialdK (pc := 21) C dX10_isBetween_21 sr_m_cellOf g5 rfl ?_
    refine ws_goto (pc := 22) (tgt := 31) C dX10_isBetween_22 (by decide) ?_
    refine ws_less [0, 1, 2, 3] rfl ?_
    exact pX10_isBetween_J31 C R h
set_option maxRecDepth 20000 in
set_option maxHeartbeats 4000000 in
theorem pX10_rides_L54 {Y : xY} {Z : xZ} {B : xB} {z : Int32 × xM} (C : xC (GM Y) Z B "BetweenStopsModel" cX10_rides 6 3) (R : xRi (GM Y) B .int z) {k110 : Int32 → xM → Option (Int32 × xM)} {a1 : Int32} {a2 : Int32} {a3 : Int32}
    (hk110 : ∀ (a4 : Int32) (s : xM), k110 a4 s = some z → xWS (GM Y) B 6 s [(4, .int a4)] 110 []) : ∀ (n : Nat) (a4 : Int32) (a5 : Int32) (s : xM), fX10_rides_L54 k110 a1 a2 a3 n a4 a5 s = some z → xWS (GM Y) B 6 s [(0, .ref (Y.1 0)), (1, .int a1), (2, .int a2), (3, .int a3), (4, .int a4), (5, .int a5)] 54 [] := by
  intro n
  induction n with
  | zero =>
    intro a4 a5 s h
    rw [fX10_rides_L54] at h
    cases h
  | succ n ih =>
    intro a4 a5 s h
    rw [fX10_rides_L54] at h
    refine ws_iload (pc := 54) C dX10_rides_54 5 rfl ?_
    refine ws_aload_n (pc := 56) C dX10_rides_56 rfl 0 rfl ?_
    refine ws_geti (pc := 57) C dX10_rides_57 fd_X10_166 sf_M_4 ?_
    refine ws_icmp_ge (pc := 60) (tgt := 110) C dX10_rides_60 (by decide) (fun c1 => ?_) (fun c1 => ?_)
    · have h := ite_t h c1
      refine ws_less [4] rfl ?_
      exact hk110 _ _ h
    · have h := ite_f h c1
      refine ws_iload (pc := 63) C dX10_rides_63 4 rfl ?_
      refine ws_aload_n (pc := 65) C dX10_rides_65 rfl 0 rfl ?_
      refine ws_aload_n (pc := 66) C dX10_rides_66 rfl 0 rfl ?_
      refine ws_getr (pc := 67) C dX10_rides_67 fd_X10_26 sf_M_6 ?_
      refine ws_iload (pc := 70) C dX10_rides_70 5 rfl ?_
      obtain ⟨g2, h⟩ := gd_ok h
      refine ws_ialdK (pc := 72) C dX10_rides_72 sr_m_cellOf g2 rfl ?_
      refine ws_iload_n (pc := 73) C dX10_rides_73 rfl 1 rfl ?_
      refine ws_iload_n (pc := 74) C dX10_rides_74 rfl 2 rfl ?_
      obtain ⟨r3, s4, q5, h⟩ := bd_ok h
      refine wc_iV (pc := 75)  C [.int (gi s 4 a5.toNatClampNeg), .int a1, .int a2] [.int a4] (mX10_isBetween q5) dX10_rides_75 mw_X10_isBetween mv_X10_isBetween kl_X10_208 so_M rfl rfl (Nat.le_of_ble_eq_true rfl) ⟨by decide, by decide⟩ ?_
      refine ws_if_eq (pc := 78) (tgt := 100) C dX10_rides_78 (by decide) (fun c6 => ?_) (fun c6 => ?_)
      · have h := ite_t h c6
        refine ws_iconst (pc := 100) C dX10_rides_100 ci_0 ?_
        refine ws_iadd (pc := 101) C dX10_rides_101 ?_
        obtain ⟨v7, e8, h⟩ := lz_ok h
        refine ws_topi C e8 ?_
        refine ws_istore (pc := 102) C dX10_rides_102 (by decide) rfl ?_
        refine ws_iinc (j := 5) (pc := 104) C dX10_rides_104 rfl (cn_1 _) (by decide) rfl ?_
        refine ws_goto (pc := 107) (tgt := 54) C dX10_rides_107 (by decide) ?_
        refine ws_less [2, 3, 4, 5, 1, 0] rfl ?_
        exact ih _ _ _ h
      · have h := ite_f h c6
        refine ws_aload_n (pc := 81) C dX10_rides_81 rfl 0 rfl ?_
        refine ws_iload (pc := 82) C dX10_rides_82 5 rfl ?_
        refine ws_iload_n (pc := 84) C dX10_rides_84 rfl 3 rfl ?_
        obtain ⟨r9, s10, q11, h⟩ := bd_ok h
        refine wc_iV (pc := 85)  C [.int a5, .int a3] [.int a4] (mX10_doesStop q11) dX10_rides_85 mw_X10_doesStop mv_X10_doesStop kl_X10_211 so_M rfl rfl (Nat.le_of_ble_eq_true rfl) ⟨by decide, by decide⟩ ?_
        refine ws_if_eq (pc := 88) (tgt := 100) C dX10_rides_88 (by decide) (fun c12 => ?_) (fun c12 => ?_)
        · have h := ite_t h c12
          refine ws_iconst (pc := 100) C dX10_rides_100 ci_0 ?_
          refine ws_iadd (pc := 101) C dX10_rides_101 ?_
          obtain ⟨v13, e14, h⟩ := lz_ok h
          refine ws_topi C e14 ?_
          refine ws_istore (pc := 102) C dX10_rides_102 (by decide) rfl ?_
          refine ws_iinc (j := 5) (pc := 104) C dX10_rides_104 rfl (cn_1 _) (by decide) rfl ?_
          refine ws_goto (pc := 107) (tgt := 54) C dX10_rides_107 (by decide) ?_
          refine ws_less [2, 3, 4, 5, 1, 0] rfl ?_
          exact ih _ _ _ h
        · have h := ite_f h c12
          refine ws_aload_n (pc := 91) C dX10_rides_91 rfl 0 rfl ?_
          refine ws_iload (pc := 92) C dX10_rides_92 5 rfl ?_
          obtain ⟨r15, s16, q17, h⟩ := bd_ok h
          refine wc_iV (pc := 94)  C [.int a5] [.int a4] (mX10_seconds q17) dX10_rides_94 mw_X10_seconds mv_X10_seconds kl_X10_191 so_M rfl rfl (Nat.le_of_ble_eq_true rfl) ⟨by decide, by decide⟩ ?_
          refine ws_goto (pc := 97) (tgt := 101) C dX10_rides_97 (by decide) ?_
          refine ws_iadd (pc := 101) C dX10_rides_101 ?_
          obtain ⟨v18, e19, h⟩ := lz_ok h
          refine ws_topi C e19 ?_
          refine ws_istore (pc := 102) C dX10_rides_102 (by decide) rfl ?_
          refine ws_iinc (j := 5) (pc := 104) C dX10_rides_104 rfl (cn_1 _) (by decide) rfl ?_
          refine ws_goto (pc := 107) (tgt := 54) C dX10_rides_107 (by decide) ?_
          refine ws_less [2, 3, 4, 5, 1, 0] rfl ?_
          exact ih _ _ _ h
set_option maxRecDepth 20000 in
set_option maxHeartbeats 4000000 in
theorem pX10_rides_J48 {Y : xY} {Z : xZ} {B : xB} {z : Int32 × xM} (C : xC (GM Y) Z B "BetweenStopsModel" cX10_rides 6 3) (R : xRi (GM Y) B .int z) {a1 : Int32} {a2 : Int32} {a3 : Int32} {t0 : Int32} {t1 : Int32} {s : xM} (h : fX10_rides_J48 a1 a2 a3 t0 t1 s = some z) : xWS (GM Y) B 6 s [(0, .ref (Y.1 0)), (1, .int a1), (2, .int a2), (3, .int a3)] 48 [.int t0, .int t1] := by
  unfold fX10_rides_J48 at h
  refine ws_imul (pc := 48) C dX10_rides_48 ?_
  obtain ⟨v1, e2, h⟩ := lz_ok h
  refine ws_topi C e2 ?_
  refine ws_istore (pc := 49) C dX10_rides_49 (by decide) rfl ?_
  refine ws_iconst (pc := 51) C dX10_rides_51 ci_0 ?_
  refine ws_istore (pc := 52) C dX10_rides_52 (by decide) rfl ?_
  refine ws_less [2, 3, 4, 5, 1, 0] rfl ?_
  refine pX10_rides_L54 C R (fun x3 s4 h => ?_) fu _ _ _ h
  · refine ws_iload (pc := 110) C dX10_rides_110 0 rfl ?_
    exact wr_i (pc := 112) C R dX10_rides_112 rfl h
set_option maxRecDepth 20000 in
set_option maxHeartbeats 4000000 in
theorem mX10_rides {Y : xY} {Z : xZ} {a1 : Int32} {a2 : Int32} {a3 : Int32} {s : xM} {z : Int32 × xM} (h : fX10_rides a1 a2 a3 s = some z) : xMi (GM Y) Z yX10_rides cX10_rides 6 3 .int [.ref (Y.1 0), .int a1, .int a2, .int a3] s z := by
  refine xMi_of (by decide) (Nat.le_of_ble_eq_true rfl) (fun B C R => ?_)
  have C : xC (GM Y) Z B "BetweenStopsModel" cX10_rides 6 3 := C
  show xWS (GM Y) B 6 s [(0, .ref (Y.1 0)), (1, .int a1), (2, .int a2), (3, .int a3)] 0 []
  unfold fX10_rides at h
  refine ws_aload_n (pc := 0) C dX10_rides_0 rfl 0 rfl ?_
  refine ws_geti (pc := 1) C dX10_rides_1 fd_X10_20 sf_M_3 ?_
  refine ws_aload_n (pc := 4) C dX10_rides_4 rfl 0 rfl ?_
  refine ws_getr (pc := 5) C dX10_rides_5 fd_X10_26 sf_M_6 ?_
  refine ws_iload_n (pc := 8) C dX10_rides_8 rfl 1 rfl ?_
  obtain ⟨g1, h⟩ := gd_ok h
  refine ws_ialdK (pc := 9) C dX10_rides_9 sr_m_cellOf g1 rfl ?_
  refine ws_aload_n (pc := 10) C dX10_rides_10 rfl 0 rfl ?_
  refine ws_getr (pc := 11) C dX10_rides_11 fd_X10_26 sf_M_6 ?_
  refine ws_iload_n (pc := 14) C dX10_rides_14 rfl 2 rfl ?_
  obtain ⟨g2, h⟩ := gd_ok h
  refine ws_ialdK (pc := 15) C dX10_rides_15 sr_m_cellOf g2 rfl ?_
  refine ws_icmp_ge (pc := 16) (tgt := 35) C dX10_rides_16 (by decide) (fun c3 => ?_) (fun c3 => ?_)
  · have h := ite_t h c3
    refine ws_aload_n (pc := 35) C dX10_rides_35 rfl 0 rfl ?_
    refine ws_getr (pc := 36) C dX10_rides_36 fd_X10_26 sf_M_6 ?_
    refine ws_iload_n (pc := 39) C dX10_rides_39 rfl 1 rfl ?_
    obtain ⟨g4, h⟩ := gd_ok h
    refine ws_ialdK (pc := 40) C dX10_rides_40 sr_m_cellOf g4 rfl ?_
    refine ws_aload_n (pc := 41) C dX10_rides_41 rfl 0 rfl ?_
    refine ws_getr (pc := 42) C dX10_rides_42 fd_X10_26 sf_M_6 ?_
    refine ws_iload_n (pc := 45) C dX10_rides_45 rfl 2 rfl ?_
    obtain ⟨g5, h⟩ := gd_ok h
    refine ws_ialdK (pc := 46) C dX10_rides_46 sr_m_cellOf g5 rfl ?_
    refine ws_isub (pc := 47) C dX10_rides_47 ?_
    refine ws_less [0, 1, 2, 3] rfl ?_
    exact pX10_rides_J48 C R h
  · have h := ite_f h c3
    refine ws_aload_n (pc := 19) C dX10_rides_19 rfl 0 rfl ?_
    refine ws_getr (pc := 20) C dX10_rides_20 fd_X10_26 sf_M_6 ?_
    refine ws_iload_n (pc := 23) C dX10_rides_23 rfl 2 rfl ?_
    obtain ⟨g6, h⟩ := gd_ok h
    refine ws_ialdK (pc := 24) C dX10_rides_24 sr_m_cellOf g6 rfl ?_
    refine ws_aload_n (pc := 25) C dX10_rides_25 rfl 0 rfl ?_
    refine ws_getr (pc := 26) C dX10_rides_26 fd_X10_26 sf_M_6 ?_
    refine ws_iload_n (pc := 29) C dX10_rides_29 rfl 1 rfl ?_
    obtain ⟨g7, h⟩ := gd_ok h
    refine ws_ialdK (pc := 30) C dX10_rides_30 sr_m_cellOf g7 rfl ?_
    refine ws_isub (pc := 31) C dX10_rides_31 ?_
    refine ws_goto (pc := 32) (tgt := 48) C dX10_rides_32 (by decide) ?_
    refine ws_less [0, 1, 2, 3] rfl ?_
    exact pX10_rides_J48 C R h
set_option maxRecDepth 20000 in
set_option maxHeartbeats 4000000 in
theorem pX10_tries_J132 {Y : xY} {Z : xZ} {B : xB} {z : Int32 × xM} (C : xC (GM Y) Z B "BetweenStopsModel" cX10_tries 11 4) (R : xRv (GM Y) B z) {a1 : Int32} {a2 : Int32} {a3 : Int32} {a6 : Int32} {t0 : Int32} {s : xM} (h : fX10_tries_J132 a1 a2 a3 a6 t0 s = some z) : xWS (GM Y) B 11 s [(0, .ref (Y.1 0)), (1, .int a1), (2, .int a2), (3, .int a3), (6, .int a6)] 132 [.int t0] := by
  unfold fX10_tries_J132 at h
  refine ws_istore (pc := 132) C dX10_tries_132 (by decide) rfl ?_
  refine ws_aload_n (pc := 134) C dX10_tries_134 rfl 1 rfl ?_
  refine ws_getr (pc := 135) C dX10_tries_135 fd_X10_53 sf_M_16 ?_
  refine ws_iload_n (pc := 138) C dX10_tries_138 rfl 2 rfl ?_
  obtain ⟨g1, h⟩ := gd_ok h
  refine ws_ialdK (pc := 139) C dX10_tries_139 sr_m_tripSort g1 rfl ?_
  obtain ⟨v2, e3, h⟩ := lz_ok h
  refine ws_topi C e3 ?_
  refine ws_istore (pc := 140) C dX10_tries_140 (by decide) rfl ?_
  refine ws_aload_n (pc := 142) C dX10_tries_142 rfl 2 rfl ?_
  refine ws_aload_n (pc := 143) C dX10_tries_143 rfl 2 rfl ?_
  refine ws_getr (pc := 144) C dX10_tries_144 fd_X10_44 sf_M_13 ?_
  refine ws_iload_n (pc := 147) C dX10_tries_147 rfl 3 rfl ?_
  obtain ⟨g4, h⟩ := gd_ok h
  refine ws_ialdK (pc := 148) C dX10_tries_148 sr_m_tripFrom g4 rfl ?_
  refine ws_aload_n (pc := 149) C dX10_tries_149 rfl 2 rfl ?_
  refine ws_getr (pc := 150) C dX10_tries_150 fd_X10_26 sf_M_6 ?_
  refine ws_iload_n (pc := 153) C dX10_tries_153 rfl 4 rfl ?_
  obtain ⟨g5, h⟩ := gd_ok h
  refine ws_ialdK (pc := 154) C dX10_tries_154 sr_m_cellOf g5 rfl ?_
  refine ws_iload (pc := 155) C dX10_tries_155 0 rfl ?_
  obtain ⟨r6, s7, q8, h⟩ := bd_ok h
  refine wc_iV (pc := 157)  C [.int (gi s 10 a1.toNatClampNeg), .int (gi s 4 a2.toNatClampNeg), .int v2] [] (mX10_walk q8) dX10_tries_157 mw_X10_walk mv_X10_walk kl_X10_176 so_M rfl rfl (Nat.le_of_ble_eq_true rfl) ⟨by decide, by decide⟩ ?_
  refine ws_aload_n (pc := 160) C dX10_tries_160 rfl 2 rfl ?_
  refine ws_aload_n (pc := 161) C dX10_tries_161 rfl 2 rfl ?_
  refine ws_getr (pc := 162) C dX10_tries_162 fd_X10_26 sf_M_6 ?_
  refine ws_iload_n (pc := 165) C dX10_tries_165 rfl 5 rfl ?_
  obtain ⟨g9, h⟩ := gd_ok h
  refine ws_ialdK (pc := 166) C dX10_tries_166 sr_m_cellOf g9 rfl ?_
  refine ws_aload_n (pc := 167) C dX10_tries_167 rfl 2 rfl ?_
  refine ws_getr (pc := 168) C dX10_tries_168 fd_X10_47 sf_M_14 ?_
  refine ws_iload_n (pc := 171) C dX10_tries_171 rfl 3 rfl ?_
  obtain ⟨g10, h⟩ := gd_ok h
  refine ws_ialdK (pc := 172) C dX10_tries_172 sr_m_tripTo g10 rfl ?_
  refine ws_iload (pc := 173) C dX10_tries_173 0 rfl ?_
  obtain ⟨r11, s12, q13, h⟩ := bd_ok h
  refine wc_iV (pc := 175)  C [.int (gi s7 4 a3.toNatClampNeg), .int (gi s7 11 a1.toNatClampNeg), .int v2] [.int r6] (mX10_walk q13) dX10_tries_175 mw_X10_walk mv_X10_walk kl_X10_176 so_M rfl rfl (Nat.le_of_ble_eq_true rfl) ⟨by decide, by decide⟩ ?_
  refine ws_iadd (pc := 178) C dX10_tries_178 ?_
  obtain ⟨v14, e15, h⟩ := lz_ok h
  refine ws_topi C e15 ?_
  refine ws_istore (pc := 179) C dX10_tries_179 (by decide) rfl ?_
  refine ws_iload (pc := 181) C dX10_tries_181 0 rfl ?_
  refine ws_aload_n (pc := 183) C dX10_tries_183 rfl 3 rfl ?_
  refine ws_getr (pc := 184) C dX10_tries_184 fd_X10_13 sf_M_1 ?_
  refine ws_bipush (pc := 187) C dX10_tries_187 cb_6 ?_
  refine ws_iload (pc := 189) C dX10_tries_189 1 rfl ?_
  refine ws_imul (pc := 191) C dX10_tries_191 ?_
  refine ws_iconst (pc := 192) C dX10_tries_192 ci_2 ?_
  refine ws_iadd (pc := 193) C dX10_tries_193 ?_
  obtain ⟨g16, h⟩ := gd_ok h
  refine ws_ialdK (pc := 194) C dX10_tries_194 sr_m_sorts g16 rfl ?_
  refine ws_imul (pc := 195) C dX10_tries_195 ?_
  refine ws_iload (pc := 196) C dX10_tries_196 2 rfl ?_
  refine ws_aload_n (pc := 198) C dX10_tries_198 rfl 3 rfl ?_
  refine ws_getr (pc := 199) C dX10_tries_199 fd_X10_13 sf_M_1 ?_
  refine ws_bipush (pc := 202) C dX10_tries_202 cb_6 ?_
  refine ws_iload (pc := 204) C dX10_tries_204 1 rfl ?_
  refine ws_imul (pc := 206) C dX10_tries_206 ?_
  refine ws_iconst (pc := 207) C dX10_tries_207 ci_3 ?_
  refine ws_iadd (pc := 208) C dX10_tries_208 ?_
  obtain ⟨g17, h⟩ := gd_ok h
  refine ws_ialdK (pc := 209) C dX10_tries_209 sr_m_sorts g17 rfl ?_
  refine ws_imul (pc := 210) C dX10_tries_210 ?_
  refine ws_iadd (pc := 211) C dX10_tries_211 ?_
  refine ws_iload (pc := 212) C dX10_tries_212 7 rfl ?_
  refine ws_aload_n (pc := 214) C dX10_tries_214 rfl 3 rfl ?_
  refine ws_getr (pc := 215) C dX10_tries_215 fd_X10_13 sf_M_1 ?_
  refine ws_bipush (pc := 218) C dX10_tries_218 cb_6 ?_
  refine ws_iload (pc := 220) C dX10_tries_220 1 rfl ?_
  refine ws_imul (pc := 222) C dX10_tries_222 ?_
  refine ws_iconst (pc := 223) C dX10_tries_223 ci_4 ?_
  refine ws_iadd (pc := 224) C dX10_tries_224 ?_
  obtain ⟨g18, h⟩ := gd_ok h
  refine ws_ialdK (pc := 225) C dX10_tries_225 sr_m_sorts g18 rfl ?_
  refine ws_imul (pc := 226) C dX10_tries_226 ?_
  refine ws_iadd (pc := 227) C dX10_tries_227 ?_
  obtain ⟨v19, e20, h⟩ := lz_ok h
  refine ws_topi C e20 ?_
  refine ws_istore (pc := 228) C dX10_tries_228 (by decide) rfl ?_
  refine ws_iload (pc := 230) C dX10_tries_230 0 rfl ?_
  refine ws_aload_n (pc := 232) C dX10_tries_232 rfl 4 rfl ?_
  refine ws_geti (pc := 233) C dX10_tries_233 fd_X10_217 sf_M_37 ?_
  refine ws_icmp_ge (pc := 236) (tgt := 273) C dX10_tries_236 (by decide) (fun c21 => ?_) (fun c21 => ?_)
  · have h := ite_t h c21
    exact wr_v (pc := 273) C R dX10_tries_273 h
  · have h := ite_f h c21
    refine ws_aload_n (pc := 239) C dX10_tries_239 rfl 4 rfl ?_
    refine ws_iload (pc := 240) C dX10_tries_240 0 rfl ?_
    obtain ⟨s22, e23, h⟩ := lz_ok h
    refine ws_putI (pc := 242) C dX10_tries_242 fp_X10_217 sf_M_37 e23 ?_
    refine ws_aload_n (pc := 245) C dX10_tries_245 rfl 4 rfl ?_
    refine ws_iload_n (pc := 246) C dX10_tries_246 rfl 6 rfl ?_
    obtain ⟨s24, e25, h⟩ := lz_ok h
    refine ws_putI (pc := 247) C dX10_tries_247 fp_X10_220 sf_M_38 e25 ?_
    refine ws_aload_n (pc := 250) C dX10_tries_250 rfl 4 rfl ?_
    refine ws_iload_n (pc := 251) C dX10_tries_251 rfl 7 rfl ?_
    obtain ⟨s26, e27, h⟩ := lz_ok h
    refine ws_putI (pc := 252) C dX10_tries_252 fp_X10_223 sf_M_39 e27 ?_
    refine ws_aload_n (pc := 255) C dX10_tries_255 rfl 4 rfl ?_
    refine ws_iload (pc := 256) C dX10_tries_256 1 rfl ?_
    obtain ⟨s28, e29, h⟩ := lz_ok h
    refine ws_putI (pc := 258) C dX10_tries_258 fp_X10_226 sf_M_40 e29 ?_
    refine ws_aload_n (pc := 261) C dX10_tries_261 rfl 4 rfl ?_
    refine ws_iload (pc := 262) C dX10_tries_262 3 rfl ?_
    obtain ⟨s30, e31, h⟩ := lz_ok h
    refine ws_putI (pc := 264) C dX10_tries_264 fp_X10_229 sf_M_41 e31 ?_
    refine ws_aload_n (pc := 267) C dX10_tries_267 rfl 4 rfl ?_
    refine ws_iload (pc := 268) C dX10_tries_268 8 rfl ?_
    obtain ⟨s32, e33, h⟩ := lz_ok h
    refine ws_putI (pc := 270) C dX10_tries_270 fp_X10_232 sf_M_42 e33 ?_
    exact wr_v (pc := 273) C R dX10_tries_273 h
set_option maxRecDepth 20000 in
set_option maxHeartbeats 4000000 in
theorem pX10_tries_J128 {Y : xY} {Z : xZ} {B : xB} {z : Int32 × xM} (C : xC (GM Y) Z B "BetweenStopsModel" cX10_tries 11 4) (R : xRv (GM Y) B z) {a1 : Int32} {a2 : Int32} {a3 : Int32} {a6 : Int32} {s : xM} (h : fX10_tries_J128 a1 a2 a3 a6 s = some z) : xWS (GM Y) B 11 s [(0, .ref (Y.1 0)), (1, .int a1), (2, .int a2), (3, .int a3), (6, .int a6)] 128 [] := by
  unfold fX10_tries_J128 at h
  refine ws_aload_n (pc := 128) C dX10_tries_128 rfl 0 rfl ?_
  refine ws_geti (pc := 129) C dX10_tries_129 fd_X10_16 sf_M_2 ?_
  refine ws_less [0, 1, 2, 3, 4] rfl ?_
  exact pX10_tries_J132 C R h
set_option maxRecDepth 20000 in
set_option maxHeartbeats 4000000 in
theorem pX10_tries_J107 {Y : xY} {Z : xZ} {B : xB} {z : Int32 × xM} (C : xC (GM Y) Z B "BetweenStopsModel" cX10_tries 11 4) (R : xRv (GM Y) B z) {a1 : Int32} {a2 : Int32} {a3 : Int32} {a4 : Int32} {a5 : Int32} {t0 : Int32} {s : xM} (h : fX10_tries_J107 a1 a2 a3 a4 a5 t0 s = some z) : xWS (GM Y) B 11 s [(0, .ref (Y.1 0)), (1, .int a1), (2, .int a2), (3, .int a3), (4, .int a4), (5, .int a5)] 107 [.int t0] := by
  unfold fX10_tries_J107 at h
  refine ws_istore (pc := 107) C dX10_tries_107 (by decide) rfl ?_
  refine ws_iload (pc := 109) C dX10_tries_109 5 rfl ?_
  refine ws_if_eq (pc := 111) (tgt := 128) C dX10_tries_111 (by decide) (fun c1 => ?_) (fun c1 => ?_)
  · have h := ite_t h c1
    refine ws_less [1, 2, 3, 4, 0] rfl ?_
    exact pX10_tries_J128 C R h
  · have h := ite_f h c1
    refine ws_iload (pc := 114) C dX10_tries_114 6 rfl ?_
    refine ws_if_eq (pc := 116) (tgt := 128) C dX10_tries_116 (by decide) (fun c2 => ?_) (fun c2 => ?_)
    · have h := ite_t h c2
      refine ws_less [1, 2, 3, 4, 0] rfl ?_
      exact pX10_tries_J128 C R h
    · have h := ite_f h c2
      refine ws_aload_n (pc := 119) C dX10_tries_119 rfl 1 rfl ?_
      refine ws_geti (pc := 120) C dX10_tries_120 fd_X10_16 sf_M_2 ?_
      refine ws_iconst (pc := 123) C dX10_tries_123 ci_2 ?_
      refine ws_idiv (pc := 124) C dX10_tries_124 (by decide) ?_
      refine ws_goto (pc := 125) (tgt := 132) C dX10_tries_125 (by decide) ?_
      refine ws_less [1, 2, 3, 4, 0] rfl ?_
      exact pX10_tries_J132 C R h
set_option maxRecDepth 20000 in
set_option maxHeartbeats 4000000 in
theorem pX10_tries_J104 {Y : xY} {Z : xZ} {B : xB} {z : Int32 × xM} (C : xC (GM Y) Z B "BetweenStopsModel" cX10_tries 11 4) (R : xRv (GM Y) B z) {a1 : Int32} {a2 : Int32} {a3 : Int32} {a4 : Int32} {a5 : Int32} {t0 : Int32} {t1 : Int32} {t2 : Int32} {s : xM} (h : fX10_tries_J104 a1 a2 a3 a4 a5 t0 t1 t2 s = some z) : xWS (GM Y) B 11 s [(0, .ref (Y.1 0)), (1, .int a1), (2, .int a2), (3, .int a3), (4, .int a4), (5, .int a5)] 104 [.int t0, .int t1, .int t2, .ref (Y.1 0)] := by
  unfold fX10_tries_J104 at h
  obtain ⟨r1, s2, q3, h⟩ := bd_ok h
  refine wc_iV (pc := 104)  C [.int t2, .int t1, .int t0] [] (mX10_rides q3) dX10_tries_104 mw_X10_rides mv_X10_rides kl_X10_214 so_M rfl rfl (Nat.le_of_ble_eq_true rfl) ⟨by decide, by decide⟩ ?_
  refine ws_less [0, 1, 2, 3, 4, 5] rfl ?_
  exact pX10_tries_J107 C R h
set_option maxRecDepth 20000 in
set_option maxHeartbeats 4000000 in
theorem pX10_tries_J91 {Y : xY} {Z : xZ} {B : xB} {z : Int32 × xM} (C : xC (GM Y) Z B "BetweenStopsModel" cX10_tries 11 4) (R : xRv (GM Y) B z) {a1 : Int32} {a2 : Int32} {a3 : Int32} {a4 : Int32} {a5 : Int32} {s : xM} (h : fX10_tries_J91 a1 a2 a3 a4 a5 s = some z) : xWS (GM Y) B 11 s [(0, .ref (Y.1 0)), (1, .int a1), (2, .int a2), (3, .int a3), (4, .int a4), (5, .int a5)] 91 [] := by
  unfold fX10_tries_J91 at h
  refine ws_aload_n (pc := 91) C dX10_tries_91 rfl 0 rfl ?_
  refine ws_iload_n (pc := 92) C dX10_tries_92 rfl 2 rfl ?_
  refine ws_iload_n (pc := 93) C dX10_tries_93 rfl 3 rfl ?_
  refine ws_iload (pc := 94) C dX10_tries_94 4 rfl ?_
  refine ws_if_eq (pc := 96) (tgt := 103) C dX10_tries_96 (by decide) (fun c1 => ?_) (fun c1 => ?_)
  · have h := ite_t h c1
    refine ws_iconst (pc := 103) C dX10_tries_103 ci_1 ?_
    refine ws_less [0, 1, 2, 3, 4, 5] rfl ?_
    exact pX10_tries_J104 C R h
  · have h := ite_f h c1
    refine ws_iconst (pc := 99) C dX10_tries_99 ci_0 ?_
    refine ws_goto (pc := 100) (tgt := 104) C dX10_tries_100 (by decide) ?_
    refine ws_less [0, 1, 2, 3, 4, 5] rfl ?_
    exact pX10_tries_J104 C R h
set_option maxRecDepth 20000 in
set_option maxHeartbeats 4000000 in
theorem pX10_tries_J61 {Y : xY} {Z : xZ} {B : xB} {z : Int32 × xM} (C : xC (GM Y) Z B "BetweenStopsModel" cX10_tries 11 4) (R : xRv (GM Y) B z) {a1 : Int32} {a2 : Int32} {a3 : Int32} {a4 : Int32} {a5 : Int32} {s : xM} (h : fX10_tries_J61 a1 a2 a3 a4 a5 s = some z) : xWS (GM Y) B 11 s [(0, .ref (Y.1 0)), (1, .int a1), (2, .int a2), (3, .int a3), (4, .int a4), (5, .int a5)] 61 [] := by
  unfold fX10_tries_J61 at h
  refine ws_iload (pc := 61) C dX10_tries_61 4 rfl ?_
  refine ws_if_eq (pc := 63) (tgt := 91) C dX10_tries_63 (by decide) (fun c1 => ?_) (fun c1 => ?_)
  · have h := ite_t h c1
    refine ws_less [0, 1, 2, 3, 4, 5] rfl ?_
    exact pX10_tries_J91 C R h
  · have h := ite_f h c1
    refine ws_iload (pc := 66) C dX10_tries_66 5 rfl ?_
    refine ws_if_eq (pc := 68) (tgt := 91) C dX10_tries_68 (by decide) (fun c2 => ?_) (fun c2 => ?_)
    · have h := ite_t h c2
      refine ws_less [0, 1, 2, 3, 4, 5] rfl ?_
      exact pX10_tries_J91 C R h
    · have h := ite_f h c2
      refine ws_aload_n (pc := 71) C dX10_tries_71 rfl 0 rfl ?_
      refine ws_iload_n (pc := 72) C dX10_tries_72 rfl 2 rfl ?_
      refine ws_iload_n (pc := 73) C dX10_tries_73 rfl 3 rfl ?_
      refine ws_iconst (pc := 74) C dX10_tries_74 ci_0 ?_
      obtain ⟨r3, s4, q5, h⟩ := bd_ok h
      refine wc_iV (pc := 75)  C [.int a2, .int a3, .int (0 : Int32)] [] (mX10_rides q5) dX10_tries_75 mw_X10_rides mv_X10_rides kl_X10_214 so_M rfl rfl (Nat.le_of_ble_eq_true rfl) ⟨by decide, by decide⟩ ?_
      refine ws_aload_n (pc := 78) C dX10_tries_78 rfl 0 rfl ?_
      refine ws_iload_n (pc := 79) C dX10_tries_79 rfl 2 rfl ?_
      refine ws_iload_n (pc := 80) C dX10_tries_80 rfl 3 rfl ?_
      refine ws_iconst (pc := 81) C dX10_tries_81 ci_1 ?_
      obtain ⟨r6, s7, q8, h⟩ := bd_ok h
      refine wc_iV (pc := 82)  C [.int a2, .int a3, .int (1 : Int32)] [.int r3] (mX10_rides q8) dX10_tries_82 mw_X10_rides mv_X10_rides kl_X10_214 so_M rfl rfl (Nat.le_of_ble_eq_true rfl) ⟨by decide, by decide⟩ ?_
      refine ws_iadd (pc := 85) C dX10_tries_85 ?_
      refine ws_iconst (pc := 86) C dX10_tries_86 ci_2 ?_
      refine ws_idiv (pc := 87) C dX10_tries_87 (by decide) ?_
      refine ws_goto (pc := 88) (tgt := 107) C dX10_tries_88 (by decide) ?_
      refine ws_less [0, 1, 2, 3, 4, 5] rfl ?_
      exact pX10_tries_J107 C R h
set_option maxRecDepth 20000 in
set_option maxHeartbeats 4000000 in
theorem pX10_tries_J48 {Y : xY} {Z : xZ} {B : xB} {z : Int32 × xM} (C : xC (GM Y) Z B "BetweenStopsModel" cX10_tries 11 4) (R : xRv (GM Y) B z) {a1 : Int32} {a2 : Int32} {a3 : Int32} {a4 : Int32} {t0 : Int32} {s : xM} (h : fX10_tries_J48 a1 a2 a3 a4 t0 s = some z) : xWS (GM Y) B 11 s [(0, .ref (Y.1 0)), (1, .int a1), (2, .int a2), (3, .int a3), (4, .int a4)] 48 [.int t0] := by
  unfold fX10_tries_J48 at h
  refine ws_istore (pc := 48) C dX10_tries_48 (by decide) rfl ?_
  refine ws_iload (pc := 50) C dX10_tries_50 5 rfl ?_
  refine ws_if_ne (pc := 52) (tgt := 61) C dX10_tries_52 (by decide) (fun c1 => ?_) (fun c1 => ?_)
  · have h := ite_f h c1
    refine ws_less [1, 2, 3, 4, 5, 0] rfl ?_
    exact pX10_tries_J61 C R h
  · have h := ite_t h c1
    refine ws_iload (pc := 55) C dX10_tries_55 0 rfl ?_
    refine ws_if_ne (pc := 57) (tgt := 61) C dX10_tries_57 (by decide) (fun c2 => ?_) (fun c2 => ?_)
    · have h := ite_f h c2
      refine ws_less [1, 2, 3, 4, 5, 0] rfl ?_
      exact pX10_tries_J61 C R h
    · have h := ite_t h c2
      exact wr_v (pc := 60) C R dX10_tries_60 h
set_option maxRecDepth 20000 in
set_option maxHeartbeats 4000000 in
theorem pX10_tries_J47 {Y : xY} {Z : xZ} {B : xB} {z : Int32 × xM} (C : xC (GM Y) Z B "BetweenStopsModel" cX10_tries 11 4) (R : xRv (GM Y) B z) {a1 : Int32} {a2 : Int32} {a3 : Int32} {a4 : Int32} {s : xM} (h : fX10_tries_J47 a1 a2 a3 a4 s = some z) : xWS (GM Y) B 11 s [(0, .ref (Y.1 0)), (1, .int a1), (2, .int a2), (3, .int a3), (4, .int a4)] 47 [] := by
  unfold fX10_tries_J47 at h
  refine ws_iconst (pc := 47) C dX10_tries_47 ci_0 ?_
  refine ws_less [0, 1, 2, 3, 4] rfl ?_
  exact pX10_tries_J48 C R h
set_option maxRecDepth 20000 in
set_option maxHeartbeats 4000000 in
theorem pX10_tries_J23 {Y : xY} {Z : xZ} {B : xB} {z : Int32 × xM} (C : xC (GM Y) Z B "BetweenStopsModel" cX10_tries 11 4) (R : xRv (GM Y) B z) {a1 : Int32} {a2 : Int32} {a3 : Int32} {t0 : Int32} {s : xM} (h : fX10_tries_J23 a1 a2 a3 t0 s = some z) : xWS (GM Y) B 11 s [(0, .ref (Y.1 0)), (1, .int a1), (2, .int a2), (3, .int a3)] 23 [.int t0] := by
  unfold fX10_tries_J23 at h
  refine ws_istore (pc := 23) C dX10_tries_23 (by decide) rfl ?_
  refine ws_aload_n (pc := 25) C dX10_tries_25 rfl 1 rfl ?_
  refine ws_iload_n (pc := 26) C dX10_tries_26 rfl 3 rfl ?_
  refine ws_iconst (pc := 27) C dX10_tries_27 ci_1 ?_
  obtain ⟨r1, s2, q3, h⟩ := bd_ok h
  refine wc_iV (pc := 28)  C [.int a2, .int (1 : Int32)] [] (mX10_doesStop q3) dX10_tries_28 mw_X10_doesStop mv_X10_doesStop kl_X10_211 so_M rfl rfl (Nat.le_of_ble_eq_true rfl) ⟨by decide, by decide⟩ ?_
  refine ws_if_eq (pc := 31) (tgt := 47) C dX10_tries_31 (by decide) (fun c4 => ?_) (fun c4 => ?_)
  · have h := ite_t h c4
    refine ws_less [1, 2, 3, 4, 0] rfl ?_
    exact pX10_tries_J47 C R h
  · have h := ite_f h c4
    refine ws_aload_n (pc := 34) C dX10_tries_34 rfl 1 rfl ?_
    refine ws_iload_n (pc := 35) C dX10_tries_35 rfl 4 rfl ?_
    refine ws_iconst (pc := 36) C dX10_tries_36 ci_1 ?_
    obtain ⟨r5, s6, q7, h⟩ := bd_ok h
    refine wc_iV (pc := 37)  C [.int a3, .int (1 : Int32)] [] (mX10_doesStop q7) dX10_tries_37 mw_X10_doesStop mv_X10_doesStop kl_X10_211 so_M rfl rfl (Nat.le_of_ble_eq_true rfl) ⟨by decide, by decide⟩ ?_
    refine ws_if_eq (pc := 40) (tgt := 47) C dX10_tries_40 (by decide) (fun c8 => ?_) (fun c8 => ?_)
    · have h := ite_t h c8
      refine ws_less [1, 2, 3, 4, 0] rfl ?_
      exact pX10_tries_J47 C R h
    · have h := ite_f h c8
      refine ws_iconst (pc := 43) C dX10_tries_43 ci_1 ?_
      refine ws_goto (pc := 44) (tgt := 48) C dX10_tries_44 (by decide) ?_
      refine ws_less [1, 2, 3, 4, 0] rfl ?_
      exact pX10_tries_J48 C R h
set_option maxRecDepth 20000 in
set_option maxHeartbeats 4000000 in
theorem pX10_tries_J22 {Y : xY} {Z : xZ} {B : xB} {z : Int32 × xM} (C : xC (GM Y) Z B "BetweenStopsModel" cX10_tries 11 4) (R : xRv (GM Y) B z) {a1 : Int32} {a2 : Int32} {a3 : Int32} {s : xM} (h : fX10_tries_J22 a1 a2 a3 s = some z) : xWS (GM Y) B 11 s [(0, .ref (Y.1 0)), (1, .int a1), (2, .int a2), (3, .int a3)] 22 [] := by
  unfold fX10_tries_J22 at h
  refine ws_iconst (pc := 22) C dX10_tries_22 ci_0 ?_
  refine ws_less [0, 1, 2, 3] rfl ?_
  exact pX10_tries_J23 C R h
set_option maxRecDepth 20000 in
set_option maxHeartbeats 4000000 in
theorem mX10_tries {Y : xY} {Z : xZ} {a1 : Int32} {a2 : Int32} {a3 : Int32} {s : xM} {z : Int32 × xM} (h : fX10_tries a1 a2 a3 s = some z) : xMv (GM Y) Z yX10_tries cX10_tries 11 4 [.ref (Y.1 0), .int a1, .int a2, .int a3] s z := by
  refine xMv_of (by decide) (Nat.le_of_ble_eq_true rfl) (fun B C R => ?_)
  have C : xC (GM Y) Z B "BetweenStopsModel" cX10_tries 11 4 := C
  show xWS (GM Y) B 11 s [(0, .ref (Y.1 0)), (1, .int a1), (2, .int a2), (3, .int a3)] 0 []
  unfold fX10_tries at h
  refine ws_aload_n (pc := 0) C dX10_tries_0 rfl 0 rfl ?_
  refine ws_iload_n (pc := 1) C dX10_tries_1 rfl 2 rfl ?_
  refine ws_iconst (pc := 2) C dX10_tries_2 ci_0 ?_
  obtain ⟨r1, s2, q3, h⟩ := bd_ok h
  refine wc_iV (pc := 3)  C [.int a2, .int (0 : Int32)] [] (mX10_doesStop q3) dX10_tries_3 mw_X10_doesStop mv_X10_doesStop kl_X10_211 so_M rfl rfl (Nat.le_of_ble_eq_true rfl) ⟨by decide, by decide⟩ ?_
  refine ws_if_eq (pc := 6) (tgt := 22) C dX10_tries_6 (by decide) (fun c4 => ?_) (fun c4 => ?_)
  · have h := ite_t h c4
    refine ws_less [0, 1, 2, 3] rfl ?_
    exact pX10_tries_J22 C R h
  · have h := ite_f h c4
    refine ws_aload_n (pc := 9) C dX10_tries_9 rfl 0 rfl ?_
    refine ws_iload_n (pc := 10) C dX10_tries_10 rfl 3 rfl ?_
    refine ws_iconst (pc := 11) C dX10_tries_11 ci_0 ?_
    obtain ⟨r5, s6, q7, h⟩ := bd_ok h
    refine wc_iV (pc := 12)  C [.int a3, .int (0 : Int32)] [] (mX10_doesStop q7) dX10_tries_12 mw_X10_doesStop mv_X10_doesStop kl_X10_211 so_M rfl rfl (Nat.le_of_ble_eq_true rfl) ⟨by decide, by decide⟩ ?_
    refine ws_if_eq (pc := 15) (tgt := 22) C dX10_tries_15 (by decide) (fun c8 => ?_) (fun c8 => ?_)
    · have h := ite_t h c8
      refine ws_less [0, 1, 2, 3] rfl ?_
      exact pX10_tries_J22 C R h
    · have h := ite_f h c8
      refine ws_iconst (pc := 18) C dX10_tries_18 ci_1 ?_
      refine ws_goto (pc := 19) (tgt := 23) C dX10_tries_19 (by decide) ?_
      refine ws_less [0, 1, 2, 3] rfl ?_
      exact pX10_tries_J23 C R h
