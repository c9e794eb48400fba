set_option maxRecDepth 20000 in
set_option maxHeartbeats 4000000 in
theorem pX8_addUpStanding_L14 {Y : xY} {Z : xZ} {B : xB} {z : Int32 × xM} (C : xC (GX Y) Z B "BetweenStops$Ways" cX8_addUpStanding 5 2) (R : xRv (GX Y) B z) {k77 : xM → Option (Int32 × xM)} {a1 : Int32} {a2 : Nat}
    (hk77 : ∀  (s : xM), k77 s = some z → xWS (GX Y) B 5 s [(2, .ref (Y.1 (51 + a2)))] 77 []) (ha2 : a2 < 2) : ∀ (n : Nat) (a3 : Int32) (s : xM), fX8_addUpStanding_L14 k77 a1 a2 n a3 s = some z → xWS (GX Y) B 5 s [(0, .ref (Y.1 27)), (1, .int a1), (2, .ref (Y.1 (51 + a2))), (3, .int a3)] 14 [] := by
  intro n
  induction n with
  | zero =>
    intro a3 s h
    rw [fX8_addUpStanding_L14] at h
    cases h
  | succ n ih =>
    intro a3 s h
    rw [fX8_addUpStanding_L14] at h
    refine ws_iload_n (pc := 14) C dX8_addUpStanding_14 rfl 3 rfl ?_
    refine ws_aload_n (pc := 15) C dX8_addUpStanding_15 rfl 0 rfl ?_
    refine ws_geti (pc := 16) C dX8_addUpStanding_16 fd_X8_32 sf_ways_7 ?_
    refine ws_icmp_ge (pc := 19) (tgt := 77) C dX8_addUpStanding_19 (by decide) (fun c1 => ?_) (fun c1 => ?_)
    · have h := ite_t h c1
      refine ws_less [2] rfl ?_
      exact hk77 _ h
    · have h := ite_f h c1
      refine ws_aload_n (pc := 22) C dX8_addUpStanding_22 rfl 0 rfl ?_
      refine ws_getr (pc := 23) C dX8_addUpStanding_23 fd_X8_29 sf_ways_6 ?_
      refine ws_iload_n (pc := 26) C dX8_addUpStanding_26 rfl 3 rfl ?_
      obtain ⟨g2, h⟩ := gd_ok h
      refine ws_ialdK (pc := 27) C dX8_addUpStanding_27 sr_w_members g2 rfl ?_
      obtain ⟨v3, e4, h⟩ := lz_ok h
      refine ws_topi C e4 ?_
      refine ws_istore (pc := 28) C dX8_addUpStanding_28 (by decide) rfl ?_
      refine ws_aload_n (pc := 30) C dX8_addUpStanding_30 rfl 1 rfl ?_
      refine ws_getr (pc := 31) C dX8_addUpStanding_31 fd_X8_9 sf_ways_1 ?_
      refine ws_iload (pc := 34) C dX8_addUpStanding_34 0 rfl ?_
      obtain ⟨g5, h⟩ := gd_ok h
      refine ws_ialdK (pc := 36) C dX8_addUpStanding_36 sr_w_cars g5 rfl ?_
      refine ws_iconst (pc := 37) C dX8_addUpStanding_37 ci_1 ?_
      refine ws_iload_n (pc := 38) C dX8_addUpStanding_38 rfl 2 rfl ?_
      refine ws_ishl (pc := 39) C dX8_addUpStanding_39 ?_
      refine ws_iand (pc := 40) C dX8_addUpStanding_40 ?_
      refine ws_if_eq (pc := 41) (tgt := 71) C dX8_addUpStanding_41 (by decide) (fun c6 => ?_) (fun c6 => ?_)
      · have h := ite_t h c6
        refine ws_iinc (j := 4) (pc := 71) C dX8_addUpStanding_71 rfl (cn_1 _) (by decide) rfl ?_
        refine ws_goto (pc := 74) (tgt := 14) C dX8_addUpStanding_74 (by decide) ?_
        refine ws_less [2, 3, 4, 0] rfl ?_
        exact ih _ _ h
      · have h := ite_f h c6
        refine ws_aload_n (pc := 44) C dX8_addUpStanding_44 rfl 3 rfl ?_
        refine ws_aload_n (pc := 45) C dX8_addUpStanding_45 rfl 1 rfl ?_
        refine ws_getr (pc := 46) C dX8_addUpStanding_46 fd_X8_63 sf_ways_0 ?_
        refine ws_getr (pc := 49) C dX8_addUpStanding_49 fd_X8_72 sf_town_6 ?_
        refine ws_iload (pc := 52) C dX8_addUpStanding_52 0 rfl ?_
        obtain ⟨g7, h⟩ := gd_ok h
        refine ws_aaldK (q := (11 + v3.toNatClampNeg)) (pc := 54) C dX8_addUpStanding_54 (by decide) sq_stops g7 rfl rfl ?_
        refine ws_geti (pc := 55) C dX8_addUpStanding_55 fd_X8_113 (sf_stop_2 (inb_lt g7)) ?_
        refine ws_iconst (pc := 58) C dX8_addUpStanding_58 ci_1 ?_
        refine ws_iadd (pc := 59) C dX8_addUpStanding_59 ?_
        refine ws_dup2_11 (pc := 60) C dX8_addUpStanding_60 rfl rfl ?_
        obtain ⟨g8, h⟩ := gd_ok h
        refine ws_ialdK (pc := 61) C dX8_addUpStanding_61 (sr_stoodR ha2) g8 rfl ?_
        refine ws_aload_n (pc := 62) C dX8_addUpStanding_62 rfl 1 rfl ?_
        refine ws_getr (pc := 63) C dX8_addUpStanding_63 fd_X8_15 sf_ways_2 ?_
        refine ws_iload (pc := 66) C dX8_addUpStanding_66 0 rfl ?_
        obtain ⟨g9, h⟩ := gd_ok h
        refine ws_ialdK (pc := 68) C dX8_addUpStanding_68 sr_w_seconds g9 rfl ?_
        refine ws_iadd (pc := 69) C dX8_addUpStanding_69 ?_
        obtain ⟨g10, h⟩ := gd_ok h
        obtain ⟨s11, e12, h⟩ := lz_ok h
        refine ws_iastK (pc := 70) C dX8_addUpStanding_70 (sr_stoodR ha2) g10 rfl e12 ?_
        refine ws_iinc (j := 4) (pc := 71) C dX8_addUpStanding_71 rfl (cn_1 _) (by decide) rfl ?_
        refine ws_goto (pc := 74) (tgt := 14) C dX8_addUpStanding_74 (by decide) ?_
        refine ws_less [2, 3, 4, 0] rfl ?_
        exact ih _ _ h
set_option maxRecDepth 20000 in
set_option maxHeartbeats 4000000 in
theorem pX8_addUpStanding_L79 {Y : xY} {Z : xZ} {B : xB} {z : Int32 × xM} (C : xC (GX Y) Z B "BetweenStops$Ways" cX8_addUpStanding 5 2) (R : xRv (GX Y) B z) {k102 : xM → Option (Int32 × xM)} {a2 : Nat}
    (hk102 : ∀  (s : xM), k102 s = some z → xWS (GX Y) B 5 s [] 102 []) (ha2 : a2 < 2) : ∀ (n : Nat) (a3 : Int32) (s : xM), fX8_addUpStanding_L79 k102 a2 n a3 s = some z → xWS (GX Y) B 5 s [(2, .ref (Y.1 (51 + a2))), (3, .int a3)] 79 [] := by
  intro n
  induction n with
  | zero =>
    intro a3 s h
    rw [fX8_addUpStanding_L79] at h
    cases h
  | succ n ih =>
    intro a3 s h
    rw [fX8_addUpStanding_L79] at h
    refine ws_iload_n (pc := 79) C dX8_addUpStanding_79 rfl 1 rfl ?_
    refine ws_bipush (pc := 80) C dX8_addUpStanding_80 cb_41 ?_
    refine ws_icmp_gt (pc := 82) (tgt := 102) C dX8_addUpStanding_82 (by decide) (fun c1 => ?_) (fun c1 => ?_)
    · have h := ite_t h c1
      refine ws_less [] rfl ?_
      exact hk102 _ h
    · have h := ite_f h c1
      refine ws_aload_n (pc := 85) C dX8_addUpStanding_85 rfl 0 rfl ?_
      refine ws_iload_n (pc := 86) C dX8_addUpStanding_86 rfl 1 rfl ?_
      refine ws_dup2_11 (pc := 87) C dX8_addUpStanding_87 rfl rfl ?_
      obtain ⟨g2, h⟩ := gd_ok h
      refine ws_ialdK (pc := 88) C dX8_addUpStanding_88 (sr_stoodR ha2) g2 rfl ?_
      refine ws_aload_n (pc := 89) C dX8_addUpStanding_89 rfl 0 rfl ?_
      refine ws_iload_n (pc := 90) C dX8_addUpStanding_90 rfl 1 rfl ?_
      refine ws_iconst (pc := 91) C dX8_addUpStanding_91 ci_1 ?_
      refine ws_isub (pc := 92) C dX8_addUpStanding_92 ?_
      obtain ⟨g3, h⟩ := gd_ok h
      refine ws_ialdK (pc := 93) C dX8_addUpStanding_93 (sr_stoodR ha2) g3 rfl ?_
      refine ws_iadd (pc := 94) C dX8_addUpStanding_94 ?_
      obtain ⟨g4, h⟩ := gd_ok h
      obtain ⟨s5, e6, h⟩ := lz_ok h
      refine ws_iastK (pc := 95) C dX8_addUpStanding_95 (sr_stoodR ha2) g4 rfl e6 ?_
      refine ws_iinc (j := 1) (pc := 96) C dX8_addUpStanding_96 rfl (cn_1 _) (by decide) rfl ?_
      refine ws_goto (pc := 99) (tgt := 79) C dX8_addUpStanding_99 (by decide) ?_
      refine ws_less [1, 0] rfl ?_
      exact ih _ _ h
set_option maxRecDepth 20000 in
set_option maxHeartbeats 4000000 in
theorem mX8_addUpStanding {Y : xY} {Z : xZ} {a1 : Int32} {s : xM} {z : Int32 × xM} (h : fX8_addUpStanding a1 s = some z) : xMv (GX Y) Z yX8_addUpStanding cX8_addUpStanding 5 2 [.ref (Y.1 27), .int a1] s z := by
  refine xMv_of (by decide) (Nat.le_of_ble_eq_true rfl) (fun B C R => ?_)
  have C : xC (GX Y) Z B "BetweenStops$Ways" cX8_addUpStanding 5 2 := C
  show xWS (GX Y) B 5 s [(0, .ref (Y.1 27)), (1, .int a1)] 0 []
  unfold fX8_addUpStanding at h
  refine ws_aload_n (pc := 0) C dX8_addUpStanding_0 rfl 0 rfl ?_
  refine ws_getr (pc := 1) C dX8_addUpStanding_1 fd_X8_36 sf_ways_8 ?_
  refine ws_iload_n (pc := 4) C dX8_addUpStanding_4 rfl 1 rfl ?_
  obtain ⟨g1, h⟩ := gd_ok h
  refine ws_aaldK (q := (51 + a1.toNatClampNeg)) (pc := 5) C dX8_addUpStanding_5 (by decide) sq_w_stood g1 rfl rfl ?_
  refine ws_astore_n (pc := 6) C dX8_addUpStanding_6 rfl (by decide) rfl ?_
  refine ws_aload_n (pc := 7) C dX8_addUpStanding_7 rfl 0 rfl ?_
  refine ws_iconst (pc := 8) C dX8_addUpStanding_8 ci_0 ?_
  obtain ⟨r2, s3, q4, h⟩ := bd_ok h
  refine wc_vS (pc := 9)  C [.ref (Y.1 (51 + a1.toNatClampNeg)), .int (0 : Int32)] [] (mJ7_fill_53178 (sr_stoodR (inb_lt g1)) q4) dX8_addUpStanding_9 mw_J7_fill_53178 ks_J7_fill_53178 kl_X8_127 rfl rfl (Nat.le_of_ble_eq_true rfl) ⟨by decide, by decide⟩ ?_
  refine ws_iconst (pc := 12) C dX8_addUpStanding_12 ci_0 ?_
  refine ws_istore_n (pc := 13) C dX8_addUpStanding_13 rfl (by decide) rfl ?_
  refine ws_less [2, 3, 1, 0] rfl ?_
  refine pX8_addUpStanding_L14 C R (fun s5 h => ?_) (inb_lt g1) fu _ _ h
  · refine ws_iconst (pc := 77) C dX8_addUpStanding_77 ci_1 ?_
    refine ws_istore_n (pc := 78) C dX8_addUpStanding_78 rfl (by decide) rfl ?_
    refine ws_less [1, 0] rfl ?_
    refine pX8_addUpStanding_L79 C R (fun s6 h => ?_) (inb_lt g1) fu _ _ h
    · exact wr_v (pc := 102) C R dX8_addUpStanding_102 h
set_option maxRecDepth 20000 in
set_option maxHeartbeats 4000000 in
theorem mX8_carTime {Y : xY} {Z : xZ} {a1 : Int32} {a2 : Int32} {a3 : Int32} {s : xM} {z : Int32 × xM} (h : fX8_carTime a1 a2 a3 s = some z) : xMi (GX Y) Z yX8_carTime cX8_carTime 6 1 .int [.ref (Y.1 27), .int a1, .int a2, .int a3] s z := by
  refine xMi_of (by decide) (Nat.le_of_ble_eq_true rfl) (fun B C R => ?_)
  have C : xC (GX Y) Z B "BetweenStops$Ways" cX8_carTime 6 1 := C
  show xWS (GX Y) B 6 s [(0, .ref (Y.1 27)), (1, .int a1), (2, .int a2), (3, .int a3)] 0 []
  unfold fX8_carTime at h
  refine ws_aload_n (pc := 0) C dX8_carTime_0 rfl 0 rfl ?_
  refine ws_getr (pc := 1) C dX8_carTime_1 fd_X8_63 sf_ways_0 ?_
  refine ws_getr (pc := 4) C dX8_carTime_4 fd_X8_72 sf_town_6 ?_
  refine ws_iload_n (pc := 7) C dX8_carTime_7 rfl 2 rfl ?_
  obtain ⟨g1, h⟩ := gd_ok h
  refine ws_aaldK (q := (11 + a2.toNatClampNeg)) (pc := 8) C dX8_carTime_8 (by decide) sq_stops g1 rfl rfl ?_
  refine ws_geti (pc := 9) C dX8_carTime_9 fd_X8_113 (sf_stop_2 (inb_lt g1)) ?_
  refine ws_aload_n (pc := 12) C dX8_carTime_12 rfl 0 rfl ?_
  refine ws_getr (pc := 13) C dX8_carTime_13 fd_X8_63 sf_ways_0 ?_
  refine ws_getr (pc := 16) C dX8_carTime_16 fd_X8_72 sf_town_6 ?_
  refine ws_iload_n (pc := 19) C dX8_carTime_19 rfl 3 rfl ?_
  obtain ⟨g2, h⟩ := gd_ok h
  refine ws_aaldK (q := (11 + a3.toNatClampNeg)) (pc := 20) C dX8_carTime_20 (by decide) sq_stops g2 rfl rfl ?_
  refine ws_geti (pc := 21) C dX8_carTime_21 fd_X8_113 (sf_stop_2 (inb_lt g2)) ?_
  refine ws_min (pc := 24) C dX8_carTime_24 ma_X8_136 (Nat.le_of_ble_eq_true rfl) (by decide) ?_
  obtain ⟨v3, e4, h⟩ := lz_ok h
  refine ws_topi C e4 ?_
  refine ws_istore (pc := 27) C dX8_carTime_27 (by decide) rfl ?_
  refine ws_aload_n (pc := 29) C dX8_carTime_29 rfl 1 rfl ?_
  refine ws_getr (pc := 30) C dX8_carTime_30 fd_X8_63 sf_ways_0 ?_
  refine ws_getr (pc := 33) C dX8_carTime_33 fd_X8_72 sf_town_6 ?_
  refine ws_iload_n (pc := 36) C dX8_carTime_36 rfl 3 rfl ?_
  obtain ⟨g5, h⟩ := gd_ok h
  refine ws_aaldK (q := (11 + a2.toNatClampNeg)) (pc := 37) C dX8_carTime_37 (by decide) sq_stops g5 rfl rfl ?_
  refine ws_geti (pc := 38) C dX8_carTime_38 fd_X8_113 (sf_stop_2 (inb_lt g5)) ?_
  refine ws_aload_n (pc := 41) C dX8_carTime_41 rfl 1 rfl ?_
  refine ws_getr (pc := 42) C dX8_carTime_42 fd_X8_63 sf_ways_0 ?_
  refine ws_getr (pc := 45) C dX8_carTime_45 fd_X8_72 sf_town_6 ?_
  refine ws_iload_n (pc := 48) C dX8_carTime_48 rfl 4 rfl ?_
  obtain ⟨g6, h⟩ := gd_ok h
  refine ws_aaldK (q := (11 + a3.toNatClampNeg)) (pc := 49) C dX8_carTime_49 (by decide) sq_stops g6 rfl rfl ?_
  refine ws_geti (pc := 50) C dX8_carTime_50 fd_X8_113 (sf_stop_2 (inb_lt g6)) ?_
  refine ws_max (pc := 53) C dX8_carTime_53 ma_X8_142 (Nat.le_of_ble_eq_true rfl) (by decide) ?_
  obtain ⟨v7, e8, h⟩ := lz_ok h
  refine ws_topi C e8 ?_
  refine ws_istore (pc := 56) C dX8_carTime_56 (by decide) rfl ?_
  refine ws_iload (pc := 58) C dX8_carTime_58 1 rfl ?_
  refine ws_iload (pc := 60) C dX8_carTime_60 0 rfl ?_
  refine ws_icmp_ne (pc := 62) (tgt := 67) C dX8_carTime_62 (by decide) (fun c9 => ?_) (fun c9 => ?_)
  · have h := ite_f h c9
    refine ws_iload (pc := 67) C dX8_carTime_67 0 rfl ?_
    refine ws_iload (pc := 69) C dX8_carTime_69 1 rfl ?_
    refine ws_isub (pc := 71) C dX8_carTime_71 ?_
    refine ws_aload_n (pc := 72) C dX8_carTime_72 rfl 2 rfl ?_
    refine ws_getr (pc := 73) C dX8_carTime_73 fd_X8_63 sf_ways_0 ?_
    refine ws_geti (pc := 76) C dX8_carTime_76 fd_X8_145 sf_town_5 ?_
    refine ws_imul (pc := 79) C dX8_carTime_79 ?_
    refine ws_aload_n (pc := 80) C dX8_carTime_80 rfl 2 rfl ?_
    refine ws_getr (pc := 81) C dX8_carTime_81 fd_X8_36 sf_ways_8 ?_
    refine ws_iload_n (pc := 84) C dX8_carTime_84 rfl 3 rfl ?_
    obtain ⟨g10, h⟩ := gd_ok h
    refine ws_aaldK (q := (51 + a1.toNatClampNeg)) (pc := 85) C dX8_carTime_85 (by decide) sq_w_stood g10 rfl rfl ?_
    refine ws_iload (pc := 86) C dX8_carTime_86 0 rfl ?_
    obtain ⟨g11, h⟩ := gd_ok h
    refine ws_ialdK (pc := 88) C dX8_carTime_88 (sr_stoodR (inb_lt g10)) g11 rfl ?_
    refine ws_iadd (pc := 89) C dX8_carTime_89 ?_
    refine ws_aload_n (pc := 90) C dX8_carTime_90 rfl 2 rfl ?_
    refine ws_getr (pc := 91) C dX8_carTime_91 fd_X8_36 sf_ways_8 ?_
    refine ws_iload_n (pc := 94) C dX8_carTime_94 rfl 3 rfl ?_
    obtain ⟨g12, h⟩ := gd_ok h
    refine ws_aaldK (q := (51 + a1.toNatClampNeg)) (pc := 95) C dX8_carTime_95 (by decide) sq_w_stood g12 rfl rfl ?_
    refine ws_iload (pc := 96) C dX8_carTime_96 1 rfl ?_
    refine ws_iconst (pc := 98) C dX8_carTime_98 ci_1 ?_
    refine ws_iadd (pc := 99) C dX8_carTime_99 ?_
    obtain ⟨g13, h⟩ := gd_ok h
    refine ws_ialdK (pc := 100) C dX8_carTime_100 (sr_stoodR (inb_lt g12)) g13 rfl ?_
    refine ws_isub (pc := 101) C dX8_carTime_101 ?_
    exact wr_i (pc := 102) C R dX8_carTime_102 rfl h
  · have h := ite_t h c9
    refine ws_iconst (pc := 65) C dX8_carTime_65 ci_0 ?_
    exact wr_i (pc := 66) C R dX8_carTime_66 rfl h
set_option maxRecDepth 20000 in
set_option maxHeartbeats 4000000 in
theorem pX8_ride_J81 {Y : xY} {Z : xZ} {B : xB} {z : Int32 × xM} (C : xC (GX Y) Z B "BetweenStops$Ways" cX8_ride 7 2) (R : xRv (GX Y) B z) {a1 : Int32} {a2 : Int32} {a5 : Int32} {a6 : Int32} {s : xM} (h : fX8_ride_J81 a1 a2 a5 a6 s = some z) : xWS (GX Y) B 7 s [(0, .ref (Y.1 27)), (1, .int a1), (2, .int a2), (5, .int a5), (6, .int a6)] 81 [] := by
  unfold fX8_ride_J81 at h
  refine ws_aload_n (pc := 81) C dX8_ride_81 rfl 0 rfl ?_
  refine ws_getr (pc := 82) C dX8_ride_82 fd_X8_39 sf_ways_9 ?_
  refine ws_iload_n (pc := 85) C dX8_ride_85 rfl 1 rfl ?_
  obtain ⟨g1, h⟩ := gd_ok h
  refine ws_aaldK (q := (54 + a1.toNatClampNeg)) (pc := 86) C dX8_ride_86 (by decide) sq_w_waits g1 rfl rfl ?_
  refine ws_iload_n (pc := 87) C dX8_ride_87 rfl 2 rfl ?_
  refine ws_iload (pc := 88) C dX8_ride_88 3 rfl ?_
  obtain ⟨g2, h⟩ := gd_ok h
  obtain ⟨s3, e4, h⟩ := lz_ok h
  refine ws_iastK (pc := 90) C dX8_ride_90 (sr_waitsR (inb_lt g1)) g2 rfl e4 ?_
  refine ws_aload_n (pc := 91) C dX8_ride_91 rfl 0 rfl ?_
  refine ws_getr (pc := 92) C dX8_ride_92 fd_X8_39 sf_ways_9 ?_
  refine ws_iload_n (pc := 95) C dX8_ride_95 rfl 2 rfl ?_
  obtain ⟨g5, h⟩ := gd_ok h
  refine ws_aaldK (q := (54 + a2.toNatClampNeg)) (pc := 96) C dX8_ride_96 (by decide) sq_w_waits g5 rfl rfl ?_
  refine ws_iload_n (pc := 97) C dX8_ride_97 rfl 1 rfl ?_
  refine ws_iload (pc := 98) C dX8_ride_98 3 rfl ?_
  obtain ⟨g6, h⟩ := gd_ok h
  obtain ⟨s7, e8, h⟩ := lz_ok h
  refine ws_iastK (pc := 100) C dX8_ride_100 (sr_waitsR (inb_lt g5)) g6 rfl e8 ?_
  refine ws_aload_n (pc := 101) C dX8_ride_101 rfl 0 rfl ?_
  refine ws_getr (pc := 102) C dX8_ride_102 fd_X8_42 sf_ways_10 ?_
  refine ws_iload_n (pc := 105) C dX8_ride_105 rfl 1 rfl ?_
  obtain ⟨g9, h⟩ := gd_ok h
  refine ws_aaldK (q := (63 + a1.toNatClampNeg)) (pc := 106) C dX8_ride_106 (by decide) sq_w_rides g9 rfl rfl ?_
  refine ws_iload_n (pc := 107) C dX8_ride_107 rfl 2 rfl ?_
  refine ws_iload (pc := 108) C dX8_ride_108 4 rfl ?_
  obtain ⟨g10, h⟩ := gd_ok h
  obtain ⟨s11, e12, h⟩ := lz_ok h
  refine ws_iastK (pc := 110) C dX8_ride_110 (sr_ridesR (inb_lt g9)) g10 rfl e12 ?_
  refine ws_aload_n (pc := 111) C dX8_ride_111 rfl 0 rfl ?_
  refine ws_getr (pc := 112) C dX8_ride_112 fd_X8_42 sf_ways_10 ?_
  refine ws_iload_n (pc := 115) C dX8_ride_115 rfl 2 rfl ?_
  obtain ⟨g13, h⟩ := gd_ok h
  refine ws_aaldK (q := (63 + a2.toNatClampNeg)) (pc := 116) C dX8_ride_116 (by decide) sq_w_rides g13 rfl rfl ?_
  refine ws_iload_n (pc := 117) C dX8_ride_117 rfl 1 rfl ?_
  refine ws_iload (pc := 118) C dX8_ride_118 4 rfl ?_
  obtain ⟨g14, h⟩ := gd_ok h
  obtain ⟨s15, e16, h⟩ := lz_ok h
  refine ws_iastK (pc := 120) C dX8_ride_120 (sr_ridesR (inb_lt g13)) g14 rfl e16 ?_
  exact wr_v (pc := 121) C R dX8_ride_121 h
set_option maxRecDepth 20000 in
set_option maxHeartbeats 4000000 in
theorem pX8_ride_J74 {Y : xY} {Z : xZ} {B : xB} {z : Int32 × xM} (C : xC (GX Y) Z B "BetweenStops$Ways" cX8_ride 7 2) (R : xRv (GX Y) B z) {a1 : Int32} {a2 : Int32} {a5 : Int32} {t0 : Int32} {s : xM} (h : fX8_ride_J74 a1 a2 a5 t0 s = some z) : xWS (GX Y) B 7 s [(0, .ref (Y.1 27)), (1, .int a1), (2, .int a2), (5, .int a5)] 74 [.int t0, .ref (Y.1 27)] := by
  unfold fX8_ride_J74 at h
  refine ws_iload_n (pc := 74) C dX8_ride_74 rfl 1 rfl ?_
  refine ws_iload_n (pc := 75) C dX8_ride_75 rfl 2 rfl ?_
  obtain ⟨r1, s2, q3, h⟩ := bd_ok h
  refine wc_iV (pc := 76)  C [.int t0, .int a1, .int a2] [] (mX8_carTime q3) dX8_ride_76 mw_X8_carTime mv_X8_carTime kl_X8_133 so_ways rfl rfl (Nat.le_of_ble_eq_true rfl) ⟨by decide, by decide⟩ ?_
  refine ws_istore (pc := 79) C dX8_ride_79 (by decide) rfl ?_
  refine ws_less [1, 2, 3, 4, 0] rfl ?_
  exact pX8_ride_J81 C R h
set_option maxRecDepth 20000 in
set_option maxHeartbeats 4000000 in
theorem mX8_ride {Y : xY} {Z : xZ} {a1 : Int32} {a2 : Int32} {a3 : Int32} {s : xM} {z : Int32 × xM} (h : fX8_ride a1 a2 a3 s = some z) : xMv (GX Y) Z yX8_ride cX8_ride 7 2 [.ref (Y.1 27), .int a1, .int a2, .int a3] s z := by
  refine xMv_of (by decide) (Nat.le_of_ble_eq_true rfl) (fun B C R => ?_)
  have C : xC (GX Y) Z B "BetweenStops$Ways" cX8_ride 7 2 := C
  show xWS (GX Y) B 7 s [(0, .ref (Y.1 27)), (1, .int a1), (2, .int a2), (3, .int a3)] 0 []
  unfold fX8_ride at h
  refine ws_aload_n (pc := 0) C dX8_ride_0 rfl 0 rfl ?_
  refine ws_getr (pc := 1) C dX8_ride_1 fd_X8_9 sf_ways_1 ?_
  refine ws_iload_n (pc := 4) C dX8_ride_4 rfl 1 rfl ?_
  obtain ⟨g1, h⟩ := gd_ok h
  refine ws_ialdK (pc := 5) C dX8_ride_5 sr_w_cars g1 rfl ?_
  refine ws_aload_n (pc := 6) C dX8_ride_6 rfl 0 rfl ?_
  refine ws_getr (pc := 7) C dX8_ride_7 fd_X8_9 sf_ways_1 ?_
  refine ws_iload_n (pc := 10) C dX8_ride_10 rfl 2 rfl ?_
  obtain ⟨g2, h⟩ := gd_ok h
  refine ws_ialdK (pc := 11) C dX8_ride_11 sr_w_cars g2 rfl ?_
  refine ws_iand (pc := 12) C dX8_ride_12 ?_
  obtain ⟨v3, e4, h⟩ := lz_ok h
  refine ws_topi C e4 ?_
  refine ws_istore (pc := 13) C dX8_ride_13 (by decide) rfl ?_
  refine ws_iconst (pc := 15) C dX8_ride_15 ci_m1 ?_
  refine ws_istore (pc := 16) C dX8_ride_16 (by decide) rfl ?_
  refine ws_iconst (pc := 18) C dX8_ride_18 ci_0 ?_
  refine ws_istore (pc := 19) C dX8_ride_19 (by decide) rfl ?_
  refine ws_iload (pc := 21) C dX8_ride_21 2 rfl ?_
  refine ws_iconst (pc := 23) C dX8_ride_23 ci_3 ?_
  refine ws_icmp_ne (pc := 24) (tgt := 54) C dX8_ride_24 (by decide) (fun c5 => ?_) (fun c5 => ?_)
  · have h := ite_f h c5
    refine ws_iload (pc := 54) C dX8_ride_54 2 rfl ?_
    refine ws_if_eq (pc := 56) (tgt := 81) C dX8_ride_56 (by decide) (fun c6 => ?_) (fun c6 => ?_)
    · have h := ite_t h c6
      refine ws_less [3, 4, 5, 1, 0] rfl ?_
      exact pX8_ride_J81 C R h
    · have h := ite_f h c6
      refine ws_iload_n (pc := 59) C dX8_ride_59 rfl 6 rfl ?_
      refine ws_istore (pc := 60) C dX8_ride_60 (by decide) rfl ?_
      refine ws_aload_n (pc := 62) C dX8_ride_62 rfl 3 rfl ?_
      refine ws_iload (pc := 63) C dX8_ride_63 2 rfl ?_
      refine ws_iconst (pc := 65) C dX8_ride_65 ci_1 ?_
      refine ws_icmp_ne (pc := 66) (tgt := 73) C dX8_ride_66 (by decide) (fun c7 => ?_) (fun c7 => ?_)
      · have h := ite_f h c7
        refine ws_iconst (pc := 73) C dX8_ride_73 ci_1 ?_
        refine ws_less [3, 4, 5, 0] rfl ?_
        exact pX8_ride_J74 C R h
      · have h := ite_t h c7
        refine ws_iconst (pc := 69) C dX8_ride_69 ci_0 ?_
        refine ws_goto (pc := 70) (tgt := 74) C dX8_ride_70 (by decide) ?_
        refine ws_less [3, 4, 5, 0] rfl ?_
        exact pX8_ride_J74 C R h
  · have h := ite_t h c5
    refine ws_iload_n (pc := 27) C dX8_ride_27 rfl 6 rfl ?_
    refine ws_iconst (pc := 28) C dX8_ride_28 ci_2 ?_
    refine ws_idiv (pc := 29) C dX8_ride_29 (by decide) ?_
    obtain ⟨v8, e9, h⟩ := lz_ok h
    refine ws_topi C e9 ?_
    refine ws_istore (pc := 30) C dX8_ride_30 (by decide) rfl ?_
    refine ws_aload_n (pc := 32) C dX8_ride_32 rfl 3 rfl ?_
    refine ws_iconst (pc := 33) C dX8_ride_33 ci_0 ?_
    refine ws_iload_n (pc := 34) C dX8_ride_34 rfl 4 rfl ?_
    refine ws_iload_n (pc := 35) C dX8_ride_35 rfl 5 rfl ?_
    obtain ⟨r10, s11, q12, h⟩ := bd_ok h
    refine wc_iV (pc := 36)  C [.int (0 : Int32), .int a1, .int a2] [] (mX8_carTime q12) dX8_ride_36 mw_X8_carTime mv_X8_carTime kl_X8_133 so_ways rfl rfl (Nat.le_of_ble_eq_true rfl) ⟨by decide, by decide⟩ ?_
    refine ws_aload_n (pc := 39) C dX8_ride_39 rfl 3 rfl ?_
    refine ws_iconst (pc := 40) C dX8_ride_40 ci_1 ?_
    refine ws_iload_n (pc := 41) C dX8_ride_41 rfl 4 rfl ?_
    refine ws_iload_n (pc := 42) C dX8_ride_42 rfl 5 rfl ?_
    obtain ⟨r13, s14, q15, h⟩ := bd_ok h
    refine wc_iV (pc := 43)  C [.int (1 : Int32), .int a1, .int a2] [.int r10] (mX8_carTime q15) dX8_ride_43 mw_X8_carTime mv_X8_carTime kl_X8_133 so_ways rfl rfl (Nat.le_of_ble_eq_true rfl) ⟨by decide, by decide⟩ ?_
    refine ws_iadd (pc := 46) C dX8_ride_46 ?_
    refine ws_iconst (pc := 47) C dX8_ride_47 ci_2 ?_
    refine ws_idiv (pc := 48) C dX8_ride_48 (by decide) ?_
    obtain ⟨v16, e17, h⟩ := lz_ok h
    refine ws_topi C e17 ?_
    refine ws_istore (pc := 49) C dX8_ride_49 (by decide) rfl ?_
    refine ws_goto (pc := 51) (tgt := 81) C dX8_ride_51 (by decide) ?_
    refine ws_less [3, 4, 5, 1, 0] rfl ?_
    exact pX8_ride_J81 C R h
set_option maxRecDepth 20000 in
set_option maxHeartbeats 4000000 in
theorem pX8_tellBest_J99 {Y : xY} {Z : xZ} {B : xB} {z : Int32 × xM} (C : xC (GX Y) Z B "BetweenStops$Ways" cX8_tellBest 5 1) (R : xRv (GX Y) B z) {t0 : Int32} {t1 : Int32} {s : xM} (h : fX8_tellBest_J99 t0 t1 s = some z) : xWS (GX Y) B 5 s [] 99 [.int t0, .int t1, .ref (Y.1 76)] := by
  unfold fX8_tellBest_J99 at h
  obtain ⟨g1, h⟩ := gd_ok h
  obtain ⟨s2, e3, h⟩ := lz_ok h
  refine ws_iastK (pc := 99) C dX8_tellBest_99 sr_w_ridden g1 rfl e3 ?_
  exact wr_v (pc := 100) C R dX8_tellBest_100 h
set_option maxRecDepth 20000 in
set_option maxHeartbeats 4000000 in
theorem pX8_tellBest_J76 {Y : xY} {Z : xZ} {B : xB} {z : Int32 × xM} (C : xC (GX Y) Z B "BetweenStops$Ways" cX8_tellBest 5 1) (R : xRv (GX Y) B z) {a1 : Int32} {a2 : Int32} {a3 : Int32} {a4 : Int32} {t0 : Int32} {t1 : Int32} {s : xM} (h : fX8_tellBest_J76 a1 a2 a3 a4 t0 t1 s = some z) : xWS (GX Y) B 5 s [(0, .ref (Y.1 27)), (1, .int a1), (2, .int a2), (3, .int a3), (4, .int a4)] 76 [.int t0, .int t1, .ref (Y.1 75)] := by
  unfold fX8_tellBest_J76 at h
  obtain ⟨g1, h⟩ := gd_ok h
  obtain ⟨s2, e3, h⟩ := lz_ok h
  refine ws_iastK (pc := 76) C dX8_tellBest_76 sr_w_waited g1 rfl e3 ?_
  refine ws_aload_n (pc := 77) C dX8_tellBest_77 rfl 0 rfl ?_
  refine ws_getr (pc := 78) C dX8_tellBest_78 fd_X8_60 sf_ways_16 ?_
  refine ws_iload_n (pc := 81) C dX8_tellBest_81 rfl 1 rfl ?_
  refine ws_iload (pc := 82) C dX8_tellBest_82 4 rfl ?_
  refine ws_if_eq (pc := 84) (tgt := 98) C dX8_tellBest_84 (by decide) (fun c4 => ?_) (fun c4 => ?_)
  · have h := ite_t h c4
    refine ws_iconst (pc := 98) C dX8_tellBest_98 ci_0 ?_
    refine ws_less [] rfl ?_
    exact pX8_tellBest_J99 C R h
  · have h := ite_f h c4
    refine ws_aload_n (pc := 87) C dX8_tellBest_87 rfl 0 rfl ?_
    refine ws_getr (pc := 88) C dX8_tellBest_88 fd_X8_42 sf_ways_10 ?_
    refine ws_iload_n (pc := 91) C dX8_tellBest_91 rfl 2 rfl ?_
    obtain ⟨g5, h⟩ := gd_ok h
    refine ws_aaldK (q := (63 + a2.toNatClampNeg)) (pc := 92) C dX8_tellBest_92 (by decide) sq_w_rides g5 rfl rfl ?_
    refine ws_iload_n (pc := 93) C dX8_tellBest_93 rfl 3 rfl ?_
    obtain ⟨g6, h⟩ := gd_ok h
    refine ws_ialdK (pc := 94) C dX8_tellBest_94 (sr_ridesR (inb_lt g5)) g6 rfl ?_
    refine ws_goto (pc := 95) (tgt := 99) C dX8_tellBest_95 (by decide) ?_
    refine ws_less [] rfl ?_
    exact pX8_tellBest_J99 C R h
set_option maxRecDepth 20000 in
set_option maxHeartbeats 4000000 in
theorem pX8_tellBest_J53 {Y : xY} {Z : xZ} {B : xB} {z : Int32 × xM} (C : xC (GX Y) Z B "BetweenStops$Ways" cX8_tellBest 5 1) (R : xRv (GX Y) B z) {a1 : Int32} {a2 : Int32} {a3 : Int32} {a4 : Int32} {t0 : Int32} {t1 : Int32} {s : xM} (h : fX8_tellBest_J53 a1 a2 a3 a4 t0 t1 s = some z) : xWS (GX Y) B 5 s [(0, .ref (Y.1 27)), (1, .int a1), (2, .int a2), (3, .int a3), (4, .int a4)] 53 [.int t0, .int t1, .ref (Y.1 74)] := by
  unfold fX8_tellBest_J53 at h
  obtain ⟨g1, h⟩ := gd_ok h
  obtain ⟨s2, e3, h⟩ := lz_ok h
  refine ws_iastK (pc := 53) C dX8_tellBest_53 sr_w_walked g1 rfl e3 ?_
  refine ws_aload_n (pc := 54) C dX8_tellBest_54 rfl 0 rfl ?_
  refine ws_getr (pc := 55) C dX8_tellBest_55 fd_X8_57 sf_ways_15 ?_
  refine ws_iload_n (pc := 58) C dX8_tellBest_58 rfl 1 rfl ?_
  refine ws_iload (pc := 59) C dX8_tellBest_59 4 rfl ?_
  refine ws_if_eq (pc := 61) (tgt := 75) C dX8_tellBest_61 (by decide) (fun c4 => ?_) (fun c4 => ?_)
  · have h := ite_t h c4
    refine ws_iconst (pc := 75) C dX8_tellBest_75 ci_0 ?_
    refine ws_less [0, 1, 2, 3, 4] rfl ?_
    exact pX8_tellBest_J76 C R h
  · have h := ite_f h c4
    refine ws_aload_n (pc := 64) C dX8_tellBest_64 rfl 0 rfl ?_
    refine ws_getr (pc := 65) C dX8_tellBest_65 fd_X8_39 sf_ways_9 ?_
    refine ws_iload_n (pc := 68) C dX8_tellBest_68 rfl 2 rfl ?_
    obtain ⟨g5, h⟩ := gd_ok h
    refine ws_aaldK (q := (54 + a2.toNatClampNeg)) (pc := 69) C dX8_tellBest_69 (by decide) sq_w_waits g5 rfl rfl ?_
    refine ws_iload_n (pc := 70) C dX8_tellBest_70 rfl 3 rfl ?_
    obtain ⟨g6, h⟩ := gd_ok h
    refine ws_ialdK (pc := 71) C dX8_tellBest_71 (sr_waitsR (inb_lt g5)) g6 rfl ?_
    refine ws_goto (pc := 72) (tgt := 76) C dX8_tellBest_72 (by decide) ?_
    refine ws_less [0, 1, 2, 3, 4] rfl ?_
    exact pX8_tellBest_J76 C R h
set_option maxRecDepth 20000 in
set_option maxHeartbeats 4000000 in
theorem pX8_tellBest_J15 {Y : xY} {Z : xZ} {B : xB} {z : Int32 × xM} (C : xC (GX Y) Z B "BetweenStops$Ways" cX8_tellBest 5 1) (R : xRv (GX Y) B z) {a1 : Int32} {a2 : Int32} {a3 : Int32} {t0 : Int32} {s : xM} (h : fX8_tellBest_J15 a1 a2 a3 t0 s = some z) : xWS (GX Y) B 5 s [(0, .ref (Y.1 27)), (1, .int a1), (2, .int a2), (3, .int a3)] 15 [.int t0] := by
  unfold fX8_tellBest_J15 at h
  refine ws_istore (pc := 15) C dX8_tellBest_15 (by decide) rfl ?_
  refine ws_aload_n (pc := 17) C dX8_tellBest_17 rfl 1 rfl ?_
  refine ws_getr (pc := 18) C dX8_tellBest_18 fd_X8_54 sf_ways_14 ?_
  refine ws_iload_n (pc := 21) C dX8_tellBest_21 rfl 2 rfl ?_
  refine ws_iload (pc := 22) C dX8_tellBest_22 0 rfl ?_
  refine ws_if_eq (pc := 24) (tgt := 47) C dX8_tellBest_24 (by decide) (fun c1 => ?_) (fun c1 => ?_)
  · have h := ite_t h c1
    refine ws_aload_n (pc := 47) C dX8_tellBest_47 rfl 1 rfl ?_
    refine ws_getr (pc := 48) C dX8_tellBest_48 fd_X8_18 sf_ways_3 ?_
    refine ws_iload_n (pc := 51) C dX8_tellBest_51 rfl 2 rfl ?_
    obtain ⟨g2, h⟩ := gd_ok h
    refine ws_ialdK (pc := 52) C dX8_tellBest_52 sr_w_direct g2 rfl ?_
    refine ws_less [1, 2, 3, 4, 0] rfl ?_
    exact pX8_tellBest_J53 C R h
  · have h := ite_f h c1
    refine ws_aload_n (pc := 27) C dX8_tellBest_27 rfl 1 rfl ?_
    refine ws_getr (pc := 28) C dX8_tellBest_28 fd_X8_23 sf_ways_4 ?_
    refine ws_iload_n (pc := 31) C dX8_tellBest_31 rfl 2 rfl ?_
    obtain ⟨g3, h⟩ := gd_ok h
    refine ws_aaldK (q := (32 + a1.toNatClampNeg)) (pc := 32) C dX8_tellBest_32 (by decide) sq_w_toStop g3 rfl rfl ?_
    refine ws_iload_n (pc := 33) C dX8_tellBest_33 rfl 3 rfl ?_
    obtain ⟨g4, h⟩ := gd_ok h
    refine ws_ialdK (pc := 34) C dX8_tellBest_34 (sr_toStopR (inb_lt g3)) g4 rfl ?_
    refine ws_aload_n (pc := 35) C dX8_tellBest_35 rfl 1 rfl ?_
    refine ws_getr (pc := 36) C dX8_tellBest_36 fd_X8_26 sf_ways_5 ?_
    refine ws_iload_n (pc := 39) C dX8_tellBest_39 rfl 2 rfl ?_
    obtain ⟨g5, h⟩ := gd_ok h
    refine ws_aaldK (q := (41 + a1.toNatClampNeg)) (pc := 40) C dX8_tellBest_40 (by decide) sq_w_fromStop g5 rfl rfl ?_
    refine ws_iload_n (pc := 41) C dX8_tellBest_41 rfl 4 rfl ?_
    obtain ⟨g6, h⟩ := gd_ok h
    refine ws_ialdK (pc := 42) C dX8_tellBest_42 (sr_fromStopR (inb_lt g5)) g6 rfl ?_
    refine ws_iadd (pc := 43) C dX8_tellBest_43 ?_
    refine ws_goto (pc := 44) (tgt := 53) C dX8_tellBest_44 (by decide) ?_
    refine ws_less [1, 2, 3, 4, 0] rfl ?_
    exact pX8_tellBest_J53 C R h
set_option maxRecDepth 20000 in
set_option maxHeartbeats 4000000 in
theorem pX8_tellBest_J14 {Y : xY} {Z : xZ} {B : xB} {z : Int32 × xM} (C : xC (GX Y) Z B "BetweenStops$Ways" cX8_tellBest 5 1) (R : xRv (GX Y) B z) {a1 : Int32} {a2 : Int32} {a3 : Int32} {s : xM} (h : fX8_tellBest_J14 a1 a2 a3 s = some z) : xWS (GX Y) B 5 s [(0, .ref (Y.1 27)), (1, .int a1), (2, .int a2), (3, .int a3)] 14 [] := by
  unfold fX8_tellBest_J14 at h
  refine ws_iconst (pc := 14) C dX8_tellBest_14 ci_0 ?_
  refine ws_less [0, 1, 2, 3] rfl ?_
  exact pX8_tellBest_J15 C R h
set_option maxRecDepth 20000 in
set_option maxHeartbeats 4000000 in
theorem mX8_tellBest {Y : xY} {Z : xZ} {a1 : Int32} {a2 : Int32} {a3 : Int32} {s : xM} {z : Int32 × xM} (h : fX8_tellBest a1 a2 a3 s = some z) : xMv (GX Y) Z yX8_tellBest cX8_tellBest 5 1 [.ref (Y.1 27), .int a1, .int a2, .int a3] s z := by
  refine xMv_of (by decide) (Nat.le_of_ble_eq_true rfl) (fun B C R => ?_)
  have C : xC (GX Y) Z B "BetweenStops$Ways" cX8_tellBest 5 1 := C
  show xWS (GX Y) B 5 s [(0, .ref (Y.1 27)), (1, .int a1), (2, .int a2), (3, .int a3)] 0 []
  unfold fX8_tellBest at h
  refine ws_iload_n (pc := 0) C dX8_tellBest_0 rfl 2 rfl ?_
  refine ws_iconst (pc := 1) C dX8_tellBest_1 ci_m1 ?_
  refine ws_icmp_eq (pc := 2) (tgt := 14) C dX8_tellBest_2 (by decide) (fun c1 => ?_) (fun c1 => ?_)
  · have h := ite_t h c1
    refine ws_less [0, 1, 2, 3] rfl ?_
    exact pX8_tellBest_J14 C R h
  · have h := ite_f h c1
    refine ws_iload_n (pc := 5) C dX8_tellBest_5 rfl 3 rfl ?_
    refine ws_iconst (pc := 6) C dX8_tellBest_6 ci_m1 ?_
    refine ws_icmp_eq (pc := 7) (tgt := 14) C dX8_tellBest_7 (by decide) (fun c2 => ?_) (fun c2 => ?_)
    · have h := ite_t h c2
      refine ws_less [0, 1, 2, 3] rfl ?_
      exact pX8_tellBest_J14 C R h
    · have h := ite_f h c2
      refine ws_iconst (pc := 10) C dX8_tellBest_10 ci_1 ?_
      refine ws_goto (pc := 11) (tgt := 15) C dX8_tellBest_11 (by decide) ?_
      refine ws_less [0, 1, 2, 3] rfl ?_
      exact pX8_tellBest_J15 C R h
set_option maxRecDepth 20000 in
set_option maxHeartbeats 4000000 in
theorem pX8_findBest_L72 {Y : xY} {Z : xZ} {B : xB} {z : Int32 × xM} (C : xC (GX Y) Z B "BetweenStops$Ways" cX8_findBest 8 2) (R : xRv (GX Y) B z) {k210 : xM → Option (Int32 × xM)} {a1 : Int32} {a2 : Nat} {a3 : Int32} {a4 : Int32}
    (hk210 : ∀  (s : xM), k210 s = some z → xWS (GX Y) B 8 s [(0, .ref (Y.1 27)), (1, .int a1), (2, .ref (Y.1 (6 + a2))), (3, .int a3)] 210 []) (ha2 : a2 < 3) : ∀ (n : Nat) (a5 : Int32) (s : xM), fX8_findBest_L72 k210 a1 a2 a3 a4 n a5 s = some z → xWS (GX Y) B 8 s [(0, .ref (Y.1 27)), (1, .int a1), (2, .ref (Y.1 (6 + a2))), (3, .int a3), (4, .int a4), (5, .int a5)] 72 [] := by
  intro n
  induction n with
  | zero =>
    intro a5 s h
    rw [fX8_findBest_L72] at h
    cases h
  | succ n ih =>
    intro a5 s h
    rw [fX8_findBest_L72] at h
    refine ws_iload (pc := 72) C dX8_findBest_72 5 rfl ?_
    refine ws_aload_n (pc := 74) C dX8_findBest_74 rfl 0 rfl ?_
    refine ws_geti (pc := 75) C dX8_findBest_75 fd_X8_32 sf_ways_7 ?_
    refine ws_icmp_ge (pc := 78) (tgt := 210) C dX8_findBest_78 (by decide) (fun c1 => ?_) (fun c1 => ?_)
    · have h := ite_t h c1
      refine ws_less [0, 1, 2, 3] rfl ?_
      exact hk210 _ h
    · have h := ite_f h c1
      refine ws_aload_n (pc := 81) C dX8_findBest_81 rfl 0 rfl ?_
      refine ws_getr (pc := 82) C dX8_findBest_82 fd_X8_29 sf_ways_6 ?_
      refine ws_iload (pc := 85) C dX8_findBest_85 5 rfl ?_
      obtain ⟨g2, h⟩ := gd_ok h
      refine ws_ialdK (pc := 87) C dX8_findBest_87 sr_w_members g2 rfl ?_
      obtain ⟨v3, e4, h⟩ := lz_ok h
      refine ws_topi C e4 ?_
      refine ws_istore (pc := 88) C dX8_findBest_88 (by decide) rfl ?_
      refine ws_iload (pc := 90) C dX8_findBest_90 5 rfl ?_
      refine ws_iload (pc := 92) C dX8_findBest_92 0 rfl ?_
      refine ws_icmp_eq (pc := 94) (tgt := 204) C dX8_findBest_94 (by decide) (fun c5 => ?_) (fun c5 => ?_)
      · have h := ite_t h c5
        refine ws_iinc (j := 6) (pc := 204) C dX8_findBest_204 rfl (cn_1 _) (by decide) rfl ?_
        refine ws_goto (pc := 207) (tgt := 72) C dX8_findBest_207 (by decide) ?_
        refine ws_less [2, 3, 4, 5, 6, 0] rfl ?_
        exact ih _ _ h
      · have h := ite_f h c5
        refine ws_aload_n (pc := 97) C dX8_findBest_97 rfl 1 rfl ?_
        refine ws_getr (pc := 98) C dX8_findBest_98 fd_X8_39 sf_ways_9 ?_
        refine ws_iload (pc := 101) C dX8_findBest_101 5 rfl ?_
        obtain ⟨g6, h⟩ := gd_ok h
        refine ws_aaldK (q := (54 + a4.toNatClampNeg)) (pc := 103) C dX8_findBest_103 (by decide) sq_w_waits g6 rfl rfl ?_
        refine ws_iload (pc := 104) C dX8_findBest_104 0 rfl ?_
        obtain ⟨g7, h⟩ := gd_ok h
        refine ws_ialdK (pc := 106) C dX8_findBest_106 (sr_waitsR (inb_lt g6)) g7 rfl ?_
        refine ws_iconst (pc := 107) C dX8_findBest_107 ci_m1 ?_
        refine ws_icmp_ne (pc := 108) (tgt := 114) C dX8_findBest_108 (by decide) (fun c8 => ?_) (fun c8 => ?_)
        · have h := ite_f h c8
          refine ws_aload_n (pc := 114) C dX8_findBest_114 rfl 1 rfl ?_
          refine ws_getr (pc := 115) C dX8_findBest_115 fd_X8_23 sf_ways_4 ?_
          refine ws_iload_n (pc := 118) C dX8_findBest_118 rfl 2 rfl ?_
          obtain ⟨g9, h⟩ := gd_ok h
          refine ws_aaldK (q := (32 + a1.toNatClampNeg)) (pc := 119) C dX8_findBest_119 (by decide) sq_w_toStop g9 rfl rfl ?_
          refine ws_iload (pc := 120) C dX8_findBest_120 5 rfl ?_
          obtain ⟨g10, h⟩ := gd_ok h
          refine ws_ialdK (pc := 122) C dX8_findBest_122 (sr_toStopR (inb_lt g9)) g10 rfl ?_
          refine ws_aload_n (pc := 123) C dX8_findBest_123 rfl 1 rfl ?_
          refine ws_getr (pc := 124) C dX8_findBest_124 fd_X8_26 sf_ways_5 ?_
          refine ws_iload_n (pc := 127) C dX8_findBest_127 rfl 2 rfl ?_
          obtain ⟨g11, h⟩ := gd_ok h
          refine ws_aaldK (q := (41 + a1.toNatClampNeg)) (pc := 128) C dX8_findBest_128 (by decide) sq_w_fromStop g11 rfl rfl ?_
          refine ws_iload (pc := 129) C dX8_findBest_129 0 rfl ?_
          obtain ⟨g12, h⟩ := gd_ok h
          refine ws_ialdK (pc := 131) C dX8_findBest_131 (sr_fromStopR (inb_lt g11)) g12 rfl ?_
          refine ws_iadd (pc := 132) C dX8_findBest_132 ?_
          refine ws_aload_n (pc := 133) C dX8_findBest_133 rfl 3 rfl ?_
          refine ws_iconst (pc := 134) C dX8_findBest_134 ci_2 ?_
          refine ws_ialdK (pc := 135) C dX8_findBest_135 (sr_sortrow ha2) (by decide) ck_2 ?_
          refine ws_imul (pc := 136) C dX8_findBest_136 ?_
          refine ws_aload_n (pc := 137) C dX8_findBest_137 rfl 1 rfl ?_
          refine ws_getr (pc := 138) C dX8_findBest_138 fd_X8_39 sf_ways_9 ?_
          refine ws_iload (pc := 141) C dX8_findBest_141 5 rfl ?_
          obtain ⟨g13, h⟩ := gd_ok h
          refine ws_aaldK (q := (54 + a4.toNatClampNeg)) (pc := 143) C dX8_findBest_143 (by decide) sq_w_waits g13 rfl rfl ?_
          refine ws_iload (pc := 144) C dX8_findBest_144 0 rfl ?_
          obtain ⟨g14, h⟩ := gd_ok h
          refine ws_ialdK (pc := 146) C dX8_findBest_146 (sr_waitsR (inb_lt g13)) g14 rfl ?_
          refine ws_aload_n (pc := 147) C dX8_findBest_147 rfl 3 rfl ?_
          refine ws_iconst (pc := 148) C dX8_findBest_148 ci_3 ?_
          refine ws_ialdK (pc := 149) C dX8_findBest_149 (sr_sortrow ha2) (by decide) ck_3 ?_
          refine ws_imul (pc := 150) C dX8_findBest_150 ?_
          refine ws_iadd (pc := 151) C dX8_findBest_151 ?_
          refine ws_aload_n (pc := 152) C dX8_findBest_152 rfl 1 rfl ?_
          refine ws_getr (pc := 153) C dX8_findBest_153 fd_X8_42 sf_ways_10 ?_
          refine ws_iload (pc := 156) C dX8_findBest_156 5 rfl ?_
          obtain ⟨g15, h⟩ := gd_ok h
          refine ws_aaldK (q := (63 + a4.toNatClampNeg)) (pc := 158) C dX8_findBest_158 (by decide) sq_w_rides g15 rfl rfl ?_
          refine ws_iload (pc := 159) C dX8_findBest_159 0 rfl ?_
          obtain ⟨g16, h⟩ := gd_ok h
          refine ws_ialdK (pc := 161) C dX8_findBest_161 (sr_ridesR (inb_lt g15)) g16 rfl ?_
          refine ws_aload_n (pc := 162) C dX8_findBest_162 rfl 3 rfl ?_
          refine ws_iconst (pc := 163) C dX8_findBest_163 ci_4 ?_
          refine ws_ialdK (pc := 164) C dX8_findBest_164 (sr_sortrow ha2) (by decide) ck_4 ?_
          refine ws_imul (pc := 165) C dX8_findBest_165 ?_
          refine ws_iadd (pc := 166) C dX8_findBest_166 ?_
          obtain ⟨v17, e18, h⟩ := lz_ok h
          refine ws_topi C e18 ?_
          refine ws_istore (pc := 167) C dX8_findBest_167 (by decide) rfl ?_
          refine ws_iload (pc := 169) C dX8_findBest_169 0 rfl ?_
          refine ws_aload_n (pc := 171) C dX8_findBest_171 rfl 2 rfl ?_
          refine ws_getr (pc := 172) C dX8_findBest_172 fd_X8_45 sf_ways_11 ?_
          refine ws_iload_n (pc := 175) C dX8_findBest_175 rfl 3 rfl ?_
          obtain ⟨g19, h⟩ := gd_ok h
          refine ws_ialdK (pc := 176) C dX8_findBest_176 sr_w_costs g19 rfl ?_
          refine ws_icmp_ge (pc := 177) (tgt := 204) C dX8_findBest_177 (by decide) (fun c20 => ?_) (fun c20 => ?_)
          · have h := ite_t h c20
            refine ws_iinc (j := 7) (pc := 204) C dX8_findBest_204 rfl (cn_1 _) (by decide) rfl ?_
            refine ws_goto (pc := 207) (tgt := 72) C dX8_findBest_207 (by decide) ?_
            refine ws_less [3, 4, 5, 6, 7, 0] rfl ?_
            exact ih _ _ h
          · have h := ite_f h c20
            refine ws_aload_n (pc := 180) C dX8_findBest_180 rfl 2 rfl ?_
            refine ws_getr (pc := 181) C dX8_findBest_181 fd_X8_45 sf_ways_11 ?_
            refine ws_iload_n (pc := 184) C dX8_findBest_184 rfl 3 rfl ?_
            refine ws_iload (pc := 185) C dX8_findBest_185 0 rfl ?_
            obtain ⟨g21, h⟩ := gd_ok h
            obtain ⟨s22, e23, h⟩ := lz_ok h
            refine ws_iastK (pc := 187) C dX8_findBest_187 sr_w_costs g21 rfl e23 ?_
            refine ws_aload_n (pc := 188) C dX8_findBest_188 rfl 2 rfl ?_
            refine ws_getr (pc := 189) C dX8_findBest_189 fd_X8_48 sf_ways_12 ?_
            refine ws_iload_n (pc := 192) C dX8_findBest_192 rfl 3 rfl ?_
            refine ws_iload (pc := 193) C dX8_findBest_193 6 rfl ?_
            obtain ⟨g24, h⟩ := gd_ok h
            obtain ⟨s25, e26, h⟩ := lz_ok h
            refine ws_iastK (pc := 195) C dX8_findBest_195 sr_w_ins g24 rfl e26 ?_
            refine ws_aload_n (pc := 196) C dX8_findBest_196 rfl 2 rfl ?_
            refine ws_getr (pc := 197) C dX8_findBest_197 fd_X8_51 sf_ways_13 ?_
            refine ws_iload_n (pc := 200) C dX8_findBest_200 rfl 3 rfl ?_
            refine ws_iload (pc := 201) C dX8_findBest_201 1 rfl ?_
            obtain ⟨g27, h⟩ := gd_ok h
            obtain ⟨s28, e29, h⟩ := lz_ok h
            refine ws_iastK (pc := 203) C dX8_findBest_203 sr_w_outs g27 rfl e29 ?_
            refine ws_iinc (j := 7) (pc := 204) C dX8_findBest_204 rfl (cn_1 _) (by decide) rfl ?_
            refine ws_goto (pc := 207) (tgt := 72) C dX8_findBest_207 (by decide) ?_
            refine ws_less [3, 4, 5, 6, 7, 0] rfl ?_
            exact ih _ _ h
        · have h := ite_t h c8
          refine ws_goto (pc := 111) (tgt := 204) C dX8_findBest_111 (by decide) ?_
          refine ws_iinc (j := 6) (pc := 204) C dX8_findBest_204 rfl (cn_1 _) (by decide) rfl ?_
          refine ws_goto (pc := 207) (tgt := 72) C dX8_findBest_207 (by decide) ?_
          refine ws_less [2, 3, 4, 5, 6, 0] rfl ?_
          exact ih _ _ h
set_option maxRecDepth 20000 in
set_option maxHeartbeats 4000000 in
theorem pX8_findBest_L53 {Y : xY} {Z : xZ} {B : xB} {z : Int32 × xM} (C : xC (GX Y) Z B "BetweenStops$Ways" cX8_findBest 8 2) (R : xRv (GX Y) B z) {k216 : xM → Option (Int32 × xM)} {a1 : Int32} {a2 : Nat}
    (hk216 : ∀  (s : xM), k216 s = some z → xWS (GX Y) B 8 s [(0, .ref (Y.1 27)), (1, .int a1)] 216 []) (ha2 : a2 < 3) : ∀ (n : Nat) (a3 : Int32) (s : xM), fX8_findBest_L53 k216 a1 a2 n a3 s = some z → xWS (GX Y) B 8 s [(0, .ref (Y.1 27)), (1, .int a1), (2, .ref (Y.1 (6 + a2))), (3, .int a3)] 53 [] := by
  intro n
  induction n with
  | zero =>
    intro a3 s h
    rw [fX8_findBest_L53] at h
    cases h
  | succ n ih =>
    intro a3 s h
    rw [fX8_findBest_L53] at h
    refine ws_iload_n (pc := 53) C dX8_findBest_53 rfl 3 rfl ?_
    refine ws_aload_n (pc := 54) C dX8_findBest_54 rfl 0 rfl ?_
    refine ws_geti (pc := 55) C dX8_findBest_55 fd_X8_32 sf_ways_7 ?_
    refine ws_icmp_ge (pc := 58) (tgt := 216) C dX8_findBest_58 (by decide) (fun c1 => ?_) (fun c1 => ?_)
    · have h := ite_t h c1
      refine ws_less [0, 1] rfl ?_
      exact hk216 _ h
    · have h := ite_f h c1
      refine ws_aload_n (pc := 61) C dX8_findBest_61 rfl 0 rfl ?_
      refine ws_getr (pc := 62) C dX8_findBest_62 fd_X8_29 sf_ways_6 ?_
      refine ws_iload_n (pc := 65) C dX8_findBest_65 rfl 3 rfl ?_
      obtain ⟨g2, h⟩ := gd_ok h
      refine ws_ialdK (pc := 66) C dX8_findBest_66 sr_w_members g2 rfl ?_
      obtain ⟨v3, e4, h⟩ := lz_ok h
      refine ws_topi C e4 ?_
      refine ws_istore (pc := 67) C dX8_findBest_67 (by decide) rfl ?_
      refine ws_iconst (pc := 69) C dX8_findBest_69 ci_0 ?_
      refine ws_istore (pc := 70) C dX8_findBest_70 (by decide) rfl ?_
      refine ws_less [2, 3, 4, 5, 1, 0] rfl ?_
      refine pX8_findBest_L72 C R (fun s5 h => ?_) ha2 fu _ _ h
      · refine ws_iinc (j := 3) (pc := 210) C dX8_findBest_210 rfl (cn_1 _) (by decide) rfl ?_
        refine ws_goto (pc := 213) (tgt := 53) C dX8_findBest_213 (by decide) ?_
        refine ws_less [1, 2, 3, 0] rfl ?_
        exact ih _ _ h
set_option maxRecDepth 20000 in
set_option maxHeartbeats 4000000 in
theorem mX8_findBest {Y : xY} {Z : xZ} {a1 : Int32} {s : xM} {z : Int32 × xM} (h : fX8_findBest a1 s = some z) : xMv (GX Y) Z yX8_findBest cX8_findBest 8 2 [.ref (Y.1 27), .int a1] s z := by
  refine xMv_of (by decide) (Nat.le_of_ble_eq_true rfl) (fun B C R => ?_)
  have C : xC (GX Y) Z B "BetweenStops$Ways" cX8_findBest 8 2 := C
  show xWS (GX Y) B 8 s [(0, .ref (Y.1 27)), (1, .int a1)] 0 []
  unfold fX8_findBest at h
  refine ws_aload_n (pc := 0) C dX8_findBest_0 rfl 0 rfl ?_
  refine ws_getr (pc := 1) C dX8_findBest_1 fd_X8_63 sf_ways_0 ?_
  refine ws_getr (pc := 4) C dX8_findBest_4 fd_X8_148 sf_town_3 ?_
  refine ws_aload_n (pc := 7) C dX8_findBest_7 rfl 0 rfl ?_
  refine ws_getr (pc := 8) C dX8_findBest_8 fd_X8_63 sf_ways_0 ?_
  refine ws_getr (pc := 11) C dX8_findBest_11 fd_X8_94 sf_town_8 ?_
  refine ws_iload_n (pc := 14) C dX8_findBest_14 rfl 1 rfl ?_
  obtain ⟨g1, h⟩ := gd_ok h
  refine ws_aaldK (q := (19 + a1.toNatClampNeg)) (pc := 15) C dX8_findBest_15 (by decide) sq_trips g1 rfl rfl ?_
  refine ws_geti (pc := 16) C dX8_findBest_16 fd_X8_106 (sf_trip_3 (inb_lt g1)) ?_
  obtain ⟨g2, h⟩ := gd_ok h
  refine ws_aaldK (q := (6 + (gi s (19 + a1.toNatClampNeg) 3).toNatClampNeg)) (pc := 19) C dX8_findBest_19 (by decide) sq_sorts g2 rfl rfl ?_
  refine ws_astore_n (pc := 20) C dX8_findBest_20 rfl (by decide) rfl ?_
  refine ws_aload_n (pc := 21) C dX8_findBest_21 rfl 1 rfl ?_
  refine ws_getr (pc := 22) C dX8_findBest_22 fd_X8_45 sf_ways_11 ?_
  refine ws_iload_n (pc := 25) C dX8_findBest_25 rfl 2 rfl ?_
  refine ws_aload_n (pc := 26) C dX8_findBest_26 rfl 1 rfl ?_
  refine ws_getr (pc := 27) C dX8_findBest_27 fd_X8_18 sf_ways_3 ?_
  refine ws_iload_n (pc := 30) C dX8_findBest_30 rfl 2 rfl ?_
  obtain ⟨g3, h⟩ := gd_ok h
  refine ws_ialdK (pc := 31) C dX8_findBest_31 sr_w_direct g3 rfl ?_
  refine ws_aload_n (pc := 32) C dX8_findBest_32 rfl 0 rfl ?_
  refine ws_iconst (pc := 33) C dX8_findBest_33 ci_2 ?_
  refine ws_ialdK (pc := 34) C dX8_findBest_34 (sr_sortrow (inb_lt g2)) (by decide) ck_2 ?_
  refine ws_imul (pc := 35) C dX8_findBest_35 ?_
  obtain ⟨g4, h⟩ := gd_ok h
  obtain ⟨s5, e6, h⟩ := lz_ok h
  refine ws_iastK (pc := 36) C dX8_findBest_36 sr_w_costs g4 rfl e6 ?_
  refine ws_aload_n (pc := 37) C dX8_findBest_37 rfl 1 rfl ?_
  refine ws_getr (pc := 38) C dX8_findBest_38 fd_X8_48 sf_ways_12 ?_
  refine ws_iload_n (pc := 41) C dX8_findBest_41 rfl 2 rfl ?_
  refine ws_iconst (pc := 42) C dX8_findBest_42 ci_m1 ?_
  obtain ⟨g7, h⟩ := gd_ok h
  obtain ⟨s8, e9, h⟩ := lz_ok h
  refine ws_iastK (pc := 43) C dX8_findBest_43 sr_w_ins g7 rfl e9 ?_
  refine ws_aload_n (pc := 44) C dX8_findBest_44 rfl 1 rfl ?_
  refine ws_getr (pc := 45) C dX8_findBest_45 fd_X8_51 sf_ways_13 ?_
  refine ws_iload_n (pc := 48) C dX8_findBest_48 rfl 2 rfl ?_
  refine ws_iconst (pc := 49) C dX8_findBest_49 ci_m1 ?_
  obtain ⟨g10, h⟩ := gd_ok h
  obtain ⟨s11, e12, h⟩ := lz_ok h
  refine ws_iastK (pc := 50) C dX8_findBest_50 sr_w_outs g10 rfl e12 ?_
  refine ws_iconst (pc := 51) C dX8_findBest_51 ci_0 ?_
  refine ws_istore_n (pc := 52) C dX8_findBest_52 rfl (by decide) rfl ?_
  refine ws_less [2, 3, 1, 0] rfl ?_
  refine pX8_findBest_L53 C R (fun s13 h => ?_) (inb_lt g2) fu _ _ h
  · refine ws_aload_n (pc := 216) C dX8_findBest_216 rfl 0 rfl ?_
    refine ws_iload_n (pc := 217) C dX8_findBest_217 rfl 1 rfl ?_
    refine ws_aload_n (pc := 218) C dX8_findBest_218 rfl 0 rfl ?_
    refine ws_getr (pc := 219) C dX8_findBest_219 fd_X8_48 sf_ways_12 ?_
    refine ws_iload_n (pc := 222) C dX8_findBest_222 rfl 1 rfl ?_
    obtain ⟨g14, h⟩ := gd_ok h
    refine ws_ialdK (pc := 223) C dX8_findBest_223 sr_w_ins g14 rfl ?_
    refine ws_aload_n (pc := 224) C dX8_findBest_224 rfl 0 rfl ?_
    refine ws_getr (pc := 225) C dX8_findBest_225 fd_X8_51 sf_ways_13 ?_
    refine ws_iload_n (pc := 228) C dX8_findBest_228 rfl 1 rfl ?_
    obtain ⟨g15, h⟩ := gd_ok h
    refine ws_ialdK (pc := 229) C dX8_findBest_229 sr_w_outs g15 rfl ?_
    obtain ⟨r16, s17, q18, h⟩ := bd_ok h
    refine wc_vV (pc := 230)  C [.int a1, .int (gi s13 72 a1.toNatClampNeg), .int (gi s13 73 a1.toNatClampNeg)] [] (mX8_tellBest q18) dX8_findBest_230 mw_X8_tellBest mv_X8_tellBest kl_X8_151 so_ways rfl rfl (Nat.le_of_ble_eq_true rfl) ⟨by decide, by decide⟩ ?_
    exact wr_v (pc := 233) C R dX8_findBest_233 h
set_option maxRecDepth 20000 in
set_option maxHeartbeats 4000000 in
theorem pX8_look_L7 {Y : xY} {Z : xZ} {B : xB} {z : Int32 × xM} (C : xC (GX Y) Z B "BetweenStops$Ways" cX8_look 5 3) (R : xRv (GX Y) B z) {k52 : xM → Option (Int32 × xM)} {a1 : Int32} {a2 : Int32}
    (hk52 : ∀  (s : xM), k52 s = some z → xWS (GX Y) B 5 s [(0, .ref (Y.1 27)), (2, .int a2)] 52 []) : ∀ (n : Nat) (a3 : Int32) (s : xM), fX8_look_L7 k52 a1 a2 n a3 s = some z → xWS (GX Y) B 5 s [(0, .ref (Y.1 27)), (1, .int a1), (2, .int a2), (3, .int a3)] 7 [] := by
  intro n
  induction n with
  | zero =>
    intro a3 s h
    rw [fX8_look_L7] at h
    cases h
  | succ n ih =>
    intro a3 s h
    rw [fX8_look_L7] at h
    refine ws_iload_n (pc := 7) C dX8_look_7 rfl 3 rfl ?_
    refine ws_aload_n (pc := 8) C dX8_look_8 rfl 0 rfl ?_
    refine ws_getr (pc := 9) C dX8_look_9 fd_X8_63 sf_ways_0 ?_
    refine ws_geti (pc := 12) C dX8_look_12 fd_X8_67 sf_town_7 ?_
    refine ws_icmp_ge (pc := 15) (tgt := 52) C dX8_look_15 (by decide) (fun c1 => ?_) (fun c1 => ?_)
    · have h := ite_t h c1
      refine ws_less [0, 2] rfl ?_
      exact hk52 _ h
    · have h := ite_f h c1
      refine ws_iload_n (pc := 18) C dX8_look_18 rfl 1 rfl ?_
      refine ws_iconst (pc := 19) C dX8_look_19 ci_1 ?_
      refine ws_iload_n (pc := 20) C dX8_look_20 rfl 3 rfl ?_
      refine ws_ishl (pc := 21) C dX8_look_21 ?_
      refine ws_iand (pc := 22) C dX8_look_22 ?_
      refine ws_if_eq (pc := 23) (tgt := 46) C dX8_look_23 (by decide) (fun c2 => ?_) (fun c2 => ?_)
      · have h := ite_t h c2
        refine ws_iinc (j := 3) (pc := 46) C dX8_look_46 rfl (cn_1 _) (by decide) rfl ?_
        refine ws_goto (pc := 49) (tgt := 7) C dX8_look_49 (by decide) ?_
        refine ws_less [1, 2, 3, 0] rfl ?_
        exact ih _ _ h
      · have h := ite_f h c2
        refine ws_aload_n (pc := 26) C dX8_look_26 rfl 0 rfl ?_
        refine ws_getr (pc := 27) C dX8_look_27 fd_X8_29 sf_ways_6 ?_
        refine ws_aload_n (pc := 30) C dX8_look_30 rfl 0 rfl ?_
        refine ws_geti (pc := 31) C dX8_look_31 fd_X8_32 sf_ways_7 ?_
        refine ws_iload_n (pc := 34) C dX8_look_34 rfl 3 rfl ?_
        obtain ⟨g3, h⟩ := gd_ok h
        obtain ⟨s4, e5, h⟩ := lz_ok h
        refine ws_iastK (pc := 35) C dX8_look_35 sr_w_members g3 rfl e5 ?_
        refine ws_aload_n (pc := 36) C dX8_look_36 rfl 0 rfl ?_
        refine ws_dup (pc := 37) C dX8_look_37 rfl ?_
        refine ws_geti (pc := 38) C dX8_look_38 fd_X8_32 sf_ways_7 ?_
        refine ws_iconst (pc := 41) C dX8_look_41 ci_1 ?_
        refine ws_iadd (pc := 42) C dX8_look_42 ?_
        obtain ⟨s6, e7, h⟩ := lz_ok h
        refine ws_putI (pc := 43) C dX8_look_43 fp_X8_32 sf_ways_7 e7 ?_
        refine ws_iinc (j := 3) (pc := 46) C dX8_look_46 rfl (cn_1 _) (by decide) rfl ?_
        refine ws_goto (pc := 49) (tgt := 7) C dX8_look_49 (by decide) ?_
        refine ws_less [1, 2, 3, 0] rfl ?_
        exact ih _ _ h
set_option maxRecDepth 20000 in
set_option maxHeartbeats 4000000 in
theorem pX8_look_L77 {Y : xY} {Z : xZ} {B : xB} {z : Int32 × xM} (C : xC (GX Y) Z B "BetweenStops$Ways" cX8_look 5 3) (R : xRv (GX Y) B z) {k110 : xM → Option (Int32 × xM)} {a2 : Int32} {a3 : Int32}
    (hk110 : ∀  (s : xM), k110 s = some z → xWS (GX Y) B 5 s [(0, .ref (Y.1 27)), (2, .int a2), (3, .int a3)] 110 []) : ∀ (n : Nat) (a4 : Int32) (s : xM), fX8_look_L77 k110 a2 a3 n a4 s = some z → xWS (GX Y) B 5 s [(0, .ref (Y.1 27)), (2, .int a2), (3, .int a3), (4, .int a4)] 77 [] := by
  intro n
  induction n with
  | zero =>
    intro a4 s h
    rw [fX8_look_L77] at h
    cases h
  | succ n ih =>
    intro a4 s h
    rw [fX8_look_L77] at h
    refine ws_iload (pc := 77) C dX8_look_77 3 rfl ?_
    refine ws_aload_n (pc := 79) C dX8_look_79 rfl 0 rfl ?_
    refine ws_geti (pc := 80) C dX8_look_80 fd_X8_32 sf_ways_7 ?_
    refine ws_icmp_ge (pc := 83) (tgt := 110) C dX8_look_83 (by decide) (fun c1 => ?_) (fun c1 => ?_)
    · have h := ite_t h c1
      refine ws_less [0, 1, 2] rfl ?_
      exact hk110 _ h
    · have h := ite_f h c1
      refine ws_aload_n (pc := 86) C dX8_look_86 rfl 0 rfl ?_
      refine ws_aload_n (pc := 87) C dX8_look_87 rfl 0 rfl ?_
      refine ws_getr (pc := 88) C dX8_look_88 fd_X8_29 sf_ways_6 ?_
      refine ws_iload_n (pc := 91) C dX8_look_91 rfl 2 rfl ?_
      obtain ⟨g2, h⟩ := gd_ok h
      refine ws_ialdK (pc := 92) C dX8_look_92 sr_w_members g2 rfl ?_
      refine ws_aload_n (pc := 93) C dX8_look_93 rfl 0 rfl ?_
      refine ws_getr (pc := 94) C dX8_look_94 fd_X8_29 sf_ways_6 ?_
      refine ws_iload (pc := 97) C dX8_look_97 3 rfl ?_
      obtain ⟨g3, h⟩ := gd_ok h
      refine ws_ialdK (pc := 99) C dX8_look_99 sr_w_members g3 rfl ?_
      refine ws_iload_n (pc := 100) C dX8_look_100 rfl 1 rfl ?_
      obtain ⟨r4, s5, q6, h⟩ := bd_ok h
      refine wc_vV (pc := 101)  C [.int (gi s 49 a3.toNatClampNeg), .int (gi s 49 a4.toNatClampNeg), .int a2] [] (mX8_ride q6) dX8_look_101 mw_X8_ride mv_X8_ride kl_X8_120 so_ways rfl rfl (Nat.le_of_ble_eq_true rfl) ⟨by decide, by decide⟩ ?_
      refine ws_iinc (j := 3) (pc := 104) C dX8_look_104 rfl (cn_1 _) (by decide) rfl ?_
      refine ws_goto (pc := 107) (tgt := 77) C dX8_look_107 (by decide) ?_
      refine ws_less [1, 2, 3, 0] rfl ?_
      exact ih _ _ h
set_option maxRecDepth 20000 in
set_option maxHeartbeats 4000000 in
theorem pX8_look_L64 {Y : xY} {Z : xZ} {B : xB} {z : Int32 × xM} (C : xC (GX Y) Z B "BetweenStops$Ways" cX8_look 5 3) (R : xRv (GX Y) B z) {k116 : xM → Option (Int32 × xM)} {a2 : Int32}
    (hk116 : ∀  (s : xM), k116 s = some z → xWS (GX Y) B 5 s [(0, .ref (Y.1 27))] 116 []) : ∀ (n : Nat) (a3 : Int32) (s : xM), fX8_look_L64 k116 a2 n a3 s = some z → xWS (GX Y) B 5 s [(0, .ref (Y.1 27)), (2, .int a2), (3, .int a3)] 64 [] := by
  intro n
  induction n with
  | zero =>
    intro a3 s h
    rw [fX8_look_L64] at h
    cases h
  | succ n ih =>
    intro a3 s h
    rw [fX8_look_L64] at h
    refine ws_iload_n (pc := 64) C dX8_look_64 rfl 2 rfl ?_
    refine ws_aload_n (pc := 65) C dX8_look_65 rfl 0 rfl ?_
    refine ws_geti (pc := 66) C dX8_look_66 fd_X8_32 sf_ways_7 ?_
    refine ws_icmp_ge (pc := 69) (tgt := 116) C dX8_look_69 (by decide) (fun c1 => ?_) (fun c1 => ?_)
    · have h := ite_t h c1
      refine ws_less [0] rfl ?_
      exact hk116 _ h
    · have h := ite_f h c1
      refine ws_iload_n (pc := 72) C dX8_look_72 rfl 2 rfl ?_
      refine ws_iconst (pc := 73) C dX8_look_73 ci_1 ?_
      refine ws_iadd (pc := 74) C dX8_look_74 ?_
      obtain ⟨v2, e3, h⟩ := lz_ok h
      refine ws_topi C e3 ?_
      refine ws_istore (pc := 75) C dX8_look_75 (by decide) rfl ?_
      refine ws_less [1, 2, 3, 0] rfl ?_
      refine pX8_look_L77 C R (fun s4 h => ?_) fu _ _ h
      · refine ws_iinc (j := 2) (pc := 110) C dX8_look_110 rfl (cn_1 _) (by decide) rfl ?_
        refine ws_goto (pc := 113) (tgt := 64) C dX8_look_113 (by decide) ?_
        refine ws_less [1, 2, 0] rfl ?_
        exact ih _ _ h
set_option maxRecDepth 20000 in
set_option maxHeartbeats 4000000 in
theorem pX8_look_L118 {Y : xY} {Z : xZ} {B : xB} {z : Int32 × xM} (C : xC (GX Y) Z B "BetweenStops$Ways" cX8_look 5 3) (R : xRv (GX Y) B z) {k140 : xM → Option (Int32 × xM)}
    (hk140 : ∀  (s : xM), k140 s = some z → xWS (GX Y) B 5 s [] 140 []) : ∀ (n : Nat) (a3 : Int32) (s : xM), fX8_look_L118 k140 n a3 s = some z → xWS (GX Y) B 5 s [(0, .ref (Y.1 27)), (3, .int a3)] 118 [] := by
  intro n
  induction n with
  | zero =>
    intro a3 s h
    rw [fX8_look_L118] at h
    cases h
  | succ n ih =>
    intro a3 s h
    rw [fX8_look_L118] at h
    refine ws_iload_n (pc := 118) C dX8_look_118 rfl 1 rfl ?_
    refine ws_aload_n (pc := 119) C dX8_look_119 rfl 0 rfl ?_
    refine ws_getr (pc := 120) C dX8_look_120 fd_X8_63 sf_ways_0 ?_
    refine ws_geti (pc := 123) C dX8_look_123 fd_X8_91 sf_town_9 ?_
    refine ws_icmp_ge (pc := 126) (tgt := 140) C dX8_look_126 (by decide) (fun c1 => ?_) (fun c1 => ?_)
    · have h := ite_t h c1
      refine ws_less [] rfl ?_
      exact hk140 _ h
    · have h := ite_f h c1
      refine ws_aload_n (pc := 129) C dX8_look_129 rfl 0 rfl ?_
      refine ws_iload_n (pc := 130) C dX8_look_130 rfl 1 rfl ?_
      obtain ⟨r2, s3, q4, h⟩ := bd_ok h
      refine wc_vV (pc := 131)  C [.int a3] [] (mX8_findBest q4) dX8_look_131 mw_X8_findBest mv_X8_findBest kl_X8_124 so_ways rfl rfl (Nat.le_of_ble_eq_true rfl) ⟨by decide, by decide⟩ ?_
      refine ws_iinc (j := 1) (pc := 134) C dX8_look_134 rfl (cn_1 _) (by decide) rfl ?_
      refine ws_goto (pc := 137) (tgt := 118) C dX8_look_137 (by decide) ?_
      refine ws_less [1, 0] rfl ?_
      exact ih _ _ h
set_option maxRecDepth 20000 in
set_option maxHeartbeats 4000000 in
theorem mX8_look {Y : xY} {Z : xZ} {a1 : Int32} {a2 : Int32} {s : xM} {z : Int32 × xM} (h : fX8_look a1 a2 s = some z) : xMv (GX Y) Z yX8_look cX8_look 5 3 [.ref (Y.1 27), .int a1, .int a2] s z := by
  refine xMv_of (by decide) (Nat.le_of_ble_eq_true rfl) (fun B C R => ?_)
  have C : xC (GX Y) Z B "BetweenStops$Ways" cX8_look 5 3 := C
  show xWS (GX Y) B 5 s [(0, .ref (Y.1 27)), (1, .int a1), (2, .int a2)] 0 []
  unfold fX8_look at h
  refine ws_aload_n (pc := 0) C dX8_look_0 rfl 0 rfl ?_
  refine ws_iconst (pc := 1) C dX8_look_1 ci_0 ?_
  obtain ⟨s1, e2, h⟩ := lz_ok h
  refine ws_putI (pc := 2) C dX8_look_2 fp_X8_32 sf_ways_7 e2 ?_
  refine ws_iconst (pc := 5) C dX8_look_5 ci_0 ?_
  refine ws_istore_n (pc := 6) C dX8_look_6 rfl (by decide) rfl ?_
  refine ws_less [1, 2, 3, 0] rfl ?_
  refine pX8_look_L7 C R (fun s3 h => ?_) fu _ _ h
  · refine ws_aload_n (pc := 52) C dX8_look_52 rfl 0 rfl ?_
    refine ws_iconst (pc := 53) C dX8_look_53 ci_0 ?_
    obtain ⟨r4, s5, q6, h⟩ := bd_ok h
    refine wc_vV (pc := 54)  C [.int (0 : Int32)] [] (mX8_addUpStanding q6) dX8_look_54 mw_X8_addUpStanding mv_X8_addUpStanding kl_X8_116 so_ways rfl rfl (Nat.le_of_ble_eq_true rfl) ⟨by decide, by decide⟩ ?_
    refine ws_aload_n (pc := 57) C dX8_look_57 rfl 0 rfl ?_
    refine ws_iconst (pc := 58) C dX8_look_58 ci_1 ?_
    obtain ⟨r7, s8, q9, h⟩ := bd_ok h
    refine wc_vV (pc := 59)  C [.int (1 : Int32)] [] (mX8_addUpStanding q9) dX8_look_59 mw_X8_addUpStanding mv_X8_addUpStanding kl_X8_116 so_ways rfl rfl (Nat.le_of_ble_eq_true rfl) ⟨by decide, by decide⟩ ?_
    refine ws_iconst (pc := 62) C dX8_look_62 ci_0 ?_
    refine ws_istore_n (pc := 63) C dX8_look_63 rfl (by decide) rfl ?_
    refine ws_less [1, 2, 0] rfl ?_
    refine pX8_look_L64 C R (fun s10 h => ?_) fu _ _ h
    · refine ws_iconst (pc := 116) C dX8_look_116 ci_0 ?_
      refine ws_istore_n (pc := 117) C dX8_look_117 rfl (by decide) rfl ?_
      refine ws_less [1, 0] rfl ?_
      refine pX8_look_L118 C R (fun s11 h => ?_) fu _ _ h
      · exact wr_v (pc := 140) C R dX8_look_140 h
set_option maxRecDepth 20000 in
set_option maxHeartbeats 4000000 in
theorem pX8_total_L4 {Y : xY} {Z : xZ} {B : xB} {z : Int64 × xM} (C : xC (GX Y) Z B "BetweenStops$Ways" cX8_total 4 1) (R : xRl (GX Y) B z) {k45 : Int64 → xM → Option (Int64 × xM)}
    (hk45 : ∀ (a1 : Int64) (s : xM), k45 a1 s = some z → xWS (GX Y) B 4 s [(1, .long a1)] 45 []) : ∀ (n : Nat) (a1 : Int64) (a3 : Int32) (s : xM), fX8_total_L4 k45 n a1 a3 s = some z → xWS (GX Y) B 4 s [(0, .ref (Y.1 27)), (1, .long a1), (3, .int a3)] 4 [] := by
  intro n
  induction n with
  | zero =>
    intro a1 a3 s h
    rw [fX8_total_L4] at h
    cases h
  | succ n ih =>
    intro a1 a3 s h
    rw [fX8_total_L4] at h
    refine ws_iload_n (pc := 4) C dX8_total_4 rfl 2 rfl ?_
    refine ws_aload_n (pc := 5) C dX8_total_5 rfl 0 rfl ?_
    refine ws_getr (pc := 6) C dX8_total_6 fd_X8_63 sf_ways_0 ?_
    refine ws_geti (pc := 9) C dX8_total_9 fd_X8_91 sf_town_9 ?_
    refine ws_icmp_ge (pc := 12) (tgt := 45) C dX8_total_12 (by decide) (fun c1 => ?_) (fun c1 => ?_)
    · have h := ite_t h c1
      refine ws_less [1] rfl ?_
      exact hk45 _ _ h
    · have h := ite_f h c1
      refine ws_lload_n (pc := 15) C dX8_total_15 rfl 1 rfl ?_
      refine ws_aload_n (pc := 16) C dX8_total_16 rfl 0 rfl ?_
      refine ws_getr (pc := 17) C dX8_total_17 fd_X8_63 sf_ways_0 ?_
      refine ws_getr (pc := 20) C dX8_total_20 fd_X8_94 sf_town_8 ?_
      refine ws_iload_n (pc := 23) C dX8_total_23 rfl 2 rfl ?_
      obtain ⟨g2, h⟩ := gd_ok h
      refine ws_aaldK (q := (19 + a3.toNatClampNeg)) (pc := 24) C dX8_total_24 (by decide) sq_trips g2 rfl rfl ?_
      refine ws_geti (pc := 25) C dX8_total_25 fd_X8_154 (sf_trip_2 (inb_lt g2)) ?_
      refine ws_i2l (pc := 28) C dX8_total_28 ?_
      refine ws_aload_n (pc := 29) C dX8_total_29 rfl 0 rfl ?_
      refine ws_getr (pc := 30) C dX8_total_30 fd_X8_45 sf_ways_11 ?_
      refine ws_iload_n (pc := 33) C dX8_total_33 rfl 2 rfl ?_
      obtain ⟨g3, h⟩ := gd_ok h
      refine ws_ialdK (pc := 34) C dX8_total_34 sr_w_costs g3 rfl ?_
      refine ws_i2l (pc := 35) C dX8_total_35 ?_
      refine ws_lmul (pc := 36) C dX8_total_36 ?_
      refine ws_ladd (pc := 37) C dX8_total_37 ?_
      obtain ⟨v4, e5, h⟩ := lz_ok h
      refine ws_topl C e5 ?_
      refine ws_lstore_n (pc := 38) C dX8_total_38 rfl (by decide) rfl ?_
      refine ws_iinc (j := 2) (pc := 39) C dX8_total_39 rfl (cn_1 _) (by decide) rfl ?_
      refine ws_goto (pc := 42) (tgt := 4) C dX8_total_42 (by decide) ?_
      refine ws_less [2, 1, 0] rfl ?_
      exact ih _ _ _ h
set_option maxRecDepth 20000 in
set_option maxHeartbeats 4000000 in
theorem mX8_total {Y : xY} {Z : xZ} {s : xM} {z : Int64 × xM} (h : fX8_total s = some z) : xMl (GX Y) Z yX8_total cX8_total 4 1 [.ref (Y.1 27)] s z := by
  refine xMl_of (by decide) (Nat.le_of_ble_eq_true rfl) (fun B C R => ?_)
  have C : xC (GX Y) Z B "BetweenStops$Ways" cX8_total 4 1 := C
  show xWS (GX Y) B 4 s [(0, .ref (Y.1 27))] 0 []
  unfold fX8_total at h
  refine ws_lconst (v := 0) (pc := 0) C dX8_total_0 (by decide) ?_
  refine ws_lstore_n (pc := 1) C dX8_total_1 rfl (by decide) rfl ?_
  refine ws_iconst (pc := 2) C dX8_total_2 ci_0 ?_
  refine ws_istore_n (pc := 3) C dX8_total_3 rfl (by decide) rfl ?_
  refine ws_less [2, 1, 0] rfl ?_
  refine pX8_total_L4 C R (fun x1 s2 h => ?_) fu _ _ _ h
  · refine ws_lload_n (pc := 45) C dX8_total_45 rfl 0 rfl ?_
    exact wr_l (pc := 46) C R dX8_total_46 h
set_option maxRecDepth 20000 in
set_option maxHeartbeats 4000000 in
theorem pX8_dearest_L4 {Y : xY} {Z : xZ} {B : xB} {z : Int32 × xM} (C : xC (GX Y) Z B "BetweenStops$Ways" cX8_dearest 3 1) (R : xRi (GX Y) B .int z) {k42 : Int32 → xM → Option (Int32 × xM)}
    (hk42 : ∀ (a1 : Int32) (s : xM), k42 a1 s = some z → xWS (GX Y) B 3 s [(1, .int a1)] 42 []) : ∀ (n : Nat) (a1 : Int32) (a2 : Int32) (s : xM), fX8_dearest_L4 k42 n a1 a2 s = some z → xWS (GX Y) B 3 s [(0, .ref (Y.1 27)), (1, .int a1), (2, .int a2)] 4 [] := by
  intro n
  induction n with
  | zero =>
    intro a1 a2 s h
    rw [fX8_dearest_L4] at h
    cases h
  | succ n ih =>
    intro a1 a2 s h
    rw [fX8_dearest_L4] at h
    refine ws_iload_n (pc := 4) C dX8_dearest_4 rfl 2 rfl ?_
    refine ws_aload_n (pc := 5) C dX8_dearest_5 rfl 0 rfl ?_
    refine ws_getr (pc := 6) C dX8_dearest_6 fd_X8_63 sf_ways_0 ?_
    refine ws_geti (pc := 9) C dX8_dearest_9 fd_X8_91 sf_town_9 ?_
    refine ws_icmp_ge (pc := 12) (tgt := 42) C dX8_dearest_12 (by decide) (fun c1 => ?_) (fun c1 => ?_)
    · have h := ite_t h c1
      refine ws_less [1] rfl ?_
      exact hk42 _ _ h
    · have h := ite_f h c1
      refine ws_iload_n (pc := 15) C dX8_dearest_15 rfl 1 rfl ?_
      refine ws_if_lt (pc := 16) (tgt := 34) C dX8_dearest_16 (by decide) (fun c2 => ?_) (fun c2 => ?_)
      · have h := ite_t h c2
        refine ws_iload_n (pc := 34) C dX8_dearest_34 rfl 2 rfl ?_
        refine ws_istore_n (pc := 35) C dX8_dearest_35 rfl (by decide) rfl ?_
        refine ws_iinc (j := 2) (pc := 36) C dX8_dearest_36 rfl (cn_1 _) (by decide) rfl ?_
        refine ws_goto (pc := 39) (tgt := 4) C dX8_dearest_39 (by decide) ?_
        refine ws_less [2, 1, 0] rfl ?_
        exact ih _ _ _ h
      · have h := ite_f h c2
        refine ws_aload_n (pc := 19) C dX8_dearest_19 rfl 0 rfl ?_
        refine ws_getr (pc := 20) C dX8_dearest_20 fd_X8_45 sf_ways_11 ?_
        refine ws_iload_n (pc := 23) C dX8_dearest_23 rfl 2 rfl ?_
        obtain ⟨g3, h⟩ := gd_ok h
        refine ws_ialdK (pc := 24) C dX8_dearest_24 sr_w_costs g3 rfl ?_
        refine ws_aload_n (pc := 25) C dX8_dearest_25 rfl 0 rfl ?_
        refine ws_getr (pc := 26) C dX8_dearest_26 fd_X8_45 sf_ways_11 ?_
        refine ws_iload_n (pc := 29) C dX8_dearest_29 rfl 1 rfl ?_
        obtain ⟨g4, h⟩ := gd_ok h
        refine ws_ialdK (pc := 30) C dX8_dearest_30 sr_w_costs g4 rfl ?_
        refine ws_icmp_le (pc := 31) (tgt := 36) C dX8_dearest_31 (by decide) (fun c5 => ?_) (fun c5 => ?_)
        · have h := ite_t h c5
          refine ws_iinc (j := 2) (pc := 36) C dX8_dearest_36 rfl (cn_1 _) (by decide) rfl ?_
          refine ws_goto (pc := 39) (tgt := 4) C dX8_dearest_39 (by decide) ?_
          refine ws_less [1, 2, 0] rfl ?_
          exact ih _ _ _ h
        · have h := ite_f h c5
          refine ws_iload_n (pc := 34) C dX8_dearest_34 rfl 2 rfl ?_
          refine ws_istore_n (pc := 35) C dX8_dearest_35 rfl (by decide) rfl ?_
          refine ws_iinc (j := 2) (pc := 36) C dX8_dearest_36 rfl (cn_1 _) (by decide) rfl ?_
          refine ws_goto (pc := 39) (tgt := 4) C dX8_dearest_39 (by decide) ?_
          refine ws_less [2, 1, 0] rfl ?_
          exact ih _ _ _ h
set_option maxRecDepth 20000 in
set_option maxHeartbeats 4000000 in
theorem mX8_dearest {Y : xY} {Z : xZ} {s : xM} {z : Int32 × xM} (h : fX8_dearest s = some z) : xMi (GX Y) Z yX8_dearest cX8_dearest 3 1 .int [.ref (Y.1 27)] s z := by
  refine xMi_of (by decide) (Nat.le_of_ble_eq_true rfl) (fun B C R => ?_)
  have C : xC (GX Y) Z B "BetweenStops$Ways" cX8_dearest 3 1 := C
  show xWS (GX Y) B 3 s [(0, .ref (Y.1 27))] 0 []
  unfold fX8_dearest at h
  refine ws_iconst (pc := 0) C dX8_dearest_0 ci_m1 ?_
  refine ws_istore_n (pc := 1) C dX8_dearest_1 rfl (by decide) rfl ?_
  refine ws_iconst (pc := 2) C dX8_dearest_2 ci_0 ?_
  refine ws_istore_n (pc := 3) C dX8_dearest_3 rfl (by decide) rfl ?_
  refine ws_less [2, 1, 0] rfl ?_
  refine pX8_dearest_L4 C R (fun x1 s2 h => ?_) fu _ _ _ h
  · refine ws_iload_n (pc := 42) C dX8_dearest_42 rfl 0 rfl ?_
    exact wr_i (pc := 43) C R dX8_dearest_43 rfl h
set_option maxRecDepth 20000 in
set_option maxHeartbeats 4000000 in
theorem mX8_dearestCost {Y : xY} {Z : xZ} {s : xM} {z : Int32 × xM} (h : fX8_dearestCost s = some z) : xMi (GX Y) Z yX8_dearestCost cX8_dearestCost 2 2 .int [.ref (Y.1 27)] s z := by
  refine xMi_of (by decide) (Nat.le_of_ble_eq_true rfl) (fun B C R => ?_)
  have C : xC (GX Y) Z B "BetweenStops$Ways" cX8_dearestCost 2 2 := C
  show xWS (GX Y) B 2 s [(0, .ref (Y.1 27))] 0 []
  unfold fX8_dearestCost at h
  refine ws_aload_n (pc := 0) C dX8_dearestCost_0 rfl 0 rfl ?_
  obtain ⟨r1, s2, q3, h⟩ := bd_ok h
  refine wc_iV (pc := 1)  C [] [] (mX8_dearest q3) dX8_dearestCost_1 mw_X8_dearest mv_X8_dearest kl_X8_157 so_ways rfl rfl (Nat.le_of_ble_eq_true rfl) ⟨by decide, by decide⟩ ?_
  refine ws_istore_n (pc := 4) C dX8_dearestCost_4 rfl (by decide) rfl ?_
  refine ws_iload_n (pc := 5) C dX8_dearestCost_5 rfl 0 rfl ?_
  refine ws_if_ge (pc := 6) (tgt := 13) C dX8_dearestCost_6 (by decide) (fun c4 => ?_) (fun c4 => ?_)
  · have h := ite_t h c4
    refine ws_aload_n (pc := 13) C dX8_dearestCost_13 rfl 1 rfl ?_
    refine ws_getr (pc := 14) C dX8_dearestCost_14 fd_X8_45 sf_ways_11 ?_
    refine ws_iload_n (pc := 17) C dX8_dearestCost_17 rfl 0 rfl ?_
    obtain ⟨g5, h⟩ := gd_ok h
    refine ws_ialdK (pc := 18) C dX8_dearestCost_18 sr_w_costs g5 rfl ?_
    exact wr_i (pc := 19) C R dX8_dearestCost_19 rfl h
  · have h := ite_f h c4
    refine ws_iconst (pc := 9) C dX8_dearestCost_9 ci_0 ?_
    refine ws_goto (pc := 10) (tgt := 19) C dX8_dearestCost_10 (by decide) ?_
    exact wr_i (pc := 19) C R dX8_dearestCost_19 rfl h
set_option maxRecDepth 20000 in
set_option maxHeartbeats 4000000 in
theorem pX8_usersOf_J35 {Y : xY} {Z : xZ} {B : xB} {z : Int32 × xM} (C : xC (GX Y) Z B "BetweenStops$Ways" cX8_usersOf 4 1) (R : xRi (GX Y) B .int z) {k56 : Int32 → xM → Option (Int32 × xM)} {b : Int32 → Int32 → xM → Option (Int32 × xM)} {a1 : Int32} {a2 : Int32} {a3 : Int32}
    (hk56 : ∀ (a2 : Int32) (s : xM), k56 a2 s = some z → xWS (GX Y) B 4 s [(2, .int a2)] 56 [])
    (hb : ∀ (a2 : Int32) (a3 : Int32) (s : xM), b a2 a3 s = some z → xWS (GX Y) B 4 s [(0, .ref (Y.1 27)), (1, .int a1), (2, .int a2), (3, .int a3)] 4 []) {s : xM} (h : fX8_usersOf_J35 k56 b a1 a2 a3 s = some z) : xWS (GX Y) B 4 s [(0, .ref (Y.1 27)), (1, .int a1), (2, .int a2), (3, .int a3)] 35 [] := by
  unfold fX8_usersOf_J35 at h
  refine ws_iload_n (pc := 35) C dX8_usersOf_35 rfl 2 rfl ?_
  refine ws_aload_n (pc := 36) C dX8_usersOf_36 rfl 0 rfl ?_
  refine ws_getr (pc := 37) C dX8_usersOf_37 fd_X8_63 sf_ways_0 ?_
  refine ws_getr (pc := 40) C dX8_usersOf_40 fd_X8_94 sf_town_8 ?_
  refine ws_iload_n (pc := 43) C dX8_usersOf_43 rfl 3 rfl ?_
  obtain ⟨g1, h⟩ := gd_ok h
  refine ws_aaldK (q := (19 + a3.toNatClampNeg)) (pc := 44) C dX8_usersOf_44 (by decide) sq_trips g1 rfl rfl ?_
  refine ws_geti (pc := 45) C dX8_usersOf_45 fd_X8_154 (sf_trip_2 (inb_lt g1)) ?_
  refine ws_iadd (pc := 48) C dX8_usersOf_48 ?_
  obtain ⟨v2, e3, h⟩ := lz_ok h
  refine ws_topi C e3 ?_
  refine ws_istore_n (pc := 49) C dX8_usersOf_49 rfl (by decide) rfl ?_
  refine ws_iinc (j := 3) (pc := 50) C dX8_usersOf_50 rfl (cn_1 _) (by decide) rfl ?_
  refine ws_goto (pc := 53) (tgt := 4) C dX8_usersOf_53 (by decide) ?_
  refine ws_less [2, 3, 1, 0] rfl ?_
  exact hb _ _ _ h
set_option maxRecDepth 20000 in
set_option maxHeartbeats 4000000 in
theorem pX8_usersOf_L4 {Y : xY} {Z : xZ} {B : xB} {z : Int32 × xM} (C : xC (GX Y) Z B "BetweenStops$Ways" cX8_usersOf 4 1) (R : xRi (GX Y) B .int z) {k56 : Int32 → xM → Option (Int32 × xM)} {a1 : Int32}
    (hk56 : ∀ (a2 : Int32) (s : xM), k56 a2 s = some z → xWS (GX Y) B 4 s [(2, .int a2)] 56 []) : ∀ (n : Nat) (a2 : Int32) (a3 : Int32) (s : xM), fX8_usersOf_L4 k56 a1 n a2 a3 s = some z → xWS (GX Y) B 4 s [(0, .ref (Y.1 27)), (1, .int a1), (2, .int a2), (3, .int a3)] 4 [] := by
  intro n
  induction n with
  | zero =>
    intro a2 a3 s h
    rw [fX8_usersOf_L4] at h
    cases h
  | succ n ih =>
    intro a2 a3 s h
    rw [fX8_usersOf_L4] at h
    refine ws_iload_n (pc := 4) C dX8_usersOf_4 rfl 3 rfl ?_
    refine ws_aload_n (pc := 5) C dX8_usersOf_5 rfl 0 rfl ?_
    refine ws_getr (pc := 6) C dX8_usersOf_6 fd_X8_63 sf_ways_0 ?_
    refine ws_geti (pc := 9) C dX8_usersOf_9 fd_X8_91 sf_town_9 ?_
    refine ws_icmp_ge (pc := 12) (tgt := 56) C dX8_usersOf_12 (by decide) (fun c1 => ?_) (fun c1 => ?_)
    · have h := ite_t h c1
      refine ws_less [2] rfl ?_
      exact hk56 _ _ h
    · have h := ite_f h c1
      refine ws_aload_n (pc := 15) C dX8_usersOf_15 rfl 0 rfl ?_
      refine ws_getr (pc := 16) C dX8_usersOf_16 fd_X8_48 sf_ways_12 ?_
      refine ws_iload_n (pc := 19) C dX8_usersOf_19 rfl 3 rfl ?_
      obtain ⟨g2, h⟩ := gd_ok h
      refine ws_ialdK (pc := 20) C dX8_usersOf_20 sr_w_ins g2 rfl ?_
      refine ws_iload_n (pc := 21) C dX8_usersOf_21 rfl 1 rfl ?_
      refine ws_icmp_eq (pc := 22) (tgt := 35) C dX8_usersOf_22 (by decide) (fun c3 => ?_) (fun c3 => ?_)
      · have h := ite_t h c3
        refine ws_less [0, 1, 2, 3] rfl ?_
        exact pX8_usersOf_J35 C R hk56 (fun a2 a3 s h => ih a2 a3 s h) h
      · have h := ite_f h c3
        refine ws_aload_n (pc := 25) C dX8_usersOf_25 rfl 0 rfl ?_
        refine ws_getr (pc := 26) C dX8_usersOf_26 fd_X8_51 sf_ways_13 ?_
        refine ws_iload_n (pc := 29) C dX8_usersOf_29 rfl 3 rfl ?_
        obtain ⟨g4, h⟩ := gd_ok h
        refine ws_ialdK (pc := 30) C dX8_usersOf_30 sr_w_outs g4 rfl ?_
        refine ws_iload_n (pc := 31) C dX8_usersOf_31 rfl 1 rfl ?_
        refine ws_icmp_ne (pc := 32) (tgt := 50) C dX8_usersOf_32 (by decide) (fun c5 => ?_) (fun c5 => ?_)
        · have h := ite_f h c5
          refine ws_iinc (j := 3) (pc := 50) C dX8_usersOf_50 rfl (cn_1 _) (by decide) rfl ?_
          refine ws_goto (pc := 53) (tgt := 4) C dX8_usersOf_53 (by decide) ?_
          refine ws_less [1, 2, 3, 0] rfl ?_
          exact ih _ _ _ h
        · have h := ite_t h c5
          refine ws_less [0, 1, 2, 3] rfl ?_
          exact pX8_usersOf_J35 C R hk56 (fun a2 a3 s h => ih a2 a3 s h) h
set_option maxRecDepth 20000 in
set_option maxHeartbeats 4000000 in
theorem mX8_usersOf {Y : xY} {Z : xZ} {a1 : Int32} {s : xM} {z : Int32 × xM} (h : fX8_usersOf a1 s = some z) : xMi (GX Y) Z yX8_usersOf cX8_usersOf 4 1 .int [.ref (Y.1 27), .int a1] s z := by
  refine xMi_of (by decide) (Nat.le_of_ble_eq_true rfl) (fun B C R => ?_)
  have C : xC (GX Y) Z B "BetweenStops$Ways" cX8_usersOf 4 1 := C
  show xWS (GX Y) B 4 s [(0, .ref (Y.1 27)), (1, .int a1)] 0 []
  unfold fX8_usersOf at h
  refine ws_iconst (pc := 0) C dX8_usersOf_0 ci_0 ?_
  refine ws_istore_n (pc := 1) C dX8_usersOf_1 rfl (by decide) rfl ?_
  refine ws_iconst (pc := 2) C dX8_usersOf_2 ci_0 ?_
  refine ws_istore_n (pc := 3) C dX8_usersOf_3 rfl (by decide) rfl ?_
  refine ws_less [2, 3, 1, 0] rfl ?_
  refine pX8_usersOf_L4 C R (fun x1 s2 h => ?_) fu _ _ _ h
  · refine ws_iload_n (pc := 56) C dX8_usersOf_56 rfl 0 rfl ?_
    exact wr_i (pc := 57) C R dX8_usersOf_57 rfl h
set_option maxRecDepth 20000 in
set_option maxHeartbeats 4000000 in
theorem mX9_road {Y : xY} {Z : xZ} {a1 : Int32} {a2 : Int32} {s : xM} {z : Int32 × xM} (h : fX9_road a1 a2 s = some z) : xMi (GX Y) Z yX9_road cX9_road 4 2 .int [.ref (Y.1 0), .int a1, .int a2] s z := by
  refine xMi_of (by decide) (Nat.le_of_ble_eq_true rfl) (fun B C R => ?_)
  have C : xC (GX Y) Z B "BetweenStops" cX9_road 4 2 := C
  show xWS (GX Y) B 4 s [(0, .ref (Y.1 0)), (1, .int a1), (2, .int a2)] 0 []
  unfold fX9_road at h
  refine ws_iload_n (pc := 0) C dX9_road_0 rfl 1 rfl ?_
  refine ws_iconst (pc := 1) C dX9_road_1 ci_0 ?_
  refine ws_bipush (pc := 2) C dX9_road_2 cb_40 ?_
  obtain ⟨r1, s2, q3, h⟩ := bd_ok h
  refine wc_iS (pc := 4)  C [.int a1, .int (0 : Int32), .int (40 : Int32)] [] (mX9_isWithin q3) dX9_road_4 mw_X9_isWithin ks_X9_isWithin kl_X9_111 rfl rfl (Nat.le_of_ble_eq_true rfl) ⟨by decide, by decide⟩ ?_
  refine ws_if_ne (pc := 7) (tgt := 12) C dX9_road_7 (by decide) (fun c4 => ?_) (fun c4 => ?_)
  · have h := ite_f h c4
    refine ws_iload_n (pc := 12) C dX9_road_12 rfl 2 rfl ?_
    refine ws_iconst (pc := 13) C dX9_road_13 ci_0 ?_
    refine ws_bipush (pc := 14) C dX9_road_14 cb_9 ?_
    obtain ⟨r5, s6, q7, h⟩ := bd_ok h
    refine wc_iS (pc := 16)  C [.int a2, .int (0 : Int32), .int (9 : Int32)] [] (mX9_isWithin q7) dX9_road_16 mw_X9_isWithin ks_X9_isWithin kl_X9_111 rfl rfl (Nat.le_of_ble_eq_true rfl) ⟨by decide, by decide⟩ ?_
    refine ws_if_ne (pc := 19) (tgt := 25) C dX9_road_19 (by decide) (fun c8 => ?_) (fun c8 => ?_)
    · have h := ite_f h c8
      refine ws_aload_n (pc := 25) C dX9_road_25 rfl 0 rfl ?_
      refine ws_getr (pc := 26) C dX9_road_26 fd_X9_10 sf_BS_0 ?_
      refine ws_getr (pc := 29) C dX9_road_29 fd_X9_115 sf_town_0 ?_
      refine ws_iload_n (pc := 32) C dX9_road_32 rfl 1 rfl ?_
      obtain ⟨g9, h⟩ := gd_ok h
      refine ws_ialdK (pc := 33) C dX9_road_33 sr_heights g9 rfl ?_
      obtain ⟨v10, e11, h⟩ := lz_ok h
      refine ws_topi C e11 ?_
      refine ws_istore_n (pc := 34) C dX9_road_34 rfl (by decide) rfl ?_
      refine ws_aload_n (pc := 35) C dX9_road_35 rfl 1 rfl ?_
      refine ws_getr (pc := 36) C dX9_road_36 fd_X9_10 sf_BS_0 ?_
      refine ws_getr (pc := 39) C dX9_road_39 fd_X9_115 sf_town_0 ?_
      refine ws_iload_n (pc := 42) C dX9_road_42 rfl 2 rfl ?_
      refine ws_iload_n (pc := 43) C dX9_road_43 rfl 3 rfl ?_
      obtain ⟨g12, h⟩ := gd_ok h
      obtain ⟨s13, e14, h⟩ := lz_ok h
      refine ws_iastK (pc := 44) C dX9_road_44 sr_heights g12 rfl e14 ?_
      refine ws_aload_n (pc := 45) C dX9_road_45 rfl 1 rfl ?_
      refine ws_getr (pc := 46) C dX9_road_46 fd_X9_10 sf_BS_0 ?_
      obtain ⟨r15, s16, q17, h⟩ := bd_ok h
      refine wc_vV (pc := 49)  C [] [] (mX6_measureClimbs q17) dX9_road_49 mw_X6_measureClimbs mv_X6_measureClimbs kl_X9_118 so_town rfl rfl (Nat.le_of_ble_eq_true rfl) ⟨by decide, by decide⟩ ?_
      refine ws_iload_n (pc := 52) C dX9_road_52 rfl 0 rfl ?_
      exact wr_i (pc := 53) C R dX9_road_53 rfl h
    · have h := ite_t h c8
      refine ws_bipush (pc := 22) C dX9_road_22 cb_m2 ?_
      exact wr_i (pc := 24) C R dX9_road_24 rfl h
  · have h := ite_t h c4
    refine ws_iconst (pc := 10) C dX9_road_10 ci_m1 ?_
    exact wr_i (pc := 11) C R dX9_road_11 rfl h
set_option maxRecDepth 20000 in
set_option maxHeartbeats 4000000 in
theorem mX9_isSort {Y : xY} {Z : xZ} {a0 : Int32} {s : xM} {z : Int32 × xM} (h : fX9_isSort a0 s = some z) : xMi (GX Y) Z yX9_isSort cX9_isSort 1 2 .boolean [.int a0] s z := by
  refine xMi_of (by decide) (Nat.le_of_ble_eq_true rfl) (fun B C R => ?_)
  have C : xC (GX Y) Z B "BetweenStops" cX9_isSort 1 2 := C
  show xWS (GX Y) B 1 s [(0, .int a0)] 0 []
  unfold fX9_isSort at h
  refine ws_iload_n (pc := 0) C dX9_isSort_0 rfl 0 rfl ?_
  refine ws_iconst (pc := 1) C dX9_isSort_1 ci_0 ?_
  refine ws_iconst (pc := 2) C dX9_isSort_2 ci_2 ?_
  obtain ⟨r1, s2, q3, h⟩ := bd_ok h
  refine wc_iS (pc := 3)  C [.int a0, .int (0 : Int32), .int (2 : Int32)] [] (mX9_isWithin q3) dX9_isSort_3 mw_X9_isWithin ks_X9_isWithin kl_X9_111 rfl rfl (Nat.le_of_ble_eq_true rfl) ⟨by decide, by decide⟩ ?_
  obtain ⟨g4, h⟩ := gd_ok h
  exact wr_i (pc := 6) C R dX9_isSort_6 (isZ_nar g4) h
set_option maxRecDepth 20000 in
set_option maxHeartbeats 4000000 in
theorem mX9_sort {Y : xY} {Z : xZ} {a1 : Int32} {a2 : Int32} {a3 : Int32} {s : xM} {z : Int32 × xM} (h : fX9_sort a1 a2 a3 s = some z) : xMi (GX Y) Z yX9_sort cX9_sort 5 3 .int [.ref (Y.1 0), .int a1, .int a2, .int a3] s z := by
  refine xMi_of (by decide) (Nat.le_of_ble_eq_true rfl) (fun B C R => ?_)
  have C : xC (GX Y) Z B "BetweenStops" cX9_sort 5 3 := C
  show xWS (GX Y) B 5 s [(0, .ref (Y.1 0)), (1, .int a1), (2, .int a2), (3, .int a3)] 0 []
  unfold fX9_sort at h
  refine ws_iload_n (pc := 0) C dX9_sort_0 rfl 1 rfl ?_
  obtain ⟨r1, s2, q3, h⟩ := bd_ok h
  refine wc_iS (pc := 1)  C [.int a1] [] (mX9_isSort q3) dX9_sort_1 mw_X9_isSort ks_X9_isSort kl_X9_121 rfl rfl (Nat.le_of_ble_eq_true rfl) ⟨by decide, by decide⟩ ?_
  refine ws_if_ne (pc := 4) (tgt := 9) C dX9_sort_4 (by decide) (fun c4 => ?_) (fun c4 => ?_)
  · have h := ite_f h c4
    refine ws_iload_n (pc := 9) C dX9_sort_9 rfl 2 rfl ?_
    refine ws_iconst (pc := 10) C dX9_sort_10 ci_0 ?_
    refine ws_iconst (pc := 11) C dX9_sort_11 ci_5 ?_
    obtain ⟨r5, s6, q7, h⟩ := bd_ok h
    refine wc_iS (pc := 12)  C [.int a2, .int (0 : Int32), .int (5 : Int32)] [] (mX9_isWithin q7) dX9_sort_12 mw_X9_isWithin ks_X9_isWithin kl_X9_111 rfl rfl (Nat.le_of_ble_eq_true rfl) ⟨by decide, by decide⟩ ?_
    refine ws_if_eq (pc := 15) (tgt := 35) C dX9_sort_15 (by decide) (fun c8 => ?_) (fun c8 => ?_)
    · have h := ite_t h c8
      refine ws_bipush (pc := 35) C dX9_sort_35 cb_m2 ?_
      exact wr_i (pc := 37) C R dX9_sort_37 rfl h
    · have h := ite_f h c8
      refine ws_iload_n (pc := 18) C dX9_sort_18 rfl 3 rfl ?_
      refine ws_gets (i := 0) (pc := 19) C dX9_sort_19 rfl kf_X9_125 ?_
      refine ws_iload_n (pc := 22) C dX9_sort_22 rfl 2 rfl ?_
      obtain ⟨g9, h⟩ := gd_ok h
      refine ws_saldK (i := 0) (pc := 23) C dX9_sort_23 rfl rfl g9 rfl ?_
      refine ws_gets (i := 1) (pc := 24) C dX9_sort_24 rfl kf_X9_128 ?_
      refine ws_iload_n (pc := 27) C dX9_sort_27 rfl 2 rfl ?_
      obtain ⟨g10, h⟩ := gd_ok h
      refine ws_saldK (i := 1) (pc := 28) C dX9_sort_28 rfl rfl g10 rfl ?_
      obtain ⟨r11, s12, q13, h⟩ := bd_ok h
      refine wc_iS (pc := 29)  C [.int a3, .int (sT0.getD a2.toNatClampNeg 0), .int (sT1.getD a2.toNatClampNeg 0)] [] (mX9_isWithin q13) dX9_sort_29 mw_X9_isWithin ks_X9_isWithin kl_X9_111 rfl rfl (Nat.le_of_ble_eq_true rfl) ⟨by decide, by decide⟩ ?_
      refine ws_if_ne (pc := 32) (tgt := 38) C dX9_sort_32 (by decide) (fun c14 => ?_) (fun c14 => ?_)
      · have h := ite_f h c14
        refine ws_aload_n (pc := 38) C dX9_sort_38 rfl 0 rfl ?_
        refine ws_getr (pc := 39) C dX9_sort_39 fd_X9_10 sf_BS_0 ?_
        refine ws_getr (pc := 42) C dX9_sort_42 fd_X9_131 sf_town_3 ?_
        refine ws_iload_n (pc := 45) C dX9_sort_45 rfl 1 rfl ?_
        obtain ⟨g15, h⟩ := gd_ok h
        refine ws_aaldK (q := (6 + a1.toNatClampNeg)) (pc := 46) C dX9_sort_46 (by decide) sq_sorts g15 rfl rfl ?_
        refine ws_iload_n (pc := 47) C dX9_sort_47 rfl 2 rfl ?_
        obtain ⟨g16, h⟩ := gd_ok h
        refine ws_ialdK (pc := 48) C dX9_sort_48 (sr_sortrow (inb_lt g15)) g16 rfl ?_
        obtain ⟨v17, e18, h⟩ := lz_ok h
        refine ws_topi C e18 ?_
        refine ws_istore (pc := 49) C dX9_sort_49 (by decide) rfl ?_
        refine ws_aload_n (pc := 51) C dX9_sort_51 rfl 1 rfl ?_
        refine ws_getr (pc := 52) C dX9_sort_52 fd_X9_10 sf_BS_0 ?_
        refine ws_getr (pc := 55) C dX9_sort_55 fd_X9_131 sf_town_3 ?_
        refine ws_iload_n (pc := 58) C dX9_sort_58 rfl 2 rfl ?_
        obtain ⟨g19, h⟩ := gd_ok h
        refine ws_aaldK (q := (6 + a1.toNatClampNeg)) (pc := 59) C dX9_sort_59 (by decide) sq_sorts g19 rfl rfl ?_
        refine ws_iload_n (pc := 60) C dX9_sort_60 rfl 3 rfl ?_
        refine ws_iload_n (pc := 61) C dX9_sort_61 rfl 4 rfl ?_
        obtain ⟨g20, h⟩ := gd_ok h
        obtain ⟨s21, e22, h⟩ := lz_ok h
        refine ws_iastK (pc := 62) C dX9_sort_62 (sr_sortrow (inb_lt g19)) g20 rfl e22 ?_
        refine ws_iload (pc := 63) C dX9_sort_63 0 rfl ?_
        exact wr_i (pc := 65) C R dX9_sort_65 rfl h
      · have h := ite_t h c14
        refine ws_bipush (pc := 35) C dX9_sort_35 cb_m2 ?_
        exact wr_i (pc := 37) C R dX9_sort_37 rfl h
  · have h := ite_t h c4
    refine ws_iconst (pc := 7) C dX9_sort_7 ci_m1 ?_
    exact wr_i (pc := 8) C R dX9_sort_8 rfl h
set_option maxRecDepth 20000 in
set_option maxHeartbeats 4000000 in
theorem pX9_car_J34 {Y : xY} {Z : xZ} {B : xB} {z : Int32 × xM} (C : xC (GX Y) Z B "BetweenStops" cX9_car 4 2) (R : xRi (GX Y) B .int z) {a1 : Int32} {a2 : Int32} {s : xM} (h : fX9_car_J34 a1 a2 s = some z) : xWS (GX Y) B 4 s [(0, .ref (Y.1 0)), (1, .int a1), (2, .int a2)] 34 [] := by
  unfold fX9_car_J34 at h
  refine ws_iload_n (pc := 34) C dX9_car_34 rfl 1 rfl ?_
  refine ws_iconst (pc := 35) C dX9_car_35 ci_1 ?_
  refine ws_icmp_ne (pc := 36) (tgt := 68) C dX9_car_36 (by decide) (fun c1 => ?_) (fun c1 => ?_)
  · have h := ite_f h c1
    refine ws_bipush (pc := 68) C dX9_car_68 cb_m2 ?_
    refine ws_istore_n (pc := 70) C dX9_car_70 rfl (by decide) rfl ?_
    refine ws_iload_n (pc := 71) C dX9_car_71 rfl 0 rfl ?_
    exact wr_i (pc := 72) C R dX9_car_72 rfl h
  · have h := ite_t h c1
    refine ws_iload_n (pc := 39) C dX9_car_39 rfl 2 rfl ?_
    refine ws_iconst (pc := 40) C dX9_car_40 ci_1 ?_
    refine ws_bipush (pc := 41) C dX9_car_41 cb_60 ?_
    obtain ⟨r2, s3, q4, h⟩ := bd_ok h
    refine wc_iS (pc := 43)  C [.int a2, .int (1 : Int32), .int (60 : Int32)] [] (mX9_isWithin q4) dX9_car_43 mw_X9_isWithin ks_X9_isWithin kl_X9_111 rfl rfl (Nat.le_of_ble_eq_true rfl) ⟨by decide, by decide⟩ ?_
    refine ws_if_eq (pc := 46) (tgt := 68) C dX9_car_46 (by decide) (fun c5 => ?_) (fun c5 => ?_)
    · have h := ite_t h c5
      refine ws_bipush (pc := 68) C dX9_car_68 cb_m2 ?_
      refine ws_istore_n (pc := 70) C dX9_car_70 rfl (by decide) rfl ?_
      refine ws_iload_n (pc := 71) C dX9_car_71 rfl 0 rfl ?_
      exact wr_i (pc := 72) C R dX9_car_72 rfl h
    · have h := ite_f h c5
      refine ws_aload_n (pc := 49) C dX9_car_49 rfl 0 rfl ?_
      refine ws_getr (pc := 50) C dX9_car_50 fd_X9_10 sf_BS_0 ?_
      refine ws_geti (pc := 53) C dX9_car_53 fd_X9_138 sf_town_5 ?_
      obtain ⟨v6, e7, h⟩ := lz_ok h
      refine ws_topi C e7 ?_
      refine ws_istore_n (pc := 56) C dX9_car_56 rfl (by decide) rfl ?_
      refine ws_aload_n (pc := 57) C dX9_car_57 rfl 1 rfl ?_
      refine ws_getr (pc := 58) C dX9_car_58 fd_X9_10 sf_BS_0 ?_
      refine ws_iload_n (pc := 61) C dX9_car_61 rfl 3 rfl ?_
      obtain ⟨s8, e9, h⟩ := lz_ok h
      refine ws_putI (pc := 62) C dX9_car_62 fp_X9_138 sf_town_5 e9 ?_
      refine ws_goto (pc := 65) (tgt := 71) C dX9_car_65 (by decide) ?_
      refine ws_iload_n (pc := 71) C dX9_car_71 rfl 0 rfl ?_
      exact wr_i (pc := 72) C R dX9_car_72 rfl h
set_option maxRecDepth 20000 in
set_option maxHeartbeats 4000000 in
theorem mX9_car {Y : xY} {Z : xZ} {a1 : Int32} {a2 : Int32} {s : xM} {z : Int32 × xM} (h : fX9_car a1 a2 s = some z) : xMi (GX Y) Z yX9_car cX9_car 4 2 .int [.ref (Y.1 0), .int a1, .int a2] s z := by
  refine xMi_of (by decide) (Nat.le_of_ble_eq_true rfl) (fun B C R => ?_)
  have C : xC (GX Y) Z B "BetweenStops" cX9_car 4 2 := C
  show xWS (GX Y) B 4 s [(0, .ref (Y.1 0)), (1, .int a1), (2, .int a2)] 0 []
  unfold fX9_car at h
  refine ws_iload_n (pc := 0) C dX9_car_0 rfl 1 rfl ?_
  refine ws_if_ne (pc := 1) (tgt := 34) C dX9_car_1 (by decide) (fun c1 => ?_) (fun c1 => ?_)
  · have h := ite_f h c1
    refine ws_less [0, 1, 2] rfl ?_
    exact pX9_car_J34 C R h
  · have h := ite_t h c1
    refine ws_iload_n (pc := 4) C dX9_car_4 rfl 2 rfl ?_
    refine ws_iconst (pc := 5) C dX9_car_5 ci_1 ?_
    refine ws_sipush (pc := 6) C dX9_car_6 cs_3600 ?_
    obtain ⟨r2, s3, q4, h⟩ := bd_ok h
    refine wc_iS (pc := 9)  C [.int a2, .int (1 : Int32), .int (3600 : Int32)] [] (mX9_isWithin q4) dX9_car_9 mw_X9_isWithin ks_X9_isWithin kl_X9_111 rfl rfl (Nat.le_of_ble_eq_true rfl) ⟨by decide, by decide⟩ ?_
    refine ws_if_eq (pc := 12) (tgt := 34) C dX9_car_12 (by decide) (fun c5 => ?_) (fun c5 => ?_)
    · have h := ite_t h c5
      refine ws_less [0, 1, 2] rfl ?_
      exact pX9_car_J34 C R h
    · have h := ite_f h c5
      refine ws_aload_n (pc := 15) C dX9_car_15 rfl 0 rfl ?_
      refine ws_getr (pc := 16) C dX9_car_16 fd_X9_10 sf_BS_0 ?_
      refine ws_geti (pc := 19) C dX9_car_19 fd_X9_135 sf_town_4 ?_
      obtain ⟨v6, e7, h⟩ := lz_ok h
      refine ws_topi C e7 ?_
      refine ws_istore_n (pc := 22) C dX9_car_22 rfl (by decide) rfl ?_
      refine ws_aload_n (pc := 23) C dX9_car_23 rfl 1 rfl ?_
      refine ws_getr (pc := 24) C dX9_car_24 fd_X9_10 sf_BS_0 ?_
      refine ws_iload_n (pc := 27) C dX9_car_27 rfl 3 rfl ?_
      obtain ⟨s8, e9, h⟩ := lz_ok h
      refine ws_putI (pc := 28) C dX9_car_28 fp_X9_135 sf_town_4 e9 ?_
      refine ws_goto (pc := 31) (tgt := 71) C dX9_car_31 (by decide) ?_
      refine ws_iload_n (pc := 71) C dX9_car_71 rfl 0 rfl ?_
      exact wr_i (pc := 72) C R dX9_car_72 rfl h
set_option maxRecDepth 20000 in
set_option maxHeartbeats 4000000 in
theorem mX9_isCell {Y : xY} {Z : xZ} {a0 : Int32} {s : xM} {z : Int32 × xM} (h : fX9_isCell a0 s = some z) : xMi (GX Y) Z yX9_isCell cX9_isCell 1 2 .boolean [.int a0] s z := by
  refine xMi_of (by decide) (Nat.le_of_ble_eq_true rfl) (fun B C R => ?_)
  have C : xC (GX Y) Z B "BetweenStops" cX9_isCell 1 2 := C
  show xWS (GX Y) B 1 s [(0, .int a0)] 0 []
  unfold fX9_isCell at h
  refine ws_iload_n (pc := 0) C dX9_isCell_0 rfl 0 rfl ?_
  refine ws_iconst (pc := 1) C dX9_isCell_1 ci_0 ?_
  refine ws_bipush (pc := 2) C dX9_isCell_2 cb_40 ?_
  obtain ⟨r1, s2, q3, h⟩ := bd_ok h
  refine wc_iS (pc := 4)  C [.int a0, .int (0 : Int32), .int (40 : Int32)] [] (mX9_isWithin q3) dX9_isCell_4 mw_X9_isWithin ks_X9_isWithin kl_X9_111 rfl rfl (Nat.le_of_ble_eq_true rfl) ⟨by decide, by decide⟩ ?_
  obtain ⟨g4, h⟩ := gd_ok h
  exact wr_i (pc := 7) C R dX9_isCell_7 (isZ_nar g4) h
set_option maxRecDepth 20000 in
set_option maxHeartbeats 4000000 in
theorem mX9_walks {Y : xY} {Z : xZ} {a1 : Int32} {a2 : Int32} {a3 : Int32} {s : xM} {z : Int32 × xM} (h : fX9_walks a1 a2 a3 s = some z) : xMi (GX Y) Z yX9_walks cX9_walks 4 3 .int [.ref (Y.1 0), .int a1, .int a2, .int a3] s z := by
  refine xMi_of (by decide) (Nat.le_of_ble_eq_true rfl) (fun B C R => ?_)
  have C : xC (GX Y) Z B "BetweenStops" cX9_walks 4 3 := C
  show xWS (GX Y) B 4 s [(0, .ref (Y.1 0)), (1, .int a1), (2, .int a2), (3, .int a3)] 0 []
  unfold fX9_walks at h
  refine ws_iload_n (pc := 0) C dX9_walks_0 rfl 1 rfl ?_
  obtain ⟨r1, s2, q3, h⟩ := bd_ok h
  refine wc_iS (pc := 1)  C [.int a1] [] (mX9_isCell q3) dX9_walks_1 mw_X9_isCell ks_X9_isCell kl_X9_141 rfl rfl (Nat.le_of_ble_eq_true rfl) ⟨by decide, by decide⟩ ?_
  refine ws_if_eq (pc := 4) (tgt := 14) C dX9_walks_4 (by decide) (fun c4 => ?_) (fun c4 => ?_)
  · have h := ite_t h c4
    refine ws_bipush (pc := 14) C dX9_walks_14 cb_m5 ?_
    exact wr_i (pc := 16) C R dX9_walks_16 rfl h
  · have h := ite_f h c4
    refine ws_iload_n (pc := 7) C dX9_walks_7 rfl 2 rfl ?_
    obtain ⟨r5, s6, q7, h⟩ := bd_ok h
    refine wc_iS (pc := 8)  C [.int a2] [] (mX9_isCell q7) dX9_walks_8 mw_X9_isCell ks_X9_isCell kl_X9_141 rfl rfl (Nat.le_of_ble_eq_true rfl) ⟨by decide, by decide⟩ ?_
    refine ws_if_ne (pc := 11) (tgt := 17) C dX9_walks_11 (by decide) (fun c8 => ?_) (fun c8 => ?_)
    · have h := ite_f h c8
      refine ws_iload_n (pc := 17) C dX9_walks_17 rfl 3 rfl ?_
      obtain ⟨r9, s10, q11, h⟩ := bd_ok h
      refine wc_iS (pc := 18)  C [.int a3] [] (mX9_isSort q11) dX9_walks_18 mw_X9_isSort ks_X9_isSort kl_X9_121 rfl rfl (Nat.le_of_ble_eq_true rfl) ⟨by decide, by decide⟩ ?_
      refine ws_if_ne (pc := 21) (tgt := 27) C dX9_walks_21 (by decide) (fun c12 => ?_) (fun c12 => ?_)
      · have h := ite_f h c12
        refine ws_aload_n (pc := 27) C dX9_walks_27 rfl 0 rfl ?_
        refine ws_getr (pc := 28) C dX9_walks_28 fd_X9_10 sf_BS_0 ?_
        refine ws_iload_n (pc := 31) C dX9_walks_31 rfl 1 rfl ?_
        refine ws_iload_n (pc := 32) C dX9_walks_32 rfl 2 rfl ?_
        refine ws_iload_n (pc := 33) C dX9_walks_33 rfl 3 rfl ?_
        obtain ⟨r13, s14, q15, h⟩ := bd_ok h
        refine wc_iV (pc := 34)  C [.int a1, .int a2, .int a3] [] (mX6_walkSeconds q15) dX9_walks_34 mw_X6_walkSeconds mv_X6_walkSeconds kl_X9_144 so_town rfl rfl (Nat.le_of_ble_eq_true rfl) ⟨by decide, by decide⟩ ?_
        exact wr_i (pc := 37) C R dX9_walks_37 rfl h
      · have h := ite_t h c12
        refine ws_bipush (pc := 24) C dX9_walks_24 cb_m7 ?_
        exact wr_i (pc := 26) C R dX9_walks_26 rfl h
    · have h := ite_t h c8
      refine ws_bipush (pc := 14) C dX9_walks_14 cb_m5 ?_
      exact wr_i (pc := 16) C R dX9_walks_16 rfl h
set_option maxRecDepth 20000 in
set_option maxHeartbeats 4000000 in
theorem mX9_stop {Y : xY} {Z : xZ} {a1 : Int32} {a2 : Int32} {a3 : Int32} {a4 : Int32} {s : xM} {z : Int32 × xM} (h : fX9_stop a1 a2 a3 a4 s = some z) : xMi (GX Y) Z yX9_stop cX9_stop 5 4 .int [.ref (Y.1 0), .int a1, .int a2, .int a3, .int a4] s z := by
  refine xMi_of (by decide) (Nat.le_of_ble_eq_true rfl) (fun B C R => ?_)
  have C : xC (GX Y) Z B "BetweenStops" cX9_stop 5 4 := C
  show xWS (GX Y) B 5 s [(0, .ref (Y.1 0)), (1, .int a1), (2, .int a2), (3, .int a3), (4, .int a4)] 0 []
  unfold fX9_stop at h
  refine ws_iload_n (pc := 0) C dX9_stop_0 rfl 1 rfl ?_
  obtain ⟨r1, s2, q3, h⟩ := bd_ok h
  refine wc_iS (pc := 1)  C [.int a1] [] (mX9_isKind q3) dX9_stop_1 mw_X9_isKind ks_X9_isKind kl_X9_148 rfl rfl (Nat.le_of_ble_eq_true rfl) ⟨by decide, by decide⟩ ?_
  refine ws_if_eq (pc := 4) (tgt := 35) C dX9_stop_4 (by decide) (fun c4 => ?_) (fun c4 => ?_)
  · have h := ite_t h c4
    refine ws_bipush (pc := 35) C dX9_stop_35 cb_m2 ?_
    exact wr_i (pc := 37) C R dX9_stop_37 rfl h
  · have h := ite_f h c4
    refine ws_iload_n (pc := 7) C dX9_stop_7 rfl 2 rfl ?_
    obtain ⟨r5, s6, q7, h⟩ := bd_ok h
    refine wc_iS (pc := 8)  C [.int a2] [] (mX9_isCell q7) dX9_stop_8 mw_X9_isCell ks_X9_isCell kl_X9_141 rfl rfl (Nat.le_of_ble_eq_true rfl) ⟨by decide, by decide⟩ ?_
    refine ws_if_eq (pc := 11) (tgt := 35) C dX9_stop_11 (by decide) (fun c8 => ?_) (fun c8 => ?_)
    · have h := ite_t h c8
      refine ws_bipush (pc := 35) C dX9_stop_35 cb_m2 ?_
      exact wr_i (pc := 37) C R dX9_stop_37 rfl h
    · have h := ite_f h c8
      refine ws_iload_n (pc := 14) C dX9_stop_14 rfl 3 rfl ?_
      refine ws_iconst (pc := 15) C dX9_stop_15 ci_0 ?_
      refine ws_bipush (pc := 16) C dX9_stop_16 cb_99 ?_
      obtain ⟨r9, s10, q11, h⟩ := bd_ok h
      refine wc_iS (pc := 18)  C [.int a3, .int (0 : Int32), .int (99 : Int32)] [] (mX9_isWithin q11) dX9_stop_18 mw_X9_isWithin ks_X9_isWithin kl_X9_111 rfl rfl (Nat.le_of_ble_eq_true rfl) ⟨by decide, by decide⟩ ?_
      refine ws_if_eq (pc := 21) (tgt := 35) C dX9_stop_21 (by decide) (fun c12 => ?_) (fun c12 => ?_)
      · have h := ite_t h c12
        refine ws_bipush (pc := 35) C dX9_stop_35 cb_m2 ?_
        exact wr_i (pc := 37) C R dX9_stop_37 rfl h
      · have h := ite_f h c12
        refine ws_iload (pc := 24) C dX9_stop_24 4 rfl ?_
        refine ws_iconst (pc := 26) C dX9_stop_26 ci_0 ?_
        refine ws_bipush (pc := 27) C dX9_stop_27 cb_60 ?_
        obtain ⟨r13, s14, q15, h⟩ := bd_ok h
        refine wc_iS (pc := 29)  C [.int a4, .int (0 : Int32), .int (60 : Int32)] [] (mX9_isWithin q15) dX9_stop_29 mw_X9_isWithin ks_X9_isWithin kl_X9_111 rfl rfl (Nat.le_of_ble_eq_true rfl) ⟨by decide, by decide⟩ ?_
        refine ws_if_ne (pc := 32) (tgt := 38) C dX9_stop_32 (by decide) (fun c16 => ?_) (fun c16 => ?_)
        · have h := ite_f h c16
          refine ws_aload_n (pc := 38) C dX9_stop_38 rfl 0 rfl ?_
          refine ws_getr (pc := 39) C dX9_stop_39 fd_X9_10 sf_BS_0 ?_
          refine ws_geti (pc := 42) C dX9_stop_42 fd_X9_151 sf_town_7 ?_
          refine ws_bipush (pc := 45) C dX9_stop_45 cb_8 ?_
          refine ws_icmp_lt (pc := 47) (tgt := 53) C dX9_stop_47 (by decide) (fun c17 => ?_) (fun c17 => ?_)
          · have h := ite_t h c17
            refine ws_aload_n (pc := 53) C dX9_stop_53 rfl 0 rfl ?_
            refine ws_getr (pc := 54) C dX9_stop_54 fd_X9_10 sf_BS_0 ?_
            refine ws_getr (pc := 57) C dX9_stop_57 fd_X9_154 sf_town_6 ?_
            refine ws_aload_n (pc := 60) C dX9_stop_60 rfl 0 rfl ?_
            refine ws_getr (pc := 61) C dX9_stop_61 fd_X9_10 sf_BS_0 ?_
            refine ws_geti (pc := 64) C dX9_stop_64 fd_X9_151 sf_town_7 ?_
            obtain ⟨g18, h⟩ := gd_ok h
            refine ws_aaldK (q := (11 + (gi s14 1 7).toNatClampNeg)) (pc := 67) C dX9_stop_67 (by decide) sq_stops g18 rfl rfl ?_
            refine ws_iload_n (pc := 68) C dX9_stop_68 rfl 1 rfl ?_
            refine ws_iload_n (pc := 69) C dX9_stop_69 rfl 2 rfl ?_
            refine ws_iload_n (pc := 70) C dX9_stop_70 rfl 3 rfl ?_
            refine ws_iload (pc := 71) C dX9_stop_71 4 rfl ?_
            obtain ⟨r19, s20, q21, h⟩ := bd_ok h
            refine wc_vV (pc := 73)  C [.int a1, .int a2, .int a3, .int a4] [] (mX3_begin (inb_lt g18) q21) dX9_stop_73 mw_X3_begin mv_X3_begin kl_X9_158 (so_stop (inb_lt g18)) rfl rfl (Nat.le_of_ble_eq_true rfl) ⟨by decide, by decide⟩ ?_
            refine ws_aload_n (pc := 76) C dX9_stop_76 rfl 0 rfl ?_
            refine ws_getr (pc := 77) C dX9_stop_77 fd_X9_10 sf_BS_0 ?_
            refine ws_dup (pc := 80) C dX9_stop_80 rfl ?_
            refine ws_geti (pc := 81) C dX9_stop_81 fd_X9_151 sf_town_7 ?_
            refine ws_iconst (pc := 84) C dX9_stop_84 ci_1 ?_
            refine ws_iadd (pc := 85) C dX9_stop_85 ?_
            obtain ⟨s22, e23, h⟩ := lz_ok h
            refine ws_putI (pc := 86) C dX9_stop_86 fp_X9_151 sf_town_7 e23 ?_
            refine ws_aload_n (pc := 89) C dX9_stop_89 rfl 0 rfl ?_
            refine ws_getr (pc := 90) C dX9_stop_90 fd_X9_10 sf_BS_0 ?_
            refine ws_geti (pc := 93) C dX9_stop_93 fd_X9_151 sf_town_7 ?_
            refine ws_iconst (pc := 96) C dX9_stop_96 ci_1 ?_
            refine ws_isub (pc := 97) C dX9_stop_97 ?_
            exact wr_i (pc := 98) C R dX9_stop_98 rfl h
          · have h := ite_f h c17
            refine ws_bipush (pc := 50) C dX9_stop_50 cb_m4 ?_
            exact wr_i (pc := 52) C R dX9_stop_52 rfl h
        · have h := ite_t h c16
          refine ws_bipush (pc := 35) C dX9_stop_35 cb_m2 ?_
          exact wr_i (pc := 37) C R dX9_stop_37 rfl h
set_option maxRecDepth 20000 in
set_option maxHeartbeats 4000000 in
theorem mX9_isStop {Y : xY} {Z : xZ} {a1 : Int32} {s : xM} {z : Int32 × xM} (h : fX9_isStop a1 s = some z) : xMi (GX Y) Z yX9_isStop cX9_isStop 2 2 .boolean [.ref (Y.1 0), .int a1] s z := by
  refine xMi_of (by decide) (Nat.le_of_ble_eq_true rfl) (fun B C R => ?_)
  have C : xC (GX Y) Z B "BetweenStops" cX9_isStop 2 2 := C
  show xWS (GX Y) B 2 s [(0, .ref (Y.1 0)), (1, .int a1)] 0 []
  unfold fX9_isStop at h
  refine ws_iload_n (pc := 0) C dX9_isStop_0 rfl 1 rfl ?_
  refine ws_iconst (pc := 1) C dX9_isStop_1 ci_0 ?_
  refine ws_aload_n (pc := 2) C dX9_isStop_2 rfl 0 rfl ?_
  refine ws_getr (pc := 3) C dX9_isStop_3 fd_X9_10 sf_BS_0 ?_
  refine ws_geti (pc := 6) C dX9_isStop_6 fd_X9_151 sf_town_7 ?_
  refine ws_iconst (pc := 9) C dX9_isStop_9 ci_1 ?_
  refine ws_isub (pc := 10) C dX9_isStop_10 ?_
  obtain ⟨r1, s2, q3, h⟩ := bd_ok h
  refine wc_iS (pc := 11)  C [.int a1, .int (0 : Int32), .int ((gi s 1 7) - (1 : Int32))] [] (mX9_isWithin q3) dX9_isStop_11 mw_X9_isWithin ks_X9_isWithin kl_X9_111 rfl rfl (Nat.le_of_ble_eq_true rfl) ⟨by decide, by decide⟩ ?_
  obtain ⟨g4, h⟩ := gd_ok h
  exact wr_i (pc := 14) C R dX9_isStop_14 (isZ_nar g4) h
set_option maxRecDepth 20000 in
set_option maxHeartbeats 4000000 in
theorem pX9_open_J57 {Y : xY} {Z : xZ} {B : xB} {z : Int32 × xM} (C : xC (GX Y) Z B "BetweenStops" cX9_open 4 3) (R : xRi (GX Y) B .int z) {a3 : Int32} {t0 : Int32} {t1 : Nat} (ht1 : t1 < 8) {s : xM} (h : fX9_open_J57 a3 t0 t1 s = some z) : xWS (GX Y) B 4 s [(3, .int a3)] 57 [.int t0, .ref (Y.1 (11 + t1))] := by
  unfold fX9_open_J57 at h
  obtain ⟨g1, h⟩ := gd_ok h
  obtain ⟨s2, e3, h⟩ := lz_ok h
  refine ws_putZ (pc := 57) C dX9_open_57 fp_X9_167 (sf_stop_5 ht1) g1 e3 ?_
  refine ws_iload_n (pc := 60) C dX9_open_60 rfl 0 rfl ?_
  exact wr_i (pc := 61) C R dX9_open_61 rfl h
set_option maxRecDepth 20000 in
set_option maxHeartbeats 4000000 in
theorem mX9_open {Y : xY} {Z : xZ} {a1 : Int32} {a2 : Int32} {s : xM} {z : Int32 × xM} (h : fX9_open a1 a2 s = some z) : xMi (GX Y) Z yX9_open cX9_open 4 3 .int [.ref (Y.1 0), .int a1, .int a2] s z := by
  refine xMi_of (by decide) (Nat.le_of_ble_eq_true rfl) (fun B C R => ?_)
  have C : xC (GX Y) Z B "BetweenStops" cX9_open 4 3 := C
  show xWS (GX Y) B 4 s [(0, .ref (Y.1 0)), (1, .int a1), (2, .int a2)] 0 []
  unfold fX9_open at h
  refine ws_aload_n (pc := 0) C dX9_open_0 rfl 0 rfl ?_
  refine ws_iload_n (pc := 1) C dX9_open_1 rfl 1 rfl ?_
  obtain ⟨r1, s2, q3, h⟩ := bd_ok h
  refine wc_iV (pc := 2)  C [.int a1] [] (mX9_isStop q3) dX9_open_2 mw_X9_isStop mv_X9_isStop kl_X9_164 so_BS rfl rfl (Nat.le_of_ble_eq_true rfl) ⟨by decide, by decide⟩ ?_
  refine ws_if_ne (pc := 5) (tgt := 10) C dX9_open_5 (by decide) (fun c4 => ?_) (fun c4 => ?_)
  · have h := ite_f h c4
    refine ws_iload_n (pc := 10) C dX9_open_10 rfl 2 rfl ?_
    refine ws_iconst (pc := 11) C dX9_open_11 ci_0 ?_
    refine ws_iconst (pc := 12) C dX9_open_12 ci_1 ?_
    obtain ⟨r5, s6, q7, h⟩ := bd_ok h
    refine wc_iS (pc := 13)  C [.int a2, .int (0 : Int32), .int (1 : Int32)] [] (mX9_isWithin q7) dX9_open_13 mw_X9_isWithin ks_X9_isWithin kl_X9_111 rfl rfl (Nat.le_of_ble_eq_true rfl) ⟨by decide, by decide⟩ ?_
    refine ws_if_ne (pc := 16) (tgt := 22) C dX9_open_16 (by decide) (fun c8 => ?_) (fun c8 => ?_)
    · have h := ite_f h c8
      refine ws_aload_n (pc := 22) C dX9_open_22 rfl 0 rfl ?_
      refine ws_getr (pc := 23) C dX9_open_23 fd_X9_10 sf_BS_0 ?_
      refine ws_getr (pc := 26) C dX9_open_26 fd_X9_154 sf_town_6 ?_
      refine ws_iload_n (pc := 29) C dX9_open_29 rfl 1 rfl ?_
      obtain ⟨g9, h⟩ := gd_ok h
      refine ws_aaldK (q := (11 + a1.toNatClampNeg)) (pc := 30) C dX9_open_30 (by decide) sq_stops g9 rfl rfl ?_
      refine ws_geti (pc := 31) C dX9_open_31 fd_X9_167 (sf_stop_5 (inb_lt g9)) ?_
      obtain ⟨r10, s11, q12, h⟩ := bd_ok h
      refine wc_iS (pc := 34)  C [.int (gi s6 (11 + a1.toNatClampNeg) 5)] [] (mX9_asNumber q12) dX9_open_34 mw_X9_asNumber ks_X9_asNumber kl_X9_171 rfl rfl (Nat.le_of_ble_eq_true rfl) ⟨by decide, by decide⟩ ?_
      refine ws_istore_n (pc := 37) C dX9_open_37 rfl (by decide) rfl ?_
      refine ws_aload_n (pc := 38) C dX9_open_38 rfl 1 rfl ?_
      refine ws_getr (pc := 39) C dX9_open_39 fd_X9_10 sf_BS_0 ?_
      refine ws_getr (pc := 42) C dX9_open_42 fd_X9_154 sf_town_6 ?_
      refine ws_iload_n (pc := 45) C dX9_open_45 rfl 2 rfl ?_
      obtain ⟨g13, h⟩ := gd_ok h
      refine ws_aaldK (q := (11 + a1.toNatClampNeg)) (pc := 46) C dX9_open_46 (by decide) sq_stops g13 rfl rfl ?_
      refine ws_iload_n (pc := 47) C dX9_open_47 rfl 3 rfl ?_
      refine ws_iconst (pc := 48) C dX9_open_48 ci_1 ?_
      refine ws_icmp_ne (pc := 49) (tgt := 56) C dX9_open_49 (by decide) (fun c14 => ?_) (fun c14 => ?_)
      · have h := ite_f h c14
        refine ws_iconst (pc := 56) C dX9_open_56 ci_0 ?_
        refine ws_less [0] rfl ?_
        exact pX9_open_J57 C R (inb_lt g13) h
      · have h := ite_t h c14
        refine ws_iconst (pc := 52) C dX9_open_52 ci_1 ?_
        refine ws_goto (pc := 53) (tgt := 57) C dX9_open_53 (by decide) ?_
        refine ws_less [0] rfl ?_
        exact pX9_open_J57 C R (inb_lt g13) h
    · have h := ite_t h c8
      refine ws_bipush (pc := 19) C dX9_open_19 cb_m2 ?_
      exact wr_i (pc := 21) C R dX9_open_21 rfl h
  · have h := ite_t h c4
    refine ws_iconst (pc := 8) C dX9_open_8 ci_m1 ?_
    exact wr_i (pc := 9) C R dX9_open_9 rfl h
set_option maxRecDepth 20000 in
set_option maxHeartbeats 4000000 in
theorem mX9_want {Y : xY} {Z : xZ} {a1 : Int32} {a2 : Int32} {s : xM} {z : Int32 × xM} (h : fX9_want a1 a2 s = some z) : xMi (GX Y) Z yX9_want cX9_want 4 3 .int [.ref (Y.1 0), .int a1, .int a2] s z := by
  refine xMi_of (by decide) (Nat.le_of_ble_eq_true rfl) (fun B C R => ?_)
  have C : xC (GX Y) Z B "BetweenStops" cX9_want 4 3 := C
  show xWS (GX Y) B 4 s [(0, .ref (Y.1 0)), (1, .int a1), (2, .int a2)] 0 []
  unfold fX9_want at h
  refine ws_aload_n (pc := 0) C dX9_want_0 rfl 0 rfl ?_
  refine ws_iload_n (pc := 1) C dX9_want_1 rfl 1 rfl ?_
  obtain ⟨r1, s2, q3, h⟩ := bd_ok h
  refine wc_iV (pc := 2)  C [.int a1] [] (mX9_isStop q3) dX9_want_2 mw_X9_isStop mv_X9_isStop kl_X9_164 so_BS rfl rfl (Nat.le_of_ble_eq_true rfl) ⟨by decide, by decide⟩ ?_
  refine ws_if_ne (pc := 5) (tgt := 10) C dX9_want_5 (by decide) (fun c4 => ?_) (fun c4 => ?_)
  · have h := ite_f h c4
    refine ws_iload_n (pc := 10) C dX9_want_10 rfl 2 rfl ?_
    refine ws_iconst (pc := 11) C dX9_want_11 ci_0 ?_
    refine ws_bipush (pc := 12) C dX9_want_12 cb_10 ?_
    obtain ⟨r5, s6, q7, h⟩ := bd_ok h
    refine wc_iS (pc := 14)  C [.int a2, .int (0 : Int32), .int (10 : Int32)] [] (mX9_isWithin q7) dX9_want_14 mw_X9_isWithin ks_X9_isWithin kl_X9_111 rfl rfl (Nat.le_of_ble_eq_true rfl) ⟨by decide, by decide⟩ ?_
    refine ws_if_ne (pc := 17) (tgt := 23) C dX9_want_17 (by decide) (fun c8 => ?_) (fun c8 => ?_)
    · have h := ite_f h c8
      refine ws_aload_n (pc := 23) C dX9_want_23 rfl 0 rfl ?_
      refine ws_getr (pc := 24) C dX9_want_24 fd_X9_10 sf_BS_0 ?_
      refine ws_getr (pc := 27) C dX9_want_27 fd_X9_154 sf_town_6 ?_
      refine ws_iload_n (pc := 30) C dX9_want_30 rfl 1 rfl ?_
      obtain ⟨g9, h⟩ := gd_ok h
      refine ws_aaldK (q := (11 + a1.toNatClampNeg)) (pc := 31) C dX9_want_31 (by decide) sq_stops g9 rfl rfl ?_
      refine ws_geti (pc := 32) C dX9_want_32 fd_X9_175 (sf_stop_6 (inb_lt g9)) ?_
      obtain ⟨v10, e11, h⟩ := lz_ok h
      refine ws_topi C e11 ?_
      refine ws_istore_n (pc := 35) C dX9_want_35 rfl (by decide) rfl ?_
      refine ws_aload_n (pc := 36) C dX9_want_36 rfl 1 rfl ?_
      refine ws_getr (pc := 37) C dX9_want_37 fd_X9_10 sf_BS_0 ?_
      refine ws_getr (pc := 40) C dX9_want_40 fd_X9_154 sf_town_6 ?_
      refine ws_iload_n (pc := 43) C dX9_want_43 rfl 2 rfl ?_
      obtain ⟨g12, h⟩ := gd_ok h
      refine ws_aaldK (q := (11 + a1.toNatClampNeg)) (pc := 44) C dX9_want_44 (by decide) sq_stops g12 rfl rfl ?_
      refine ws_iload_n (pc := 45) C dX9_want_45 rfl 3 rfl ?_
      obtain ⟨s13, e14, h⟩ := lz_ok h
      refine ws_putI (pc := 46) C dX9_want_46 fp_X9_175 (sf_stop_6 (inb_lt g12)) e14 ?_
      refine ws_iload_n (pc := 49) C dX9_want_49 rfl 0 rfl ?_
      exact wr_i (pc := 50) C R dX9_want_50 rfl h
    · have h := ite_t h c8
      refine ws_bipush (pc := 20) C dX9_want_20 cb_m2 ?_
      exact wr_i (pc := 22) C R dX9_want_22 rfl h
  · have h := ite_t h c4
    refine ws_iconst (pc := 8) C dX9_want_8 ci_m1 ?_
    exact wr_i (pc := 9) C R dX9_want_9 rfl h
set_option maxRecDepth 20000 in
set_option maxHeartbeats 4000000 in
theorem mX9_turns {Y : xY} {Z : xZ} {a1 : Int32} {a2 : Int32} {s : xM} {z : Int32 × xM} (h : fX9_turns a1 a2 s = some z) : xMi (GX Y) Z yX9_turns cX9_turns 4 3 .int [.ref (Y.1 0), .int a1, .int a2] s z := by
  refine xMi_of (by decide) (Nat.le_of_ble_eq_true rfl) (fun B C R => ?_)
  have C : xC (GX Y) Z B "BetweenStops" cX9_turns 4 3 := C
  show xWS (GX Y) B 4 s [(0, .ref (Y.1 0)), (1, .int a1), (2, .int a2)] 0 []
  unfold fX9_turns at h
  refine ws_aload_n (pc := 0) C dX9_turns_0 rfl 0 rfl ?_
  refine ws_iload_n (pc := 1) C dX9_turns_1 rfl 1 rfl ?_
  obtain ⟨r1, s2, q3, h⟩ := bd_ok h
  refine wc_iV (pc := 2)  C [.int a1] [] (mX9_isStop q3) dX9_turns_2 mw_X9_isStop mv_X9_isStop kl_X9_164 so_BS rfl rfl (Nat.le_of_ble_eq_true rfl) ⟨by decide, by decide⟩ ?_
  refine ws_if_ne (pc := 5) (tgt := 10) C dX9_turns_5 (by decide) (fun c4 => ?_) (fun c4 => ?_)
  · have h := ite_f h c4
    refine ws_iload_n (pc := 10) C dX9_turns_10 rfl 2 rfl ?_
    refine ws_iconst (pc := 11) C dX9_turns_11 ci_0 ?_
    refine ws_iconst (pc := 12) C dX9_turns_12 ci_2 ?_
    obtain ⟨r5, s6, q7, h⟩ := bd_ok h
    refine wc_iS (pc := 13)  C [.int a2, .int (0 : Int32), .int (2 : Int32)] [] (mX9_isWithin q7) dX9_turns_13 mw_X9_isWithin ks_X9_isWithin kl_X9_111 rfl rfl (Nat.le_of_ble_eq_true rfl) ⟨by decide, by decide⟩ ?_
    refine ws_if_ne (pc := 16) (tgt := 22) C dX9_turns_16 (by decide) (fun c8 => ?_) (fun c8 => ?_)
    · have h := ite_f h c8
      refine ws_aload_n (pc := 22) C dX9_turns_22 rfl 0 rfl ?_
      refine ws_getr (pc := 23) C dX9_turns_23 fd_X9_10 sf_BS_0 ?_
      refine ws_getr (pc := 26) C dX9_turns_26 fd_X9_154 sf_town_6 ?_
      refine ws_iload_n (pc := 29) C dX9_turns_29 rfl 1 rfl ?_
      obtain ⟨g9, h⟩ := gd_ok h
      refine ws_aaldK (q := (11 + a1.toNatClampNeg)) (pc := 30) C dX9_turns_30 (by decide) sq_stops g9 rfl rfl ?_
      refine ws_geti (pc := 31) C dX9_turns_31 fd_X9_178 (sf_stop_7 (inb_lt g9)) ?_
      obtain ⟨v10, e11, h⟩ := lz_ok h
      refine ws_topi C e11 ?_
      refine ws_istore_n (pc := 34) C dX9_turns_34 rfl (by decide) rfl ?_
      refine ws_aload_n (pc := 35) C dX9_turns_35 rfl 1 rfl ?_
      refine ws_getr (pc := 36) C dX9_turns_36 fd_X9_10 sf_BS_0 ?_
      refine ws_getr (pc := 39) C dX9_turns_39 fd_X9_154 sf_town_6 ?_
      refine ws_iload_n (pc := 42) C dX9_turns_42 rfl 2 rfl ?_
      obtain ⟨g12, h⟩ := gd_ok h
      refine ws_aaldK (q := (11 + a1.toNatClampNeg)) (pc := 43) C dX9_turns_43 (by decide) sq_stops g12 rfl rfl ?_
      refine ws_iload_n (pc := 44) C dX9_turns_44 rfl 3 rfl ?_
      obtain ⟨s13, e14, h⟩ := lz_ok h
      refine ws_putI (pc := 45) C dX9_turns_45 fp_X9_178 (sf_stop_7 (inb_lt g12)) e14 ?_
      refine ws_iload_n (pc := 48) C dX9_turns_48 rfl 0 rfl ?_
      exact wr_i (pc := 49) C R dX9_turns_49 rfl h
    · have h := ite_t h c8
      refine ws_bipush (pc := 19) C dX9_turns_19 cb_m2 ?_
      exact wr_i (pc := 21) C R dX9_turns_21 rfl h
  · have h := ite_t h c4
    refine ws_iconst (pc := 8) C dX9_turns_8 ci_m1 ?_
    exact wr_i (pc := 9) C R dX9_turns_9 rfl h
set_option maxRecDepth 20000 in
set_option maxHeartbeats 4000000 in
theorem mX9_told {Y : xY} {Z : xZ} {a1 : Int32} {a2 : Int32} {s : xM} {z : Int32 × xM} (h : fX9_told a1 a2 s = some z) : xMi (GX Y) Z yX9_told cX9_told 4 4 .int [.ref (Y.1 0), .int a1, .int a2] s z := by
  refine xMi_of (by decide) (Nat.le_of_ble_eq_true rfl) (fun B C R => ?_)
  have C : xC (GX Y) Z B "BetweenStops" cX9_told 4 4 := C
  show xWS (GX Y) B 4 s [(0, .ref (Y.1 0)), (1, .int a1), (2, .int a2)] 0 []
  unfold fX9_told at h
  refine ws_aload_n (pc := 0) C dX9_told_0 rfl 0 rfl ?_
  refine ws_iload_n (pc := 1) C dX9_told_1 rfl 1 rfl ?_
  obtain ⟨r1, s2, q3, h⟩ := bd_ok h
  refine wc_iV (pc := 2)  C [.int a1] [] (mX9_isStop q3) dX9_told_2 mw_X9_isStop mv_X9_isStop kl_X9_164 so_BS rfl rfl (Nat.le_of_ble_eq_true rfl) ⟨by decide, by decide⟩ ?_
  refine ws_if_ne (pc := 5) (tgt := 11) C dX9_told_5 (by decide) (fun c4 => ?_) (fun c4 => ?_)
  · have h := ite_f h c4
    refine ws_aload_n (pc := 11) C dX9_told_11 rfl 0 rfl ?_
    refine ws_getr (pc := 12) C dX9_told_12 fd_X9_10 sf_BS_0 ?_
    refine ws_getr (pc := 15) C dX9_told_15 fd_X9_154 sf_town_6 ?_
    refine ws_iload_n (pc := 18) C dX9_told_18 rfl 1 rfl ?_
    obtain ⟨g5, h⟩ := gd_ok h
    refine ws_aaldK (q := (11 + a1.toNatClampNeg)) (pc := 19) C dX9_told_19 (by decide) sq_stops g5 rfl rfl ?_
    refine ws_astore_n (pc := 20) C dX9_told_20 rfl (by decide) rfl ?_
    refine ws_iload_n (pc := 21) C dX9_told_21 rfl 3 rfl ?_
    by_cases c6 : a2 = (0 : Int32)
    · have h := ite_t h c6
      refine ws_tab (pc := 22) (off := 42) (tgt := 64) C c6 dX9_told_22 (by decide) (by decide) (by decide) (by decide) ?_
      refine ws_aload_n (pc := 64) C dX9_told_64 rfl 0 rfl ?_
      refine ws_geti (pc := 65) C dX9_told_65 fd_X9_181 (sf_stop_0 (inb_lt g5)) ?_
      exact wr_i (pc := 68) C R dX9_told_68 rfl h
    replace h := ite_f h c6
    by_cases c7 : a2 = (1 : Int32)
    · have h := ite_t h c7
      refine ws_tab (pc := 22) (off := 47) (tgt := 69) C c7 dX9_told_22 (by decide) (by decide) (by decide) (by decide) ?_
      refine ws_aload_n (pc := 69) C dX9_told_69 rfl 0 rfl ?_
      refine ws_geti (pc := 70) C dX9_told_70 fd_X9_184 (sf_stop_2 (inb_lt g5)) ?_
      exact wr_i (pc := 73) C R dX9_told_73 rfl h
    replace h := ite_f h c7
    by_cases c8 : a2 = (2 : Int32)
    · have h := ite_t h c8
      refine ws_tab (pc := 22) (off := 52) (tgt := 74) C c8 dX9_told_22 (by decide) (by decide) (by decide) (by decide) ?_
      refine ws_aload_n (pc := 74) C dX9_told_74 rfl 0 rfl ?_
      refine ws_aload_n (pc := 75) C dX9_told_75 rfl 0 rfl ?_
      refine ws_geti (pc := 76) C dX9_told_76 fd_X9_175 (sf_stop_6 (inb_lt g5)) ?_
      obtain ⟨r9, s10, q11, h⟩ := bd_ok h
      refine wc_iV (pc := 79)  C [.int (gi s2 (11 + a1.toNatClampNeg) 6)] [] (mX3_secondsIf (inb_lt g5) q11) dX9_told_79 mw_X3_secondsIf mv_X3_secondsIf kl_X9_187 (so_stop (inb_lt g5)) rfl rfl (Nat.le_of_ble_eq_true rfl) ⟨by decide, by decide⟩ ?_
      exact wr_i (pc := 82) C R dX9_told_82 rfl h
    replace h := ite_f h c8
    by_cases c12 : a2 = (3 : Int32)
    · have h := ite_t h c12
      refine ws_tab (pc := 22) (off := 61) (tgt := 83) C c12 dX9_told_22 (by decide) (by decide) (by decide) (by decide) ?_
      refine ws_aload_n (pc := 83) C dX9_told_83 rfl 0 rfl ?_
      refine ws_geti (pc := 84) C dX9_told_84 fd_X9_167 (sf_stop_5 (inb_lt g5)) ?_
      obtain ⟨r13, s14, q15, h⟩ := bd_ok h
      refine wc_iS (pc := 87)  C [.int (gi s2 (11 + a1.toNatClampNeg) 5)] [] (mX9_asNumber q15) dX9_told_87 mw_X9_asNumber ks_X9_asNumber kl_X9_171 rfl rfl (Nat.le_of_ble_eq_true rfl) ⟨by decide, by decide⟩ ?_
      exact wr_i (pc := 90) C R dX9_told_90 rfl h
    replace h := ite_f h c12
    by_cases c16 : a2 = (4 : Int32)
    · have h := ite_t h c16
      refine ws_tab (pc := 22) (off := 69) (tgt := 91) C c16 dX9_told_22 (by decide) (by decide) (by decide) (by decide) ?_
      refine ws_aload_n (pc := 91) C dX9_told_91 rfl 0 rfl ?_
      refine ws_geti (pc := 92) C dX9_told_92 fd_X9_175 (sf_stop_6 (inb_lt g5)) ?_
      exact wr_i (pc := 95) C R dX9_told_95 rfl h
    replace h := ite_f h c16
    by_cases c17 : a2 = (5 : Int32)
    · have h := ite_t h c17
      refine ws_tab (pc := 22) (off := 74) (tgt := 96) C c17 dX9_told_22 (by decide) (by decide) (by decide) (by decide) ?_
      refine ws_aload_n (pc := 96) C dX9_told_96 rfl 0 rfl ?_
      refine ws_aload_n (pc := 97) C dX9_told_97 rfl 0 rfl ?_
      refine ws_geti (pc := 98) C dX9_told_98 fd_X9_178 (sf_stop_7 (inb_lt g5)) ?_
      obtain ⟨r18, s19, q20, h⟩ := bd_ok h
      refine wc_iV (pc := 101)  C [.int (gi s2 (11 + a1.toNatClampNeg) 7)] [] (mX3_carsBy (inb_lt g5) q20) dX9_told_101 mw_X3_carsBy mv_X3_carsBy kl_X9_191 (so_stop (inb_lt g5)) rfl rfl (Nat.le_of_ble_eq_true rfl) ⟨by decide, by decide⟩ ?_
      exact wr_i (pc := 104) C R dX9_told_104 rfl h
    replace h := ite_f h c17
    by_cases c21 : a2 = (6 : Int32)
    · have h := ite_t h c21
      refine ws_tab (pc := 22) (off := 83) (tgt := 105) C c21 dX9_told_22 (by decide) (by decide) (by decide) (by decide) ?_
      refine ws_aload_n (pc := 105) C dX9_told_105 rfl 0 rfl ?_
      refine ws_iconst (pc := 106) C dX9_told_106 ci_1 ?_
      obtain ⟨r22, s23, q24, h⟩ := bd_ok h
      refine wc_iV (pc := 107)  C [.int (1 : Int32)] [] (mX3_isOf (inb_lt g5) q24) dX9_told_107 mw_X3_isOf mv_X3_isOf kl_X9_194 (so_stop (inb_lt g5)) rfl rfl (Nat.le_of_ble_eq_true rfl) ⟨by decide, by decide⟩ ?_
      obtain ⟨r25, s26, q27, h⟩ := bd_ok h
      refine wc_iS (pc := 110)  C [.int r22] [] (mX9_asNumber q27) dX9_told_110 mw_X9_asNumber ks_X9_asNumber kl_X9_171 rfl rfl (Nat.le_of_ble_eq_true rfl) ⟨by decide, by decide⟩ ?_
      exact wr_i (pc := 113) C R dX9_told_113 rfl h
    replace h := ite_f h c21
    have ec6 : ¬ (0 : Int) = (a2).toInt := fun q => lv_neT c6 (show (0 : Int32).toInt = 0 by decide) q.symm
    have ec7 : ¬ (1 : Int) = (a2).toInt := fun q => lv_neT c7 (show (1 : Int32).toInt = 1 by decide) q.symm
    have ec8 : ¬ (2 : Int) = (a2).toInt := fun q => lv_neT c8 (show (2 : Int32).toInt = 2 by decide) q.symm
    have ec12 : ¬ (3 : Int) = (a2).toInt := fun q => lv_neT c12 (show (3 : Int32).toInt = 3 by decide) q.symm
    have ec16 : ¬ (4 : Int) = (a2).toInt := fun q => lv_neT c16 (show (4 : Int32).toInt = 4 by decide) q.symm
    have ec17 : ¬ (5 : Int) = (a2).toInt := fun q => lv_neT c17 (show (5 : Int32).toInt = 5 by decide) q.symm
    have ec21 : ¬ (6 : Int) = (a2).toInt := fun q => lv_neT c21 (show (6 : Int32).toInt = 6 by decide) q.symm
    refine ws_tableOut (pc := 22) (tgt := 114) C dX9_told_22 (by omega) (by decide) ?_
    refine ws_bipush (pc := 114) C dX9_told_114 cb_m7 ?_
    exact wr_i (pc := 116) C R dX9_told_116 rfl h
  · have h := ite_t h c4
    refine ws_bipush (pc := 8) C dX9_told_8 cb_m5 ?_
    exact wr_i (pc := 10) C R dX9_told_10 rfl h
set_option maxRecDepth 20000 in
set_option maxHeartbeats 4000000 in
theorem mX9_trip {Y : xY} {Z : xZ} {a1 : Int32} {a2 : Int32} {a3 : Int32} {a4 : Int32} {s : xM} {z : Int32 × xM} (h : fX9_trip a1 a2 a3 a4 s = some z) : xMi (GX Y) Z yX9_trip cX9_trip 5 3 .int [.ref (Y.1 0), .int a1, .int a2, .int a3, .int a4] s z := by
  refine xMi_of (by decide) (Nat.le_of_ble_eq_true rfl) (fun B C R => ?_)
  have C : xC (GX Y) Z B "BetweenStops" cX9_trip 5 3 := C
  show xWS (GX Y) B 5 s [(0, .ref (Y.1 0)), (1, .int a1), (2, .int a2), (3, .int a3), (4, .int a4)] 0 []
  unfold fX9_trip at h
  refine ws_iload_n (pc := 0) C dX9_trip_0 rfl 1 rfl ?_
  obtain ⟨r1, s2, q3, h⟩ := bd_ok h
  refine wc_iS (pc := 1)  C [.int a1] [] (mX9_isCell q3) dX9_trip_1 mw_X9_isCell ks_X9_isCell kl_X9_141 rfl rfl (Nat.le_of_ble_eq_true rfl) ⟨by decide, by decide⟩ ?_
  refine ws_if_eq (pc := 4) (tgt := 32) C dX9_trip_4 (by decide) (fun c4 => ?_) (fun c4 => ?_)
  · have h := ite_t h c4
    refine ws_bipush (pc := 32) C dX9_trip_32 cb_m2 ?_
    exact wr_i (pc := 34) C R dX9_trip_34 rfl h
  · have h := ite_f h c4
    refine ws_iload_n (pc := 7) C dX9_trip_7 rfl 2 rfl ?_
    obtain ⟨r5, s6, q7, h⟩ := bd_ok h
    refine wc_iS (pc := 8)  C [.int a2] [] (mX9_isCell q7) dX9_trip_8 mw_X9_isCell ks_X9_isCell kl_X9_141 rfl rfl (Nat.le_of_ble_eq_true rfl) ⟨by decide, by decide⟩ ?_
    refine ws_if_eq (pc := 11) (tgt := 32) C dX9_trip_11 (by decide) (fun c8 => ?_) (fun c8 => ?_)
    · have h := ite_t h c8
      refine ws_bipush (pc := 32) C dX9_trip_32 cb_m2 ?_
      exact wr_i (pc := 34) C R dX9_trip_34 rfl h
    · have h := ite_f h c8
      refine ws_iload_n (pc := 14) C dX9_trip_14 rfl 3 rfl ?_
      refine ws_iconst (pc := 15) C dX9_trip_15 ci_1 ?_
      refine ws_bipush (pc := 16) C dX9_trip_16 cb_99 ?_
      obtain ⟨r9, s10, q11, h⟩ := bd_ok h
      refine wc_iS (pc := 18)  C [.int a3, .int (1 : Int32), .int (99 : Int32)] [] (mX9_isWithin q11) dX9_trip_18 mw_X9_isWithin ks_X9_isWithin kl_X9_111 rfl rfl (Nat.le_of_ble_eq_true rfl) ⟨by decide, by decide⟩ ?_
      refine ws_if_eq (pc := 21) (tgt := 32) C dX9_trip_21 (by decide) (fun c12 => ?_) (fun c12 => ?_)
      · have h := ite_t h c12
        refine ws_bipush (pc := 32) C dX9_trip_32 cb_m2 ?_
        exact wr_i (pc := 34) C R dX9_trip_34 rfl h
      · have h := ite_f h c12
        refine ws_iload (pc := 24) C dX9_trip_24 4 rfl ?_
        obtain ⟨r13, s14, q15, h⟩ := bd_ok h
        refine wc_iS (pc := 26)  C [.int a4] [] (mX9_isSort q15) dX9_trip_26 mw_X9_isSort ks_X9_isSort kl_X9_121 rfl rfl (Nat.le_of_ble_eq_true rfl) ⟨by decide, by decide⟩ ?_
        refine ws_if_ne (pc := 29) (tgt := 35) C dX9_trip_29 (by decide) (fun c16 => ?_) (fun c16 => ?_)
        · have h := ite_f h c16
          refine ws_aload_n (pc := 35) C dX9_trip_35 rfl 0 rfl ?_
          refine ws_getr (pc := 36) C dX9_trip_36 fd_X9_10 sf_BS_0 ?_
          refine ws_geti (pc := 39) C dX9_trip_39 fd_X9_197 sf_town_9 ?_
          refine ws_bipush (pc := 42) C dX9_trip_42 cb_8 ?_
          refine ws_icmp_lt (pc := 44) (tgt := 50) C dX9_trip_44 (by decide) (fun c17 => ?_) (fun c17 => ?_)
          · have h := ite_t h c17
            refine ws_aload_n (pc := 50) C dX9_trip_50 rfl 0 rfl ?_
            refine ws_getr (pc := 51) C dX9_trip_51 fd_X9_10 sf_BS_0 ?_
            refine ws_getr (pc := 54) C dX9_trip_54 fd_X9_200 sf_town_8 ?_
            refine ws_aload_n (pc := 57) C dX9_trip_57 rfl 0 rfl ?_
            refine ws_getr (pc := 58) C dX9_trip_58 fd_X9_10 sf_BS_0 ?_
            refine ws_geti (pc := 61) C dX9_trip_61 fd_X9_197 sf_town_9 ?_
            obtain ⟨g18, h⟩ := gd_ok h
            refine ws_aaldK (q := (19 + (gi s14 1 9).toNatClampNeg)) (pc := 64) C dX9_trip_64 (by decide) sq_trips g18 rfl rfl ?_
            refine ws_iload_n (pc := 65) C dX9_trip_65 rfl 1 rfl ?_
            refine ws_iload_n (pc := 66) C dX9_trip_66 rfl 2 rfl ?_
            refine ws_iload_n (pc := 67) C dX9_trip_67 rfl 3 rfl ?_
            refine ws_iload (pc := 68) C dX9_trip_68 4 rfl ?_
            obtain ⟨r19, s20, q21, h⟩ := bd_ok h
            refine wc_vV (pc := 70)  C [.int a1, .int a2, .int a3, .int a4] [] (mX7_begin (inb_lt g18) q21) dX9_trip_70 mw_X7_begin mv_X7_begin kl_X9_204 (so_trip (inb_lt g18)) rfl rfl (Nat.le_of_ble_eq_true rfl) ⟨by decide, by decide⟩ ?_
            refine ws_aload_n (pc := 73) C dX9_trip_73 rfl 0 rfl ?_
            refine ws_getr (pc := 74) C dX9_trip_74 fd_X9_10 sf_BS_0 ?_
            refine ws_dup (pc := 77) C dX9_trip_77 rfl ?_
            refine ws_geti (pc := 78) C dX9_trip_78 fd_X9_197 sf_town_9 ?_
            refine ws_iconst (pc := 81) C dX9_trip_81 ci_1 ?_
            refine ws_iadd (pc := 82) C dX9_trip_82 ?_
            obtain ⟨s22, e23, h⟩ := lz_ok h
            refine ws_putI (pc := 83) C dX9_trip_83 fp_X9_197 sf_town_9 e23 ?_
            refine ws_aload_n (pc := 86) C dX9_trip_86 rfl 0 rfl ?_
            refine ws_getr (pc := 87) C dX9_trip_87 fd_X9_10 sf_BS_0 ?_
            refine ws_geti (pc := 90) C dX9_trip_90 fd_X9_197 sf_town_9 ?_
            refine ws_iconst (pc := 93) C dX9_trip_93 ci_1 ?_
            refine ws_isub (pc := 94) C dX9_trip_94 ?_
            exact wr_i (pc := 95) C R dX9_trip_95 rfl h
          · have h := ite_f h c17
            refine ws_bipush (pc := 47) C dX9_trip_47 cb_m4 ?_
            exact wr_i (pc := 49) C R dX9_trip_49 rfl h
        · have h := ite_t h c16
          refine ws_bipush (pc := 32) C dX9_trip_32 cb_m2 ?_
          exact wr_i (pc := 34) C R dX9_trip_34 rfl h
set_option maxRecDepth 20000 in
set_option maxHeartbeats 4000000 in
theorem mJ6_bitCount_0f7a4 {Y : xY} {Z : xZ} {a0 : Int32} {s : xM} {z : Int32 × xM} (h : fJ6_bitCount_0f7a4 a0 s = some z) : xMi (GX Y) Z yJ6_bitCount_0f7a4 cJ6_bitCount_0f7a4 1 1 .int [.int a0] s z := by
  refine xMi_of (by decide) (Nat.le_of_ble_eq_true rfl) (fun B C R => ?_)
  have C : xC (GX Y) Z B "java/lang/Integer" cJ6_bitCount_0f7a4 1 1 := C
  show xWS (GX Y) B 1 s [(0, .int a0)] 0 []
  unfold fJ6_bitCount_0f7a4 at h
  refine ws_iload_n (pc := 0) C dJ6_bitCount_0f7a4_0 rfl 0 rfl ?_
  refine ws_iload_n (pc := 1) C dJ6_bitCount_0f7a4_1 rfl 0 rfl ?_
  refine ws_iconst (pc := 2) C dJ6_bitCount_0f7a4_2 ci_1 ?_
  refine ws_iushr (pc := 3) C dJ6_bitCount_0f7a4_3 ?_
  refine ws_ldcw (pc := 4) C dJ6_bitCount_0f7a4_4 kk_J6_265 ?_
  refine ws_iand (pc := 7) C dJ6_bitCount_0f7a4_7 ?_
  refine ws_isub (pc := 8) C dJ6_bitCount_0f7a4_8 ?_
  obtain ⟨v1, e2, h⟩ := lz_ok h
  refine ws_topi C e2 ?_
  refine ws_istore_n (pc := 9) C dJ6_bitCount_0f7a4_9 rfl (by decide) rfl ?_
  refine ws_iload_n (pc := 10) C dJ6_bitCount_0f7a4_10 rfl 0 rfl ?_
  refine ws_ldcw (pc := 11) C dJ6_bitCount_0f7a4_11 kk_J6_266 ?_
  refine ws_iand (pc := 14) C dJ6_bitCount_0f7a4_14 ?_
  refine ws_iload_n (pc := 15) C dJ6_bitCount_0f7a4_15 rfl 0 rfl ?_
  refine ws_iconst (pc := 16) C dJ6_bitCount_0f7a4_16 ci_2 ?_
  refine ws_iushr (pc := 17) C dJ6_bitCount_0f7a4_17 ?_
  refine ws_ldcw (pc := 18) C dJ6_bitCount_0f7a4_18 kk_J6_266 ?_
  refine ws_iand (pc := 21) C dJ6_bitCount_0f7a4_21 ?_
  refine ws_iadd (pc := 22) C dJ6_bitCount_0f7a4_22 ?_
  obtain ⟨v3, e4, h⟩ := lz_ok h
  refine ws_topi C e4 ?_
  refine ws_istore_n (pc := 23) C dJ6_bitCount_0f7a4_23 rfl (by decide) rfl ?_
  refine ws_iload_n (pc := 24) C dJ6_bitCount_0f7a4_24 rfl 0 rfl ?_
  refine ws_iload_n (pc := 25) C dJ6_bitCount_0f7a4_25 rfl 0 rfl ?_
  refine ws_iconst (pc := 26) C dJ6_bitCount_0f7a4_26 ci_4 ?_
  refine ws_iushr (pc := 27) C dJ6_bitCount_0f7a4_27 ?_
  refine ws_iadd (pc := 28) C dJ6_bitCount_0f7a4_28 ?_
  refine ws_ldcw (pc := 29) C dJ6_bitCount_0f7a4_29 kk_J6_267 ?_
  refine ws_iand (pc := 32) C dJ6_bitCount_0f7a4_32 ?_
  obtain ⟨v5, e6, h⟩ := lz_ok h
  refine ws_topi C e6 ?_
  refine ws_istore_n (pc := 33) C dJ6_bitCount_0f7a4_33 rfl (by decide) rfl ?_
  refine ws_iload_n (pc := 34) C dJ6_bitCount_0f7a4_34 rfl 0 rfl ?_
  refine ws_iload_n (pc := 35) C dJ6_bitCount_0f7a4_35 rfl 0 rfl ?_
  refine ws_bipush (pc := 36) C dJ6_bitCount_0f7a4_36 cb_8 ?_
  refine ws_iushr (pc := 38) C dJ6_bitCount_0f7a4_38 ?_
  refine ws_iadd (pc := 39) C dJ6_bitCount_0f7a4_39 ?_
  obtain ⟨v7, e8, h⟩ := lz_ok h
  refine ws_topi C e8 ?_
  refine ws_istore_n (pc := 40) C dJ6_bitCount_0f7a4_40 rfl (by decide) rfl ?_
  refine ws_iload_n (pc := 41) C dJ6_bitCount_0f7a4_41 rfl 0 rfl ?_
  refine ws_iload_n (pc := 42) C dJ6_bitCount_0f7a4_42 rfl 0 rfl ?_
  refine ws_bipush (pc := 43) C dJ6_bitCount_0f7a4_43 cb_16 ?_
  refine ws_iushr (pc := 45) C dJ6_bitCount_0f7a4_45 ?_
  refine ws_iadd (pc := 46) C dJ6_bitCount_0f7a4_46 ?_
  obtain ⟨v9, e10, h⟩ := lz_ok h
  refine ws_topi C e10 ?_
  refine ws_istore_n (pc := 47) C dJ6_bitCount_0f7a4_47 rfl (by decide) rfl ?_
  refine ws_iload_n (pc := 48) C dJ6_bitCount_0f7a4_48 rfl 0 rfl ?_
  refine ws_bipush (pc := 49) C dJ6_bitCount_0f7a4_49 cb_63 ?_
  refine ws_iand (pc := 51) C dJ6_bitCount_0f7a4_51 ?_
  exact wr_i (pc := 52) C R dJ6_bitCount_0f7a4_52 rfl h
