set_option maxRecDepth 20000 in
set_option maxHeartbeats 4000000 in
theorem pX0_keep_L27 {Y : xY} {Z : xZ} {B : xB} {z : Int32 × xM} (C : xC (GX Y) Z B "BetweenStops$Image" cX0_keep 4 1) (R : xRv (GX Y) B z) {k57 : xM → Option (Int32 × xM)}
    (hk57 : ∀  (s : xM), k57 s = some z → xWS (GX Y) B 4 s [(0, .ref (Y.1 81)), (1, .ref (Y.1 1))] 57 []) : ∀ (n : Nat) (a3 : Int32) (s : xM), fX0_keep_L27 k57 n a3 s = some z → xWS (GX Y) B 4 s [(0, .ref (Y.1 81)), (1, .ref (Y.1 1)), (3, .int a3)] 27 [] := by
  intro n
  induction n with
  | zero =>
    intro a3 s h
    rw [fX0_keep_L27] at h
    cases h
  | succ n ih =>
    intro a3 s h
    rw [fX0_keep_L27] at h
    refine ws_iload_n (pc := 27) C dX0_keep_27 rfl 2 rfl ?_
    refine ws_iconst (pc := 28) C dX0_keep_28 ci_3 ?_
    refine ws_icmp_ge (pc := 29) (tgt := 57) C dX0_keep_29 (by decide) (fun c1 => ?_) (fun c1 => ?_)
    · have h := ite_t h c1
      refine ws_less [0, 1] rfl ?_
      exact hk57 _ h
    · have h := ite_f h c1
      refine ws_aload_n (pc := 32) C dX0_keep_32 rfl 1 rfl ?_
      refine ws_getr (pc := 33) C dX0_keep_33 fd_X0_47 sf_town_3 ?_
      refine ws_iload_n (pc := 36) C dX0_keep_36 rfl 2 rfl ?_
      obtain ⟨g2, h⟩ := gd_ok h
      refine ws_aaldK (q := (6 + a3.toNatClampNeg)) (pc := 37) C dX0_keep_37 (by decide) sq_sorts g2 rfl rfl ?_
      refine ws_iconst (pc := 38) C dX0_keep_38 ci_0 ?_
      refine ws_aload_n (pc := 39) C dX0_keep_39 rfl 0 rfl ?_
      refine ws_getr (pc := 40) C dX0_keep_40 fd_X0_21 sf_kept_3 ?_
      refine ws_iload_n (pc := 43) C dX0_keep_43 rfl 2 rfl ?_
      obtain ⟨g3, h⟩ := gd_ok h
      refine ws_aaldK (q := (84 + a3.toNatClampNeg)) (pc := 44) C dX0_keep_44 (by decide) sq_k_sorts g3 rfl rfl ?_
      refine ws_iconst (pc := 45) C dX0_keep_45 ci_0 ?_
      refine ws_bipush (pc := 46) C dX0_keep_46 cb_6 ?_
      obtain ⟨g4, h⟩ := gd_ok h
      obtain ⟨s5, e6, h⟩ := lz_ok h
      refine ws_copyK (pc := 48) C dX0_keep_48 ac_X0_41 (sr_sortrow (inb_lt g2)) (sr_ksortR (inb_lt g3)) g4 (Nat.le_of_ble_eq_true rfl) (by decide) e6 ?_
      refine ws_iinc (j := 2) (pc := 51) C dX0_keep_51 rfl (cn_1 _) (by decide) rfl ?_
      refine ws_goto (pc := 54) (tgt := 27) C dX0_keep_54 (by decide) ?_
      refine ws_less [1, 2, 0] rfl ?_
      exact ih _ _ h
set_option maxRecDepth 20000 in
set_option maxHeartbeats 4000000 in
theorem pX0_keep_L83 {Y : xY} {Z : xZ} {B : xB} {z : Int32 × xM} (C : xC (GX Y) Z B "BetweenStops$Image" cX0_keep 4 1) (R : xRv (GX Y) B z) {k142 : xM → Option (Int32 × xM)}
    (hk142 : ∀  (s : xM), k142 s = some z → xWS (GX Y) B 4 s [(0, .ref (Y.1 81)), (1, .ref (Y.1 1))] 142 []) : ∀ (n : Nat) (a3 : Int32) (s : xM), fX0_keep_L83 k142 n a3 s = some z → xWS (GX Y) B 4 s [(0, .ref (Y.1 81)), (1, .ref (Y.1 1)), (3, .int a3)] 83 [] := by
  intro n
  induction n with
  | zero =>
    intro a3 s h
    rw [fX0_keep_L83] at h
    cases h
  | succ n ih =>
    intro a3 s h
    rw [fX0_keep_L83] at h
    refine ws_iload_n (pc := 83) C dX0_keep_83 rfl 2 rfl ?_
    refine ws_aload_n (pc := 84) C dX0_keep_84 rfl 0 rfl ?_
    refine ws_geti (pc := 85) C dX0_keep_85 fd_X0_59 sf_kept_6 ?_
    refine ws_icmp_ge (pc := 88) (tgt := 142) C dX0_keep_88 (by decide) (fun c1 => ?_) (fun c1 => ?_)
    · have h := ite_t h c1
      refine ws_less [0, 1] rfl ?_
      exact hk142 _ h
    · have h := ite_f h c1
      refine ws_aload_n (pc := 91) C dX0_keep_91 rfl 0 rfl ?_
      refine ws_getr (pc := 92) C dX0_keep_92 fd_X0_24 sf_kept_7 ?_
      refine ws_iload_n (pc := 95) C dX0_keep_95 rfl 2 rfl ?_
      refine ws_aload_n (pc := 96) C dX0_keep_96 rfl 1 rfl ?_
      refine ws_getr (pc := 97) C dX0_keep_97 fd_X0_60 sf_town_6 ?_
      refine ws_iload_n (pc := 100) C dX0_keep_100 rfl 2 rfl ?_
      obtain ⟨g2, h⟩ := gd_ok h
      refine ws_aaldK (q := (11 + a3.toNatClampNeg)) (pc := 101) C dX0_keep_101 (by decide) sq_stops g2 rfl rfl ?_
      refine ws_geti (pc := 102) C dX0_keep_102 fd_X0_64 (sf_stop_5 (inb_lt g2)) ?_
      obtain ⟨g3, h⟩ := gd_ok h
      obtain ⟨s4, e5, h⟩ := lz_ok h
      refine ws_zastK (pc := 105) C dX0_keep_105 sr_k_isOpen g3 rfl e5 ?_
      refine ws_aload_n (pc := 106) C dX0_keep_106 rfl 0 rfl ?_
      refine ws_getr (pc := 107) C dX0_keep_107 fd_X0_28 sf_kept_8 ?_
      refine ws_iload_n (pc := 110) C dX0_keep_110 rfl 2 rfl ?_
      refine ws_aload_n (pc := 111) C dX0_keep_111 rfl 1 rfl ?_
      refine ws_getr (pc := 112) C dX0_keep_112 fd_X0_60 sf_town_6 ?_
      refine ws_iload_n (pc := 115) C dX0_keep_115 rfl 2 rfl ?_
      obtain ⟨g6, h⟩ := gd_ok h
      refine ws_aaldK (q := (11 + a3.toNatClampNeg)) (pc := 116) C dX0_keep_116 (by decide) sq_stops g6 rfl rfl ?_
      refine ws_geti (pc := 117) C dX0_keep_117 fd_X0_68 (sf_stop_6 (inb_lt g6)) ?_
      obtain ⟨g7, h⟩ := gd_ok h
      obtain ⟨s8, e9, h⟩ := lz_ok h
      refine ws_iastK (pc := 120) C dX0_keep_120 sr_k_wanted g7 rfl e9 ?_
      refine ws_aload_n (pc := 121) C dX0_keep_121 rfl 0 rfl ?_
      refine ws_getr (pc := 122) C dX0_keep_122 fd_X0_31 sf_kept_9 ?_
      refine ws_iload_n (pc := 125) C dX0_keep_125 rfl 2 rfl ?_
      refine ws_aload_n (pc := 126) C dX0_keep_126 rfl 1 rfl ?_
      refine ws_getr (pc := 127) C dX0_keep_127 fd_X0_60 sf_town_6 ?_
      refine ws_iload_n (pc := 130) C dX0_keep_130 rfl 2 rfl ?_
      obtain ⟨g10, h⟩ := gd_ok h
      refine ws_aaldK (q := (11 + a3.toNatClampNeg)) (pc := 131) C dX0_keep_131 (by decide) sq_stops g10 rfl rfl ?_
      refine ws_geti (pc := 132) C dX0_keep_132 fd_X0_70 (sf_stop_7 (inb_lt g10)) ?_
      obtain ⟨g11, h⟩ := gd_ok h
      obtain ⟨s12, e13, h⟩ := lz_ok h
      refine ws_iastK (pc := 135) C dX0_keep_135 sr_k_patterns g11 rfl e13 ?_
      refine ws_iinc (j := 2) (pc := 136) C dX0_keep_136 rfl (cn_1 _) (by decide) rfl ?_
      refine ws_goto (pc := 139) (tgt := 83) C dX0_keep_139 (by decide) ?_
      refine ws_less [1, 2, 0] rfl ?_
      exact ih _ _ h
set_option maxRecDepth 20000 in
set_option maxHeartbeats 4000000 in
theorem mX0_keep {Y : xY} {Z : xZ} {a2 : Int32} {s : xM} {z : Int32 × xM} (h : fX0_keep a2 s = some z) : xMv (GX Y) Z yX0_keep cX0_keep 4 1 [.ref (Y.1 81), .ref (Y.1 1), .int a2] s z := by
  refine xMv_of (by decide) (Nat.le_of_ble_eq_true rfl) (fun B C R => ?_)
  have C : xC (GX Y) Z B "BetweenStops$Image" cX0_keep 4 1 := C
  show xWS (GX Y) B 4 s [(0, .ref (Y.1 81)), (1, .ref (Y.1 1)), (2, .int a2)] 0 []
  unfold fX0_keep at h
  refine ws_aload_n (pc := 0) C dX0_keep_0 rfl 0 rfl ?_
  refine ws_iconst (pc := 1) C dX0_keep_1 ci_1 ?_
  obtain ⟨s1, e2, h⟩ := lz_ok h
  refine ws_putZ (pc := 2) C dX0_keep_2 fp_X0_9 sf_kept_0 isZ1 e2 ?_
  refine ws_aload_n (pc := 5) C dX0_keep_5 rfl 0 rfl ?_
  refine ws_iload_n (pc := 6) C dX0_keep_6 rfl 2 rfl ?_
  obtain ⟨s3, e4, h⟩ := lz_ok h
  refine ws_putI (pc := 7) C dX0_keep_7 fp_X0_34 sf_kept_1 e4 ?_
  refine ws_aload_n (pc := 10) C dX0_keep_10 rfl 1 rfl ?_
  refine ws_getr (pc := 11) C dX0_keep_11 fd_X0_38 sf_town_0 ?_
  refine ws_iconst (pc := 14) C dX0_keep_14 ci_0 ?_
  refine ws_aload_n (pc := 15) C dX0_keep_15 rfl 0 rfl ?_
  refine ws_getr (pc := 16) C dX0_keep_16 fd_X0_15 sf_kept_2 ?_
  refine ws_iconst (pc := 19) C dX0_keep_19 ci_0 ?_
  refine ws_bipush (pc := 20) C dX0_keep_20 cb_41 ?_
  obtain ⟨g5, h⟩ := gd_ok h
  obtain ⟨s6, e7, h⟩ := lz_ok h
  refine ws_copyK (pc := 22) C dX0_keep_22 ac_X0_41 sr_heights sr_k_heights g5 (Nat.le_of_ble_eq_true rfl) (by decide) e7 ?_
  refine ws_iconst (pc := 25) C dX0_keep_25 ci_0 ?_
  refine ws_istore_n (pc := 26) C dX0_keep_26 rfl (by decide) rfl ?_
  refine ws_less [1, 2, 0] rfl ?_
  refine pX0_keep_L27 C R (fun s8 h => ?_) fu _ _ h
  · refine ws_aload_n (pc := 57) C dX0_keep_57 rfl 0 rfl ?_
    refine ws_aload_n (pc := 58) C dX0_keep_58 rfl 1 rfl ?_
    refine ws_geti (pc := 59) C dX0_keep_59 fd_X0_48 sf_town_4 ?_
    obtain ⟨s9, e10, h⟩ := lz_ok h
    refine ws_putI (pc := 62) C dX0_keep_62 fp_X0_51 sf_kept_4 e10 ?_
    refine ws_aload_n (pc := 65) C dX0_keep_65 rfl 0 rfl ?_
    refine ws_aload_n (pc := 66) C dX0_keep_66 rfl 1 rfl ?_
    refine ws_geti (pc := 67) C dX0_keep_67 fd_X0_52 sf_town_5 ?_
    obtain ⟨s11, e12, h⟩ := lz_ok h
    refine ws_putI (pc := 70) C dX0_keep_70 fp_X0_55 sf_kept_5 e12 ?_
    refine ws_aload_n (pc := 73) C dX0_keep_73 rfl 0 rfl ?_
    refine ws_aload_n (pc := 74) C dX0_keep_74 rfl 1 rfl ?_
    refine ws_geti (pc := 75) C dX0_keep_75 fd_X0_56 sf_town_7 ?_
    obtain ⟨s13, e14, h⟩ := lz_ok h
    refine ws_putI (pc := 78) C dX0_keep_78 fp_X0_59 sf_kept_6 e14 ?_
    refine ws_iconst (pc := 81) C dX0_keep_81 ci_0 ?_
    refine ws_istore_n (pc := 82) C dX0_keep_82 rfl (by decide) rfl ?_
    refine ws_less [1, 2, 0] rfl ?_
    refine pX0_keep_L83 C R (fun s15 h => ?_) fu _ _ h
    · refine ws_aload_n (pc := 142) C dX0_keep_142 rfl 0 rfl ?_
      refine ws_aload_n (pc := 143) C dX0_keep_143 rfl 1 rfl ?_
      refine ws_geti (pc := 144) C dX0_keep_144 fd_X0_73 sf_town_9 ?_
      obtain ⟨s16, e17, h⟩ := lz_ok h
      refine ws_putI (pc := 147) C dX0_keep_147 fp_X0_76 sf_kept_10 e17 ?_
      exact wr_v (pc := 150) C R dX0_keep_150 h
set_option maxRecDepth 20000 in
set_option maxHeartbeats 4000000 in
theorem pX6_measureClimbs_L2 {Y : xY} {Z : xZ} {B : xB} {z : Int32 × xM} (C : xC (GX Y) Z B "BetweenStops$Town" cX6_measureClimbs 3 1) (R : xRv (GX Y) B z) {k71 : xM → Option (Int32 × xM)}
    (hk71 : ∀  (s : xM), k71 s = some z → xWS (GX Y) B 3 s [] 71 []) : ∀ (n : Nat) (a1 : Int32) (s : xM), fX6_measureClimbs_L2 k71 n a1 s = some z → xWS (GX Y) B 3 s [(0, .ref (Y.1 1)), (1, .int a1)] 2 [] := by
  intro n
  induction n with
  | zero =>
    intro a1 s h
    rw [fX6_measureClimbs_L2] at h
    cases h
  | succ n ih =>
    intro a1 s h
    rw [fX6_measureClimbs_L2] at h
    refine ws_iload_n (pc := 2) C dX6_measureClimbs_2 rfl 1 rfl ?_
    refine ws_bipush (pc := 3) C dX6_measureClimbs_3 cb_41 ?_
    refine ws_icmp_ge (pc := 5) (tgt := 71) C dX6_measureClimbs_5 (by decide) (fun c1 => ?_) (fun c1 => ?_)
    · have h := ite_t h c1
      refine ws_less [] rfl ?_
      exact hk71 _ h
    · have h := ite_f h c1
      refine ws_aload_n (pc := 8) C dX6_measureClimbs_8 rfl 0 rfl ?_
      refine ws_getr (pc := 9) C dX6_measureClimbs_9 fd_X6_9 sf_town_0 ?_
      refine ws_iload_n (pc := 12) C dX6_measureClimbs_12 rfl 1 rfl ?_
      obtain ⟨g2, h⟩ := gd_ok h
      refine ws_ialdK (pc := 13) C dX6_measureClimbs_13 sr_heights g2 rfl ?_
      refine ws_aload_n (pc := 14) C dX6_measureClimbs_14 rfl 0 rfl ?_
      refine ws_getr (pc := 15) C dX6_measureClimbs_15 fd_X6_9 sf_town_0 ?_
      refine ws_iload_n (pc := 18) C dX6_measureClimbs_18 rfl 1 rfl ?_
      refine ws_iconst (pc := 19) C dX6_measureClimbs_19 ci_1 ?_
      refine ws_isub (pc := 20) C dX6_measureClimbs_20 ?_
      obtain ⟨g3, h⟩ := gd_ok h
      refine ws_ialdK (pc := 21) C dX6_measureClimbs_21 sr_heights g3 rfl ?_
      refine ws_isub (pc := 22) C dX6_measureClimbs_22 ?_
      obtain ⟨v4, e5, h⟩ := lz_ok h
      refine ws_topi C e5 ?_
      refine ws_istore_n (pc := 23) C dX6_measureClimbs_23 rfl (by decide) rfl ?_
      refine ws_aload_n (pc := 24) C dX6_measureClimbs_24 rfl 1 rfl ?_
      refine ws_getr (pc := 25) C dX6_measureClimbs_25 fd_X6_15 sf_town_1 ?_
      refine ws_iload_n (pc := 28) C dX6_measureClimbs_28 rfl 2 rfl ?_
      refine ws_aload_n (pc := 29) C dX6_measureClimbs_29 rfl 1 rfl ?_
      refine ws_getr (pc := 30) C dX6_measureClimbs_30 fd_X6_15 sf_town_1 ?_
      refine ws_iload_n (pc := 33) C dX6_measureClimbs_33 rfl 2 rfl ?_
      refine ws_iconst (pc := 34) C dX6_measureClimbs_34 ci_1 ?_
      refine ws_isub (pc := 35) C dX6_measureClimbs_35 ?_
      obtain ⟨g6, h⟩ := gd_ok h
      refine ws_ialdK (pc := 36) C dX6_measureClimbs_36 sr_climbsOut g6 rfl ?_
      refine ws_iconst (pc := 37) C dX6_measureClimbs_37 ci_0 ?_
      refine ws_iload_n (pc := 38) C dX6_measureClimbs_38 rfl 0 rfl ?_
      refine ws_max (pc := 39) C dX6_measureClimbs_39 ma_X6_62 (Nat.le_of_ble_eq_true rfl) (by decide) ?_
      refine ws_iadd (pc := 42) C dX6_measureClimbs_42 ?_
      obtain ⟨g7, h⟩ := gd_ok h
      obtain ⟨s8, e9, h⟩ := lz_ok h
      refine ws_iastK (pc := 43) C dX6_measureClimbs_43 sr_climbsOut g7 rfl e9 ?_
      refine ws_aload_n (pc := 44) C dX6_measureClimbs_44 rfl 1 rfl ?_
      refine ws_getr (pc := 45) C dX6_measureClimbs_45 fd_X6_18 sf_town_2 ?_
      refine ws_iload_n (pc := 48) C dX6_measureClimbs_48 rfl 2 rfl ?_
      refine ws_aload_n (pc := 49) C dX6_measureClimbs_49 rfl 1 rfl ?_
      refine ws_getr (pc := 50) C dX6_measureClimbs_50 fd_X6_18 sf_town_2 ?_
      refine ws_iload_n (pc := 53) C dX6_measureClimbs_53 rfl 2 rfl ?_
      refine ws_iconst (pc := 54) C dX6_measureClimbs_54 ci_1 ?_
      refine ws_isub (pc := 55) C dX6_measureClimbs_55 ?_
      obtain ⟨g10, h⟩ := gd_ok h
      refine ws_ialdK (pc := 56) C dX6_measureClimbs_56 sr_climbsHome g10 rfl ?_
      refine ws_iconst (pc := 57) C dX6_measureClimbs_57 ci_0 ?_
      refine ws_iload_n (pc := 58) C dX6_measureClimbs_58 rfl 0 rfl ?_
      refine ws_ineg (pc := 59) C dX6_measureClimbs_59 ?_
      refine ws_max (pc := 60) C dX6_measureClimbs_60 ma_X6_62 (Nat.le_of_ble_eq_true rfl) (by decide) ?_
      refine ws_iadd (pc := 63) C dX6_measureClimbs_63 ?_
      obtain ⟨g11, h⟩ := gd_ok h
      obtain ⟨s12, e13, h⟩ := lz_ok h
      refine ws_iastK (pc := 64) C dX6_measureClimbs_64 sr_climbsHome g11 rfl e13 ?_
      refine ws_iinc (j := 2) (pc := 65) C dX6_measureClimbs_65 rfl (cn_1 _) (by decide) rfl ?_
      refine ws_goto (pc := 68) (tgt := 2) C dX6_measureClimbs_68 (by decide) ?_
      refine ws_less [2, 0] rfl ?_
      exact ih _ _ h
set_option maxRecDepth 20000 in
set_option maxHeartbeats 4000000 in
theorem mX6_measureClimbs {Y : xY} {Z : xZ} {s : xM} {z : Int32 × xM} (h : fX6_measureClimbs s = some z) : xMv (GX Y) Z yX6_measureClimbs cX6_measureClimbs 3 1 [.ref (Y.1 1)] s z := by
  refine xMv_of (by decide) (Nat.le_of_ble_eq_true rfl) (fun B C R => ?_)
  have C : xC (GX Y) Z B "BetweenStops$Town" cX6_measureClimbs 3 1 := C
  show xWS (GX Y) B 3 s [(0, .ref (Y.1 1))] 0 []
  unfold fX6_measureClimbs at h
  refine ws_iconst (pc := 0) C dX6_measureClimbs_0 ci_1 ?_
  refine ws_istore_n (pc := 1) C dX6_measureClimbs_1 rfl (by decide) rfl ?_
  refine ws_less [1, 0] rfl ?_
  refine pX6_measureClimbs_L2 C R (fun s1 h => ?_) fu _ _ h
  · exact wr_v (pc := 71) C R dX6_measureClimbs_71 h
set_option maxRecDepth 20000 in
set_option maxHeartbeats 4000000 in
theorem pX0_giveBack_L21 {Y : xY} {Z : xZ} {B : xB} {z : Int32 × xM} (C : xC (GX Y) Z B "BetweenStops$Image" cX0_giveBack 3 2) (R : xRv (GX Y) B z) {k51 : xM → Option (Int32 × xM)}
    (hk51 : ∀  (s : xM), k51 s = some z → xWS (GX Y) B 3 s [(0, .ref (Y.1 81)), (1, .ref (Y.1 1))] 51 []) : ∀ (n : Nat) (a2 : Int32) (s : xM), fX0_giveBack_L21 k51 n a2 s = some z → xWS (GX Y) B 3 s [(0, .ref (Y.1 81)), (1, .ref (Y.1 1)), (2, .int a2)] 21 [] := by
  intro n
  induction n with
  | zero =>
    intro a2 s h
    rw [fX0_giveBack_L21] at h
    cases h
  | succ n ih =>
    intro a2 s h
    rw [fX0_giveBack_L21] at h
    refine ws_iload_n (pc := 21) C dX0_giveBack_21 rfl 2 rfl ?_
    refine ws_iconst (pc := 22) C dX0_giveBack_22 ci_3 ?_
    refine ws_icmp_ge (pc := 23) (tgt := 51) C dX0_giveBack_23 (by decide) (fun c1 => ?_) (fun c1 => ?_)
    · have h := ite_t h c1
      refine ws_less [0, 1] rfl ?_
      exact hk51 _ h
    · have h := ite_f h c1
      refine ws_aload_n (pc := 26) C dX0_giveBack_26 rfl 0 rfl ?_
      refine ws_getr (pc := 27) C dX0_giveBack_27 fd_X0_21 sf_kept_3 ?_
      refine ws_iload_n (pc := 30) C dX0_giveBack_30 rfl 2 rfl ?_
      obtain ⟨g2, h⟩ := gd_ok h
      refine ws_aaldK (q := (84 + a2.toNatClampNeg)) (pc := 31) C dX0_giveBack_31 (by decide) sq_k_sorts g2 rfl rfl ?_
      refine ws_iconst (pc := 32) C dX0_giveBack_32 ci_0 ?_
      refine ws_aload_n (pc := 33) C dX0_giveBack_33 rfl 1 rfl ?_
      refine ws_getr (pc := 34) C dX0_giveBack_34 fd_X0_47 sf_town_3 ?_
      refine ws_iload_n (pc := 37) C dX0_giveBack_37 rfl 2 rfl ?_
      obtain ⟨g3, h⟩ := gd_ok h
      refine ws_aaldK (q := (6 + a2.toNatClampNeg)) (pc := 38) C dX0_giveBack_38 (by decide) sq_sorts g3 rfl rfl ?_
      refine ws_iconst (pc := 39) C dX0_giveBack_39 ci_0 ?_
      refine ws_bipush (pc := 40) C dX0_giveBack_40 cb_6 ?_
      obtain ⟨g4, h⟩ := gd_ok h
      obtain ⟨s5, e6, h⟩ := lz_ok h
      refine ws_copyK (pc := 42) C dX0_giveBack_42 ac_X0_41 (sr_ksortR (inb_lt g2)) (sr_sortrow (inb_lt g3)) g4 (Nat.le_of_ble_eq_true rfl) (by decide) e6 ?_
      refine ws_iinc (j := 2) (pc := 45) C dX0_giveBack_45 rfl (cn_1 _) (by decide) rfl ?_
      refine ws_goto (pc := 48) (tgt := 21) C dX0_giveBack_48 (by decide) ?_
      refine ws_less [1, 2, 0] rfl ?_
      exact ih _ _ h
set_option maxRecDepth 20000 in
set_option maxHeartbeats 4000000 in
theorem pX0_giveBack_L69 {Y : xY} {Z : xZ} {B : xB} {z : Int32 × xM} (C : xC (GX Y) Z B "BetweenStops$Image" cX0_giveBack 3 2) (R : xRv (GX Y) B z) {k128 : xM → Option (Int32 × xM)}
    (hk128 : ∀  (s : xM), k128 s = some z → xWS (GX Y) B 3 s [(0, .ref (Y.1 81)), (1, .ref (Y.1 1))] 128 []) : ∀ (n : Nat) (a2 : Int32) (s : xM), fX0_giveBack_L69 k128 n a2 s = some z → xWS (GX Y) B 3 s [(0, .ref (Y.1 81)), (1, .ref (Y.1 1)), (2, .int a2)] 69 [] := by
  intro n
  induction n with
  | zero =>
    intro a2 s h
    rw [fX0_giveBack_L69] at h
    cases h
  | succ n ih =>
    intro a2 s h
    rw [fX0_giveBack_L69] at h
    refine ws_iload_n (pc := 69) C dX0_giveBack_69 rfl 2 rfl ?_
    refine ws_aload_n (pc := 70) C dX0_giveBack_70 rfl 0 rfl ?_
    refine ws_geti (pc := 71) C dX0_giveBack_71 fd_X0_59 sf_kept_6 ?_
    refine ws_icmp_ge (pc := 74) (tgt := 128) C dX0_giveBack_74 (by decide) (fun c1 => ?_) (fun c1 => ?_)
    · have h := ite_t h c1
      refine ws_less [0, 1] rfl ?_
      exact hk128 _ h
    · have h := ite_f h c1
      refine ws_aload_n (pc := 77) C dX0_giveBack_77 rfl 1 rfl ?_
      refine ws_getr (pc := 78) C dX0_giveBack_78 fd_X0_60 sf_town_6 ?_
      refine ws_iload_n (pc := 81) C dX0_giveBack_81 rfl 2 rfl ?_
      obtain ⟨g2, h⟩ := gd_ok h
      refine ws_aaldK (q := (11 + a2.toNatClampNeg)) (pc := 82) C dX0_giveBack_82 (by decide) sq_stops g2 rfl rfl ?_
      refine ws_aload_n (pc := 83) C dX0_giveBack_83 rfl 0 rfl ?_
      refine ws_getr (pc := 84) C dX0_giveBack_84 fd_X0_24 sf_kept_7 ?_
      refine ws_iload_n (pc := 87) C dX0_giveBack_87 rfl 2 rfl ?_
      obtain ⟨g3, h⟩ := gd_ok h
      refine ws_zaldK (pc := 88) C dX0_giveBack_88 sr_k_isOpen g3 rfl ?_
      obtain ⟨g4, h⟩ := gd_ok h
      obtain ⟨s5, e6, h⟩ := lz_ok h
      refine ws_putZ (pc := 89) C dX0_giveBack_89 fp_X0_64 (sf_stop_5 (inb_lt g2)) g4 e6 ?_
      refine ws_aload_n (pc := 92) C dX0_giveBack_92 rfl 1 rfl ?_
      refine ws_getr (pc := 93) C dX0_giveBack_93 fd_X0_60 sf_town_6 ?_
      refine ws_iload_n (pc := 96) C dX0_giveBack_96 rfl 2 rfl ?_
      obtain ⟨g7, h⟩ := gd_ok h
      refine ws_aaldK (q := (11 + a2.toNatClampNeg)) (pc := 97) C dX0_giveBack_97 (by decide) sq_stops g7 rfl rfl ?_
      refine ws_aload_n (pc := 98) C dX0_giveBack_98 rfl 0 rfl ?_
      refine ws_getr (pc := 99) C dX0_giveBack_99 fd_X0_28 sf_kept_8 ?_
      refine ws_iload_n (pc := 102) C dX0_giveBack_102 rfl 2 rfl ?_
      obtain ⟨g8, h⟩ := gd_ok h
      refine ws_ialdK (pc := 103) C dX0_giveBack_103 sr_k_wanted g8 rfl ?_
      obtain ⟨s9, e10, h⟩ := lz_ok h
      refine ws_putI (pc := 104) C dX0_giveBack_104 fp_X0_68 (sf_stop_6 (inb_lt g7)) e10 ?_
      refine ws_aload_n (pc := 107) C dX0_giveBack_107 rfl 1 rfl ?_
      refine ws_getr (pc := 108) C dX0_giveBack_108 fd_X0_60 sf_town_6 ?_
      refine ws_iload_n (pc := 111) C dX0_giveBack_111 rfl 2 rfl ?_
      obtain ⟨g11, h⟩ := gd_ok h
      refine ws_aaldK (q := (11 + a2.toNatClampNeg)) (pc := 112) C dX0_giveBack_112 (by decide) sq_stops g11 rfl rfl ?_
      refine ws_aload_n (pc := 113) C dX0_giveBack_113 rfl 0 rfl ?_
      refine ws_getr (pc := 114) C dX0_giveBack_114 fd_X0_31 sf_kept_9 ?_
      refine ws_iload_n (pc := 117) C dX0_giveBack_117 rfl 2 rfl ?_
      obtain ⟨g12, h⟩ := gd_ok h
      refine ws_ialdK (pc := 118) C dX0_giveBack_118 sr_k_patterns g12 rfl ?_
      obtain ⟨s13, e14, h⟩ := lz_ok h
      refine ws_putI (pc := 119) C dX0_giveBack_119 fp_X0_70 (sf_stop_7 (inb_lt g11)) e14 ?_
      refine ws_iinc (j := 2) (pc := 122) C dX0_giveBack_122 rfl (cn_1 _) (by decide) rfl ?_
      refine ws_goto (pc := 125) (tgt := 69) C dX0_giveBack_125 (by decide) ?_
      refine ws_less [1, 2, 0] rfl ?_
      exact ih _ _ h
set_option maxRecDepth 20000 in
set_option maxHeartbeats 4000000 in
theorem mX0_giveBack {Y : xY} {Z : xZ} {s : xM} {z : Int32 × xM} (h : fX0_giveBack s = some z) : xMv (GX Y) Z yX0_giveBack cX0_giveBack 3 2 [.ref (Y.1 81), .ref (Y.1 1)] s z := by
  refine xMv_of (by decide) (Nat.le_of_ble_eq_true rfl) (fun B C R => ?_)
  have C : xC (GX Y) Z B "BetweenStops$Image" cX0_giveBack 3 2 := C
  show xWS (GX Y) B 3 s [(0, .ref (Y.1 81)), (1, .ref (Y.1 1))] 0 []
  unfold fX0_giveBack at h
  refine ws_aload_n (pc := 0) C dX0_giveBack_0 rfl 0 rfl ?_
  refine ws_getr (pc := 1) C dX0_giveBack_1 fd_X0_15 sf_kept_2 ?_
  refine ws_iconst (pc := 4) C dX0_giveBack_4 ci_0 ?_
  refine ws_aload_n (pc := 5) C dX0_giveBack_5 rfl 1 rfl ?_
  refine ws_getr (pc := 6) C dX0_giveBack_6 fd_X0_38 sf_town_0 ?_
  refine ws_iconst (pc := 9) C dX0_giveBack_9 ci_0 ?_
  refine ws_bipush (pc := 10) C dX0_giveBack_10 cb_41 ?_
  obtain ⟨g1, h⟩ := gd_ok h
  obtain ⟨s2, e3, h⟩ := lz_ok h
  refine ws_copyK (pc := 12) C dX0_giveBack_12 ac_X0_41 sr_k_heights sr_heights g1 (Nat.le_of_ble_eq_true rfl) (by decide) e3 ?_
  refine ws_aload_n (pc := 15) C dX0_giveBack_15 rfl 1 rfl ?_
  obtain ⟨r4, s5, q6, h⟩ := bd_ok h
  refine wc_vV (pc := 16)  C [] [] (mX6_measureClimbs q6) dX0_giveBack_16 mw_X6_measureClimbs mv_X6_measureClimbs kl_X0_77 so_town rfl rfl (Nat.le_of_ble_eq_true rfl) ⟨by decide, by decide⟩ ?_
  refine ws_iconst (pc := 19) C dX0_giveBack_19 ci_0 ?_
  refine ws_istore_n (pc := 20) C dX0_giveBack_20 rfl (by decide) rfl ?_
  refine ws_less [1, 2, 0] rfl ?_
  refine pX0_giveBack_L21 C R (fun s7 h => ?_) fu _ _ h
  · refine ws_aload_n (pc := 51) C dX0_giveBack_51 rfl 1 rfl ?_
    refine ws_aload_n (pc := 52) C dX0_giveBack_52 rfl 0 rfl ?_
    refine ws_geti (pc := 53) C dX0_giveBack_53 fd_X0_51 sf_kept_4 ?_
    obtain ⟨s8, e9, h⟩ := lz_ok h
    refine ws_putI (pc := 56) C dX0_giveBack_56 fp_X0_48 sf_town_4 e9 ?_
    refine ws_aload_n (pc := 59) C dX0_giveBack_59 rfl 1 rfl ?_
    refine ws_aload_n (pc := 60) C dX0_giveBack_60 rfl 0 rfl ?_
    refine ws_geti (pc := 61) C dX0_giveBack_61 fd_X0_55 sf_kept_5 ?_
    obtain ⟨s10, e11, h⟩ := lz_ok h
    refine ws_putI (pc := 64) C dX0_giveBack_64 fp_X0_52 sf_town_5 e11 ?_
    refine ws_iconst (pc := 67) C dX0_giveBack_67 ci_0 ?_
    refine ws_istore_n (pc := 68) C dX0_giveBack_68 rfl (by decide) rfl ?_
    refine ws_less [1, 2, 0] rfl ?_
    refine pX0_giveBack_L69 C R (fun s12 h => ?_) fu _ _ h
    · refine ws_aload_n (pc := 128) C dX0_giveBack_128 rfl 1 rfl ?_
      refine ws_aload_n (pc := 129) C dX0_giveBack_129 rfl 0 rfl ?_
      refine ws_geti (pc := 130) C dX0_giveBack_130 fd_X0_76 sf_kept_10 ?_
      obtain ⟨s13, e14, h⟩ := lz_ok h
      refine ws_putI (pc := 133) C dX0_giveBack_133 fp_X0_73 sf_town_9 e14 ?_
      exact wr_v (pc := 136) C R dX0_giveBack_136 h
set_option maxRecDepth 20000 in
set_option maxHeartbeats 4000000 in
theorem mX5_clear {Y : xY} {Z : xZ} {a0 : Nat} (ha0 : a0 < 6) {s : xM} {z : Int32 × xM} (h : fX5_clear a0 s = some z) : xMv (GX Y) Z yX5_clear cX5_clear 1 1 [.ref (Y.1 (97 + 4 * a0))] s z := by
  refine xMv_of (by decide) (Nat.le_of_ble_eq_true rfl) (fun B C R => ?_)
  have C : xC (GX Y) Z B "BetweenStops$Text" cX5_clear 1 1 := C
  show xWS (GX Y) B 1 s [(0, .ref (Y.1 (97 + 4 * a0)))] 0 []
  unfold fX5_clear at h
  refine ws_aload_n (pc := 0) C dX5_clear_0 rfl 0 rfl ?_
  refine ws_iconst (pc := 1) C dX5_clear_1 ci_0 ?_
  obtain ⟨s1, e2, h⟩ := lz_ok h
  refine ws_putI (pc := 2) C dX5_clear_2 fp_X5_21 (sf_text_3 ha0) e2 ?_
  refine ws_aload_n (pc := 5) C dX5_clear_5 rfl 0 rfl ?_
  refine ws_iconst (pc := 6) C dX5_clear_6 ci_0 ?_
  obtain ⟨s3, e4, h⟩ := lz_ok h
  refine ws_putI (pc := 7) C dX5_clear_7 fp_X5_25 (sf_text_4 ha0) e4 ?_
  exact wr_v (pc := 10) C R dX5_clear_10 h
set_option maxRecDepth 20000 in
set_option maxHeartbeats 4000000 in
theorem mX4_isBlank {Y : xY} {Z : xZ} {a0 : Int32} {s : xM} {z : Int32 × xM} (h : fX4_isBlank a0 s = some z) : xMi (GX Y) Z yX4_isBlank cX4_isBlank 1 1 .boolean [.int a0] s z := by
  refine xMi_of (by decide) (Nat.le_of_ble_eq_true rfl) (fun B C R => ?_)
  have C : xC (GX Y) Z B "BetweenStops$Tape" cX4_isBlank 1 1 := C
  show xWS (GX Y) B 1 s [(0, .int a0)] 0 []
  unfold fX4_isBlank at h
  refine ws_iload_n (pc := 0) C dX4_isBlank_0 rfl 0 rfl ?_
  refine ws_bipush (pc := 1) C dX4_isBlank_1 cb_32 ?_
  refine ws_icmp_eq (pc := 3) (tgt := 12) C dX4_isBlank_3 (by decide) (fun c1 => ?_) (fun c1 => ?_)
  · have h := ite_t h c1
    refine ws_iconst (pc := 12) C dX4_isBlank_12 ci_1 ?_
    refine ws_goto (pc := 13) (tgt := 17) C dX4_isBlank_13 (by decide) ?_
    exact wr_i (pc := 17) C R dX4_isBlank_17 (isZ_nar isZ1) h
  · have h := ite_f h c1
    refine ws_iload_n (pc := 6) C dX4_isBlank_6 rfl 0 rfl ?_
    refine ws_bipush (pc := 7) C dX4_isBlank_7 cb_10 ?_
    refine ws_icmp_ne (pc := 9) (tgt := 16) C dX4_isBlank_9 (by decide) (fun c2 => ?_) (fun c2 => ?_)
    · have h := ite_f h c2
      refine ws_iconst (pc := 16) C dX4_isBlank_16 ci_0 ?_
      exact wr_i (pc := 17) C R dX4_isBlank_17 (isZ_nar isZ0) h
    · have h := ite_t h c2
      refine ws_iconst (pc := 12) C dX4_isBlank_12 ci_1 ?_
      refine ws_goto (pc := 13) (tgt := 17) C dX4_isBlank_13 (by decide) ?_
      exact wr_i (pc := 17) C R dX4_isBlank_17 (isZ_nar isZ1) h
set_option maxRecDepth 20000 in
set_option maxHeartbeats 4000000 in
theorem mX4_isLetter {Y : xY} {Z : xZ} {a0 : Int32} {s : xM} {z : Int32 × xM} (h : fX4_isLetter a0 s = some z) : xMi (GX Y) Z yX4_isLetter cX4_isLetter 1 1 .boolean [.int a0] s z := by
  refine xMi_of (by decide) (Nat.le_of_ble_eq_true rfl) (fun B C R => ?_)
  have C : xC (GX Y) Z B "BetweenStops$Tape" cX4_isLetter 1 1 := C
  show xWS (GX Y) B 1 s [(0, .int a0)] 0 []
  unfold fX4_isLetter at h
  refine ws_iload_n (pc := 0) C dX4_isLetter_0 rfl 0 rfl ?_
  refine ws_bipush (pc := 1) C dX4_isLetter_1 cb_97 ?_
  refine ws_icmp_lt (pc := 3) (tgt := 16) C dX4_isLetter_3 (by decide) (fun c1 => ?_) (fun c1 => ?_)
  · have h := ite_t h c1
    refine ws_iconst (pc := 16) C dX4_isLetter_16 ci_0 ?_
    exact wr_i (pc := 17) C R dX4_isLetter_17 (isZ_nar isZ0) h
  · have h := ite_f h c1
    refine ws_iload_n (pc := 6) C dX4_isLetter_6 rfl 0 rfl ?_
    refine ws_bipush (pc := 7) C dX4_isLetter_7 cb_122 ?_
    refine ws_icmp_gt (pc := 9) (tgt := 16) C dX4_isLetter_9 (by decide) (fun c2 => ?_) (fun c2 => ?_)
    · have h := ite_t h c2
      refine ws_iconst (pc := 16) C dX4_isLetter_16 ci_0 ?_
      exact wr_i (pc := 17) C R dX4_isLetter_17 (isZ_nar isZ0) h
    · have h := ite_f h c2
      refine ws_iconst (pc := 12) C dX4_isLetter_12 ci_1 ?_
      refine ws_goto (pc := 13) (tgt := 17) C dX4_isLetter_13 (by decide) ?_
      exact wr_i (pc := 17) C R dX4_isLetter_17 (isZ_nar isZ1) h
set_option maxRecDepth 20000 in
set_option maxHeartbeats 4000000 in
theorem mX4_isDigit {Y : xY} {Z : xZ} {a0 : Int32} {s : xM} {z : Int32 × xM} (h : fX4_isDigit a0 s = some z) : xMi (GX Y) Z yX4_isDigit cX4_isDigit 1 1 .boolean [.int a0] s z := by
  refine xMi_of (by decide) (Nat.le_of_ble_eq_true rfl) (fun B C R => ?_)
  have C : xC (GX Y) Z B "BetweenStops$Tape" cX4_isDigit 1 1 := C
  show xWS (GX Y) B 1 s [(0, .int a0)] 0 []
  unfold fX4_isDigit at h
  refine ws_iload_n (pc := 0) C dX4_isDigit_0 rfl 0 rfl ?_
  refine ws_bipush (pc := 1) C dX4_isDigit_1 cb_48 ?_
  refine ws_icmp_lt (pc := 3) (tgt := 16) C dX4_isDigit_3 (by decide) (fun c1 => ?_) (fun c1 => ?_)
  · have h := ite_t h c1
    refine ws_iconst (pc := 16) C dX4_isDigit_16 ci_0 ?_
    exact wr_i (pc := 17) C R dX4_isDigit_17 (isZ_nar isZ0) h
  · have h := ite_f h c1
    refine ws_iload_n (pc := 6) C dX4_isDigit_6 rfl 0 rfl ?_
    refine ws_bipush (pc := 7) C dX4_isDigit_7 cb_57 ?_
    refine ws_icmp_gt (pc := 9) (tgt := 16) C dX4_isDigit_9 (by decide) (fun c2 => ?_) (fun c2 => ?_)
    · have h := ite_t h c2
      refine ws_iconst (pc := 16) C dX4_isDigit_16 ci_0 ?_
      exact wr_i (pc := 17) C R dX4_isDigit_17 (isZ_nar isZ0) h
    · have h := ite_f h c2
      refine ws_iconst (pc := 12) C dX4_isDigit_12 ci_1 ?_
      refine ws_goto (pc := 13) (tgt := 17) C dX4_isDigit_13 (by decide) ?_
      exact wr_i (pc := 17) C R dX4_isDigit_17 (isZ_nar isZ1) h
set_option maxRecDepth 20000 in
set_option maxHeartbeats 4000000 in
theorem pX4_readNumber_J72 {Y : xY} {Z : xZ} {B : xB} {z : Int32 × xM} (C : xC (GX Y) Z B "BetweenStops$Tape" cX4_readNumber 1 2) (R : xRv (GX Y) B z) {k88 : xM → Option (Int32 × xM)} {b : xM → Option (Int32 × xM)} {t0 : Int32}
    (hk88 : ∀  (s : xM), k88 s = some z → xWS (GX Y) B 1 s [(0, .ref (Y.1 77))] 88 [])
    (hb : ∀  (s : xM), b s = some z → xWS (GX Y) B 1 s [(0, .ref (Y.1 77))] 5 []) {s : xM} (h : fX4_readNumber_J72 k88 b t0 s = some z) : xWS (GX Y) B 1 s [(0, .ref (Y.1 77))] 72 [.int t0, .ref (Y.1 77)] := by
  unfold fX4_readNumber_J72 at h
  obtain ⟨s1, e2, h⟩ := lz_ok h
  refine ws_putI (pc := 72) C dX4_readNumber_72 fp_X4_28 sf_tape_5 e2 ?_
  refine ws_aload_n (pc := 75) C dX4_readNumber_75 rfl 0 rfl ?_
  refine ws_dup (pc := 76) C dX4_readNumber_76 rfl ?_
  refine ws_geti (pc := 77) C dX4_readNumber_77 fd_X4_25 sf_tape_4 ?_
  refine ws_iconst (pc := 80) C dX4_readNumber_80 ci_1 ?_
  refine ws_iadd (pc := 81) C dX4_readNumber_81 ?_
  obtain ⟨s3, e4, h⟩ := lz_ok h
  refine ws_putI (pc := 82) C dX4_readNumber_82 fp_X4_25 sf_tape_4 e4 ?_
  refine ws_goto (pc := 85) (tgt := 5) C dX4_readNumber_85 (by decide) ?_
  refine ws_less [0] rfl ?_
  exact hb _ h
set_option maxRecDepth 20000 in
set_option maxHeartbeats 4000000 in
theorem pX4_readNumber_L5 {Y : xY} {Z : xZ} {B : xB} {z : Int32 × xM} (C : xC (GX Y) Z B "BetweenStops$Tape" cX4_readNumber 1 2) (R : xRv (GX Y) B z) {k88 : xM → Option (Int32 × xM)}
    (hk88 : ∀  (s : xM), k88 s = some z → xWS (GX Y) B 1 s [(0, .ref (Y.1 77))] 88 []) : ∀ (n : Nat)  (s : xM), fX4_readNumber_L5 k88 n s = some z → xWS (GX Y) B 1 s [(0, .ref (Y.1 77))] 5 [] := by
  intro n
  induction n with
  | zero =>
    intro s h
    rw [fX4_readNumber_L5] at h
    cases h
  | succ n ih =>
    intro s h
    rw [fX4_readNumber_L5] at h
    refine ws_aload_n (pc := 5) C dX4_readNumber_5 rfl 0 rfl ?_
    refine ws_geti (pc := 6) C dX4_readNumber_6 fd_X4_25 sf_tape_4 ?_
    refine ws_aload_n (pc := 9) C dX4_readNumber_9 rfl 0 rfl ?_
    refine ws_geti (pc := 10) C dX4_readNumber_10 fd_X4_15 sf_tape_1 ?_
    refine ws_icmp_ge (pc := 13) (tgt := 88) C dX4_readNumber_13 (by decide) (fun c1 => ?_) (fun c1 => ?_)
    · have h := ite_t h c1
      refine ws_less [0] rfl ?_
      exact hk88 _ h
    · have h := ite_f h c1
      refine ws_aload_n (pc := 16) C dX4_readNumber_16 rfl 0 rfl ?_
      refine ws_getr (pc := 17) C dX4_readNumber_17 fd_X4_9 sf_tape_0 ?_
      refine ws_aload_n (pc := 20) C dX4_readNumber_20 rfl 0 rfl ?_
      refine ws_geti (pc := 21) C dX4_readNumber_21 fd_X4_25 sf_tape_4 ?_
      obtain ⟨g2, h⟩ := gd_ok h
      refine ws_ialdK (pc := 24) C dX4_readNumber_24 sr_bytes g2 rfl ?_
      obtain ⟨r3, s4, q5, h⟩ := bd_ok h
      refine wc_iS (pc := 25)  C [.int (gi s 78 (gi s 77 4).toNatClampNeg)] [] (mX4_isDigit q5) dX4_readNumber_25 mw_X4_isDigit ks_X4_isDigit kl_X4_44 rfl rfl (Nat.le_of_ble_eq_true rfl) ⟨by decide, by decide⟩ ?_
      refine ws_if_eq (pc := 28) (tgt := 88) C dX4_readNumber_28 (by decide) (fun c6 => ?_) (fun c6 => ?_)
      · have h := ite_t h c6
        refine ws_less [0] rfl ?_
        exact hk88 _ h
      · have h := ite_f h c6
        refine ws_aload_n (pc := 31) C dX4_readNumber_31 rfl 0 rfl ?_
        refine ws_aload_n (pc := 32) C dX4_readNumber_32 rfl 0 rfl ?_
        refine ws_geti (pc := 33) C dX4_readNumber_33 fd_X4_25 sf_tape_4 ?_
        refine ws_aload_n (pc := 36) C dX4_readNumber_36 rfl 0 rfl ?_
        refine ws_geti (pc := 37) C dX4_readNumber_37 fd_X4_22 sf_tape_3 ?_
        refine ws_isub (pc := 40) C dX4_readNumber_40 ?_
        refine ws_iconst (pc := 41) C dX4_readNumber_41 ci_4 ?_
        refine ws_icmp_ge (pc := 42) (tgt := 68) C dX4_readNumber_42 (by decide) (fun c7 => ?_) (fun c7 => ?_)
        · have h := ite_t h c7
          refine ws_aload_n (pc := 68) C dX4_readNumber_68 rfl 0 rfl ?_
          refine ws_geti (pc := 69) C dX4_readNumber_69 fd_X4_28 sf_tape_5 ?_
          refine ws_less [0] rfl ?_
          exact pX4_readNumber_J72 C R hk88 (fun s h => ih s h) h
        · have h := ite_f h c7
          refine ws_aload_n (pc := 45) C dX4_readNumber_45 rfl 0 rfl ?_
          refine ws_geti (pc := 46) C dX4_readNumber_46 fd_X4_28 sf_tape_5 ?_
          refine ws_bipush (pc := 49) C dX4_readNumber_49 cb_10 ?_
          refine ws_imul (pc := 51) C dX4_readNumber_51 ?_
          refine ws_aload_n (pc := 52) C dX4_readNumber_52 rfl 0 rfl ?_
          refine ws_getr (pc := 53) C dX4_readNumber_53 fd_X4_9 sf_tape_0 ?_
          refine ws_aload_n (pc := 56) C dX4_readNumber_56 rfl 0 rfl ?_
          refine ws_geti (pc := 57) C dX4_readNumber_57 fd_X4_25 sf_tape_4 ?_
          obtain ⟨g8, h⟩ := gd_ok h
          refine ws_ialdK (pc := 60) C dX4_readNumber_60 sr_bytes g8 rfl ?_
          refine ws_iadd (pc := 61) C dX4_readNumber_61 ?_
          refine ws_bipush (pc := 62) C dX4_readNumber_62 cb_48 ?_
          refine ws_isub (pc := 64) C dX4_readNumber_64 ?_
          refine ws_goto (pc := 65) (tgt := 72) C dX4_readNumber_65 (by decide) ?_
          refine ws_less [0] rfl ?_
          exact pX4_readNumber_J72 C R hk88 (fun s h => ih s h) h
set_option maxRecDepth 20000 in
set_option maxHeartbeats 4000000 in
theorem pX4_readNumber_J107 {Y : xY} {Z : xZ} {B : xB} {z : Int32 × xM} (C : xC (GX Y) Z B "BetweenStops$Tape" cX4_readNumber 1 2) (R : xRv (GX Y) B z) {t0 : Int32} {s : xM} (h : fX4_readNumber_J107 t0 s = some z) : xWS (GX Y) B 1 s [] 107 [.int t0, .ref (Y.1 77)] := by
  unfold fX4_readNumber_J107 at h
  obtain ⟨s1, e2, h⟩ := lz_ok h
  refine ws_putI (pc := 107) C dX4_readNumber_107 fp_X4_19 sf_tape_2 e2 ?_
  exact wr_v (pc := 110) C R dX4_readNumber_110 h
set_option maxRecDepth 20000 in
set_option maxHeartbeats 4000000 in
theorem mX4_readNumber {Y : xY} {Z : xZ} {s : xM} {z : Int32 × xM} (h : fX4_readNumber s = some z) : xMv (GX Y) Z yX4_readNumber cX4_readNumber 1 2 [.ref (Y.1 77)] s z := by
  refine xMv_of (by decide) (Nat.le_of_ble_eq_true rfl) (fun B C R => ?_)
  have C : xC (GX Y) Z B "BetweenStops$Tape" cX4_readNumber 1 2 := C
  show xWS (GX Y) B 1 s [(0, .ref (Y.1 77))] 0 []
  unfold fX4_readNumber at h
  refine ws_aload_n (pc := 0) C dX4_readNumber_0 rfl 0 rfl ?_
  refine ws_iconst (pc := 1) C dX4_readNumber_1 ci_0 ?_
  obtain ⟨s1, e2, h⟩ := lz_ok h
  refine ws_putI (pc := 2) C dX4_readNumber_2 fp_X4_28 sf_tape_5 e2 ?_
  refine ws_less [0] rfl ?_
  refine pX4_readNumber_L5 C R (fun s3 h => ?_) fu _ h
  · refine ws_aload_n (pc := 88) C dX4_readNumber_88 rfl 0 rfl ?_
    refine ws_aload_n (pc := 89) C dX4_readNumber_89 rfl 0 rfl ?_
    refine ws_geti (pc := 90) C dX4_readNumber_90 fd_X4_25 sf_tape_4 ?_
    refine ws_aload_n (pc := 93) C dX4_readNumber_93 rfl 0 rfl ?_
    refine ws_geti (pc := 94) C dX4_readNumber_94 fd_X4_22 sf_tape_3 ?_
    refine ws_isub (pc := 97) C dX4_readNumber_97 ?_
    refine ws_iconst (pc := 98) C dX4_readNumber_98 ci_4 ?_
    refine ws_icmp_le (pc := 99) (tgt := 106) C dX4_readNumber_99 (by decide) (fun c4 => ?_) (fun c4 => ?_)
    · have h := ite_t h c4
      refine ws_iconst (pc := 106) C dX4_readNumber_106 ci_2 ?_
      refine ws_less [] rfl ?_
      exact pX4_readNumber_J107 C R h
    · have h := ite_f h c4
      refine ws_iconst (pc := 102) C dX4_readNumber_102 ci_1 ?_
      refine ws_goto (pc := 103) (tgt := 107) C dX4_readNumber_103 (by decide) ?_
      refine ws_less [] rfl ?_
      exact pX4_readNumber_J107 C R h
set_option maxRecDepth 20000 in
set_option maxHeartbeats 4000000 in
theorem mX5_add {Y : xY} {Z : xZ} {a0 : Nat} {a1 : Int32} (ha0 : a0 < 6) {s : xM} {z : Int32 × xM} (h : fX5_add a0 a1 s = some z) : xMv (GX Y) Z yX5_add cX5_add 2 1 [.ref (Y.1 (97 + 4 * a0)), .int a1] s z := by
  refine xMv_of (by decide) (Nat.le_of_ble_eq_true rfl) (fun B C R => ?_)
  have C : xC (GX Y) Z B "BetweenStops$Text" cX5_add 2 1 := C
  show xWS (GX Y) B 2 s [(0, .ref (Y.1 (97 + 4 * a0))), (1, .int a1)] 0 []
  unfold fX5_add at h
  refine ws_aload_n (pc := 0) C dX5_add_0 rfl 0 rfl ?_
  refine ws_geti (pc := 1) C dX5_add_1 fd_X5_21 (sf_text_3 ha0) ?_
  refine ws_sipush (pc := 4) C dX5_add_4 cs_160 ?_
  refine ws_icmp_ge (pc := 7) (tgt := 30) C dX5_add_7 (by decide) (fun c1 => ?_) (fun c1 => ?_)
  · have h := ite_t h c1
    exact wr_v (pc := 30) C R dX5_add_30 h
  · have h := ite_f h c1
    refine ws_aload_n (pc := 10) C dX5_add_10 rfl 0 rfl ?_
    refine ws_getr (pc := 11) C dX5_add_11 fd_X5_9 (sf_text_0 ha0) ?_
    refine ws_aload_n (pc := 14) C dX5_add_14 rfl 0 rfl ?_
    refine ws_geti (pc := 15) C dX5_add_15 fd_X5_21 (sf_text_3 ha0) ?_
    refine ws_iload_n (pc := 18) C dX5_add_18 rfl 1 rfl ?_
    obtain ⟨g2, h⟩ := gd_ok h
    obtain ⟨s3, e4, h⟩ := lz_ok h
    refine ws_iastK (pc := 19) C dX5_add_19 (sr_codes ha0) g2 rfl e4 ?_
    refine ws_aload_n (pc := 20) C dX5_add_20 rfl 0 rfl ?_
    refine ws_dup (pc := 21) C dX5_add_21 rfl ?_
    refine ws_geti (pc := 22) C dX5_add_22 fd_X5_21 (sf_text_3 ha0) ?_
    refine ws_iconst (pc := 25) C dX5_add_25 ci_1 ?_
    refine ws_iadd (pc := 26) C dX5_add_26 ?_
    obtain ⟨s5, e6, h⟩ := lz_ok h
    refine ws_putI (pc := 27) C dX5_add_27 fp_X5_21 (sf_text_3 ha0) e6 ?_
    exact wr_v (pc := 30) C R dX5_add_30 h
set_option maxRecDepth 20000 in
set_option maxHeartbeats 4000000 in
theorem mX5_addNumber {Y : xY} {Z : xZ} {a0 : Nat} {a1 : Int32} (ha0 : a0 < 6) {s : xM} {z : Int32 × xM} (h : fX5_addNumber a0 a1 s = some z) : xMv (GX Y) Z yX5_addNumber cX5_addNumber 2 2 [.ref (Y.1 (97 + 4 * a0)), .int a1] s z := by
  refine xMv_of (by decide) (Nat.le_of_ble_eq_true rfl) (fun B C R => ?_)
  have C : xC (GX Y) Z B "BetweenStops$Text" cX5_addNumber 2 2 := C
  show xWS (GX Y) B 2 s [(0, .ref (Y.1 (97 + 4 * a0))), (1, .int a1)] 0 []
  unfold fX5_addNumber at h
  refine ws_aload_n (pc := 0) C dX5_addNumber_0 rfl 0 rfl ?_
  refine ws_iload_n (pc := 1) C dX5_addNumber_1 rfl 1 rfl ?_
  obtain ⟨r1, s2, q3, h⟩ := bd_ok h
  refine wc_vV (pc := 2)  C [.int a1] [] (mX5_add ha0 q3) dX5_addNumber_2 mw_X5_add mv_X5_add kl_X5_28 (so_text ha0) rfl rfl (Nat.le_of_ble_eq_true rfl) ⟨by decide, by decide⟩ ?_
  exact wr_v (pc := 5) C R dX5_addNumber_5 h
set_option maxRecDepth 20000 in
set_option maxHeartbeats 4000000 in
theorem mX5_addName {Y : xY} {Z : xZ} {a0 : Nat} {a1 : Int32} (ha0 : a0 < 6) {s : xM} {z : Int32 × xM} (h : fX5_addName a0 a1 s = some z) : xMv (GX Y) Z yX5_addName cX5_addName 2 2 [.ref (Y.1 (97 + 4 * a0)), .int a1] s z := by
  refine xMv_of (by decide) (Nat.le_of_ble_eq_true rfl) (fun B C R => ?_)
  have C : xC (GX Y) Z B "BetweenStops$Text" cX5_addName 2 2 := C
  show xWS (GX Y) B 2 s [(0, .ref (Y.1 (97 + 4 * a0))), (1, .int a1)] 0 []
  unfold fX5_addName at h
  refine ws_aload_n (pc := 0) C dX5_addName_0 rfl 0 rfl ?_
  refine ws_iconst (pc := 1) C dX5_addName_1 ci_m1 ?_
  refine ws_iload_n (pc := 2) C dX5_addName_2 rfl 1 rfl ?_
  refine ws_isub (pc := 3) C dX5_addName_3 ?_
  obtain ⟨r1, s2, q3, h⟩ := bd_ok h
  refine wc_vV (pc := 4)  C [.int ((-1 : Int32) - a1)] [] (mX5_add ha0 q3) dX5_addName_4 mw_X5_add mv_X5_add kl_X5_28 (so_text ha0) rfl rfl (Nat.le_of_ble_eq_true rfl) ⟨by decide, by decide⟩ ?_
  exact wr_v (pc := 7) C R dX5_addName_7 h
set_option maxRecDepth 20000 in
set_option maxHeartbeats 4000000 in
theorem mX5_addSign {Y : xY} {Z : xZ} {a0 : Nat} {a1 : Int32} (ha0 : a0 < 6) {s : xM} {z : Int32 × xM} (h : fX5_addSign a0 a1 s = some z) : xMv (GX Y) Z yX5_addSign cX5_addSign 2 2 [.ref (Y.1 (97 + 4 * a0)), .int a1] s z := by
  refine xMv_of (by decide) (Nat.le_of_ble_eq_true rfl) (fun B C R => ?_)
  have C : xC (GX Y) Z B "BetweenStops$Text" cX5_addSign 2 2 := C
  show xWS (GX Y) B 2 s [(0, .ref (Y.1 (97 + 4 * a0))), (1, .int a1)] 0 []
  unfold fX5_addSign at h
  refine ws_aload_n (pc := 0) C dX5_addSign_0 rfl 0 rfl ?_
  refine ws_bipush (pc := 1) C dX5_addSign_1 cb_m7 ?_
  refine ws_iload_n (pc := 3) C dX5_addSign_3 rfl 1 rfl ?_
  refine ws_isub (pc := 4) C dX5_addSign_4 ?_
  obtain ⟨r1, s2, q3, h⟩ := bd_ok h
  refine wc_vV (pc := 5)  C [.int ((-7 : Int32) - a1)] [] (mX5_add ha0 q3) dX5_addSign_5 mw_X5_add mv_X5_add kl_X5_28 (so_text ha0) rfl rfl (Nat.le_of_ble_eq_true rfl) ⟨by decide, by decide⟩ ?_
  exact wr_v (pc := 8) C R dX5_addSign_8 h
set_option maxRecDepth 20000 in
set_option maxHeartbeats 4000000 in
theorem mX1_joinsAt {Y : xY} {Z : xZ} {a0 : Int32} {a1 : Int32} {s : xM} {z : Int32 × xM} (h : fX1_joinsAt a0 a1 s = some z) : xMi (GX Y) Z yX1_joinsAt cX1_joinsAt 2 1 .boolean [.int a0, .int a1] s z := by
  refine xMi_of (by decide) (Nat.le_of_ble_eq_true rfl) (fun B C R => ?_)
  have C : xC (GX Y) Z B "BetweenStops$Reader" cX1_joinsAt 2 1 := C
  show xWS (GX Y) B 2 s [(0, .int a0), (1, .int a1)] 0 []
  unfold fX1_joinsAt at h
  refine ws_iload_n (pc := 0) C dX1_joinsAt_0 rfl 0 rfl ?_
  by_cases c1 : a0 = (0 : Int32)
  · have h := ite_t h c1
    refine ws_tab (pc := 1) (off := 35) (tgt := 36) C c1 dX1_joinsAt_1 (by decide) (by decide) (by decide) (by decide) ?_
    refine ws_iload_n (pc := 36) C dX1_joinsAt_36 rfl 1 rfl ?_
    refine ws_bipush (pc := 37) C dX1_joinsAt_37 cb_7 ?_
    refine ws_icmp_ne (pc := 39) (tgt := 46) C dX1_joinsAt_39 (by decide) (fun c2 => ?_) (fun c2 => ?_)
    · have h := ite_f h c2
      refine ws_iconst (pc := 46) C dX1_joinsAt_46 ci_0 ?_
      exact wr_i (pc := 47) C R dX1_joinsAt_47 (isZ_nar isZ0) h
    · have h := ite_t h c2
      refine ws_iconst (pc := 42) C dX1_joinsAt_42 ci_1 ?_
      refine ws_goto (pc := 43) (tgt := 47) C dX1_joinsAt_43 (by decide) ?_
      exact wr_i (pc := 47) C R dX1_joinsAt_47 (isZ_nar isZ1) h
  replace h := ite_f h c1
  by_cases c3 : a0 = (1 : Int32)
  · have h := ite_t h c3
    refine ws_tab (pc := 1) (off := 47) (tgt := 48) C c3 dX1_joinsAt_1 (by decide) (by decide) (by decide) (by decide) ?_
    refine ws_iload_n (pc := 48) C dX1_joinsAt_48 rfl 1 rfl ?_
    refine ws_bipush (pc := 49) C dX1_joinsAt_49 cb_8 ?_
    refine ws_icmp_ne (pc := 51) (tgt := 58) C dX1_joinsAt_51 (by decide) (fun c4 => ?_) (fun c4 => ?_)
    · have h := ite_f h c4
      refine ws_iconst (pc := 58) C dX1_joinsAt_58 ci_0 ?_
      exact wr_i (pc := 59) C R dX1_joinsAt_59 (isZ_nar isZ0) h
    · have h := ite_t h c4
      refine ws_iconst (pc := 54) C dX1_joinsAt_54 ci_1 ?_
      refine ws_goto (pc := 55) (tgt := 59) C dX1_joinsAt_55 (by decide) ?_
      exact wr_i (pc := 59) C R dX1_joinsAt_59 (isZ_nar isZ1) h
  replace h := ite_f h c3
  by_cases c5 : a0 = (2 : Int32)
  · have h := ite_t h c5
    refine ws_tab (pc := 1) (off := 59) (tgt := 60) C c5 dX1_joinsAt_1 (by decide) (by decide) (by decide) (by decide) ?_
    refine ws_iload_n (pc := 60) C dX1_joinsAt_60 rfl 1 rfl ?_
    refine ws_bipush (pc := 61) C dX1_joinsAt_61 cb_60 ?_
    refine ws_icmp_eq (pc := 63) (tgt := 72) C dX1_joinsAt_63 (by decide) (fun c6 => ?_) (fun c6 => ?_)
    · have h := ite_t h c6
      refine ws_iconst (pc := 72) C dX1_joinsAt_72 ci_1 ?_
      refine ws_goto (pc := 73) (tgt := 77) C dX1_joinsAt_73 (by decide) ?_
      exact wr_i (pc := 77) C R dX1_joinsAt_77 (isZ_nar isZ1) h
    · have h := ite_f h c6
      refine ws_iload_n (pc := 66) C dX1_joinsAt_66 rfl 1 rfl ?_
      refine ws_bipush (pc := 67) C dX1_joinsAt_67 cb_61 ?_
      refine ws_icmp_ne (pc := 69) (tgt := 76) C dX1_joinsAt_69 (by decide) (fun c7 => ?_) (fun c7 => ?_)
      · have h := ite_f h c7
        refine ws_iconst (pc := 76) C dX1_joinsAt_76 ci_0 ?_
        exact wr_i (pc := 77) C R dX1_joinsAt_77 (isZ_nar isZ0) h
      · have h := ite_t h c7
        refine ws_iconst (pc := 72) C dX1_joinsAt_72 ci_1 ?_
        refine ws_goto (pc := 73) (tgt := 77) C dX1_joinsAt_73 (by decide) ?_
        exact wr_i (pc := 77) C R dX1_joinsAt_77 (isZ_nar isZ1) h
  replace h := ite_f h c5
  by_cases c8 : a0 = (3 : Int32)
  · have h := ite_t h c8
    refine ws_tab (pc := 1) (off := 77) (tgt := 78) C c8 dX1_joinsAt_1 (by decide) (by decide) (by decide) (by decide) ?_
    refine ws_iload_n (pc := 78) C dX1_joinsAt_78 rfl 1 rfl ?_
    refine ws_bipush (pc := 79) C dX1_joinsAt_79 cb_43 ?_
    refine ws_icmp_eq (pc := 81) (tgt := 90) C dX1_joinsAt_81 (by decide) (fun c9 => ?_) (fun c9 => ?_)
    · have h := ite_t h c9
      refine ws_iconst (pc := 90) C dX1_joinsAt_90 ci_1 ?_
      refine ws_goto (pc := 91) (tgt := 95) C dX1_joinsAt_91 (by decide) ?_
      exact wr_i (pc := 95) C R dX1_joinsAt_95 (isZ_nar isZ1) h
    · have h := ite_f h c9
      refine ws_iload_n (pc := 84) C dX1_joinsAt_84 rfl 1 rfl ?_
      refine ws_bipush (pc := 85) C dX1_joinsAt_85 cb_45 ?_
      refine ws_icmp_ne (pc := 87) (tgt := 94) C dX1_joinsAt_87 (by decide) (fun c10 => ?_) (fun c10 => ?_)
      · have h := ite_f h c10
        refine ws_iconst (pc := 94) C dX1_joinsAt_94 ci_0 ?_
        exact wr_i (pc := 95) C R dX1_joinsAt_95 (isZ_nar isZ0) h
      · have h := ite_t h c10
        refine ws_iconst (pc := 90) C dX1_joinsAt_90 ci_1 ?_
        refine ws_goto (pc := 91) (tgt := 95) C dX1_joinsAt_91 (by decide) ?_
        exact wr_i (pc := 95) C R dX1_joinsAt_95 (isZ_nar isZ1) h
  replace h := ite_f h c8
  by_cases c11 : a0 = (4 : Int32)
  · have h := ite_t h c11
    refine ws_tab (pc := 1) (off := 95) (tgt := 96) C c11 dX1_joinsAt_1 (by decide) (by decide) (by decide) (by decide) ?_
    refine ws_iload_n (pc := 96) C dX1_joinsAt_96 rfl 1 rfl ?_
    refine ws_bipush (pc := 97) C dX1_joinsAt_97 cb_42 ?_
    refine ws_icmp_ne (pc := 99) (tgt := 106) C dX1_joinsAt_99 (by decide) (fun c12 => ?_) (fun c12 => ?_)
    · have h := ite_f h c12
      refine ws_iconst (pc := 106) C dX1_joinsAt_106 ci_0 ?_
      exact wr_i (pc := 107) C R dX1_joinsAt_107 (isZ_nar isZ0) h
    · have h := ite_t h c12
      refine ws_iconst (pc := 102) C dX1_joinsAt_102 ci_1 ?_
      refine ws_goto (pc := 103) (tgt := 107) C dX1_joinsAt_103 (by decide) ?_
      exact wr_i (pc := 107) C R dX1_joinsAt_107 (isZ_nar isZ1) h
  replace h := ite_f h c11
  have ec1 : ¬ (0 : Int) = (a0).toInt := fun q => lv_neT c1 (show (0 : Int32).toInt = 0 by decide) q.symm
  have ec3 : ¬ (1 : Int) = (a0).toInt := fun q => lv_neT c3 (show (1 : Int32).toInt = 1 by decide) q.symm
  have ec5 : ¬ (2 : Int) = (a0).toInt := fun q => lv_neT c5 (show (2 : Int32).toInt = 2 by decide) q.symm
  have ec8 : ¬ (3 : Int) = (a0).toInt := fun q => lv_neT c8 (show (3 : Int32).toInt = 3 by decide) q.symm
  have ec11 : ¬ (4 : Int) = (a0).toInt := fun q => lv_neT c11 (show (4 : Int32).toInt = 4 by decide) q.symm
  refine ws_tableOut (pc := 1) (tgt := 108) C dX1_joinsAt_1 (by omega) (by decide) ?_
  refine ws_iconst (pc := 108) C dX1_joinsAt_108 ci_0 ?_
  exact wr_i (pc := 109) C R dX1_joinsAt_109 (isZ_nar isZ0) h
set_option maxRecDepth 20000 in
set_option maxHeartbeats 4000000 in
theorem mX5_endPart {Y : xY} {Z : xZ} {a0 : Nat} (ha0 : a0 < 6) {s : xM} {z : Int32 × xM} (h : fX5_endPart a0 s = some z) : xMv (GX Y) Z yX5_endPart cX5_endPart 1 1 [.ref (Y.1 (97 + 4 * a0))] s z := by
  refine xMv_of (by decide) (Nat.le_of_ble_eq_true rfl) (fun B C R => ?_)
  have C : xC (GX Y) Z B "BetweenStops$Text" cX5_endPart 1 1 := C
  show xWS (GX Y) B 1 s [(0, .ref (Y.1 (97 + 4 * a0)))] 0 []
  unfold fX5_endPart at h
  refine ws_aload_n (pc := 0) C dX5_endPart_0 rfl 0 rfl ?_
  refine ws_geti (pc := 1) C dX5_endPart_1 fd_X5_25 (sf_text_4 ha0) ?_
  refine ws_iconst (pc := 4) C dX5_endPart_4 ci_3 ?_
  refine ws_icmp_ge (pc := 5) (tgt := 31) C dX5_endPart_5 (by decide) (fun c1 => ?_) (fun c1 => ?_)
  · have h := ite_t h c1
    exact wr_v (pc := 31) C R dX5_endPart_31 h
  · have h := ite_f h c1
    refine ws_aload_n (pc := 8) C dX5_endPart_8 rfl 0 rfl ?_
    refine ws_getr (pc := 9) C dX5_endPart_9 fd_X5_15 (sf_text_1 ha0) ?_
    refine ws_aload_n (pc := 12) C dX5_endPart_12 rfl 0 rfl ?_
    refine ws_geti (pc := 13) C dX5_endPart_13 fd_X5_25 (sf_text_4 ha0) ?_
    refine ws_aload_n (pc := 16) C dX5_endPart_16 rfl 0 rfl ?_
    refine ws_geti (pc := 17) C dX5_endPart_17 fd_X5_21 (sf_text_3 ha0) ?_
    obtain ⟨g2, h⟩ := gd_ok h
    obtain ⟨s3, e4, h⟩ := lz_ok h
    refine ws_iastK (pc := 20) C dX5_endPart_20 (sr_partEnds ha0) g2 rfl e4 ?_
    refine ws_aload_n (pc := 21) C dX5_endPart_21 rfl 0 rfl ?_
    refine ws_dup (pc := 22) C dX5_endPart_22 rfl ?_
    refine ws_geti (pc := 23) C dX5_endPart_23 fd_X5_25 (sf_text_4 ha0) ?_
    refine ws_iconst (pc := 26) C dX5_endPart_26 ci_1 ?_
    refine ws_iadd (pc := 27) C dX5_endPart_27 ?_
    obtain ⟨s5, e6, h⟩ := lz_ok h
    refine ws_putI (pc := 28) C dX5_endPart_28 fp_X5_25 (sf_text_4 ha0) e6 ?_
    exact wr_v (pc := 31) C R dX5_endPart_31 h
set_option maxRecDepth 20000 in
set_option maxHeartbeats 4000000 in
theorem pJ7_fill_53178_L5 {Y : xY} {Z : xZ} {B : xB} {z : Int32 × xM} (C : xC (GX Y) Z B "java/util/Arrays" cJ7_fill_53178 4 1) (R : xRv (GX Y) B z) {k20 : xM → Option (Int32 × xM)} {a0c : Nat} {a0n : Nat} {a1 : Int32} {a3 : Int32}
    (hk20 : ∀  (s : xM), k20 s = some z → xWS (GX Y) B 4 s [] 20 []) (ha0 : xSr LX NX a0c 0 a0n) : ∀ (n : Nat) (a2 : Int32) (s : xM), fJ7_fill_53178_L5 k20 a0c a0n a1 a3 n a2 s = some z → xWS (GX Y) B 4 s [(0, .ref (Y.1 a0c)), (1, .int a1), (2, .int a2), (3, .int a3)] 5 [] := by
  intro n
  induction n with
  | zero =>
    intro a2 s h
    rw [fJ7_fill_53178_L5] at h
    cases h
  | succ n ih =>
    intro a2 s h
    rw [fJ7_fill_53178_L5] at h
    refine ws_iload_n (pc := 5) C dJ7_fill_53178_5 rfl 2 rfl ?_
    refine ws_iload_n (pc := 6) C dJ7_fill_53178_6 rfl 3 rfl ?_
    refine ws_icmp_ge (pc := 7) (tgt := 20) C dJ7_fill_53178_7 (by decide) (fun c1 => ?_) (fun c1 => ?_)
    · have h := ite_t h c1
      refine ws_less [] rfl ?_
      exact hk20 _ h
    · have h := ite_f h c1
      refine ws_aload_n (pc := 10) C dJ7_fill_53178_10 rfl 0 rfl ?_
      refine ws_iload_n (pc := 11) C dJ7_fill_53178_11 rfl 2 rfl ?_
      refine ws_iload_n (pc := 12) C dJ7_fill_53178_12 rfl 1 rfl ?_
      obtain ⟨g2, h⟩ := gd_ok h
      obtain ⟨s3, e4, h⟩ := lz_ok h
      refine ws_iastK (pc := 13) C dJ7_fill_53178_13 ha0 g2 rfl e4 ?_
      refine ws_iinc (j := 2) (pc := 14) C dJ7_fill_53178_14 rfl (cn_1 _) (by decide) rfl ?_
      refine ws_goto (pc := 17) (tgt := 5) C dJ7_fill_53178_17 (by decide) ?_
      refine ws_less [1, 2, 0, 3] rfl ?_
      exact ih _ _ h
set_option maxRecDepth 20000 in
set_option maxHeartbeats 4000000 in
theorem mJ7_fill_53178 {Y : xY} {Z : xZ} {a0c : Nat} {a0n : Nat} {a1 : Int32} (ha0 : xSr LX NX a0c 0 a0n) {s : xM} {z : Int32 × xM} (h : fJ7_fill_53178 a0c a0n a1 s = some z) : xMv (GX Y) Z yJ7_fill_53178 cJ7_fill_53178 4 1 [.ref (Y.1 a0c), .int a1] s z := by
  refine xMv_of (by decide) (Nat.le_of_ble_eq_true rfl) (fun B C R => ?_)
  have C : xC (GX Y) Z B "java/util/Arrays" cJ7_fill_53178 4 1 := C
  show xWS (GX Y) B 4 s [(0, .ref (Y.1 a0c)), (1, .int a1)] 0 []
  unfold fJ7_fill_53178 at h
  refine ws_iconst (pc := 0) C dJ7_fill_53178_0 ci_0 ?_
  refine ws_istore_n (pc := 1) C dJ7_fill_53178_1 rfl (by decide) rfl ?_
  refine ws_aload_n (pc := 2) C dJ7_fill_53178_2 rfl 1 rfl ?_
  refine ws_alen (pc := 3) C dJ7_fill_53178_3 ha0 (by decide) rfl ?_
  obtain ⟨v1, e2, h⟩ := lz_ok h
  refine ws_topi C e2 ?_
  refine ws_istore_n (pc := 4) C dJ7_fill_53178_4 rfl (by decide) rfl ?_
  refine ws_less [2, 3, 1, 0] rfl ?_
  refine pJ7_fill_53178_L5 C R (fun s3 h => ?_) ha0 fu _ _ h
  · exact wr_v (pc := 20) C R dJ7_fill_53178_20 h
set_option maxRecDepth 20000 in
set_option maxHeartbeats 4000000 in
theorem mX2_begin {Y : xY} {Z : xZ} {a0 : Nat} {a1 : Int32} {a2 : Int32} (ha0 : a0 < 4) {s : xM} {z : Int32 × xM} (h : fX2_begin a0 a1 a2 s = some z) : xMv (GX Y) Z yX2_begin cX2_begin 3 2 [.ref (Y.1 (121 + 2 * a0)), .int a1, .int a2] s z := by
  refine xMv_of (by decide) (Nat.le_of_ble_eq_true rfl) (fun B C R => ?_)
  have C : xC (GX Y) Z B "BetweenStops$Sheet" cX2_begin 3 2 := C
  show xWS (GX Y) B 3 s [(0, .ref (Y.1 (121 + 2 * a0))), (1, .int a1), (2, .int a2)] 0 []
  unfold fX2_begin at h
  refine ws_aload_n (pc := 0) C dX2_begin_0 rfl 0 rfl ?_
  refine ws_iload_n (pc := 1) C dX2_begin_1 rfl 1 rfl ?_
  obtain ⟨s1, e2, h⟩ := lz_ok h
  refine ws_putI (pc := 2) C dX2_begin_2 fp_X2_15 (sf_sheet_1 ha0) e2 ?_
  refine ws_aload_n (pc := 5) C dX2_begin_5 rfl 0 rfl ?_
  refine ws_iload_n (pc := 6) C dX2_begin_6 rfl 2 rfl ?_
  obtain ⟨s3, e4, h⟩ := lz_ok h
  refine ws_putI (pc := 7) C dX2_begin_7 fp_X2_19 (sf_sheet_2 ha0) e4 ?_
  refine ws_aload_n (pc := 10) C dX2_begin_10 rfl 0 rfl ?_
  refine ws_getr (pc := 11) C dX2_begin_11 fd_X2_9 (sf_sheet_0 ha0) ?_
  refine ws_iconst (pc := 14) C dX2_begin_14 ci_0 ?_
  obtain ⟨r5, s6, q7, h⟩ := bd_ok h
  refine wc_vS (pc := 15)  C [.ref (Y.1 (122 + 2 * a0)), .int (0 : Int32)] [] (mJ7_fill_53178 (sr_row ha0) q7) dX2_begin_15 mw_J7_fill_53178 ks_J7_fill_53178 kl_X2_22 rfl rfl (Nat.le_of_ble_eq_true rfl) ⟨by decide, by decide⟩ ?_
  exact wr_v (pc := 18) C R dX2_begin_18 h
set_option maxRecDepth 20000 in
set_option maxHeartbeats 4000000 in
theorem mX2_isMissing {Y : xY} {Z : xZ} {a0 : Nat} (ha0 : a0 < 4) {s : xM} {z : Int32 × xM} (h : fX2_isMissing a0 s = some z) : xMi (GX Y) Z yX2_isMissing cX2_isMissing 1 1 .boolean [.ref (Y.1 (121 + 2 * a0))] s z := by
  refine xMi_of (by decide) (Nat.le_of_ble_eq_true rfl) (fun B C R => ?_)
  have C : xC (GX Y) Z B "BetweenStops$Sheet" cX2_isMissing 1 1 := C
  show xWS (GX Y) B 1 s [(0, .ref (Y.1 (121 + 2 * a0)))] 0 []
  unfold fX2_isMissing at h
  refine ws_aload_n (pc := 0) C dX2_isMissing_0 rfl 0 rfl ?_
  refine ws_geti (pc := 1) C dX2_isMissing_1 fd_X2_15 (sf_sheet_1 ha0) ?_
  refine ws_iconst (pc := 4) C dX2_isMissing_4 ci_m1 ?_
  refine ws_icmp_ne (pc := 5) (tgt := 12) C dX2_isMissing_5 (by decide) (fun c1 => ?_) (fun c1 => ?_)
  · have h := ite_f h c1
    refine ws_iconst (pc := 12) C dX2_isMissing_12 ci_0 ?_
    exact wr_i (pc := 13) C R dX2_isMissing_13 (isZ_nar isZ0) h
  · have h := ite_t h c1
    refine ws_iconst (pc := 8) C dX2_isMissing_8 ci_1 ?_
    refine ws_goto (pc := 9) (tgt := 13) C dX2_isMissing_9 (by decide) ?_
    exact wr_i (pc := 13) C R dX2_isMissing_13 (isZ_nar isZ1) h
set_option maxRecDepth 20000 in
set_option maxHeartbeats 4000000 in
theorem mX2_holds {Y : xY} {Z : xZ} {a0 : Nat} {a1 : Int32} (ha0 : a0 < 4) {s : xM} {z : Int32 × xM} (h : fX2_holds a0 a1 s = some z) : xMi (GX Y) Z yX2_holds cX2_holds 2 1 .boolean [.ref (Y.1 (121 + 2 * a0)), .int a1] s z := by
  refine xMi_of (by decide) (Nat.le_of_ble_eq_true rfl) (fun B C R => ?_)
  have C : xC (GX Y) Z B "BetweenStops$Sheet" cX2_holds 2 1 := C
  show xWS (GX Y) B 2 s [(0, .ref (Y.1 (121 + 2 * a0))), (1, .int a1)] 0 []
  unfold fX2_holds at h
  refine ws_iload_n (pc := 0) C dX2_holds_0 rfl 1 rfl ?_
  refine ws_if_lt (pc := 1) (tgt := 16) C dX2_holds_1 (by decide) (fun c1 => ?_) (fun c1 => ?_)
  · have h := ite_t h c1
    refine ws_iconst (pc := 16) C dX2_holds_16 ci_0 ?_
    exact wr_i (pc := 17) C R dX2_holds_17 (isZ_nar isZ0) h
  · have h := ite_f h c1
    refine ws_iload_n (pc := 4) C dX2_holds_4 rfl 1 rfl ?_
    refine ws_aload_n (pc := 5) C dX2_holds_5 rfl 0 rfl ?_
    refine ws_geti (pc := 6) C dX2_holds_6 fd_X2_19 (sf_sheet_2 ha0) ?_
    refine ws_icmp_ge (pc := 9) (tgt := 16) C dX2_holds_9 (by decide) (fun c2 => ?_) (fun c2 => ?_)
    · have h := ite_t h c2
      refine ws_iconst (pc := 16) C dX2_holds_16 ci_0 ?_
      exact wr_i (pc := 17) C R dX2_holds_17 (isZ_nar isZ0) h
    · have h := ite_f h c2
      refine ws_iconst (pc := 12) C dX2_holds_12 ci_1 ?_
      refine ws_goto (pc := 13) (tgt := 17) C dX2_holds_13 (by decide) ?_
      exact wr_i (pc := 17) C R dX2_holds_17 (isZ_nar isZ1) h
set_option maxRecDepth 20000 in
set_option maxHeartbeats 4000000 in
theorem mX2_holdsRow {Y : xY} {Z : xZ} {a0 : Nat} {a1 : Int32} {a2 : Int32} (ha0 : a0 < 4) {s : xM} {z : Int32 × xM} (h : fX2_holdsRow a0 a1 a2 s = some z) : xMi (GX Y) Z yX2_holdsRow cX2_holdsRow 3 1 .boolean [.ref (Y.1 (121 + 2 * a0)), .int a1, .int a2] s z := by
  refine xMi_of (by decide) (Nat.le_of_ble_eq_true rfl) (fun B C R => ?_)
  have C : xC (GX Y) Z B "BetweenStops$Sheet" cX2_holdsRow 3 1 := C
  show xWS (GX Y) B 3 s [(0, .ref (Y.1 (121 + 2 * a0))), (1, .int a1), (2, .int a2)] 0 []
  unfold fX2_holdsRow at h
  refine ws_iload_n (pc := 0) C dX2_holdsRow_0 rfl 1 rfl ?_
  refine ws_if_lt (pc := 1) (tgt := 30) C dX2_holdsRow_1 (by decide) (fun c1 => ?_) (fun c1 => ?_)
  · have h := ite_t h c1
    refine ws_iconst (pc := 30) C dX2_holdsRow_30 ci_0 ?_
    exact wr_i (pc := 31) C R dX2_holdsRow_31 (isZ_nar isZ0) h
  · have h := ite_f h c1
    refine ws_iload_n (pc := 4) C dX2_holdsRow_4 rfl 2 rfl ?_
    refine ws_if_lt (pc := 5) (tgt := 30) C dX2_holdsRow_5 (by decide) (fun c2 => ?_) (fun c2 => ?_)
    · have h := ite_t h c2
      refine ws_iconst (pc := 30) C dX2_holdsRow_30 ci_0 ?_
      exact wr_i (pc := 31) C R dX2_holdsRow_31 (isZ_nar isZ0) h
    · have h := ite_f h c2
      refine ws_iload_n (pc := 8) C dX2_holdsRow_8 rfl 1 rfl ?_
      refine ws_aload_n (pc := 9) C dX2_holdsRow_9 rfl 0 rfl ?_
      refine ws_geti (pc := 10) C dX2_holdsRow_10 fd_X2_19 (sf_sheet_2 ha0) ?_
      refine ws_icmp_gt (pc := 13) (tgt := 30) C dX2_holdsRow_13 (by decide) (fun c3 => ?_) (fun c3 => ?_)
      · have h := ite_t h c3
        refine ws_iconst (pc := 30) C dX2_holdsRow_30 ci_0 ?_
        exact wr_i (pc := 31) C R dX2_holdsRow_31 (isZ_nar isZ0) h
      · have h := ite_f h c3
        refine ws_iload_n (pc := 16) C dX2_holdsRow_16 rfl 2 rfl ?_
        refine ws_aload_n (pc := 17) C dX2_holdsRow_17 rfl 0 rfl ?_
        refine ws_geti (pc := 18) C dX2_holdsRow_18 fd_X2_19 (sf_sheet_2 ha0) ?_
        refine ws_iload_n (pc := 21) C dX2_holdsRow_21 rfl 1 rfl ?_
        refine ws_isub (pc := 22) C dX2_holdsRow_22 ?_
        refine ws_icmp_gt (pc := 23) (tgt := 30) C dX2_holdsRow_23 (by decide) (fun c4 => ?_) (fun c4 => ?_)
        · have h := ite_t h c4
          refine ws_iconst (pc := 30) C dX2_holdsRow_30 ci_0 ?_
          exact wr_i (pc := 31) C R dX2_holdsRow_31 (isZ_nar isZ0) h
        · have h := ite_f h c4
          refine ws_iconst (pc := 26) C dX2_holdsRow_26 ci_1 ?_
          refine ws_goto (pc := 27) (tgt := 31) C dX2_holdsRow_27 (by decide) ?_
          exact wr_i (pc := 31) C R dX2_holdsRow_31 (isZ_nar isZ1) h
set_option maxRecDepth 20000 in
set_option maxHeartbeats 4000000 in
theorem pX2_write_J31 {Y : xY} {Z : xZ} {B : xB} {z : Int32 × xM} (C : xC (GX Y) Z B "BetweenStops$Sheet" cX2_write 3 1) (R : xRv (GX Y) B z) {t0 : Int32} {t1 : Int32} {t2 : Nat} (ht2 : t2 < 4) {s : xM} (h : fX2_write_J31 t0 t1 t2 s = some z) : xWS (GX Y) B 3 s [] 31 [.int t0, .int t1, .ref (Y.1 (122 + 2 * t2))] := by
  unfold fX2_write_J31 at h
  obtain ⟨g1, h⟩ := gd_ok h
  obtain ⟨s2, e3, h⟩ := lz_ok h
  refine ws_iastK (pc := 31) C dX2_write_31 (sr_row ht2) g1 rfl e3 ?_
  exact wr_v (pc := 32) C R dX2_write_32 h
set_option maxRecDepth 20000 in
set_option maxHeartbeats 4000000 in
theorem mX2_write {Y : xY} {Z : xZ} {a0 : Nat} {a1 : Int32} {a2 : Int32} (ha0 : a0 < 4) {s : xM} {z : Int32 × xM} (h : fX2_write a0 a1 a2 s = some z) : xMv (GX Y) Z yX2_write cX2_write 3 1 [.ref (Y.1 (121 + 2 * a0)), .int a1, .int a2] s z := by
  refine xMv_of (by decide) (Nat.le_of_ble_eq_true rfl) (fun B C R => ?_)
  have C : xC (GX Y) Z B "BetweenStops$Sheet" cX2_write 3 1 := C
  show xWS (GX Y) B 3 s [(0, .ref (Y.1 (121 + 2 * a0))), (1, .int a1), (2, .int a2)] 0 []
  unfold fX2_write at h
  refine ws_aload_n (pc := 0) C dX2_write_0 rfl 0 rfl ?_
  refine ws_getr (pc := 1) C dX2_write_1 fd_X2_9 (sf_sheet_0 ha0) ?_
  refine ws_iload_n (pc := 4) C dX2_write_4 rfl 1 rfl ?_
  refine ws_aload_n (pc := 5) C dX2_write_5 rfl 0 rfl ?_
  refine ws_geti (pc := 6) C dX2_write_6 fd_X2_15 (sf_sheet_1 ha0) ?_
  refine ws_if_ne (pc := 9) (tgt := 17) C dX2_write_9 (by decide) (fun c1 => ?_) (fun c1 => ?_)
  · have h := ite_f h c1
    refine ws_aload_n (pc := 17) C dX2_write_17 rfl 0 rfl ?_
    refine ws_geti (pc := 18) C dX2_write_18 fd_X2_15 (sf_sheet_1 ha0) ?_
    refine ws_iconst (pc := 21) C dX2_write_21 ci_1 ?_
    refine ws_icmp_ne (pc := 22) (tgt := 30) C dX2_write_22 (by decide) (fun c2 => ?_) (fun c2 => ?_)
    · have h := ite_f h c2
      refine ws_iload_n (pc := 30) C dX2_write_30 rfl 2 rfl ?_
      refine ws_less [] rfl ?_
      exact pX2_write_J31 C R ha0 h
    · have h := ite_t h c2
      refine ws_iload_n (pc := 25) C dX2_write_25 rfl 2 rfl ?_
      refine ws_i2s (pc := 26) C dX2_write_26 ?_
      refine ws_goto (pc := 27) (tgt := 31) C dX2_write_27 (by decide) ?_
      refine ws_less [] rfl ?_
      exact pX2_write_J31 C R ha0 h
  · have h := ite_t h c1
    refine ws_iload_n (pc := 12) C dX2_write_12 rfl 2 rfl ?_
    refine ws_i2b (pc := 13) C dX2_write_13 ?_
    refine ws_goto (pc := 14) (tgt := 31) C dX2_write_14 (by decide) ?_
    refine ws_less [] rfl ?_
    exact pX2_write_J31 C R ha0 h
set_option maxRecDepth 20000 in
set_option maxHeartbeats 4000000 in
theorem mX9_isWithin {Y : xY} {Z : xZ} {a0 : Int32} {a1 : Int32} {a2 : Int32} {s : xM} {z : Int32 × xM} (h : fX9_isWithin a0 a1 a2 s = some z) : xMi (GX Y) Z yX9_isWithin cX9_isWithin 3 1 .boolean [.int a0, .int a1, .int a2] s z := by
  refine xMi_of (by decide) (Nat.le_of_ble_eq_true rfl) (fun B C R => ?_)
  have C : xC (GX Y) Z B "BetweenStops" cX9_isWithin 3 1 := C
  show xWS (GX Y) B 3 s [(0, .int a0), (1, .int a1), (2, .int a2)] 0 []
  unfold fX9_isWithin at h
  refine ws_iload_n (pc := 0) C dX9_isWithin_0 rfl 0 rfl ?_
  refine ws_iload_n (pc := 1) C dX9_isWithin_1 rfl 1 rfl ?_
  refine ws_icmp_lt (pc := 2) (tgt := 14) C dX9_isWithin_2 (by decide) (fun c1 => ?_) (fun c1 => ?_)
  · have h := ite_t h c1
    refine ws_iconst (pc := 14) C dX9_isWithin_14 ci_0 ?_
    exact wr_i (pc := 15) C R dX9_isWithin_15 (isZ_nar isZ0) h
  · have h := ite_f h c1
    refine ws_iload_n (pc := 5) C dX9_isWithin_5 rfl 0 rfl ?_
    refine ws_iload_n (pc := 6) C dX9_isWithin_6 rfl 2 rfl ?_
    refine ws_icmp_gt (pc := 7) (tgt := 14) C dX9_isWithin_7 (by decide) (fun c2 => ?_) (fun c2 => ?_)
    · have h := ite_t h c2
      refine ws_iconst (pc := 14) C dX9_isWithin_14 ci_0 ?_
      exact wr_i (pc := 15) C R dX9_isWithin_15 (isZ_nar isZ0) h
    · have h := ite_f h c2
      refine ws_iconst (pc := 10) C dX9_isWithin_10 ci_1 ?_
      refine ws_goto (pc := 11) (tgt := 15) C dX9_isWithin_11 (by decide) ?_
      exact wr_i (pc := 15) C R dX9_isWithin_15 (isZ_nar isZ1) h
set_option maxRecDepth 20000 in
set_option maxHeartbeats 4000000 in
theorem mX9_isKind {Y : xY} {Z : xZ} {a0 : Int32} {s : xM} {z : Int32 × xM} (h : fX9_isKind a0 s = some z) : xMi (GX Y) Z yX9_isKind cX9_isKind 1 2 .boolean [.int a0] s z := by
  refine xMi_of (by decide) (Nat.le_of_ble_eq_true rfl) (fun B C R => ?_)
  have C : xC (GX Y) Z B "BetweenStops" cX9_isKind 1 2 := C
  show xWS (GX Y) B 1 s [(0, .int a0)] 0 []
  unfold fX9_isKind at h
  refine ws_iload_n (pc := 0) C dX9_isKind_0 rfl 0 rfl ?_
  refine ws_iconst (pc := 1) C dX9_isKind_1 ci_0 ?_
  refine ws_iconst (pc := 2) C dX9_isKind_2 ci_5 ?_
  obtain ⟨r1, s2, q3, h⟩ := bd_ok h
  refine wc_iS (pc := 3)  C [.int a0, .int (0 : Int32), .int (5 : Int32)] [] (mX9_isWithin q3) dX9_isKind_3 mw_X9_isWithin ks_X9_isWithin kl_X9_111 rfl rfl (Nat.le_of_ble_eq_true rfl) ⟨by decide, by decide⟩ ?_
  obtain ⟨g4, h⟩ := gd_ok h
  exact wr_i (pc := 6) C R dX9_isKind_6 (isZ_nar g4) h
set_option maxRecDepth 20000 in
set_option maxHeartbeats 4000000 in
theorem pX3_begin_J22 {Y : xY} {Z : xZ} {B : xB} {z : Int32 × xM} (C : xC (GX Y) Z B "BetweenStops$Stop" cX3_begin 5 3) (R : xRv (GX Y) B z) {a0 : Nat} {a2 : Int32} {a3 : Int32} {a4 : Int32} {t0 : Int32} {t1 : Nat} (ha0 : a0 < 8) (ht1 : t1 < 8) {s : xM} (h : fX3_begin_J22 a0 a2 a3 a4 t0 t1 s = some z) : xWS (GX Y) B 5 s [(0, .ref (Y.1 (11 + a0))), (2, .int a2), (3, .int a3), (4, .int a4)] 22 [.int t0, .ref (Y.1 (11 + t1))] := by
  unfold fX3_begin_J22 at h
  obtain ⟨s1, e2, h⟩ := lz_ok h
  refine ws_putI (pc := 22) C dX3_begin_22 fp_X3_23 (sf_stop_1 ht1) e2 ?_
  refine ws_aload_n (pc := 25) C dX3_begin_25 rfl 0 rfl ?_
  refine ws_iload_n (pc := 26) C dX3_begin_26 rfl 1 rfl ?_
  obtain ⟨s3, e4, h⟩ := lz_ok h
  refine ws_putI (pc := 27) C dX3_begin_27 fp_X3_26 (sf_stop_2 ha0) e4 ?_
  refine ws_aload_n (pc := 30) C dX3_begin_30 rfl 0 rfl ?_
  refine ws_iload_n (pc := 31) C dX3_begin_31 rfl 2 rfl ?_
  obtain ⟨s5, e6, h⟩ := lz_ok h
  refine ws_putI (pc := 32) C dX3_begin_32 fp_X3_29 (sf_stop_3 ha0) e6 ?_
  refine ws_aload_n (pc := 35) C dX3_begin_35 rfl 0 rfl ?_
  refine ws_iload (pc := 36) C dX3_begin_36 3 rfl ?_
  obtain ⟨s7, e8, h⟩ := lz_ok h
  refine ws_putI (pc := 38) C dX3_begin_38 fp_X3_32 (sf_stop_4 ha0) e8 ?_
  refine ws_aload_n (pc := 41) C dX3_begin_41 rfl 0 rfl ?_
  refine ws_iconst (pc := 42) C dX3_begin_42 ci_1 ?_
  obtain ⟨s9, e10, h⟩ := lz_ok h
  refine ws_putZ (pc := 43) C dX3_begin_43 fp_X3_35 (sf_stop_5 ha0) isZ1 e10 ?_
  refine ws_aload_n (pc := 46) C dX3_begin_46 rfl 0 rfl ?_
  refine ws_iconst (pc := 47) C dX3_begin_47 ci_5 ?_
  obtain ⟨s11, e12, h⟩ := lz_ok h
  refine ws_putI (pc := 48) C dX3_begin_48 fp_X3_39 (sf_stop_6 ha0) e12 ?_
  refine ws_aload_n (pc := 51) C dX3_begin_51 rfl 0 rfl ?_
  refine ws_iconst (pc := 52) C dX3_begin_52 ci_0 ?_
  obtain ⟨s13, e14, h⟩ := lz_ok h
  refine ws_putI (pc := 53) C dX3_begin_53 fp_X3_42 (sf_stop_7 ha0) e14 ?_
  exact wr_v (pc := 56) C R dX3_begin_56 h
set_option maxRecDepth 20000 in
set_option maxHeartbeats 4000000 in
theorem mX3_begin {Y : xY} {Z : xZ} {a0 : Nat} {a1 : Int32} {a2 : Int32} {a3 : Int32} {a4 : Int32} (ha0 : a0 < 8) {s : xM} {z : Int32 × xM} (h : fX3_begin a0 a1 a2 a3 a4 s = some z) : xMv (GX Y) Z yX3_begin cX3_begin 5 3 [.ref (Y.1 (11 + a0)), .int a1, .int a2, .int a3, .int a4] s z := by
  refine xMv_of (by decide) (Nat.le_of_ble_eq_true rfl) (fun B C R => ?_)
  have C : xC (GX Y) Z B "BetweenStops$Stop" cX3_begin 5 3 := C
  show xWS (GX Y) B 5 s [(0, .ref (Y.1 (11 + a0))), (1, .int a1), (2, .int a2), (3, .int a3), (4, .int a4)] 0 []
  unfold fX3_begin at h
  refine ws_aload_n (pc := 0) C dX3_begin_0 rfl 0 rfl ?_
  refine ws_iload_n (pc := 1) C dX3_begin_1 rfl 1 rfl ?_
  obtain ⟨s1, e2, h⟩ := lz_ok h
  refine ws_putI (pc := 2) C dX3_begin_2 fp_X3_9 (sf_stop_0 ha0) e2 ?_
  refine ws_aload_n (pc := 5) C dX3_begin_5 rfl 0 rfl ?_
  refine ws_iload_n (pc := 6) C dX3_begin_6 rfl 1 rfl ?_
  obtain ⟨r3, s4, q5, h⟩ := bd_ok h
  refine wc_iSN (pc := 7)  C [.int a1] [.ref (Y.1 (11 + a0))] (mX9_isKind q5) dX3_begin_7 mw_X9_isKind ks_X9_isKind kn_X3_15 rfl rfl (Nat.le_of_ble_eq_true rfl) ⟨by decide, by decide⟩ ?_
  refine ws_if_eq (pc := 10) (tgt := 21) C dX3_begin_10 (by decide) (fun c6 => ?_) (fun c6 => ?_)
  · have h := ite_t h c6
    refine ws_iconst (pc := 21) C dX3_begin_21 ci_0 ?_
    refine ws_less [0, 2, 3, 4] rfl ?_
    exact pX3_begin_J22 C R ha0 ha0 h
  · have h := ite_f h c6
    refine ws_getsN (i := 3) (pc := 13) C dX3_begin_13 rfl kg_X3_19 ?_
    refine ws_iload_n (pc := 16) C dX3_begin_16 rfl 1 rfl ?_
    obtain ⟨g7, h⟩ := gd_ok h
    refine ws_saldK (i := 3) (pc := 17) C dX3_begin_17 rfl rfl g7 rfl ?_
    refine ws_goto (pc := 18) (tgt := 22) C dX3_begin_18 (by decide) ?_
    refine ws_less [0, 2, 3, 4] rfl ?_
    exact pX3_begin_J22 C R ha0 ha0 h
set_option maxRecDepth 20000 in
set_option maxHeartbeats 4000000 in
theorem mX3_isOf {Y : xY} {Z : xZ} {a0 : Nat} {a1 : Int32} (ha0 : a0 < 8) {s : xM} {z : Int32 × xM} (h : fX3_isOf a0 a1 s = some z) : xMi (GX Y) Z yX3_isOf cX3_isOf 2 1 .boolean [.ref (Y.1 (11 + a0)), .int a1] s z := by
  refine xMi_of (by decide) (Nat.le_of_ble_eq_true rfl) (fun B C R => ?_)
  have C : xC (GX Y) Z B "BetweenStops$Stop" cX3_isOf 2 1 := C
  show xWS (GX Y) B 2 s [(0, .ref (Y.1 (11 + a0))), (1, .int a1)] 0 []
  unfold fX3_isOf at h
  refine ws_iload_n (pc := 0) C dX3_isOf_0 rfl 1 rfl ?_
  refine ws_aload_n (pc := 1) C dX3_isOf_1 rfl 0 rfl ?_
  refine ws_geti (pc := 2) C dX3_isOf_2 fd_X3_9 (sf_stop_0 ha0) ?_
  refine ws_icmp_eq (pc := 5) (tgt := 20) C dX3_isOf_5 (by decide) (fun c1 => ?_) (fun c1 => ?_)
  · have h := ite_t h c1
    refine ws_iconst (pc := 20) C dX3_isOf_20 ci_1 ?_
    refine ws_goto (pc := 21) (tgt := 25) C dX3_isOf_21 (by decide) ?_
    exact wr_i (pc := 25) C R dX3_isOf_25 (isZ_nar isZ1) h
  · have h := ite_f h c1
    refine ws_iload_n (pc := 8) C dX3_isOf_8 rfl 1 rfl ?_
    refine ws_aload_n (pc := 9) C dX3_isOf_9 rfl 0 rfl ?_
    refine ws_geti (pc := 10) C dX3_isOf_10 fd_X3_23 (sf_stop_1 ha0) ?_
    refine ws_icmp_eq (pc := 13) (tgt := 20) C dX3_isOf_13 (by decide) (fun c2 => ?_) (fun c2 => ?_)
    · have h := ite_t h c2
      refine ws_iconst (pc := 20) C dX3_isOf_20 ci_1 ?_
      refine ws_goto (pc := 21) (tgt := 25) C dX3_isOf_21 (by decide) ?_
      exact wr_i (pc := 25) C R dX3_isOf_25 (isZ_nar isZ1) h
    · have h := ite_f h c2
      refine ws_iload_n (pc := 16) C dX3_isOf_16 rfl 1 rfl ?_
      refine ws_if_ne (pc := 17) (tgt := 24) C dX3_isOf_17 (by decide) (fun c3 => ?_) (fun c3 => ?_)
      · have h := ite_f h c3
        refine ws_iconst (pc := 24) C dX3_isOf_24 ci_0 ?_
        exact wr_i (pc := 25) C R dX3_isOf_25 (isZ_nar isZ0) h
      · have h := ite_t h c3
        refine ws_iconst (pc := 20) C dX3_isOf_20 ci_1 ?_
        refine ws_goto (pc := 21) (tgt := 25) C dX3_isOf_21 (by decide) ?_
        exact wr_i (pc := 25) C R dX3_isOf_25 (isZ_nar isZ1) h
set_option maxRecDepth 20000 in
set_option maxHeartbeats 4000000 in
theorem mX3_secondsIf {Y : xY} {Z : xZ} {a0 : Nat} {a1 : Int32} (ha0 : a0 < 8) {s : xM} {z : Int32 × xM} (h : fX3_secondsIf a0 a1 s = some z) : xMi (GX Y) Z yX3_secondsIf cX3_secondsIf 2 1 .int [.ref (Y.1 (11 + a0)), .int a1] s z := by
  refine xMi_of (by decide) (Nat.le_of_ble_eq_true rfl) (fun B C R => ?_)
  have C : xC (GX Y) Z B "BetweenStops$Stop" cX3_secondsIf 2 1 := C
  show xWS (GX Y) B 2 s [(0, .ref (Y.1 (11 + a0))), (1, .int a1)] 0 []
  unfold fX3_secondsIf at h
  refine ws_aload_n (pc := 0) C dX3_secondsIf_0 rfl 0 rfl ?_
  refine ws_geti (pc := 1) C dX3_secondsIf_1 fd_X3_9 (sf_stop_0 ha0) ?_
  by_cases c1 : (gi s (11 + a0) 0) = (1 : Int32)
  · have h := ite_t h c1
    refine ws_tab (pc := 4) (off := 36) (tgt := 40) C c1 dX3_secondsIf_4 (by decide) (by decide) (by decide) (by decide) ?_
    refine ws_aload_n (pc := 40) C dX3_secondsIf_40 rfl 0 rfl ?_
    refine ws_geti (pc := 41) C dX3_secondsIf_41 fd_X3_29 (sf_stop_3 ha0) ?_
    refine ws_iload_n (pc := 44) C dX3_secondsIf_44 rfl 1 rfl ?_
    refine ws_imul (pc := 45) C dX3_secondsIf_45 ?_
    refine ws_bipush (pc := 46) C dX3_secondsIf_46 cb_10 ?_
    refine ws_idiv (pc := 48) C dX3_secondsIf_48 (by decide) ?_
    exact wr_i (pc := 49) C R dX3_secondsIf_49 rfl h
  replace h := ite_f h c1
  by_cases c2 : (gi s (11 + a0) 0) = (2 : Int32)
  · have h := ite_t h c2
    refine ws_tab (pc := 4) (off := 78) (tgt := 82) C c2 dX3_secondsIf_4 (by decide) (by decide) (by decide) (by decide) ?_
    refine ws_aload_n (pc := 82) C dX3_secondsIf_82 rfl 0 rfl ?_
    refine ws_geti (pc := 83) C dX3_secondsIf_83 fd_X3_29 (sf_stop_3 ha0) ?_
    exact wr_i (pc := 86) C R dX3_secondsIf_86 rfl h
  replace h := ite_f h c2
  by_cases c3 : (gi s (11 + a0) 0) = (3 : Int32)
  · have h := ite_t h c3
    refine ws_tab (pc := 4) (off := 46) (tgt := 50) C c3 dX3_secondsIf_4 (by decide) (by decide) (by decide) (by decide) ?_
    refine ws_aload_n (pc := 50) C dX3_secondsIf_50 rfl 0 rfl ?_
    refine ws_geti (pc := 51) C dX3_secondsIf_51 fd_X3_29 (sf_stop_3 ha0) ?_
    refine ws_aload_n (pc := 54) C dX3_secondsIf_54 rfl 0 rfl ?_
    refine ws_geti (pc := 55) C dX3_secondsIf_55 fd_X3_32 (sf_stop_4 ha0) ?_
    refine ws_iadd (pc := 58) C dX3_secondsIf_58 ?_
    exact wr_i (pc := 59) C R dX3_secondsIf_59 rfl h
  replace h := ite_f h c3
  by_cases c4 : (gi s (11 + a0) 0) = (4 : Int32)
  · have h := ite_t h c4
    refine ws_tab (pc := 4) (off := 56) (tgt := 60) C c4 dX3_secondsIf_4 (by decide) (by decide) (by decide) (by decide) ?_
    refine ws_aload_n (pc := 60) C dX3_secondsIf_60 rfl 0 rfl ?_
    refine ws_geti (pc := 61) C dX3_secondsIf_61 fd_X3_29 (sf_stop_3 ha0) ?_
    refine ws_iconst (pc := 64) C dX3_secondsIf_64 ci_2 ?_
    refine ws_idiv (pc := 65) C dX3_secondsIf_65 (by decide) ?_
    exact wr_i (pc := 66) C R dX3_secondsIf_66 rfl h
  replace h := ite_f h c4
  by_cases c5 : (gi s (11 + a0) 0) = (5 : Int32)
  · have h := ite_t h c5
    refine ws_tab (pc := 4) (off := 63) (tgt := 67) C c5 dX3_secondsIf_4 (by decide) (by decide) (by decide) (by decide) ?_
    refine ws_aload_n (pc := 67) C dX3_secondsIf_67 rfl 0 rfl ?_
    refine ws_geti (pc := 68) C dX3_secondsIf_68 fd_X3_29 (sf_stop_3 ha0) ?_
    refine ws_iload_n (pc := 71) C dX3_secondsIf_71 rfl 1 rfl ?_
    refine ws_imul (pc := 72) C dX3_secondsIf_72 ?_
    refine ws_bipush (pc := 73) C dX3_secondsIf_73 cb_10 ?_
    refine ws_idiv (pc := 75) C dX3_secondsIf_75 (by decide) ?_
    refine ws_aload_n (pc := 76) C dX3_secondsIf_76 rfl 0 rfl ?_
    refine ws_geti (pc := 77) C dX3_secondsIf_77 fd_X3_32 (sf_stop_4 ha0) ?_
    refine ws_iadd (pc := 80) C dX3_secondsIf_80 ?_
    exact wr_i (pc := 81) C R dX3_secondsIf_81 rfl h
  replace h := ite_f h c5
  have ec1 : ¬ (1 : Int) = ((gi s (11 + a0) 0)).toInt := fun q => lv_neT c1 (show (1 : Int32).toInt = 1 by decide) q.symm
  have ec2 : ¬ (2 : Int) = ((gi s (11 + a0) 0)).toInt := fun q => lv_neT c2 (show (2 : Int32).toInt = 2 by decide) q.symm
  have ec3 : ¬ (3 : Int) = ((gi s (11 + a0) 0)).toInt := fun q => lv_neT c3 (show (3 : Int32).toInt = 3 by decide) q.symm
  have ec4 : ¬ (4 : Int) = ((gi s (11 + a0) 0)).toInt := fun q => lv_neT c4 (show (4 : Int32).toInt = 4 by decide) q.symm
  have ec5 : ¬ (5 : Int) = ((gi s (11 + a0) 0)).toInt := fun q => lv_neT c5 (show (5 : Int32).toInt = 5 by decide) q.symm
  refine ws_tableOut (pc := 4) (tgt := 82) C dX3_secondsIf_4 (by omega) (by decide) ?_
  refine ws_aload_n (pc := 82) C dX3_secondsIf_82 rfl 0 rfl ?_
  refine ws_geti (pc := 83) C dX3_secondsIf_83 fd_X3_29 (sf_stop_3 ha0) ?_
  exact wr_i (pc := 86) C R dX3_secondsIf_86 rfl h
set_option maxRecDepth 20000 in
set_option maxHeartbeats 4000000 in
theorem mX3_secondsDrawn {Y : xY} {Z : xZ} {a0 : Nat} {a1 : Int32} (ha0 : a0 < 8) {s : xM} {z : Int32 × xM} (h : fX3_secondsDrawn a0 a1 s = some z) : xMi (GX Y) Z yX3_secondsDrawn cX3_secondsDrawn 2 2 .int [.ref (Y.1 (11 + a0)), .int a1] s z := by
  refine xMi_of (by decide) (Nat.le_of_ble_eq_true rfl) (fun B C R => ?_)
  have C : xC (GX Y) Z B "BetweenStops$Stop" cX3_secondsDrawn 2 2 := C
  show xWS (GX Y) B 2 s [(0, .ref (Y.1 (11 + a0))), (1, .int a1)] 0 []
  unfold fX3_secondsDrawn at h
  refine ws_aload_n (pc := 0) C dX3_secondsDrawn_0 rfl 0 rfl ?_
  refine ws_iconst (pc := 1) C dX3_secondsDrawn_1 ci_1 ?_
  obtain ⟨r1, s2, q3, h⟩ := bd_ok h
  refine wc_iV (pc := 2)  C [.int (1 : Int32)] [] (mX3_isOf ha0 q3) dX3_secondsDrawn_2 mw_X3_isOf mv_X3_isOf kl_X3_45 (so_stop ha0) rfl rfl (Nat.le_of_ble_eq_true rfl) ⟨by decide, by decide⟩ ?_
  refine ws_if_ne (pc := 5) (tgt := 17) C dX3_secondsDrawn_5 (by decide) (fun c4 => ?_) (fun c4 => ?_)
  · have h := ite_f h c4
    refine ws_iload_n (pc := 17) C dX3_secondsDrawn_17 rfl 1 rfl ?_
    refine ws_aload_n (pc := 18) C dX3_secondsDrawn_18 rfl 0 rfl ?_
    refine ws_geti (pc := 19) C dX3_secondsDrawn_19 fd_X3_39 (sf_stop_6 ha0) ?_
    refine ws_icmp_ge (pc := 22) (tgt := 34) C dX3_secondsDrawn_22 (by decide) (fun c5 => ?_) (fun c5 => ?_)
    · have h := ite_t h c5
      refine ws_iconst (pc := 34) C dX3_secondsDrawn_34 ci_0 ?_
      exact wr_i (pc := 35) C R dX3_secondsDrawn_35 rfl h
    · have h := ite_f h c5
      refine ws_aload_n (pc := 25) C dX3_secondsDrawn_25 rfl 0 rfl ?_
      refine ws_bipush (pc := 26) C dX3_secondsDrawn_26 cb_10 ?_
      obtain ⟨r6, s7, q8, h⟩ := bd_ok h
      refine wc_iV (pc := 28)  C [.int (10 : Int32)] [] (mX3_secondsIf ha0 q8) dX3_secondsDrawn_28 mw_X3_secondsIf mv_X3_secondsIf kl_X3_48 (so_stop ha0) rfl rfl (Nat.le_of_ble_eq_true rfl) ⟨by decide, by decide⟩ ?_
      refine ws_goto (pc := 31) (tgt := 35) C dX3_secondsDrawn_31 (by decide) ?_
      exact wr_i (pc := 35) C R dX3_secondsDrawn_35 rfl h
  · have h := ite_t h c4
    refine ws_aload_n (pc := 8) C dX3_secondsDrawn_8 rfl 0 rfl ?_
    refine ws_aload_n (pc := 9) C dX3_secondsDrawn_9 rfl 0 rfl ?_
    refine ws_geti (pc := 10) C dX3_secondsDrawn_10 fd_X3_39 (sf_stop_6 ha0) ?_
    obtain ⟨r9, s10, q11, h⟩ := bd_ok h
    refine wc_iV (pc := 13)  C [.int (gi s2 (11 + a0) 6)] [] (mX3_secondsIf ha0 q11) dX3_secondsDrawn_13 mw_X3_secondsIf mv_X3_secondsIf kl_X3_48 (so_stop ha0) rfl rfl (Nat.le_of_ble_eq_true rfl) ⟨by decide, by decide⟩ ?_
    exact wr_i (pc := 16) C R dX3_secondsDrawn_16 rfl h
set_option maxRecDepth 20000 in
set_option maxHeartbeats 4000000 in
theorem pX3_carsServed_J24 {Y : xY} {Z : xZ} {B : xB} {z : Int32 × xM} (C : xC (GX Y) Z B "BetweenStops$Stop" cX3_carsServed 2 2) (R : xRi (GX Y) B .int z) {a0 : Nat} {t0 : Int32} (ha0 : a0 < 8) {s : xM} (h : fX3_carsServed_J24 a0 t0 s = some z) : xWS (GX Y) B 2 s [(0, .ref (Y.1 (11 + a0)))] 24 [.int t0] := by
  unfold fX3_carsServed_J24 at h
  refine ws_istore_n (pc := 24) C dX3_carsServed_24 rfl (by decide) rfl ?_
  refine ws_aload_n (pc := 25) C dX3_carsServed_25 rfl 1 rfl ?_
  refine ws_geti (pc := 26) C dX3_carsServed_26 fd_X3_9 (sf_stop_0 ha0) ?_
  refine ws_iconst (pc := 29) C dX3_carsServed_29 ci_4 ?_
  refine ws_icmp_ne (pc := 30) (tgt := 39) C dX3_carsServed_30 (by decide) (fun c1 => ?_) (fun c1 => ?_)
  · have h := ite_f h c1
    refine ws_iload_n (pc := 39) C dX3_carsServed_39 rfl 0 rfl ?_
    exact wr_i (pc := 40) C R dX3_carsServed_40 rfl h
  · have h := ite_t h c1
    refine ws_iconst (pc := 33) C dX3_carsServed_33 ci_3 ?_
    refine ws_iload_n (pc := 34) C dX3_carsServed_34 rfl 0 rfl ?_
    refine ws_isub (pc := 35) C dX3_carsServed_35 ?_
    refine ws_goto (pc := 36) (tgt := 40) C dX3_carsServed_36 (by decide) ?_
    exact wr_i (pc := 40) C R dX3_carsServed_40 rfl h
set_option maxRecDepth 20000 in
set_option maxHeartbeats 4000000 in
theorem mX3_carsServed {Y : xY} {Z : xZ} {a0 : Nat} (ha0 : a0 < 8) {s : xM} {z : Int32 × xM} (h : fX3_carsServed a0 s = some z) : xMi (GX Y) Z yX3_carsServed cX3_carsServed 2 2 .int [.ref (Y.1 (11 + a0))] s z := by
  refine xMi_of (by decide) (Nat.le_of_ble_eq_true rfl) (fun B C R => ?_)
  have C : xC (GX Y) Z B "BetweenStops$Stop" cX3_carsServed 2 2 := C
  show xWS (GX Y) B 2 s [(0, .ref (Y.1 (11 + a0)))] 0 []
  unfold fX3_carsServed at h
  refine ws_aload_n (pc := 0) C dX3_carsServed_0 rfl 0 rfl ?_
  refine ws_iconst (pc := 1) C dX3_carsServed_1 ci_2 ?_
  obtain ⟨r1, s2, q3, h⟩ := bd_ok h
  refine wc_iV (pc := 2)  C [.int (2 : Int32)] [] (mX3_isOf ha0 q3) dX3_carsServed_2 mw_X3_isOf mv_X3_isOf kl_X3_45 (so_stop ha0) rfl rfl (Nat.le_of_ble_eq_true rfl) ⟨by decide, by decide⟩ ?_
  refine ws_if_ne (pc := 5) (tgt := 10) C dX3_carsServed_5 (by decide) (fun c4 => ?_) (fun c4 => ?_)
  · have h := ite_f h c4
    refine ws_aload_n (pc := 10) C dX3_carsServed_10 rfl 0 rfl ?_
    refine ws_geti (pc := 11) C dX3_carsServed_11 fd_X3_32 (sf_stop_4 ha0) ?_
    refine ws_iconst (pc := 14) C dX3_carsServed_14 ci_2 ?_
    refine ws_irem (pc := 15) C dX3_carsServed_15 (by decide) ?_
    refine ws_if_ne (pc := 16) (tgt := 23) C dX3_carsServed_16 (by decide) (fun c5 => ?_) (fun c5 => ?_)
    · have h := ite_f h c5
      refine ws_iconst (pc := 23) C dX3_carsServed_23 ci_2 ?_
      refine ws_less [0] rfl ?_
      exact pX3_carsServed_J24 C R ha0 h
    · have h := ite_t h c5
      refine ws_iconst (pc := 19) C dX3_carsServed_19 ci_1 ?_
      refine ws_goto (pc := 20) (tgt := 24) C dX3_carsServed_20 (by decide) ?_
      refine ws_less [0] rfl ?_
      exact pX3_carsServed_J24 C R ha0 h
  · have h := ite_t h c4
    refine ws_iconst (pc := 8) C dX3_carsServed_8 ci_3 ?_
    exact wr_i (pc := 9) C R dX3_carsServed_9 rfl h
set_option maxRecDepth 20000 in
set_option maxHeartbeats 4000000 in
theorem mX3_carsBy {Y : xY} {Z : xZ} {a0 : Nat} {a1 : Int32} (ha0 : a0 < 8) {s : xM} {z : Int32 × xM} (h : fX3_carsBy a0 a1 s = some z) : xMi (GX Y) Z yX3_carsBy cX3_carsBy 2 3 .int [.ref (Y.1 (11 + a0)), .int a1] s z := by
  refine xMi_of (by decide) (Nat.le_of_ble_eq_true rfl) (fun B C R => ?_)
  have C : xC (GX Y) Z B "BetweenStops$Stop" cX3_carsBy 2 3 := C
  show xWS (GX Y) B 2 s [(0, .ref (Y.1 (11 + a0))), (1, .int a1)] 0 []
  unfold fX3_carsBy at h
  refine ws_aload_n (pc := 0) C dX3_carsBy_0 rfl 0 rfl ?_
  obtain ⟨r1, s2, q3, h⟩ := bd_ok h
  refine wc_iV (pc := 1)  C [] [] (mX3_carsServed ha0 q3) dX3_carsBy_1 mw_X3_carsServed mv_X3_carsServed kl_X3_52 (so_stop ha0) rfl rfl (Nat.le_of_ble_eq_true rfl) ⟨by decide, by decide⟩ ?_
  refine ws_iload_n (pc := 4) C dX3_carsBy_4 rfl 1 rfl ?_
  refine ws_if_ne (pc := 5) (tgt := 12) C dX3_carsBy_5 (by decide) (fun c4 => ?_) (fun c4 => ?_)
  · have h := ite_f h c4
    refine ws_iload_n (pc := 12) C dX3_carsBy_12 rfl 1 rfl ?_
    refine ws_iand (pc := 13) C dX3_carsBy_13 ?_
    exact wr_i (pc := 14) C R dX3_carsBy_14 rfl h
  · have h := ite_t h c4
    refine ws_iconst (pc := 8) C dX3_carsBy_8 ci_3 ?_
    refine ws_goto (pc := 9) (tgt := 13) C dX3_carsBy_9 (by decide) ?_
    refine ws_iand (pc := 13) C dX3_carsBy_13 ?_
    exact wr_i (pc := 14) C R dX3_carsBy_14 rfl h
set_option maxRecDepth 20000 in
set_option maxHeartbeats 4000000 in
theorem mX4_append {Y : xY} {Z : xZ} {a1 : Int32} {s : xM} {z : Int32 × xM} (h : fX4_append a1 s = some z) : xMv (GX Y) Z yX4_append cX4_append 2 1 [.ref (Y.1 77), .int a1] s z := by
  refine xMv_of (by decide) (Nat.le_of_ble_eq_true rfl) (fun B C R => ?_)
  have C : xC (GX Y) Z B "BetweenStops$Tape" cX4_append 2 1 := C
  show xWS (GX Y) B 2 s [(0, .ref (Y.1 77)), (1, .int a1)] 0 []
  unfold fX4_append at h
  refine ws_aload_n (pc := 0) C dX4_append_0 rfl 0 rfl ?_
  refine ws_geti (pc := 1) C dX4_append_1 fd_X4_15 sf_tape_1 ?_
  refine ws_sipush (pc := 4) C dX4_append_4 cs_160 ?_
  refine ws_icmp_ge (pc := 7) (tgt := 30) C dX4_append_7 (by decide) (fun c1 => ?_) (fun c1 => ?_)
  · have h := ite_t h c1
    exact wr_v (pc := 30) C R dX4_append_30 h
  · have h := ite_f h c1
    refine ws_aload_n (pc := 10) C dX4_append_10 rfl 0 rfl ?_
    refine ws_getr (pc := 11) C dX4_append_11 fd_X4_9 sf_tape_0 ?_
    refine ws_aload_n (pc := 14) C dX4_append_14 rfl 0 rfl ?_
    refine ws_geti (pc := 15) C dX4_append_15 fd_X4_15 sf_tape_1 ?_
    refine ws_iload_n (pc := 18) C dX4_append_18 rfl 1 rfl ?_
    obtain ⟨g2, h⟩ := gd_ok h
    obtain ⟨s3, e4, h⟩ := lz_ok h
    refine ws_iastK (pc := 19) C dX4_append_19 sr_bytes g2 rfl e4 ?_
    refine ws_aload_n (pc := 20) C dX4_append_20 rfl 0 rfl ?_
    refine ws_dup (pc := 21) C dX4_append_21 rfl ?_
    refine ws_geti (pc := 22) C dX4_append_22 fd_X4_15 sf_tape_1 ?_
    refine ws_iconst (pc := 25) C dX4_append_25 ci_1 ?_
    refine ws_iadd (pc := 26) C dX4_append_26 ?_
    obtain ⟨s5, e6, h⟩ := lz_ok h
    refine ws_putI (pc := 27) C dX4_append_27 fp_X4_15 sf_tape_1 e6 ?_
    exact wr_v (pc := 30) C R dX4_append_30 h
set_option maxRecDepth 20000 in
set_option maxHeartbeats 4000000 in
theorem mX9_asNumber {Y : xY} {Z : xZ} {a0 : Int32} {s : xM} {z : Int32 × xM} (h : fX9_asNumber a0 s = some z) : xMi (GX Y) Z yX9_asNumber cX9_asNumber 1 1 .int [.int a0] s z := by
  refine xMi_of (by decide) (Nat.le_of_ble_eq_true rfl) (fun B C R => ?_)
  have C : xC (GX Y) Z B "BetweenStops" cX9_asNumber 1 1 := C
  show xWS (GX Y) B 1 s [(0, .int a0)] 0 []
  unfold fX9_asNumber at h
  refine ws_iload_n (pc := 0) C dX9_asNumber_0 rfl 0 rfl ?_
  refine ws_if_eq (pc := 1) (tgt := 8) C dX9_asNumber_1 (by decide) (fun c1 => ?_) (fun c1 => ?_)
  · have h := ite_t h c1
    refine ws_iconst (pc := 8) C dX9_asNumber_8 ci_0 ?_
    exact wr_i (pc := 9) C R dX9_asNumber_9 rfl h
  · have h := ite_f h c1
    refine ws_iconst (pc := 4) C dX9_asNumber_4 ci_1 ?_
    refine ws_goto (pc := 5) (tgt := 9) C dX9_asNumber_5 (by decide) ?_
    exact wr_i (pc := 9) C R dX9_asNumber_9 rfl h
set_option maxRecDepth 20000 in
set_option maxHeartbeats 4000000 in
theorem mX5_joined {Y : xY} {Z : xZ} {a0 : Int32} {a1 : Int32} {a2 : Int32} {s : xM} {z : Int32 × xM} (h : fX5_joined a0 a1 a2 s = some z) : xMi (GX Y) Z yX5_joined cX5_joined 3 1 .int [.int a0, .int a1, .int a2] s z := by
  refine xMi_of (by decide) (Nat.le_of_ble_eq_true rfl) (fun B C R => ?_)
  have C : xC (GX Y) Z B "BetweenStops$Text" cX5_joined 3 1 := C
  show xWS (GX Y) B 3 s [(0, .int a0), (1, .int a1), (2, .int a2)] 0 []
  unfold fX5_joined at h
  refine ws_iload_n (pc := 0) C dX5_joined_0 rfl 0 rfl ?_
  by_cases c1 : a0 = (7 : Int32)
  · have h := ite_t h c1
    refine ws_lku (pc := 1) (off := 59) (tgt := 60) C c1 dX5_joined_1 (by decide) (by decide) (by decide) ?_
    refine ws_iload_n (pc := 60) C dX5_joined_60 rfl 1 rfl ?_
    refine ws_if_ne (pc := 61) (tgt := 68) C dX5_joined_61 (by decide) (fun c2 => ?_) (fun c2 => ?_)
    · have h := ite_f h c2
      refine ws_iconst (pc := 68) C dX5_joined_68 ci_1 ?_
      refine ws_goto (pc := 69) (tgt := 73) C dX5_joined_69 (by decide) ?_
      exact wr_i (pc := 73) C R dX5_joined_73 rfl h
    · have h := ite_t h c2
      refine ws_iload_n (pc := 64) C dX5_joined_64 rfl 2 rfl ?_
      refine ws_if_eq (pc := 65) (tgt := 72) C dX5_joined_65 (by decide) (fun c3 => ?_) (fun c3 => ?_)
      · have h := ite_t h c3
        refine ws_iconst (pc := 72) C dX5_joined_72 ci_0 ?_
        exact wr_i (pc := 73) C R dX5_joined_73 rfl h
      · have h := ite_f h c3
        refine ws_iconst (pc := 68) C dX5_joined_68 ci_1 ?_
        refine ws_goto (pc := 69) (tgt := 73) C dX5_joined_69 (by decide) ?_
        exact wr_i (pc := 73) C R dX5_joined_73 rfl h
  replace h := ite_f h c1
  by_cases c4 : a0 = (8 : Int32)
  · have h := ite_t h c4
    refine ws_lku (pc := 1) (off := 73) (tgt := 74) C c4 dX5_joined_1 (by decide) (by decide) (by decide) ?_
    refine ws_iload_n (pc := 74) C dX5_joined_74 rfl 1 rfl ?_
    refine ws_if_eq (pc := 75) (tgt := 86) C dX5_joined_75 (by decide) (fun c5 => ?_) (fun c5 => ?_)
    · have h := ite_t h c5
      refine ws_iconst (pc := 86) C dX5_joined_86 ci_0 ?_
      exact wr_i (pc := 87) C R dX5_joined_87 rfl h
    · have h := ite_f h c5
      refine ws_iload_n (pc := 78) C dX5_joined_78 rfl 2 rfl ?_
      refine ws_if_eq (pc := 79) (tgt := 86) C dX5_joined_79 (by decide) (fun c6 => ?_) (fun c6 => ?_)
      · have h := ite_t h c6
        refine ws_iconst (pc := 86) C dX5_joined_86 ci_0 ?_
        exact wr_i (pc := 87) C R dX5_joined_87 rfl h
      · have h := ite_f h c6
        refine ws_iconst (pc := 82) C dX5_joined_82 ci_1 ?_
        refine ws_goto (pc := 83) (tgt := 87) C dX5_joined_83 (by decide) ?_
        exact wr_i (pc := 87) C R dX5_joined_87 rfl h
  replace h := ite_f h c4
  by_cases c7 : a0 = (43 : Int32)
  · have h := ite_t h c7
    refine ws_lku (pc := 1) (off := 109) (tgt := 110) C c7 dX5_joined_1 (by decide) (by decide) (by decide) ?_
    refine ws_iload_n (pc := 110) C dX5_joined_110 rfl 1 rfl ?_
    refine ws_iload_n (pc := 111) C dX5_joined_111 rfl 2 rfl ?_
    refine ws_iadd (pc := 112) C dX5_joined_112 ?_
    exact wr_i (pc := 113) C R dX5_joined_113 rfl h
  replace h := ite_f h c7
  by_cases c8 : a0 = (45 : Int32)
  · have h := ite_t h c8
    refine ws_lku (pc := 1) (off := 113) (tgt := 114) C c8 dX5_joined_1 (by decide) (by decide) (by decide) ?_
    refine ws_iload_n (pc := 114) C dX5_joined_114 rfl 1 rfl ?_
    refine ws_iload_n (pc := 115) C dX5_joined_115 rfl 2 rfl ?_
    refine ws_isub (pc := 116) C dX5_joined_116 ?_
    exact wr_i (pc := 117) C R dX5_joined_117 rfl h
  replace h := ite_f h c8
  by_cases c9 : a0 = (60 : Int32)
  · have h := ite_t h c9
    refine ws_lku (pc := 1) (off := 87) (tgt := 88) C c9 dX5_joined_1 (by decide) (by decide) (by decide) ?_
    refine ws_iload_n (pc := 88) C dX5_joined_88 rfl 1 rfl ?_
    refine ws_iload_n (pc := 89) C dX5_joined_89 rfl 2 rfl ?_
    refine ws_icmp_ge (pc := 90) (tgt := 97) C dX5_joined_90 (by decide) (fun c10 => ?_) (fun c10 => ?_)
    · have h := ite_t h c10
      refine ws_iconst (pc := 97) C dX5_joined_97 ci_0 ?_
      exact wr_i (pc := 98) C R dX5_joined_98 rfl h
    · have h := ite_f h c10
      refine ws_iconst (pc := 93) C dX5_joined_93 ci_1 ?_
      refine ws_goto (pc := 94) (tgt := 98) C dX5_joined_94 (by decide) ?_
      exact wr_i (pc := 98) C R dX5_joined_98 rfl h
  replace h := ite_f h c9
  by_cases c11 : a0 = (61 : Int32)
  · have h := ite_t h c11
    refine ws_lku (pc := 1) (off := 98) (tgt := 99) C c11 dX5_joined_1 (by decide) (by decide) (by decide) ?_
    refine ws_iload_n (pc := 99) C dX5_joined_99 rfl 1 rfl ?_
    refine ws_iload_n (pc := 100) C dX5_joined_100 rfl 2 rfl ?_
    refine ws_icmp_ne (pc := 101) (tgt := 108) C dX5_joined_101 (by decide) (fun c12 => ?_) (fun c12 => ?_)
    · have h := ite_f h c12
      refine ws_iconst (pc := 108) C dX5_joined_108 ci_0 ?_
      exact wr_i (pc := 109) C R dX5_joined_109 rfl h
    · have h := ite_t h c12
      refine ws_iconst (pc := 104) C dX5_joined_104 ci_1 ?_
      refine ws_goto (pc := 105) (tgt := 109) C dX5_joined_105 (by decide) ?_
      exact wr_i (pc := 109) C R dX5_joined_109 rfl h
  replace h := ite_f h c11
  have ec1 : ¬ (7 : Int) = (a0).toInt := fun q => lv_neT c1 (show (7 : Int32).toInt = 7 by decide) q.symm
  have ec4 : ¬ (8 : Int) = (a0).toInt := fun q => lv_neT c4 (show (8 : Int32).toInt = 8 by decide) q.symm
  have ec7 : ¬ (43 : Int) = (a0).toInt := fun q => lv_neT c7 (show (43 : Int32).toInt = 43 by decide) q.symm
  have ec8 : ¬ (45 : Int) = (a0).toInt := fun q => lv_neT c8 (show (45 : Int32).toInt = 45 by decide) q.symm
  have ec9 : ¬ (60 : Int) = (a0).toInt := fun q => lv_neT c9 (show (60 : Int32).toInt = 60 by decide) q.symm
  have ec11 : ¬ (61 : Int) = (a0).toInt := fun q => lv_neT c11 (show (61 : Int32).toInt = 61 by decide) q.symm
  refine ws_lookup (pc := 1) (off := 117) (tgt := 118) C dX5_joined_1 (by decide) (by simp [Op.lookupswitch.offset, ec1, ec4, ec7, ec8, ec9, ec11]) (by decide) ?_
  refine ws_iload_n (pc := 118) C dX5_joined_118 rfl 1 rfl ?_
  refine ws_iload_n (pc := 119) C dX5_joined_119 rfl 2 rfl ?_
  refine ws_imul (pc := 120) C dX5_joined_120 ?_
  exact wr_i (pc := 121) C R dX5_joined_121 rfl h
set_option maxRecDepth 20000 in
set_option maxHeartbeats 4000000 in
theorem pX5_step_J107 {Y : xY} {Z : xZ} {B : xB} {z : Int32 × xM} (C : xC (GX Y) Z B "BetweenStops$Text" cX5_step 5 2) (R : xRi (GX Y) B .int z) {a2 : Int32} {t0 : Int32} {t1 : Int32} {t2 : Nat} (ht2 : t2 < 6) {s : xM} (h : fX5_step_J107 a2 t0 t1 t2 s = some z) : xWS (GX Y) B 5 s [(2, .int a2)] 107 [.int t0, .int t1, .ref (Y.1 (100 + 4 * t2))] := by
  unfold fX5_step_J107 at h
  obtain ⟨g1, h⟩ := gd_ok h
  obtain ⟨s2, e3, h⟩ := lz_ok h
  refine ws_iastK (pc := 107) C dX5_step_107 (sr_stack ht2) g1 rfl e3 ?_
  refine ws_iload_n (pc := 108) C dX5_step_108 rfl 0 rfl ?_
  exact wr_i (pc := 109) C R dX5_step_109 rfl h
set_option maxRecDepth 20000 in
set_option maxHeartbeats 4000000 in
theorem pX5_step_J92 {Y : xY} {Z : xZ} {B : xB} {z : Int32 × xM} (C : xC (GX Y) Z B "BetweenStops$Text" cX5_step 5 2) (R : xRi (GX Y) B .int z) {a2 : Int32} {t0 : Int32} {t1 : Int32} {t2 : Nat} (ht2 : t2 < 6) {s : xM} (h : fX5_step_J92 a2 t0 t1 t2 s = some z) : xWS (GX Y) B 5 s [(2, .int a2)] 92 [.int t0, .int t1, .ref (Y.1 (100 + 4 * t2))] := by
  unfold fX5_step_J92 at h
  obtain ⟨r1, s2, q3, h⟩ := bd_ok h
  refine wc_iSN (pc := 92)  C [.int t0] [.int t1, .ref (Y.1 (100 + 4 * t2))] (mX9_asNumber q3) dX5_step_92 mw_X9_asNumber ks_X9_asNumber kn_X5_36 rfl rfl (Nat.le_of_ble_eq_true rfl) ⟨by decide, by decide⟩ ?_
  refine ws_goto (pc := 95) (tgt := 107) C dX5_step_95 (by decide) ?_
  refine ws_less [0] rfl ?_
  exact pX5_step_J107 C R ht2 h
set_option maxRecDepth 20000 in
set_option maxHeartbeats 4000000 in
theorem pX5_step_J57 {Y : xY} {Z : xZ} {B : xB} {z : Int32 × xM} (C : xC (GX Y) Z B "BetweenStops$Text" cX5_step 5 2) (R : xRi (GX Y) B .int z) {a0 : Nat} {a2 : Int32} {a4 : Int32} (ha0 : a0 < 6) {s : xM} (h : fX5_step_J57 a0 a2 a4 s = some z) : xWS (GX Y) B 5 s [(0, .ref (Y.1 (97 + 4 * a0))), (2, .int a2), (4, .int a4)] 57 [] := by
  unfold fX5_step_J57 at h
  refine ws_iload_n (pc := 57) C dX5_step_57 rfl 1 rfl ?_
  refine ws_iconst (pc := 58) C dX5_step_58 ci_1 ?_
  refine ws_icmp_lt (pc := 59) (tgt := 108) C dX5_step_59 (by decide) (fun c1 => ?_) (fun c1 => ?_)
  · have h := ite_t h c1
    refine ws_iload_n (pc := 108) C dX5_step_108 rfl 1 rfl ?_
    exact wr_i (pc := 109) C R dX5_step_109 rfl h
  · have h := ite_f h c1
    refine ws_aload_n (pc := 62) C dX5_step_62 rfl 0 rfl ?_
    refine ws_getr (pc := 63) C dX5_step_63 fd_X5_18 (sf_text_2 ha0) ?_
    refine ws_iload_n (pc := 66) C dX5_step_66 rfl 1 rfl ?_
    refine ws_iconst (pc := 67) C dX5_step_67 ci_1 ?_
    refine ws_isub (pc := 68) C dX5_step_68 ?_
    refine ws_iload (pc := 69) C dX5_step_69 2 rfl ?_
    refine ws_bipush (pc := 71) C dX5_step_71 cb_9 ?_
    refine ws_icmp_ne (pc := 73) (tgt := 98) C dX5_step_73 (by decide) (fun c2 => ?_) (fun c2 => ?_)
    · have h := ite_f h c2
      refine ws_aload_n (pc := 98) C dX5_step_98 rfl 0 rfl ?_
      refine ws_getr (pc := 99) C dX5_step_99 fd_X5_18 (sf_text_2 ha0) ?_
      refine ws_iload_n (pc := 102) C dX5_step_102 rfl 1 rfl ?_
      refine ws_iconst (pc := 103) C dX5_step_103 ci_1 ?_
      refine ws_isub (pc := 104) C dX5_step_104 ?_
      obtain ⟨g3, h⟩ := gd_ok h
      refine ws_ialdK (pc := 105) C dX5_step_105 (sr_stack ha0) g3 rfl ?_
      refine ws_ineg (pc := 106) C dX5_step_106 ?_
      refine ws_less [1] rfl ?_
      exact pX5_step_J107 C R ha0 h
    · have h := ite_t h c2
      refine ws_aload_n (pc := 76) C dX5_step_76 rfl 0 rfl ?_
      refine ws_getr (pc := 77) C dX5_step_77 fd_X5_18 (sf_text_2 ha0) ?_
      refine ws_iload_n (pc := 80) C dX5_step_80 rfl 1 rfl ?_
      refine ws_iconst (pc := 81) C dX5_step_81 ci_1 ?_
      refine ws_isub (pc := 82) C dX5_step_82 ?_
      obtain ⟨g4, h⟩ := gd_ok h
      refine ws_ialdK (pc := 83) C dX5_step_83 (sr_stack ha0) g4 rfl ?_
      refine ws_if_ne (pc := 84) (tgt := 91) C dX5_step_84 (by decide) (fun c5 => ?_) (fun c5 => ?_)
      · have h := ite_f h c5
        refine ws_iconst (pc := 91) C dX5_step_91 ci_0 ?_
        refine ws_less [1] rfl ?_
        exact pX5_step_J92 C R ha0 h
      · have h := ite_t h c5
        refine ws_iconst (pc := 87) C dX5_step_87 ci_1 ?_
        refine ws_goto (pc := 88) (tgt := 92) C dX5_step_88 (by decide) ?_
        refine ws_less [1] rfl ?_
        exact pX5_step_J92 C R ha0 h
set_option maxRecDepth 20000 in
set_option maxHeartbeats 4000000 in
theorem pX5_step_J32 {Y : xY} {Z : xZ} {B : xB} {z : Int32 × xM} (C : xC (GX Y) Z B "BetweenStops$Text" cX5_step 5 2) (R : xRi (GX Y) B .int z) {a2 : Int32} {t0 : Int32} {t1 : Int32} {t2 : Nat} (ht2 : t2 < 6) {s : xM} (h : fX5_step_J32 a2 t0 t1 t2 s = some z) : xWS (GX Y) B 5 s [(2, .int a2)] 32 [.int t0, .int t1, .ref (Y.1 (100 + 4 * t2))] := by
  unfold fX5_step_J32 at h
  obtain ⟨g1, h⟩ := gd_ok h
  obtain ⟨s2, e3, h⟩ := lz_ok h
  refine ws_iastK (pc := 32) C dX5_step_32 (sr_stack ht2) g1 rfl e3 ?_
  refine ws_iload_n (pc := 33) C dX5_step_33 rfl 0 rfl ?_
  refine ws_iconst (pc := 34) C dX5_step_34 ci_1 ?_
  refine ws_iadd (pc := 35) C dX5_step_35 ?_
  exact wr_i (pc := 36) C R dX5_step_36 rfl h
set_option maxRecDepth 20000 in
set_option maxHeartbeats 4000000 in
theorem mX5_step {Y : xY} {Z : xZ} {a0 : Nat} {a1 : Int32} {a2 : Int32} (ha0 : a0 < 6) {s : xM} {z : Int32 × xM} (h : fX5_step a0 a1 a2 s = some z) : xMi (GX Y) Z yX5_step cX5_step 5 2 .int [.ref (Y.1 (97 + 4 * a0)), .int a1, .int a2, .ref (Y.1 91)] s z := by
  refine xMi_of (by decide) (Nat.le_of_ble_eq_true rfl) (fun B C R => ?_)
  have C : xC (GX Y) Z B "BetweenStops$Text" cX5_step 5 2 := C
  show xWS (GX Y) B 5 s [(0, .ref (Y.1 (97 + 4 * a0))), (1, .int a1), (2, .int a2), (3, .ref (Y.1 91))] 0 []
  unfold fX5_step at h
  refine ws_iload_n (pc := 0) C dX5_step_0 rfl 1 rfl ?_
  refine ws_bipush (pc := 1) C dX5_step_1 cb_m6 ?_
  refine ws_icmp_lt (pc := 3) (tgt := 37) C dX5_step_3 (by decide) (fun c1 => ?_) (fun c1 => ?_)
  · have h := ite_t h c1
    refine ws_bipush (pc := 37) C dX5_step_37 cb_m7 ?_
    refine ws_iload_n (pc := 39) C dX5_step_39 rfl 1 rfl ?_
    refine ws_isub (pc := 40) C dX5_step_40 ?_
    obtain ⟨v2, e3, h⟩ := lz_ok h
    refine ws_topi C e3 ?_
    refine ws_istore (pc := 41) C dX5_step_41 (by decide) rfl ?_
    refine ws_iload (pc := 43) C dX5_step_43 0 rfl ?_
    refine ws_bipush (pc := 45) C dX5_step_45 cb_9 ?_
    refine ws_icmp_eq (pc := 47) (tgt := 57) C dX5_step_47 (by decide) (fun c4 => ?_) (fun c4 => ?_)
    · have h := ite_t h c4
      refine ws_less [1, 3, 0] rfl ?_
      exact pX5_step_J57 C R ha0 h
    · have h := ite_f h c4
      refine ws_iload (pc := 50) C dX5_step_50 0 rfl ?_
      refine ws_bipush (pc := 52) C dX5_step_52 cb_10 ?_
      refine ws_icmp_ne (pc := 54) (tgt := 110) C dX5_step_54 (by decide) (fun c5 => ?_) (fun c5 => ?_)
      · have h := ite_f h c5
        refine ws_iload_n (pc := 110) C dX5_step_110 rfl 3 rfl ?_
        refine ws_iconst (pc := 111) C dX5_step_111 ci_2 ?_
        refine ws_icmp_ge (pc := 112) (tgt := 117) C dX5_step_112 (by decide) (fun c6 => ?_) (fun c6 => ?_)
        · have h := ite_t h c6
          refine ws_aload_n (pc := 117) C dX5_step_117 rfl 1 rfl ?_
          refine ws_getr (pc := 118) C dX5_step_118 fd_X5_18 (sf_text_2 ha0) ?_
          refine ws_iload_n (pc := 121) C dX5_step_121 rfl 3 rfl ?_
          refine ws_iconst (pc := 122) C dX5_step_122 ci_2 ?_
          refine ws_isub (pc := 123) C dX5_step_123 ?_
          refine ws_iload (pc := 124) C dX5_step_124 0 rfl ?_
          refine ws_aload_n (pc := 126) C dX5_step_126 rfl 1 rfl ?_
          refine ws_getr (pc := 127) C dX5_step_127 fd_X5_18 (sf_text_2 ha0) ?_
          refine ws_iload_n (pc := 130) C dX5_step_130 rfl 3 rfl ?_
          refine ws_iconst (pc := 131) C dX5_step_131 ci_2 ?_
          refine ws_isub (pc := 132) C dX5_step_132 ?_
          obtain ⟨g7, h⟩ := gd_ok h
          refine ws_ialdK (pc := 133) C dX5_step_133 (sr_stack ha0) g7 rfl ?_
          refine ws_aload_n (pc := 134) C dX5_step_134 rfl 1 rfl ?_
          refine ws_getr (pc := 135) C dX5_step_135 fd_X5_18 (sf_text_2 ha0) ?_
          refine ws_iload_n (pc := 138) C dX5_step_138 rfl 3 rfl ?_
          refine ws_iconst (pc := 139) C dX5_step_139 ci_1 ?_
          refine ws_isub (pc := 140) C dX5_step_140 ?_
          obtain ⟨g8, h⟩ := gd_ok h
          refine ws_ialdK (pc := 141) C dX5_step_141 (sr_stack ha0) g8 rfl ?_
          obtain ⟨r9, s10, q11, h⟩ := bd_ok h
          refine wc_iS (pc := 142)  C [.int v2, .int (gi s (100 + 4 * a0) (a2 - (2 : Int32)).toNatClampNeg), .int (gi s (100 + 4 * a0) (a2 - (1 : Int32)).toNatClampNeg)] [.int (a2 - (2 : Int32)), .ref (Y.1 (100 + 4 * a0))] (mX5_joined q11) dX5_step_142 mw_X5_joined ks_X5_joined kl_X5_40 rfl rfl (Nat.le_of_ble_eq_true rfl) ⟨by decide, by decide⟩ ?_
          obtain ⟨g12, h⟩ := gd_ok h
          obtain ⟨s13, e14, h⟩ := lz_ok h
          refine ws_iastK (pc := 145) C dX5_step_145 (sr_stack ha0) g12 rfl e14 ?_
          refine ws_iload_n (pc := 146) C dX5_step_146 rfl 3 rfl ?_
          refine ws_iconst (pc := 147) C dX5_step_147 ci_1 ?_
          refine ws_isub (pc := 148) C dX5_step_148 ?_
          exact wr_i (pc := 149) C R dX5_step_149 rfl h
        · have h := ite_f h c6
          refine ws_iload_n (pc := 115) C dX5_step_115 rfl 3 rfl ?_
          exact wr_i (pc := 116) C R dX5_step_116 rfl h
      · have h := ite_t h c5
        refine ws_less [1, 3, 0] rfl ?_
        exact pX5_step_J57 C R ha0 h
  · have h := ite_f h c1
    refine ws_iload_n (pc := 6) C dX5_step_6 rfl 2 rfl ?_
    refine ws_bipush (pc := 7) C dX5_step_7 cb_40 ?_
    refine ws_icmp_lt (pc := 9) (tgt := 14) C dX5_step_9 (by decide) (fun c15 => ?_) (fun c15 => ?_)
    · have h := ite_t h c15
      refine ws_aload_n (pc := 14) C dX5_step_14 rfl 0 rfl ?_
      refine ws_getr (pc := 15) C dX5_step_15 fd_X5_18 (sf_text_2 ha0) ?_
      refine ws_iload_n (pc := 18) C dX5_step_18 rfl 2 rfl ?_
      refine ws_iload_n (pc := 19) C dX5_step_19 rfl 1 rfl ?_
      refine ws_if_lt (pc := 20) (tgt := 27) C dX5_step_20 (by decide) (fun c16 => ?_) (fun c16 => ?_)
      · have h := ite_t h c16
        refine ws_aload_n (pc := 27) C dX5_step_27 rfl 3 rfl ?_
        refine ws_iconst (pc := 28) C dX5_step_28 ci_m1 ?_
        refine ws_iload_n (pc := 29) C dX5_step_29 rfl 1 rfl ?_
        refine ws_isub (pc := 30) C dX5_step_30 ?_
        obtain ⟨g17, h⟩ := gd_ok h
        refine ws_ialdK (pc := 31) C dX5_step_31 sr_b_names g17 rfl ?_
        refine ws_less [2] rfl ?_
        exact pX5_step_J32 C R ha0 h
      · have h := ite_f h c16
        refine ws_iload_n (pc := 23) C dX5_step_23 rfl 1 rfl ?_
        refine ws_goto (pc := 24) (tgt := 32) C dX5_step_24 (by decide) ?_
        refine ws_less [2] rfl ?_
        exact pX5_step_J32 C R ha0 h
    · have h := ite_f h c15
      refine ws_iload_n (pc := 12) C dX5_step_12 rfl 2 rfl ?_
      exact wr_i (pc := 13) C R dX5_step_13 rfl h
set_option maxRecDepth 20000 in
set_option maxHeartbeats 4000000 in
theorem pX5_valueOf_L34 {Y : xY} {Z : xZ} {B : xB} {z : Int32 × xM} (C : xC (GX Y) Z B "BetweenStops$Text" cX5_valueOf 5 3) (R : xRi (GX Y) B .int z) {k65 : Int32 → xM → Option (Int32 × xM)} {a0 : Nat} {a1 : Int32}
    (hk65 : ∀ (a3 : Int32) (s : xM), k65 a3 s = some z → xWS (GX Y) B 5 s [(0, .ref (Y.1 (97 + 4 * a0))), (3, .int a3)] 65 []) (ha0 : a0 < 6) : ∀ (n : Nat) (a3 : Int32) (a4 : Int32) (s : xM), fX5_valueOf_L34 k65 a0 a1 n a3 a4 s = some z → xWS (GX Y) B 5 s [(0, .ref (Y.1 (97 + 4 * a0))), (1, .int a1), (2, .ref (Y.1 91)), (3, .int a3), (4, .int a4)] 34 [] := by
  intro n
  induction n with
  | zero =>
    intro a3 a4 s h
    rw [fX5_valueOf_L34] at h
    cases h
  | succ n ih =>
    intro a3 a4 s h
    rw [fX5_valueOf_L34] at h
    refine ws_iload (pc := 34) C dX5_valueOf_34 4 rfl ?_
    refine ws_aload_n (pc := 36) C dX5_valueOf_36 rfl 0 rfl ?_
    refine ws_getr (pc := 37) C dX5_valueOf_37 fd_X5_15 (sf_text_1 ha0) ?_
    refine ws_iload_n (pc := 40) C dX5_valueOf_40 rfl 1 rfl ?_
    obtain ⟨g1, h⟩ := gd_ok h
    refine ws_ialdK (pc := 41) C dX5_valueOf_41 (sr_partEnds ha0) g1 rfl ?_
    refine ws_icmp_ge (pc := 42) (tgt := 65) C dX5_valueOf_42 (by decide) (fun c2 => ?_) (fun c2 => ?_)
    · have h := ite_t h c2
      refine ws_less [0, 3] rfl ?_
      exact hk65 _ _ h
    · have h := ite_f h c2
      refine ws_aload_n (pc := 45) C dX5_valueOf_45 rfl 0 rfl ?_
      refine ws_aload_n (pc := 46) C dX5_valueOf_46 rfl 0 rfl ?_
      refine ws_getr (pc := 47) C dX5_valueOf_47 fd_X5_9 (sf_text_0 ha0) ?_
      refine ws_iload (pc := 50) C dX5_valueOf_50 4 rfl ?_
      obtain ⟨g3, h⟩ := gd_ok h
      refine ws_ialdK (pc := 52) C dX5_valueOf_52 (sr_codes ha0) g3 rfl ?_
      refine ws_iload_n (pc := 53) C dX5_valueOf_53 rfl 3 rfl ?_
      refine ws_aload_n (pc := 54) C dX5_valueOf_54 rfl 2 rfl ?_
      obtain ⟨r4, s5, q6, h⟩ := bd_ok h
      refine wc_iV (pc := 55)  C [.int (gi s (98 + 4 * a0) a4.toNatClampNeg), .int a3, .ref (Y.1 91)] [] (mX5_step ha0 q6) dX5_valueOf_55 mw_X5_step mv_X5_step kl_X5_32 (so_text ha0) rfl rfl (Nat.le_of_ble_eq_true rfl) ⟨by decide, by decide⟩ ?_
      refine ws_istore_n (pc := 58) C dX5_valueOf_58 rfl (by decide) rfl ?_
      refine ws_iinc (j := 4) (pc := 59) C dX5_valueOf_59 rfl (cn_1 _) (by decide) rfl ?_
      refine ws_goto (pc := 62) (tgt := 34) C dX5_valueOf_62 (by decide) ?_
      refine ws_less [2, 3, 4, 1, 0] rfl ?_
      exact ih _ _ _ h
set_option maxRecDepth 20000 in
set_option maxHeartbeats 4000000 in
theorem pX5_valueOf_J32 {Y : xY} {Z : xZ} {B : xB} {z : Int32 × xM} (C : xC (GX Y) Z B "BetweenStops$Text" cX5_valueOf 5 3) (R : xRi (GX Y) B .int z) {a0 : Nat} {a1 : Int32} {a3 : Int32} {t0 : Int32} (ha0 : a0 < 6) {s : xM} (h : fX5_valueOf_J32 a0 a1 a3 t0 s = some z) : xWS (GX Y) B 5 s [(0, .ref (Y.1 (97 + 4 * a0))), (1, .int a1), (2, .ref (Y.1 91)), (3, .int a3)] 32 [.int t0] := by
  unfold fX5_valueOf_J32 at h
  refine ws_istore (pc := 32) C dX5_valueOf_32 (by decide) rfl ?_
  refine ws_less [1, 2, 3, 4, 0] rfl ?_
  refine pX5_valueOf_L34 C R (fun x1 s2 h => ?_) ha0 fu _ _ _ h
  · refine ws_iload_n (pc := 65) C dX5_valueOf_65 rfl 1 rfl ?_
    refine ws_iconst (pc := 66) C dX5_valueOf_66 ci_1 ?_
    refine ws_icmp_ne (pc := 67) (tgt := 79) C dX5_valueOf_67 (by decide) (fun c3 => ?_) (fun c3 => ?_)
    · have h := ite_f h c3
      refine ws_iconst (pc := 79) C dX5_valueOf_79 ci_0 ?_
      exact wr_i (pc := 80) C R dX5_valueOf_80 rfl h
    · have h := ite_t h c3
      refine ws_aload_n (pc := 70) C dX5_valueOf_70 rfl 0 rfl ?_
      refine ws_getr (pc := 71) C dX5_valueOf_71 fd_X5_18 (sf_text_2 ha0) ?_
      refine ws_iconst (pc := 74) C dX5_valueOf_74 ci_0 ?_
      refine ws_ialdK (pc := 75) C dX5_valueOf_75 (sr_stack ha0) (by decide) ck_0 ?_
      refine ws_goto (pc := 76) (tgt := 80) C dX5_valueOf_76 (by decide) ?_
      exact wr_i (pc := 80) C R dX5_valueOf_80 rfl h
set_option maxRecDepth 20000 in
set_option maxHeartbeats 4000000 in
theorem mX5_valueOf {Y : xY} {Z : xZ} {a0 : Nat} {a1 : Int32} (ha0 : a0 < 6) {s : xM} {z : Int32 × xM} (h : fX5_valueOf a0 a1 s = some z) : xMi (GX Y) Z yX5_valueOf cX5_valueOf 5 3 .int [.ref (Y.1 (97 + 4 * a0)), .int a1, .ref (Y.1 91)] s z := by
  refine xMi_of (by decide) (Nat.le_of_ble_eq_true rfl) (fun B C R => ?_)
  have C : xC (GX Y) Z B "BetweenStops$Text" cX5_valueOf 5 3 := C
  show xWS (GX Y) B 5 s [(0, .ref (Y.1 (97 + 4 * a0))), (1, .int a1), (2, .ref (Y.1 91))] 0 []
  unfold fX5_valueOf at h
  refine ws_iload_n (pc := 0) C dX5_valueOf_0 rfl 1 rfl ?_
  refine ws_if_lt (pc := 1) (tgt := 12) C dX5_valueOf_1 (by decide) (fun c1 => ?_) (fun c1 => ?_)
  · have h := ite_t h c1
    refine ws_iconst (pc := 12) C dX5_valueOf_12 ci_0 ?_
    exact wr_i (pc := 13) C R dX5_valueOf_13 rfl h
  · have h := ite_f h c1
    refine ws_iload_n (pc := 4) C dX5_valueOf_4 rfl 1 rfl ?_
    refine ws_aload_n (pc := 5) C dX5_valueOf_5 rfl 0 rfl ?_
    refine ws_geti (pc := 6) C dX5_valueOf_6 fd_X5_25 (sf_text_4 ha0) ?_
    refine ws_icmp_lt (pc := 9) (tgt := 14) C dX5_valueOf_9 (by decide) (fun c2 => ?_) (fun c2 => ?_)
    · have h := ite_t h c2
      refine ws_iconst (pc := 14) C dX5_valueOf_14 ci_0 ?_
      refine ws_istore_n (pc := 15) C dX5_valueOf_15 rfl (by decide) rfl ?_
      refine ws_iload_n (pc := 16) C dX5_valueOf_16 rfl 2 rfl ?_
      refine ws_if_ne (pc := 17) (tgt := 24) C dX5_valueOf_17 (by decide) (fun c3 => ?_) (fun c3 => ?_)
      · have h := ite_f h c3
        refine ws_aload_n (pc := 24) C dX5_valueOf_24 rfl 1 rfl ?_
        refine ws_getr (pc := 25) C dX5_valueOf_25 fd_X5_15 (sf_text_1 ha0) ?_
        refine ws_iload_n (pc := 28) C dX5_valueOf_28 rfl 2 rfl ?_
        refine ws_iconst (pc := 29) C dX5_valueOf_29 ci_1 ?_
        refine ws_isub (pc := 30) C dX5_valueOf_30 ?_
        obtain ⟨g4, h⟩ := gd_ok h
        refine ws_ialdK (pc := 31) C dX5_valueOf_31 (sr_partEnds ha0) g4 rfl ?_
        refine ws_less [1, 2, 3, 0] rfl ?_
        exact pX5_valueOf_J32 C R ha0 h
      · have h := ite_t h c3
        refine ws_iconst (pc := 20) C dX5_valueOf_20 ci_0 ?_
        refine ws_goto (pc := 21) (tgt := 32) C dX5_valueOf_21 (by decide) ?_
        refine ws_less [1, 2, 3, 0] rfl ?_
        exact pX5_valueOf_J32 C R ha0 h
    · have h := ite_f h c2
      refine ws_iconst (pc := 12) C dX5_valueOf_12 ci_0 ?_
      exact wr_i (pc := 13) C R dX5_valueOf_13 rfl h
set_option maxRecDepth 20000 in
set_option maxHeartbeats 4000000 in
theorem pX6_walkSeconds_J34 {Y : xY} {Z : xZ} {B : xB} {z : Int32 × xM} (C : xC (GX Y) Z B "BetweenStops$Town" cX6_walkSeconds 5 1) (R : xRi (GX Y) B .int z) {a1 : Int32} {a2 : Int32} {a3 : Int32} {t0 : Int32} {s : xM} (h : fX6_walkSeconds_J34 a1 a2 a3 t0 s = some z) : xWS (GX Y) B 5 s [(0, .ref (Y.1 1)), (1, .int a1), (2, .int a2), (3, .int a3)] 34 [.int t0] := by
  unfold fX6_walkSeconds_J34 at h
  refine ws_istore (pc := 34) C dX6_walkSeconds_34 (by decide) rfl ?_
  refine ws_iload_n (pc := 36) C dX6_walkSeconds_36 rfl 3 rfl ?_
  refine ws_iload_n (pc := 37) C dX6_walkSeconds_37 rfl 2 rfl ?_
  refine ws_isub (pc := 38) C dX6_walkSeconds_38 ?_
  refine ws_abs (pc := 39) C dX6_walkSeconds_39 ma_X6_68 (Nat.le_of_ble_eq_true rfl) (by decide) ?_
  refine ws_aload_n (pc := 42) C dX6_walkSeconds_42 rfl 1 rfl ?_
  refine ws_getr (pc := 43) C dX6_walkSeconds_43 fd_X6_23 sf_town_3 ?_
  refine ws_iload_n (pc := 46) C dX6_walkSeconds_46 rfl 4 rfl ?_
  obtain ⟨g1, h⟩ := gd_ok h
  refine ws_aaldK (q := (6 + a3.toNatClampNeg)) (pc := 47) C dX6_walkSeconds_47 (by decide) sq_sorts g1 rfl rfl ?_
  refine ws_iconst (pc := 48) C dX6_walkSeconds_48 ci_0 ?_
  refine ws_ialdK (pc := 49) C dX6_walkSeconds_49 (sr_sortrow (inb_lt g1)) (by decide) ck_0 ?_
  refine ws_imul (pc := 50) C dX6_walkSeconds_50 ?_
  refine ws_iload (pc := 51) C dX6_walkSeconds_51 0 rfl ?_
  refine ws_aload_n (pc := 53) C dX6_walkSeconds_53 rfl 1 rfl ?_
  refine ws_getr (pc := 54) C dX6_walkSeconds_54 fd_X6_23 sf_town_3 ?_
  refine ws_iload_n (pc := 57) C dX6_walkSeconds_57 rfl 4 rfl ?_
  obtain ⟨g2, h⟩ := gd_ok h
  refine ws_aaldK (q := (6 + a3.toNatClampNeg)) (pc := 58) C dX6_walkSeconds_58 (by decide) sq_sorts g2 rfl rfl ?_
  refine ws_iconst (pc := 59) C dX6_walkSeconds_59 ci_1 ?_
  refine ws_ialdK (pc := 60) C dX6_walkSeconds_60 (sr_sortrow (inb_lt g2)) (by decide) ck_1 ?_
  refine ws_imul (pc := 61) C dX6_walkSeconds_61 ?_
  refine ws_iadd (pc := 62) C dX6_walkSeconds_62 ?_
  exact wr_i (pc := 63) C R dX6_walkSeconds_63 rfl h
set_option maxRecDepth 20000 in
set_option maxHeartbeats 4000000 in
theorem mX6_walkSeconds {Y : xY} {Z : xZ} {a1 : Int32} {a2 : Int32} {a3 : Int32} {s : xM} {z : Int32 × xM} (h : fX6_walkSeconds a1 a2 a3 s = some z) : xMi (GX Y) Z yX6_walkSeconds cX6_walkSeconds 5 1 .int [.ref (Y.1 1), .int a1, .int a2, .int a3] s z := by
  refine xMi_of (by decide) (Nat.le_of_ble_eq_true rfl) (fun B C R => ?_)
  have C : xC (GX Y) Z B "BetweenStops$Town" cX6_walkSeconds 5 1 := C
  show xWS (GX Y) B 5 s [(0, .ref (Y.1 1)), (1, .int a1), (2, .int a2), (3, .int a3)] 0 []
  unfold fX6_walkSeconds at h
  refine ws_iload_n (pc := 0) C dX6_walkSeconds_0 rfl 1 rfl ?_
  refine ws_iload_n (pc := 1) C dX6_walkSeconds_1 rfl 2 rfl ?_
  refine ws_icmp_ge (pc := 2) (tgt := 21) C dX6_walkSeconds_2 (by decide) (fun c1 => ?_) (fun c1 => ?_)
  · have h := ite_t h c1
    refine ws_aload_n (pc := 21) C dX6_walkSeconds_21 rfl 0 rfl ?_
    refine ws_getr (pc := 22) C dX6_walkSeconds_22 fd_X6_18 sf_town_2 ?_
    refine ws_iload_n (pc := 25) C dX6_walkSeconds_25 rfl 1 rfl ?_
    obtain ⟨g2, h⟩ := gd_ok h
    refine ws_ialdK (pc := 26) C dX6_walkSeconds_26 sr_climbsHome g2 rfl ?_
    refine ws_aload_n (pc := 27) C dX6_walkSeconds_27 rfl 0 rfl ?_
    refine ws_getr (pc := 28) C dX6_walkSeconds_28 fd_X6_18 sf_town_2 ?_
    refine ws_iload_n (pc := 31) C dX6_walkSeconds_31 rfl 2 rfl ?_
    obtain ⟨g3, h⟩ := gd_ok h
    refine ws_ialdK (pc := 32) C dX6_walkSeconds_32 sr_climbsHome g3 rfl ?_
    refine ws_isub (pc := 33) C dX6_walkSeconds_33 ?_
    refine ws_less [0, 1, 2, 3] rfl ?_
    exact pX6_walkSeconds_J34 C R h
  · have h := ite_f h c1
    refine ws_aload_n (pc := 5) C dX6_walkSeconds_5 rfl 0 rfl ?_
    refine ws_getr (pc := 6) C dX6_walkSeconds_6 fd_X6_15 sf_town_1 ?_
    refine ws_iload_n (pc := 9) C dX6_walkSeconds_9 rfl 2 rfl ?_
    obtain ⟨g4, h⟩ := gd_ok h
    refine ws_ialdK (pc := 10) C dX6_walkSeconds_10 sr_climbsOut g4 rfl ?_
    refine ws_aload_n (pc := 11) C dX6_walkSeconds_11 rfl 0 rfl ?_
    refine ws_getr (pc := 12) C dX6_walkSeconds_12 fd_X6_15 sf_town_1 ?_
    refine ws_iload_n (pc := 15) C dX6_walkSeconds_15 rfl 1 rfl ?_
    obtain ⟨g5, h⟩ := gd_ok h
    refine ws_ialdK (pc := 16) C dX6_walkSeconds_16 sr_climbsOut g5 rfl ?_
    refine ws_isub (pc := 17) C dX6_walkSeconds_17 ?_
    refine ws_goto (pc := 18) (tgt := 34) C dX6_walkSeconds_18 (by decide) ?_
    refine ws_less [0, 1, 2, 3] rfl ?_
    exact pX6_walkSeconds_J34 C R h
set_option maxRecDepth 20000 in
set_option maxHeartbeats 4000000 in
theorem pX6_openSet_L4 {Y : xY} {Z : xZ} {B : xB} {z : Int32 × xM} (C : xC (GX Y) Z B "BetweenStops$Town" cX6_openSet 3 2) (R : xRi (GX Y) B .int z) {k35 : Int32 → xM → Option (Int32 × xM)}
    (hk35 : ∀ (a1 : Int32) (s : xM), k35 a1 s = some z → xWS (GX Y) B 3 s [(1, .int a1)] 35 []) : ∀ (n : Nat) (a1 : Int32) (a2 : Int32) (s : xM), fX6_openSet_L4 k35 n a1 a2 s = some z → xWS (GX Y) B 3 s [(0, .ref (Y.1 1)), (1, .int a1), (2, .int a2)] 4 [] := by
  intro n
  induction n with
  | zero =>
    intro a1 a2 s h
    rw [fX6_openSet_L4] at h
    cases h
  | succ n ih =>
    intro a1 a2 s h
    rw [fX6_openSet_L4] at h
    refine ws_iload_n (pc := 4) C dX6_openSet_4 rfl 2 rfl ?_
    refine ws_aload_n (pc := 5) C dX6_openSet_5 rfl 0 rfl ?_
    refine ws_geti (pc := 6) C dX6_openSet_6 fd_X6_39 sf_town_7 ?_
    refine ws_icmp_ge (pc := 9) (tgt := 35) C dX6_openSet_9 (by decide) (fun c1 => ?_) (fun c1 => ?_)
    · have h := ite_t h c1
      refine ws_less [1] rfl ?_
      exact hk35 _ _ h
    · have h := ite_f h c1
      refine ws_iload_n (pc := 12) C dX6_openSet_12 rfl 1 rfl ?_
      refine ws_aload_n (pc := 13) C dX6_openSet_13 rfl 0 rfl ?_
      refine ws_getr (pc := 14) C dX6_openSet_14 fd_X6_35 sf_town_6 ?_
      refine ws_iload_n (pc := 17) C dX6_openSet_17 rfl 2 rfl ?_
      obtain ⟨g2, h⟩ := gd_ok h
      refine ws_aaldK (q := (11 + a2.toNatClampNeg)) (pc := 18) C dX6_openSet_18 (by decide) sq_stops g2 rfl rfl ?_
      refine ws_geti (pc := 19) C dX6_openSet_19 fd_X6_72 (sf_stop_5 (inb_lt g2)) ?_
      obtain ⟨r3, s4, q5, h⟩ := bd_ok h
      refine wc_iSN (pc := 22)  C [.int (gi s (11 + a2.toNatClampNeg) 5)] [.int a1] (mX9_asNumber q5) dX6_openSet_22 mw_X9_asNumber ks_X9_asNumber kn_X6_76 rfl rfl (Nat.le_of_ble_eq_true rfl) ⟨by decide, by decide⟩ ?_
      refine ws_iload_n (pc := 25) C dX6_openSet_25 rfl 2 rfl ?_
      refine ws_ishl (pc := 26) C dX6_openSet_26 ?_
      refine ws_ior (pc := 27) C dX6_openSet_27 ?_
      obtain ⟨v6, e7, h⟩ := lz_ok h
      refine ws_topi C e7 ?_
      refine ws_istore_n (pc := 28) C dX6_openSet_28 rfl (by decide) rfl ?_
      refine ws_iinc (j := 2) (pc := 29) C dX6_openSet_29 rfl (cn_1 _) (by decide) rfl ?_
      refine ws_goto (pc := 32) (tgt := 4) C dX6_openSet_32 (by decide) ?_
      refine ws_less [2, 1, 0] rfl ?_
      exact ih _ _ _ h
set_option maxRecDepth 20000 in
set_option maxHeartbeats 4000000 in
theorem mX6_openSet {Y : xY} {Z : xZ} {s : xM} {z : Int32 × xM} (h : fX6_openSet s = some z) : xMi (GX Y) Z yX6_openSet cX6_openSet 3 2 .int [.ref (Y.1 1)] s z := by
  refine xMi_of (by decide) (Nat.le_of_ble_eq_true rfl) (fun B C R => ?_)
  have C : xC (GX Y) Z B "BetweenStops$Town" cX6_openSet 3 2 := C
  show xWS (GX Y) B 3 s [(0, .ref (Y.1 1))] 0 []
  unfold fX6_openSet at h
  refine ws_iconst (pc := 0) C dX6_openSet_0 ci_0 ?_
  refine ws_istore_n (pc := 1) C dX6_openSet_1 rfl (by decide) rfl ?_
  refine ws_iconst (pc := 2) C dX6_openSet_2 ci_0 ?_
  refine ws_istore_n (pc := 3) C dX6_openSet_3 rfl (by decide) rfl ?_
  refine ws_less [2, 1, 0] rfl ?_
  refine pX6_openSet_L4 C R (fun x1 s2 h => ?_) fu _ _ _ h
  · refine ws_iload_n (pc := 35) C dX6_openSet_35 rfl 0 rfl ?_
    exact wr_i (pc := 36) C R dX6_openSet_36 rfl h
set_option maxRecDepth 20000 in
set_option maxHeartbeats 4000000 in
theorem mX6_setCount {Y : xY} {Z : xZ} {s : xM} {z : Int32 × xM} (h : fX6_setCount s = some z) : xMi (GX Y) Z yX6_setCount cX6_setCount 1 1 .int [.ref (Y.1 1)] s z := by
  refine xMi_of (by decide) (Nat.le_of_ble_eq_true rfl) (fun B C R => ?_)
  have C : xC (GX Y) Z B "BetweenStops$Town" cX6_setCount 1 1 := C
  show xWS (GX Y) B 1 s [(0, .ref (Y.1 1))] 0 []
  unfold fX6_setCount at h
  refine ws_iconst (pc := 0) C dX6_setCount_0 ci_1 ?_
  refine ws_aload_n (pc := 1) C dX6_setCount_1 rfl 0 rfl ?_
  refine ws_geti (pc := 2) C dX6_setCount_2 fd_X6_39 sf_town_7 ?_
  refine ws_ishl (pc := 5) C dX6_setCount_5 ?_
  exact wr_i (pc := 6) C R dX6_setCount_6 rfl h
set_option maxRecDepth 20000 in
set_option maxHeartbeats 4000000 in
theorem pX6_peopleBut_L4 {Y : xY} {Z : xZ} {B : xB} {z : Int32 × xM} (C : xC (GX Y) Z B "BetweenStops$Town" cX6_peopleBut 4 1) (R : xRi (GX Y) B .int z) {k42 : Int32 → xM → Option (Int32 × xM)} {a1 : Int32}
    (hk42 : ∀ (a2 : Int32) (s : xM), k42 a2 s = some z → xWS (GX Y) B 4 s [(2, .int a2)] 42 []) : ∀ (n : Nat) (a2 : Int32) (a3 : Int32) (s : xM), fX6_peopleBut_L4 k42 a1 n a2 a3 s = some z → xWS (GX Y) B 4 s [(0, .ref (Y.1 1)), (1, .int a1), (2, .int a2), (3, .int a3)] 4 [] := by
  intro n
  induction n with
  | zero =>
    intro a2 a3 s h
    rw [fX6_peopleBut_L4] at h
    cases h
  | succ n ih =>
    intro a2 a3 s h
    rw [fX6_peopleBut_L4] at h
    refine ws_iload_n (pc := 4) C dX6_peopleBut_4 rfl 3 rfl ?_
    refine ws_aload_n (pc := 5) C dX6_peopleBut_5 rfl 0 rfl ?_
    refine ws_geti (pc := 6) C dX6_peopleBut_6 fd_X6_48 sf_town_9 ?_
    refine ws_icmp_ge (pc := 9) (tgt := 42) C dX6_peopleBut_9 (by decide) (fun c1 => ?_) (fun c1 => ?_)
    · have h := ite_t h c1
      refine ws_less [2] rfl ?_
      exact hk42 _ _ h
    · have h := ite_f h c1
      refine ws_iload_n (pc := 12) C dX6_peopleBut_12 rfl 2 rfl ?_
      refine ws_iload_n (pc := 13) C dX6_peopleBut_13 rfl 1 rfl ?_
      refine ws_iconst (pc := 14) C dX6_peopleBut_14 ci_1 ?_
      refine ws_iload_n (pc := 15) C dX6_peopleBut_15 rfl 3 rfl ?_
      refine ws_ishl (pc := 16) C dX6_peopleBut_16 ?_
      refine ws_iand (pc := 17) C dX6_peopleBut_17 ?_
      refine ws_if_ne (pc := 18) (tgt := 33) C dX6_peopleBut_18 (by decide) (fun c2 => ?_) (fun c2 => ?_)
      · have h := ite_f h c2
        refine ws_iconst (pc := 33) C dX6_peopleBut_33 ci_0 ?_
        refine ws_iadd (pc := 34) C dX6_peopleBut_34 ?_
        obtain ⟨v3, e4, h⟩ := lz_ok h
        refine ws_topi C e4 ?_
        refine ws_istore_n (pc := 35) C dX6_peopleBut_35 rfl (by decide) rfl ?_
        refine ws_iinc (j := 3) (pc := 36) C dX6_peopleBut_36 rfl (cn_1 _) (by decide) rfl ?_
        refine ws_goto (pc := 39) (tgt := 4) C dX6_peopleBut_39 (by decide) ?_
        refine ws_less [2, 3, 1, 0] rfl ?_
        exact ih _ _ _ h
      · have h := ite_t h c2
        refine ws_aload_n (pc := 21) C dX6_peopleBut_21 rfl 0 rfl ?_
        refine ws_getr (pc := 22) C dX6_peopleBut_22 fd_X6_44 sf_town_8 ?_
        refine ws_iload_n (pc := 25) C dX6_peopleBut_25 rfl 3 rfl ?_
        obtain ⟨g5, h⟩ := gd_ok h
        refine ws_aaldK (q := (19 + a3.toNatClampNeg)) (pc := 26) C dX6_peopleBut_26 (by decide) sq_trips g5 rfl rfl ?_
        refine ws_geti (pc := 27) C dX6_peopleBut_27 fd_X6_80 (sf_trip_2 (inb_lt g5)) ?_
        refine ws_goto (pc := 30) (tgt := 34) C dX6_peopleBut_30 (by decide) ?_
        refine ws_iadd (pc := 34) C dX6_peopleBut_34 ?_
        obtain ⟨v6, e7, h⟩ := lz_ok h
        refine ws_topi C e7 ?_
        refine ws_istore_n (pc := 35) C dX6_peopleBut_35 rfl (by decide) rfl ?_
        refine ws_iinc (j := 3) (pc := 36) C dX6_peopleBut_36 rfl (cn_1 _) (by decide) rfl ?_
        refine ws_goto (pc := 39) (tgt := 4) C dX6_peopleBut_39 (by decide) ?_
        refine ws_less [2, 3, 1, 0] rfl ?_
        exact ih _ _ _ h
set_option maxRecDepth 20000 in
set_option maxHeartbeats 4000000 in
theorem mX6_peopleBut {Y : xY} {Z : xZ} {a1 : Int32} {s : xM} {z : Int32 × xM} (h : fX6_peopleBut a1 s = some z) : xMi (GX Y) Z yX6_peopleBut cX6_peopleBut 4 1 .int [.ref (Y.1 1), .int a1] s z := by
  refine xMi_of (by decide) (Nat.le_of_ble_eq_true rfl) (fun B C R => ?_)
  have C : xC (GX Y) Z B "BetweenStops$Town" cX6_peopleBut 4 1 := C
  show xWS (GX Y) B 4 s [(0, .ref (Y.1 1)), (1, .int a1)] 0 []
  unfold fX6_peopleBut at h
  refine ws_iconst (pc := 0) C dX6_peopleBut_0 ci_0 ?_
  refine ws_istore_n (pc := 1) C dX6_peopleBut_1 rfl (by decide) rfl ?_
  refine ws_iconst (pc := 2) C dX6_peopleBut_2 ci_0 ?_
  refine ws_istore_n (pc := 3) C dX6_peopleBut_3 rfl (by decide) rfl ?_
  refine ws_less [2, 3, 1, 0] rfl ?_
  refine pX6_peopleBut_L4 C R (fun x1 s2 h => ?_) fu _ _ _ h
  · refine ws_iload_n (pc := 42) C dX6_peopleBut_42 rfl 0 rfl ?_
    exact wr_i (pc := 43) C R dX6_peopleBut_43 rfl h
set_option maxRecDepth 20000 in
set_option maxHeartbeats 4000000 in
theorem mX7_begin {Y : xY} {Z : xZ} {a0 : Nat} {a1 : Int32} {a2 : Int32} {a3 : Int32} {a4 : Int32} (ha0 : a0 < 8) {s : xM} {z : Int32 × xM} (h : fX7_begin a0 a1 a2 a3 a4 s = some z) : xMv (GX Y) Z yX7_begin cX7_begin 5 1 [.ref (Y.1 (19 + a0)), .int a1, .int a2, .int a3, .int a4] s z := by
  refine xMv_of (by decide) (Nat.le_of_ble_eq_true rfl) (fun B C R => ?_)
  have C : xC (GX Y) Z B "BetweenStops$Trip" cX7_begin 5 1 := C
  show xWS (GX Y) B 5 s [(0, .ref (Y.1 (19 + a0))), (1, .int a1), (2, .int a2), (3, .int a3), (4, .int a4)] 0 []
  unfold fX7_begin at h
  refine ws_aload_n (pc := 0) C dX7_begin_0 rfl 0 rfl ?_
  refine ws_iload_n (pc := 1) C dX7_begin_1 rfl 1 rfl ?_
  obtain ⟨s1, e2, h⟩ := lz_ok h
  refine ws_putI (pc := 2) C dX7_begin_2 fp_X7_7 (sf_trip_0 ha0) e2 ?_
  refine ws_aload_n (pc := 5) C dX7_begin_5 rfl 0 rfl ?_
  refine ws_iload_n (pc := 6) C dX7_begin_6 rfl 2 rfl ?_
  obtain ⟨s3, e4, h⟩ := lz_ok h
  refine ws_putI (pc := 7) C dX7_begin_7 fp_X7_13 (sf_trip_1 ha0) e4 ?_
  refine ws_aload_n (pc := 10) C dX7_begin_10 rfl 0 rfl ?_
  refine ws_iload_n (pc := 11) C dX7_begin_11 rfl 3 rfl ?_
  obtain ⟨s5, e6, h⟩ := lz_ok h
  refine ws_putI (pc := 12) C dX7_begin_12 fp_X7_16 (sf_trip_2 ha0) e6 ?_
  refine ws_aload_n (pc := 15) C dX7_begin_15 rfl 0 rfl ?_
  refine ws_iload (pc := 16) C dX7_begin_16 4 rfl ?_
  obtain ⟨s7, e8, h⟩ := lz_ok h
  refine ws_putI (pc := 18) C dX7_begin_18 fp_X7_19 (sf_trip_3 ha0) e8 ?_
  exact wr_v (pc := 21) C R dX7_begin_21 h
set_option maxRecDepth 20000 in
set_option maxHeartbeats 4000000 in
theorem pX8_measure_L2 {Y : xY} {Z : xZ} {B : xB} {z : Int32 × xM} (C : xC (GX Y) Z B "BetweenStops$Ways" cX8_measure 4 4) (R : xRv (GX Y) B z) {k79 : xM → Option (Int32 × xM)}
    (hk79 : ∀  (s : xM), k79 s = some z → xWS (GX Y) B 4 s [(0, .ref (Y.1 27))] 79 []) : ∀ (n : Nat) (a1 : Int32) (s : xM), fX8_measure_L2 k79 n a1 s = some z → xWS (GX Y) B 4 s [(0, .ref (Y.1 27)), (1, .int a1)] 2 [] := by
  intro n
  induction n with
  | zero =>
    intro a1 s h
    rw [fX8_measure_L2] at h
    cases h
  | succ n ih =>
    intro a1 s h
    rw [fX8_measure_L2] at h
    refine ws_iload_n (pc := 2) C dX8_measure_2 rfl 1 rfl ?_
    refine ws_aload_n (pc := 3) C dX8_measure_3 rfl 0 rfl ?_
    refine ws_getr (pc := 4) C dX8_measure_4 fd_X8_63 sf_ways_0 ?_
    refine ws_geti (pc := 7) C dX8_measure_7 fd_X8_67 sf_town_7 ?_
    refine ws_icmp_ge (pc := 10) (tgt := 79) C dX8_measure_10 (by decide) (fun c1 => ?_) (fun c1 => ?_)
    · have h := ite_t h c1
      refine ws_less [0] rfl ?_
      exact hk79 _ h
    · have h := ite_f h c1
      refine ws_aload_n (pc := 13) C dX8_measure_13 rfl 0 rfl ?_
      refine ws_getr (pc := 14) C dX8_measure_14 fd_X8_9 sf_ways_1 ?_
      refine ws_iload_n (pc := 17) C dX8_measure_17 rfl 1 rfl ?_
      refine ws_aload_n (pc := 18) C dX8_measure_18 rfl 0 rfl ?_
      refine ws_getr (pc := 19) C dX8_measure_19 fd_X8_63 sf_ways_0 ?_
      refine ws_getr (pc := 22) C dX8_measure_22 fd_X8_72 sf_town_6 ?_
      refine ws_iload_n (pc := 25) C dX8_measure_25 rfl 1 rfl ?_
      obtain ⟨g2, h⟩ := gd_ok h
      refine ws_aaldK (q := (11 + a1.toNatClampNeg)) (pc := 26) C dX8_measure_26 (by decide) sq_stops g2 rfl rfl ?_
      refine ws_aload_n (pc := 27) C dX8_measure_27 rfl 0 rfl ?_
      refine ws_getr (pc := 28) C dX8_measure_28 fd_X8_63 sf_ways_0 ?_
      refine ws_getr (pc := 31) C dX8_measure_31 fd_X8_72 sf_town_6 ?_
      refine ws_iload_n (pc := 34) C dX8_measure_34 rfl 1 rfl ?_
      obtain ⟨g3, h⟩ := gd_ok h
      refine ws_aaldK (q := (11 + a1.toNatClampNeg)) (pc := 35) C dX8_measure_35 (by decide) sq_stops g3 rfl rfl ?_
      refine ws_geti (pc := 36) C dX8_measure_36 fd_X8_76 (sf_stop_7 (inb_lt g3)) ?_
      obtain ⟨r4, s5, q6, h⟩ := bd_ok h
      refine wc_iV (pc := 39)  C [.int (gi s (11 + a1.toNatClampNeg) 7)] [.int a1, .ref (Y.1 28)] (mX3_carsBy (inb_lt g2) q6) dX8_measure_39 mw_X3_carsBy mv_X3_carsBy kl_X8_81 (so_stop (inb_lt g2)) rfl rfl (Nat.le_of_ble_eq_true rfl) ⟨by decide, by decide⟩ ?_
      obtain ⟨g7, h⟩ := gd_ok h
      obtain ⟨s8, e9, h⟩ := lz_ok h
      refine ws_iastK (pc := 42) C dX8_measure_42 sr_w_cars g7 rfl e9 ?_
      refine ws_aload_n (pc := 43) C dX8_measure_43 rfl 0 rfl ?_
      refine ws_getr (pc := 44) C dX8_measure_44 fd_X8_15 sf_ways_2 ?_
      refine ws_iload_n (pc := 47) C dX8_measure_47 rfl 1 rfl ?_
      refine ws_aload_n (pc := 48) C dX8_measure_48 rfl 0 rfl ?_
      refine ws_getr (pc := 49) C dX8_measure_49 fd_X8_63 sf_ways_0 ?_
      refine ws_getr (pc := 52) C dX8_measure_52 fd_X8_72 sf_town_6 ?_
      refine ws_iload_n (pc := 55) C dX8_measure_55 rfl 1 rfl ?_
      obtain ⟨g10, h⟩ := gd_ok h
      refine ws_aaldK (q := (11 + a1.toNatClampNeg)) (pc := 56) C dX8_measure_56 (by decide) sq_stops g10 rfl rfl ?_
      refine ws_aload_n (pc := 57) C dX8_measure_57 rfl 0 rfl ?_
      refine ws_getr (pc := 58) C dX8_measure_58 fd_X8_63 sf_ways_0 ?_
      refine ws_getr (pc := 61) C dX8_measure_61 fd_X8_72 sf_town_6 ?_
      refine ws_iload_n (pc := 64) C dX8_measure_64 rfl 1 rfl ?_
      obtain ⟨g11, h⟩ := gd_ok h
      refine ws_aaldK (q := (11 + a1.toNatClampNeg)) (pc := 65) C dX8_measure_65 (by decide) sq_stops g11 rfl rfl ?_
      refine ws_geti (pc := 66) C dX8_measure_66 fd_X8_85 (sf_stop_6 (inb_lt g11)) ?_
      obtain ⟨r12, s13, q14, h⟩ := bd_ok h
      refine wc_iV (pc := 69)  C [.int (gi s8 (11 + a1.toNatClampNeg) 6)] [.int a1, .ref (Y.1 29)] (mX3_secondsIf (inb_lt g10) q14) dX8_measure_69 mw_X3_secondsIf mv_X3_secondsIf kl_X8_88 (so_stop (inb_lt g10)) rfl rfl (Nat.le_of_ble_eq_true rfl) ⟨by decide, by decide⟩ ?_
      obtain ⟨g15, h⟩ := gd_ok h
      obtain ⟨s16, e17, h⟩ := lz_ok h
      refine ws_iastK (pc := 72) C dX8_measure_72 sr_w_seconds g15 rfl e17 ?_
      refine ws_iinc (j := 1) (pc := 73) C dX8_measure_73 rfl (cn_1 _) (by decide) rfl ?_
      refine ws_goto (pc := 76) (tgt := 2) C dX8_measure_76 (by decide) ?_
      refine ws_less [1, 0] rfl ?_
      exact ih _ _ h
set_option maxRecDepth 20000 in
set_option maxHeartbeats 4000000 in
theorem pX8_measure_L129 {Y : xY} {Z : xZ} {B : xB} {z : Int32 × xM} (C : xC (GX Y) Z B "BetweenStops$Ways" cX8_measure 4 4) (R : xRv (GX Y) B z) {k216 : xM → Option (Int32 × xM)} {a1 : Int32} {a2 : Nat}
    (hk216 : ∀  (s : xM), k216 s = some z → xWS (GX Y) B 4 s [(0, .ref (Y.1 27)), (1, .int a1)] 216 []) (ha2 : a2 < 8) : ∀ (n : Nat) (a3 : Int32) (s : xM), fX8_measure_L129 k216 a1 a2 n a3 s = some z → xWS (GX Y) B 4 s [(0, .ref (Y.1 27)), (1, .int a1), (2, .ref (Y.1 (19 + a2))), (3, .int a3)] 129 [] := by
  intro n
  induction n with
  | zero =>
    intro a3 s h
    rw [fX8_measure_L129] at h
    cases h
  | succ n ih =>
    intro a3 s h
    rw [fX8_measure_L129] at h
    refine ws_iload_n (pc := 129) C dX8_measure_129 rfl 3 rfl ?_
    refine ws_aload_n (pc := 130) C dX8_measure_130 rfl 0 rfl ?_
    refine ws_getr (pc := 131) C dX8_measure_131 fd_X8_63 sf_ways_0 ?_
    refine ws_geti (pc := 134) C dX8_measure_134 fd_X8_67 sf_town_7 ?_
    refine ws_icmp_ge (pc := 137) (tgt := 216) C dX8_measure_137 (by decide) (fun c1 => ?_) (fun c1 => ?_)
    · have h := ite_t h c1
      refine ws_less [0, 1] rfl ?_
      exact hk216 _ h
    · have h := ite_f h c1
      refine ws_aload_n (pc := 140) C dX8_measure_140 rfl 0 rfl ?_
      refine ws_getr (pc := 141) C dX8_measure_141 fd_X8_23 sf_ways_4 ?_
      refine ws_iload_n (pc := 144) C dX8_measure_144 rfl 1 rfl ?_
      obtain ⟨g2, h⟩ := gd_ok h
      refine ws_aaldK (q := (32 + a1.toNatClampNeg)) (pc := 145) C dX8_measure_145 (by decide) sq_w_toStop g2 rfl rfl ?_
      refine ws_iload_n (pc := 146) C dX8_measure_146 rfl 3 rfl ?_
      refine ws_aload_n (pc := 147) C dX8_measure_147 rfl 0 rfl ?_
      refine ws_getr (pc := 148) C dX8_measure_148 fd_X8_63 sf_ways_0 ?_
      refine ws_aload_n (pc := 151) C dX8_measure_151 rfl 2 rfl ?_
      refine ws_geti (pc := 152) C dX8_measure_152 fd_X8_98 (sf_trip_0 ha2) ?_
      refine ws_aload_n (pc := 155) C dX8_measure_155 rfl 0 rfl ?_
      refine ws_getr (pc := 156) C dX8_measure_156 fd_X8_63 sf_ways_0 ?_
      refine ws_getr (pc := 159) C dX8_measure_159 fd_X8_72 sf_town_6 ?_
      refine ws_iload_n (pc := 162) C dX8_measure_162 rfl 3 rfl ?_
      obtain ⟨g3, h⟩ := gd_ok h
      refine ws_aaldK (q := (11 + a3.toNatClampNeg)) (pc := 163) C dX8_measure_163 (by decide) sq_stops g3 rfl rfl ?_
      refine ws_geti (pc := 164) C dX8_measure_164 fd_X8_113 (sf_stop_2 (inb_lt g3)) ?_
      refine ws_aload_n (pc := 167) C dX8_measure_167 rfl 2 rfl ?_
      refine ws_geti (pc := 168) C dX8_measure_168 fd_X8_106 (sf_trip_3 ha2) ?_
      obtain ⟨r4, s5, q6, h⟩ := bd_ok h
      refine wc_iV (pc := 171)  C [.int (gi s (19 + a2) 0), .int (gi s (11 + a3.toNatClampNeg) 2), .int (gi s (19 + a2) 3)] [.int a3, .ref (Y.1 (32 + a1.toNatClampNeg))] (mX6_walkSeconds q6) dX8_measure_171 mw_X6_walkSeconds mv_X6_walkSeconds kl_X8_109 so_town rfl rfl (Nat.le_of_ble_eq_true rfl) ⟨by decide, by decide⟩ ?_
      obtain ⟨g7, h⟩ := gd_ok h
      obtain ⟨s8, e9, h⟩ := lz_ok h
      refine ws_iastK (pc := 174) C dX8_measure_174 (sr_toStopR (inb_lt g2)) g7 rfl e9 ?_
      refine ws_aload_n (pc := 175) C dX8_measure_175 rfl 0 rfl ?_
      refine ws_getr (pc := 176) C dX8_measure_176 fd_X8_26 sf_ways_5 ?_
      refine ws_iload_n (pc := 179) C dX8_measure_179 rfl 1 rfl ?_
      obtain ⟨g10, h⟩ := gd_ok h
      refine ws_aaldK (q := (41 + a1.toNatClampNeg)) (pc := 180) C dX8_measure_180 (by decide) sq_w_fromStop g10 rfl rfl ?_
      refine ws_iload_n (pc := 181) C dX8_measure_181 rfl 3 rfl ?_
      refine ws_aload_n (pc := 182) C dX8_measure_182 rfl 0 rfl ?_
      refine ws_getr (pc := 183) C dX8_measure_183 fd_X8_63 sf_ways_0 ?_
      refine ws_aload_n (pc := 186) C dX8_measure_186 rfl 0 rfl ?_
      refine ws_getr (pc := 187) C dX8_measure_187 fd_X8_63 sf_ways_0 ?_
      refine ws_getr (pc := 190) C dX8_measure_190 fd_X8_72 sf_town_6 ?_
      refine ws_iload_n (pc := 193) C dX8_measure_193 rfl 3 rfl ?_
      obtain ⟨g11, h⟩ := gd_ok h
      refine ws_aaldK (q := (11 + a3.toNatClampNeg)) (pc := 194) C dX8_measure_194 (by decide) sq_stops g11 rfl rfl ?_
      refine ws_geti (pc := 195) C dX8_measure_195 fd_X8_113 (sf_stop_2 (inb_lt g11)) ?_
      refine ws_aload_n (pc := 198) C dX8_measure_198 rfl 2 rfl ?_
      refine ws_geti (pc := 199) C dX8_measure_199 fd_X8_103 (sf_trip_1 ha2) ?_
      refine ws_aload_n (pc := 202) C dX8_measure_202 rfl 2 rfl ?_
      refine ws_geti (pc := 203) C dX8_measure_203 fd_X8_106 (sf_trip_3 ha2) ?_
      obtain ⟨r12, s13, q14, h⟩ := bd_ok h
      refine wc_iV (pc := 206)  C [.int (gi s8 (11 + a3.toNatClampNeg) 2), .int (gi s8 (19 + a2) 1), .int (gi s8 (19 + a2) 3)] [.int a3, .ref (Y.1 (41 + a1.toNatClampNeg))] (mX6_walkSeconds q14) dX8_measure_206 mw_X6_walkSeconds mv_X6_walkSeconds kl_X8_109 so_town rfl rfl (Nat.le_of_ble_eq_true rfl) ⟨by decide, by decide⟩ ?_
      obtain ⟨g15, h⟩ := gd_ok h
      obtain ⟨s16, e17, h⟩ := lz_ok h
      refine ws_iastK (pc := 209) C dX8_measure_209 (sr_fromStopR (inb_lt g10)) g15 rfl e17 ?_
      refine ws_iinc (j := 3) (pc := 210) C dX8_measure_210 rfl (cn_1 _) (by decide) rfl ?_
      refine ws_goto (pc := 213) (tgt := 129) C dX8_measure_213 (by decide) ?_
      refine ws_less [1, 2, 3, 0] rfl ?_
      exact ih _ _ h
set_option maxRecDepth 20000 in
set_option maxHeartbeats 4000000 in
theorem pX8_measure_L81 {Y : xY} {Z : xZ} {B : xB} {z : Int32 × xM} (C : xC (GX Y) Z B "BetweenStops$Ways" cX8_measure 4 4) (R : xRv (GX Y) B z) {k222 : xM → Option (Int32 × xM)}
    (hk222 : ∀  (s : xM), k222 s = some z → xWS (GX Y) B 4 s [] 222 []) : ∀ (n : Nat) (a1 : Int32) (s : xM), fX8_measure_L81 k222 n a1 s = some z → xWS (GX Y) B 4 s [(0, .ref (Y.1 27)), (1, .int a1)] 81 [] := by
  intro n
  induction n with
  | zero =>
    intro a1 s h
    rw [fX8_measure_L81] at h
    cases h
  | succ n ih =>
    intro a1 s h
    rw [fX8_measure_L81] at h
    refine ws_iload_n (pc := 81) C dX8_measure_81 rfl 1 rfl ?_
    refine ws_aload_n (pc := 82) C dX8_measure_82 rfl 0 rfl ?_
    refine ws_getr (pc := 83) C dX8_measure_83 fd_X8_63 sf_ways_0 ?_
    refine ws_geti (pc := 86) C dX8_measure_86 fd_X8_91 sf_town_9 ?_
    refine ws_icmp_ge (pc := 89) (tgt := 222) C dX8_measure_89 (by decide) (fun c1 => ?_) (fun c1 => ?_)
    · have h := ite_t h c1
      refine ws_less [] rfl ?_
      exact hk222 _ h
    · have h := ite_f h c1
      refine ws_aload_n (pc := 92) C dX8_measure_92 rfl 0 rfl ?_
      refine ws_getr (pc := 93) C dX8_measure_93 fd_X8_63 sf_ways_0 ?_
      refine ws_getr (pc := 96) C dX8_measure_96 fd_X8_94 sf_town_8 ?_
      refine ws_iload_n (pc := 99) C dX8_measure_99 rfl 1 rfl ?_
      obtain ⟨g2, h⟩ := gd_ok h
      refine ws_aaldK (q := (19 + a1.toNatClampNeg)) (pc := 100) C dX8_measure_100 (by decide) sq_trips g2 rfl rfl ?_
      refine ws_astore_n (pc := 101) C dX8_measure_101 rfl (by decide) rfl ?_
      refine ws_aload_n (pc := 102) C dX8_measure_102 rfl 1 rfl ?_
      refine ws_getr (pc := 103) C dX8_measure_103 fd_X8_18 sf_ways_3 ?_
      refine ws_iload_n (pc := 106) C dX8_measure_106 rfl 2 rfl ?_
      refine ws_aload_n (pc := 107) C dX8_measure_107 rfl 1 rfl ?_
      refine ws_getr (pc := 108) C dX8_measure_108 fd_X8_63 sf_ways_0 ?_
      refine ws_aload_n (pc := 111) C dX8_measure_111 rfl 0 rfl ?_
      refine ws_geti (pc := 112) C dX8_measure_112 fd_X8_98 (sf_trip_0 (inb_lt g2)) ?_
      refine ws_aload_n (pc := 115) C dX8_measure_115 rfl 0 rfl ?_
      refine ws_geti (pc := 116) C dX8_measure_116 fd_X8_103 (sf_trip_1 (inb_lt g2)) ?_
      refine ws_aload_n (pc := 119) C dX8_measure_119 rfl 0 rfl ?_
      refine ws_geti (pc := 120) C dX8_measure_120 fd_X8_106 (sf_trip_3 (inb_lt g2)) ?_
      obtain ⟨r3, s4, q5, h⟩ := bd_ok h
      refine wc_iV (pc := 123)  C [.int (gi s (19 + a1.toNatClampNeg) 0), .int (gi s (19 + a1.toNatClampNeg) 1), .int (gi s (19 + a1.toNatClampNeg) 3)] [.int a1, .ref (Y.1 30)] (mX6_walkSeconds q5) dX8_measure_123 mw_X6_walkSeconds mv_X6_walkSeconds kl_X8_109 so_town rfl rfl (Nat.le_of_ble_eq_true rfl) ⟨by decide, by decide⟩ ?_
      obtain ⟨g6, h⟩ := gd_ok h
      obtain ⟨s7, e8, h⟩ := lz_ok h
      refine ws_iastK (pc := 126) C dX8_measure_126 sr_w_direct g6 rfl e8 ?_
      refine ws_iconst (pc := 127) C dX8_measure_127 ci_0 ?_
      refine ws_istore_n (pc := 128) C dX8_measure_128 rfl (by decide) rfl ?_
      refine ws_less [2, 3, 1, 0] rfl ?_
      refine pX8_measure_L129 C R (fun s9 h => ?_) (inb_lt g2) fu _ _ h
      · refine ws_iinc (j := 1) (pc := 216) C dX8_measure_216 rfl (cn_1 _) (by decide) rfl ?_
        refine ws_goto (pc := 219) (tgt := 81) C dX8_measure_219 (by decide) ?_
        refine ws_less [1, 0] rfl ?_
        exact ih _ _ h
set_option maxRecDepth 20000 in
set_option maxHeartbeats 4000000 in
theorem mX8_measure {Y : xY} {Z : xZ} {s : xM} {z : Int32 × xM} (h : fX8_measure s = some z) : xMv (GX Y) Z yX8_measure cX8_measure 4 4 [.ref (Y.1 27)] s z := by
  refine xMv_of (by decide) (Nat.le_of_ble_eq_true rfl) (fun B C R => ?_)
  have C : xC (GX Y) Z B "BetweenStops$Ways" cX8_measure 4 4 := C
  show xWS (GX Y) B 4 s [(0, .ref (Y.1 27))] 0 []
  unfold fX8_measure at h
  refine ws_iconst (pc := 0) C dX8_measure_0 ci_0 ?_
  refine ws_istore_n (pc := 1) C dX8_measure_1 rfl (by decide) rfl ?_
  refine ws_less [1, 0] rfl ?_
  refine pX8_measure_L2 C R (fun s1 h => ?_) fu _ _ h
  · refine ws_iconst (pc := 79) C dX8_measure_79 ci_0 ?_
    refine ws_istore_n (pc := 80) C dX8_measure_80 rfl (by decide) rfl ?_
    refine ws_less [1, 0] rfl ?_
    refine pX8_measure_L81 C R (fun s2 h => ?_) fu _ _ h
    · exact wr_v (pc := 222) C R dX8_measure_222 h
