set_option maxRecDepth 20000 in
set_option maxHeartbeats 4000000 in
theorem mX9_homes {Y : xY} {Z : xZ} {s : xM} {z : Int32 × xM} (h : fX9_homes s = some z) : xMi (GX Y) Z yX9_homes cX9_homes 1 5 .int [.ref (Y.1 0)] s z := by
  refine xMi_of (by decide) (Nat.le_of_ble_eq_true rfl) (fun B C R => ?_)
  have C : xC (GX Y) Z B "BetweenStops" cX9_homes 1 5 := C
  show xWS (GX Y) B 1 s [(0, .ref (Y.1 0))] 0 []
  unfold fX9_homes at h
  refine ws_aload_n (pc := 0) C dX9_homes_0 rfl 0 rfl ?_
  refine ws_getr (pc := 1) C dX9_homes_1 fd_X9_21 sf_BS_1 ?_
  obtain ⟨r1, s2, q3, h⟩ := bd_ok h
  refine wc_vV (pc := 4)  C [] [] (mX8_measure q3) dX9_homes_4 mw_X8_measure mv_X8_measure kl_X9_254 so_ways rfl rfl (Nat.le_of_ble_eq_true rfl) ⟨by decide, by decide⟩ ?_
  refine ws_aload_n (pc := 7) C dX9_homes_7 rfl 0 rfl ?_
  refine ws_aload_n (pc := 8) C dX9_homes_8 rfl 0 rfl ?_
  refine ws_getr (pc := 9) C dX9_homes_9 fd_X9_10 sf_BS_0 ?_
  refine ws_geti (pc := 12) C dX9_homes_12 fd_X9_135 sf_town_4 ?_
  obtain ⟨r4, s5, q6, h⟩ := bd_ok h
  refine wc_iV (pc := 15)  C [.int (gi s2 1 4)] [] (mX9_homesIf q6) dX9_homes_15 mw_X9_homesIf mv_X9_homesIf kl_X9_316 so_BS rfl rfl (Nat.le_of_ble_eq_true rfl) ⟨by decide, by decide⟩ ?_
  exact wr_i (pc := 18) C R dX9_homes_18 rfl h
set_option maxRecDepth 20000 in
set_option maxHeartbeats 4000000 in
theorem mX9_atBounds {Y : xY} {Z : xZ} {a0 : Int32} {a1 : Int32} {a2 : Int32} {s : xM} {z : Int32 × xM} (h : fX9_atBounds a0 a1 a2 s = some z) : xMi (GX Y) Z yX9_atBounds cX9_atBounds 3 1 .int [.int a0, .int a1, .int a2] s z := by
  refine xMi_of (by decide) (Nat.le_of_ble_eq_true rfl) (fun B C R => ?_)
  have C : xC (GX Y) Z B "BetweenStops" cX9_atBounds 3 1 := C
  show xWS (GX Y) B 3 s [(0, .int a0), (1, .int a1), (2, .int a2)] 0 []
  unfold fX9_atBounds at h
  refine ws_iload_n (pc := 0) C dX9_atBounds_0 rfl 1 rfl ?_
  refine ws_iload_n (pc := 1) C dX9_atBounds_1 rfl 2 rfl ?_
  refine ws_iload_n (pc := 2) C dX9_atBounds_2 rfl 0 rfl ?_
  refine ws_min (pc := 3) C dX9_atBounds_3 ma_X9_293 (Nat.le_of_ble_eq_true rfl) (by decide) ?_
  refine ws_max (pc := 6) C dX9_atBounds_6 ma_X9_368 (Nat.le_of_ble_eq_true rfl) (by decide) ?_
  exact wr_i (pc := 9) C R dX9_atBounds_9 rfl h
set_option maxRecDepth 20000 in
set_option maxHeartbeats 4000000 in
theorem pX9_goRounds_L25 {Y : xY} {Z : xZ} {B : xB} {z : Int32 × xM} (C : xC (GX Y) Z B "BetweenStops" cX9_goRounds 5 5) (R : xRv (GX Y) B z) {k92 : xM → Option (Int32 × xM)} {a1 : Int32} {a2 : Int32}
    (hk92 : ∀  (s : xM), k92 s = some z → xWS (GX Y) B 5 s [] 92 []) : ∀ (n : Nat) (a3 : Int32) (s : xM), fX9_goRounds_L25 k92 a1 a2 n a3 s = some z → xWS (GX Y) B 5 s [(0, .ref (Y.1 0)), (1, .int a1), (2, .int a2), (3, .int a3)] 25 [] := by
  intro n
  induction n with
  | zero =>
    intro a3 s h
    rw [fX9_goRounds_L25] at h
    cases h
  | succ n ih =>
    intro a3 s h
    rw [fX9_goRounds_L25] at h
    refine ws_iload_n (pc := 25) C dX9_goRounds_25 rfl 3 rfl ?_
    refine ws_iload_n (pc := 26) C dX9_goRounds_26 rfl 1 rfl ?_
    refine ws_icmp_gt (pc := 27) (tgt := 92) C dX9_goRounds_27 (by decide) (fun c1 => ?_) (fun c1 => ?_)
    · have h := ite_t h c1
      refine ws_less [] rfl ?_
      exact hk92 _ h
    · have h := ite_f h c1
      refine ws_iload_n (pc := 30) C dX9_goRounds_30 rfl 3 rfl ?_
      refine ws_bipush (pc := 31) C dX9_goRounds_31 cb_20 ?_
      refine ws_icmp_gt (pc := 33) (tgt := 92) C dX9_goRounds_33 (by decide) (fun c2 => ?_) (fun c2 => ?_)
      · have h := ite_t h c2
        refine ws_less [] rfl ?_
        exact hk92 _ h
      · have h := ite_f h c2
        refine ws_iconst (pc := 36) C dX9_goRounds_36 ci_1 ?_
        refine ws_aload_n (pc := 37) C dX9_goRounds_37 rfl 0 rfl ?_
        refine ws_getr (pc := 38) C dX9_goRounds_38 fd_X9_10 sf_BS_0 ?_
        refine ws_aload_n (pc := 41) C dX9_goRounds_41 rfl 0 rfl ?_
        refine ws_getr (pc := 42) C dX9_goRounds_42 fd_X9_74 sf_BS_11 ?_
        refine ws_iload_n (pc := 45) C dX9_goRounds_45 rfl 3 rfl ?_
        refine ws_iconst (pc := 46) C dX9_goRounds_46 ci_1 ?_
        refine ws_isub (pc := 47) C dX9_goRounds_47 ?_
        obtain ⟨g3, h⟩ := gd_ok h
        refine ws_ialdK (pc := 48) C dX9_goRounds_48 sr_b_homesBehind g3 rfl ?_
        obtain ⟨r4, s5, q6, h⟩ := bd_ok h
        refine wc_iV (pc := 49)  C [.int (gi s 93 (a3 - (1 : Int32)).toNatClampNeg)] [.int (1 : Int32)] (mX6_peopleBut q6) dX9_goRounds_49 mw_X6_peopleBut mv_X6_peopleBut kl_X9_384 so_town rfl rfl (Nat.le_of_ble_eq_true rfl) ⟨by decide, by decide⟩ ?_
        refine ws_max (pc := 52) C dX9_goRounds_52 ma_X9_368 (Nat.le_of_ble_eq_true rfl) (by decide) ?_
        obtain ⟨v7, e8, h⟩ := lz_ok h
        refine ws_topi C e8 ?_
        refine ws_istore (pc := 55) C dX9_goRounds_55 (by decide) rfl ?_
        refine ws_aload_n (pc := 57) C dX9_goRounds_57 rfl 1 rfl ?_
        refine ws_getr (pc := 58) C dX9_goRounds_58 fd_X9_74 sf_BS_11 ?_
        refine ws_iload_n (pc := 61) C dX9_goRounds_61 rfl 4 rfl ?_
        refine ws_aload_n (pc := 62) C dX9_goRounds_62 rfl 1 rfl ?_
        refine ws_aload_n (pc := 63) C dX9_goRounds_63 rfl 1 rfl ?_
        refine ws_getr (pc := 64) C dX9_goRounds_64 fd_X9_10 sf_BS_0 ?_
        refine ws_geti (pc := 67) C dX9_goRounds_67 fd_X9_135 sf_town_4 ?_
        refine ws_iload_n (pc := 70) C dX9_goRounds_70 rfl 3 rfl ?_
        refine ws_imul (pc := 71) C dX9_goRounds_71 ?_
        refine ws_iload (pc := 72) C dX9_goRounds_72 0 rfl ?_
        obtain ⟨g9, h⟩ := gd_ok h
        refine ws_idiv (pc := 74) C dX9_goRounds_74 (of_decide_eq_true g9) ?_
        refine ws_iconst (pc := 75) C dX9_goRounds_75 ci_1 ?_
        refine ws_sipush (pc := 76) C dX9_goRounds_76 cs_3600 ?_
        obtain ⟨r10, s11, q12, h⟩ := bd_ok h
        refine wc_iS (pc := 79)  C [.int (((gi s5 1 4) * a2) / v7), .int (1 : Int32), .int (3600 : Int32)] [.ref (Y.1 0), .int a3, .ref (Y.1 93)] (mX9_atBounds q12) dX9_goRounds_79 mw_X9_atBounds ks_X9_atBounds kl_X9_387 rfl rfl (Nat.le_of_ble_eq_true rfl) ⟨by decide, by decide⟩ ?_
        obtain ⟨r13, s14, q15, h⟩ := bd_ok h
        refine wc_iV (pc := 82)  C [.int r10] [.int a3, .ref (Y.1 93)] (mX9_homesIf q15) dX9_goRounds_82 mw_X9_homesIf mv_X9_homesIf kl_X9_316 so_BS rfl rfl (Nat.le_of_ble_eq_true rfl) ⟨by decide, by decide⟩ ?_
        obtain ⟨g16, h⟩ := gd_ok h
        obtain ⟨s17, e18, h⟩ := lz_ok h
        refine ws_iastK (pc := 85) C dX9_goRounds_85 sr_b_homesBehind g16 rfl e18 ?_
        refine ws_iinc (j := 4) (pc := 86) C dX9_goRounds_86 rfl (cn_1 _) (by decide) rfl ?_
        refine ws_goto (pc := 89) (tgt := 25) C dX9_goRounds_89 (by decide) ?_
        refine ws_less [2, 3, 4, 0] rfl ?_
        exact ih _ _ h
set_option maxRecDepth 20000 in
set_option maxHeartbeats 4000000 in
theorem mX9_goRounds {Y : xY} {Z : xZ} {a1 : Int32} {s : xM} {z : Int32 × xM} (h : fX9_goRounds a1 s = some z) : xMv (GX Y) Z yX9_goRounds cX9_goRounds 5 5 [.ref (Y.1 0), .int a1] s z := by
  refine xMv_of (by decide) (Nat.le_of_ble_eq_true rfl) (fun B C R => ?_)
  have C : xC (GX Y) Z B "BetweenStops" cX9_goRounds 5 5 := C
  show xWS (GX Y) B 5 s [(0, .ref (Y.1 0)), (1, .int a1)] 0 []
  unfold fX9_goRounds at h
  refine ws_aload_n (pc := 0) C dX9_goRounds_0 rfl 0 rfl ?_
  refine ws_getr (pc := 1) C dX9_goRounds_1 fd_X9_21 sf_BS_1 ?_
  obtain ⟨r1, s2, q3, h⟩ := bd_ok h
  refine wc_vV (pc := 4)  C [] [] (mX8_measure q3) dX9_goRounds_4 mw_X8_measure mv_X8_measure kl_X9_254 so_ways rfl rfl (Nat.le_of_ble_eq_true rfl) ⟨by decide, by decide⟩ ?_
  refine ws_aload_n (pc := 7) C dX9_goRounds_7 rfl 0 rfl ?_
  refine ws_getr (pc := 8) C dX9_goRounds_8 fd_X9_74 sf_BS_11 ?_
  refine ws_iconst (pc := 11) C dX9_goRounds_11 ci_0 ?_
  refine ws_iconst (pc := 12) C dX9_goRounds_12 ci_0 ?_
  obtain ⟨s4, e5, h⟩ := lz_ok h
  refine ws_iastK (pc := 13) C dX9_goRounds_13 sr_b_homesBehind (by decide) ck_0 e5 ?_
  refine ws_aload_n (pc := 14) C dX9_goRounds_14 rfl 0 rfl ?_
  refine ws_getr (pc := 15) C dX9_goRounds_15 fd_X9_10 sf_BS_0 ?_
  refine ws_iconst (pc := 18) C dX9_goRounds_18 ci_0 ?_
  obtain ⟨r6, s7, q8, h⟩ := bd_ok h
  refine wc_iV (pc := 19)  C [.int (0 : Int32)] [] (mX6_peopleBut q8) dX9_goRounds_19 mw_X6_peopleBut mv_X6_peopleBut kl_X9_384 so_town rfl rfl (Nat.le_of_ble_eq_true rfl) ⟨by decide, by decide⟩ ?_
  refine ws_istore_n (pc := 22) C dX9_goRounds_22 rfl (by decide) rfl ?_
  refine ws_iconst (pc := 23) C dX9_goRounds_23 ci_1 ?_
  refine ws_istore_n (pc := 24) C dX9_goRounds_24 rfl (by decide) rfl ?_
  refine ws_less [2, 3, 1, 0] rfl ?_
  refine pX9_goRounds_L25 C R (fun s9 h => ?_) fu _ _ h
  · exact wr_v (pc := 92) C R dX9_goRounds_92 h
set_option maxRecDepth 20000 in
set_option maxHeartbeats 4000000 in
theorem mX9_round {Y : xY} {Z : xZ} {a1 : Int32} {s : xM} {z : Int32 × xM} (h : fX9_round a1 s = some z) : xMi (GX Y) Z yX9_round cX9_round 2 6 .int [.ref (Y.1 0), .int a1] s z := by
  refine xMi_of (by decide) (Nat.le_of_ble_eq_true rfl) (fun B C R => ?_)
  have C : xC (GX Y) Z B "BetweenStops" cX9_round 2 6 := C
  show xWS (GX Y) B 2 s [(0, .ref (Y.1 0)), (1, .int a1)] 0 []
  unfold fX9_round at h
  refine ws_iload_n (pc := 0) C dX9_round_0 rfl 1 rfl ?_
  refine ws_iconst (pc := 1) C dX9_round_1 ci_0 ?_
  refine ws_bipush (pc := 2) C dX9_round_2 cb_20 ?_
  obtain ⟨r1, s2, q3, h⟩ := bd_ok h
  refine wc_iS (pc := 4)  C [.int a1, .int (0 : Int32), .int (20 : Int32)] [] (mX9_isWithin q3) dX9_round_4 mw_X9_isWithin ks_X9_isWithin kl_X9_111 rfl rfl (Nat.le_of_ble_eq_true rfl) ⟨by decide, by decide⟩ ?_
  refine ws_if_ne (pc := 7) (tgt := 13) C dX9_round_7 (by decide) (fun c4 => ?_) (fun c4 => ?_)
  · have h := ite_f h c4
    refine ws_aload_n (pc := 13) C dX9_round_13 rfl 0 rfl ?_
    refine ws_iload_n (pc := 14) C dX9_round_14 rfl 1 rfl ?_
    obtain ⟨r5, s6, q7, h⟩ := bd_ok h
    refine wc_vV (pc := 15)  C [.int a1] [] (mX9_goRounds q7) dX9_round_15 mw_X9_goRounds mv_X9_goRounds kl_X9_319 so_BS rfl rfl (Nat.le_of_ble_eq_true rfl) ⟨by decide, by decide⟩ ?_
    refine ws_aload_n (pc := 18) C dX9_round_18 rfl 0 rfl ?_
    refine ws_getr (pc := 19) C dX9_round_19 fd_X9_74 sf_BS_11 ?_
    refine ws_iload_n (pc := 22) C dX9_round_22 rfl 1 rfl ?_
    obtain ⟨g8, h⟩ := gd_ok h
    refine ws_ialdK (pc := 23) C dX9_round_23 sr_b_homesBehind g8 rfl ?_
    exact wr_i (pc := 24) C R dX9_round_24 rfl h
  · have h := ite_t h c4
    refine ws_bipush (pc := 10) C dX9_round_10 cb_m2 ?_
    exact wr_i (pc := 12) C R dX9_round_12 rfl h
set_option maxRecDepth 20000 in
set_option maxHeartbeats 4000000 in
theorem pX9_rest_L28 {Y : xY} {Z : xZ} {B : xB} {z : Int32 × xM} (C : xC (GX Y) Z B "BetweenStops" cX9_rest 4 6) (R : xRi (GX Y) B .int z) {k48 : Int32 → xM → Option (Int32 × xM)} {k80 : xM → Option (Int32 × xM)} {a1 : Int32} {a2 : Int32}
    (hk48 : ∀ (a3 : Int32) (s : xM), k48 a3 s = some z → xWS (GX Y) B 4 s [(0, .ref (Y.1 0)), (1, .int a1), (2, .int a2), (3, .int a3)] 48 [])
    (hk80 : ∀  (s : xM), k80 s = some z → xWS (GX Y) B 4 s [(0, .ref (Y.1 0)), (1, .int a1), (2, .int a2)] 80 []) : ∀ (n : Nat) (a3 : Int32) (s : xM), fX9_rest_L28 k48 k80 a1 a2 n a3 s = some z → xWS (GX Y) B 4 s [(0, .ref (Y.1 0)), (1, .int a1), (2, .int a2), (3, .int a3)] 28 [] := by
  intro n
  induction n with
  | zero =>
    intro a3 s h
    rw [fX9_rest_L28] at h
    cases h
  | succ n ih =>
    intro a3 s h
    rw [fX9_rest_L28] at h
    refine ws_iload_n (pc := 28) C dX9_rest_28 rfl 3 rfl ?_
    refine ws_iload_n (pc := 29) C dX9_rest_29 rfl 2 rfl ?_
    refine ws_icmp_ge (pc := 30) (tgt := 80) C dX9_rest_30 (by decide) (fun c1 => ?_) (fun c1 => ?_)
    · have h := ite_t h c1
      refine ws_less [0, 1, 2] rfl ?_
      exact hk80 _ h
    · have h := ite_f h c1
      refine ws_aload_n (pc := 33) C dX9_rest_33 rfl 0 rfl ?_
      refine ws_getr (pc := 34) C dX9_rest_34 fd_X9_74 sf_BS_11 ?_
      refine ws_iload_n (pc := 37) C dX9_rest_37 rfl 3 rfl ?_
      obtain ⟨g2, h⟩ := gd_ok h
      refine ws_ialdK (pc := 38) C dX9_rest_38 sr_b_homesBehind g2 rfl ?_
      refine ws_aload_n (pc := 39) C dX9_rest_39 rfl 0 rfl ?_
      refine ws_getr (pc := 40) C dX9_rest_40 fd_X9_74 sf_BS_11 ?_
      refine ws_iload_n (pc := 43) C dX9_rest_43 rfl 2 rfl ?_
      obtain ⟨g3, h⟩ := gd_ok h
      refine ws_ialdK (pc := 44) C dX9_rest_44 sr_b_homesBehind g3 rfl ?_
      refine ws_icmp_ne (pc := 45) (tgt := 74) C dX9_rest_45 (by decide) (fun c4 => ?_) (fun c4 => ?_)
      · have h := ite_f h c4
        refine ws_iinc (j := 3) (pc := 74) C dX9_rest_74 rfl (cn_1 _) (by decide) rfl ?_
        refine ws_goto (pc := 77) (tgt := 28) C dX9_rest_77 (by decide) ?_
        refine ws_less [1, 2, 3, 0] rfl ?_
        exact ih _ _ h
      · have h := ite_t h c4
        refine ws_less [0, 1, 2, 3] rfl ?_
        exact hk48 _ _ h
set_option maxRecDepth 20000 in
set_option maxHeartbeats 4000000 in
theorem pX9_rest_L20 {Y : xY} {Z : xZ} {B : xB} {z : Int32 × xM} (C : xC (GX Y) Z B "BetweenStops" cX9_rest 4 6) (R : xRi (GX Y) B .int z) {k48 : Int32 → Int32 → xM → Option (Int32 × xM)} {k86 : xM → Option (Int32 × xM)} {a1 : Int32}
    (hk48 : ∀ (a2 : Int32) (a3 : Int32) (s : xM), k48 a2 a3 s = some z → xWS (GX Y) B 4 s [(0, .ref (Y.1 0)), (1, .int a1), (2, .int a2), (3, .int a3)] 48 [])
    (hk86 : ∀  (s : xM), k86 s = some z → xWS (GX Y) B 4 s [] 86 []) : ∀ (n : Nat) (a2 : Int32) (s : xM), fX9_rest_L20 k48 k86 a1 n a2 s = some z → xWS (GX Y) B 4 s [(0, .ref (Y.1 0)), (1, .int a1), (2, .int a2)] 20 [] := by
  intro n
  induction n with
  | zero =>
    intro a2 s h
    rw [fX9_rest_L20] at h
    cases h
  | succ n ih =>
    intro a2 s h
    rw [fX9_rest_L20] at h
    refine ws_iload_n (pc := 20) C dX9_rest_20 rfl 2 rfl ?_
    refine ws_bipush (pc := 21) C dX9_rest_21 cb_20 ?_
    refine ws_icmp_gt (pc := 23) (tgt := 86) C dX9_rest_23 (by decide) (fun c1 => ?_) (fun c1 => ?_)
    · have h := ite_t h c1
      refine ws_less [] rfl ?_
      exact hk86 _ h
    · have h := ite_f h c1
      refine ws_iconst (pc := 26) C dX9_rest_26 ci_0 ?_
      refine ws_istore_n (pc := 27) C dX9_rest_27 rfl (by decide) rfl ?_
      refine ws_less [1, 2, 3, 0] rfl ?_
      refine pX9_rest_L28 C R (fun x2 s3 h => ?_) (fun s4 h => ?_) fu _ _ h
      · refine ws_less [0, 1, 2, 3] rfl ?_
        exact hk48 _ _ _ h
      · refine ws_iinc (j := 2) (pc := 80) C dX9_rest_80 rfl (cn_1 _) (by decide) rfl ?_
        refine ws_goto (pc := 83) (tgt := 20) C dX9_rest_83 (by decide) ?_
        refine ws_less [1, 2, 0] rfl ?_
        exact ih _ _ h
set_option maxRecDepth 20000 in
set_option maxHeartbeats 4000000 in
theorem mX9_rest {Y : xY} {Z : xZ} {a1 : Int32} {s : xM} {z : Int32 × xM} (h : fX9_rest a1 s = some z) : xMi (GX Y) Z yX9_rest cX9_rest 4 6 .int [.ref (Y.1 0), .int a1] s z := by
  refine xMi_of (by decide) (Nat.le_of_ble_eq_true rfl) (fun B C R => ?_)
  have C : xC (GX Y) Z B "BetweenStops" cX9_rest 4 6 := C
  show xWS (GX Y) B 4 s [(0, .ref (Y.1 0)), (1, .int a1)] 0 []
  unfold fX9_rest at h
  refine ws_iload_n (pc := 0) C dX9_rest_0 rfl 1 rfl ?_
  refine ws_iconst (pc := 1) C dX9_rest_1 ci_0 ?_
  refine ws_iconst (pc := 2) C dX9_rest_2 ci_2 ?_
  obtain ⟨r1, s2, q3, h⟩ := bd_ok h
  refine wc_iS (pc := 3)  C [.int a1, .int (0 : Int32), .int (2 : Int32)] [] (mX9_isWithin q3) dX9_rest_3 mw_X9_isWithin ks_X9_isWithin kl_X9_111 rfl rfl (Nat.le_of_ble_eq_true rfl) ⟨by decide, by decide⟩ ?_
  refine ws_if_ne (pc := 6) (tgt := 12) C dX9_rest_6 (by decide) (fun c4 => ?_) (fun c4 => ?_)
  · have h := ite_f h c4
    refine ws_aload_n (pc := 12) C dX9_rest_12 rfl 0 rfl ?_
    refine ws_bipush (pc := 13) C dX9_rest_13 cb_20 ?_
    obtain ⟨r5, s6, q7, h⟩ := bd_ok h
    refine wc_vV (pc := 15)  C [.int (20 : Int32)] [] (mX9_goRounds q7) dX9_rest_15 mw_X9_goRounds mv_X9_goRounds kl_X9_319 so_BS rfl rfl (Nat.le_of_ble_eq_true rfl) ⟨by decide, by decide⟩ ?_
    refine ws_iconst (pc := 18) C dX9_rest_18 ci_1 ?_
    refine ws_istore_n (pc := 19) C dX9_rest_19 rfl (by decide) rfl ?_
    refine ws_less [1, 2, 0] rfl ?_
    refine pX9_rest_L20 C R (fun x8 x9 s10 h => ?_) (fun s14 h => ?_) fu _ _ h
    · refine ws_iload_n (pc := 48) C dX9_rest_48 rfl 1 rfl ?_
      refine ws_if_ne (pc := 49) (tgt := 61) C dX9_rest_49 (by decide) (fun c11 => ?_) (fun c11 => ?_)
      · have h := ite_f h c11
        refine ws_iload_n (pc := 61) C dX9_rest_61 rfl 1 rfl ?_
        refine ws_iconst (pc := 62) C dX9_rest_62 ci_1 ?_
        refine ws_icmp_ne (pc := 63) (tgt := 70) C dX9_rest_63 (by decide) (fun c12 => ?_) (fun c12 => ?_)
        · have h := ite_f h c12
          refine ws_iload_n (pc := 70) C dX9_rest_70 rfl 2 rfl ?_
          refine ws_iload_n (pc := 71) C dX9_rest_71 rfl 3 rfl ?_
          refine ws_isub (pc := 72) C dX9_rest_72 ?_
          exact wr_i (pc := 73) C R dX9_rest_73 rfl h
        · have h := ite_t h c12
          refine ws_iload_n (pc := 66) C dX9_rest_66 rfl 3 rfl ?_
          refine ws_goto (pc := 67) (tgt := 73) C dX9_rest_67 (by decide) ?_
          exact wr_i (pc := 73) C R dX9_rest_73 rfl h
      · have h := ite_t h c11
        refine ws_aload_n (pc := 52) C dX9_rest_52 rfl 0 rfl ?_
        refine ws_getr (pc := 53) C dX9_rest_53 fd_X9_74 sf_BS_11 ?_
        refine ws_iload_n (pc := 56) C dX9_rest_56 rfl 3 rfl ?_
        obtain ⟨g13, h⟩ := gd_ok h
        refine ws_ialdK (pc := 57) C dX9_rest_57 sr_b_homesBehind g13 rfl ?_
        refine ws_goto (pc := 58) (tgt := 73) C dX9_rest_58 (by decide) ?_
        exact wr_i (pc := 73) C R dX9_rest_73 rfl h
    · refine ws_bipush (pc := 86) C dX9_rest_86 cb_m3 ?_
      exact wr_i (pc := 88) C R dX9_rest_88 rfl h
  · have h := ite_t h c4
    refine ws_bipush (pc := 9) C dX9_rest_9 cb_m2 ?_
    exact wr_i (pc := 11) C R dX9_rest_11 rfl h
set_option maxRecDepth 20000 in
set_option maxHeartbeats 4000000 in
theorem mX9_nameStop {Y : xY} {Z : xZ} {a1 : Int32} {a2 : Int32} {a3 : Int32} {s : xM} {z : Int32 × xM} (h : fX9_nameStop a1 a2 a3 s = some z) : xMv (GX Y) Z yX9_nameStop cX9_nameStop 4 2 [.ref (Y.1 0), .int a1, .int a2, .int a3] s z := by
  refine xMv_of (by decide) (Nat.le_of_ble_eq_true rfl) (fun B C R => ?_)
  have C : xC (GX Y) Z B "BetweenStops" cX9_nameStop 4 2 := C
  show xWS (GX Y) B 4 s [(0, .ref (Y.1 0)), (1, .int a1), (2, .int a2), (3, .int a3)] 0 []
  unfold fX9_nameStop at h
  refine ws_aload_n (pc := 0) C dX9_nameStop_0 rfl 0 rfl ?_
  refine ws_getr (pc := 1) C dX9_nameStop_1 fd_X9_67 sf_BS_9 ?_
  refine ws_iconst (pc := 4) C dX9_nameStop_4 ci_0 ?_
  obtain ⟨r1, s2, q3, h⟩ := bd_ok h
  refine wc_vS (pc := 5)  C [.ref (Y.1 91), .int (0 : Int32)] [] (mJ7_fill_53178 sr_b_names q3) dX9_nameStop_5 mw_J7_fill_53178 ks_J7_fill_53178 kl_X9_394 rfl rfl (Nat.le_of_ble_eq_true rfl) ⟨by decide, by decide⟩ ?_
  refine ws_aload_n (pc := 8) C dX9_nameStop_8 rfl 0 rfl ?_
  refine ws_getr (pc := 9) C dX9_nameStop_9 fd_X9_67 sf_BS_9 ?_
  refine ws_iconst (pc := 12) C dX9_nameStop_12 ci_2 ?_
  refine ws_iload_n (pc := 13) C dX9_nameStop_13 rfl 2 rfl ?_
  obtain ⟨s4, e5, h⟩ := lz_ok h
  refine ws_iastK (pc := 14) C dX9_nameStop_14 sr_b_names (by decide) ck_2 e5 ?_
  refine ws_aload_n (pc := 15) C dX9_nameStop_15 rfl 0 rfl ?_
  refine ws_getr (pc := 16) C dX9_nameStop_16 fd_X9_67 sf_BS_9 ?_
  refine ws_iconst (pc := 19) C dX9_nameStop_19 ci_4 ?_
  refine ws_iload_n (pc := 20) C dX9_nameStop_20 rfl 3 rfl ?_
  obtain ⟨s6, e7, h⟩ := lz_ok h
  refine ws_iastK (pc := 21) C dX9_nameStop_21 sr_b_names (by decide) ck_4 e7 ?_
  refine ws_aload_n (pc := 22) C dX9_nameStop_22 rfl 0 rfl ?_
  refine ws_getr (pc := 23) C dX9_nameStop_23 fd_X9_67 sf_BS_9 ?_
  refine ws_iconst (pc := 26) C dX9_nameStop_26 ci_5 ?_
  refine ws_iload_n (pc := 27) C dX9_nameStop_27 rfl 1 rfl ?_
  obtain ⟨s8, e9, h⟩ := lz_ok h
  refine ws_iastK (pc := 28) C dX9_nameStop_28 sr_b_names (by decide) ck_5 e9 ?_
  exact wr_v (pc := 29) C R dX9_nameStop_29 h
set_option maxRecDepth 20000 in
set_option maxHeartbeats 4000000 in
theorem mX9_wantedNow {Y : xY} {Z : xZ} {a1 : Int32} {s : xM} {z : Int32 × xM} (h : fX9_wantedNow a1 s = some z) : xMi (GX Y) Z yX9_wantedNow cX9_wantedNow 2 4 .int [.ref (Y.1 0), .int a1] s z := by
  refine xMi_of (by decide) (Nat.le_of_ble_eq_true rfl) (fun B C R => ?_)
  have C : xC (GX Y) Z B "BetweenStops" cX9_wantedNow 2 4 := C
  show xWS (GX Y) B 2 s [(0, .ref (Y.1 0)), (1, .int a1)] 0 []
  unfold fX9_wantedNow at h
  refine ws_aload_n (pc := 0) C dX9_wantedNow_0 rfl 0 rfl ?_
  refine ws_getr (pc := 1) C dX9_wantedNow_1 fd_X9_10 sf_BS_0 ?_
  refine ws_getr (pc := 4) C dX9_wantedNow_4 fd_X9_154 sf_town_6 ?_
  refine ws_iload_n (pc := 7) C dX9_wantedNow_7 rfl 1 rfl ?_
  obtain ⟨g1, h⟩ := gd_ok h
  refine ws_aaldK (q := (11 + a1.toNatClampNeg)) (pc := 8) C dX9_wantedNow_8 (by decide) sq_stops g1 rfl rfl ?_
  refine ws_iconst (pc := 9) C dX9_wantedNow_9 ci_1 ?_
  obtain ⟨r2, s3, q4, h⟩ := bd_ok h
  refine wc_iV (pc := 10)  C [.int (1 : Int32)] [] (mX3_isOf (inb_lt g1) q4) dX9_wantedNow_10 mw_X3_isOf mv_X3_isOf kl_X9_194 (so_stop (inb_lt g1)) rfl rfl (Nat.le_of_ble_eq_true rfl) ⟨by decide, by decide⟩ ?_
  refine ws_if_ne (pc := 13) (tgt := 29) C dX9_wantedNow_13 (by decide) (fun c5 => ?_) (fun c5 => ?_)
  · have h := ite_f h c5
    refine ws_aload_n (pc := 29) C dX9_wantedNow_29 rfl 0 rfl ?_
    refine ws_iload_n (pc := 30) C dX9_wantedNow_30 rfl 1 rfl ?_
    refine ws_iconst (pc := 31) C dX9_wantedNow_31 ci_0 ?_
    refine ws_aload_n (pc := 32) C dX9_wantedNow_32 rfl 0 rfl ?_
    refine ws_getr (pc := 33) C dX9_wantedNow_33 fd_X9_21 sf_BS_1 ?_
    refine ws_iload_n (pc := 36) C dX9_wantedNow_36 rfl 1 rfl ?_
    obtain ⟨r6, s7, q8, h⟩ := bd_ok h
    refine wc_iV (pc := 37)  C [.int a1] [.int (0 : Int32), .int a1, .ref (Y.1 0)] (mX8_usersOf q8) dX9_wantedNow_37 mw_X8_usersOf mv_X8_usersOf kl_X9_251 so_ways rfl rfl (Nat.le_of_ble_eq_true rfl) ⟨by decide, by decide⟩ ?_
    obtain ⟨r9, s10, q11, h⟩ := bd_ok h
    refine wc_vV (pc := 40)  C [.int a1, .int (0 : Int32), .int r6] [] (mX9_nameStop q11) dX9_wantedNow_40 mw_X9_nameStop mv_X9_nameStop kl_X9_390 so_BS rfl rfl (Nat.le_of_ble_eq_true rfl) ⟨by decide, by decide⟩ ?_
    refine ws_aload_n (pc := 43) C dX9_wantedNow_43 rfl 0 rfl ?_
    refine ws_getr (pc := 44) C dX9_wantedNow_44 fd_X9_43 sf_BS_4 ?_
    refine ws_aload_n (pc := 47) C dX9_wantedNow_47 rfl 0 rfl ?_
    refine ws_geti (pc := 48) C dX9_wantedNow_48 fd_X9_51 sf_BS_6 ?_
    obtain ⟨g12, h⟩ := gd_ok h
    refine ws_aaldK (q := (97 + 4 * (gi s10 0 6).toNatClampNeg)) (pc := 51) C dX9_wantedNow_51 (by decide) sq_texts g12 rfl rfl ?_
    refine ws_iconst (pc := 52) C dX9_wantedNow_52 ci_2 ?_
    refine ws_aload_n (pc := 53) C dX9_wantedNow_53 rfl 0 rfl ?_
    refine ws_getr (pc := 54) C dX9_wantedNow_54 fd_X9_67 sf_BS_9 ?_
    obtain ⟨r13, s14, q15, h⟩ := bd_ok h
    refine wc_iV (pc := 57)  C [.int (2 : Int32), .ref (Y.1 91)] [] (mX5_valueOf (inb_lt g12) q15) dX9_wantedNow_57 mw_X5_valueOf mv_X5_valueOf kl_X9_380 (so_text (inb_lt g12)) rfl rfl (Nat.le_of_ble_eq_true rfl) ⟨by decide, by decide⟩ ?_
    refine ws_iconst (pc := 60) C dX9_wantedNow_60 ci_0 ?_
    refine ws_bipush (pc := 61) C dX9_wantedNow_61 cb_10 ?_
    obtain ⟨r16, s17, q18, h⟩ := bd_ok h
    refine wc_iS (pc := 63)  C [.int r13, .int (0 : Int32), .int (10 : Int32)] [] (mX9_atBounds q18) dX9_wantedNow_63 mw_X9_atBounds ks_X9_atBounds kl_X9_387 rfl rfl (Nat.le_of_ble_eq_true rfl) ⟨by decide, by decide⟩ ?_
    exact wr_i (pc := 66) C R dX9_wantedNow_66 rfl h
  · have h := ite_t h c5
    refine ws_aload_n (pc := 16) C dX9_wantedNow_16 rfl 0 rfl ?_
    refine ws_getr (pc := 17) C dX9_wantedNow_17 fd_X9_10 sf_BS_0 ?_
    refine ws_getr (pc := 20) C dX9_wantedNow_20 fd_X9_154 sf_town_6 ?_
    refine ws_iload_n (pc := 23) C dX9_wantedNow_23 rfl 1 rfl ?_
    obtain ⟨g19, h⟩ := gd_ok h
    refine ws_aaldK (q := (11 + a1.toNatClampNeg)) (pc := 24) C dX9_wantedNow_24 (by decide) sq_stops g19 rfl rfl ?_
    refine ws_geti (pc := 25) C dX9_wantedNow_25 fd_X9_175 (sf_stop_6 (inb_lt g19)) ?_
    exact wr_i (pc := 28) C R dX9_wantedNow_28 rfl h
set_option maxRecDepth 20000 in
set_option maxHeartbeats 4000000 in
theorem mX9_asks {Y : xY} {Z : xZ} {a1 : Int32} {s : xM} {z : Int32 × xM} (h : fX9_asks a1 s = some z) : xMi (GX Y) Z yX9_asks cX9_asks 2 6 .int [.ref (Y.1 0), .int a1] s z := by
  refine xMi_of (by decide) (Nat.le_of_ble_eq_true rfl) (fun B C R => ?_)
  have C : xC (GX Y) Z B "BetweenStops" cX9_asks 2 6 := C
  show xWS (GX Y) B 2 s [(0, .ref (Y.1 0)), (1, .int a1)] 0 []
  unfold fX9_asks at h
  refine ws_aload_n (pc := 0) C dX9_asks_0 rfl 0 rfl ?_
  refine ws_iload_n (pc := 1) C dX9_asks_1 rfl 1 rfl ?_
  obtain ⟨r1, s2, q3, h⟩ := bd_ok h
  refine wc_iV (pc := 2)  C [.int a1] [] (mX9_isStop q3) dX9_asks_2 mw_X9_isStop mv_X9_isStop kl_X9_164 so_BS rfl rfl (Nat.le_of_ble_eq_true rfl) ⟨by decide, by decide⟩ ?_
  refine ws_if_ne (pc := 5) (tgt := 11) C dX9_asks_5 (by decide) (fun c4 => ?_) (fun c4 => ?_)
  · have h := ite_f h c4
    refine ws_aload_n (pc := 11) C dX9_asks_11 rfl 0 rfl ?_
    obtain ⟨r5, s6, q7, h⟩ := bd_ok h
    refine wc_vV (pc := 12)  C [] [] (mX9_lookAtNow q7) dX9_asks_12 mw_X9_lookAtNow mv_X9_lookAtNow kl_X9_218 so_BS rfl rfl (Nat.le_of_ble_eq_true rfl) ⟨by decide, by decide⟩ ?_
    refine ws_aload_n (pc := 15) C dX9_asks_15 rfl 0 rfl ?_
    refine ws_iload_n (pc := 16) C dX9_asks_16 rfl 1 rfl ?_
    obtain ⟨r8, s9, q10, h⟩ := bd_ok h
    refine wc_iV (pc := 17)  C [.int a1] [] (mX9_wantedNow q10) dX9_asks_17 mw_X9_wantedNow mv_X9_wantedNow kl_X9_322 so_BS rfl rfl (Nat.le_of_ble_eq_true rfl) ⟨by decide, by decide⟩ ?_
    exact wr_i (pc := 20) C R dX9_asks_20 rfl h
  · have h := ite_t h c4
    refine ws_bipush (pc := 8) C dX9_asks_8 cb_m5 ?_
    exact wr_i (pc := 10) C R dX9_asks_10 rfl h
set_option maxRecDepth 20000 in
set_option maxHeartbeats 4000000 in
theorem pX9_asked_L6 {Y : xY} {Z : xZ} {B : xB} {z : Int32 × xM} (C : xC (GX Y) Z B "BetweenStops" cX9_asked 3 6) (R : xRi (GX Y) B .int z) {k34 : xM → Option (Int32 × xM)}
    (hk34 : ∀  (s : xM), k34 s = some z → xWS (GX Y) B 3 s [(0, .ref (Y.1 0))] 34 []) : ∀ (n : Nat) (a1 : Int32) (s : xM), fX9_asked_L6 k34 n a1 s = some z → xWS (GX Y) B 3 s [(0, .ref (Y.1 0)), (1, .int a1)] 6 [] := by
  intro n
  induction n with
  | zero =>
    intro a1 s h
    rw [fX9_asked_L6] at h
    cases h
  | succ n ih =>
    intro a1 s h
    rw [fX9_asked_L6] at h
    refine ws_iload_n (pc := 6) C dX9_asked_6 rfl 1 rfl ?_
    refine ws_aload_n (pc := 7) C dX9_asked_7 rfl 0 rfl ?_
    refine ws_getr (pc := 8) C dX9_asked_8 fd_X9_10 sf_BS_0 ?_
    refine ws_geti (pc := 11) C dX9_asked_11 fd_X9_151 sf_town_7 ?_
    refine ws_icmp_ge (pc := 14) (tgt := 34) C dX9_asked_14 (by decide) (fun c1 => ?_) (fun c1 => ?_)
    · have h := ite_t h c1
      refine ws_less [0] rfl ?_
      exact hk34 _ h
    · have h := ite_f h c1
      refine ws_aload_n (pc := 17) C dX9_asked_17 rfl 0 rfl ?_
      refine ws_getr (pc := 18) C dX9_asked_18 fd_X9_83 sf_BS_14 ?_
      refine ws_iload_n (pc := 21) C dX9_asked_21 rfl 1 rfl ?_
      refine ws_aload_n (pc := 22) C dX9_asked_22 rfl 0 rfl ?_
      refine ws_iload_n (pc := 23) C dX9_asked_23 rfl 1 rfl ?_
      obtain ⟨r2, s3, q4, h⟩ := bd_ok h
      refine wc_iV (pc := 24)  C [.int a1] [.int a1, .ref (Y.1 96)] (mX9_wantedNow q4) dX9_asked_24 mw_X9_wantedNow mv_X9_wantedNow kl_X9_322 so_BS rfl rfl (Nat.le_of_ble_eq_true rfl) ⟨by decide, by decide⟩ ?_
      obtain ⟨g5, h⟩ := gd_ok h
      obtain ⟨s6, e7, h⟩ := lz_ok h
      refine ws_iastK (pc := 27) C dX9_asked_27 sr_b_wishes g5 rfl e7 ?_
      refine ws_iinc (j := 1) (pc := 28) C dX9_asked_28 rfl (cn_1 _) (by decide) rfl ?_
      refine ws_goto (pc := 31) (tgt := 6) C dX9_asked_31 (by decide) ?_
      refine ws_less [1, 0] rfl ?_
      exact ih _ _ h
set_option maxRecDepth 20000 in
set_option maxHeartbeats 4000000 in
theorem pX9_asked_L38 {Y : xY} {Z : xZ} {B : xB} {z : Int32 × xM} (C : xC (GX Y) Z B "BetweenStops" cX9_asked 3 6) (R : xRi (GX Y) B .int z) {k97 : Int32 → xM → Option (Int32 × xM)}
    (hk97 : ∀ (a1 : Int32) (s : xM), k97 a1 s = some z → xWS (GX Y) B 3 s [(1, .int a1)] 97 []) : ∀ (n : Nat) (a1 : Int32) (a2 : Int32) (s : xM), fX9_asked_L38 k97 n a1 a2 s = some z → xWS (GX Y) B 3 s [(0, .ref (Y.1 0)), (1, .int a1), (2, .int a2)] 38 [] := by
  intro n
  induction n with
  | zero =>
    intro a1 a2 s h
    rw [fX9_asked_L38] at h
    cases h
  | succ n ih =>
    intro a1 a2 s h
    rw [fX9_asked_L38] at h
    refine ws_iload_n (pc := 38) C dX9_asked_38 rfl 2 rfl ?_
    refine ws_aload_n (pc := 39) C dX9_asked_39 rfl 0 rfl ?_
    refine ws_getr (pc := 40) C dX9_asked_40 fd_X9_10 sf_BS_0 ?_
    refine ws_geti (pc := 43) C dX9_asked_43 fd_X9_151 sf_town_7 ?_
    refine ws_icmp_ge (pc := 46) (tgt := 97) C dX9_asked_46 (by decide) (fun c1 => ?_) (fun c1 => ?_)
    · have h := ite_t h c1
      refine ws_less [1] rfl ?_
      exact hk97 _ _ h
    · have h := ite_f h c1
      refine ws_aload_n (pc := 49) C dX9_asked_49 rfl 0 rfl ?_
      refine ws_getr (pc := 50) C dX9_asked_50 fd_X9_10 sf_BS_0 ?_
      refine ws_getr (pc := 53) C dX9_asked_53 fd_X9_154 sf_town_6 ?_
      refine ws_iload_n (pc := 56) C dX9_asked_56 rfl 2 rfl ?_
      obtain ⟨g2, h⟩ := gd_ok h
      refine ws_aaldK (q := (11 + a2.toNatClampNeg)) (pc := 57) C dX9_asked_57 (by decide) sq_stops g2 rfl rfl ?_
      refine ws_geti (pc := 58) C dX9_asked_58 fd_X9_175 (sf_stop_6 (inb_lt g2)) ?_
      refine ws_aload_n (pc := 61) C dX9_asked_61 rfl 0 rfl ?_
      refine ws_getr (pc := 62) C dX9_asked_62 fd_X9_83 sf_BS_14 ?_
      refine ws_iload_n (pc := 65) C dX9_asked_65 rfl 2 rfl ?_
      obtain ⟨g3, h⟩ := gd_ok h
      refine ws_ialdK (pc := 66) C dX9_asked_66 sr_b_wishes g3 rfl ?_
      refine ws_icmp_eq (pc := 67) (tgt := 91) C dX9_asked_67 (by decide) (fun c4 => ?_) (fun c4 => ?_)
      · have h := ite_t h c4
        refine ws_iinc (j := 2) (pc := 91) C dX9_asked_91 rfl (cn_1 _) (by decide) rfl ?_
        refine ws_goto (pc := 94) (tgt := 38) C dX9_asked_94 (by decide) ?_
        refine ws_less [1, 2, 0] rfl ?_
        exact ih _ _ _ h
      · have h := ite_f h c4
        refine ws_aload_n (pc := 70) C dX9_asked_70 rfl 0 rfl ?_
        refine ws_getr (pc := 71) C dX9_asked_71 fd_X9_10 sf_BS_0 ?_
        refine ws_getr (pc := 74) C dX9_asked_74 fd_X9_154 sf_town_6 ?_
        refine ws_iload_n (pc := 77) C dX9_asked_77 rfl 2 rfl ?_
        obtain ⟨g5, h⟩ := gd_ok h
        refine ws_aaldK (q := (11 + a2.toNatClampNeg)) (pc := 78) C dX9_asked_78 (by decide) sq_stops g5 rfl rfl ?_
        refine ws_aload_n (pc := 79) C dX9_asked_79 rfl 0 rfl ?_
        refine ws_getr (pc := 80) C dX9_asked_80 fd_X9_83 sf_BS_14 ?_
        refine ws_iload_n (pc := 83) C dX9_asked_83 rfl 2 rfl ?_
        obtain ⟨g6, h⟩ := gd_ok h
        refine ws_ialdK (pc := 84) C dX9_asked_84 sr_b_wishes g6 rfl ?_
        obtain ⟨s7, e8, h⟩ := lz_ok h
        refine ws_putI (pc := 85) C dX9_asked_85 fp_X9_175 (sf_stop_6 (inb_lt g5)) e8 ?_
        refine ws_iinc (j := 1) (pc := 88) C dX9_asked_88 rfl (cn_1 _) (by decide) rfl ?_
        refine ws_iinc (j := 2) (pc := 91) C dX9_asked_91 rfl (cn_1 _) (by decide) rfl ?_
        refine ws_goto (pc := 94) (tgt := 38) C dX9_asked_94 (by decide) ?_
        refine ws_less [2, 1, 0] rfl ?_
        exact ih _ _ _ h
set_option maxRecDepth 20000 in
set_option maxHeartbeats 4000000 in
theorem mX9_asked {Y : xY} {Z : xZ} {s : xM} {z : Int32 × xM} (h : fX9_asked s = some z) : xMi (GX Y) Z yX9_asked cX9_asked 3 6 .int [.ref (Y.1 0)] s z := by
  refine xMi_of (by decide) (Nat.le_of_ble_eq_true rfl) (fun B C R => ?_)
  have C : xC (GX Y) Z B "BetweenStops" cX9_asked 3 6 := C
  show xWS (GX Y) B 3 s [(0, .ref (Y.1 0))] 0 []
  unfold fX9_asked at h
  refine ws_aload_n (pc := 0) C dX9_asked_0 rfl 0 rfl ?_
  obtain ⟨r1, s2, q3, h⟩ := bd_ok h
  refine wc_vV (pc := 1)  C [] [] (mX9_lookAtNow q3) dX9_asked_1 mw_X9_lookAtNow mv_X9_lookAtNow kl_X9_218 so_BS rfl rfl (Nat.le_of_ble_eq_true rfl) ⟨by decide, by decide⟩ ?_
  refine ws_iconst (pc := 4) C dX9_asked_4 ci_0 ?_
  refine ws_istore_n (pc := 5) C dX9_asked_5 rfl (by decide) rfl ?_
  refine ws_less [1, 0] rfl ?_
  refine pX9_asked_L6 C R (fun s4 h => ?_) fu _ _ h
  · refine ws_iconst (pc := 34) C dX9_asked_34 ci_0 ?_
    refine ws_istore_n (pc := 35) C dX9_asked_35 rfl (by decide) rfl ?_
    refine ws_iconst (pc := 36) C dX9_asked_36 ci_0 ?_
    refine ws_istore_n (pc := 37) C dX9_asked_37 rfl (by decide) rfl ?_
    refine ws_less [2, 1, 0] rfl ?_
    refine pX9_asked_L38 C R (fun x5 s6 h => ?_) fu _ _ _ h
    · refine ws_iload_n (pc := 97) C dX9_asked_97 rfl 0 rfl ?_
      exact wr_i (pc := 98) C R dX9_asked_98 rfl h
set_option maxRecDepth 20000 in
set_option maxHeartbeats 4000000 in
theorem mX9_stopsNow {Y : xY} {Z : xZ} {a1 : Int32} {a2 : Int32} {s : xM} {z : Int32 × xM} (h : fX9_stopsNow a1 a2 s = some z) : xMi (GX Y) Z yX9_stopsNow cX9_stopsNow 3 1 .boolean [.ref (Y.1 0), .int a1, .int a2] s z := by
  refine xMi_of (by decide) (Nat.le_of_ble_eq_true rfl) (fun B C R => ?_)
  have C : xC (GX Y) Z B "BetweenStops" cX9_stopsNow 3 1 := C
  show xWS (GX Y) B 3 s [(0, .ref (Y.1 0)), (1, .int a1), (2, .int a2)] 0 []
  unfold fX9_stopsNow at h
  refine ws_aload_n (pc := 0) C dX9_stopsNow_0 rfl 0 rfl ?_
  refine ws_getr (pc := 1) C dX9_stopsNow_1 fd_X9_10 sf_BS_0 ?_
  refine ws_getr (pc := 4) C dX9_stopsNow_4 fd_X9_154 sf_town_6 ?_
  refine ws_iload_n (pc := 7) C dX9_stopsNow_7 rfl 2 rfl ?_
  obtain ⟨g1, h⟩ := gd_ok h
  refine ws_aaldK (q := (11 + a2.toNatClampNeg)) (pc := 8) C dX9_stopsNow_8 (by decide) sq_stops g1 rfl rfl ?_
  refine ws_geti (pc := 9) C dX9_stopsNow_9 fd_X9_167 (sf_stop_5 (inb_lt g1)) ?_
  refine ws_if_eq (pc := 12) (tgt := 35) C dX9_stopsNow_12 (by decide) (fun c2 => ?_) (fun c2 => ?_)
  · have h := ite_t h c2
    refine ws_iconst (pc := 35) C dX9_stopsNow_35 ci_0 ?_
    exact wr_i (pc := 36) C R dX9_stopsNow_36 (isZ_nar isZ0) h
  · have h := ite_f h c2
    refine ws_aload_n (pc := 15) C dX9_stopsNow_15 rfl 0 rfl ?_
    refine ws_getr (pc := 16) C dX9_stopsNow_16 fd_X9_21 sf_BS_1 ?_
    refine ws_getr (pc := 19) C dX9_stopsNow_19 fd_X9_377 sf_ways_1 ?_
    refine ws_iload_n (pc := 22) C dX9_stopsNow_22 rfl 2 rfl ?_
    obtain ⟨g3, h⟩ := gd_ok h
    refine ws_ialdK (pc := 23) C dX9_stopsNow_23 sr_w_cars g3 rfl ?_
    refine ws_iconst (pc := 24) C dX9_stopsNow_24 ci_1 ?_
    refine ws_iload_n (pc := 25) C dX9_stopsNow_25 rfl 1 rfl ?_
    refine ws_ishl (pc := 26) C dX9_stopsNow_26 ?_
    refine ws_iand (pc := 27) C dX9_stopsNow_27 ?_
    refine ws_if_eq (pc := 28) (tgt := 35) C dX9_stopsNow_28 (by decide) (fun c4 => ?_) (fun c4 => ?_)
    · have h := ite_t h c4
      refine ws_iconst (pc := 35) C dX9_stopsNow_35 ci_0 ?_
      exact wr_i (pc := 36) C R dX9_stopsNow_36 (isZ_nar isZ0) h
    · have h := ite_f h c4
      refine ws_iconst (pc := 31) C dX9_stopsNow_31 ci_1 ?_
      refine ws_goto (pc := 32) (tgt := 36) C dX9_stopsNow_32 (by decide) ?_
      exact wr_i (pc := 36) C R dX9_stopsNow_36 (isZ_nar isZ1) h
set_option maxRecDepth 20000 in
set_option maxHeartbeats 4000000 in
theorem mX9_leave {Y : xY} {Z : xZ} {a1 : Int32} {a2 : Int32} {s : xM} {z : Int32 × xM} (h : fX9_leave a1 a2 s = some z) : xMi (GX Y) Z yX9_leave cX9_leave 5 4 .int [.ref (Y.1 0), .int a1, .int a2] s z := by
  refine xMi_of (by decide) (Nat.le_of_ble_eq_true rfl) (fun B C R => ?_)
  have C : xC (GX Y) Z B "BetweenStops" cX9_leave 5 4 := C
  show xWS (GX Y) B 5 s [(0, .ref (Y.1 0)), (1, .int a1), (2, .int a2)] 0 []
  unfold fX9_leave at h
  refine ws_iload_n (pc := 0) C dX9_leave_0 rfl 2 rfl ?_
  refine ws_aload_n (pc := 1) C dX9_leave_1 rfl 0 rfl ?_
  refine ws_getr (pc := 2) C dX9_leave_2 fd_X9_77 sf_BS_12 ?_
  refine ws_iload_n (pc := 5) C dX9_leave_5 rfl 1 rfl ?_
  obtain ⟨g1, h⟩ := gd_ok h
  refine ws_ialdK (pc := 6) C dX9_leave_6 sr_b_left g1 rfl ?_
  refine ws_max (pc := 7) C dX9_leave_7 ma_X9_368 (Nat.le_of_ble_eq_true rfl) (by decide) ?_
  obtain ⟨v2, e3, h⟩ := lz_ok h
  refine ws_topi C e3 ?_
  refine ws_istore_n (pc := 10) C dX9_leave_10 rfl (by decide) rfl ?_
  refine ws_iload_n (pc := 11) C dX9_leave_11 rfl 0 rfl ?_
  refine ws_aload_n (pc := 12) C dX9_leave_12 rfl 1 rfl ?_
  refine ws_getr (pc := 13) C dX9_leave_13 fd_X9_77 sf_BS_12 ?_
  refine ws_iload_n (pc := 16) C dX9_leave_16 rfl 2 rfl ?_
  obtain ⟨g4, h⟩ := gd_ok h
  refine ws_ialdK (pc := 17) C dX9_leave_17 sr_b_left g4 rfl ?_
  refine ws_isub (pc := 18) C dX9_leave_18 ?_
  obtain ⟨v5, e6, h⟩ := lz_ok h
  refine ws_topi C e6 ?_
  refine ws_istore (pc := 19) C dX9_leave_19 (by decide) rfl ?_
  refine ws_aload_n (pc := 21) C dX9_leave_21 rfl 2 rfl ?_
  refine ws_iload_n (pc := 22) C dX9_leave_22 rfl 3 rfl ?_
  refine ws_iload (pc := 23) C dX9_leave_23 0 rfl ?_
  refine ws_aload_n (pc := 25) C dX9_leave_25 rfl 2 rfl ?_
  refine ws_getr (pc := 26) C dX9_leave_26 fd_X9_21 sf_BS_1 ?_
  refine ws_iload_n (pc := 29) C dX9_leave_29 rfl 3 rfl ?_
  obtain ⟨r7, s8, q9, h⟩ := bd_ok h
  refine wc_iV (pc := 30)  C [.int a1] [.int v5, .int a1, .ref (Y.1 0)] (mX8_usersOf q9) dX9_leave_30 mw_X8_usersOf mv_X8_usersOf kl_X9_251 so_ways rfl rfl (Nat.le_of_ble_eq_true rfl) ⟨by decide, by decide⟩ ?_
  refine ws_iload (pc := 33) C dX9_leave_33 0 rfl ?_
  refine ws_imul (pc := 35) C dX9_leave_35 ?_
  refine ws_iconst (pc := 36) C dX9_leave_36 ci_1 ?_
  refine ws_aload_n (pc := 37) C dX9_leave_37 rfl 2 rfl ?_
  refine ws_getr (pc := 38) C dX9_leave_38 fd_X9_10 sf_BS_0 ?_
  refine ws_geti (pc := 41) C dX9_leave_41 fd_X9_135 sf_town_4 ?_
  refine ws_max (pc := 44) C dX9_leave_44 ma_X9_368 (Nat.le_of_ble_eq_true rfl) (by decide) ?_
  obtain ⟨g10, h⟩ := gd_ok h
  refine ws_idiv (pc := 47) C dX9_leave_47 (of_decide_eq_true g10) ?_
  obtain ⟨r11, s12, q13, h⟩ := bd_ok h
  refine wc_vV (pc := 48)  C [.int a1, .int v5, .int ((r7 * v5) / (if (1 : Int32) < (gi s8 1 4) then (gi s8 1 4) else (1 : Int32)))] [] (mX9_nameStop q13) dX9_leave_48 mw_X9_nameStop mv_X9_nameStop kl_X9_390 so_BS rfl rfl (Nat.le_of_ble_eq_true rfl) ⟨by decide, by decide⟩ ?_
  refine ws_aload_n (pc := 51) C dX9_leave_51 rfl 2 rfl ?_
  refine ws_getr (pc := 52) C dX9_leave_52 fd_X9_77 sf_BS_12 ?_
  refine ws_iload_n (pc := 55) C dX9_leave_55 rfl 3 rfl ?_
  refine ws_iload_n (pc := 56) C dX9_leave_56 rfl 1 rfl ?_
  refine ws_aload_n (pc := 57) C dX9_leave_57 rfl 2 rfl ?_
  refine ws_getr (pc := 58) C dX9_leave_58 fd_X9_21 sf_BS_1 ?_
  refine ws_getr (pc := 61) C dX9_leave_61 fd_X9_310 sf_ways_2 ?_
  refine ws_iload_n (pc := 64) C dX9_leave_64 rfl 3 rfl ?_
  obtain ⟨g14, h⟩ := gd_ok h
  refine ws_ialdK (pc := 65) C dX9_leave_65 sr_w_seconds g14 rfl ?_
  refine ws_iadd (pc := 66) C dX9_leave_66 ?_
  refine ws_aload_n (pc := 67) C dX9_leave_67 rfl 2 rfl ?_
  refine ws_getr (pc := 68) C dX9_leave_68 fd_X9_43 sf_BS_4 ?_
  refine ws_aload_n (pc := 71) C dX9_leave_71 rfl 2 rfl ?_
  refine ws_geti (pc := 72) C dX9_leave_72 fd_X9_51 sf_BS_6 ?_
  obtain ⟨g15, h⟩ := gd_ok h
  refine ws_aaldK (q := (97 + 4 * (gi s12 0 6).toNatClampNeg)) (pc := 75) C dX9_leave_75 (by decide) sq_texts g15 rfl rfl ?_
  refine ws_iconst (pc := 76) C dX9_leave_76 ci_1 ?_
  refine ws_aload_n (pc := 77) C dX9_leave_77 rfl 2 rfl ?_
  refine ws_getr (pc := 78) C dX9_leave_78 fd_X9_67 sf_BS_9 ?_
  obtain ⟨r16, s17, q18, h⟩ := bd_ok h
  refine wc_iV (pc := 81)  C [.int (1 : Int32), .ref (Y.1 91)] [.int (v2 + (gi s12 29 a1.toNatClampNeg)), .int a1, .ref (Y.1 94)] (mX5_valueOf (inb_lt g15) q18) dX9_leave_81 mw_X5_valueOf mv_X5_valueOf kl_X9_380 (so_text (inb_lt g15)) rfl rfl (Nat.le_of_ble_eq_true rfl) ⟨by decide, by decide⟩ ?_
  refine ws_iconst (pc := 84) C dX9_leave_84 ci_0 ?_
  refine ws_sipush (pc := 85) C dX9_leave_85 cs_999 ?_
  obtain ⟨r19, s20, q21, h⟩ := bd_ok h
  refine wc_iS (pc := 88)  C [.int r16, .int (0 : Int32), .int (999 : Int32)] [.int (v2 + (gi s12 29 a1.toNatClampNeg)), .int a1, .ref (Y.1 94)] (mX9_atBounds q21) dX9_leave_88 mw_X9_atBounds ks_X9_atBounds kl_X9_387 rfl rfl (Nat.le_of_ble_eq_true rfl) ⟨by decide, by decide⟩ ?_
  refine ws_iadd (pc := 91) C dX9_leave_91 ?_
  obtain ⟨g22, h⟩ := gd_ok h
  obtain ⟨s23, e24, h⟩ := lz_ok h
  refine ws_iastK (pc := 92) C dX9_leave_92 sr_b_left g22 rfl e24 ?_
  refine ws_aload_n (pc := 93) C dX9_leave_93 rfl 2 rfl ?_
  refine ws_getr (pc := 94) C dX9_leave_94 fd_X9_77 sf_BS_12 ?_
  refine ws_iload_n (pc := 97) C dX9_leave_97 rfl 3 rfl ?_
  obtain ⟨g25, h⟩ := gd_ok h
  refine ws_ialdK (pc := 98) C dX9_leave_98 sr_b_left g25 rfl ?_
  exact wr_i (pc := 99) C R dX9_leave_99 rfl h
set_option maxRecDepth 20000 in
set_option maxHeartbeats 4000000 in
theorem pX9_endOf_L34 {Y : xY} {Z : xZ} {B : xB} {z : Int32 × xM} (C : xC (GX Y) Z B "BetweenStops" cX9_endOf 6 5) (R : xRi (GX Y) B .int z) {k90 : Int32 → xM → Option (Int32 × xM)} {a1 : Int32} {a4 : Int32}
    (hk90 : ∀ (a3 : Int32) (s : xM), k90 a3 s = some z → xWS (GX Y) B 6 s [(0, .ref (Y.1 0)), (1, .int a1), (3, .int a3), (4, .int a4)] 90 []) : ∀ (n : Nat) (a3 : Int32) (a5 : Int32) (s : xM), fX9_endOf_L34 k90 a1 a4 n a3 a5 s = some z → xWS (GX Y) B 6 s [(0, .ref (Y.1 0)), (1, .int a1), (3, .int a3), (4, .int a4), (5, .int a5)] 34 [] := by
  intro n
  induction n with
  | zero =>
    intro a3 a5 s h
    rw [fX9_endOf_L34] at h
    cases h
  | succ n ih =>
    intro a3 a5 s h
    rw [fX9_endOf_L34] at h
    refine ws_iload (pc := 34) C dX9_endOf_34 4 rfl ?_
    refine ws_aload_n (pc := 36) C dX9_endOf_36 rfl 0 rfl ?_
    refine ws_getr (pc := 37) C dX9_endOf_37 fd_X9_10 sf_BS_0 ?_
    refine ws_geti (pc := 40) C dX9_endOf_40 fd_X9_151 sf_town_7 ?_
    refine ws_icmp_ge (pc := 43) (tgt := 90) C dX9_endOf_43 (by decide) (fun c1 => ?_) (fun c1 => ?_)
    · have h := ite_t h c1
      refine ws_less [0, 1, 2, 3] rfl ?_
      exact hk90 _ _ h
    · have h := ite_f h c1
      refine ws_aload_n (pc := 46) C dX9_endOf_46 rfl 0 rfl ?_
      refine ws_getr (pc := 47) C dX9_endOf_47 fd_X9_10 sf_BS_0 ?_
      refine ws_getr (pc := 50) C dX9_endOf_50 fd_X9_154 sf_town_6 ?_
      refine ws_iload (pc := 53) C dX9_endOf_53 4 rfl ?_
      obtain ⟨g2, h⟩ := gd_ok h
      refine ws_aaldK (q := (11 + a5.toNatClampNeg)) (pc := 55) C dX9_endOf_55 (by decide) sq_stops g2 rfl rfl ?_
      refine ws_geti (pc := 56) C dX9_endOf_56 fd_X9_184 (sf_stop_2 (inb_lt g2)) ?_
      refine ws_iload (pc := 59) C dX9_endOf_59 3 rfl ?_
      refine ws_icmp_ne (pc := 61) (tgt := 84) C dX9_endOf_61 (by decide) (fun c3 => ?_) (fun c3 => ?_)
      · have h := ite_f h c3
        refine ws_iinc (j := 4) (pc := 84) C dX9_endOf_84 rfl (cn_1 _) (by decide) rfl ?_
        refine ws_goto (pc := 87) (tgt := 34) C dX9_endOf_87 (by decide) ?_
        refine ws_less [1, 2, 3, 4, 0] rfl ?_
        exact ih _ _ _ h
      · have h := ite_t h c3
        refine ws_aload_n (pc := 64) C dX9_endOf_64 rfl 0 rfl ?_
        refine ws_iload_n (pc := 65) C dX9_endOf_65 rfl 1 rfl ?_
        refine ws_iconst (pc := 66) C dX9_endOf_66 ci_2 ?_
        refine ws_irem (pc := 67) C dX9_endOf_67 (by decide) ?_
        refine ws_iload (pc := 68) C dX9_endOf_68 4 rfl ?_
        obtain ⟨r4, s5, q6, h⟩ := bd_ok h
        refine wc_iV (pc := 70)  C [.int (a1 - a1 / (2 : Int32) * (2 : Int32)), .int a5] [] (mX9_stopsNow q6) dX9_endOf_70 mw_X9_stopsNow mv_X9_stopsNow kl_X9_403 so_BS rfl rfl (Nat.le_of_ble_eq_true rfl) ⟨by decide, by decide⟩ ?_
        refine ws_if_eq (pc := 73) (tgt := 84) C dX9_endOf_73 (by decide) (fun c7 => ?_) (fun c7 => ?_)
        · have h := ite_t h c7
          refine ws_iinc (j := 4) (pc := 84) C dX9_endOf_84 rfl (cn_1 _) (by decide) rfl ?_
          refine ws_goto (pc := 87) (tgt := 34) C dX9_endOf_87 (by decide) ?_
          refine ws_less [1, 2, 3, 4, 0] rfl ?_
          exact ih _ _ _ h
        · have h := ite_f h c7
          refine ws_aload_n (pc := 76) C dX9_endOf_76 rfl 0 rfl ?_
          refine ws_iload (pc := 77) C dX9_endOf_77 4 rfl ?_
          refine ws_iload_n (pc := 79) C dX9_endOf_79 rfl 2 rfl ?_
          obtain ⟨r8, s9, q10, h⟩ := bd_ok h
          refine wc_iV (pc := 80)  C [.int a5, .int a3] [] (mX9_leave q10) dX9_endOf_80 mw_X9_leave mv_X9_leave kl_X9_406 so_BS rfl rfl (Nat.le_of_ble_eq_true rfl) ⟨by decide, by decide⟩ ?_
          refine ws_istore_n (pc := 83) C dX9_endOf_83 rfl (by decide) rfl ?_
          refine ws_iinc (j := 4) (pc := 84) C dX9_endOf_84 rfl (cn_1 _) (by decide) rfl ?_
          refine ws_goto (pc := 87) (tgt := 34) C dX9_endOf_87 (by decide) ?_
          refine ws_less [2, 3, 1, 4, 0] rfl ?_
          exact ih _ _ _ h
set_option maxRecDepth 20000 in
set_option maxHeartbeats 4000000 in
theorem pX9_endOf_J29 {Y : xY} {Z : xZ} {B : xB} {z : Int32 × xM} (C : xC (GX Y) Z B "BetweenStops" cX9_endOf 6 5) (R : xRi (GX Y) B .int z) {k96 : Int32 → xM → Option (Int32 × xM)} {b : Int32 → Int32 → xM → Option (Int32 × xM)} {a1 : Int32} {a4 : Int32} {t0 : Int32} {t1 : Int32}
    (hk96 : ∀ (a3 : Int32) (s : xM), k96 a3 s = some z → xWS (GX Y) B 6 s [(3, .int a3)] 96 [])
    (hb : ∀ (a3 : Int32) (a4 : Int32) (s : xM), b a3 a4 s = some z → xWS (GX Y) B 6 s [(0, .ref (Y.1 0)), (1, .int a1), (3, .int a3), (4, .int a4)] 5 []) {s : xM} (h : fX9_endOf_J29 k96 b a1 a4 t0 t1 s = some z) : xWS (GX Y) B 6 s [(0, .ref (Y.1 0)), (1, .int a1), (4, .int a4)] 29 [.int t0, .int t1] := by
  unfold fX9_endOf_J29 at h
  refine ws_iadd (pc := 29) C dX9_endOf_29 ?_
  obtain ⟨v1, e2, h⟩ := lz_ok h
  refine ws_topi C e2 ?_
  refine ws_istore_n (pc := 30) C dX9_endOf_30 rfl (by decide) rfl ?_
  refine ws_iconst (pc := 31) C dX9_endOf_31 ci_0 ?_
  refine ws_istore (pc := 32) C dX9_endOf_32 (by decide) rfl ?_
  refine ws_less [2, 3, 1, 4, 0] rfl ?_
  refine pX9_endOf_L34 C R (fun x3 s4 h => ?_) fu _ _ _ h
  · refine ws_iinc (j := 3) (pc := 90) C dX9_endOf_90 rfl (cn_1 _) (by decide) rfl ?_
    refine ws_goto (pc := 93) (tgt := 5) C dX9_endOf_93 (by decide) ?_
    refine ws_less [1, 2, 3, 0] rfl ?_
    exact hb _ _ _ h
set_option maxRecDepth 20000 in
set_option maxHeartbeats 4000000 in
theorem pX9_endOf_L5 {Y : xY} {Z : xZ} {B : xB} {z : Int32 × xM} (C : xC (GX Y) Z B "BetweenStops" cX9_endOf 6 5) (R : xRi (GX Y) B .int z) {k96 : Int32 → xM → Option (Int32 × xM)} {a1 : Int32}
    (hk96 : ∀ (a3 : Int32) (s : xM), k96 a3 s = some z → xWS (GX Y) B 6 s [(3, .int a3)] 96 []) : ∀ (n : Nat) (a3 : Int32) (a4 : Int32) (s : xM), fX9_endOf_L5 k96 a1 n a3 a4 s = some z → xWS (GX Y) B 6 s [(0, .ref (Y.1 0)), (1, .int a1), (3, .int a3), (4, .int a4)] 5 [] := by
  intro n
  induction n with
  | zero =>
    intro a3 a4 s h
    rw [fX9_endOf_L5] at h
    cases h
  | succ n ih =>
    intro a3 a4 s h
    rw [fX9_endOf_L5] at h
    refine ws_iload (pc := 5) C dX9_endOf_5 3 rfl ?_
    refine ws_bipush (pc := 7) C dX9_endOf_7 cb_41 ?_
    refine ws_icmp_ge (pc := 9) (tgt := 96) C dX9_endOf_9 (by decide) (fun c1 => ?_) (fun c1 => ?_)
    · have h := ite_t h c1
      refine ws_less [2] rfl ?_
      exact hk96 _ _ h
    · have h := ite_f h c1
      refine ws_iload_n (pc := 12) C dX9_endOf_12 rfl 2 rfl ?_
      refine ws_iload (pc := 13) C dX9_endOf_13 3 rfl ?_
      refine ws_if_ne (pc := 15) (tgt := 22) C dX9_endOf_15 (by decide) (fun c2 => ?_) (fun c2 => ?_)
      · have h := ite_f h c2
        refine ws_aload_n (pc := 22) C dX9_endOf_22 rfl 0 rfl ?_
        refine ws_getr (pc := 23) C dX9_endOf_23 fd_X9_10 sf_BS_0 ?_
        refine ws_geti (pc := 26) C dX9_endOf_26 fd_X9_138 sf_town_5 ?_
        refine ws_less [0, 1, 3] rfl ?_
        exact pX9_endOf_J29 C R hk96 (fun a3 a4 s h => ih a3 a4 s h) h
      · have h := ite_t h c2
        refine ws_iconst (pc := 18) C dX9_endOf_18 ci_0 ?_
        refine ws_goto (pc := 19) (tgt := 29) C dX9_endOf_19 (by decide) ?_
        refine ws_less [0, 1, 3] rfl ?_
        exact pX9_endOf_J29 C R hk96 (fun a3 a4 s h => ih a3 a4 s h) h
set_option maxRecDepth 20000 in
set_option maxHeartbeats 4000000 in
theorem mX9_endOf {Y : xY} {Z : xZ} {a1 : Int32} {a2 : Int32} {s : xM} {z : Int32 × xM} (h : fX9_endOf a1 a2 s = some z) : xMi (GX Y) Z yX9_endOf cX9_endOf 6 5 .int [.ref (Y.1 0), .int a1, .int a2] s z := by
  refine xMi_of (by decide) (Nat.le_of_ble_eq_true rfl) (fun B C R => ?_)
  have C : xC (GX Y) Z B "BetweenStops" cX9_endOf 6 5 := C
  show xWS (GX Y) B 6 s [(0, .ref (Y.1 0)), (1, .int a1), (2, .int a2)] 0 []
  unfold fX9_endOf at h
  refine ws_iload_n (pc := 0) C dX9_endOf_0 rfl 2 rfl ?_
  refine ws_istore_n (pc := 1) C dX9_endOf_1 rfl (by decide) rfl ?_
  refine ws_iconst (pc := 2) C dX9_endOf_2 ci_0 ?_
  refine ws_istore (pc := 3) C dX9_endOf_3 (by decide) rfl ?_
  refine ws_less [2, 3, 1, 0] rfl ?_
  refine pX9_endOf_L5 C R (fun x1 s2 h => ?_) fu _ _ _ h
  · refine ws_iload_n (pc := 96) C dX9_endOf_96 rfl 0 rfl ?_
    exact wr_i (pc := 97) C R dX9_endOf_97 rfl h
set_option maxRecDepth 20000 in
set_option maxHeartbeats 4000000 in
theorem pX9_runCars_J56 {Y : xY} {Z : xZ} {B : xB} {z : Int32 × xM} (C : xC (GX Y) Z B "BetweenStops" cX9_runCars 4 6) (R : xRv (GX Y) B z) {k66 : xM → Option (Int32 × xM)} {b : Int32 → xM → Option (Int32 × xM)} {a1 : Int32} {a2 : Int32} {a3 : Int32} {t0 : Int32} {t1 : Int32} {t3 : Int32}
    (hk66 : ∀  (s : xM), k66 s = some z → xWS (GX Y) B 4 s [] 66 [])
    (hb : ∀ (a3 : Int32) (s : xM), b a3 s = some z → xWS (GX Y) B 4 s [(0, .ref (Y.1 0)), (1, .int a1), (2, .int a2), (3, .int a3)] 21 []) {s : xM} (h : fX9_runCars_J56 k66 b a1 a2 a3 t0 t1 t3 s = some z) : xWS (GX Y) B 4 s [(0, .ref (Y.1 0)), (1, .int a1), (2, .int a2), (3, .int a3)] 56 [.int t0, .int t1, .ref (Y.1 0), .int t3, .ref (Y.1 95)] := by
  unfold fX9_runCars_J56 at h
  obtain ⟨r1, s2, q3, h⟩ := bd_ok h
  refine wc_iV (pc := 56)  C [.int t1, .int t0] [.int t3, .ref (Y.1 95)] (mX9_endOf q3) dX9_runCars_56 mw_X9_endOf mv_X9_endOf kl_X9_400 so_BS rfl rfl (Nat.le_of_ble_eq_true rfl) ⟨by decide, by decide⟩ ?_
  obtain ⟨g4, h⟩ := gd_ok h
  obtain ⟨s5, e6, h⟩ := lz_ok h
  refine ws_iastK (pc := 59) C dX9_runCars_59 sr_b_ends g4 rfl e6 ?_
  refine ws_iinc (j := 3) (pc := 60) C dX9_runCars_60 rfl (cn_1 _) (by decide) rfl ?_
  refine ws_goto (pc := 63) (tgt := 21) C dX9_runCars_63 (by decide) ?_
  refine ws_less [1, 2, 3, 0] rfl ?_
  exact hb _ _ h
set_option maxRecDepth 20000 in
set_option maxHeartbeats 4000000 in
theorem pX9_runCars_L21 {Y : xY} {Z : xZ} {B : xB} {z : Int32 × xM} (C : xC (GX Y) Z B "BetweenStops" cX9_runCars 4 6) (R : xRv (GX Y) B z) {k66 : xM → Option (Int32 × xM)} {a1 : Int32} {a2 : Int32}
    (hk66 : ∀  (s : xM), k66 s = some z → xWS (GX Y) B 4 s [] 66 []) : ∀ (n : Nat) (a3 : Int32) (s : xM), fX9_runCars_L21 k66 a1 a2 n a3 s = some z → xWS (GX Y) B 4 s [(0, .ref (Y.1 0)), (1, .int a1), (2, .int a2), (3, .int a3)] 21 [] := by
  intro n
  induction n with
  | zero =>
    intro a3 s h
    rw [fX9_runCars_L21] at h
    cases h
  | succ n ih =>
    intro a3 s h
    rw [fX9_runCars_L21] at h
    refine ws_iload_n (pc := 21) C dX9_runCars_21 rfl 3 rfl ?_
    refine ws_iload_n (pc := 22) C dX9_runCars_22 rfl 1 rfl ?_
    refine ws_icmp_ge (pc := 23) (tgt := 66) C dX9_runCars_23 (by decide) (fun c1 => ?_) (fun c1 => ?_)
    · have h := ite_t h c1
      refine ws_less [] rfl ?_
      exact hk66 _ h
    · have h := ite_f h c1
      refine ws_iload_n (pc := 26) C dX9_runCars_26 rfl 3 rfl ?_
      refine ws_bipush (pc := 27) C dX9_runCars_27 cb_12 ?_
      refine ws_icmp_ge (pc := 29) (tgt := 66) C dX9_runCars_29 (by decide) (fun c2 => ?_) (fun c2 => ?_)
      · have h := ite_t h c2
        refine ws_less [] rfl ?_
        exact hk66 _ h
      · have h := ite_f h c2
        refine ws_aload_n (pc := 32) C dX9_runCars_32 rfl 0 rfl ?_
        refine ws_getr (pc := 33) C dX9_runCars_33 fd_X9_80 sf_BS_13 ?_
        refine ws_iload_n (pc := 36) C dX9_runCars_36 rfl 3 rfl ?_
        refine ws_aload_n (pc := 37) C dX9_runCars_37 rfl 0 rfl ?_
        refine ws_iload_n (pc := 38) C dX9_runCars_38 rfl 3 rfl ?_
        refine ws_iload_n (pc := 39) C dX9_runCars_39 rfl 3 rfl ?_
        refine ws_if_ne (pc := 40) (tgt := 47) C dX9_runCars_40 (by decide) (fun c3 => ?_) (fun c3 => ?_)
        · have h := ite_f h c3
          refine ws_iload_n (pc := 47) C dX9_runCars_47 rfl 3 rfl ?_
          refine ws_aload_n (pc := 48) C dX9_runCars_48 rfl 0 rfl ?_
          refine ws_getr (pc := 49) C dX9_runCars_49 fd_X9_10 sf_BS_0 ?_
          refine ws_geti (pc := 52) C dX9_runCars_52 fd_X9_135 sf_town_4 ?_
          refine ws_imul (pc := 55) C dX9_runCars_55 ?_
          refine ws_less [0, 1, 2, 3] rfl ?_
          exact pX9_runCars_J56 C R hk66 (fun a3 s h => ih a3 s h) h
        · have h := ite_t h c3
          refine ws_iload_n (pc := 43) C dX9_runCars_43 rfl 2 rfl ?_
          refine ws_goto (pc := 44) (tgt := 56) C dX9_runCars_44 (by decide) ?_
          refine ws_less [0, 1, 2, 3] rfl ?_
          exact pX9_runCars_J56 C R hk66 (fun a3 s h => ih a3 s h) h
set_option maxRecDepth 20000 in
set_option maxHeartbeats 4000000 in
theorem mX9_runCars {Y : xY} {Z : xZ} {a1 : Int32} {a2 : Int32} {s : xM} {z : Int32 × xM} (h : fX9_runCars a1 a2 s = some z) : xMv (GX Y) Z yX9_runCars cX9_runCars 4 6 [.ref (Y.1 0), .int a1, .int a2] s z := by
  refine xMv_of (by decide) (Nat.le_of_ble_eq_true rfl) (fun B C R => ?_)
  have C : xC (GX Y) Z B "BetweenStops" cX9_runCars 4 6 := C
  show xWS (GX Y) B 4 s [(0, .ref (Y.1 0)), (1, .int a1), (2, .int a2)] 0 []
  unfold fX9_runCars at h
  refine ws_aload_n (pc := 0) C dX9_runCars_0 rfl 0 rfl ?_
  obtain ⟨r1, s2, q3, h⟩ := bd_ok h
  refine wc_vV (pc := 1)  C [] [] (mX9_lookAtNow q3) dX9_runCars_1 mw_X9_lookAtNow mv_X9_lookAtNow kl_X9_218 so_BS rfl rfl (Nat.le_of_ble_eq_true rfl) ⟨by decide, by decide⟩ ?_
  refine ws_aload_n (pc := 4) C dX9_runCars_4 rfl 0 rfl ?_
  refine ws_getr (pc := 5) C dX9_runCars_5 fd_X9_77 sf_BS_12 ?_
  refine ws_aload_n (pc := 8) C dX9_runCars_8 rfl 0 rfl ?_
  refine ws_getr (pc := 9) C dX9_runCars_9 fd_X9_10 sf_BS_0 ?_
  refine ws_geti (pc := 12) C dX9_runCars_12 fd_X9_135 sf_town_4 ?_
  refine ws_ineg (pc := 15) C dX9_runCars_15 ?_
  obtain ⟨r4, s5, q6, h⟩ := bd_ok h
  refine wc_vS (pc := 16)  C [.ref (Y.1 94), .int (-(gi s2 1 4))] [] (mJ7_fill_53178 sr_b_left q6) dX9_runCars_16 mw_J7_fill_53178 ks_J7_fill_53178 kl_X9_394 rfl rfl (Nat.le_of_ble_eq_true rfl) ⟨by decide, by decide⟩ ?_
  refine ws_iconst (pc := 19) C dX9_runCars_19 ci_0 ?_
  refine ws_istore_n (pc := 20) C dX9_runCars_20 rfl (by decide) rfl ?_
  refine ws_less [1, 2, 3, 0] rfl ?_
  refine pX9_runCars_L21 C R (fun s7 h => ?_) fu _ _ h
  · exact wr_v (pc := 66) C R dX9_runCars_66 h
set_option maxRecDepth 20000 in
set_option maxHeartbeats 4000000 in
theorem mX9_bunch {Y : xY} {Z : xZ} {a1 : Int32} {a2 : Int32} {s : xM} {z : Int32 × xM} (h : fX9_bunch a1 a2 s = some z) : xMi (GX Y) Z yX9_bunch cX9_bunch 3 7 .int [.ref (Y.1 0), .int a1, .int a2] s z := by
  refine xMi_of (by decide) (Nat.le_of_ble_eq_true rfl) (fun B C R => ?_)
  have C : xC (GX Y) Z B "BetweenStops" cX9_bunch 3 7 := C
  show xWS (GX Y) B 3 s [(0, .ref (Y.1 0)), (1, .int a1), (2, .int a2)] 0 []
  unfold fX9_bunch at h
  refine ws_iload_n (pc := 0) C dX9_bunch_0 rfl 1 rfl ?_
  refine ws_iconst (pc := 1) C dX9_bunch_1 ci_0 ?_
  refine ws_bipush (pc := 2) C dX9_bunch_2 cb_11 ?_
  obtain ⟨r1, s2, q3, h⟩ := bd_ok h
  refine wc_iS (pc := 4)  C [.int a1, .int (0 : Int32), .int (11 : Int32)] [] (mX9_isWithin q3) dX9_bunch_4 mw_X9_isWithin ks_X9_isWithin kl_X9_111 rfl rfl (Nat.le_of_ble_eq_true rfl) ⟨by decide, by decide⟩ ?_
  refine ws_if_eq (pc := 7) (tgt := 21) C dX9_bunch_7 (by decide) (fun c4 => ?_) (fun c4 => ?_)
  · have h := ite_t h c4
    refine ws_bipush (pc := 21) C dX9_bunch_21 cb_m2 ?_
    exact wr_i (pc := 23) C R dX9_bunch_23 rfl h
  · have h := ite_f h c4
    refine ws_iload_n (pc := 10) C dX9_bunch_10 rfl 2 rfl ?_
    refine ws_iconst (pc := 11) C dX9_bunch_11 ci_0 ?_
    refine ws_sipush (pc := 12) C dX9_bunch_12 cs_3600 ?_
    obtain ⟨r5, s6, q7, h⟩ := bd_ok h
    refine wc_iS (pc := 15)  C [.int a2, .int (0 : Int32), .int (3600 : Int32)] [] (mX9_isWithin q7) dX9_bunch_15 mw_X9_isWithin ks_X9_isWithin kl_X9_111 rfl rfl (Nat.le_of_ble_eq_true rfl) ⟨by decide, by decide⟩ ?_
    refine ws_if_ne (pc := 18) (tgt := 24) C dX9_bunch_18 (by decide) (fun c8 => ?_) (fun c8 => ?_)
    · have h := ite_f h c8
      refine ws_aload_n (pc := 24) C dX9_bunch_24 rfl 0 rfl ?_
      refine ws_iload_n (pc := 25) C dX9_bunch_25 rfl 1 rfl ?_
      refine ws_iconst (pc := 26) C dX9_bunch_26 ci_1 ?_
      refine ws_iadd (pc := 27) C dX9_bunch_27 ?_
      refine ws_iload_n (pc := 28) C dX9_bunch_28 rfl 2 rfl ?_
      obtain ⟨r9, s10, q11, h⟩ := bd_ok h
      refine wc_vV (pc := 29)  C [.int (a1 + (1 : Int32)), .int a2] [] (mX9_runCars q11) dX9_bunch_29 mw_X9_runCars mv_X9_runCars kl_X9_325 so_BS rfl rfl (Nat.le_of_ble_eq_true rfl) ⟨by decide, by decide⟩ ?_
      refine ws_aload_n (pc := 32) C dX9_bunch_32 rfl 0 rfl ?_
      refine ws_getr (pc := 33) C dX9_bunch_33 fd_X9_80 sf_BS_13 ?_
      refine ws_iload_n (pc := 36) C dX9_bunch_36 rfl 1 rfl ?_
      obtain ⟨g12, h⟩ := gd_ok h
      refine ws_ialdK (pc := 37) C dX9_bunch_37 sr_b_ends g12 rfl ?_
      exact wr_i (pc := 38) C R dX9_bunch_38 rfl h
    · have h := ite_t h c8
      refine ws_bipush (pc := 21) C dX9_bunch_21 cb_m2 ?_
      exact wr_i (pc := 23) C R dX9_bunch_23 rfl h
set_option maxRecDepth 20000 in
set_option maxHeartbeats 4000000 in
theorem pX9_crowd_L47 {Y : xY} {Z : xZ} {B : xB} {z : Int32 × xM} (C : xC (GX Y) Z B "BetweenStops" cX9_crowd 5 7) (R : xRi (GX Y) B .int z) {k81 : Int32 → xM → Option (Int32 × xM)} {a1 : Int32}
    (hk81 : ∀ (a3 : Int32) (s : xM), k81 a3 s = some z → xWS (GX Y) B 5 s [(3, .int a3)] 81 []) : ∀ (n : Nat) (a3 : Int32) (a4 : Int32) (s : xM), fX9_crowd_L47 k81 a1 n a3 a4 s = some z → xWS (GX Y) B 5 s [(0, .ref (Y.1 0)), (1, .int a1), (3, .int a3), (4, .int a4)] 47 [] := by
  intro n
  induction n with
  | zero =>
    intro a3 a4 s h
    rw [fX9_crowd_L47] at h
    cases h
  | succ n ih =>
    intro a3 a4 s h
    rw [fX9_crowd_L47] at h
    refine ws_iload (pc := 47) C dX9_crowd_47 3 rfl ?_
    refine ws_iload_n (pc := 49) C dX9_crowd_49 rfl 1 rfl ?_
    refine ws_icmp_ge (pc := 50) (tgt := 81) C dX9_crowd_50 (by decide) (fun c1 => ?_) (fun c1 => ?_)
    · have h := ite_t h c1
      refine ws_less [2] rfl ?_
      exact hk81 _ _ h
    · have h := ite_f h c1
      refine ws_iload_n (pc := 53) C dX9_crowd_53 rfl 2 rfl ?_
      refine ws_aload_n (pc := 54) C dX9_crowd_54 rfl 0 rfl ?_
      refine ws_getr (pc := 55) C dX9_crowd_55 fd_X9_80 sf_BS_13 ?_
      refine ws_iload (pc := 58) C dX9_crowd_58 3 rfl ?_
      obtain ⟨g2, h⟩ := gd_ok h
      refine ws_ialdK (pc := 60) C dX9_crowd_60 sr_b_ends g2 rfl ?_
      refine ws_aload_n (pc := 61) C dX9_crowd_61 rfl 0 rfl ?_
      refine ws_getr (pc := 62) C dX9_crowd_62 fd_X9_80 sf_BS_13 ?_
      refine ws_iload (pc := 65) C dX9_crowd_65 3 rfl ?_
      refine ws_iconst (pc := 67) C dX9_crowd_67 ci_1 ?_
      refine ws_isub (pc := 68) C dX9_crowd_68 ?_
      obtain ⟨g3, h⟩ := gd_ok h
      refine ws_ialdK (pc := 69) C dX9_crowd_69 sr_b_ends g3 rfl ?_
      refine ws_isub (pc := 70) C dX9_crowd_70 ?_
      refine ws_min (pc := 71) C dX9_crowd_71 ma_X9_293 (Nat.le_of_ble_eq_true rfl) (by decide) ?_
      obtain ⟨v4, e5, h⟩ := lz_ok h
      refine ws_topi C e5 ?_
      refine ws_istore_n (pc := 74) C dX9_crowd_74 rfl (by decide) rfl ?_
      refine ws_iinc (j := 3) (pc := 75) C dX9_crowd_75 rfl (cn_1 _) (by decide) rfl ?_
      refine ws_goto (pc := 78) (tgt := 47) C dX9_crowd_78 (by decide) ?_
      refine ws_less [2, 3, 1, 0] rfl ?_
      exact ih _ _ _ h
set_option maxRecDepth 20000 in
set_option maxHeartbeats 4000000 in
theorem mX9_crowd {Y : xY} {Z : xZ} {a1 : Int32} {a2 : Int32} {s : xM} {z : Int32 × xM} (h : fX9_crowd a1 a2 s = some z) : xMi (GX Y) Z yX9_crowd cX9_crowd 5 7 .int [.ref (Y.1 0), .int a1, .int a2] s z := by
  refine xMi_of (by decide) (Nat.le_of_ble_eq_true rfl) (fun B C R => ?_)
  have C : xC (GX Y) Z B "BetweenStops" cX9_crowd 5 7 := C
  show xWS (GX Y) B 5 s [(0, .ref (Y.1 0)), (1, .int a1), (2, .int a2)] 0 []
  unfold fX9_crowd at h
  refine ws_iload_n (pc := 0) C dX9_crowd_0 rfl 1 rfl ?_
  refine ws_iconst (pc := 1) C dX9_crowd_1 ci_2 ?_
  refine ws_bipush (pc := 2) C dX9_crowd_2 cb_12 ?_
  obtain ⟨r1, s2, q3, h⟩ := bd_ok h
  refine wc_iS (pc := 4)  C [.int a1, .int (2 : Int32), .int (12 : Int32)] [] (mX9_isWithin q3) dX9_crowd_4 mw_X9_isWithin ks_X9_isWithin kl_X9_111 rfl rfl (Nat.le_of_ble_eq_true rfl) ⟨by decide, by decide⟩ ?_
  refine ws_if_eq (pc := 7) (tgt := 21) C dX9_crowd_7 (by decide) (fun c4 => ?_) (fun c4 => ?_)
  · have h := ite_t h c4
    refine ws_bipush (pc := 21) C dX9_crowd_21 cb_m2 ?_
    exact wr_i (pc := 23) C R dX9_crowd_23 rfl h
  · have h := ite_f h c4
    refine ws_iload_n (pc := 10) C dX9_crowd_10 rfl 2 rfl ?_
    refine ws_iconst (pc := 11) C dX9_crowd_11 ci_0 ?_
    refine ws_sipush (pc := 12) C dX9_crowd_12 cs_3600 ?_
    obtain ⟨r5, s6, q7, h⟩ := bd_ok h
    refine wc_iS (pc := 15)  C [.int a2, .int (0 : Int32), .int (3600 : Int32)] [] (mX9_isWithin q7) dX9_crowd_15 mw_X9_isWithin ks_X9_isWithin kl_X9_111 rfl rfl (Nat.le_of_ble_eq_true rfl) ⟨by decide, by decide⟩ ?_
    refine ws_if_ne (pc := 18) (tgt := 24) C dX9_crowd_18 (by decide) (fun c8 => ?_) (fun c8 => ?_)
    · have h := ite_f h c8
      refine ws_aload_n (pc := 24) C dX9_crowd_24 rfl 0 rfl ?_
      refine ws_iload_n (pc := 25) C dX9_crowd_25 rfl 1 rfl ?_
      refine ws_iload_n (pc := 26) C dX9_crowd_26 rfl 2 rfl ?_
      obtain ⟨r9, s10, q11, h⟩ := bd_ok h
      refine wc_vV (pc := 27)  C [.int a1, .int a2] [] (mX9_runCars q11) dX9_crowd_27 mw_X9_runCars mv_X9_runCars kl_X9_325 so_BS rfl rfl (Nat.le_of_ble_eq_true rfl) ⟨by decide, by decide⟩ ?_
      refine ws_aload_n (pc := 30) C dX9_crowd_30 rfl 0 rfl ?_
      refine ws_getr (pc := 31) C dX9_crowd_31 fd_X9_80 sf_BS_13 ?_
      refine ws_iconst (pc := 34) C dX9_crowd_34 ci_1 ?_
      refine ws_ialdK (pc := 35) C dX9_crowd_35 sr_b_ends (by decide) ck_1 ?_
      refine ws_aload_n (pc := 36) C dX9_crowd_36 rfl 0 rfl ?_
      refine ws_getr (pc := 37) C dX9_crowd_37 fd_X9_80 sf_BS_13 ?_
      refine ws_iconst (pc := 40) C dX9_crowd_40 ci_0 ?_
      refine ws_ialdK (pc := 41) C dX9_crowd_41 sr_b_ends (by decide) ck_0 ?_
      refine ws_isub (pc := 42) C dX9_crowd_42 ?_
      obtain ⟨v12, e13, h⟩ := lz_ok h
      refine ws_topi C e13 ?_
      refine ws_istore_n (pc := 43) C dX9_crowd_43 rfl (by decide) rfl ?_
      refine ws_iconst (pc := 44) C dX9_crowd_44 ci_2 ?_
      refine ws_istore (pc := 45) C dX9_crowd_45 (by decide) rfl ?_
      refine ws_less [2, 3, 1, 0] rfl ?_
      refine pX9_crowd_L47 C R (fun x14 s15 h => ?_) fu _ _ _ h
      · refine ws_iload_n (pc := 81) C dX9_crowd_81 rfl 0 rfl ?_
        exact wr_i (pc := 82) C R dX9_crowd_82 rfl h
    · have h := ite_t h c8
      refine ws_bipush (pc := 21) C dX9_crowd_21 cb_m2 ?_
      exact wr_i (pc := 23) C R dX9_crowd_23 rfl h
set_option maxRecDepth 20000 in
set_option maxHeartbeats 4000000 in
theorem mX9_nextLot {Y : xY} {Z : xZ} {a0 : Int64} {s : xM} {z : Int64 × xM} (h : fX9_nextLot a0 s = some z) : xMl (GX Y) Z yX9_nextLot cX9_nextLot 2 1 [.long a0] s z := by
  refine xMl_of (by decide) (Nat.le_of_ble_eq_true rfl) (fun B C R => ?_)
  have C : xC (GX Y) Z B "BetweenStops" cX9_nextLot 2 1 := C
  show xWS (GX Y) B 2 s [(0, .long a0)] 0 []
  unfold fX9_nextLot at h
  refine ws_lload_n (pc := 0) C dX9_nextLot_0 rfl 0 rfl ?_
  refine ws_ldc2 (pc := 1) C dX9_nextLot_1 kK_X9_420 ?_
  refine ws_lmul (pc := 4) C dX9_nextLot_4 ?_
  refine ws_ldc2 (pc := 5) C dX9_nextLot_5 kK_X9_422 ?_
  refine ws_lrem (pc := 8) C dX9_nextLot_8 (by decide) ?_
  exact wr_l (pc := 9) C R dX9_nextLot_9 h
set_option maxRecDepth 20000 in
set_option maxHeartbeats 4000000 in
theorem pX9_drawnRide_L135 {Y : xY} {Z : xZ} {B : xB} {z : Int32 × xM} (C : xC (GX Y) Z B "BetweenStops" cX9_drawnRide 13 3) (R : xRi (GX Y) B .int z) {k220 : Int32 → xM → Option (Int32 × xM)} {a7 : Int32} {a8 : Int32} {a9 : Int32}
    (hk220 : ∀ (a10 : Int32) (s : xM), k220 a10 s = some z → xWS (GX Y) B 13 s [(10, .int a10)] 220 []) : ∀ (n : Nat) (a4 : Int64) (a10 : Int32) (a11 : Int32) (s : xM), fX9_drawnRide_L135 k220 a7 a8 a9 n a4 a10 a11 s = some z → xWS (GX Y) B 13 s [(0, .ref (Y.1 0)), (4, .long a4), (7, .int a7), (8, .int a8), (9, .int a9), (10, .int a10), (11, .int a11)] 135 [] := by
  intro n
  induction n with
  | zero =>
    intro a4 a10 a11 s h
    rw [fX9_drawnRide_L135] at h
    cases h
  | succ n ih =>
    intro a4 a10 a11 s h
    rw [fX9_drawnRide_L135] at h
    refine ws_iload (pc := 135) C dX9_drawnRide_135 6 rfl ?_
    refine ws_aload_n (pc := 137) C dX9_drawnRide_137 rfl 0 rfl ?_
    refine ws_getr (pc := 138) C dX9_drawnRide_138 fd_X9_10 sf_BS_0 ?_
    refine ws_geti (pc := 141) C dX9_drawnRide_141 fd_X9_151 sf_town_7 ?_
    refine ws_icmp_ge (pc := 144) (tgt := 220) C dX9_drawnRide_144 (by decide) (fun c1 => ?_) (fun c1 => ?_)
    · have h := ite_t h c1
      refine ws_less [5] rfl ?_
      exact hk220 _ _ h
    · have h := ite_f h c1
      refine ws_lload (pc := 147) C dX9_drawnRide_147 1 rfl ?_
      obtain ⟨r2, s3, q4, h⟩ := bd_ok h
      refine wc_lS (pc := 149)  C [.long a4] [] (mX9_nextLot q4) dX9_drawnRide_149 mw_X9_nextLot ks_X9_nextLot kl_X9_409 rfl rfl (Nat.le_of_ble_eq_true rfl) ⟨by decide, by decide⟩ ?_
      refine ws_lstore (pc := 152) C dX9_drawnRide_152 (by decide) rfl ?_
      refine ws_aload_n (pc := 154) C dX9_drawnRide_154 rfl 1 rfl ?_
      refine ws_getr (pc := 155) C dX9_drawnRide_155 fd_X9_10 sf_BS_0 ?_
      refine ws_getr (pc := 158) C dX9_drawnRide_158 fd_X9_154 sf_town_6 ?_
      refine ws_iload (pc := 161) C dX9_drawnRide_161 6 rfl ?_
      obtain ⟨g5, h⟩ := gd_ok h
      refine ws_aaldK (q := (11 + a11.toNatClampNeg)) (pc := 163) C dX9_drawnRide_163 (by decide) sq_stops g5 rfl rfl ?_
      refine ws_astore (pc := 164) C dX9_drawnRide_164 (by decide) rfl ?_
      refine ws_aload (pc := 166) C dX9_drawnRide_166 0 rfl ?_
      refine ws_geti (pc := 168) C dX9_drawnRide_168 fd_X9_184 (sf_stop_2 (inb_lt g5)) ?_
      refine ws_iload (pc := 171) C dX9_drawnRide_171 4 rfl ?_
      refine ws_icmp_le (pc := 173) (tgt := 214) C dX9_drawnRide_173 (by decide) (fun c6 => ?_) (fun c6 => ?_)
      · have h := ite_t h c6
        refine ws_iinc (j := 7) (pc := 214) C dX9_drawnRide_214 rfl (cn_1 _) (by decide) rfl ?_
        refine ws_goto (pc := 217) (tgt := 135) C dX9_drawnRide_217 (by decide) ?_
        refine ws_less [3, 2, 4, 5, 6, 7, 0] rfl ?_
        exact ih _ _ _ _ h
      · have h := ite_f h c6
        refine ws_aload (pc := 176) C dX9_drawnRide_176 0 rfl ?_
        refine ws_geti (pc := 178) C dX9_drawnRide_178 fd_X9_184 (sf_stop_2 (inb_lt g5)) ?_
        refine ws_iload (pc := 181) C dX9_drawnRide_181 5 rfl ?_
        refine ws_icmp_ge (pc := 183) (tgt := 214) C dX9_drawnRide_183 (by decide) (fun c7 => ?_) (fun c7 => ?_)
        · have h := ite_t h c7
          refine ws_iinc (j := 7) (pc := 214) C dX9_drawnRide_214 rfl (cn_1 _) (by decide) rfl ?_
          refine ws_goto (pc := 217) (tgt := 135) C dX9_drawnRide_217 (by decide) ?_
          refine ws_less [3, 2, 4, 5, 6, 7, 0] rfl ?_
          exact ih _ _ _ _ h
        · have h := ite_f h c7
          refine ws_aload_n (pc := 186) C dX9_drawnRide_186 rfl 2 rfl ?_
          refine ws_iload (pc := 187) C dX9_drawnRide_187 3 rfl ?_
          refine ws_iload (pc := 189) C dX9_drawnRide_189 7 rfl ?_
          obtain ⟨r8, s9, q10, h⟩ := bd_ok h
          refine wc_iV (pc := 191)  C [.int a7, .int a11] [] (mX9_stopsNow q10) dX9_drawnRide_191 mw_X9_stopsNow mv_X9_stopsNow kl_X9_403 so_BS rfl rfl (Nat.le_of_ble_eq_true rfl) ⟨by decide, by decide⟩ ?_
          refine ws_if_eq (pc := 194) (tgt := 214) C dX9_drawnRide_194 (by decide) (fun c11 => ?_) (fun c11 => ?_)
          · have h := ite_t h c11
            refine ws_iinc (j := 7) (pc := 214) C dX9_drawnRide_214 rfl (cn_1 _) (by decide) rfl ?_
            refine ws_goto (pc := 217) (tgt := 135) C dX9_drawnRide_217 (by decide) ?_
            refine ws_less [3, 2, 4, 5, 6, 7, 0] rfl ?_
            exact ih _ _ _ _ h
          · have h := ite_f h c11
            refine ws_iload (pc := 197) C dX9_drawnRide_197 6 rfl ?_
            refine ws_aload (pc := 199) C dX9_drawnRide_199 0 rfl ?_
            refine ws_lload (pc := 201) C dX9_drawnRide_201 1 rfl ?_
            refine ws_ldc2 (pc := 203) C dX9_drawnRide_203 kK_X9_415 ?_
            refine ws_lrem (pc := 206) C dX9_drawnRide_206 (by decide) ?_
            refine ws_l2i (pc := 207) C dX9_drawnRide_207 ?_
            obtain ⟨r12, s13, q14, h⟩ := bd_ok h
            refine wc_iV (pc := 208)  C [.int ((r2 - r2 / (10 : Int64) * (10 : Int64)).toInt32)] [.int a10] (mX3_secondsDrawn (inb_lt g5) q14) dX9_drawnRide_208 mw_X3_secondsDrawn mv_X3_secondsDrawn kl_X9_417 (so_stop (inb_lt g5)) rfl rfl (Nat.le_of_ble_eq_true rfl) ⟨by decide, by decide⟩ ?_
            refine ws_iadd (pc := 211) C dX9_drawnRide_211 ?_
            obtain ⟨v15, e16, h⟩ := lz_ok h
            refine ws_topi C e16 ?_
            refine ws_istore (pc := 212) C dX9_drawnRide_212 (by decide) rfl ?_
            refine ws_iinc (j := 7) (pc := 214) C dX9_drawnRide_214 rfl (cn_1 _) (by decide) rfl ?_
            refine ws_goto (pc := 217) (tgt := 135) C dX9_drawnRide_217 (by decide) ?_
            refine ws_less [4, 3, 5, 6, 7, 1, 0] rfl ?_
            exact ih _ _ _ _ h
set_option maxRecDepth 20000 in
set_option maxHeartbeats 4000000 in
theorem pX9_drawnRide_J57 {Y : xY} {Z : xZ} {B : xB} {z : Int32 × xM} (C : xC (GX Y) Z B "BetweenStops" cX9_drawnRide 13 3) (R : xRi (GX Y) B .int z) {a1 : Int32} {a2 : Int32} {a4 : Int64} {t0 : Int32} {s : xM} (h : fX9_drawnRide_J57 a1 a2 a4 t0 s = some z) : xWS (GX Y) B 13 s [(0, .ref (Y.1 0)), (1, .int a1), (2, .int a2), (4, .long a4)] 57 [.int t0] := by
  unfold fX9_drawnRide_J57 at h
  refine ws_istore (pc := 57) C dX9_drawnRide_57 (by decide) rfl ?_
  refine ws_aload_n (pc := 59) C dX9_drawnRide_59 rfl 1 rfl ?_
  refine ws_getr (pc := 60) C dX9_drawnRide_60 fd_X9_10 sf_BS_0 ?_
  refine ws_getr (pc := 63) C dX9_drawnRide_63 fd_X9_154 sf_town_6 ?_
  refine ws_iload_n (pc := 66) C dX9_drawnRide_66 rfl 2 rfl ?_
  obtain ⟨g1, h⟩ := gd_ok h
  refine ws_aaldK (q := (11 + a1.toNatClampNeg)) (pc := 67) C dX9_drawnRide_67 (by decide) sq_stops g1 rfl rfl ?_
  refine ws_geti (pc := 68) C dX9_drawnRide_68 fd_X9_184 (sf_stop_2 (inb_lt g1)) ?_
  refine ws_aload_n (pc := 71) C dX9_drawnRide_71 rfl 1 rfl ?_
  refine ws_getr (pc := 72) C dX9_drawnRide_72 fd_X9_10 sf_BS_0 ?_
  refine ws_getr (pc := 75) C dX9_drawnRide_75 fd_X9_154 sf_town_6 ?_
  refine ws_iload_n (pc := 78) C dX9_drawnRide_78 rfl 3 rfl ?_
  obtain ⟨g2, h⟩ := gd_ok h
  refine ws_aaldK (q := (11 + a2.toNatClampNeg)) (pc := 79) C dX9_drawnRide_79 (by decide) sq_stops g2 rfl rfl ?_
  refine ws_geti (pc := 80) C dX9_drawnRide_80 fd_X9_184 (sf_stop_2 (inb_lt g2)) ?_
  refine ws_min (pc := 83) C dX9_drawnRide_83 ma_X9_293 (Nat.le_of_ble_eq_true rfl) (by decide) ?_
  obtain ⟨v3, e4, h⟩ := lz_ok h
  refine ws_topi C e4 ?_
  refine ws_istore (pc := 86) C dX9_drawnRide_86 (by decide) rfl ?_
  refine ws_aload_n (pc := 88) C dX9_drawnRide_88 rfl 2 rfl ?_
  refine ws_getr (pc := 89) C dX9_drawnRide_89 fd_X9_10 sf_BS_0 ?_
  refine ws_getr (pc := 92) C dX9_drawnRide_92 fd_X9_154 sf_town_6 ?_
  refine ws_iload_n (pc := 95) C dX9_drawnRide_95 rfl 3 rfl ?_
  obtain ⟨g5, h⟩ := gd_ok h
  refine ws_aaldK (q := (11 + a1.toNatClampNeg)) (pc := 96) C dX9_drawnRide_96 (by decide) sq_stops g5 rfl rfl ?_
  refine ws_geti (pc := 97) C dX9_drawnRide_97 fd_X9_184 (sf_stop_2 (inb_lt g5)) ?_
  refine ws_aload_n (pc := 100) C dX9_drawnRide_100 rfl 2 rfl ?_
  refine ws_getr (pc := 101) C dX9_drawnRide_101 fd_X9_10 sf_BS_0 ?_
  refine ws_getr (pc := 104) C dX9_drawnRide_104 fd_X9_154 sf_town_6 ?_
  refine ws_iload_n (pc := 107) C dX9_drawnRide_107 rfl 4 rfl ?_
  obtain ⟨g6, h⟩ := gd_ok h
  refine ws_aaldK (q := (11 + a2.toNatClampNeg)) (pc := 108) C dX9_drawnRide_108 (by decide) sq_stops g6 rfl rfl ?_
  refine ws_geti (pc := 109) C dX9_drawnRide_109 fd_X9_184 (sf_stop_2 (inb_lt g6)) ?_
  refine ws_max (pc := 112) C dX9_drawnRide_112 ma_X9_368 (Nat.le_of_ble_eq_true rfl) (by decide) ?_
  obtain ⟨v7, e8, h⟩ := lz_ok h
  refine ws_topi C e8 ?_
  refine ws_istore (pc := 115) C dX9_drawnRide_115 (by decide) rfl ?_
  refine ws_iload (pc := 117) C dX9_drawnRide_117 0 rfl ?_
  refine ws_iload (pc := 119) C dX9_drawnRide_119 1 rfl ?_
  refine ws_isub (pc := 121) C dX9_drawnRide_121 ?_
  refine ws_aload_n (pc := 122) C dX9_drawnRide_122 rfl 3 rfl ?_
  refine ws_getr (pc := 123) C dX9_drawnRide_123 fd_X9_10 sf_BS_0 ?_
  refine ws_geti (pc := 126) C dX9_drawnRide_126 fd_X9_138 sf_town_5 ?_
  refine ws_imul (pc := 129) C dX9_drawnRide_129 ?_
  obtain ⟨v9, e10, h⟩ := lz_ok h
  refine ws_topi C e10 ?_
  refine ws_istore (pc := 130) C dX9_drawnRide_130 (by decide) rfl ?_
  refine ws_iconst (pc := 132) C dX9_drawnRide_132 ci_0 ?_
  refine ws_istore (pc := 133) C dX9_drawnRide_133 (by decide) rfl ?_
  refine ws_less [5, 8, 4, 3, 2, 1, 0] rfl ?_
  refine pX9_drawnRide_L135 C R (fun x11 s12 h => ?_) fu _ _ _ _ h
  · refine ws_iload (pc := 220) C dX9_drawnRide_220 0 rfl ?_
    exact wr_i (pc := 222) C R dX9_drawnRide_222 rfl h
set_option maxRecDepth 20000 in
set_option maxHeartbeats 4000000 in
theorem mX9_drawnRide {Y : xY} {Z : xZ} {a1 : Int32} {a2 : Int32} {a3 : Int32} {s : xM} {z : Int32 × xM} (h : fX9_drawnRide a1 a2 a3 s = some z) : xMi (GX Y) Z yX9_drawnRide cX9_drawnRide 13 3 .int [.ref (Y.1 0), .int a1, .int a2, .int a3] s z := by
  refine xMi_of (by decide) (Nat.le_of_ble_eq_true rfl) (fun B C R => ?_)
  have C : xC (GX Y) Z B "BetweenStops" cX9_drawnRide 13 3 := C
  show xWS (GX Y) B 13 s [(0, .ref (Y.1 0)), (1, .int a1), (2, .int a2), (3, .int a3)] 0 []
  unfold fX9_drawnRide at h
  refine ws_iload_n (pc := 0) C dX9_drawnRide_0 rfl 3 rfl ?_
  refine ws_iconst (pc := 1) C dX9_drawnRide_1 ci_1 ?_
  refine ws_iadd (pc := 2) C dX9_drawnRide_2 ?_
  refine ws_i2l (pc := 3) C dX9_drawnRide_3 ?_
  obtain ⟨r1, s2, q3, h⟩ := bd_ok h
  refine wc_lS (pc := 4)  C [.long ((a3 + (1 : Int32)).toInt64)] [] (mX9_nextLot q3) dX9_drawnRide_4 mw_X9_nextLot ks_X9_nextLot kl_X9_409 rfl rfl (Nat.le_of_ble_eq_true rfl) ⟨by decide, by decide⟩ ?_
  refine ws_lstore (pc := 7) C dX9_drawnRide_7 (by decide) rfl ?_
  refine ws_aload_n (pc := 9) C dX9_drawnRide_9 rfl 1 rfl ?_
  refine ws_getr (pc := 10) C dX9_drawnRide_10 fd_X9_21 sf_BS_1 ?_
  refine ws_getr (pc := 13) C dX9_drawnRide_13 fd_X9_377 sf_ways_1 ?_
  refine ws_iload_n (pc := 16) C dX9_drawnRide_16 rfl 2 rfl ?_
  obtain ⟨g4, h⟩ := gd_ok h
  refine ws_ialdK (pc := 17) C dX9_drawnRide_17 sr_w_cars g4 rfl ?_
  refine ws_aload_n (pc := 18) C dX9_drawnRide_18 rfl 1 rfl ?_
  refine ws_getr (pc := 19) C dX9_drawnRide_19 fd_X9_21 sf_BS_1 ?_
  refine ws_getr (pc := 22) C dX9_drawnRide_22 fd_X9_377 sf_ways_1 ?_
  refine ws_iload_n (pc := 25) C dX9_drawnRide_25 rfl 3 rfl ?_
  obtain ⟨g5, h⟩ := gd_ok h
  refine ws_ialdK (pc := 26) C dX9_drawnRide_26 sr_w_cars g5 rfl ?_
  refine ws_iand (pc := 27) C dX9_drawnRide_27 ?_
  obtain ⟨v6, e7, h⟩ := lz_ok h
  refine ws_topi C e7 ?_
  refine ws_istore (pc := 28) C dX9_drawnRide_28 (by decide) rfl ?_
  refine ws_iload (pc := 30) C dX9_drawnRide_30 0 rfl ?_
  refine ws_iconst (pc := 32) C dX9_drawnRide_32 ci_3 ?_
  refine ws_icmp_ne (pc := 33) (tgt := 46) C dX9_drawnRide_33 (by decide) (fun c8 => ?_) (fun c8 => ?_)
  · have h := ite_f h c8
    refine ws_iload (pc := 46) C dX9_drawnRide_46 0 rfl ?_
    refine ws_iconst (pc := 48) C dX9_drawnRide_48 ci_2 ?_
    refine ws_icmp_ne (pc := 49) (tgt := 56) C dX9_drawnRide_49 (by decide) (fun c9 => ?_) (fun c9 => ?_)
    · have h := ite_f h c9
      refine ws_iconst (pc := 56) C dX9_drawnRide_56 ci_0 ?_
      refine ws_less [2, 3, 4, 1] rfl ?_
      exact pX9_drawnRide_J57 C R h
    · have h := ite_t h c9
      refine ws_iconst (pc := 52) C dX9_drawnRide_52 ci_1 ?_
      refine ws_goto (pc := 53) (tgt := 57) C dX9_drawnRide_53 (by decide) ?_
      refine ws_less [2, 3, 4, 1] rfl ?_
      exact pX9_drawnRide_J57 C R h
  · have h := ite_t h c8
    refine ws_lload (pc := 36) C dX9_drawnRide_36 1 rfl ?_
    refine ws_ldc2 (pc := 38) C dX9_drawnRide_38 kK_X9_413 ?_
    refine ws_lrem (pc := 41) C dX9_drawnRide_41 (by decide) ?_
    refine ws_l2i (pc := 42) C dX9_drawnRide_42 ?_
    refine ws_goto (pc := 43) (tgt := 57) C dX9_drawnRide_43 (by decide) ?_
    refine ws_less [2, 3, 4, 1] rfl ?_
    exact pX9_drawnRide_J57 C R h
set_option maxRecDepth 20000 in
set_option maxHeartbeats 4000000 in
theorem mX9_drawn {Y : xY} {Z : xZ} {a1 : Int32} {a2 : Int32} {s : xM} {z : Int32 × xM} (h : fX9_drawn a1 a2 s = some z) : xMi (GX Y) Z yX9_drawn cX9_drawn 3 6 .int [.ref (Y.1 0), .int a1, .int a2] s z := by
  refine xMi_of (by decide) (Nat.le_of_ble_eq_true rfl) (fun B C R => ?_)
  have C : xC (GX Y) Z B "BetweenStops" cX9_drawn 3 6 := C
  show xWS (GX Y) B 3 s [(0, .ref (Y.1 0)), (1, .int a1), (2, .int a2)] 0 []
  unfold fX9_drawn at h
  refine ws_aload_n (pc := 0) C dX9_drawn_0 rfl 0 rfl ?_
  refine ws_iload_n (pc := 1) C dX9_drawn_1 rfl 1 rfl ?_
  obtain ⟨r1, s2, q3, h⟩ := bd_ok h
  refine wc_iV (pc := 2)  C [.int a1] [] (mX9_isTrip q3) dX9_drawn_2 mw_X9_isTrip mv_X9_isTrip kl_X9_215 so_BS rfl rfl (Nat.le_of_ble_eq_true rfl) ⟨by decide, by decide⟩ ?_
  refine ws_if_ne (pc := 5) (tgt := 11) C dX9_drawn_5 (by decide) (fun c4 => ?_) (fun c4 => ?_)
  · have h := ite_f h c4
    refine ws_iload_n (pc := 11) C dX9_drawn_11 rfl 2 rfl ?_
    refine ws_iconst (pc := 12) C dX9_drawn_12 ci_0 ?_
    refine ws_ldcw (pc := 13) C dX9_drawn_13 kk_X9_266 ?_
    obtain ⟨r5, s6, q7, h⟩ := bd_ok h
    refine wc_iS (pc := 16)  C [.int a2, .int (0 : Int32), .int (99999 : Int32)] [] (mX9_isWithin q7) dX9_drawn_16 mw_X9_isWithin ks_X9_isWithin kl_X9_111 rfl rfl (Nat.le_of_ble_eq_true rfl) ⟨by decide, by decide⟩ ?_
    refine ws_if_ne (pc := 19) (tgt := 25) C dX9_drawn_19 (by decide) (fun c8 => ?_) (fun c8 => ?_)
    · have h := ite_f h c8
      refine ws_aload_n (pc := 25) C dX9_drawn_25 rfl 0 rfl ?_
      obtain ⟨r9, s10, q11, h⟩ := bd_ok h
      refine wc_vV (pc := 26)  C [] [] (mX9_lookAtNow q11) dX9_drawn_26 mw_X9_lookAtNow mv_X9_lookAtNow kl_X9_218 so_BS rfl rfl (Nat.le_of_ble_eq_true rfl) ⟨by decide, by decide⟩ ?_
      refine ws_aload_n (pc := 29) C dX9_drawn_29 rfl 0 rfl ?_
      refine ws_aload_n (pc := 30) C dX9_drawn_30 rfl 0 rfl ?_
      refine ws_getr (pc := 31) C dX9_drawn_31 fd_X9_21 sf_BS_1 ?_
      refine ws_getr (pc := 34) C dX9_drawn_34 fd_X9_224 sf_ways_12 ?_
      refine ws_iload_n (pc := 37) C dX9_drawn_37 rfl 1 rfl ?_
      obtain ⟨g12, h⟩ := gd_ok h
      refine ws_ialdK (pc := 38) C dX9_drawn_38 sr_w_ins g12 rfl ?_
      obtain ⟨r13, s14, q15, h⟩ := bd_ok h
      refine wc_iV (pc := 39)  C [.int (gi s10 72 a1.toNatClampNeg)] [] (mX9_isStop q15) dX9_drawn_39 mw_X9_isStop mv_X9_isStop kl_X9_164 so_BS rfl rfl (Nat.le_of_ble_eq_true rfl) ⟨by decide, by decide⟩ ?_
      refine ws_if_eq (pc := 42) (tgt := 61) C dX9_drawn_42 (by decide) (fun c16 => ?_) (fun c16 => ?_)
      · have h := ite_t h c16
        refine ws_bipush (pc := 61) C dX9_drawn_61 cb_m3 ?_
        exact wr_i (pc := 63) C R dX9_drawn_63 rfl h
      · have h := ite_f h c16
        refine ws_aload_n (pc := 45) C dX9_drawn_45 rfl 0 rfl ?_
        refine ws_aload_n (pc := 46) C dX9_drawn_46 rfl 0 rfl ?_
        refine ws_getr (pc := 47) C dX9_drawn_47 fd_X9_21 sf_BS_1 ?_
        refine ws_getr (pc := 50) C dX9_drawn_50 fd_X9_227 sf_ways_13 ?_
        refine ws_iload_n (pc := 53) C dX9_drawn_53 rfl 1 rfl ?_
        obtain ⟨g17, h⟩ := gd_ok h
        refine ws_ialdK (pc := 54) C dX9_drawn_54 sr_w_outs g17 rfl ?_
        obtain ⟨r18, s19, q20, h⟩ := bd_ok h
        refine wc_iV (pc := 55)  C [.int (gi s14 73 a1.toNatClampNeg)] [] (mX9_isStop q20) dX9_drawn_55 mw_X9_isStop mv_X9_isStop kl_X9_164 so_BS rfl rfl (Nat.le_of_ble_eq_true rfl) ⟨by decide, by decide⟩ ?_
        refine ws_if_ne (pc := 58) (tgt := 64) C dX9_drawn_58 (by decide) (fun c21 => ?_) (fun c21 => ?_)
        · have h := ite_f h c21
          refine ws_aload_n (pc := 64) C dX9_drawn_64 rfl 0 rfl ?_
          refine ws_aload_n (pc := 65) C dX9_drawn_65 rfl 0 rfl ?_
          refine ws_getr (pc := 66) C dX9_drawn_66 fd_X9_21 sf_BS_1 ?_
          refine ws_getr (pc := 69) C dX9_drawn_69 fd_X9_224 sf_ways_12 ?_
          refine ws_iload_n (pc := 72) C dX9_drawn_72 rfl 1 rfl ?_
          obtain ⟨g22, h⟩ := gd_ok h
          refine ws_ialdK (pc := 73) C dX9_drawn_73 sr_w_ins g22 rfl ?_
          refine ws_aload_n (pc := 74) C dX9_drawn_74 rfl 0 rfl ?_
          refine ws_getr (pc := 75) C dX9_drawn_75 fd_X9_21 sf_BS_1 ?_
          refine ws_getr (pc := 78) C dX9_drawn_78 fd_X9_227 sf_ways_13 ?_
          refine ws_iload_n (pc := 81) C dX9_drawn_81 rfl 1 rfl ?_
          obtain ⟨g23, h⟩ := gd_ok h
          refine ws_ialdK (pc := 82) C dX9_drawn_82 sr_w_outs g23 rfl ?_
          refine ws_iload_n (pc := 83) C dX9_drawn_83 rfl 2 rfl ?_
          obtain ⟨r24, s25, q26, h⟩ := bd_ok h
          refine wc_iV (pc := 84)  C [.int (gi s19 72 a1.toNatClampNeg), .int (gi s19 73 a1.toNatClampNeg), .int a2] [] (mX9_drawnRide q26) dX9_drawn_84 mw_X9_drawnRide mv_X9_drawnRide kl_X9_328 so_BS rfl rfl (Nat.le_of_ble_eq_true rfl) ⟨by decide, by decide⟩ ?_
          exact wr_i (pc := 87) C R dX9_drawn_87 rfl h
        · have h := ite_t h c21
          refine ws_bipush (pc := 61) C dX9_drawn_61 cb_m3 ?_
          exact wr_i (pc := 63) C R dX9_drawn_63 rfl h
    · have h := ite_t h c8
      refine ws_bipush (pc := 22) C dX9_drawn_22 cb_m7 ?_
      exact wr_i (pc := 24) C R dX9_drawn_24 rfl h
  · have h := ite_t h c4
    refine ws_bipush (pc := 8) C dX9_drawn_8 cb_m5 ?_
    exact wr_i (pc := 10) C R dX9_drawn_10 rfl h
set_option maxRecDepth 20000 in
set_option maxHeartbeats 4000000 in
theorem mX9_image {Y : xY} {Z : xZ} {s : xM} {z : Int32 × xM} (h : fX9_image s = some z) : xMi (GX Y) Z yX9_image cX9_image 1 2 .int [.ref (Y.1 0)] s z := by
  refine xMi_of (by decide) (Nat.le_of_ble_eq_true rfl) (fun B C R => ?_)
  have C : xC (GX Y) Z B "BetweenStops" cX9_image 1 2 := C
  show xWS (GX Y) B 1 s [(0, .ref (Y.1 0))] 0 []
  unfold fX9_image at h
  refine ws_aload_n (pc := 0) C dX9_image_0 rfl 0 rfl ?_
  refine ws_getr (pc := 1) C dX9_image_1 fd_X9_57 sf_BS_7 ?_
  refine ws_aload_n (pc := 4) C dX9_image_4 rfl 0 rfl ?_
  refine ws_getr (pc := 5) C dX9_image_5 fd_X9_10 sf_BS_0 ?_
  refine ws_aload_n (pc := 8) C dX9_image_8 rfl 0 rfl ?_
  refine ws_geti (pc := 9) C dX9_image_9 fd_X9_51 sf_BS_6 ?_
  obtain ⟨r1, s2, q3, h⟩ := bd_ok h
  refine wc_vV (pc := 12)  C [.ref (Y.1 1), .int (gi s 0 6)] [] (mX0_keep q3) dX9_image_12 mw_X0_keep mv_X0_keep kl_X9_331 so_kept rfl rfl (Nat.le_of_ble_eq_true rfl) ⟨by decide, by decide⟩ ?_
  refine ws_aload_n (pc := 15) C dX9_image_15 rfl 0 rfl ?_
  refine ws_getr (pc := 16) C dX9_image_16 fd_X9_10 sf_BS_0 ?_
  refine ws_geti (pc := 19) C dX9_image_19 fd_X9_151 sf_town_7 ?_
  exact wr_i (pc := 22) C R dX9_image_22 rfl h
set_option maxRecDepth 20000 in
set_option maxHeartbeats 4000000 in
theorem mX9_back {Y : xY} {Z : xZ} {s : xM} {z : Int32 × xM} (h : fX9_back s = some z) : xMi (GX Y) Z yX9_back cX9_back 1 3 .int [.ref (Y.1 0)] s z := by
  refine xMi_of (by decide) (Nat.le_of_ble_eq_true rfl) (fun B C R => ?_)
  have C : xC (GX Y) Z B "BetweenStops" cX9_back 1 3 := C
  show xWS (GX Y) B 1 s [(0, .ref (Y.1 0))] 0 []
  unfold fX9_back at h
  refine ws_aload_n (pc := 0) C dX9_back_0 rfl 0 rfl ?_
  refine ws_getr (pc := 1) C dX9_back_1 fd_X9_57 sf_BS_7 ?_
  refine ws_geti (pc := 4) C dX9_back_4 fd_X9_335 sf_kept_0 ?_
  refine ws_if_ne (pc := 7) (tgt := 13) C dX9_back_7 (by decide) (fun c1 => ?_) (fun c1 => ?_)
  · have h := ite_f h c1
    refine ws_aload_n (pc := 13) C dX9_back_13 rfl 0 rfl ?_
    refine ws_getr (pc := 14) C dX9_back_14 fd_X9_57 sf_BS_7 ?_
    refine ws_aload_n (pc := 17) C dX9_back_17 rfl 0 rfl ?_
    refine ws_getr (pc := 18) C dX9_back_18 fd_X9_10 sf_BS_0 ?_
    obtain ⟨r2, s3, q4, h⟩ := bd_ok h
    refine wc_vV (pc := 21)  C [.ref (Y.1 1)] [] (mX0_giveBack q4) dX9_back_21 mw_X0_giveBack mv_X0_giveBack kl_X9_338 so_kept rfl rfl (Nat.le_of_ble_eq_true rfl) ⟨by decide, by decide⟩ ?_
    refine ws_aload_n (pc := 24) C dX9_back_24 rfl 0 rfl ?_
    refine ws_aload_n (pc := 25) C dX9_back_25 rfl 0 rfl ?_
    refine ws_getr (pc := 26) C dX9_back_26 fd_X9_57 sf_BS_7 ?_
    refine ws_geti (pc := 29) C dX9_back_29 fd_X9_341 sf_kept_1 ?_
    obtain ⟨s5, e6, h⟩ := lz_ok h
    refine ws_putI (pc := 32) C dX9_back_32 fp_X9_51 sf_BS_6 e6 ?_
    refine ws_aload_n (pc := 35) C dX9_back_35 rfl 0 rfl ?_
    refine ws_getr (pc := 36) C dX9_back_36 fd_X9_10 sf_BS_0 ?_
    refine ws_geti (pc := 39) C dX9_back_39 fd_X9_151 sf_town_7 ?_
    exact wr_i (pc := 42) C R dX9_back_42 rfl h
  · have h := ite_t h c1
    refine ws_bipush (pc := 10) C dX9_back_10 cb_m3 ?_
    exact wr_i (pc := 12) C R dX9_back_12 rfl h
set_option maxRecDepth 20000 in
set_option maxHeartbeats 4000000 in
theorem pX9_sheet_J62 {Y : xY} {Z : xZ} {B : xB} {z : Int32 × xM} (C : xC (GX Y) Z B "BetweenStops" cX9_sheet 4 3) (R : xRi (GX Y) B .int z) {t0 : Int32} {t1 : Int32} {t2 : Nat} (ht2 : t2 < 4) {s : xM} (h : fX9_sheet_J62 t0 t1 t2 s = some z) : xWS (GX Y) B 4 s [] 62 [.int t0, .int t1, .ref (Y.1 (121 + 2 * t2))] := by
  unfold fX9_sheet_J62 at h
  obtain ⟨r1, s2, q3, h⟩ := bd_ok h
  refine wc_vV (pc := 62)  C [.int t1, .int t0] [] (mX2_begin ht2 q3) dX9_sheet_62 mw_X2_begin mv_X2_begin kl_X9_342 (so_sheet ht2) rfl rfl (Nat.le_of_ble_eq_true rfl) ⟨by decide, by decide⟩ ?_
  refine ws_iconst (pc := 65) C dX9_sheet_65 ci_1 ?_
  exact wr_i (pc := 66) C R dX9_sheet_66 rfl h
set_option maxRecDepth 20000 in
set_option maxHeartbeats 4000000 in
theorem pX9_sheet_J45 {Y : xY} {Z : xZ} {B : xB} {z : Int32 × xM} (C : xC (GX Y) Z B "BetweenStops" cX9_sheet 4 3) (R : xRi (GX Y) B .int z) {a1 : Int32} {a2 : Int32} {a3 : Int32} {s : xM} (h : fX9_sheet_J45 a1 a2 a3 s = some z) : xWS (GX Y) B 4 s [(0, .ref (Y.1 0)), (1, .int a1), (2, .int a2), (3, .int a3)] 45 [] := by
  unfold fX9_sheet_J45 at h
  refine ws_aload_n (pc := 45) C dX9_sheet_45 rfl 0 rfl ?_
  refine ws_getr (pc := 46) C dX9_sheet_46 fd_X9_63 sf_BS_8 ?_
  refine ws_iload_n (pc := 49) C dX9_sheet_49 rfl 1 rfl ?_
  obtain ⟨g1, h⟩ := gd_ok h
  refine ws_aaldK (q := (121 + 2 * a1.toNatClampNeg)) (pc := 50) C dX9_sheet_50 (by decide) sq_sheets g1 rfl rfl ?_
  refine ws_iload_n (pc := 51) C dX9_sheet_51 rfl 2 rfl ?_
  refine ws_iload_n (pc := 52) C dX9_sheet_52 rfl 2 rfl ?_
  refine ws_iconst (pc := 53) C dX9_sheet_53 ci_m1 ?_
  refine ws_icmp_ne (pc := 54) (tgt := 61) C dX9_sheet_54 (by decide) (fun c2 => ?_) (fun c2 => ?_)
  · have h := ite_f h c2
    refine ws_iload_n (pc := 61) C dX9_sheet_61 rfl 3 rfl ?_
    refine ws_less [] rfl ?_
    exact pX9_sheet_J62 C R (inb_lt g1) h
  · have h := ite_t h c2
    refine ws_iconst (pc := 57) C dX9_sheet_57 ci_0 ?_
    refine ws_goto (pc := 58) (tgt := 62) C dX9_sheet_58 (by decide) ?_
    refine ws_less [] rfl ?_
    exact pX9_sheet_J62 C R (inb_lt g1) h
set_option maxRecDepth 20000 in
set_option maxHeartbeats 4000000 in
theorem pX9_sheet_J33 {Y : xY} {Z : xZ} {B : xB} {z : Int32 × xM} (C : xC (GX Y) Z B "BetweenStops" cX9_sheet 4 3) (R : xRi (GX Y) B .int z) {a1 : Int32} {a2 : Int32} {a3 : Int32} {s : xM} (h : fX9_sheet_J33 a1 a2 a3 s = some z) : xWS (GX Y) B 4 s [(0, .ref (Y.1 0)), (1, .int a1), (2, .int a2), (3, .int a3)] 33 [] := by
  unfold fX9_sheet_J33 at h
  refine ws_iload_n (pc := 33) C dX9_sheet_33 rfl 2 rfl ?_
  refine ws_iconst (pc := 34) C dX9_sheet_34 ci_m1 ?_
  refine ws_icmp_eq (pc := 35) (tgt := 45) C dX9_sheet_35 (by decide) (fun c1 => ?_) (fun c1 => ?_)
  · have h := ite_t h c1
    refine ws_less [0, 1, 2, 3] rfl ?_
    exact pX9_sheet_J45 C R h
  · have h := ite_f h c1
    refine ws_iload_n (pc := 38) C dX9_sheet_38 rfl 3 rfl ?_
    refine ws_if_ge (pc := 39) (tgt := 45) C dX9_sheet_39 (by decide) (fun c2 => ?_) (fun c2 => ?_)
    · have h := ite_t h c2
      refine ws_less [0, 1, 2, 3] rfl ?_
      exact pX9_sheet_J45 C R h
    · have h := ite_f h c2
      refine ws_bipush (pc := 42) C dX9_sheet_42 cb_m14 ?_
      exact wr_i (pc := 44) C R dX9_sheet_44 rfl h
set_option maxRecDepth 20000 in
set_option maxHeartbeats 4000000 in
theorem mX9_sheet {Y : xY} {Z : xZ} {a1 : Int32} {a2 : Int32} {a3 : Int32} {s : xM} {z : Int32 × xM} (h : fX9_sheet a1 a2 a3 s = some z) : xMi (GX Y) Z yX9_sheet cX9_sheet 4 3 .int [.ref (Y.1 0), .int a1, .int a2, .int a3] s z := by
  refine xMi_of (by decide) (Nat.le_of_ble_eq_true rfl) (fun B C R => ?_)
  have C : xC (GX Y) Z B "BetweenStops" cX9_sheet 4 3 := C
  show xWS (GX Y) B 4 s [(0, .ref (Y.1 0)), (1, .int a1), (2, .int a2), (3, .int a3)] 0 []
  unfold fX9_sheet at h
  refine ws_iload_n (pc := 0) C dX9_sheet_0 rfl 1 rfl ?_
  obtain ⟨r1, s2, q3, h⟩ := bd_ok h
  refine wc_iS (pc := 1)  C [.int a1] [] (mX9_isSheet q3) dX9_sheet_1 mw_X9_isSheet ks_X9_isSheet kl_X9_279 rfl rfl (Nat.le_of_ble_eq_true rfl) ⟨by decide, by decide⟩ ?_
  refine ws_if_eq (pc := 4) (tgt := 16) C dX9_sheet_4 (by decide) (fun c4 => ?_) (fun c4 => ?_)
  · have h := ite_t h c4
    refine ws_bipush (pc := 16) C dX9_sheet_16 cb_m2 ?_
    exact wr_i (pc := 18) C R dX9_sheet_18 rfl h
  · have h := ite_f h c4
    refine ws_iload_n (pc := 7) C dX9_sheet_7 rfl 2 rfl ?_
    refine ws_iconst (pc := 8) C dX9_sheet_8 ci_m1 ?_
    refine ws_iconst (pc := 9) C dX9_sheet_9 ci_2 ?_
    obtain ⟨r5, s6, q7, h⟩ := bd_ok h
    refine wc_iS (pc := 10)  C [.int a2, .int (-1 : Int32), .int (2 : Int32)] [] (mX9_isWithin q7) dX9_sheet_10 mw_X9_isWithin ks_X9_isWithin kl_X9_111 rfl rfl (Nat.le_of_ble_eq_true rfl) ⟨by decide, by decide⟩ ?_
    refine ws_if_ne (pc := 13) (tgt := 19) C dX9_sheet_13 (by decide) (fun c8 => ?_) (fun c8 => ?_)
    · have h := ite_f h c8
      refine ws_iload_n (pc := 19) C dX9_sheet_19 rfl 2 rfl ?_
      refine ws_iconst (pc := 20) C dX9_sheet_20 ci_m1 ?_
      refine ws_icmp_eq (pc := 21) (tgt := 33) C dX9_sheet_21 (by decide) (fun c9 => ?_) (fun c9 => ?_)
      · have h := ite_t h c9
        refine ws_less [0, 1, 2, 3] rfl ?_
        exact pX9_sheet_J33 C R h
      · have h := ite_f h c9
        refine ws_iload_n (pc := 24) C dX9_sheet_24 rfl 3 rfl ?_
        refine ws_bipush (pc := 25) C dX9_sheet_25 cb_41 ?_
        refine ws_icmp_le (pc := 27) (tgt := 33) C dX9_sheet_27 (by decide) (fun c10 => ?_) (fun c10 => ?_)
        · have h := ite_t h c10
          refine ws_less [0, 1, 2, 3] rfl ?_
          exact pX9_sheet_J33 C R h
        · have h := ite_f h c10
          refine ws_bipush (pc := 30) C dX9_sheet_30 cb_m2 ?_
          exact wr_i (pc := 32) C R dX9_sheet_32 rfl h
    · have h := ite_t h c8
      refine ws_bipush (pc := 16) C dX9_sheet_16 cb_m2 ?_
      exact wr_i (pc := 18) C R dX9_sheet_18 rfl h
set_option maxRecDepth 20000 in
set_option maxHeartbeats 4000000 in
theorem mX9_cell {Y : xY} {Z : xZ} {a1 : Int32} {a2 : Int32} {a3 : Int32} {s : xM} {z : Int32 × xM} (h : fX9_cell a1 a2 a3 s = some z) : xMi (GX Y) Z yX9_cell cX9_cell 4 3 .int [.ref (Y.1 0), .int a1, .int a2, .int a3] s z := by
  refine xMi_of (by decide) (Nat.le_of_ble_eq_true rfl) (fun B C R => ?_)
  have C : xC (GX Y) Z B "BetweenStops" cX9_cell 4 3 := C
  show xWS (GX Y) B 4 s [(0, .ref (Y.1 0)), (1, .int a1), (2, .int a2), (3, .int a3)] 0 []
  unfold fX9_cell at h
  refine ws_iload_n (pc := 0) C dX9_cell_0 rfl 1 rfl ?_
  obtain ⟨r1, s2, q3, h⟩ := bd_ok h
  refine wc_iS (pc := 1)  C [.int a1] [] (mX9_isSheet q3) dX9_cell_1 mw_X9_isSheet ks_X9_isSheet kl_X9_279 rfl rfl (Nat.le_of_ble_eq_true rfl) ⟨by decide, by decide⟩ ?_
  refine ws_if_ne (pc := 4) (tgt := 10) C dX9_cell_4 (by decide) (fun c4 => ?_) (fun c4 => ?_)
  · have h := ite_f h c4
    refine ws_aload_n (pc := 10) C dX9_cell_10 rfl 0 rfl ?_
    refine ws_getr (pc := 11) C dX9_cell_11 fd_X9_63 sf_BS_8 ?_
    refine ws_iload_n (pc := 14) C dX9_cell_14 rfl 1 rfl ?_
    obtain ⟨g5, h⟩ := gd_ok h
    refine ws_aaldK (q := (121 + 2 * a1.toNatClampNeg)) (pc := 15) C dX9_cell_15 (by decide) sq_sheets g5 rfl rfl ?_
    obtain ⟨r6, s7, q8, h⟩ := bd_ok h
    refine wc_iV (pc := 16)  C [] [] (mX2_isMissing (inb_lt g5) q8) dX9_cell_16 mw_X2_isMissing mv_X2_isMissing kl_X9_282 (so_sheet (inb_lt g5)) rfl rfl (Nat.le_of_ble_eq_true rfl) ⟨by decide, by decide⟩ ?_
    refine ws_if_eq (pc := 19) (tgt := 25) C dX9_cell_19 (by decide) (fun c9 => ?_) (fun c9 => ?_)
    · have h := ite_t h c9
      refine ws_aload_n (pc := 25) C dX9_cell_25 rfl 0 rfl ?_
      refine ws_getr (pc := 26) C dX9_cell_26 fd_X9_63 sf_BS_8 ?_
      refine ws_iload_n (pc := 29) C dX9_cell_29 rfl 1 rfl ?_
      obtain ⟨g10, h⟩ := gd_ok h
      refine ws_aaldK (q := (121 + 2 * a1.toNatClampNeg)) (pc := 30) C dX9_cell_30 (by decide) sq_sheets g10 rfl rfl ?_
      refine ws_iload_n (pc := 31) C dX9_cell_31 rfl 2 rfl ?_
      obtain ⟨r11, s12, q13, h⟩ := bd_ok h
      refine wc_iV (pc := 32)  C [.int a2] [] (mX2_holds (inb_lt g10) q13) dX9_cell_32 mw_X2_holds mv_X2_holds kl_X9_344 (so_sheet (inb_lt g10)) rfl rfl (Nat.le_of_ble_eq_true rfl) ⟨by decide, by decide⟩ ?_
      refine ws_if_ne (pc := 35) (tgt := 41) C dX9_cell_35 (by decide) (fun c14 => ?_) (fun c14 => ?_)
      · have h := ite_f h c14
        refine ws_aload_n (pc := 41) C dX9_cell_41 rfl 0 rfl ?_
        refine ws_getr (pc := 42) C dX9_cell_42 fd_X9_63 sf_BS_8 ?_
        refine ws_iload_n (pc := 45) C dX9_cell_45 rfl 1 rfl ?_
        obtain ⟨g15, h⟩ := gd_ok h
        refine ws_aaldK (q := (121 + 2 * a1.toNatClampNeg)) (pc := 46) C dX9_cell_46 (by decide) sq_sheets g15 rfl rfl ?_
        refine ws_iload_n (pc := 47) C dX9_cell_47 rfl 2 rfl ?_
        refine ws_iload_n (pc := 48) C dX9_cell_48 rfl 3 rfl ?_
        obtain ⟨r16, s17, q18, h⟩ := bd_ok h
        refine wc_vV (pc := 49)  C [.int a2, .int a3] [] (mX2_write (inb_lt g15) q18) dX9_cell_49 mw_X2_write mv_X2_write kl_X9_347 (so_sheet (inb_lt g15)) rfl rfl (Nat.le_of_ble_eq_true rfl) ⟨by decide, by decide⟩ ?_
        refine ws_iconst (pc := 52) C dX9_cell_52 ci_1 ?_
        exact wr_i (pc := 53) C R dX9_cell_53 rfl h
      · have h := ite_t h c14
        refine ws_bipush (pc := 38) C dX9_cell_38 cb_m12 ?_
        exact wr_i (pc := 40) C R dX9_cell_40 rfl h
    · have h := ite_f h c9
      refine ws_bipush (pc := 22) C dX9_cell_22 cb_m11 ?_
      exact wr_i (pc := 24) C R dX9_cell_24 rfl h
  · have h := ite_t h c4
    refine ws_bipush (pc := 7) C dX9_cell_7 cb_m2 ?_
    exact wr_i (pc := 9) C R dX9_cell_9 rfl h
set_option maxRecDepth 20000 in
set_option maxHeartbeats 4000000 in
theorem mX9_copy {Y : xY} {Z : xZ} {a1 : Int32} {a2 : Int32} {a3 : Int32} {a4 : Int32} {a5 : Int32} {s : xM} {z : Int32 × xM} (h : fX9_copy a1 a2 a3 a4 a5 s = some z) : xMi (GX Y) Z yX9_copy cX9_copy 8 3 .int [.ref (Y.1 0), .int a1, .int a2, .int a3, .int a4, .int a5] s z := by
  refine xMi_of (by decide) (Nat.le_of_ble_eq_true rfl) (fun B C R => ?_)
  have C : xC (GX Y) Z B "BetweenStops" cX9_copy 8 3 := C
  show xWS (GX Y) B 8 s [(0, .ref (Y.1 0)), (1, .int a1), (2, .int a2), (3, .int a3), (4, .int a4), (5, .int a5)] 0 []
  unfold fX9_copy at h
  refine ws_iload_n (pc := 0) C dX9_copy_0 rfl 1 rfl ?_
  obtain ⟨r1, s2, q3, h⟩ := bd_ok h
  refine wc_iS (pc := 1)  C [.int a1] [] (mX9_isSheet q3) dX9_copy_1 mw_X9_isSheet ks_X9_isSheet kl_X9_279 rfl rfl (Nat.le_of_ble_eq_true rfl) ⟨by decide, by decide⟩ ?_
  refine ws_if_eq (pc := 4) (tgt := 14) C dX9_copy_4 (by decide) (fun c4 => ?_) (fun c4 => ?_)
  · have h := ite_t h c4
    refine ws_bipush (pc := 14) C dX9_copy_14 cb_m2 ?_
    exact wr_i (pc := 16) C R dX9_copy_16 rfl h
  · have h := ite_f h c4
    refine ws_iload_n (pc := 7) C dX9_copy_7 rfl 3 rfl ?_
    obtain ⟨r5, s6, q7, h⟩ := bd_ok h
    refine wc_iS (pc := 8)  C [.int a3] [] (mX9_isSheet q7) dX9_copy_8 mw_X9_isSheet ks_X9_isSheet kl_X9_279 rfl rfl (Nat.le_of_ble_eq_true rfl) ⟨by decide, by decide⟩ ?_
    refine ws_if_ne (pc := 11) (tgt := 17) C dX9_copy_11 (by decide) (fun c8 => ?_) (fun c8 => ?_)
    · have h := ite_f h c8
      refine ws_aload_n (pc := 17) C dX9_copy_17 rfl 0 rfl ?_
      refine ws_getr (pc := 18) C dX9_copy_18 fd_X9_63 sf_BS_8 ?_
      refine ws_iload_n (pc := 21) C dX9_copy_21 rfl 1 rfl ?_
      obtain ⟨g9, h⟩ := gd_ok h
      refine ws_aaldK (q := (121 + 2 * a1.toNatClampNeg)) (pc := 22) C dX9_copy_22 (by decide) sq_sheets g9 rfl rfl ?_
      refine ws_astore (pc := 23) C dX9_copy_23 (by decide) rfl ?_
      refine ws_aload_n (pc := 25) C dX9_copy_25 rfl 1 rfl ?_
      refine ws_getr (pc := 26) C dX9_copy_26 fd_X9_63 sf_BS_8 ?_
      refine ws_iload_n (pc := 29) C dX9_copy_29 rfl 4 rfl ?_
      obtain ⟨g10, h⟩ := gd_ok h
      refine ws_aaldK (q := (121 + 2 * a3.toNatClampNeg)) (pc := 30) C dX9_copy_30 (by decide) sq_sheets g10 rfl rfl ?_
      refine ws_astore (pc := 31) C dX9_copy_31 (by decide) rfl ?_
      refine ws_aload (pc := 33) C dX9_copy_33 1 rfl ?_
      obtain ⟨r11, s12, q13, h⟩ := bd_ok h
      refine wc_iV (pc := 35)  C [] [] (mX2_isMissing (inb_lt g9) q13) dX9_copy_35 mw_X2_isMissing mv_X2_isMissing kl_X9_282 (so_sheet (inb_lt g9)) rfl rfl (Nat.le_of_ble_eq_true rfl) ⟨by decide, by decide⟩ ?_
      refine ws_if_ne (pc := 38) (tgt := 49) C dX9_copy_38 (by decide) (fun c14 => ?_) (fun c14 => ?_)
      · have h := ite_f h c14
        refine ws_bipush (pc := 49) C dX9_copy_49 cb_m11 ?_
        exact wr_i (pc := 51) C R dX9_copy_51 rfl h
      · have h := ite_t h c14
        refine ws_aload (pc := 41) C dX9_copy_41 0 rfl ?_
        obtain ⟨r15, s16, q17, h⟩ := bd_ok h
        refine wc_iV (pc := 43)  C [] [] (mX2_isMissing (inb_lt g10) q17) dX9_copy_43 mw_X2_isMissing mv_X2_isMissing kl_X9_282 (so_sheet (inb_lt g10)) rfl rfl (Nat.le_of_ble_eq_true rfl) ⟨by decide, by decide⟩ ?_
        refine ws_if_eq (pc := 46) (tgt := 52) C dX9_copy_46 (by decide) (fun c18 => ?_) (fun c18 => ?_)
        · have h := ite_t h c18
          refine ws_aload (pc := 52) C dX9_copy_52 1 rfl ?_
          refine ws_geti (pc := 54) C dX9_copy_54 fd_X9_350 (sf_sheet_1 (inb_lt g9)) ?_
          refine ws_aload (pc := 57) C dX9_copy_57 0 rfl ?_
          refine ws_geti (pc := 59) C dX9_copy_59 fd_X9_350 (sf_sheet_1 (inb_lt g10)) ?_
          refine ws_icmp_eq (pc := 62) (tgt := 68) C dX9_copy_62 (by decide) (fun c19 => ?_) (fun c19 => ?_)
          · have h := ite_t h c19
            refine ws_aload (pc := 68) C dX9_copy_68 1 rfl ?_
            refine ws_iload_n (pc := 70) C dX9_copy_70 rfl 4 rfl ?_
            refine ws_iload (pc := 71) C dX9_copy_71 7 rfl ?_
            obtain ⟨r20, s21, q22, h⟩ := bd_ok h
            refine wc_iV (pc := 73)  C [.int a2, .int a5] [] (mX2_holdsRow (inb_lt g9) q22) dX9_copy_73 mw_X2_holdsRow mv_X2_holdsRow kl_X9_351 (so_sheet (inb_lt g9)) rfl rfl (Nat.le_of_ble_eq_true rfl) ⟨by decide, by decide⟩ ?_
            refine ws_if_eq (pc := 76) (tgt := 91) C dX9_copy_76 (by decide) (fun c23 => ?_) (fun c23 => ?_)
            · have h := ite_t h c23
              refine ws_bipush (pc := 91) C dX9_copy_91 cb_m12 ?_
              exact wr_i (pc := 93) C R dX9_copy_93 rfl h
            · have h := ite_f h c23
              refine ws_aload (pc := 79) C dX9_copy_79 0 rfl ?_
              refine ws_iload (pc := 81) C dX9_copy_81 6 rfl ?_
              refine ws_iload (pc := 83) C dX9_copy_83 7 rfl ?_
              obtain ⟨r24, s25, q26, h⟩ := bd_ok h
              refine wc_iV (pc := 85)  C [.int a4, .int a5] [] (mX2_holdsRow (inb_lt g10) q26) dX9_copy_85 mw_X2_holdsRow mv_X2_holdsRow kl_X9_351 (so_sheet (inb_lt g10)) rfl rfl (Nat.le_of_ble_eq_true rfl) ⟨by decide, by decide⟩ ?_
              refine ws_if_ne (pc := 88) (tgt := 94) C dX9_copy_88 (by decide) (fun c27 => ?_) (fun c27 => ?_)
              · have h := ite_f h c27
                refine ws_aload (pc := 94) C dX9_copy_94 1 rfl ?_
                refine ws_getr (pc := 96) C dX9_copy_96 fd_X9_287 (sf_sheet_0 (inb_lt g9)) ?_
                refine ws_iload_n (pc := 99) C dX9_copy_99 rfl 4 rfl ?_
                refine ws_aload (pc := 100) C dX9_copy_100 0 rfl ?_
                refine ws_getr (pc := 102) C dX9_copy_102 fd_X9_287 (sf_sheet_0 (inb_lt g10)) ?_
                refine ws_iload (pc := 105) C dX9_copy_105 6 rfl ?_
                refine ws_iload (pc := 107) C dX9_copy_107 7 rfl ?_
                obtain ⟨g28, h⟩ := gd_ok h
                obtain ⟨s29, e30, h⟩ := lz_ok h
                refine ws_copyK (pc := 109) C dX9_copy_109 ac_X9_355 (sr_row (inb_lt g9)) (sr_row (inb_lt g10)) g28 (Nat.le_of_ble_eq_true rfl) (by decide) e30 ?_
                refine ws_iload (pc := 112) C dX9_copy_112 7 rfl ?_
                exact wr_i (pc := 114) C R dX9_copy_114 rfl h
              · have h := ite_t h c27
                refine ws_bipush (pc := 91) C dX9_copy_91 cb_m12 ?_
                exact wr_i (pc := 93) C R dX9_copy_93 rfl h
          · have h := ite_f h c19
            refine ws_bipush (pc := 65) C dX9_copy_65 cb_m13 ?_
            exact wr_i (pc := 67) C R dX9_copy_67 rfl h
        · have h := ite_f h c18
          refine ws_bipush (pc := 49) C dX9_copy_49 cb_m11 ?_
          exact wr_i (pc := 51) C R dX9_copy_51 rfl h
    · have h := ite_t h c8
      refine ws_bipush (pc := 14) C dX9_copy_14 cb_m2 ?_
      exact wr_i (pc := 16) C R dX9_copy_16 rfl h
set_option maxRecDepth 20000 in
set_option maxHeartbeats 4000000 in
theorem pX9_tripsBy_L67 {Y : xY} {Z : xZ} {B : xB} {z : Int32 × xM} (C : xC (GX Y) Z B "BetweenStops" cX9_tripsBy 9 4) (R : xRi (GX Y) B .int z) {k93 : xM → Option (Int32 × xM)} {k150 : Int32 → xM → Option (Int32 × xM)} {a3 : Int32} {a4 : Int32} {a5 : Nat}
    (hk93 : ∀  (s : xM), k93 s = some z → xWS (GX Y) B 9 s [] 93 [])
    (hk150 : ∀ (a6 : Int32) (s : xM), k150 a6 s = some z → xWS (GX Y) B 9 s [(6, .int a6)] 150 []) (ha5 : a5 < 4) : ∀ (n : Nat) (a6 : Int32) (a7 : Int32) (s : xM), fX9_tripsBy_L67 k93 k150 a3 a4 a5 n a6 a7 s = some z → xWS (GX Y) B 9 s [(0, .ref (Y.1 0)), (3, .int a3), (4, .int a4), (5, .ref (Y.1 (121 + 2 * a5))), (6, .int a6), (7, .int a7)] 67 [] := by
  intro n
  induction n with
  | zero =>
    intro a6 a7 s h
    rw [fX9_tripsBy_L67] at h
    cases h
  | succ n ih =>
    intro a6 a7 s h
    rw [fX9_tripsBy_L67] at h
    refine ws_iload (pc := 67) C dX9_tripsBy_67 5 rfl ?_
    refine ws_iload (pc := 69) C dX9_tripsBy_69 2 rfl ?_
    refine ws_icmp_ge (pc := 71) (tgt := 150) C dX9_tripsBy_71 (by decide) (fun c1 => ?_) (fun c1 => ?_)
    · have h := ite_t h c1
      refine ws_less [4] rfl ?_
      exact hk150 _ _ h
    · have h := ite_f h c1
      refine ws_iload_n (pc := 74) C dX9_tripsBy_74 rfl 1 rfl ?_
      refine ws_iload (pc := 75) C dX9_tripsBy_75 5 rfl ?_
      refine ws_iconst (pc := 77) C dX9_tripsBy_77 ci_4 ?_
      refine ws_imul (pc := 78) C dX9_tripsBy_78 ?_
      refine ws_iadd (pc := 79) C dX9_tripsBy_79 ?_
      obtain ⟨v2, e3, h⟩ := lz_ok h
      refine ws_topi C e3 ?_
      refine ws_istore (pc := 80) C dX9_tripsBy_80 (by decide) rfl ?_
      refine ws_aload (pc := 82) C dX9_tripsBy_82 4 rfl ?_
      refine ws_iload (pc := 84) C dX9_tripsBy_84 0 rfl ?_
      refine ws_iconst (pc := 86) C dX9_tripsBy_86 ci_4 ?_
      obtain ⟨r4, s5, q6, h⟩ := bd_ok h
      refine wc_iV (pc := 87)  C [.int v2, .int (4 : Int32)] [] (mX2_holdsRow ha5 q6) dX9_tripsBy_87 mw_X2_holdsRow mv_X2_holdsRow kl_X9_351 (so_sheet ha5) rfl rfl (Nat.le_of_ble_eq_true rfl) ⟨by decide, by decide⟩ ?_
      refine ws_if_ne (pc := 90) (tgt := 96) C dX9_tripsBy_90 (by decide) (fun c7 => ?_) (fun c7 => ?_)
      · have h := ite_f h c7
        refine ws_aload_n (pc := 96) C dX9_tripsBy_96 rfl 1 rfl ?_
        refine ws_aload (pc := 97) C dX9_tripsBy_97 4 rfl ?_
        refine ws_getr (pc := 99) C dX9_tripsBy_99 fd_X9_287 (sf_sheet_0 ha5) ?_
        refine ws_iload (pc := 102) C dX9_tripsBy_102 0 rfl ?_
        obtain ⟨g8, h⟩ := gd_ok h
        refine ws_ialdK (pc := 104) C dX9_tripsBy_104 (sr_row ha5) g8 rfl ?_
        refine ws_aload (pc := 105) C dX9_tripsBy_105 4 rfl ?_
        refine ws_getr (pc := 107) C dX9_tripsBy_107 fd_X9_287 (sf_sheet_0 ha5) ?_
        refine ws_iload (pc := 110) C dX9_tripsBy_110 0 rfl ?_
        refine ws_iconst (pc := 112) C dX9_tripsBy_112 ci_1 ?_
        refine ws_iadd (pc := 113) C dX9_tripsBy_113 ?_
        obtain ⟨g9, h⟩ := gd_ok h
        refine ws_ialdK (pc := 114) C dX9_tripsBy_114 (sr_row ha5) g9 rfl ?_
        refine ws_aload (pc := 115) C dX9_tripsBy_115 4 rfl ?_
        refine ws_getr (pc := 117) C dX9_tripsBy_117 fd_X9_287 (sf_sheet_0 ha5) ?_
        refine ws_iload (pc := 120) C dX9_tripsBy_120 0 rfl ?_
        refine ws_iconst (pc := 122) C dX9_tripsBy_122 ci_2 ?_
        refine ws_iadd (pc := 123) C dX9_tripsBy_123 ?_
        obtain ⟨g10, h⟩ := gd_ok h
        refine ws_ialdK (pc := 124) C dX9_tripsBy_124 (sr_row ha5) g10 rfl ?_
        refine ws_aload (pc := 125) C dX9_tripsBy_125 4 rfl ?_
        refine ws_getr (pc := 127) C dX9_tripsBy_127 fd_X9_287 (sf_sheet_0 ha5) ?_
        refine ws_iload (pc := 130) C dX9_tripsBy_130 0 rfl ?_
        refine ws_iconst (pc := 132) C dX9_tripsBy_132 ci_3 ?_
        refine ws_iadd (pc := 133) C dX9_tripsBy_133 ?_
        obtain ⟨g11, h⟩ := gd_ok h
        refine ws_ialdK (pc := 134) C dX9_tripsBy_134 (sr_row ha5) g11 rfl ?_
        obtain ⟨r12, s13, q14, h⟩ := bd_ok h
        refine wc_iV (pc := 135)  C [.int (gi s5 (122 + 2 * a5) v2.toNatClampNeg), .int (gi s5 (122 + 2 * a5) (v2 + (1 : Int32)).toNatClampNeg), .int (gi s5 (122 + 2 * a5) (v2 + (2 : Int32)).toNatClampNeg), .int (gi s5 (122 + 2 * a5) (v2 + (3 : Int32)).toNatClampNeg)] [] (mX9_trip q14) dX9_tripsBy_135 mw_X9_trip mv_X9_trip kl_X9_361 so_BS rfl rfl (Nat.le_of_ble_eq_true rfl) ⟨by decide, by decide⟩ ?_
        refine ws_if_lt (pc := 138) (tgt := 144) C dX9_tripsBy_138 (by decide) (fun c15 => ?_) (fun c15 => ?_)
        · have h := ite_t h c15
          refine ws_iinc (j := 6) (pc := 144) C dX9_tripsBy_144 rfl (cn_1 _) (by decide) rfl ?_
          refine ws_goto (pc := 147) (tgt := 67) C dX9_tripsBy_147 (by decide) ?_
          refine ws_less [2, 3, 4, 5, 6, 0] rfl ?_
          exact ih _ _ _ h
        · have h := ite_f h c15
          refine ws_iinc (j := 5) (pc := 141) C dX9_tripsBy_141 rfl (cn_1 _) (by decide) rfl ?_
          refine ws_iinc (j := 6) (pc := 144) C dX9_tripsBy_144 rfl (cn_1 _) (by decide) rfl ?_
          refine ws_goto (pc := 147) (tgt := 67) C dX9_tripsBy_147 (by decide) ?_
          refine ws_less [3, 4, 5, 6, 1, 0] rfl ?_
          exact ih _ _ _ h
      · have h := ite_t h c7
        refine ws_less [] rfl ?_
        exact hk93 _ h
set_option maxRecDepth 20000 in
set_option maxHeartbeats 4000000 in
theorem mX9_tripsBy {Y : xY} {Z : xZ} {a1 : Int32} {a2 : Int32} {a3 : Int32} {a4 : Int32} {s : xM} {z : Int32 × xM} (h : fX9_tripsBy a1 a2 a3 a4 s = some z) : xMi (GX Y) Z yX9_tripsBy cX9_tripsBy 9 4 .int [.ref (Y.1 0), .int a1, .int a2, .int a3, .int a4] s z := by
  refine xMi_of (by decide) (Nat.le_of_ble_eq_true rfl) (fun B C R => ?_)
  have C : xC (GX Y) Z B "BetweenStops" cX9_tripsBy 9 4 := C
  show xWS (GX Y) B 9 s [(0, .ref (Y.1 0)), (1, .int a1), (2, .int a2), (3, .int a3), (4, .int a4)] 0 []
  unfold fX9_tripsBy at h
  refine ws_iload_n (pc := 0) C dX9_tripsBy_0 rfl 1 rfl ?_
  obtain ⟨r1, s2, q3, h⟩ := bd_ok h
  refine wc_iS (pc := 1)  C [.int a1] [] (mX9_isSheet q3) dX9_tripsBy_1 mw_X9_isSheet ks_X9_isSheet kl_X9_279 rfl rfl (Nat.le_of_ble_eq_true rfl) ⟨by decide, by decide⟩ ?_
  refine ws_if_eq (pc := 4) (tgt := 27) C dX9_tripsBy_4 (by decide) (fun c4 => ?_) (fun c4 => ?_)
  · have h := ite_t h c4
    refine ws_bipush (pc := 27) C dX9_tripsBy_27 cb_m2 ?_
    exact wr_i (pc := 29) C R dX9_tripsBy_29 rfl h
  · have h := ite_f h c4
    refine ws_iload_n (pc := 7) C dX9_tripsBy_7 rfl 2 rfl ?_
    refine ws_iconst (pc := 8) C dX9_tripsBy_8 ci_0 ?_
    refine ws_iconst (pc := 9) C dX9_tripsBy_9 ci_2 ?_
    obtain ⟨r5, s6, q7, h⟩ := bd_ok h
    refine wc_iS (pc := 10)  C [.int a2, .int (0 : Int32), .int (2 : Int32)] [] (mX9_isWithin q7) dX9_tripsBy_10 mw_X9_isWithin ks_X9_isWithin kl_X9_111 rfl rfl (Nat.le_of_ble_eq_true rfl) ⟨by decide, by decide⟩ ?_
    refine ws_if_eq (pc := 13) (tgt := 27) C dX9_tripsBy_13 (by decide) (fun c8 => ?_) (fun c8 => ?_)
    · have h := ite_t h c8
      refine ws_bipush (pc := 27) C dX9_tripsBy_27 cb_m2 ?_
      exact wr_i (pc := 29) C R dX9_tripsBy_29 rfl h
    · have h := ite_f h c8
      refine ws_iload (pc := 16) C dX9_tripsBy_16 4 rfl ?_
      refine ws_iconst (pc := 18) C dX9_tripsBy_18 ci_0 ?_
      refine ws_bipush (pc := 19) C dX9_tripsBy_19 cb_8 ?_
      obtain ⟨r9, s10, q11, h⟩ := bd_ok h
      refine wc_iS (pc := 21)  C [.int a4, .int (0 : Int32), .int (8 : Int32)] [] (mX9_isWithin q11) dX9_tripsBy_21 mw_X9_isWithin ks_X9_isWithin kl_X9_111 rfl rfl (Nat.le_of_ble_eq_true rfl) ⟨by decide, by decide⟩ ?_
      refine ws_if_ne (pc := 24) (tgt := 30) C dX9_tripsBy_24 (by decide) (fun c12 => ?_) (fun c12 => ?_)
      · have h := ite_f h c12
        refine ws_aload_n (pc := 30) C dX9_tripsBy_30 rfl 0 rfl ?_
        refine ws_getr (pc := 31) C dX9_tripsBy_31 fd_X9_63 sf_BS_8 ?_
        refine ws_iload_n (pc := 34) C dX9_tripsBy_34 rfl 1 rfl ?_
        obtain ⟨g13, h⟩ := gd_ok h
        refine ws_aaldK (q := (121 + 2 * a1.toNatClampNeg)) (pc := 35) C dX9_tripsBy_35 (by decide) sq_sheets g13 rfl rfl ?_
        refine ws_astore (pc := 36) C dX9_tripsBy_36 (by decide) rfl ?_
        refine ws_aload (pc := 38) C dX9_tripsBy_38 0 rfl ?_
        obtain ⟨r14, s15, q16, h⟩ := bd_ok h
        refine wc_iV (pc := 40)  C [] [] (mX2_isMissing (inb_lt g13) q16) dX9_tripsBy_40 mw_X2_isMissing mv_X2_isMissing kl_X9_282 (so_sheet (inb_lt g13)) rfl rfl (Nat.le_of_ble_eq_true rfl) ⟨by decide, by decide⟩ ?_
        refine ws_if_eq (pc := 43) (tgt := 49) C dX9_tripsBy_43 (by decide) (fun c17 => ?_) (fun c17 => ?_)
        · have h := ite_t h c17
          refine ws_aload (pc := 49) C dX9_tripsBy_49 0 rfl ?_
          refine ws_geti (pc := 51) C dX9_tripsBy_51 fd_X9_350 (sf_sheet_1 (inb_lt g13)) ?_
          refine ws_iload_n (pc := 54) C dX9_tripsBy_54 rfl 3 rfl ?_
          refine ws_icmp_eq (pc := 55) (tgt := 61) C dX9_tripsBy_55 (by decide) (fun c18 => ?_) (fun c18 => ?_)
          · have h := ite_t h c18
            refine ws_iconst (pc := 61) C dX9_tripsBy_61 ci_0 ?_
            refine ws_istore (pc := 62) C dX9_tripsBy_62 (by decide) rfl ?_
            refine ws_iconst (pc := 64) C dX9_tripsBy_64 ci_0 ?_
            refine ws_istore (pc := 65) C dX9_tripsBy_65 (by decide) rfl ?_
            refine ws_less [3, 6, 7, 2, 1, 0] rfl ?_
            refine pX9_tripsBy_L67 C R (fun s19 h => ?_) (fun x20 s21 h => ?_) (inb_lt g13) fu _ _ _ h
            · refine ws_bipush (pc := 93) C dX9_tripsBy_93 cb_m12 ?_
              exact wr_i (pc := 95) C R dX9_tripsBy_95 rfl h
            · refine ws_iload (pc := 150) C dX9_tripsBy_150 0 rfl ?_
              exact wr_i (pc := 152) C R dX9_tripsBy_152 rfl h
          · have h := ite_f h c18
            refine ws_bipush (pc := 58) C dX9_tripsBy_58 cb_m13 ?_
            exact wr_i (pc := 60) C R dX9_tripsBy_60 rfl h
        · have h := ite_f h c17
          refine ws_bipush (pc := 46) C dX9_tripsBy_46 cb_m11 ?_
          exact wr_i (pc := 48) C R dX9_tripsBy_48 rfl h
      · have h := ite_t h c12
        refine ws_bipush (pc := 27) C dX9_tripsBy_27 cb_m2 ?_
        exact wr_i (pc := 29) C R dX9_tripsBy_29 rfl h
set_option maxRecDepth 20000 in
set_option maxHeartbeats 4000000 in
theorem pX9_taken_J16 {Y : xY} {Z : xZ} {B : xB} {z : Int32 × xM} (C : xC (GX Y) Z B "BetweenStops" cX9_taken 4 3) (R : xRi (GX Y) B .int z) {a1 : Int32} {a2 : Int32} {s : xM} (h : fX9_taken_J16 a1 a2 s = some z) : xWS (GX Y) B 4 s [(0, .ref (Y.1 0)), (1, .int a1), (2, .int a2)] 16 [] := by
  unfold fX9_taken_J16 at h
  refine ws_iload_n (pc := 16) C dX9_taken_16 rfl 1 rfl ?_
  refine ws_iconst (pc := 17) C dX9_taken_17 ci_0 ?_
  refine ws_bipush (pc := 18) C dX9_taken_18 cb_15 ?_
  obtain ⟨r1, s2, q3, h⟩ := bd_ok h
  refine wc_iS (pc := 20)  C [.int a1, .int (0 : Int32), .int (15 : Int32)] [] (mX9_isWithin q3) dX9_taken_20 mw_X9_isWithin ks_X9_isWithin kl_X9_111 rfl rfl (Nat.le_of_ble_eq_true rfl) ⟨by decide, by decide⟩ ?_
  refine ws_if_ne (pc := 23) (tgt := 29) C dX9_taken_23 (by decide) (fun c4 => ?_) (fun c4 => ?_)
  · have h := ite_f h c4
    refine ws_iload_n (pc := 29) C dX9_taken_29 rfl 1 rfl ?_
    refine ws_bipush (pc := 30) C dX9_taken_30 cb_8 ?_
    refine ws_icmp_ge (pc := 32) (tgt := 70) C dX9_taken_32 (by decide) (fun c5 => ?_) (fun c5 => ?_)
    · have h := ite_t h c5
      refine ws_iload_n (pc := 70) C dX9_taken_70 rfl 1 rfl ?_
      refine ws_bipush (pc := 71) C dX9_taken_71 cb_8 ?_
      refine ws_isub (pc := 73) C dX9_taken_73 ?_
      obtain ⟨v6, e7, h⟩ := lz_ok h
      refine ws_topi C e7 ?_
      refine ws_istore_n (pc := 74) C dX9_taken_74 rfl (by decide) rfl ?_
      refine ws_aload_n (pc := 75) C dX9_taken_75 rfl 1 rfl ?_
      refine ws_iload_n (pc := 76) C dX9_taken_76 rfl 0 rfl ?_
      obtain ⟨r8, s9, q10, h⟩ := bd_ok h
      refine wc_iV (pc := 77)  C [.int v6] [] (mX9_isStop q10) dX9_taken_77 mw_X9_isStop mv_X9_isStop kl_X9_164 so_BS rfl rfl (Nat.le_of_ble_eq_true rfl) ⟨by decide, by decide⟩ ?_
      refine ws_if_ne (pc := 80) (tgt := 86) C dX9_taken_80 (by decide) (fun c11 => ?_) (fun c11 => ?_)
      · have h := ite_f h c11
        refine ws_iload_n (pc := 86) C dX9_taken_86 rfl 3 rfl ?_
        refine ws_bipush (pc := 87) C dX9_taken_87 cb_6 ?_
        refine ws_icmp_eq (pc := 89) (tgt := 112) C dX9_taken_89 (by decide) (fun c12 => ?_) (fun c12 => ?_)
        · have h := ite_t h c12
          refine ws_bipush (pc := 112) C dX9_taken_112 cb_m13 ?_
          exact wr_i (pc := 114) C R dX9_taken_114 rfl h
        · have h := ite_f h c12
          refine ws_aload_n (pc := 92) C dX9_taken_92 rfl 1 rfl ?_
          refine ws_getr (pc := 93) C dX9_taken_93 fd_X9_10 sf_BS_0 ?_
          refine ws_getr (pc := 96) C dX9_taken_96 fd_X9_154 sf_town_6 ?_
          refine ws_iload_n (pc := 99) C dX9_taken_99 rfl 0 rfl ?_
          obtain ⟨g13, h⟩ := gd_ok h
          refine ws_aaldK (q := (11 + v6.toNatClampNeg)) (pc := 100) C dX9_taken_100 (by decide) sq_stops g13 rfl rfl ?_
          refine ws_iload_n (pc := 101) C dX9_taken_101 rfl 3 rfl ?_
          obtain ⟨r14, s15, q16, h⟩ := bd_ok h
          refine wc_iV (pc := 102)  C [.int a2] [] (mX3_isOf (inb_lt g13) q16) dX9_taken_102 mw_X3_isOf mv_X3_isOf kl_X9_194 (so_stop (inb_lt g13)) rfl rfl (Nat.le_of_ble_eq_true rfl) ⟨by decide, by decide⟩ ?_
          refine ws_if_eq (pc := 105) (tgt := 112) C dX9_taken_105 (by decide) (fun c17 => ?_) (fun c17 => ?_)
          · have h := ite_t h c17
            refine ws_bipush (pc := 112) C dX9_taken_112 cb_m13 ?_
            exact wr_i (pc := 114) C R dX9_taken_114 rfl h
          · have h := ite_f h c17
            refine ws_iload_n (pc := 108) C dX9_taken_108 rfl 0 rfl ?_
            refine ws_goto (pc := 109) (tgt := 114) C dX9_taken_109 (by decide) ?_
            exact wr_i (pc := 114) C R dX9_taken_114 rfl h
      · have h := ite_t h c11
        refine ws_bipush (pc := 83) C dX9_taken_83 cb_m11 ?_
        exact wr_i (pc := 85) C R dX9_taken_85 rfl h
    · have h := ite_f h c5
      refine ws_aload_n (pc := 35) C dX9_taken_35 rfl 0 rfl ?_
      refine ws_iload_n (pc := 36) C dX9_taken_36 rfl 1 rfl ?_
      obtain ⟨r18, s19, q20, h⟩ := bd_ok h
      refine wc_iV (pc := 37)  C [.int a1] [] (mX9_isTrip q20) dX9_taken_37 mw_X9_isTrip mv_X9_isTrip kl_X9_215 so_BS rfl rfl (Nat.le_of_ble_eq_true rfl) ⟨by decide, by decide⟩ ?_
      refine ws_if_ne (pc := 40) (tgt := 46) C dX9_taken_40 (by decide) (fun c21 => ?_) (fun c21 => ?_)
      · have h := ite_f h c21
        refine ws_iload_n (pc := 46) C dX9_taken_46 rfl 2 rfl ?_
        refine ws_bipush (pc := 47) C dX9_taken_47 cb_6 ?_
        refine ws_icmp_ne (pc := 49) (tgt := 67) C dX9_taken_49 (by decide) (fun c22 => ?_) (fun c22 => ?_)
        · have h := ite_f h c22
          refine ws_bipush (pc := 67) C dX9_taken_67 cb_m13 ?_
          exact wr_i (pc := 69) C R dX9_taken_69 rfl h
        · have h := ite_t h c22
          refine ws_aload_n (pc := 52) C dX9_taken_52 rfl 0 rfl ?_
          refine ws_getr (pc := 53) C dX9_taken_53 fd_X9_10 sf_BS_0 ?_
          refine ws_getr (pc := 56) C dX9_taken_56 fd_X9_200 sf_town_8 ?_
          refine ws_iload_n (pc := 59) C dX9_taken_59 rfl 1 rfl ?_
          obtain ⟨g23, h⟩ := gd_ok h
          refine ws_aaldK (q := (19 + a1.toNatClampNeg)) (pc := 60) C dX9_taken_60 (by decide) sq_trips g23 rfl rfl ?_
          refine ws_geti (pc := 61) C dX9_taken_61 fd_X9_365 (sf_trip_2 (inb_lt g23)) ?_
          refine ws_goto (pc := 64) (tgt := 69) C dX9_taken_64 (by decide) ?_
          exact wr_i (pc := 69) C R dX9_taken_69 rfl h
      · have h := ite_t h c21
        refine ws_bipush (pc := 43) C dX9_taken_43 cb_m11 ?_
        exact wr_i (pc := 45) C R dX9_taken_45 rfl h
  · have h := ite_t h c4
    refine ws_bipush (pc := 26) C dX9_taken_26 cb_m12 ?_
    exact wr_i (pc := 28) C R dX9_taken_28 rfl h
set_option maxRecDepth 20000 in
set_option maxHeartbeats 4000000 in
theorem mX9_taken {Y : xY} {Z : xZ} {a1 : Int32} {a2 : Int32} {s : xM} {z : Int32 × xM} (h : fX9_taken a1 a2 s = some z) : xMi (GX Y) Z yX9_taken cX9_taken 4 3 .int [.ref (Y.1 0), .int a1, .int a2] s z := by
  refine xMi_of (by decide) (Nat.le_of_ble_eq_true rfl) (fun B C R => ?_)
  have C : xC (GX Y) Z B "BetweenStops" cX9_taken 4 3 := C
  show xWS (GX Y) B 4 s [(0, .ref (Y.1 0)), (1, .int a1), (2, .int a2)] 0 []
  unfold fX9_taken at h
  refine ws_iload_n (pc := 0) C dX9_taken_0 rfl 2 rfl ?_
  obtain ⟨r1, s2, q3, h⟩ := bd_ok h
  refine wc_iS (pc := 1)  C [.int a2] [] (mX9_isKind q3) dX9_taken_1 mw_X9_isKind ks_X9_isKind kl_X9_148 rfl rfl (Nat.le_of_ble_eq_true rfl) ⟨by decide, by decide⟩ ?_
  refine ws_if_ne (pc := 4) (tgt := 16) C dX9_taken_4 (by decide) (fun c4 => ?_) (fun c4 => ?_)
  · have h := ite_f h c4
    refine ws_less [0, 1, 2] rfl ?_
    exact pX9_taken_J16 C R h
  · have h := ite_t h c4
    refine ws_iload_n (pc := 7) C dX9_taken_7 rfl 2 rfl ?_
    refine ws_bipush (pc := 8) C dX9_taken_8 cb_6 ?_
    refine ws_icmp_eq (pc := 10) (tgt := 16) C dX9_taken_10 (by decide) (fun c5 => ?_) (fun c5 => ?_)
    · have h := ite_t h c5
      refine ws_less [0, 1, 2] rfl ?_
      exact pX9_taken_J16 C R h
    · have h := ite_f h c5
      refine ws_bipush (pc := 13) C dX9_taken_13 cb_m2 ?_
      exact wr_i (pc := 15) C R dX9_taken_15 rfl h
