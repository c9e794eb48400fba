def fX9_init_L197 (k225 : xM → Option (Int32 × xM)) : Nat → Int32 → xM → Option (Int32 × xM)
  | 0, _, _ => none
  | n + 1, a1, s =>
    bd (fJ0_length_8abf5 0 s) fun r1 s2 =>
    if r1 ≤ a1 then
      k225 s2
    else
      bd (fJ0_charAt_5068e 0 a1 s2) fun r5 s6 =>
      bd (fX4_append r5 s6) fun _ s9 =>
      fX9_init_L197 k225 n (a1 + 1) s9
def fX9_init_T195 (s : xM) : Option (Int32 × xM) :=
  fX9_init_L197 (fun s1 =>
      bd (fX1_faultOf 0 s1) fun r2 s3 =>
      lz (si s3 77 1 (0 : Int32)) fun s5 =>
      some (0, s5)) fu (0 : Int32) s
def fX10_init_T508 (s : xM) : Option (Int32 × xM) :=
  bd (fX10_first (0 : Int32) (102000 : Int32) (0 : Int32) (14 : Int32) (4 : Int32) s) fun _ s2 =>
  bd (fX10_first (4 : Int32) (100002 : Int32) (18 : Int32) (4 : Int32) (0 : Int32) s2) fun _ s5 =>
  lz (si s5 16 1 (3 : Int32)) fun s7 =>
  lz (si s7 16 2 (6 : Int32)) fun s9 =>
  lz (si s9 16 3 (7 : Int32)) fun s11 =>
  some (0, s11)
set_option maxRecDepth 20000 in
set_option maxHeartbeats 4000000 in
theorem pX9_init_L197 {Y : xY} {Z : xZ} {B : xB} {z : Int32 × xM} (C : xC (GX Y) Z B "BetweenStops" cX9_init 2 206) {k225 : xM → Option (Int32 × xM)}
    (hk225 : ∀  (s : xM), k225 s = some z → xWS (GX Y) B 2 s [(0, .ref (Y.1 0))] 225 []) : ∀ (n : Nat) (a1 : Int32) (s : xM), fX9_init_L197 k225 n a1 s = some z → xWS (GX Y) B 2 s [(0, .ref (Y.1 0)), (1, .int a1)] 197 [] := by
  intro n
  induction n with
  | zero =>
    intro a1 s h
    rw [fX9_init_L197] at h
    cases h
  | succ n ih =>
    intro a1 s h
    rw [fX9_init_L197] at h
    refine ws_iload_n (pc := 197) C dX9_init_197 rfl 1 rfl ?_
    refine ws_ldcS (i := 0) (pc := 198) C dX9_init_198 rfl ?_
    obtain ⟨r1, s2, q3, h⟩ := bd_ok h
    refine wcs_i (pc := 200)  C [] [.int a1] (mJ0_length_8abf5 (by decide) q3) dX9_init_200 mw_J0_length_8abf5 mv_J0_length_8abf5 kl_X9_90 rfl (by decide) rfl rfl (Nat.le_of_ble_eq_true rfl) ⟨by decide, by decide⟩ ?_
    refine ws_icmp_ge (pc := 203) (tgt := 225) C dX9_init_203 (by decide) (fun c4 => ?_) (fun c4 => ?_)
    · have h := ite_t h c4
      refine ws_less [0] rfl ?_
      exact hk225 _ h
    · have h := ite_f h c4
      refine ws_aload_n (pc := 206) C dX9_init_206 rfl 0 rfl ?_
      refine ws_getr (pc := 207) C dX9_init_207 fd_X9_28 sf_BS_2 ?_
      refine ws_ldcS (i := 0) (pc := 210) C dX9_init_210 rfl ?_
      refine ws_iload_n (pc := 212) C dX9_init_212 rfl 1 rfl ?_
      obtain ⟨r5, s6, q7, h⟩ := bd_ok h
      refine wcs_i (pc := 213)  C [.int a1] [.ref (Y.1 77)] (mJ0_charAt_5068e (by decide) q7) dX9_init_213 mw_J0_charAt_5068e mv_J0_charAt_5068e kl_X9_96 rfl (by decide) rfl rfl (Nat.le_of_ble_eq_true rfl) ⟨by decide, by decide⟩ ?_
      obtain ⟨r8, s9, q10, h⟩ := bd_ok h
      refine wc_vV (pc := 216)  C [.int r5] [] (mX4_append q10) dX9_init_216 mw_X4_append mv_X4_append kl_X9_100 so_tape rfl rfl (Nat.le_of_ble_eq_true rfl) ⟨by decide, by decide⟩ ?_
      refine ws_iinc (j := 1) (pc := 219) C dX9_init_219 rfl (cn_1 _) (by decide) rfl ?_
      refine ws_goto (pc := 222) (tgt := 197) C dX9_init_222 (by decide) ?_
      refine ws_less [1, 0] rfl ?_
      exact ih _ _ h
set_option maxRecDepth 20000 in
set_option maxHeartbeats 4000000 in
theorem tX9_init {Y Y0 : xY} {G0 : xG} {n0 mc ms : Nat} {Z : xZ} {B : xB} {s : xM} {z : Int32 × xM} (C : xC (GX Y) Z (xBk B mc ms) "BetweenStops" cX9_init 2 206) (R : xCc G0 Y0 n0 lX z.2 mc ms B) (hY : Y.2 = Y0.2) (hag : ∀ c, c < n0 → Y.1 c = Y0.1 c) (h : fX9_init_T195 s = some z) : xWS (GX Y) (xBk B mc ms) 2 s [(0, .ref (Y.1 0))] 195 [] := by
  unfold fX9_init_T195 at h
  refine ws_iconst (pc := 195) C dX9_init_195 ci_0 ?_
  refine ws_istore_n (pc := 196) C dX9_init_196 rfl (by decide) rfl ?_
  refine ws_less [1, 0] rfl ?_
  refine pX9_init_L197 C (fun s1 h => ?_) fu _ _ h
  · refine ws_aload_n (pc := 225) C dX9_init_225 rfl 0 rfl ?_
    refine ws_getr (pc := 226) C dX9_init_226 fd_X9_37 sf_BS_3 ?_
    refine ws_aload_n (pc := 229) C dX9_init_229 rfl 0 rfl ?_
    refine ws_getr (pc := 230) C dX9_init_230 fd_X9_43 sf_BS_4 ?_
    refine ws_iconst (pc := 233) C dX9_init_233 ci_0 ?_
    refine ws_aaldK (q := 97) (pc := 234) C dX9_init_234 (by decide) sq_texts (by decide) ck_0 rfl ?_
    obtain ⟨r2, s3, q4, h⟩ := bd_ok h
    refine wc_iV (pc := 235)  C [.ref (Y.1 97)] [] (mX1_faultOf (by decide) q4) dX9_init_235 mw_X1_faultOf mv_X1_faultOf kl_X9_104 so_reader rfl rfl (Nat.le_of_ble_eq_true rfl) ⟨by decide, by decide⟩ ?_
    refine ws_pop (pc := 238) C dX9_init_238 rfl ?_
    refine ws_aload_n (pc := 239) C dX9_init_239 rfl 0 rfl ?_
    refine ws_getr (pc := 240) C dX9_init_240 fd_X9_28 sf_BS_2 ?_
    refine ws_iconst (pc := 243) C dX9_init_243 ci_0 ?_
    obtain ⟨s5, e6, h⟩ := lz_ok h
    refine ws_putI (pc := 244) C dX9_init_244 fp_X9_108 sf_tape_1 e6 ?_
    cases h
    exact wg_ret (l2 := lX) (pc := 247) C R hY hag dX9_init_247
set_option maxRecDepth 20000 in
set_option maxHeartbeats 4000000 in
theorem tX10_init {Y Y0 : xY} {G0 : xG} {n0 mc ms : Nat} {Z : xZ} {B : xB} {s : xM} {z : Int32 × xM} (C : xC (GM Y) Z (xBk B mc ms) "BetweenStopsModel" cX10_init 1 2) (R : xCc G0 Y0 n0 lM z.2 mc ms B) (hY : Y.2 = Y0.2) (hag : ∀ c, c < n0 → Y.1 c = Y0.1 c) (h : fX10_init_T508 s = some z) : xWS (GM Y) (xBk B mc ms) 1 s [(0, .ref (Y.1 0))] 508 [] := by
  unfold fX10_init_T508 at h
  refine ws_aload_n (pc := 508) C dX10_init_508 rfl 0 rfl ?_
  refine ws_iconst (pc := 509) C dX10_init_509 ci_0 ?_
  refine ws_ldc (pc := 510) C dX10_init_510 kk_X10_156 ?_
  refine ws_iconst (pc := 512) C dX10_init_512 ci_0 ?_
  refine ws_bipush (pc := 513) C dX10_init_513 cb_14 ?_
  refine ws_iconst (pc := 515) C dX10_init_515 ci_4 ?_
  obtain ⟨r1, s2, q3, h⟩ := bd_ok h
  refine wc_vV (pc := 516)  C [.int (0 : Int32), .int (102000 : Int32), .int (0 : Int32), .int (14 : Int32), .int (4 : Int32)] [] (mX10_first q3) dX10_init_516 mw_X10_first mv_X10_first kl_X10_157 so_M rfl rfl (Nat.le_of_ble_eq_true rfl) ⟨by decide, by decide⟩ ?_
  refine ws_aload_n (pc := 519) C dX10_init_519 rfl 0 rfl ?_
  refine ws_iconst (pc := 520) C dX10_init_520 ci_4 ?_
  refine ws_ldc (pc := 521) C dX10_init_521 kk_X10_161 ?_
  refine ws_bipush (pc := 523) C dX10_init_523 cb_18 ?_
  refine ws_iconst (pc := 525) C dX10_init_525 ci_4 ?_
  refine ws_iconst (pc := 526) C dX10_init_526 ci_0 ?_
  obtain ⟨r4, s5, q6, h⟩ := bd_ok h
  refine wc_vV (pc := 527)  C [.int (4 : Int32), .int (100002 : Int32), .int (18 : Int32), .int (4 : Int32), .int (0 : Int32)] [] (mX10_first q6) dX10_init_527 mw_X10_first mv_X10_first kl_X10_157 so_M rfl rfl (Nat.le_of_ble_eq_true rfl) ⟨by decide, by decide⟩ ?_
  refine ws_aload_n (pc := 530) C dX10_init_530 rfl 0 rfl ?_
  refine ws_getr (pc := 531) C dX10_init_531 fd_X10_62 sf_M_20 ?_
  refine ws_iconst (pc := 534) C dX10_init_534 ci_1 ?_
  refine ws_iconst (pc := 535) C dX10_init_535 ci_3 ?_
  obtain ⟨s7, e8, h⟩ := lz_ok h
  refine ws_iastK (pc := 536) C dX10_init_536 sr_m_starts (by decide) ck_1 e8 ?_
  refine ws_aload_n (pc := 537) C dX10_init_537 rfl 0 rfl ?_
  refine ws_getr (pc := 538) C dX10_init_538 fd_X10_62 sf_M_20 ?_
  refine ws_iconst (pc := 541) C dX10_init_541 ci_2 ?_
  refine ws_bipush (pc := 542) C dX10_init_542 cb_6 ?_
  obtain ⟨s9, e10, h⟩ := lz_ok h
  refine ws_iastK (pc := 544) C dX10_init_544 sr_m_starts (by decide) ck_2 e10 ?_
  refine ws_aload_n (pc := 545) C dX10_init_545 rfl 0 rfl ?_
  refine ws_getr (pc := 546) C dX10_init_546 fd_X10_62 sf_M_20 ?_
  refine ws_iconst (pc := 549) C dX10_init_549 ci_3 ?_
  refine ws_bipush (pc := 550) C dX10_init_550 cb_7 ?_
  obtain ⟨s11, e12, h⟩ := lz_ok h
  refine ws_iastK (pc := 552) C dX10_init_552 sr_m_starts (by decide) ck_3 e12 ?_
  cases h
  exact wg_ret (l2 := lM) (pc := 553) C R hY hag dX10_init_553
