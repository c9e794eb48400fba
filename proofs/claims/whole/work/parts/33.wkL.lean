set_option maxRecDepth 20000 in
set_option maxHeartbeats 4000000 in
theorem mJ0_isLatin1_aae02 {Y : xY} {Z : xZ} {a0 : Nat} (ha0 : a0 < 14) {s : xM} {z : Int32 × xM} (h : fJ0_isLatin1_aae02 a0 s = some z) : xMi (GX Y) Z yJ0_isLatin1_aae02 cJ0_isLatin1_aae02 1 1 .boolean [.ref (Z.1 a0)] s z := by
  refine xMi_of (by decide) (Nat.le_of_ble_eq_true rfl) (fun B C R => ?_)
  have C : xC (GX Y) Z B "java/lang/String" cJ0_isLatin1_aae02 1 1 := C
  show xWS (GX Y) B 1 s [(0, .ref (Z.1 a0))] 0 []
  unfold fJ0_isLatin1_aae02 at h
  refine ws_scs (pc := 0) C dJ0_isLatin1_aae02_0 kf_J0_38 ?_
  refine ws_if_eq (pc := 3) (tgt := 17) C dJ0_isLatin1_aae02_3 (by decide) (fun c1 => ?_) (fun c1 => ?_)
  · have h := ite_t h c1
    refine ws_iconst (pc := 17) C dJ0_isLatin1_aae02_17 ci_0 ?_
    exact wr_i (pc := 18) C R dJ0_isLatin1_aae02_18 (isZ_nar isZ0) h
  · have h := ite_f h c1
    refine ws_aload_n (pc := 6) C dJ0_isLatin1_aae02_6 rfl 0 rfl ?_
    refine ws_scod (pc := 7) C dJ0_isLatin1_aae02_7 ha0 kf_J0_15 ?_
    refine ws_if_ne (pc := 10) (tgt := 17) C dJ0_isLatin1_aae02_10 (by decide) (fun c2 => ?_) (fun c2 => ?_)
    · have h := ite_f h c2
      refine ws_iconst (pc := 17) C dJ0_isLatin1_aae02_17 ci_0 ?_
      exact wr_i (pc := 18) C R dJ0_isLatin1_aae02_18 (isZ_nar isZ0) h
    · have h := ite_t h c2
      refine ws_iconst (pc := 13) C dJ0_isLatin1_aae02_13 ci_1 ?_
      refine ws_goto (pc := 14) (tgt := 18) C dJ0_isLatin1_aae02_14 (by decide) ?_
      exact wr_i (pc := 18) C R dJ0_isLatin1_aae02_18 (isZ_nar isZ1) h
set_option maxRecDepth 20000 in
set_option maxHeartbeats 4000000 in
theorem mJ0_coder_7d493 {Y : xY} {Z : xZ} {a0 : Nat} (ha0 : a0 < 14) {s : xM} {z : Int32 × xM} (h : fJ0_coder_7d493 a0 s = some z) : xMi (GX Y) Z yJ0_coder_7d493 cJ0_coder_7d493 1 1 .byte [.ref (Z.1 a0)] s z := by
  refine xMi_of (by decide) (Nat.le_of_ble_eq_true rfl) (fun B C R => ?_)
  have C : xC (GX Y) Z B "java/lang/String" cJ0_coder_7d493 1 1 := C
  show xWS (GX Y) B 1 s [(0, .ref (Z.1 a0))] 0 []
  unfold fJ0_coder_7d493 at h
  refine ws_scs (pc := 0) C dJ0_coder_7d493_0 kf_J0_38 ?_
  refine ws_if_eq (pc := 3) (tgt := 13) C dJ0_coder_7d493_3 (by decide) (fun c1 => ?_) (fun c1 => ?_)
  · have h := ite_t h c1
    refine ws_iconst (pc := 13) C dJ0_coder_7d493_13 ci_1 ?_
    obtain ⟨g2, h⟩ := gd_ok h
    exact wr_i (pc := 14) C R dJ0_coder_7d493_14 (isN_ok g2) h
  · have h := ite_f h c1
    refine ws_aload_n (pc := 6) C dJ0_coder_7d493_6 rfl 0 rfl ?_
    refine ws_scod (pc := 7) C dJ0_coder_7d493_7 ha0 kf_J0_15 ?_
    refine ws_goto (pc := 10) (tgt := 14) C dJ0_coder_7d493_10 (by decide) ?_
    obtain ⟨g3, h⟩ := gd_ok h
    exact wr_i (pc := 14) C R dJ0_coder_7d493_14 (isN_ok g3) h
set_option maxRecDepth 20000 in
set_option maxHeartbeats 4000000 in
theorem mJ1_charAt_3b067 {Y : xY} {Z : xZ} {a0 : Nat} {a1 : Int32} (ha0 : a0 < 14) {s : xM} {z : Int32 × xM} (h : fJ1_charAt_3b067 a0 a1 s = some z) : xMi (GX Y) Z yJ1_charAt_3b067 cJ1_charAt_3b067 2 3 .char [.ref (Z.2.1 a0), .int a1] s z := by
  refine xMi_of (by decide) (Nat.le_of_ble_eq_true rfl) (fun B C R => ?_)
  have C : xC (GX Y) Z B "java/lang/StringLatin1" cJ1_charAt_3b067 2 3 := C
  show xWS (GX Y) B 2 s [(0, .ref (Z.2.1 a0)), (1, .int a1)] 0 []
  unfold fJ1_charAt_3b067 at h
  refine ws_iload_n (pc := 0) C dJ1_charAt_3b067_0 rfl 1 rfl ?_
  refine ws_aload_n (pc := 1) C dJ1_charAt_3b067_1 rfl 0 rfl ?_
  refine ws_slen (pc := 2) C dJ1_charAt_3b067_2 ha0 ?_
  obtain ⟨r1, s2, q3, h⟩ := bd_ok h
  refine wc_vS (pc := 3)  C [.int a1, .int (Int32.ofNat (xSl.getD a0 0))] [] (mJ0_checkIndex_df160 q3) dJ1_charAt_3b067_3 mw_J0_checkIndex_df160 ks_J0_checkIndex_df160 kl_J1_9 rfl rfl (Nat.le_of_ble_eq_true rfl) ⟨by decide, by decide⟩ ?_
  refine ws_aload_n (pc := 6) C dJ1_charAt_3b067_6 rfl 0 rfl ?_
  refine ws_iload_n (pc := 7) C dJ1_charAt_3b067_7 rfl 1 rfl ?_
  obtain ⟨g4, h⟩ := gd_ok h
  refine ws_sbald (pc := 8) C dJ1_charAt_3b067_8 ha0 g4 rfl ?_
  refine ws_sipush (pc := 9) C dJ1_charAt_3b067_9 cs_255 ?_
  refine ws_iand (pc := 12) C dJ1_charAt_3b067_12 ?_
  refine ws_i2c (pc := 13) C dJ1_charAt_3b067_13 ?_
  obtain ⟨g5, h⟩ := gd_ok h
  exact wr_i (pc := 14) C R dJ1_charAt_3b067_14 (isN_ok g5) h
set_option maxRecDepth 20000 in
set_option maxHeartbeats 4000000 in
theorem mJ0_charAt_5068e {Y : xY} {Z : xZ} {a0 : Nat} {a1 : Int32} (ha0 : a0 < 14) {s : xM} {z : Int32 × xM} (h : fJ0_charAt_5068e a0 a1 s = some z) : xMi (GX Y) Z yJ0_charAt_5068e cJ0_charAt_5068e 2 4 .char [.ref (Z.1 a0), .int a1] s z := by
  refine xMi_of (by decide) (Nat.le_of_ble_eq_true rfl) (fun B C R => ?_)
  have C : xC (GX Y) Z B "java/lang/String" cJ0_charAt_5068e 2 4 := C
  show xWS (GX Y) B 2 s [(0, .ref (Z.1 a0)), (1, .int a1)] 0 []
  unfold fJ0_charAt_5068e at h
  refine ws_aload_n (pc := 0) C dJ0_charAt_5068e_0 rfl 0 rfl ?_
  obtain ⟨r1, s2, q3, h⟩ := bd_ok h
  refine wcs_i (pc := 1)  C [] [] (mJ0_isLatin1_aae02 ha0 q3) dJ0_charAt_5068e_1 mw_J0_isLatin1_aae02 mv_J0_isLatin1_aae02 kl_J0_492 rfl ha0 rfl rfl (Nat.le_of_ble_eq_true rfl) ⟨by decide, by decide⟩ ?_
  refine ws_if_eq (pc := 4) (tgt := 16) C dJ0_charAt_5068e_4 (by decide) (fun c4 => ?_) (fun c4 => ?_)
  · have h := ite_t h c4
    refine ws_aload_n (pc := 16) C dJ0_charAt_5068e_16 rfl 0 rfl ?_
    refine ws_sval (pc := 17) C dJ0_charAt_5068e_17 ha0 kf_J0_9 ?_
    refine ws_iload_n (pc := 20) C dJ0_charAt_5068e_20 rfl 1 rfl ?_
    cases h
  · have h := ite_f h c4
    refine ws_aload_n (pc := 7) C dJ0_charAt_5068e_7 rfl 0 rfl ?_
    refine ws_sval (pc := 8) C dJ0_charAt_5068e_8 ha0 kf_J0_9 ?_
    refine ws_iload_n (pc := 11) C dJ0_charAt_5068e_11 rfl 1 rfl ?_
    obtain ⟨r5, s6, q7, h⟩ := bd_ok h
    refine wc_iS (pc := 12)  C [.ref (Z.2.1 a0), .int a1] [] (mJ1_charAt_3b067 ha0 q7) dJ0_charAt_5068e_12 mw_J1_charAt_3b067 ks_J1_charAt_3b067 kl_J0_495 rfl rfl (Nat.le_of_ble_eq_true rfl) ⟨by decide, by decide⟩ ?_
    obtain ⟨g8, h⟩ := gd_ok h
    exact wr_i (pc := 15) C R dJ0_charAt_5068e_15 (isN_ok g8) h
set_option maxRecDepth 20000 in
set_option maxHeartbeats 4000000 in
theorem mJ0_length_8abf5 {Y : xY} {Z : xZ} {a0 : Nat} (ha0 : a0 < 14) {s : xM} {z : Int32 × xM} (h : fJ0_length_8abf5 a0 s = some z) : xMi (GX Y) Z yJ0_length_8abf5 cJ0_length_8abf5 1 2 .int [.ref (Z.1 a0)] s z := by
  refine xMi_of (by decide) (Nat.le_of_ble_eq_true rfl) (fun B C R => ?_)
  have C : xC (GX Y) Z B "java/lang/String" cJ0_length_8abf5 1 2 := C
  show xWS (GX Y) B 1 s [(0, .ref (Z.1 a0))] 0 []
  unfold fJ0_length_8abf5 at h
  refine ws_aload_n (pc := 0) C dJ0_length_8abf5_0 rfl 0 rfl ?_
  refine ws_sval (pc := 1) C dJ0_length_8abf5_1 ha0 kf_J0_9 ?_
  refine ws_slen (pc := 4) C dJ0_length_8abf5_4 ha0 ?_
  refine ws_aload_n (pc := 5) C dJ0_length_8abf5_5 rfl 0 rfl ?_
  obtain ⟨r1, s2, q3, h⟩ := bd_ok h
  refine wcs_i (pc := 6)  C [] [.int (Int32.ofNat (xSl.getD a0 0))] (mJ0_coder_7d493 ha0 q3) dJ0_length_8abf5_6 mw_J0_coder_7d493 mv_J0_coder_7d493 kl_J0_335 rfl ha0 rfl rfl (Nat.le_of_ble_eq_true rfl) ⟨by decide, by decide⟩ ?_
  refine ws_ishr (pc := 9) C dJ0_length_8abf5_9 ?_
  exact wr_i (pc := 10) C R dJ0_length_8abf5_10 rfl h
set_option maxRecDepth 20000 in
set_option maxHeartbeats 4000000 in
theorem mJ1_canEncode_9a6ad {Y : xY} {Z : xZ} {a0 : Int32} {s : xM} {z : Int32 × xM} (h : fJ1_canEncode_9a6ad a0 s = some z) : xMi (GX Y) Z yJ1_canEncode_9a6ad cJ1_canEncode_9a6ad 1 1 .boolean [.int a0] s z := by
  refine xMi_of (by decide) (Nat.le_of_ble_eq_true rfl) (fun B C R => ?_)
  have C : xC (GX Y) Z B "java/lang/StringLatin1" cJ1_canEncode_9a6ad 1 1 := C
  show xWS (GX Y) B 1 s [(0, .int a0)] 0 []
  unfold fJ1_canEncode_9a6ad at h
  refine ws_iload_n (pc := 0) C dJ1_canEncode_9a6ad_0 rfl 0 rfl ?_
  refine ws_if_lt (pc := 1) (tgt := 15) C dJ1_canEncode_9a6ad_1 (by decide) (fun c1 => ?_) (fun c1 => ?_)
  · have h := ite_t h c1
    refine ws_iconst (pc := 15) C dJ1_canEncode_9a6ad_15 ci_0 ?_
    exact wr_i (pc := 16) C R dJ1_canEncode_9a6ad_16 (isZ_nar isZ0) h
  · have h := ite_f h c1
    refine ws_iload_n (pc := 4) C dJ1_canEncode_9a6ad_4 rfl 0 rfl ?_
    refine ws_sipush (pc := 5) C dJ1_canEncode_9a6ad_5 cs_255 ?_
    refine ws_icmp_gt (pc := 8) (tgt := 15) C dJ1_canEncode_9a6ad_8 (by decide) (fun c2 => ?_) (fun c2 => ?_)
    · have h := ite_t h c2
      refine ws_iconst (pc := 15) C dJ1_canEncode_9a6ad_15 ci_0 ?_
      exact wr_i (pc := 16) C R dJ1_canEncode_9a6ad_16 (isZ_nar isZ0) h
    · have h := ite_f h c2
      refine ws_iconst (pc := 11) C dJ1_canEncode_9a6ad_11 ci_1 ?_
      refine ws_goto (pc := 12) (tgt := 16) C dJ1_canEncode_9a6ad_12 (by decide) ?_
      exact wr_i (pc := 16) C R dJ1_canEncode_9a6ad_16 (isZ_nar isZ1) h
set_option maxRecDepth 20000 in
set_option maxHeartbeats 4000000 in
theorem pJ1_indexOfChar_4cfef_L7 {Y : xY} {Z : xZ} {B : xB} {z : Int32 × xM} (C : xC (GX Y) Z B "java/lang/StringLatin1" cJ1_indexOfChar_4cfef 6 1) (R : xRi (GX Y) B .int z) {k22 : Int32 → xM → Option (Int32 × xM)} {k31 : xM → Option (Int32 × xM)} {a0 : Nat} {a3 : Int32} {a4 : Int32}
    (hk22 : ∀ (a5 : Int32) (s : xM), k22 a5 s = some z → xWS (GX Y) B 6 s [(5, .int a5)] 22 [])
    (hk31 : ∀  (s : xM), k31 s = some z → xWS (GX Y) B 6 s [] 31 []) (ha0 : a0 < 14) : ∀ (n : Nat) (a5 : Int32) (s : xM), fJ1_indexOfChar_4cfef_L7 k22 k31 a0 a3 a4 n a5 s = some z → xWS (GX Y) B 6 s [(0, .ref (Z.2.1 a0)), (3, .int a3), (4, .int a4), (5, .int a5)] 7 [] := by
  intro n
  induction n with
  | zero =>
    intro a5 s h
    rw [fJ1_indexOfChar_4cfef_L7] at h
    cases h
  | succ n ih =>
    intro a5 s h
    rw [fJ1_indexOfChar_4cfef_L7] at h
    refine ws_iload (pc := 7) C dJ1_indexOfChar_4cfef_7 3 rfl ?_
    refine ws_iload_n (pc := 9) C dJ1_indexOfChar_4cfef_9 rfl 1 rfl ?_
    refine ws_icmp_ge (pc := 10) (tgt := 31) C dJ1_indexOfChar_4cfef_10 (by decide) (fun c1 => ?_) (fun c1 => ?_)
    · have h := ite_t h c1
      refine ws_less [] rfl ?_
      exact hk31 _ h
    · have h := ite_f h c1
      refine ws_aload_n (pc := 13) C dJ1_indexOfChar_4cfef_13 rfl 0 rfl ?_
      refine ws_iload (pc := 14) C dJ1_indexOfChar_4cfef_14 3 rfl ?_
      obtain ⟨g2, h⟩ := gd_ok h
      refine ws_sbald (pc := 16) C dJ1_indexOfChar_4cfef_16 ha0 g2 rfl ?_
      refine ws_iload (pc := 17) C dJ1_indexOfChar_4cfef_17 2 rfl ?_
      refine ws_icmp_ne (pc := 19) (tgt := 25) C dJ1_indexOfChar_4cfef_19 (by decide) (fun c3 => ?_) (fun c3 => ?_)
      · have h := ite_f h c3
        refine ws_iinc (j := 3) (pc := 25) C dJ1_indexOfChar_4cfef_25 rfl (cn_1 _) (by decide) rfl ?_
        refine ws_goto (pc := 28) (tgt := 7) C dJ1_indexOfChar_4cfef_28 (by decide) ?_
        refine ws_less [1, 2, 3, 0] rfl ?_
        exact ih _ _ h
      · have h := ite_t h c3
        refine ws_less [3] rfl ?_
        exact hk22 _ _ h
set_option maxRecDepth 20000 in
set_option maxHeartbeats 4000000 in
theorem mJ1_indexOfChar_4cfef {Y : xY} {Z : xZ} {a0 : Nat} {a1 : Int32} {a2 : Int32} {a3 : Int32} (ha0 : a0 < 14) {s : xM} {z : Int32 × xM} (h : fJ1_indexOfChar_4cfef a0 a1 a2 a3 s = some z) : xMi (GX Y) Z yJ1_indexOfChar_4cfef cJ1_indexOfChar_4cfef 6 1 .int [.ref (Z.2.1 a0), .int a1, .int a2, .int a3] s z := by
  refine xMi_of (by decide) (Nat.le_of_ble_eq_true rfl) (fun B C R => ?_)
  have C : xC (GX Y) Z B "java/lang/StringLatin1" cJ1_indexOfChar_4cfef 6 1 := C
  show xWS (GX Y) B 6 s [(0, .ref (Z.2.1 a0)), (1, .int a1), (2, .int a2), (3, .int a3)] 0 []
  unfold fJ1_indexOfChar_4cfef at h
  refine ws_iload_n (pc := 0) C dJ1_indexOfChar_4cfef_0 rfl 1 rfl ?_
  refine ws_i2b (pc := 1) C dJ1_indexOfChar_4cfef_1 ?_
  obtain ⟨v1, e2, h⟩ := lz_ok h
  refine ws_topi C e2 ?_
  refine ws_istore (pc := 2) C dJ1_indexOfChar_4cfef_2 (by decide) rfl ?_
  refine ws_iload_n (pc := 4) C dJ1_indexOfChar_4cfef_4 rfl 3 rfl ?_
  refine ws_istore (pc := 5) C dJ1_indexOfChar_4cfef_5 (by decide) rfl ?_
  refine ws_less [2, 5, 1, 0] rfl ?_
  refine pJ1_indexOfChar_4cfef_L7 C R (fun x3 s4 h => ?_) (fun s5 h => ?_) ha0 fu _ _ h
  · refine ws_iload (pc := 22) C dJ1_indexOfChar_4cfef_22 0 rfl ?_
    exact wr_i (pc := 24) C R dJ1_indexOfChar_4cfef_24 rfl h
  · refine ws_iconst (pc := 31) C dJ1_indexOfChar_4cfef_31 ci_m1 ?_
    exact wr_i (pc := 32) C R dJ1_indexOfChar_4cfef_32 rfl h
set_option maxRecDepth 20000 in
set_option maxHeartbeats 4000000 in
theorem mJ1_indexOf_4cfef {Y : xY} {Z : xZ} {a0 : Nat} {a1 : Int32} {a2 : Int32} {a3 : Int32} (ha0 : a0 < 14) {s : xM} {z : Int32 × xM} (h : fJ1_indexOf_4cfef a0 a1 a2 a3 s = some z) : xMi (GX Y) Z yJ1_indexOf_4cfef cJ1_indexOf_4cfef 4 2 .int [.ref (Z.2.1 a0), .int a1, .int a2, .int a3] s z := by
  refine xMi_of (by decide) (Nat.le_of_ble_eq_true rfl) (fun B C R => ?_)
  have C : xC (GX Y) Z B "java/lang/StringLatin1" cJ1_indexOf_4cfef 4 2 := C
  show xWS (GX Y) B 4 s [(0, .ref (Z.2.1 a0)), (1, .int a1), (2, .int a2), (3, .int a3)] 0 []
  unfold fJ1_indexOf_4cfef at h
  refine ws_iload_n (pc := 0) C dJ1_indexOf_4cfef_0 rfl 1 rfl ?_
  obtain ⟨r1, s2, q3, h⟩ := bd_ok h
  refine wc_iS (pc := 1)  C [.int a1] [] (mJ1_canEncode_9a6ad q3) dJ1_indexOf_4cfef_1 mw_J1_canEncode_9a6ad ks_J1_canEncode_9a6ad kl_J1_88 rfl rfl (Nat.le_of_ble_eq_true rfl) ⟨by decide, by decide⟩ ?_
  refine ws_if_ne (pc := 4) (tgt := 9) C dJ1_indexOf_4cfef_4 (by decide) (fun c4 => ?_) (fun c4 => ?_)
  · have h := ite_f h c4
    refine ws_iload_n (pc := 9) C dJ1_indexOf_4cfef_9 rfl 2 rfl ?_
    refine ws_iconst (pc := 10) C dJ1_indexOf_4cfef_10 ci_0 ?_
    refine ws_max (pc := 11) C dJ1_indexOf_4cfef_11 ma_J1_92 (Nat.le_of_ble_eq_true rfl) (by decide) ?_
    obtain ⟨v5, e6, h⟩ := lz_ok h
    refine ws_topi C e6 ?_
    refine ws_istore_n (pc := 14) C dJ1_indexOf_4cfef_14 rfl (by decide) rfl ?_
    refine ws_iload_n (pc := 15) C dJ1_indexOf_4cfef_15 rfl 3 rfl ?_
    refine ws_aload_n (pc := 16) C dJ1_indexOf_4cfef_16 rfl 1 rfl ?_
    refine ws_slen (pc := 17) C dJ1_indexOf_4cfef_17 ha0 ?_
    refine ws_min (pc := 18) C dJ1_indexOf_4cfef_18 ma_J1_38 (Nat.le_of_ble_eq_true rfl) (by decide) ?_
    obtain ⟨v7, e8, h⟩ := lz_ok h
    refine ws_topi C e8 ?_
    refine ws_istore_n (pc := 21) C dJ1_indexOf_4cfef_21 rfl (by decide) rfl ?_
    refine ws_iload_n (pc := 22) C dJ1_indexOf_4cfef_22 rfl 1 rfl ?_
    refine ws_iload_n (pc := 23) C dJ1_indexOf_4cfef_23 rfl 0 rfl ?_
    refine ws_icmp_lt (pc := 24) (tgt := 29) C dJ1_indexOf_4cfef_24 (by decide) (fun c9 => ?_) (fun c9 => ?_)
    · have h := ite_t h c9
      refine ws_aload_n (pc := 29) C dJ1_indexOf_4cfef_29 rfl 2 rfl ?_
      refine ws_iload_n (pc := 30) C dJ1_indexOf_4cfef_30 rfl 3 rfl ?_
      refine ws_iload_n (pc := 31) C dJ1_indexOf_4cfef_31 rfl 1 rfl ?_
      refine ws_iload_n (pc := 32) C dJ1_indexOf_4cfef_32 rfl 0 rfl ?_
      obtain ⟨r10, s11, q12, h⟩ := bd_ok h
      refine wc_iS (pc := 33)  C [.ref (Z.2.1 a0), .int a1, .int v5, .int v7] [] (mJ1_indexOfChar_4cfef ha0 q12) dJ1_indexOf_4cfef_33 mw_J1_indexOfChar_4cfef ks_J1_indexOfChar_4cfef kl_J1_95 rfl rfl (Nat.le_of_ble_eq_true rfl) ⟨by decide, by decide⟩ ?_
      exact wr_i (pc := 36) C R dJ1_indexOf_4cfef_36 rfl h
    · have h := ite_f h c9
      refine ws_iconst (pc := 27) C dJ1_indexOf_4cfef_27 ci_m1 ?_
      exact wr_i (pc := 28) C R dJ1_indexOf_4cfef_28 rfl h
  · have h := ite_t h c4
    refine ws_iconst (pc := 7) C dJ1_indexOf_4cfef_7 ci_m1 ?_
    exact wr_i (pc := 8) C R dJ1_indexOf_4cfef_8 rfl h
set_option maxRecDepth 20000 in
set_option maxHeartbeats 4000000 in
theorem mJ0_indexOf_7cf53 {Y : xY} {Z : xZ} {a0 : Nat} {a1 : Int32} {a2 : Int32} (ha0 : a0 < 14) {s : xM} {z : Int32 × xM} (h : fJ0_indexOf_7cf53 a0 a1 a2 s = some z) : xMi (GX Y) Z yJ0_indexOf_7cf53 cJ0_indexOf_7cf53 3 3 .int [.ref (Z.1 a0), .int a1, .int a2] s z := by
  refine xMi_of (by decide) (Nat.le_of_ble_eq_true rfl) (fun B C R => ?_)
  have C : xC (GX Y) Z B "java/lang/String" cJ0_indexOf_7cf53 3 3 := C
  show xWS (GX Y) B 3 s [(0, .ref (Z.1 a0)), (1, .int a1), (2, .int a2)] 0 []
  unfold fJ0_indexOf_7cf53 at h
  refine ws_aload_n (pc := 0) C dJ0_indexOf_7cf53_0 rfl 0 rfl ?_
  obtain ⟨r1, s2, q3, h⟩ := bd_ok h
  refine wcs_i (pc := 1)  C [] [] (mJ0_isLatin1_aae02 ha0 q3) dJ0_indexOf_7cf53_1 mw_J0_isLatin1_aae02 mv_J0_isLatin1_aae02 kl_J0_492 rfl ha0 rfl rfl (Nat.le_of_ble_eq_true rfl) ⟨by decide, by decide⟩ ?_
  refine ws_if_eq (pc := 4) (tgt := 23) C dJ0_indexOf_7cf53_4 (by decide) (fun c4 => ?_) (fun c4 => ?_)
  · have h := ite_t h c4
    refine ws_aload_n (pc := 23) C dJ0_indexOf_7cf53_23 rfl 0 rfl ?_
    refine ws_sval (pc := 24) C dJ0_indexOf_7cf53_24 ha0 kf_J0_9 ?_
    refine ws_iload_n (pc := 27) C dJ0_indexOf_7cf53_27 rfl 1 rfl ?_
    refine ws_iload_n (pc := 28) C dJ0_indexOf_7cf53_28 rfl 2 rfl ?_
    refine ws_aload_n (pc := 29) C dJ0_indexOf_7cf53_29 rfl 0 rfl ?_
    obtain ⟨r5, s6, q7, h⟩ := bd_ok h
    refine wcs_i (pc := 30)  C [] [.int a2, .int a1, .ref (Z.2.1 a0)] (mJ0_length_8abf5 ha0 q7) dJ0_indexOf_7cf53_30 mw_J0_length_8abf5 mv_J0_length_8abf5 kl_J0_505 rfl ha0 rfl rfl (Nat.le_of_ble_eq_true rfl) ⟨by decide, by decide⟩ ?_
    cases h
  · have h := ite_f h c4
    refine ws_aload_n (pc := 7) C dJ0_indexOf_7cf53_7 rfl 0 rfl ?_
    refine ws_sval (pc := 8) C dJ0_indexOf_7cf53_8 ha0 kf_J0_9 ?_
    refine ws_iload_n (pc := 11) C dJ0_indexOf_7cf53_11 rfl 1 rfl ?_
    refine ws_iload_n (pc := 12) C dJ0_indexOf_7cf53_12 rfl 2 rfl ?_
    refine ws_aload_n (pc := 13) C dJ0_indexOf_7cf53_13 rfl 0 rfl ?_
    obtain ⟨r8, s9, q10, h⟩ := bd_ok h
    refine wcs_i (pc := 14)  C [] [.int a2, .int a1, .ref (Z.2.1 a0)] (mJ0_length_8abf5 ha0 q10) dJ0_indexOf_7cf53_14 mw_J0_length_8abf5 mv_J0_length_8abf5 kl_J0_505 rfl ha0 rfl rfl (Nat.le_of_ble_eq_true rfl) ⟨by decide, by decide⟩ ?_
    obtain ⟨r11, s12, q13, h⟩ := bd_ok h
    refine wc_iS (pc := 17)  C [.ref (Z.2.1 a0), .int a1, .int a2, .int r8] [] (mJ1_indexOf_4cfef ha0 q13) dJ0_indexOf_7cf53_17 mw_J1_indexOf_4cfef ks_J1_indexOf_4cfef kl_J0_637 rfl rfl (Nat.le_of_ble_eq_true rfl) ⟨by decide, by decide⟩ ?_
    refine ws_goto (pc := 20) (tgt := 36) C dJ0_indexOf_7cf53_20 (by decide) ?_
    exact wr_i (pc := 36) C R dJ0_indexOf_7cf53_36 rfl h
set_option maxRecDepth 20000 in
set_option maxHeartbeats 4000000 in
theorem mJ0_indexOf_0f7a4 {Y : xY} {Z : xZ} {a0 : Nat} {a1 : Int32} (ha0 : a0 < 14) {s : xM} {z : Int32 × xM} (h : fJ0_indexOf_0f7a4 a0 a1 s = some z) : xMi (GX Y) Z yJ0_indexOf_0f7a4 cJ0_indexOf_0f7a4 2 4 .int [.ref (Z.1 a0), .int a1] s z := by
  refine xMi_of (by decide) (Nat.le_of_ble_eq_true rfl) (fun B C R => ?_)
  have C : xC (GX Y) Z B "java/lang/String" cJ0_indexOf_0f7a4 2 4 := C
  show xWS (GX Y) B 2 s [(0, .ref (Z.1 a0)), (1, .int a1)] 0 []
  unfold fJ0_indexOf_0f7a4 at h
  refine ws_aload_n (pc := 0) C dJ0_indexOf_0f7a4_0 rfl 0 rfl ?_
  refine ws_iload_n (pc := 1) C dJ0_indexOf_0f7a4_1 rfl 1 rfl ?_
  refine ws_iconst (pc := 2) C dJ0_indexOf_0f7a4_2 ci_0 ?_
  obtain ⟨r1, s2, q3, h⟩ := bd_ok h
  refine wcs_i (pc := 3)  C [.int a1, .int (0 : Int32)] [] (mJ0_indexOf_7cf53 ha0 q3) dJ0_indexOf_0f7a4_3 mw_J0_indexOf_7cf53 mv_J0_indexOf_7cf53 kl_J0_633 rfl ha0 rfl rfl (Nat.le_of_ble_eq_true rfl) ⟨by decide, by decide⟩ ?_
  exact wr_i (pc := 6) C R dJ0_indexOf_0f7a4_6 rfl h
set_option maxRecDepth 20000 in
set_option maxHeartbeats 4000000 in
theorem pX4_isWord_L20 {Y : xY} {Z : xZ} {B : xB} {z : Int32 × xM} (C : xC (GX Y) Z B "BetweenStops$Tape" cX4_isWord 3 5) (R : xRi (GX Y) B .boolean z) {k47 : xM → Option (Int32 × xM)} {k55 : xM → Option (Int32 × xM)} {a1 : Nat}
    (hk47 : ∀  (s : xM), k47 s = some z → xWS (GX Y) B 3 s [] 47 [])
    (hk55 : ∀  (s : xM), k55 s = some z → xWS (GX Y) B 3 s [] 55 []) (ha1 : a1 < 14) : ∀ (n : Nat) (a2 : Int32) (s : xM), fX4_isWord_L20 k47 k55 a1 n a2 s = some z → xWS (GX Y) B 3 s [(0, .ref (Y.1 77)), (1, .ref (Z.1 a1)), (2, .int a2)] 20 [] := by
  intro n
  induction n with
  | zero =>
    intro a2 s h
    rw [fX4_isWord_L20] at h
    cases h
  | succ n ih =>
    intro a2 s h
    rw [fX4_isWord_L20] at h
    refine ws_iload_n (pc := 20) C dX4_isWord_20 rfl 2 rfl ?_
    refine ws_aload_n (pc := 21) C dX4_isWord_21 rfl 1 rfl ?_
    obtain ⟨r1, s2, q3, h⟩ := bd_ok h
    refine wcs_i (pc := 22)  C [] [.int a2] (mJ0_length_8abf5 ha1 q3) dX4_isWord_22 mw_J0_length_8abf5 mv_J0_length_8abf5 kl_X4_86 rfl ha1 rfl rfl (Nat.le_of_ble_eq_true rfl) ⟨by decide, by decide⟩ ?_
    refine ws_icmp_ge (pc := 25) (tgt := 55) C dX4_isWord_25 (by decide) (fun c4 => ?_) (fun c4 => ?_)
    · have h := ite_t h c4
      refine ws_less [] rfl ?_
      exact hk55 _ h
    · have h := ite_f h c4
      refine ws_aload_n (pc := 28) C dX4_isWord_28 rfl 0 rfl ?_
      refine ws_getr (pc := 29) C dX4_isWord_29 fd_X4_9 sf_tape_0 ?_
      refine ws_aload_n (pc := 32) C dX4_isWord_32 rfl 0 rfl ?_
      refine ws_geti (pc := 33) C dX4_isWord_33 fd_X4_22 sf_tape_3 ?_
      refine ws_iload_n (pc := 36) C dX4_isWord_36 rfl 2 rfl ?_
      refine ws_iadd (pc := 37) C dX4_isWord_37 ?_
      obtain ⟨g5, h⟩ := gd_ok h
      refine ws_ialdK (pc := 38) C dX4_isWord_38 sr_bytes g5 rfl ?_
      refine ws_aload_n (pc := 39) C dX4_isWord_39 rfl 1 rfl ?_
      refine ws_iload_n (pc := 40) C dX4_isWord_40 rfl 2 rfl ?_
      obtain ⟨r6, s7, q8, h⟩ := bd_ok h
      refine wcs_i (pc := 41)  C [.int a2] [.int (gi s2 78 ((gi s2 77 3) + a2).toNatClampNeg)] (mJ0_charAt_5068e ha1 q8) dX4_isWord_41 mw_J0_charAt_5068e mv_J0_charAt_5068e kl_X4_90 rfl ha1 rfl rfl (Nat.le_of_ble_eq_true rfl) ⟨by decide, by decide⟩ ?_
      refine ws_icmp_eq (pc := 44) (tgt := 49) C dX4_isWord_44 (by decide) (fun c9 => ?_) (fun c9 => ?_)
      · have h := ite_t h c9
        refine ws_iinc (j := 2) (pc := 49) C dX4_isWord_49 rfl (cn_1 _) (by decide) rfl ?_
        refine ws_goto (pc := 52) (tgt := 20) C dX4_isWord_52 (by decide) ?_
        refine ws_less [1, 2, 0] rfl ?_
        exact ih _ _ h
      · have h := ite_f h c9
        refine ws_less [] rfl ?_
        exact hk47 _ h
set_option maxRecDepth 20000 in
set_option maxHeartbeats 4000000 in
theorem mX4_isWord {Y : xY} {Z : xZ} {a1 : Nat} (ha1 : a1 < 14) {s : xM} {z : Int32 × xM} (h : fX4_isWord a1 s = some z) : xMi (GX Y) Z yX4_isWord cX4_isWord 3 5 .boolean [.ref (Y.1 77), .ref (Z.1 a1)] s z := by
  refine xMi_of (by decide) (Nat.le_of_ble_eq_true rfl) (fun B C R => ?_)
  have C : xC (GX Y) Z B "BetweenStops$Tape" cX4_isWord 3 5 := C
  show xWS (GX Y) B 3 s [(0, .ref (Y.1 77)), (1, .ref (Z.1 a1))] 0 []
  unfold fX4_isWord at h
  refine ws_aload_n (pc := 0) C dX4_isWord_0 rfl 0 rfl ?_
  refine ws_geti (pc := 1) C dX4_isWord_1 fd_X4_25 sf_tape_4 ?_
  refine ws_aload_n (pc := 4) C dX4_isWord_4 rfl 0 rfl ?_
  refine ws_geti (pc := 5) C dX4_isWord_5 fd_X4_22 sf_tape_3 ?_
  refine ws_isub (pc := 8) C dX4_isWord_8 ?_
  refine ws_aload_n (pc := 9) C dX4_isWord_9 rfl 1 rfl ?_
  obtain ⟨r1, s2, q3, h⟩ := bd_ok h
  refine wcs_i (pc := 10)  C [] [.int ((gi s 77 4) - (gi s 77 3))] (mJ0_length_8abf5 ha1 q3) dX4_isWord_10 mw_J0_length_8abf5 mv_J0_length_8abf5 kl_X4_86 rfl ha1 rfl rfl (Nat.le_of_ble_eq_true rfl) ⟨by decide, by decide⟩ ?_
  refine ws_icmp_eq (pc := 13) (tgt := 18) C dX4_isWord_13 (by decide) (fun c4 => ?_) (fun c4 => ?_)
  · have h := ite_t h c4
    refine ws_iconst (pc := 18) C dX4_isWord_18 ci_0 ?_
    refine ws_istore_n (pc := 19) C dX4_isWord_19 rfl (by decide) rfl ?_
    refine ws_less [1, 2, 0] rfl ?_
    refine pX4_isWord_L20 C R (fun s5 h => ?_) (fun s6 h => ?_) ha1 fu _ _ h
    · refine ws_iconst (pc := 47) C dX4_isWord_47 ci_0 ?_
      exact wr_i (pc := 48) C R dX4_isWord_48 (isZ_nar isZ0) h
    · refine ws_iconst (pc := 55) C dX4_isWord_55 ci_1 ?_
      exact wr_i (pc := 56) C R dX4_isWord_56 (isZ_nar isZ1) h
  · have h := ite_f h c4
    refine ws_iconst (pc := 16) C dX4_isWord_16 ci_0 ?_
    exact wr_i (pc := 17) C R dX4_isWord_17 (isZ_nar isZ0) h
set_option maxRecDepth 20000 in
set_option maxHeartbeats 4000000 in
theorem pX4_readWord_L0 {Y : xY} {Z : xZ} {B : xB} {z : Int32 × xM} (C : xC (GX Y) Z B "BetweenStops$Tape" cX4_readWord 2 6) (R : xRv (GX Y) B z) {k39 : xM → Option (Int32 × xM)}
    (hk39 : ∀  (s : xM), k39 s = some z → xWS (GX Y) B 2 s [(0, .ref (Y.1 77))] 39 []) : ∀ (n : Nat)  (s : xM), fX4_readWord_L0 k39 n s = some z → xWS (GX Y) B 2 s [(0, .ref (Y.1 77))] 0 [] := by
  intro n
  induction n with
  | zero =>
    intro s h
    rw [fX4_readWord_L0] at h
    cases h
  | succ n ih =>
    intro s h
    rw [fX4_readWord_L0] at h
    refine ws_aload_n (pc := 0) C dX4_readWord_0 rfl 0 rfl ?_
    refine ws_geti (pc := 1) C dX4_readWord_1 fd_X4_25 sf_tape_4 ?_
    refine ws_aload_n (pc := 4) C dX4_readWord_4 rfl 0 rfl ?_
    refine ws_geti (pc := 5) C dX4_readWord_5 fd_X4_15 sf_tape_1 ?_
    refine ws_icmp_ge (pc := 8) (tgt := 39) C dX4_readWord_8 (by decide) (fun c1 => ?_) (fun c1 => ?_)
    · have h := ite_t h c1
      refine ws_less [0] rfl ?_
      exact hk39 _ h
    · have h := ite_f h c1
      refine ws_aload_n (pc := 11) C dX4_readWord_11 rfl 0 rfl ?_
      refine ws_getr (pc := 12) C dX4_readWord_12 fd_X4_9 sf_tape_0 ?_
      refine ws_aload_n (pc := 15) C dX4_readWord_15 rfl 0 rfl ?_
      refine ws_geti (pc := 16) C dX4_readWord_16 fd_X4_25 sf_tape_4 ?_
      obtain ⟨g2, h⟩ := gd_ok h
      refine ws_ialdK (pc := 19) C dX4_readWord_19 sr_bytes g2 rfl ?_
      obtain ⟨r3, s4, q5, h⟩ := bd_ok h
      refine wc_iS (pc := 20)  C [.int (gi s 78 (gi s 77 4).toNatClampNeg)] [] (mX4_isLetter q5) dX4_readWord_20 mw_X4_isLetter ks_X4_isLetter kl_X4_38 rfl rfl (Nat.le_of_ble_eq_true rfl) ⟨by decide, by decide⟩ ?_
      refine ws_if_eq (pc := 23) (tgt := 39) C dX4_readWord_23 (by decide) (fun c6 => ?_) (fun c6 => ?_)
      · have h := ite_t h c6
        refine ws_less [0] rfl ?_
        exact hk39 _ h
      · have h := ite_f h c6
        refine ws_aload_n (pc := 26) C dX4_readWord_26 rfl 0 rfl ?_
        refine ws_dup (pc := 27) C dX4_readWord_27 rfl ?_
        refine ws_geti (pc := 28) C dX4_readWord_28 fd_X4_25 sf_tape_4 ?_
        refine ws_iconst (pc := 31) C dX4_readWord_31 ci_1 ?_
        refine ws_iadd (pc := 32) C dX4_readWord_32 ?_
        obtain ⟨s7, e8, h⟩ := lz_ok h
        refine ws_putI (pc := 33) C dX4_readWord_33 fp_X4_25 sf_tape_4 e8 ?_
        refine ws_goto (pc := 36) (tgt := 0) C dX4_readWord_36 (by decide) ?_
        refine ws_less [0] rfl ?_
        exact ih _ h
set_option maxRecDepth 20000 in
set_option maxHeartbeats 4000000 in
theorem pX4_readWord_J219 {Y : xY} {Z : xZ} {B : xB} {z : Int32 × xM} (C : xC (GX Y) Z B "BetweenStops$Tape" cX4_readWord 2 6) (R : xRv (GX Y) B z) {a1 : Int32} {t0 : Int32} {s : xM} (h : fX4_readWord_J219 a1 t0 s = some z) : xWS (GX Y) B 2 s [(0, .ref (Y.1 77)), (1, .int a1)] 219 [.int t0, .ref (Y.1 77)] := by
  unfold fX4_readWord_J219 at h
  obtain ⟨s1, e2, h⟩ := lz_ok h
  refine ws_putI (pc := 219) C dX4_readWord_219 fp_X4_19 sf_tape_2 e2 ?_
  refine ws_aload_n (pc := 222) C dX4_readWord_222 rfl 0 rfl ?_
  refine ws_iload_n (pc := 223) C dX4_readWord_223 rfl 1 rfl ?_
  refine ws_bipush (pc := 224) C dX4_readWord_224 cb_11 ?_
  refine ws_isub (pc := 226) C dX4_readWord_226 ?_
  obtain ⟨s3, e4, h⟩ := lz_ok h
  refine ws_putI (pc := 227) C dX4_readWord_227 fp_X4_28 sf_tape_5 e4 ?_
  exact wr_v (pc := 230) C R dX4_readWord_230 h
set_option maxRecDepth 20000 in
set_option maxHeartbeats 4000000 in
theorem pX4_readWord_J206 {Y : xY} {Z : xZ} {B : xB} {z : Int32 × xM} (C : xC (GX Y) Z B "BetweenStops$Tape" cX4_readWord 2 6) (R : xRv (GX Y) B z) {t0 : Int32} {s : xM} (h : fX4_readWord_J206 t0 s = some z) : xWS (GX Y) B 2 s [(0, .ref (Y.1 77))] 206 [.int t0] := by
  unfold fX4_readWord_J206 at h
  refine ws_istore_n (pc := 206) C dX4_readWord_206 rfl (by decide) rfl ?_
  refine ws_aload_n (pc := 207) C dX4_readWord_207 rfl 1 rfl ?_
  refine ws_iload_n (pc := 208) C dX4_readWord_208 rfl 0 rfl ?_
  refine ws_bipush (pc := 209) C dX4_readWord_209 cb_11 ?_
  refine ws_icmp_lt (pc := 211) (tgt := 218) C dX4_readWord_211 (by decide) (fun c1 => ?_) (fun c1 => ?_)
  · have h := ite_t h c1
    refine ws_iload_n (pc := 218) C dX4_readWord_218 rfl 0 rfl ?_
    refine ws_less [1, 0] rfl ?_
    exact pX4_readWord_J219 C R h
  · have h := ite_f h c1
    refine ws_iconst (pc := 214) C dX4_readWord_214 ci_3 ?_
    refine ws_goto (pc := 215) (tgt := 219) C dX4_readWord_215 (by decide) ?_
    refine ws_less [1, 0] rfl ?_
    exact pX4_readWord_J219 C R h
set_option maxRecDepth 20000 in
set_option maxHeartbeats 4000000 in
theorem mX4_readWord {Y : xY} {Z : xZ} {s : xM} {z : Int32 × xM} (h : fX4_readWord s = some z) : xMv (GX Y) Z yX4_readWord cX4_readWord 2 6 [.ref (Y.1 77)] s z := by
  refine xMv_of (by decide) (Nat.le_of_ble_eq_true rfl) (fun B C R => ?_)
  have C : xC (GX Y) Z B "BetweenStops$Tape" cX4_readWord 2 6 := C
  show xWS (GX Y) B 2 s [(0, .ref (Y.1 77))] 0 []
  unfold fX4_readWord at h
  refine ws_less [0] rfl ?_
  refine pX4_readWord_L0 C R (fun s1 h => ?_) fu _ h
  · refine ws_aload_n (pc := 39) C dX4_readWord_39 rfl 0 rfl ?_
    refine ws_ldcS (i := 1) (pc := 40) C dX4_readWord_40 rfl ?_
    obtain ⟨r2, s3, q4, h⟩ := bd_ok h
    refine wc_iV (pc := 42)  C [.ref (Z.1 1)] [] (mX4_isWord (by decide) q4) dX4_readWord_42 mw_X4_isWord mv_X4_isWord kl_X4_60 so_tape rfl rfl (Nat.le_of_ble_eq_true rfl) ⟨by decide, by decide⟩ ?_
    refine ws_if_eq (pc := 45) (tgt := 52) C dX4_readWord_45 (by decide) (fun c5 => ?_) (fun c5 => ?_)
    · have h := ite_t h c5
      refine ws_aload_n (pc := 52) C dX4_readWord_52 rfl 0 rfl ?_
      refine ws_ldcS (i := 2) (pc := 53) C dX4_readWord_53 rfl ?_
      obtain ⟨r6, s7, q8, h⟩ := bd_ok h
      refine wc_iV (pc := 55)  C [.ref (Z.1 2)] [] (mX4_isWord (by decide) q8) dX4_readWord_55 mw_X4_isWord mv_X4_isWord kl_X4_60 so_tape rfl rfl (Nat.le_of_ble_eq_true rfl) ⟨by decide, by decide⟩ ?_
      refine ws_if_eq (pc := 58) (tgt := 65) C dX4_readWord_58 (by decide) (fun c9 => ?_) (fun c9 => ?_)
      · have h := ite_t h c9
        refine ws_aload_n (pc := 65) C dX4_readWord_65 rfl 0 rfl ?_
        refine ws_ldcS (i := 3) (pc := 66) C dX4_readWord_66 rfl ?_
        obtain ⟨r10, s11, q12, h⟩ := bd_ok h
        refine wc_iV (pc := 68)  C [.ref (Z.1 3)] [] (mX4_isWord (by decide) q12) dX4_readWord_68 mw_X4_isWord mv_X4_isWord kl_X4_60 so_tape rfl rfl (Nat.le_of_ble_eq_true rfl) ⟨by decide, by decide⟩ ?_
        refine ws_if_eq (pc := 71) (tgt := 79) C dX4_readWord_71 (by decide) (fun c13 => ?_) (fun c13 => ?_)
        · have h := ite_t h c13
          refine ws_aload_n (pc := 79) C dX4_readWord_79 rfl 0 rfl ?_
          refine ws_ldcS (i := 4) (pc := 80) C dX4_readWord_80 rfl ?_
          obtain ⟨r14, s15, q16, h⟩ := bd_ok h
          refine wc_iV (pc := 82)  C [.ref (Z.1 4)] [] (mX4_isWord (by decide) q16) dX4_readWord_82 mw_X4_isWord mv_X4_isWord kl_X4_60 so_tape rfl rfl (Nat.le_of_ble_eq_true rfl) ⟨by decide, by decide⟩ ?_
          refine ws_if_eq (pc := 85) (tgt := 93) C dX4_readWord_85 (by decide) (fun c17 => ?_) (fun c17 => ?_)
          · have h := ite_t h c17
            refine ws_aload_n (pc := 93) C dX4_readWord_93 rfl 0 rfl ?_
            refine ws_ldcS (i := 5) (pc := 94) C dX4_readWord_94 rfl ?_
            obtain ⟨r18, s19, q20, h⟩ := bd_ok h
            refine wc_iV (pc := 96)  C [.ref (Z.1 5)] [] (mX4_isWord (by decide) q20) dX4_readWord_96 mw_X4_isWord mv_X4_isWord kl_X4_60 so_tape rfl rfl (Nat.le_of_ble_eq_true rfl) ⟨by decide, by decide⟩ ?_
            refine ws_if_eq (pc := 99) (tgt := 107) C dX4_readWord_99 (by decide) (fun c21 => ?_) (fun c21 => ?_)
            · have h := ite_t h c21
              refine ws_aload_n (pc := 107) C dX4_readWord_107 rfl 0 rfl ?_
              refine ws_ldcS (i := 6) (pc := 108) C dX4_readWord_108 rfl ?_
              obtain ⟨r22, s23, q24, h⟩ := bd_ok h
              refine wc_iV (pc := 110)  C [.ref (Z.1 6)] [] (mX4_isWord (by decide) q24) dX4_readWord_110 mw_X4_isWord mv_X4_isWord kl_X4_60 so_tape rfl rfl (Nat.le_of_ble_eq_true rfl) ⟨by decide, by decide⟩ ?_
              refine ws_if_eq (pc := 113) (tgt := 121) C dX4_readWord_113 (by decide) (fun c25 => ?_) (fun c25 => ?_)
              · have h := ite_t h c25
                refine ws_aload_n (pc := 121) C dX4_readWord_121 rfl 0 rfl ?_
                refine ws_ldcS (i := 7) (pc := 122) C dX4_readWord_122 rfl ?_
                obtain ⟨r26, s27, q28, h⟩ := bd_ok h
                refine wc_iV (pc := 124)  C [.ref (Z.1 7)] [] (mX4_isWord (by decide) q28) dX4_readWord_124 mw_X4_isWord mv_X4_isWord kl_X4_60 so_tape rfl rfl (Nat.le_of_ble_eq_true rfl) ⟨by decide, by decide⟩ ?_
                refine ws_if_eq (pc := 127) (tgt := 135) C dX4_readWord_127 (by decide) (fun c29 => ?_) (fun c29 => ?_)
                · have h := ite_t h c29
                  refine ws_aload_n (pc := 135) C dX4_readWord_135 rfl 0 rfl ?_
                  refine ws_ldcS (i := 8) (pc := 136) C dX4_readWord_136 rfl ?_
                  obtain ⟨r30, s31, q32, h⟩ := bd_ok h
                  refine wc_iV (pc := 138)  C [.ref (Z.1 8)] [] (mX4_isWord (by decide) q32) dX4_readWord_138 mw_X4_isWord mv_X4_isWord kl_X4_60 so_tape rfl rfl (Nat.le_of_ble_eq_true rfl) ⟨by decide, by decide⟩ ?_
                  refine ws_if_eq (pc := 141) (tgt := 149) C dX4_readWord_141 (by decide) (fun c33 => ?_) (fun c33 => ?_)
                  · have h := ite_t h c33
                    refine ws_aload_n (pc := 149) C dX4_readWord_149 rfl 0 rfl ?_
                    refine ws_ldcS (i := 9) (pc := 150) C dX4_readWord_150 rfl ?_
                    obtain ⟨r34, s35, q36, h⟩ := bd_ok h
                    refine wc_iV (pc := 152)  C [.ref (Z.1 9)] [] (mX4_isWord (by decide) q36) dX4_readWord_152 mw_X4_isWord mv_X4_isWord kl_X4_60 so_tape rfl rfl (Nat.le_of_ble_eq_true rfl) ⟨by decide, by decide⟩ ?_
                    refine ws_if_eq (pc := 155) (tgt := 163) C dX4_readWord_155 (by decide) (fun c37 => ?_) (fun c37 => ?_)
                    · have h := ite_t h c37
                      refine ws_aload_n (pc := 163) C dX4_readWord_163 rfl 0 rfl ?_
                      refine ws_ldcS (i := 10) (pc := 164) C dX4_readWord_164 rfl ?_
                      obtain ⟨r38, s39, q40, h⟩ := bd_ok h
                      refine wc_iV (pc := 166)  C [.ref (Z.1 10)] [] (mX4_isWord (by decide) q40) dX4_readWord_166 mw_X4_isWord mv_X4_isWord kl_X4_60 so_tape rfl rfl (Nat.le_of_ble_eq_true rfl) ⟨by decide, by decide⟩ ?_
                      refine ws_if_eq (pc := 169) (tgt := 177) C dX4_readWord_169 (by decide) (fun c41 => ?_) (fun c41 => ?_)
                      · have h := ite_t h c41
                        refine ws_aload_n (pc := 177) C dX4_readWord_177 rfl 0 rfl ?_
                        refine ws_ldcS (i := 11) (pc := 178) C dX4_readWord_178 rfl ?_
                        obtain ⟨r42, s43, q44, h⟩ := bd_ok h
                        refine wc_iV (pc := 180)  C [.ref (Z.1 11)] [] (mX4_isWord (by decide) q44) dX4_readWord_180 mw_X4_isWord mv_X4_isWord kl_X4_60 so_tape rfl rfl (Nat.le_of_ble_eq_true rfl) ⟨by decide, by decide⟩ ?_
                        refine ws_if_eq (pc := 183) (tgt := 191) C dX4_readWord_183 (by decide) (fun c45 => ?_) (fun c45 => ?_)
                        · have h := ite_t h c45
                          refine ws_aload_n (pc := 191) C dX4_readWord_191 rfl 0 rfl ?_
                          refine ws_ldcS (i := 12) (pc := 192) C dX4_readWord_192 rfl ?_
                          obtain ⟨r46, s47, q48, h⟩ := bd_ok h
                          refine wc_iV (pc := 194)  C [.ref (Z.1 12)] [] (mX4_isWord (by decide) q48) dX4_readWord_194 mw_X4_isWord mv_X4_isWord kl_X4_60 so_tape rfl rfl (Nat.le_of_ble_eq_true rfl) ⟨by decide, by decide⟩ ?_
                          refine ws_if_eq (pc := 197) (tgt := 205) C dX4_readWord_197 (by decide) (fun c49 => ?_) (fun c49 => ?_)
                          · have h := ite_t h c49
                            refine ws_iconst (pc := 205) C dX4_readWord_205 ci_1 ?_
                            refine ws_less [0] rfl ?_
                            exact pX4_readWord_J206 C R h
                          · have h := ite_f h c49
                            refine ws_bipush (pc := 200) C dX4_readWord_200 cb_16 ?_
                            refine ws_goto (pc := 202) (tgt := 206) C dX4_readWord_202 (by decide) ?_
                            refine ws_less [0] rfl ?_
                            exact pX4_readWord_J206 C R h
                        · have h := ite_f h c45
                          refine ws_bipush (pc := 186) C dX4_readWord_186 cb_15 ?_
                          refine ws_goto (pc := 188) (tgt := 206) C dX4_readWord_188 (by decide) ?_
                          refine ws_less [0] rfl ?_
                          exact pX4_readWord_J206 C R h
                      · have h := ite_f h c41
                        refine ws_bipush (pc := 172) C dX4_readWord_172 cb_14 ?_
                        refine ws_goto (pc := 174) (tgt := 206) C dX4_readWord_174 (by decide) ?_
                        refine ws_less [0] rfl ?_
                        exact pX4_readWord_J206 C R h
                    · have h := ite_f h c37
                      refine ws_bipush (pc := 158) C dX4_readWord_158 cb_13 ?_
                      refine ws_goto (pc := 160) (tgt := 206) C dX4_readWord_160 (by decide) ?_
                      refine ws_less [0] rfl ?_
                      exact pX4_readWord_J206 C R h
                  · have h := ite_f h c33
                    refine ws_bipush (pc := 144) C dX4_readWord_144 cb_12 ?_
                    refine ws_goto (pc := 146) (tgt := 206) C dX4_readWord_146 (by decide) ?_
                    refine ws_less [0] rfl ?_
                    exact pX4_readWord_J206 C R h
                · have h := ite_f h c29
                  refine ws_bipush (pc := 130) C dX4_readWord_130 cb_11 ?_
                  refine ws_goto (pc := 132) (tgt := 206) C dX4_readWord_132 (by decide) ?_
                  refine ws_less [0] rfl ?_
                  exact pX4_readWord_J206 C R h
              · have h := ite_f h c25
                refine ws_bipush (pc := 116) C dX4_readWord_116 cb_9 ?_
                refine ws_goto (pc := 118) (tgt := 206) C dX4_readWord_118 (by decide) ?_
                refine ws_less [0] rfl ?_
                exact pX4_readWord_J206 C R h
            · have h := ite_f h c21
              refine ws_bipush (pc := 102) C dX4_readWord_102 cb_8 ?_
              refine ws_goto (pc := 104) (tgt := 206) C dX4_readWord_104 (by decide) ?_
              refine ws_less [0] rfl ?_
              exact pX4_readWord_J206 C R h
          · have h := ite_f h c17
            refine ws_bipush (pc := 88) C dX4_readWord_88 cb_7 ?_
            refine ws_goto (pc := 90) (tgt := 206) C dX4_readWord_90 (by decide) ?_
            refine ws_less [0] rfl ?_
            exact pX4_readWord_J206 C R h
        · have h := ite_f h c13
          refine ws_bipush (pc := 74) C dX4_readWord_74 cb_6 ?_
          refine ws_goto (pc := 76) (tgt := 206) C dX4_readWord_76 (by decide) ?_
          refine ws_less [0] rfl ?_
          exact pX4_readWord_J206 C R h
      · have h := ite_f h c9
        refine ws_iconst (pc := 61) C dX4_readWord_61 ci_5 ?_
        refine ws_goto (pc := 62) (tgt := 206) C dX4_readWord_62 (by decide) ?_
        refine ws_less [0] rfl ?_
        exact pX4_readWord_J206 C R h
    · have h := ite_f h c5
      refine ws_iconst (pc := 48) C dX4_readWord_48 ci_4 ?_
      refine ws_goto (pc := 49) (tgt := 206) C dX4_readWord_49 (by decide) ?_
      refine ws_less [0] rfl ?_
      exact pX4_readWord_J206 C R h
set_option maxRecDepth 20000 in
set_option maxHeartbeats 4000000 in
theorem pX4_advance_L0 {Y : xY} {Z : xZ} {B : xB} {z : Int32 × xM} (C : xC (GX Y) Z B "BetweenStops$Tape" cX4_advance 1 7) (R : xRv (GX Y) B z) {k39 : xM → Option (Int32 × xM)}
    (hk39 : ∀  (s : xM), k39 s = some z → xWS (GX Y) B 1 s [(0, .ref (Y.1 77))] 39 []) : ∀ (n : Nat)  (s : xM), fX4_advance_L0 k39 n s = some z → xWS (GX Y) B 1 s [(0, .ref (Y.1 77))] 0 [] := by
  intro n
  induction n with
  | zero =>
    intro s h
    rw [fX4_advance_L0] at h
    cases h
  | succ n ih =>
    intro s h
    rw [fX4_advance_L0] at h
    refine ws_aload_n (pc := 0) C dX4_advance_0 rfl 0 rfl ?_
    refine ws_geti (pc := 1) C dX4_advance_1 fd_X4_25 sf_tape_4 ?_
    refine ws_aload_n (pc := 4) C dX4_advance_4 rfl 0 rfl ?_
    refine ws_geti (pc := 5) C dX4_advance_5 fd_X4_15 sf_tape_1 ?_
    refine ws_icmp_ge (pc := 8) (tgt := 39) C dX4_advance_8 (by decide) (fun c1 => ?_) (fun c1 => ?_)
    · have h := ite_t h c1
      refine ws_less [0] rfl ?_
      exact hk39 _ h
    · have h := ite_f h c1
      refine ws_aload_n (pc := 11) C dX4_advance_11 rfl 0 rfl ?_
      refine ws_getr (pc := 12) C dX4_advance_12 fd_X4_9 sf_tape_0 ?_
      refine ws_aload_n (pc := 15) C dX4_advance_15 rfl 0 rfl ?_
      refine ws_geti (pc := 16) C dX4_advance_16 fd_X4_25 sf_tape_4 ?_
      obtain ⟨g2, h⟩ := gd_ok h
      refine ws_ialdK (pc := 19) C dX4_advance_19 sr_bytes g2 rfl ?_
      obtain ⟨r3, s4, q5, h⟩ := bd_ok h
      refine wc_iS (pc := 20)  C [.int (gi s 78 (gi s 77 4).toNatClampNeg)] [] (mX4_isBlank q5) dX4_advance_20 mw_X4_isBlank ks_X4_isBlank kl_X4_34 rfl rfl (Nat.le_of_ble_eq_true rfl) ⟨by decide, by decide⟩ ?_
      refine ws_if_eq (pc := 23) (tgt := 39) C dX4_advance_23 (by decide) (fun c6 => ?_) (fun c6 => ?_)
      · have h := ite_t h c6
        refine ws_less [0] rfl ?_
        exact hk39 _ h
      · have h := ite_f h c6
        refine ws_aload_n (pc := 26) C dX4_advance_26 rfl 0 rfl ?_
        refine ws_dup (pc := 27) C dX4_advance_27 rfl ?_
        refine ws_geti (pc := 28) C dX4_advance_28 fd_X4_25 sf_tape_4 ?_
        refine ws_iconst (pc := 31) C dX4_advance_31 ci_1 ?_
        refine ws_iadd (pc := 32) C dX4_advance_32 ?_
        obtain ⟨s7, e8, h⟩ := lz_ok h
        refine ws_putI (pc := 33) C dX4_advance_33 fp_X4_25 sf_tape_4 e8 ?_
        refine ws_goto (pc := 36) (tgt := 0) C dX4_advance_36 (by decide) ?_
        refine ws_less [0] rfl ?_
        exact ih _ h
set_option maxRecDepth 20000 in
set_option maxHeartbeats 4000000 in
theorem pX4_advance_J142 {Y : xY} {Z : xZ} {B : xB} {z : Int32 × xM} (C : xC (GX Y) Z B "BetweenStops$Tape" cX4_advance 1 7) (R : xRv (GX Y) B z) {t0 : Int32} {s : xM} (h : fX4_advance_J142 t0 s = some z) : xWS (GX Y) B 1 s [(0, .ref (Y.1 77))] 142 [.int t0, .ref (Y.1 77)] := by
  unfold fX4_advance_J142 at h
  obtain ⟨s1, e2, h⟩ := lz_ok h
  refine ws_putI (pc := 142) C dX4_advance_142 fp_X4_19 sf_tape_2 e2 ?_
  refine ws_aload_n (pc := 145) C dX4_advance_145 rfl 0 rfl ?_
  refine ws_dup (pc := 146) C dX4_advance_146 rfl ?_
  refine ws_geti (pc := 147) C dX4_advance_147 fd_X4_25 sf_tape_4 ?_
  refine ws_iconst (pc := 150) C dX4_advance_150 ci_1 ?_
  refine ws_iadd (pc := 151) C dX4_advance_151 ?_
  obtain ⟨s3, e4, h⟩ := lz_ok h
  refine ws_putI (pc := 152) C dX4_advance_152 fp_X4_25 sf_tape_4 e4 ?_
  exact wr_v (pc := 155) C R dX4_advance_155 h
set_option maxRecDepth 20000 in
set_option maxHeartbeats 4000000 in
theorem mX4_advance {Y : xY} {Z : xZ} {s : xM} {z : Int32 × xM} (h : fX4_advance s = some z) : xMv (GX Y) Z yX4_advance cX4_advance 1 7 [.ref (Y.1 77)] s z := by
  refine xMv_of (by decide) (Nat.le_of_ble_eq_true rfl) (fun B C R => ?_)
  have C : xC (GX Y) Z B "BetweenStops$Tape" cX4_advance 1 7 := C
  show xWS (GX Y) B 1 s [(0, .ref (Y.1 77))] 0 []
  unfold fX4_advance at h
  refine ws_less [0] rfl ?_
  refine pX4_advance_L0 C R (fun s1 h => ?_) fu _ h
  · refine ws_aload_n (pc := 39) C dX4_advance_39 rfl 0 rfl ?_
    refine ws_aload_n (pc := 40) C dX4_advance_40 rfl 0 rfl ?_
    refine ws_geti (pc := 41) C dX4_advance_41 fd_X4_25 sf_tape_4 ?_
    obtain ⟨s2, e3, h⟩ := lz_ok h
    refine ws_putI (pc := 44) C dX4_advance_44 fp_X4_22 sf_tape_3 e3 ?_
    refine ws_aload_n (pc := 47) C dX4_advance_47 rfl 0 rfl ?_
    refine ws_geti (pc := 48) C dX4_advance_48 fd_X4_22 sf_tape_3 ?_
    refine ws_aload_n (pc := 51) C dX4_advance_51 rfl 0 rfl ?_
    refine ws_geti (pc := 52) C dX4_advance_52 fd_X4_15 sf_tape_1 ?_
    refine ws_icmp_lt (pc := 55) (tgt := 66) C dX4_advance_55 (by decide) (fun c4 => ?_) (fun c4 => ?_)
    · have h := ite_t h c4
      refine ws_aload_n (pc := 66) C dX4_advance_66 rfl 0 rfl ?_
      refine ws_getr (pc := 67) C dX4_advance_67 fd_X4_9 sf_tape_0 ?_
      refine ws_aload_n (pc := 70) C dX4_advance_70 rfl 0 rfl ?_
      refine ws_geti (pc := 71) C dX4_advance_71 fd_X4_22 sf_tape_3 ?_
      obtain ⟨g5, h⟩ := gd_ok h
      refine ws_ialdK (pc := 74) C dX4_advance_74 sr_bytes g5 rfl ?_
      obtain ⟨r6, s7, q8, h⟩ := bd_ok h
      refine wc_iS (pc := 75)  C [.int (gi s2 78 (gi s2 77 3).toNatClampNeg)] [] (mX4_isLetter q8) dX4_advance_75 mw_X4_isLetter ks_X4_isLetter kl_X4_38 rfl rfl (Nat.le_of_ble_eq_true rfl) ⟨by decide, by decide⟩ ?_
      refine ws_if_eq (pc := 78) (tgt := 88) C dX4_advance_78 (by decide) (fun c9 => ?_) (fun c9 => ?_)
      · have h := ite_t h c9
        refine ws_aload_n (pc := 88) C dX4_advance_88 rfl 0 rfl ?_
        refine ws_getr (pc := 89) C dX4_advance_89 fd_X4_9 sf_tape_0 ?_
        refine ws_aload_n (pc := 92) C dX4_advance_92 rfl 0 rfl ?_
        refine ws_geti (pc := 93) C dX4_advance_93 fd_X4_22 sf_tape_3 ?_
        obtain ⟨g10, h⟩ := gd_ok h
        refine ws_ialdK (pc := 96) C dX4_advance_96 sr_bytes g10 rfl ?_
        obtain ⟨r11, s12, q13, h⟩ := bd_ok h
        refine wc_iS (pc := 97)  C [.int (gi s7 78 (gi s7 77 3).toNatClampNeg)] [] (mX4_isDigit q13) dX4_advance_97 mw_X4_isDigit ks_X4_isDigit kl_X4_44 rfl rfl (Nat.le_of_ble_eq_true rfl) ⟨by decide, by decide⟩ ?_
        refine ws_if_eq (pc := 100) (tgt := 110) C dX4_advance_100 (by decide) (fun c14 => ?_) (fun c14 => ?_)
        · have h := ite_t h c14
          refine ws_aload_n (pc := 110) C dX4_advance_110 rfl 0 rfl ?_
          refine ws_ldcS (i := 13) (pc := 111) C dX4_advance_111 rfl ?_
          refine ws_aload_n (pc := 113) C dX4_advance_113 rfl 0 rfl ?_
          refine ws_getr (pc := 114) C dX4_advance_114 fd_X4_9 sf_tape_0 ?_
          refine ws_aload_n (pc := 117) C dX4_advance_117 rfl 0 rfl ?_
          refine ws_geti (pc := 118) C dX4_advance_118 fd_X4_22 sf_tape_3 ?_
          obtain ⟨g15, h⟩ := gd_ok h
          refine ws_ialdK (pc := 121) C dX4_advance_121 sr_bytes g15 rfl ?_
          refine ws_i2c (pc := 122) C dX4_advance_122 ?_
          obtain ⟨r16, s17, q18, h⟩ := bd_ok h
          refine wcs_i (pc := 123)  C [.int (((gi s12 78 (gi s12 77 3).toNatClampNeg).toUInt32 % 65536).toInt32)] [.ref (Y.1 77)] (mJ0_indexOf_0f7a4 (by decide) q18) dX4_advance_123 mw_J0_indexOf_0f7a4 mv_J0_indexOf_0f7a4 kl_X4_52 rfl (by decide) rfl rfl (Nat.le_of_ble_eq_true rfl) ⟨by decide, by decide⟩ ?_
          refine ws_if_lt (pc := 126) (tgt := 141) C dX4_advance_126 (by decide) (fun c19 => ?_) (fun c19 => ?_)
          · have h := ite_t h c19
            refine ws_iconst (pc := 141) C dX4_advance_141 ci_1 ?_
            refine ws_less [0] rfl ?_
            exact pX4_advance_J142 C R h
          · have h := ite_f h c19
            refine ws_aload_n (pc := 129) C dX4_advance_129 rfl 0 rfl ?_
            refine ws_getr (pc := 130) C dX4_advance_130 fd_X4_9 sf_tape_0 ?_
            refine ws_aload_n (pc := 133) C dX4_advance_133 rfl 0 rfl ?_
            refine ws_geti (pc := 134) C dX4_advance_134 fd_X4_22 sf_tape_3 ?_
            obtain ⟨g20, h⟩ := gd_ok h
            refine ws_ialdK (pc := 137) C dX4_advance_137 sr_bytes g20 rfl ?_
            refine ws_goto (pc := 138) (tgt := 142) C dX4_advance_138 (by decide) ?_
            refine ws_less [0] rfl ?_
            exact pX4_advance_J142 C R h
        · have h := ite_f h c14
          refine ws_aload_n (pc := 103) C dX4_advance_103 rfl 0 rfl ?_
          obtain ⟨r21, s22, q23, h⟩ := bd_ok h
          refine wc_vV (pc := 104)  C [] [] (mX4_readNumber q23) dX4_advance_104 mw_X4_readNumber mv_X4_readNumber kl_X4_47 so_tape rfl rfl (Nat.le_of_ble_eq_true rfl) ⟨by decide, by decide⟩ ?_
          refine ws_goto (pc := 107) (tgt := 155) C dX4_advance_107 (by decide) ?_
          exact wr_v (pc := 155) C R dX4_advance_155 h
      · have h := ite_f h c9
        refine ws_aload_n (pc := 81) C dX4_advance_81 rfl 0 rfl ?_
        obtain ⟨r24, s25, q26, h⟩ := bd_ok h
        refine wc_vV (pc := 82)  C [] [] (mX4_readWord q26) dX4_advance_82 mw_X4_readWord mv_X4_readWord kl_X4_41 so_tape rfl rfl (Nat.le_of_ble_eq_true rfl) ⟨by decide, by decide⟩ ?_
        refine ws_goto (pc := 85) (tgt := 155) C dX4_advance_85 (by decide) ?_
        exact wr_v (pc := 155) C R dX4_advance_155 h
    · have h := ite_f h c4
      refine ws_aload_n (pc := 58) C dX4_advance_58 rfl 0 rfl ?_
      refine ws_iconst (pc := 59) C dX4_advance_59 ci_0 ?_
      obtain ⟨s27, e28, h⟩ := lz_ok h
      refine ws_putI (pc := 60) C dX4_advance_60 fp_X4_19 sf_tape_2 e28 ?_
      refine ws_goto (pc := 63) (tgt := 155) C dX4_advance_63 (by decide) ?_
      exact wr_v (pc := 155) C R dX4_advance_155 h
set_option maxRecDepth 20000 in
set_option maxHeartbeats 4000000 in
theorem mX4_rewind {Y : xY} {Z : xZ} {s : xM} {z : Int32 × xM} (h : fX4_rewind s = some z) : xMv (GX Y) Z yX4_rewind cX4_rewind 1 8 [.ref (Y.1 77)] s z := by
  refine xMv_of (by decide) (Nat.le_of_ble_eq_true rfl) (fun B C R => ?_)
  have C : xC (GX Y) Z B "BetweenStops$Tape" cX4_rewind 1 8 := C
  show xWS (GX Y) B 1 s [(0, .ref (Y.1 77))] 0 []
  unfold fX4_rewind at h
  refine ws_aload_n (pc := 0) C dX4_rewind_0 rfl 0 rfl ?_
  refine ws_iconst (pc := 1) C dX4_rewind_1 ci_0 ?_
  obtain ⟨s1, e2, h⟩ := lz_ok h
  refine ws_putI (pc := 2) C dX4_rewind_2 fp_X4_25 sf_tape_4 e2 ?_
  refine ws_aload_n (pc := 5) C dX4_rewind_5 rfl 0 rfl ?_
  obtain ⟨r3, s4, q5, h⟩ := bd_ok h
  refine wc_vV (pc := 6)  C [] [] (mX4_advance q5) dX4_rewind_6 mw_X4_advance mv_X4_advance kl_X4_31 so_tape rfl rfl (Nat.le_of_ble_eq_true rfl) ⟨by decide, by decide⟩ ?_
  exact wr_v (pc := 9) C R dX4_rewind_9 h
set_option maxRecDepth 20000 in
set_option maxHeartbeats 4000000 in
theorem mX1_passes {Y : xY} {Z : xZ} {a1 : Int32} {s : xM} {z : Int32 × xM} (h : fX1_passes a1 s = some z) : xMi (GX Y) Z yX1_passes cX1_passes 2 8 .boolean [.ref (Y.1 79), .int a1] s z := by
  refine xMi_of (by decide) (Nat.le_of_ble_eq_true rfl) (fun B C R => ?_)
  have C : xC (GX Y) Z B "BetweenStops$Reader" cX1_passes 2 8 := C
  show xWS (GX Y) B 2 s [(0, .ref (Y.1 79)), (1, .int a1)] 0 []
  unfold fX1_passes at h
  refine ws_aload_n (pc := 0) C dX1_passes_0 rfl 0 rfl ?_
  refine ws_getr (pc := 1) C dX1_passes_1 fd_X1_9 sf_reader_0 ?_
  refine ws_geti (pc := 4) C dX1_passes_4 fd_X1_40 sf_tape_2 ?_
  refine ws_iload_n (pc := 7) C dX1_passes_7 rfl 1 rfl ?_
  refine ws_icmp_eq (pc := 8) (tgt := 13) C dX1_passes_8 (by decide) (fun c1 => ?_) (fun c1 => ?_)
  · have h := ite_t h c1
    refine ws_aload_n (pc := 13) C dX1_passes_13 rfl 0 rfl ?_
    refine ws_getr (pc := 14) C dX1_passes_14 fd_X1_9 sf_reader_0 ?_
    obtain ⟨r2, s3, q4, h⟩ := bd_ok h
    refine wc_vV (pc := 17)  C [] [] (mX4_advance q4) dX1_passes_17 mw_X4_advance mv_X4_advance kl_X1_43 so_tape rfl rfl (Nat.le_of_ble_eq_true rfl) ⟨by decide, by decide⟩ ?_
    refine ws_iconst (pc := 20) C dX1_passes_20 ci_1 ?_
    exact wr_i (pc := 21) C R dX1_passes_21 (isZ_nar isZ1) h
  · have h := ite_f h c1
    refine ws_iconst (pc := 11) C dX1_passes_11 ci_0 ?_
    exact wr_i (pc := 12) C R dX1_passes_12 (isZ_nar isZ0) h
set_option maxRecDepth 20000 in
set_option maxHeartbeats 4000000 in
theorem mX1_readBehind {Y : xY} {Z : xZ} {rl : Nat → Int32 → Int32 → xM → Option (Int32 × xM)} {dl : Nat} (hrl : ∀ (j : Nat) (x y : Int32) (s : xM) (z : Int32 × xM), j < 6 → rl j x y s = some z → xMi (GX Y) Z yX1_readLevel cX1_readLevel 7 dl .boolean [.ref (Y.1 79), .ref (Y.1 (97 + 4 * j)), .int x, .int y] s z) (hdl : 12 ≤ dl) {a1 : Nat} {a2 : Int32} {a3 : Int32} {a4 : Int32} (ha1 : a1 < 6) {s : xM} {z : Int32 × xM} (h : fX1_readBehind rl a1 a2 a3 a4 s = some z) : xMi (GX Y) Z yX1_readBehind cX1_readBehind 5 (dl + 1) .boolean [.ref (Y.1 79), .ref (Y.1 (97 + 4 * a1)), .int a2, .int a3, .int a4] s z := by
  refine xMi_of (by decide) (Nat.le_of_ble_eq_true rfl) (fun B C R => ?_)
  have C : xC (GX Y) Z B "BetweenStops$Reader" cX1_readBehind 5 (dl + 1) := C
  show xWS (GX Y) B 5 s [(0, .ref (Y.1 79)), (1, .ref (Y.1 (97 + 4 * a1))), (2, .int a2), (3, .int a3), (4, .int a4)] 0 []
  unfold fX1_readBehind at h
  refine ws_iload (pc := 0) C dX1_readBehind_0 4 rfl ?_
  refine ws_iconst (pc := 2) C dX1_readBehind_2 ci_5 ?_
  refine ws_icmp_lt (pc := 3) (tgt := 8) C dX1_readBehind_3 (by decide) (fun c1 => ?_) (fun c1 => ?_)
  · have h := ite_t h c1
    refine ws_aload_n (pc := 8) C dX1_readBehind_8 rfl 0 rfl ?_
    refine ws_getr (pc := 9) C dX1_readBehind_9 fd_X1_9 sf_reader_0 ?_
    obtain ⟨r2, s3, q4, h⟩ := bd_ok h
    refine wc_vV (pc := 12)  C [] [] (mX4_advance q4) dX1_readBehind_12 mw_X4_advance mv_X4_advance kl_X1_43 so_tape rfl rfl (Nat.le_of_ble_eq_true rfl) ⟨by omega, by omega⟩ ?_
    refine ws_aload_n (pc := 15) C dX1_readBehind_15 rfl 0 rfl ?_
    refine ws_aload_n (pc := 16) C dX1_readBehind_16 rfl 1 rfl ?_
    refine ws_iload_n (pc := 17) C dX1_readBehind_17 rfl 3 rfl ?_
    refine ws_iload (pc := 18) C dX1_readBehind_18 4 rfl ?_
    refine ws_iconst (pc := 20) C dX1_readBehind_20 ci_1 ?_
    refine ws_iadd (pc := 21) C dX1_readBehind_21 ?_
    obtain ⟨r5, s6, q7, h⟩ := bd_ok h
    refine wc_iV (pc := 22)  C [.ref (Y.1 (97 + 4 * a1)), .int a3, .int (a4 + (1 : Int32))] [] (hrl _ _ _ _ _ ha1 q7) dX1_readBehind_22 mw_X1_readLevel mv_X1_readLevel kl_X1_29 so_reader rfl rfl (Nat.le_of_ble_eq_true rfl) ⟨by omega, by omega⟩ ?_
    refine ws_if_ne (pc := 25) (tgt := 30) C dX1_readBehind_25 (by decide) (fun c8 => ?_) (fun c8 => ?_)
    · have h := ite_f h c8
      refine ws_aload_n (pc := 30) C dX1_readBehind_30 rfl 1 rfl ?_
      refine ws_iload_n (pc := 31) C dX1_readBehind_31 rfl 2 rfl ?_
      obtain ⟨r9, s10, q11, h⟩ := bd_ok h
      refine wc_vV (pc := 32)  C [.int a2] [] (mX5_addSign ha1 q11) dX1_readBehind_32 mw_X5_addSign mv_X5_addSign kl_X1_58 (so_text ha1) rfl rfl (Nat.le_of_ble_eq_true rfl) ⟨by omega, by omega⟩ ?_
      refine ws_iconst (pc := 35) C dX1_readBehind_35 ci_1 ?_
      exact wr_i (pc := 36) C R dX1_readBehind_36 (isZ_nar isZ1) h
    · have h := ite_t h c8
      refine ws_iconst (pc := 28) C dX1_readBehind_28 ci_0 ?_
      exact wr_i (pc := 29) C R dX1_readBehind_29 (isZ_nar isZ0) h
  · have h := ite_f h c1
    refine ws_iconst (pc := 6) C dX1_readBehind_6 ci_0 ?_
    exact wr_i (pc := 7) C R dX1_readBehind_7 (isZ_nar isZ0) h
set_option maxRecDepth 20000 in
set_option maxHeartbeats 4000000 in
theorem mX1_readInside {Y : xY} {Z : xZ} {rl : Nat → Int32 → Int32 → xM → Option (Int32 × xM)} {dl : Nat} (hrl : ∀ (j : Nat) (x y : Int32) (s : xM) (z : Int32 × xM), j < 6 → rl j x y s = some z → xMi (GX Y) Z yX1_readLevel cX1_readLevel 7 dl .boolean [.ref (Y.1 79), .ref (Y.1 (97 + 4 * j)), .int x, .int y] s z) (hdl : 12 ≤ dl) {a1 : Nat} {a2 : Int32} (ha1 : a1 < 6) {s : xM} {z : Int32 × xM} (h : fX1_readInside rl a1 a2 s = some z) : xMi (GX Y) Z yX1_readInside cX1_readInside 3 (dl + 1) .boolean [.ref (Y.1 79), .ref (Y.1 (97 + 4 * a1)), .int a2] s z := by
  refine xMi_of (by decide) (Nat.le_of_ble_eq_true rfl) (fun B C R => ?_)
  have C : xC (GX Y) Z B "BetweenStops$Reader" cX1_readInside 3 (dl + 1) := C
  show xWS (GX Y) B 3 s [(0, .ref (Y.1 79)), (1, .ref (Y.1 (97 + 4 * a1))), (2, .int a2)] 0 []
  unfold fX1_readInside at h
  refine ws_iload_n (pc := 0) C dX1_readInside_0 rfl 2 rfl ?_
  refine ws_iconst (pc := 1) C dX1_readInside_1 ci_5 ?_
  refine ws_icmp_lt (pc := 2) (tgt := 7) C dX1_readInside_2 (by decide) (fun c1 => ?_) (fun c1 => ?_)
  · have h := ite_t h c1
    refine ws_aload_n (pc := 7) C dX1_readInside_7 rfl 0 rfl ?_
    refine ws_getr (pc := 8) C dX1_readInside_8 fd_X1_9 sf_reader_0 ?_
    obtain ⟨r2, s3, q4, h⟩ := bd_ok h
    refine wc_vV (pc := 11)  C [] [] (mX4_advance q4) dX1_readInside_11 mw_X4_advance mv_X4_advance kl_X1_43 so_tape rfl rfl (Nat.le_of_ble_eq_true rfl) ⟨by omega, by omega⟩ ?_
    refine ws_aload_n (pc := 14) C dX1_readInside_14 rfl 0 rfl ?_
    refine ws_aload_n (pc := 15) C dX1_readInside_15 rfl 1 rfl ?_
    refine ws_iconst (pc := 16) C dX1_readInside_16 ci_0 ?_
    refine ws_iload_n (pc := 17) C dX1_readInside_17 rfl 2 rfl ?_
    refine ws_iconst (pc := 18) C dX1_readInside_18 ci_1 ?_
    refine ws_iadd (pc := 19) C dX1_readInside_19 ?_
    obtain ⟨r5, s6, q7, h⟩ := bd_ok h
    refine wc_iV (pc := 20)  C [.ref (Y.1 (97 + 4 * a1)), .int (0 : Int32), .int (a2 + (1 : Int32))] [] (hrl _ _ _ _ _ ha1 q7) dX1_readInside_20 mw_X1_readLevel mv_X1_readLevel kl_X1_29 so_reader rfl rfl (Nat.le_of_ble_eq_true rfl) ⟨by omega, by omega⟩ ?_
    refine ws_if_eq (pc := 23) (tgt := 39) C dX1_readInside_23 (by decide) (fun c8 => ?_) (fun c8 => ?_)
    · have h := ite_t h c8
      refine ws_iconst (pc := 39) C dX1_readInside_39 ci_0 ?_
      exact wr_i (pc := 40) C R dX1_readInside_40 (isZ_nar isZ0) h
    · have h := ite_f h c8
      refine ws_aload_n (pc := 26) C dX1_readInside_26 rfl 0 rfl ?_
      refine ws_bipush (pc := 27) C dX1_readInside_27 cb_41 ?_
      obtain ⟨r9, s10, q11, h⟩ := bd_ok h
      refine wc_iV (pc := 29)  C [.int (41 : Int32)] [] (mX1_passes q11) dX1_readInside_29 mw_X1_passes mv_X1_passes kl_X1_25 so_reader rfl rfl (Nat.le_of_ble_eq_true rfl) ⟨by omega, by omega⟩ ?_
      refine ws_if_eq (pc := 32) (tgt := 39) C dX1_readInside_32 (by decide) (fun c12 => ?_) (fun c12 => ?_)
      · have h := ite_t h c12
        refine ws_iconst (pc := 39) C dX1_readInside_39 ci_0 ?_
        exact wr_i (pc := 40) C R dX1_readInside_40 (isZ_nar isZ0) h
      · have h := ite_f h c12
        refine ws_iconst (pc := 35) C dX1_readInside_35 ci_1 ?_
        refine ws_goto (pc := 36) (tgt := 40) C dX1_readInside_36 (by decide) ?_
        exact wr_i (pc := 40) C R dX1_readInside_40 (isZ_nar isZ1) h
  · have h := ite_f h c1
    refine ws_iconst (pc := 5) C dX1_readInside_5 ci_0 ?_
    exact wr_i (pc := 6) C R dX1_readInside_6 (isZ_nar isZ0) h
set_option maxRecDepth 20000 in
set_option maxHeartbeats 4000000 in
theorem mX1_readOne {Y : xY} {Z : xZ} {rl : Nat → Int32 → Int32 → xM → Option (Int32 × xM)} {dl : Nat} (hrl : ∀ (j : Nat) (x y : Int32) (s : xM) (z : Int32 × xM), j < 6 → rl j x y s = some z → xMi (GX Y) Z yX1_readLevel cX1_readLevel 7 dl .boolean [.ref (Y.1 79), .ref (Y.1 (97 + 4 * j)), .int x, .int y] s z) (hdl : 12 ≤ dl) {a1 : Nat} {a2 : Int32} (ha1 : a1 < 6) {s : xM} {z : Int32 × xM} (h : fX1_readOne rl a1 a2 s = some z) : xMi (GX Y) Z yX1_readOne cX1_readOne 3 (dl + 2) .boolean [.ref (Y.1 79), .ref (Y.1 (97 + 4 * a1)), .int a2] s z := by
  refine xMi_of (by decide) (Nat.le_of_ble_eq_true rfl) (fun B C R => ?_)
  have C : xC (GX Y) Z B "BetweenStops$Reader" cX1_readOne 3 (dl + 2) := C
  show xWS (GX Y) B 3 s [(0, .ref (Y.1 79)), (1, .ref (Y.1 (97 + 4 * a1))), (2, .int a2)] 0 []
  unfold fX1_readOne at h
  refine ws_aload_n (pc := 0) C dX1_readOne_0 rfl 0 rfl ?_
  refine ws_getr (pc := 1) C dX1_readOne_1 fd_X1_9 sf_reader_0 ?_
  refine ws_geti (pc := 4) C dX1_readOne_4 fd_X1_40 sf_tape_2 ?_
  by_cases c1 : (gi s 77 2) = (2 : Int32)
  · have h := ite_t h c1
    refine ws_lku (pc := 7) (off := 41) (tgt := 48) C c1 dX1_readOne_7 (by decide) (by decide) (by decide) ?_
    refine ws_aload_n (pc := 48) C dX1_readOne_48 rfl 1 rfl ?_
    refine ws_aload_n (pc := 49) C dX1_readOne_49 rfl 0 rfl ?_
    refine ws_getr (pc := 50) C dX1_readOne_50 fd_X1_9 sf_reader_0 ?_
    refine ws_geti (pc := 53) C dX1_readOne_53 fd_X1_62 sf_tape_5 ?_
    obtain ⟨r2, s3, q4, h⟩ := bd_ok h
    refine wc_vV (pc := 56)  C [.int (gi s 77 5)] [] (mX5_addNumber ha1 q4) dX1_readOne_56 mw_X5_addNumber mv_X5_addNumber kl_X1_65 (so_text ha1) rfl rfl (Nat.le_of_ble_eq_true rfl) ⟨by omega, by omega⟩ ?_
    refine ws_aload_n (pc := 59) C dX1_readOne_59 rfl 0 rfl ?_
    refine ws_getr (pc := 60) C dX1_readOne_60 fd_X1_9 sf_reader_0 ?_
    obtain ⟨r5, s6, q7, h⟩ := bd_ok h
    refine wc_vV (pc := 63)  C [] [] (mX4_advance q7) dX1_readOne_63 mw_X4_advance mv_X4_advance kl_X1_43 so_tape rfl rfl (Nat.le_of_ble_eq_true rfl) ⟨by omega, by omega⟩ ?_
    refine ws_iconst (pc := 66) C dX1_readOne_66 ci_1 ?_
    exact wr_i (pc := 67) C R dX1_readOne_67 (isZ_nar isZ1) h
  replace h := ite_f h c1
  by_cases c8 : (gi s 77 2) = (3 : Int32)
  · have h := ite_t h c8
    refine ws_lku (pc := 7) (off := 61) (tgt := 68) C c8 dX1_readOne_7 (by decide) (by decide) (by decide) ?_
    refine ws_aload_n (pc := 68) C dX1_readOne_68 rfl 1 rfl ?_
    refine ws_aload_n (pc := 69) C dX1_readOne_69 rfl 0 rfl ?_
    refine ws_getr (pc := 70) C dX1_readOne_70 fd_X1_9 sf_reader_0 ?_
    refine ws_geti (pc := 73) C dX1_readOne_73 fd_X1_62 sf_tape_5 ?_
    obtain ⟨r9, s10, q11, h⟩ := bd_ok h
    refine wc_vV (pc := 76)  C [.int (gi s 77 5)] [] (mX5_addName ha1 q11) dX1_readOne_76 mw_X5_addName mv_X5_addName kl_X1_68 (so_text ha1) rfl rfl (Nat.le_of_ble_eq_true rfl) ⟨by omega, by omega⟩ ?_
    refine ws_aload_n (pc := 79) C dX1_readOne_79 rfl 0 rfl ?_
    refine ws_getr (pc := 80) C dX1_readOne_80 fd_X1_9 sf_reader_0 ?_
    obtain ⟨r12, s13, q14, h⟩ := bd_ok h
    refine wc_vV (pc := 83)  C [] [] (mX4_advance q14) dX1_readOne_83 mw_X4_advance mv_X4_advance kl_X1_43 so_tape rfl rfl (Nat.le_of_ble_eq_true rfl) ⟨by omega, by omega⟩ ?_
    refine ws_iconst (pc := 86) C dX1_readOne_86 ci_1 ?_
    exact wr_i (pc := 87) C R dX1_readOne_87 (isZ_nar isZ1) h
  replace h := ite_f h c8
  by_cases c15 : (gi s 77 2) = (40 : Int32)
  · have h := ite_t h c15
    refine ws_lku (pc := 7) (off := 91) (tgt := 98) C c15 dX1_readOne_7 (by decide) (by decide) (by decide) ?_
    refine ws_aload_n (pc := 98) C dX1_readOne_98 rfl 0 rfl ?_
    refine ws_aload_n (pc := 99) C dX1_readOne_99 rfl 1 rfl ?_
    refine ws_iload_n (pc := 100) C dX1_readOne_100 rfl 2 rfl ?_
    obtain ⟨r16, s17, q18, h⟩ := bd_ok h
    refine wc_iV (pc := 101)  C [.ref (Y.1 (97 + 4 * a1)), .int a2] [] (mX1_readInside hrl hdl ha1 q18) dX1_readOne_101 mw_X1_readInside mv_X1_readInside kl_X1_71 so_reader rfl rfl (Nat.le_of_ble_eq_true rfl) ⟨by omega, by omega⟩ ?_
    obtain ⟨g19, h⟩ := gd_ok h
    exact wr_i (pc := 104) C R dX1_readOne_104 (isZ_nar g19) h
  replace h := ite_f h c15
  by_cases c20 : (gi s 77 2) = (45 : Int32)
  · have h := ite_t h c20
    refine ws_lku (pc := 7) (off := 81) (tgt := 88) C c20 dX1_readOne_7 (by decide) (by decide) (by decide) ?_
    refine ws_aload_n (pc := 88) C dX1_readOne_88 rfl 0 rfl ?_
    refine ws_aload_n (pc := 89) C dX1_readOne_89 rfl 1 rfl ?_
    refine ws_bipush (pc := 90) C dX1_readOne_90 cb_10 ?_
    refine ws_iconst (pc := 92) C dX1_readOne_92 ci_5 ?_
    refine ws_iload_n (pc := 93) C dX1_readOne_93 rfl 2 rfl ?_
    obtain ⟨r21, s22, q23, h⟩ := bd_ok h
    refine wc_iV (pc := 94)  C [.ref (Y.1 (97 + 4 * a1)), .int (10 : Int32), .int (5 : Int32), .int a2] [] (mX1_readBehind hrl hdl ha1 q23) dX1_readOne_94 mw_X1_readBehind mv_X1_readBehind kl_X1_50 so_reader rfl rfl (Nat.le_of_ble_eq_true rfl) ⟨by omega, by omega⟩ ?_
    obtain ⟨g24, h⟩ := gd_ok h
    exact wr_i (pc := 97) C R dX1_readOne_97 (isZ_nar g24) h
  replace h := ite_f h c20
  have ec1 : ¬ (2 : Int) = ((gi s 77 2)).toInt := fun q => lv_neT c1 (show (2 : Int32).toInt = 2 by decide) q.symm
  have ec8 : ¬ (3 : Int) = ((gi s 77 2)).toInt := fun q => lv_neT c8 (show (3 : Int32).toInt = 3 by decide) q.symm
  have ec15 : ¬ (40 : Int) = ((gi s 77 2)).toInt := fun q => lv_neT c15 (show (40 : Int32).toInt = 40 by decide) q.symm
  have ec20 : ¬ (45 : Int) = ((gi s 77 2)).toInt := fun q => lv_neT c20 (show (45 : Int32).toInt = 45 by decide) q.symm
  refine ws_lookup (pc := 7) (off := 98) (tgt := 105) C dX1_readOne_7 (by decide) (by simp [Op.lookupswitch.offset, ec1, ec8, ec15, ec20]) (by decide) ?_
  refine ws_iconst (pc := 105) C dX1_readOne_105 ci_0 ?_
  exact wr_i (pc := 106) C R dX1_readOne_106 (isZ_nar isZ0) h
set_option maxRecDepth 20000 in
set_option maxHeartbeats 4000000 in
theorem pX1_readLevel_L70 {Y : xY} {Z : xZ} {B : xB} {z : Int32 × xM} {rl : Nat → Int32 → Int32 → xM → Option (Int32 × xM)} {dl : Nat} (hrl : ∀ (j : Nat) (x y : Int32) (s : xM) (z : Int32 × xM), j < 6 → rl j x y s = some z → xMi (GX Y) Z yX1_readLevel cX1_readLevel 7 dl .boolean [.ref (Y.1 79), .ref (Y.1 (97 + 4 * j)), .int x, .int y] s z) (hdl : 12 ≤ dl) (C : xC (GX Y) Z B "BetweenStops$Reader" cX1_readLevel 7 (dl + 3)) (R : xRi (GX Y) B .boolean z) {k119 : xM → Option (Int32 × xM)} {k133 : xM → Option (Int32 × xM)} {a1 : Nat} {a2 : Int32} {a3 : Int32} {a4 : Int32}
    (hk119 : ∀  (s : xM), k119 s = some z → xWS (GX Y) B 7 s [] 119 [])
    (hk133 : ∀  (s : xM), k133 s = some z → xWS (GX Y) B 7 s [] 133 []) (ha1 : a1 < 6) : ∀ (n : Nat) (a5 : Int32) (s : xM), fX1_readLevel_L70 rl k119 k133 a1 a2 a3 a4 n a5 s = some z → xWS (GX Y) B 7 s [(0, .ref (Y.1 79)), (1, .ref (Y.1 (97 + 4 * a1))), (2, .int a2), (3, .int a3), (4, .int a4), (5, .int a5)] 70 [] := by
  intro n
  induction n with
  | zero =>
    intro a5 s h
    rw [fX1_readLevel_L70] at h
    cases h
  | succ n ih =>
    intro a5 s h
    rw [fX1_readLevel_L70] at h
    refine ws_iload (pc := 70) C dX1_readLevel_70 5 rfl ?_
    refine ws_iload (pc := 72) C dX1_readLevel_72 4 rfl ?_
    refine ws_icmp_ge (pc := 74) (tgt := 133) C dX1_readLevel_74 (by decide) (fun c1 => ?_) (fun c1 => ?_)
    · have h := ite_t h c1
      refine ws_less [] rfl ?_
      exact hk133 _ h
    · have h := ite_f h c1
      refine ws_iload_n (pc := 77) C dX1_readLevel_77 rfl 2 rfl ?_
      refine ws_aload_n (pc := 78) C dX1_readLevel_78 rfl 0 rfl ?_
      refine ws_getr (pc := 79) C dX1_readLevel_79 fd_X1_9 sf_reader_0 ?_
      refine ws_geti (pc := 82) C dX1_readLevel_82 fd_X1_40 sf_tape_2 ?_
      obtain ⟨r2, s3, q4, h⟩ := bd_ok h
      refine wc_iS (pc := 85)  C [.int a2, .int (gi s 77 2)] [] (mX1_joinsAt q4) dX1_readLevel_85 mw_X1_joinsAt ks_X1_joinsAt kl_X1_54 rfl rfl (Nat.le_of_ble_eq_true rfl) ⟨by omega, by omega⟩ ?_
      refine ws_if_eq (pc := 88) (tgt := 133) C dX1_readLevel_88 (by decide) (fun c5 => ?_) (fun c5 => ?_)
      · have h := ite_t h c5
        refine ws_less [] rfl ?_
        exact hk133 _ h
      · have h := ite_f h c5
        refine ws_aload_n (pc := 91) C dX1_readLevel_91 rfl 0 rfl ?_
        refine ws_getr (pc := 92) C dX1_readLevel_92 fd_X1_9 sf_reader_0 ?_
        refine ws_geti (pc := 95) C dX1_readLevel_95 fd_X1_40 sf_tape_2 ?_
        obtain ⟨v6, e7, h⟩ := lz_ok h
        refine ws_topi C e7 ?_
        refine ws_istore (pc := 98) C dX1_readLevel_98 (by decide) rfl ?_
        refine ws_aload_n (pc := 100) C dX1_readLevel_100 rfl 1 rfl ?_
        refine ws_getr (pc := 101) C dX1_readLevel_101 fd_X1_9 sf_reader_0 ?_
        obtain ⟨r8, s9, q10, h⟩ := bd_ok h
        refine wc_vV (pc := 104)  C [] [] (mX4_advance q10) dX1_readLevel_104 mw_X4_advance mv_X4_advance kl_X1_43 so_tape rfl rfl (Nat.le_of_ble_eq_true rfl) ⟨by omega, by omega⟩ ?_
        refine ws_aload_n (pc := 107) C dX1_readLevel_107 rfl 1 rfl ?_
        refine ws_aload_n (pc := 108) C dX1_readLevel_108 rfl 2 rfl ?_
        refine ws_iload_n (pc := 109) C dX1_readLevel_109 rfl 3 rfl ?_
        refine ws_iconst (pc := 110) C dX1_readLevel_110 ci_1 ?_
        refine ws_iadd (pc := 111) C dX1_readLevel_111 ?_
        refine ws_iload_n (pc := 112) C dX1_readLevel_112 rfl 4 rfl ?_
        obtain ⟨r11, s12, q13, h⟩ := bd_ok h
        refine wc_iV (pc := 113)  C [.ref (Y.1 (97 + 4 * a1)), .int (a2 + (1 : Int32)), .int a3] [] (hrl _ _ _ _ _ ha1 q13) dX1_readLevel_113 mw_X1_readLevel mv_X1_readLevel kl_X1_29 so_reader rfl rfl (Nat.le_of_ble_eq_true rfl) ⟨by omega, by omega⟩ ?_
        refine ws_if_ne (pc := 116) (tgt := 121) C dX1_readLevel_116 (by decide) (fun c14 => ?_) (fun c14 => ?_)
        · have h := ite_f h c14
          refine ws_aload_n (pc := 121) C dX1_readLevel_121 rfl 2 rfl ?_
          refine ws_iload (pc := 122) C dX1_readLevel_122 0 rfl ?_
          obtain ⟨r15, s16, q17, h⟩ := bd_ok h
          refine wc_vV (pc := 124)  C [.int v6] [] (mX5_addSign ha1 q17) dX1_readLevel_124 mw_X5_addSign mv_X5_addSign kl_X1_58 (so_text ha1) rfl rfl (Nat.le_of_ble_eq_true rfl) ⟨by omega, by omega⟩ ?_
          refine ws_iinc (j := 6) (pc := 127) C dX1_readLevel_127 rfl (cn_1 _) (by decide) rfl ?_
          refine ws_goto (pc := 130) (tgt := 70) C dX1_readLevel_130 (by decide) ?_
          refine ws_less [2, 3, 4, 5, 6, 0] rfl ?_
          exact ih _ _ h
        · have h := ite_t h c14
          refine ws_less [] rfl ?_
          exact hk119 _ h
set_option maxRecDepth 20000 in
set_option maxHeartbeats 4000000 in
theorem pX1_readLevel_J65 {Y : xY} {Z : xZ} {B : xB} {z : Int32 × xM} {rl : Nat → Int32 → Int32 → xM → Option (Int32 × xM)} {dl : Nat} (hrl : ∀ (j : Nat) (x y : Int32) (s : xM) (z : Int32 × xM), j < 6 → rl j x y s = some z → xMi (GX Y) Z yX1_readLevel cX1_readLevel 7 dl .boolean [.ref (Y.1 79), .ref (Y.1 (97 + 4 * j)), .int x, .int y] s z) (hdl : 12 ≤ dl) (C : xC (GX Y) Z B "BetweenStops$Reader" cX1_readLevel 7 (dl + 3)) (R : xRi (GX Y) B .boolean z) {a1 : Nat} {a2 : Int32} {a3 : Int32} {t0 : Int32} (ha1 : a1 < 6) {s : xM} (h : fX1_readLevel_J65 rl a1 a2 a3 t0 s = some z) : xWS (GX Y) B 7 s [(0, .ref (Y.1 79)), (1, .ref (Y.1 (97 + 4 * a1))), (2, .int a2), (3, .int a3)] 65 [.int t0] := by
  unfold fX1_readLevel_J65 at h
  refine ws_istore (pc := 65) C dX1_readLevel_65 (by decide) rfl ?_
  refine ws_iconst (pc := 67) C dX1_readLevel_67 ci_0 ?_
  refine ws_istore (pc := 68) C dX1_readLevel_68 (by decide) rfl ?_
  refine ws_less [2, 3, 4, 5, 1, 0] rfl ?_
  refine pX1_readLevel_L70 hrl hdl C R (fun s1 h => ?_) (fun s2 h => ?_) ha1 fu _ _ h
  · refine ws_iconst (pc := 119) C dX1_readLevel_119 ci_0 ?_
    exact wr_i (pc := 120) C R dX1_readLevel_120 (isZ_nar isZ0) h
  · refine ws_iconst (pc := 133) C dX1_readLevel_133 ci_1 ?_
    exact wr_i (pc := 134) C R dX1_readLevel_134 (isZ_nar isZ1) h
set_option maxRecDepth 20000 in
set_option maxHeartbeats 4000000 in
theorem pX1_readLevel_J39 {Y : xY} {Z : xZ} {B : xB} {z : Int32 × xM} {rl : Nat → Int32 → Int32 → xM → Option (Int32 × xM)} {dl : Nat} (hrl : ∀ (j : Nat) (x y : Int32) (s : xM) (z : Int32 × xM), j < 6 → rl j x y s = some z → xMi (GX Y) Z yX1_readLevel cX1_readLevel 7 dl .boolean [.ref (Y.1 79), .ref (Y.1 (97 + 4 * j)), .int x, .int y] s z) (hdl : 12 ≤ dl) (C : xC (GX Y) Z B "BetweenStops$Reader" cX1_readLevel 7 (dl + 3)) (R : xRi (GX Y) B .boolean z) {a1 : Nat} {a2 : Int32} {a3 : Int32} (ha1 : a1 < 6) {s : xM} (h : fX1_readLevel_J39 rl a1 a2 a3 s = some z) : xWS (GX Y) B 7 s [(0, .ref (Y.1 79)), (1, .ref (Y.1 (97 + 4 * a1))), (2, .int a2), (3, .int a3)] 39 [] := by
  unfold fX1_readLevel_J39 at h
  refine ws_aload_n (pc := 39) C dX1_readLevel_39 rfl 0 rfl ?_
  refine ws_aload_n (pc := 40) C dX1_readLevel_40 rfl 1 rfl ?_
  refine ws_iload_n (pc := 41) C dX1_readLevel_41 rfl 2 rfl ?_
  refine ws_iconst (pc := 42) C dX1_readLevel_42 ci_1 ?_
  refine ws_iadd (pc := 43) C dX1_readLevel_43 ?_
  refine ws_iload_n (pc := 44) C dX1_readLevel_44 rfl 3 rfl ?_
  obtain ⟨r1, s2, q3, h⟩ := bd_ok h
  refine wc_iV (pc := 45)  C [.ref (Y.1 (97 + 4 * a1)), .int (a2 + (1 : Int32)), .int a3] [] (hrl _ _ _ _ _ ha1 q3) dX1_readLevel_45 mw_X1_readLevel mv_X1_readLevel kl_X1_29 so_reader rfl rfl (Nat.le_of_ble_eq_true rfl) ⟨by omega, by omega⟩ ?_
  refine ws_if_ne (pc := 48) (tgt := 53) C dX1_readLevel_48 (by decide) (fun c4 => ?_) (fun c4 => ?_)
  · have h := ite_f h c4
    refine ws_iload_n (pc := 53) C dX1_readLevel_53 rfl 2 rfl ?_
    refine ws_iconst (pc := 54) C dX1_readLevel_54 ci_2 ?_
    refine ws_icmp_ne (pc := 55) (tgt := 62) C dX1_readLevel_55 (by decide) (fun c5 => ?_) (fun c5 => ?_)
    · have h := ite_f h c5
      refine ws_sipush (pc := 62) C dX1_readLevel_62 cs_160 ?_
      refine ws_less [0, 1, 2, 3] rfl ?_
      exact pX1_readLevel_J65 hrl hdl C R ha1 h
    · have h := ite_t h c5
      refine ws_iconst (pc := 58) C dX1_readLevel_58 ci_1 ?_
      refine ws_goto (pc := 59) (tgt := 65) C dX1_readLevel_59 (by decide) ?_
      refine ws_less [0, 1, 2, 3] rfl ?_
      exact pX1_readLevel_J65 hrl hdl C R ha1 h
  · have h := ite_t h c4
    refine ws_iconst (pc := 51) C dX1_readLevel_51 ci_0 ?_
    exact wr_i (pc := 52) C R dX1_readLevel_52 (isZ_nar isZ0) h
set_option maxRecDepth 20000 in
set_option maxHeartbeats 4000000 in
theorem mX1_readLevel {Y : xY} {Z : xZ} {rl : Nat → Int32 → Int32 → xM → Option (Int32 × xM)} {dl : Nat} (hrl : ∀ (j : Nat) (x y : Int32) (s : xM) (z : Int32 × xM), j < 6 → rl j x y s = some z → xMi (GX Y) Z yX1_readLevel cX1_readLevel 7 dl .boolean [.ref (Y.1 79), .ref (Y.1 (97 + 4 * j)), .int x, .int y] s z) (hdl : 12 ≤ dl) {a1 : Nat} {a2 : Int32} {a3 : Int32} (ha1 : a1 < 6) {s : xM} {z : Int32 × xM} (h : fX1_readLevel rl a1 a2 a3 s = some z) : xMi (GX Y) Z yX1_readLevel cX1_readLevel 7 (dl + 3) .boolean [.ref (Y.1 79), .ref (Y.1 (97 + 4 * a1)), .int a2, .int a3] s z := by
  refine xMi_of (by decide) (Nat.le_of_ble_eq_true rfl) (fun B C R => ?_)
  have C : xC (GX Y) Z B "BetweenStops$Reader" cX1_readLevel 7 (dl + 3) := C
  show xWS (GX Y) B 7 s [(0, .ref (Y.1 79)), (1, .ref (Y.1 (97 + 4 * a1))), (2, .int a2), (3, .int a3)] 0 []
  unfold fX1_readLevel at h
  refine ws_iload_n (pc := 0) C dX1_readLevel_0 rfl 2 rfl ?_
  refine ws_iconst (pc := 1) C dX1_readLevel_1 ci_5 ?_
  refine ws_icmp_ne (pc := 2) (tgt := 12) C dX1_readLevel_2 (by decide) (fun c1 => ?_) (fun c1 => ?_)
  · have h := ite_f h c1
    refine ws_iload_n (pc := 12) C dX1_readLevel_12 rfl 2 rfl ?_
    refine ws_iconst (pc := 13) C dX1_readLevel_13 ci_2 ?_
    refine ws_icmp_ne (pc := 14) (tgt := 39) C dX1_readLevel_14 (by decide) (fun c2 => ?_) (fun c2 => ?_)
    · have h := ite_f h c2
      refine ws_less [0, 1, 2, 3] rfl ?_
      exact pX1_readLevel_J39 hrl hdl C R ha1 h
    · have h := ite_t h c2
      refine ws_aload_n (pc := 17) C dX1_readLevel_17 rfl 0 rfl ?_
      refine ws_getr (pc := 18) C dX1_readLevel_18 fd_X1_9 sf_reader_0 ?_
      refine ws_geti (pc := 21) C dX1_readLevel_21 fd_X1_40 sf_tape_2 ?_
      refine ws_bipush (pc := 24) C dX1_readLevel_24 cb_9 ?_
      refine ws_icmp_ne (pc := 26) (tgt := 39) C dX1_readLevel_26 (by decide) (fun c3 => ?_) (fun c3 => ?_)
      · have h := ite_f h c3
        refine ws_less [0, 1, 2, 3] rfl ?_
        exact pX1_readLevel_J39 hrl hdl C R ha1 h
      · have h := ite_t h c3
        refine ws_aload_n (pc := 29) C dX1_readLevel_29 rfl 0 rfl ?_
        refine ws_aload_n (pc := 30) C dX1_readLevel_30 rfl 1 rfl ?_
        refine ws_bipush (pc := 31) C dX1_readLevel_31 cb_9 ?_
        refine ws_iconst (pc := 33) C dX1_readLevel_33 ci_2 ?_
        refine ws_iload_n (pc := 34) C dX1_readLevel_34 rfl 3 rfl ?_
        obtain ⟨r4, s5, q6, h⟩ := bd_ok h
        refine wc_iV (pc := 35)  C [.ref (Y.1 (97 + 4 * a1)), .int (9 : Int32), .int (2 : Int32), .int a3] [] (mX1_readBehind hrl hdl ha1 q6) dX1_readLevel_35 mw_X1_readBehind mv_X1_readBehind kl_X1_50 so_reader rfl rfl (Nat.le_of_ble_eq_true rfl) ⟨by omega, by omega⟩ ?_
        obtain ⟨g7, h⟩ := gd_ok h
        exact wr_i (pc := 38) C R dX1_readLevel_38 (isZ_nar g7) h
  · have h := ite_t h c1
    refine ws_aload_n (pc := 5) C dX1_readLevel_5 rfl 0 rfl ?_
    refine ws_aload_n (pc := 6) C dX1_readLevel_6 rfl 1 rfl ?_
    refine ws_iload_n (pc := 7) C dX1_readLevel_7 rfl 3 rfl ?_
    obtain ⟨r8, s9, q10, h⟩ := bd_ok h
    refine wc_iV (pc := 8)  C [.ref (Y.1 (97 + 4 * a1)), .int a3] [] (mX1_readOne hrl hdl ha1 q10) dX1_readLevel_8 mw_X1_readOne mv_X1_readOne kl_X1_46 so_reader rfl rfl (Nat.le_of_ble_eq_true rfl) ⟨by omega, by omega⟩ ?_
    obtain ⟨g11, h⟩ := gd_ok h
    exact wr_i (pc := 11) C R dX1_readLevel_11 (isZ_nar g11) h
set_option maxRecDepth 20000 in
set_option maxHeartbeats 4000000 in
theorem mRL {Y : xY} {Z : xZ} : ∀ (n : Nat) {j : Nat} (hj : j < 6) {x y : Int32} {s : xM} {z : Int32 × xM} (h : fRL n j x y s = some z), xMi (GX Y) Z yX1_readLevel cX1_readLevel 7 (12 + 3 * n) .boolean [.ref (Y.1 79), .ref (Y.1 (97 + 4 * j)), .int x, .int y] s z := by
  intro n
  induction n with
  | zero =>
    intro j hj x y s z h
    rw [fRL] at h
    cases h
  | succ n ih =>
    intro j hj x y s z h
    rw [fRL] at h
    rw [show 12 + 3 * (n + 1) = 12 + 3 * n + 3 by omega]
    exact mX1_readLevel (fun j x y s z hj h => ih hj h) (by omega) hj h
set_option maxRecDepth 20000 in
set_option maxHeartbeats 4000000 in
theorem pX1_faultOf_L13 {Y : xY} {Z : xZ} {B : xB} {z : Int32 × xM} (C : xC (GX Y) Z B "BetweenStops$Reader" cX1_faultOf 3 205) (R : xRi (GX Y) B .int z) {k46 : xM → Option (Int32 × xM)} {k64 : xM → Option (Int32 × xM)} {a1 : Nat}
    (hk46 : ∀  (s : xM), k46 s = some z → xWS (GX Y) B 3 s [(0, .ref (Y.1 79))] 46 [])
    (hk64 : ∀  (s : xM), k64 s = some z → xWS (GX Y) B 3 s [(0, .ref (Y.1 79))] 64 []) (ha1 : a1 < 6) : ∀ (n : Nat) (a2 : Int32) (s : xM), fX1_faultOf_L13 k46 k64 a1 n a2 s = some z → xWS (GX Y) B 3 s [(0, .ref (Y.1 79)), (1, .ref (Y.1 (97 + 4 * a1))), (2, .int a2)] 13 [] := by
  intro n
  induction n with
  | zero =>
    intro a2 s h
    rw [fX1_faultOf_L13] at h
    cases h
  | succ n ih =>
    intro a2 s h
    rw [fX1_faultOf_L13] at h
    refine ws_iload_n (pc := 13) C dX1_faultOf_13 rfl 2 rfl ?_
    refine ws_bipush (pc := 14) C dX1_faultOf_14 cb_6 ?_
    refine ws_icmp_gt (pc := 16) (tgt := 64) C dX1_faultOf_16 (by decide) (fun c1 => ?_) (fun c1 => ?_)
    · have h := ite_t h c1
      refine ws_less [0] rfl ?_
      exact hk64 _ h
    · have h := ite_f h c1
      refine ws_aload_n (pc := 19) C dX1_faultOf_19 rfl 0 rfl ?_
      refine ws_iload_n (pc := 20) C dX1_faultOf_20 rfl 2 rfl ?_
      obtain ⟨r2, s3, q4, h⟩ := bd_ok h
      refine wc_iV (pc := 21)  C [.int a2] [] (mX1_passes q4) dX1_faultOf_21 mw_X1_passes mv_X1_passes kl_X1_25 so_reader rfl rfl (Nat.le_of_ble_eq_true rfl) ⟨by decide, by decide⟩ ?_
      refine ws_if_eq (pc := 24) (tgt := 46) C dX1_faultOf_24 (by decide) (fun c5 => ?_) (fun c5 => ?_)
      · have h := ite_t h c5
        refine ws_less [0] rfl ?_
        exact hk46 _ h
      · have h := ite_f h c5
        refine ws_aload_n (pc := 27) C dX1_faultOf_27 rfl 0 rfl ?_
        refine ws_aload_n (pc := 28) C dX1_faultOf_28 rfl 1 rfl ?_
        refine ws_iconst (pc := 29) C dX1_faultOf_29 ci_0 ?_
        refine ws_iconst (pc := 30) C dX1_faultOf_30 ci_0 ?_
        obtain ⟨r6, s7, q8, h⟩ := bd_ok h
        refine wc_iV (pc := 31)  C [.ref (Y.1 (97 + 4 * a1)), .int (0 : Int32), .int (0 : Int32)] [] (mRL 64 ha1 q8) dX1_faultOf_31 mw_X1_readLevel mv_X1_readLevel kl_X1_29 so_reader rfl rfl (Nat.le_of_ble_eq_true rfl) ⟨by decide, by decide⟩ ?_
        refine ws_if_eq (pc := 34) (tgt := 46) C dX1_faultOf_34 (by decide) (fun c9 => ?_) (fun c9 => ?_)
        · have h := ite_t h c9
          refine ws_less [0] rfl ?_
          exact hk46 _ h
        · have h := ite_f h c9
          refine ws_aload_n (pc := 37) C dX1_faultOf_37 rfl 0 rfl ?_
          refine ws_bipush (pc := 38) C dX1_faultOf_38 cb_59 ?_
          obtain ⟨r10, s11, q12, h⟩ := bd_ok h
          refine wc_iV (pc := 40)  C [.int (59 : Int32)] [] (mX1_passes q12) dX1_faultOf_40 mw_X1_passes mv_X1_passes kl_X1_25 so_reader rfl rfl (Nat.le_of_ble_eq_true rfl) ⟨by decide, by decide⟩ ?_
          refine ws_if_ne (pc := 43) (tgt := 54) C dX1_faultOf_43 (by decide) (fun c13 => ?_) (fun c13 => ?_)
          · have h := ite_f h c13
            refine ws_aload_n (pc := 54) C dX1_faultOf_54 rfl 1 rfl ?_
            obtain ⟨r14, s15, q16, h⟩ := bd_ok h
            refine wc_vV (pc := 55)  C [] [] (mX5_endPart ha1 q16) dX1_faultOf_55 mw_X5_endPart mv_X5_endPart kl_X1_37 (so_text ha1) rfl rfl (Nat.le_of_ble_eq_true rfl) ⟨by decide, by decide⟩ ?_
            refine ws_iinc (j := 2) (pc := 58) C dX1_faultOf_58 rfl (cn_1 _) (by decide) rfl ?_
            refine ws_goto (pc := 61) (tgt := 13) C dX1_faultOf_61 (by decide) ?_
            refine ws_less [1, 2, 0] rfl ?_
            exact ih _ _ h
          · have h := ite_t h c13
            refine ws_less [0] rfl ?_
            exact hk46 _ h
set_option maxRecDepth 20000 in
set_option maxHeartbeats 4000000 in
theorem mX1_faultOf {Y : xY} {Z : xZ} {a1 : Nat} (ha1 : a1 < 6) {s : xM} {z : Int32 × xM} (h : fX1_faultOf a1 s = some z) : xMi (GX Y) Z yX1_faultOf cX1_faultOf 3 205 .int [.ref (Y.1 79), .ref (Y.1 (97 + 4 * a1))] s z := by
  refine xMi_of (by decide) (Nat.le_of_ble_eq_true rfl) (fun B C R => ?_)
  have C : xC (GX Y) Z B "BetweenStops$Reader" cX1_faultOf 3 205 := C
  show xWS (GX Y) B 3 s [(0, .ref (Y.1 79)), (1, .ref (Y.1 (97 + 4 * a1)))] 0 []
  unfold fX1_faultOf at h
  refine ws_aload_n (pc := 0) C dX1_faultOf_0 rfl 1 rfl ?_
  obtain ⟨r1, s2, q3, h⟩ := bd_ok h
  refine wc_vV (pc := 1)  C [] [] (mX5_clear ha1 q3) dX1_faultOf_1 mw_X5_clear mv_X5_clear kl_X1_15 (so_text ha1) rfl rfl (Nat.le_of_ble_eq_true rfl) ⟨by decide, by decide⟩ ?_
  refine ws_aload_n (pc := 4) C dX1_faultOf_4 rfl 0 rfl ?_
  refine ws_getr (pc := 5) C dX1_faultOf_5 fd_X1_9 sf_reader_0 ?_
  obtain ⟨r4, s5, q6, h⟩ := bd_ok h
  refine wc_vV (pc := 8)  C [] [] (mX4_rewind q6) dX1_faultOf_8 mw_X4_rewind mv_X4_rewind kl_X1_20 so_tape rfl rfl (Nat.le_of_ble_eq_true rfl) ⟨by decide, by decide⟩ ?_
  refine ws_iconst (pc := 11) C dX1_faultOf_11 ci_4 ?_
  refine ws_istore_n (pc := 12) C dX1_faultOf_12 rfl (by decide) rfl ?_
  refine ws_less [1, 2, 0] rfl ?_
  refine pX1_faultOf_L13 C R (fun s7 h => ?_) (fun s8 h => ?_) ha1 fu _ _ h
  · refine ws_aload_n (pc := 46) C dX1_faultOf_46 rfl 0 rfl ?_
    refine ws_getr (pc := 47) C dX1_faultOf_47 fd_X1_9 sf_reader_0 ?_
    refine ws_geti (pc := 50) C dX1_faultOf_50 fd_X1_33 sf_tape_3 ?_
    exact wr_i (pc := 53) C R dX1_faultOf_53 rfl h
  · refine ws_aload_n (pc := 64) C dX1_faultOf_64 rfl 0 rfl ?_
    refine ws_getr (pc := 65) C dX1_faultOf_65 fd_X1_9 sf_reader_0 ?_
    refine ws_geti (pc := 68) C dX1_faultOf_68 fd_X1_40 sf_tape_2 ?_
    refine ws_if_ne (pc := 71) (tgt := 78) C dX1_faultOf_71 (by decide) (fun c9 => ?_) (fun c9 => ?_)
    · have h := ite_f h c9
      refine ws_aload_n (pc := 78) C dX1_faultOf_78 rfl 0 rfl ?_
      refine ws_getr (pc := 79) C dX1_faultOf_79 fd_X1_9 sf_reader_0 ?_
      refine ws_geti (pc := 82) C dX1_faultOf_82 fd_X1_33 sf_tape_3 ?_
      exact wr_i (pc := 85) C R dX1_faultOf_85 rfl h
    · have h := ite_t h c9
      refine ws_iconst (pc := 74) C dX1_faultOf_74 ci_m1 ?_
      refine ws_goto (pc := 75) (tgt := 85) C dX1_faultOf_75 (by decide) ?_
      exact wr_i (pc := 85) C R dX1_faultOf_85 rfl h
set_option maxRecDepth 20000 in
set_option maxHeartbeats 4000000 in
theorem mX9_text {Y : xY} {Z : xZ} {s : xM} {z : Int32 × xM} (h : fX9_text s = some z) : xMi (GX Y) Z yX9_text cX9_text 2 206 .int [.ref (Y.1 0)] s z := by
  refine xMi_of (by decide) (Nat.le_of_ble_eq_true rfl) (fun B C R => ?_)
  have C : xC (GX Y) Z B "BetweenStops" cX9_text 2 206 := C
  show xWS (GX Y) B 2 s [(0, .ref (Y.1 0))] 0 []
  unfold fX9_text at h
  refine ws_aload_n (pc := 0) C dX9_text_0 rfl 0 rfl ?_
  refine ws_geti (pc := 1) C dX9_text_1 fd_X9_47 sf_BS_5 ?_
  refine ws_bipush (pc := 4) C dX9_text_4 cb_6 ?_
  refine ws_icmp_lt (pc := 6) (tgt := 12) C dX9_text_6 (by decide) (fun c1 => ?_) (fun c1 => ?_)
  · have h := ite_t h c1
    refine ws_aload_n (pc := 12) C dX9_text_12 rfl 0 rfl ?_
    refine ws_getr (pc := 13) C dX9_text_13 fd_X9_37 sf_BS_3 ?_
    refine ws_aload_n (pc := 16) C dX9_text_16 rfl 0 rfl ?_
    refine ws_getr (pc := 17) C dX9_text_17 fd_X9_43 sf_BS_4 ?_
    refine ws_aload_n (pc := 20) C dX9_text_20 rfl 0 rfl ?_
    refine ws_geti (pc := 21) C dX9_text_21 fd_X9_47 sf_BS_5 ?_
    obtain ⟨g2, h⟩ := gd_ok h
    refine ws_aaldK (q := (97 + 4 * (gi s 0 5).toNatClampNeg)) (pc := 24) C dX9_text_24 (by decide) sq_texts g2 rfl rfl ?_
    obtain ⟨r3, s4, q5, h⟩ := bd_ok h
    refine wc_iV (pc := 25)  C [.ref (Y.1 (97 + 4 * (gi s 0 5).toNatClampNeg))] [] (mX1_faultOf (inb_lt g2) q5) dX9_text_25 mw_X1_faultOf mv_X1_faultOf kl_X9_104 so_reader rfl rfl (Nat.le_of_ble_eq_true rfl) ⟨by decide, by decide⟩ ?_
    refine ws_istore_n (pc := 28) C dX9_text_28 rfl (by decide) rfl ?_
    refine ws_aload_n (pc := 29) C dX9_text_29 rfl 1 rfl ?_
    refine ws_getr (pc := 30) C dX9_text_30 fd_X9_28 sf_BS_2 ?_
    refine ws_iconst (pc := 33) C dX9_text_33 ci_0 ?_
    obtain ⟨s6, e7, h⟩ := lz_ok h
    refine ws_putI (pc := 34) C dX9_text_34 fp_X9_108 sf_tape_1 e7 ?_
    refine ws_iload_n (pc := 37) C dX9_text_37 rfl 0 rfl ?_
    refine ws_if_lt (pc := 38) (tgt := 46) C dX9_text_38 (by decide) (fun c8 => ?_) (fun c8 => ?_)
    · have h := ite_t h c8
      refine ws_aload_n (pc := 46) C dX9_text_46 rfl 1 rfl ?_
      refine ws_dup (pc := 47) C dX9_text_47 rfl ?_
      refine ws_geti (pc := 48) C dX9_text_48 fd_X9_47 sf_BS_5 ?_
      refine ws_iconst (pc := 51) C dX9_text_51 ci_1 ?_
      refine ws_iadd (pc := 52) C dX9_text_52 ?_
      obtain ⟨s9, e10, h⟩ := lz_ok h
      refine ws_putI (pc := 53) C dX9_text_53 fp_X9_47 sf_BS_5 e10 ?_
      refine ws_aload_n (pc := 56) C dX9_text_56 rfl 1 rfl ?_
      refine ws_geti (pc := 57) C dX9_text_57 fd_X9_47 sf_BS_5 ?_
      refine ws_iconst (pc := 60) C dX9_text_60 ci_1 ?_
      refine ws_isub (pc := 61) C dX9_text_61 ?_
      exact wr_i (pc := 62) C R dX9_text_62 rfl h
    · have h := ite_f h c8
      refine ws_bipush (pc := 41) C dX9_text_41 cb_m100 ?_
      refine ws_iload_n (pc := 43) C dX9_text_43 rfl 0 rfl ?_
      refine ws_isub (pc := 44) C dX9_text_44 ?_
      exact wr_i (pc := 45) C R dX9_text_45 rfl h
  · have h := ite_f h c1
    refine ws_bipush (pc := 9) C dX9_text_9 cb_m4 ?_
    exact wr_i (pc := 11) C R dX9_text_11 rfl h
