theorem sm75_end : sm75 = lM := xgL (by decide +kernel)
set_option maxRecDepth 20000 in
set_option maxHeartbeats 8000000 in
theorem mc_X10_init (Y : xY) (Z : xZ) {z : Int32 × xM} (h : fX10_init_T508 smm37 = some z) : xMc Z yX10_init cX10_init 1 2 37 2293 [.ref (Y.1 0)] sm1 Y x0 lM z.2 := by
  refine xMc_of (by decide) rfl (Nat.le_of_ble_eq_true rfl) (fun B C R => ?_)
  have C : xC (Gl sm1 Y) Z (xBk B 0 0) "BetweenStopsModel" cX10_init 1 2 := C
  have hA : ∀ q, B.s.heap.size ≤ q → B.A q := fun q h => by rw [R.2.2.1]; exact Or.inr h
  have HK : ∀ {k2 : Nat}, k2 ≤ 37 → k2 ≤ B.R.cells := fun h => by rw [R.2.2.2.2.1]; exact h
  have HN : ∀ {n2 : Nat}, n2 ≤ 2293 → n2 ≤ B.R.slots := fun h => by rw [R.2.2.2.2.2.1]; exact h
  show xWS (Gl sm1 Y) (xBk B 0 0) 1 x0 [(0, .ref (Y.1 0))] 0 []
  refine ws_aload_n (pc := 0) C dX10_init_0 rfl 0 rfl ?_
  refine wg_obj (pc := 1) C dX10_init_1 kl_X10_1 kz_inst kz_code (Nat.le_of_ble_eq_true rfl) (by decide) ?_
  refine ws_aload_n (pc := 4) C dX10_init_4 rfl 0 rfl ?_
  refine ws_bipush (pc := 5) C dX10_init_5 cb_41 ?_
  refine wg_newa (l2 := sm2) (t := 0) (N' := 41) (fun a => [(0, .ref (a 0))]) (fun a => [.ref (a 0)]) C dX10_init_7 (by decide) rfl kar_int hA sm1_w rfl (xmz0 1 (by decide)).1 (xmz0 1 (by decide)).2 (by decide) (by decide) (by decide) rfl rfl (HK (k2 := 1) (by decide)) (HN (n2 := 41) (by decide)) (fun a h => ⟨by simp only [h 0 (Nat.le_of_ble_eq_true rfl)], by simp only [h 0 (Nat.le_of_ble_eq_true rfl)]⟩) (fun a1 h1 C => ?_)
  have g1 : ∀ c, c < 1 → a1 c = Y.1 c := fun c hc => (h1 c (Nat.lt_of_lt_of_le hc (Nat.le_of_ble_eq_true rfl)))
  have C : xC (Gl sm2 (a1, Y.2)) Z (xBk B 1 41) "BetweenStopsModel" cX10_init 1 2 := C
  show xWS (Gl sm2 (a1, Y.2)) (xBk B 1 41) 1 x0 [(0, .ref (a1 0))] 9 [.ref (a1 1), .ref (a1 0)]
  refine wg_putr (l2 := sm3) (k := 0) (r := 1) (i := 0) (pc := 9) C dX10_init_9 rfl hin_10 tyX10 tyX10_ok nmX10 (by decide) kf_X10_7 rfl rfl (tyX10_ok 0 (by decide)) rfl rfl R.2.1 sm2_at0 (by decide) rfl (fun C => ?_)
  refine ws_aload_n (pc := 12) C dX10_init_12 rfl 0 rfl ?_
  refine ws_bipush (pc := 13) C dX10_init_13 cb_18 ?_
  refine wg_newa (l2 := sm4) (t := 0) (N' := 18) (fun a => [(0, .ref (a 0))]) (fun a => [.ref (a 0)]) C dX10_init_15 (by decide) rfl kar_int hA sm3_w rfl (xmz0 2 (by decide)).1 (xmz0 2 (by decide)).2 (by decide) (by decide) (by decide) rfl rfl (HK (k2 := 2) (by decide)) (HN (n2 := 59) (by decide)) (fun a h => ⟨by simp only [h 0 (Nat.le_of_ble_eq_true rfl)], by simp only [h 0 (Nat.le_of_ble_eq_true rfl)]⟩) (fun a2 h2 C => ?_)
  have g2 : ∀ c, c < 1 → a2 c = Y.1 c := fun c hc => (h2 c (Nat.lt_of_lt_of_le hc (Nat.le_of_ble_eq_true rfl))).trans (g1 c hc)
  have C : xC (Gl sm4 (a2, Y.2)) Z (xBk B 2 59) "BetweenStopsModel" cX10_init 1 2 := C
  show xWS (Gl sm4 (a2, Y.2)) (xBk B 2 59) 1 x0 [(0, .ref (a2 0))] 17 [.ref (a2 2), .ref (a2 0)]
  refine ws_dup (pc := 17) C dX10_init_17 rfl ?_
  refine ws_iconst (pc := 18) C dX10_init_18 ci_0 ?_
  refine ws_bipush (pc := 19) C dX10_init_19 cb_10 ?_
  refine ws_iastK (σ2 := smm1) (k := 0) (pc := 21) C dX10_init_21 (xSr_of sm4_at2) (by decide +kernel) (by decide) rfl ?_
  refine ws_dup (pc := 22) C dX10_init_22 rfl ?_
  refine ws_iconst (pc := 23) C dX10_init_23 ci_1 ?_
  refine ws_iconst (pc := 24) C dX10_init_24 ci_5 ?_
  refine ws_iastK (σ2 := smm2) (k := 1) (pc := 25) C dX10_init_25 (xSr_of sm4_at2) (by decide +kernel) (by decide) rfl ?_
  refine ws_dup (pc := 26) C dX10_init_26 rfl ?_
  refine ws_iconst (pc := 27) C dX10_init_27 ci_2 ?_
  refine ws_iconst (pc := 28) C dX10_init_28 ci_2 ?_
  refine ws_iastK (σ2 := smm3) (k := 2) (pc := 29) C dX10_init_29 (xSr_of sm4_at2) (by decide +kernel) (by decide) rfl ?_
  refine ws_dup (pc := 30) C dX10_init_30 rfl ?_
  refine ws_iconst (pc := 31) C dX10_init_31 ci_3 ?_
  refine ws_iconst (pc := 32) C dX10_init_32 ci_2 ?_
  refine ws_iastK (σ2 := smm4) (k := 3) (pc := 33) C dX10_init_33 (xSr_of sm4_at2) (by decide +kernel) (by decide) rfl ?_
  refine ws_dup (pc := 34) C dX10_init_34 rfl ?_
  refine ws_iconst (pc := 35) C dX10_init_35 ci_4 ?_
  refine ws_iconst (pc := 36) C dX10_init_36 ci_1 ?_
  refine ws_iastK (σ2 := smm5) (k := 4) (pc := 37) C dX10_init_37 (xSr_of sm4_at2) (by decide +kernel) (by decide) rfl ?_
  refine ws_dup (pc := 38) C dX10_init_38 rfl ?_
  refine ws_iconst (pc := 39) C dX10_init_39 ci_5 ?_
  refine ws_sipush (pc := 40) C dX10_init_40 cs_300 ?_
  refine ws_iastK (σ2 := smm6) (k := 5) (pc := 43) C dX10_init_43 (xSr_of sm4_at2) (by decide +kernel) (by decide) rfl ?_
  refine ws_dup (pc := 44) C dX10_init_44 rfl ?_
  refine ws_bipush (pc := 45) C dX10_init_45 cb_6 ?_
  refine ws_bipush (pc := 47) C dX10_init_47 cb_15 ?_
  refine ws_iastK (σ2 := smm7) (k := 6) (pc := 49) C dX10_init_49 (xSr_of sm4_at2) (by decide +kernel) (by decide) rfl ?_
  refine ws_dup (pc := 50) C dX10_init_50 rfl ?_
  refine ws_bipush (pc := 51) C dX10_init_51 cb_7 ?_
  refine ws_bipush (pc := 53) C dX10_init_53 cb_20 ?_
  refine ws_iastK (σ2 := smm8) (k := 7) (pc := 55) C dX10_init_55 (xSr_of sm4_at2) (by decide +kernel) (by decide) rfl ?_
  refine ws_dup (pc := 56) C dX10_init_56 rfl ?_
  refine ws_bipush (pc := 57) C dX10_init_57 cb_8 ?_
  refine ws_iconst (pc := 59) C dX10_init_59 ci_3 ?_
  refine ws_iastK (σ2 := smm9) (k := 8) (pc := 60) C dX10_init_60 (xSr_of sm4_at2) (by decide +kernel) (by decide) rfl ?_
  refine ws_dup (pc := 61) C dX10_init_61 rfl ?_
  refine ws_bipush (pc := 62) C dX10_init_62 cb_9 ?_
  refine ws_iconst (pc := 64) C dX10_init_64 ci_2 ?_
  refine ws_iastK (σ2 := smm10) (k := 9) (pc := 65) C dX10_init_65 (xSr_of sm4_at2) (by decide +kernel) (by decide) rfl ?_
  refine ws_dup (pc := 66) C dX10_init_66 rfl ?_
  refine ws_bipush (pc := 67) C dX10_init_67 cb_10 ?_
  refine ws_iconst (pc := 69) C dX10_init_69 ci_1 ?_
  refine ws_iastK (σ2 := smm11) (k := 10) (pc := 70) C dX10_init_70 (xSr_of sm4_at2) (by decide +kernel) (by decide) rfl ?_
  refine ws_dup (pc := 71) C dX10_init_71 rfl ?_
  refine ws_bipush (pc := 72) C dX10_init_72 cb_11 ?_
  refine ws_sipush (pc := 74) C dX10_init_74 cs_200 ?_
  refine ws_iastK (σ2 := smm12) (k := 11) (pc := 77) C dX10_init_77 (xSr_of sm4_at2) (by decide +kernel) (by decide) rfl ?_
  refine ws_dup (pc := 78) C dX10_init_78 rfl ?_
  refine ws_bipush (pc := 79) C dX10_init_79 cb_12 ?_
  refine ws_bipush (pc := 81) C dX10_init_81 cb_6 ?_
  refine ws_iastK (σ2 := smm13) (k := 12) (pc := 83) C dX10_init_83 (xSr_of sm4_at2) (by decide +kernel) (by decide) rfl ?_
  refine ws_dup (pc := 84) C dX10_init_84 rfl ?_
  refine ws_bipush (pc := 85) C dX10_init_85 cb_13 ?_
  refine ws_iconst (pc := 87) C dX10_init_87 ci_2 ?_
  refine ws_iastK (σ2 := smm14) (k := 13) (pc := 88) C dX10_init_88 (xSr_of sm4_at2) (by decide +kernel) (by decide) rfl ?_
  refine ws_dup (pc := 89) C dX10_init_89 rfl ?_
  refine ws_bipush (pc := 90) C dX10_init_90 cb_14 ?_
  refine ws_iconst (pc := 92) C dX10_init_92 ci_1 ?_
  refine ws_iastK (σ2 := smm15) (k := 14) (pc := 93) C dX10_init_93 (xSr_of sm4_at2) (by decide +kernel) (by decide) rfl ?_
  refine ws_dup (pc := 94) C dX10_init_94 rfl ?_
  refine ws_bipush (pc := 95) C dX10_init_95 cb_15 ?_
  refine ws_iconst (pc := 97) C dX10_init_97 ci_3 ?_
  refine ws_iastK (σ2 := smm16) (k := 15) (pc := 98) C dX10_init_98 (xSr_of sm4_at2) (by decide +kernel) (by decide) rfl ?_
  refine ws_dup (pc := 99) C dX10_init_99 rfl ?_
  refine ws_bipush (pc := 100) C dX10_init_100 cb_16 ?_
  refine ws_iconst (pc := 102) C dX10_init_102 ci_1 ?_
  refine ws_iastK (σ2 := smm17) (k := 16) (pc := 103) C dX10_init_103 (xSr_of sm4_at2) (by decide +kernel) (by decide) rfl ?_
  refine ws_dup (pc := 104) C dX10_init_104 rfl ?_
  refine ws_bipush (pc := 105) C dX10_init_105 cb_17 ?_
  refine ws_sipush (pc := 107) C dX10_init_107 cs_600 ?_
  refine ws_iastK (σ2 := smm18) (k := 17) (pc := 110) C dX10_init_110 (xSr_of sm4_at2) (by decide +kernel) (by decide) rfl ?_
  refine wg_putr (l2 := sm5) (k := 1) (r := 2) (i := 0) (pc := 111) C dX10_init_111 rfl hin_10 tyX10 tyX10_ok nmX10 (by decide) kf_X10_13 rfl rfl (tyX10_ok 1 (by decide)) rfl rfl R.2.1 sm4_at0 (by decide) rfl (fun C => ?_)
  refine ws_aload_n (pc := 114) C dX10_init_114 rfl 0 rfl ?_
  refine ws_sipush (pc := 115) C dX10_init_115 cs_300 ?_
  refine ws_putI (σ2 := smm19) (pc := 118) C dX10_init_118 fp_X10_16 (xSf_of sm5_at0 rfl) rfl ?_
  refine ws_aload_n (pc := 121) C dX10_init_121 rfl 0 rfl ?_
  refine ws_iconst (pc := 122) C dX10_init_122 ci_3 ?_
  refine ws_putI (σ2 := smm20) (pc := 123) C dX10_init_123 fp_X10_20 (xSf_of sm5_at0 rfl) rfl ?_
  refine ws_aload_n (pc := 126) C dX10_init_126 rfl 0 rfl ?_
  refine ws_bipush (pc := 127) C dX10_init_127 cb_8 ?_
  refine wg_newa (l2 := sm6) (t := 0) (N' := 8) (fun a => [(0, .ref (a 0))]) (fun a => [.ref (a 0)]) C dX10_init_129 (by decide) rfl kar_int hA sm5_w rfl (smm20_z 3 (by decide)).1 (smm20_z 3 (by decide)).2 (by decide) (by decide) (by decide) rfl rfl (HK (k2 := 3) (by decide)) (HN (n2 := 67) (by decide)) (fun a h => ⟨by simp only [h 0 (Nat.le_of_ble_eq_true rfl)], by simp only [h 0 (Nat.le_of_ble_eq_true rfl)]⟩) (fun a3 h3 C => ?_)
  have g3 : ∀ c, c < 1 → a3 c = Y.1 c := fun c hc => (h3 c (Nat.lt_of_lt_of_le hc (Nat.le_of_ble_eq_true rfl))).trans (g2 c hc)
  have C : xC (Gl sm6 (a3, Y.2)) Z (xBk B 3 67) "BetweenStopsModel" cX10_init 1 2 := C
  show xWS (Gl sm6 (a3, Y.2)) (xBk B 3 67) 1 smm20 [(0, .ref (a3 0))] 131 [.ref (a3 3), .ref (a3 0)]
  refine wg_putr (l2 := sm7) (k := 5) (r := 3) (i := 0) (pc := 131) C dX10_init_131 rfl hin_10 tyX10 tyX10_ok nmX10 (by decide) kf_X10_23 rfl rfl (tyX10_ok 5 (by decide)) rfl rfl R.2.1 sm6_at0 (by decide) rfl (fun C => ?_)
  refine ws_aload_n (pc := 134) C dX10_init_134 rfl 0 rfl ?_
  refine ws_bipush (pc := 135) C dX10_init_135 cb_8 ?_
  refine wg_newa (l2 := sm8) (t := 0) (N' := 8) (fun a => [(0, .ref (a 0))]) (fun a => [.ref (a 0)]) C dX10_init_137 (by decide) rfl kar_int hA sm7_w rfl (smm20_z 4 (by decide)).1 (smm20_z 4 (by decide)).2 (by decide) (by decide) (by decide) rfl rfl (HK (k2 := 4) (by decide)) (HN (n2 := 75) (by decide)) (fun a h => ⟨by simp only [h 0 (Nat.le_of_ble_eq_true rfl)], by simp only [h 0 (Nat.le_of_ble_eq_true rfl)]⟩) (fun a4 h4 C => ?_)
  have g4 : ∀ c, c < 1 → a4 c = Y.1 c := fun c hc => (h4 c (Nat.lt_of_lt_of_le hc (Nat.le_of_ble_eq_true rfl))).trans (g3 c hc)
  have C : xC (Gl sm8 (a4, Y.2)) Z (xBk B 4 75) "BetweenStopsModel" cX10_init 1 2 := C
  show xWS (Gl sm8 (a4, Y.2)) (xBk B 4 75) 1 smm20 [(0, .ref (a4 0))] 139 [.ref (a4 4), .ref (a4 0)]
  refine wg_putr (l2 := sm9) (k := 6) (r := 4) (i := 0) (pc := 139) C dX10_init_139 rfl hin_10 tyX10 tyX10_ok nmX10 (by decide) kf_X10_26 rfl rfl (tyX10_ok 6 (by decide)) rfl rfl R.2.1 sm8_at0 (by decide) rfl (fun C => ?_)
  refine ws_aload_n (pc := 142) C dX10_init_142 rfl 0 rfl ?_
  refine ws_bipush (pc := 143) C dX10_init_143 cb_8 ?_
  refine wg_newa (l2 := sm10) (t := 0) (N' := 8) (fun a => [(0, .ref (a 0))]) (fun a => [.ref (a 0)]) C dX10_init_145 (by decide) rfl kar_int hA sm9_w rfl (smm20_z 5 (by decide)).1 (smm20_z 5 (by decide)).2 (by decide) (by decide) (by decide) rfl rfl (HK (k2 := 5) (by decide)) (HN (n2 := 83) (by decide)) (fun a h => ⟨by simp only [h 0 (Nat.le_of_ble_eq_true rfl)], by simp only [h 0 (Nat.le_of_ble_eq_true rfl)]⟩) (fun a5 h5 C => ?_)
  have g5 : ∀ c, c < 1 → a5 c = Y.1 c := fun c hc => (h5 c (Nat.lt_of_lt_of_le hc (Nat.le_of_ble_eq_true rfl))).trans (g4 c hc)
  have C : xC (Gl sm10 (a5, Y.2)) Z (xBk B 5 83) "BetweenStopsModel" cX10_init 1 2 := C
  show xWS (Gl sm10 (a5, Y.2)) (xBk B 5 83) 1 smm20 [(0, .ref (a5 0))] 147 [.ref (a5 5), .ref (a5 0)]
  refine wg_putr (l2 := sm11) (k := 7) (r := 5) (i := 0) (pc := 147) C dX10_init_147 rfl hin_10 tyX10 tyX10_ok nmX10 (by decide) kf_X10_29 rfl rfl (tyX10_ok 7 (by decide)) rfl rfl R.2.1 sm10_at0 (by decide) rfl (fun C => ?_)
  refine ws_aload_n (pc := 150) C dX10_init_150 rfl 0 rfl ?_
  refine ws_bipush (pc := 151) C dX10_init_151 cb_8 ?_
  refine wg_newa (l2 := sm12) (t := 0) (N' := 8) (fun a => [(0, .ref (a 0))]) (fun a => [.ref (a 0)]) C dX10_init_153 (by decide) rfl kar_int hA sm11_w rfl (smm20_z 6 (by decide)).1 (smm20_z 6 (by decide)).2 (by decide) (by decide) (by decide) rfl rfl (HK (k2 := 6) (by decide)) (HN (n2 := 91) (by decide)) (fun a h => ⟨by simp only [h 0 (Nat.le_of_ble_eq_true rfl)], by simp only [h 0 (Nat.le_of_ble_eq_true rfl)]⟩) (fun a6 h6 C => ?_)
  have g6 : ∀ c, c < 1 → a6 c = Y.1 c := fun c hc => (h6 c (Nat.lt_of_lt_of_le hc (Nat.le_of_ble_eq_true rfl))).trans (g5 c hc)
  have C : xC (Gl sm12 (a6, Y.2)) Z (xBk B 6 91) "BetweenStopsModel" cX10_init 1 2 := C
  show xWS (Gl sm12 (a6, Y.2)) (xBk B 6 91) 1 smm20 [(0, .ref (a6 0))] 155 [.ref (a6 6), .ref (a6 0)]
  refine wg_putr (l2 := sm13) (k := 8) (r := 6) (i := 0) (pc := 155) C dX10_init_155 rfl hin_10 tyX10 tyX10_ok nmX10 (by decide) kf_X10_32 rfl rfl (tyX10_ok 8 (by decide)) rfl rfl R.2.1 sm12_at0 (by decide) rfl (fun C => ?_)
  refine ws_aload_n (pc := 158) C dX10_init_158 rfl 0 rfl ?_
  refine ws_bipush (pc := 159) C dX10_init_159 cb_8 ?_
  refine wg_newa (l2 := sm14) (t := 0) (N' := 8) (fun a => [(0, .ref (a 0))]) (fun a => [.ref (a 0)]) C dX10_init_161 (by decide) rfl kar_int hA sm13_w rfl (smm20_z 7 (by decide)).1 (smm20_z 7 (by decide)).2 (by decide) (by decide) (by decide) rfl rfl (HK (k2 := 7) (by decide)) (HN (n2 := 99) (by decide)) (fun a h => ⟨by simp only [h 0 (Nat.le_of_ble_eq_true rfl)], by simp only [h 0 (Nat.le_of_ble_eq_true rfl)]⟩) (fun a7 h7 C => ?_)
  have g7 : ∀ c, c < 1 → a7 c = Y.1 c := fun c hc => (h7 c (Nat.lt_of_lt_of_le hc (Nat.le_of_ble_eq_true rfl))).trans (g6 c hc)
  have C : xC (Gl sm14 (a7, Y.2)) Z (xBk B 7 99) "BetweenStopsModel" cX10_init 1 2 := C
  show xWS (Gl sm14 (a7, Y.2)) (xBk B 7 99) 1 smm20 [(0, .ref (a7 0))] 163 [.ref (a7 7), .ref (a7 0)]
  refine wg_putr (l2 := sm15) (k := 9) (r := 7) (i := 0) (pc := 163) C dX10_init_163 rfl hin_10 tyX10 tyX10_ok nmX10 (by decide) kf_X10_35 rfl rfl (tyX10_ok 9 (by decide)) rfl rfl R.2.1 sm14_at0 (by decide) rfl (fun C => ?_)
  refine ws_aload_n (pc := 166) C dX10_init_166 rfl 0 rfl ?_
  refine ws_bipush (pc := 167) C dX10_init_167 cb_8 ?_
  refine wg_newa (l2 := sm16) (t := 0) (N' := 8) (fun a => [(0, .ref (a 0))]) (fun a => [.ref (a 0)]) C dX10_init_169 (by decide) rfl kar_int hA sm15_w rfl (smm20_z 8 (by decide)).1 (smm20_z 8 (by decide)).2 (by decide) (by decide) (by decide) rfl rfl (HK (k2 := 8) (by decide)) (HN (n2 := 107) (by decide)) (fun a h => ⟨by simp only [h 0 (Nat.le_of_ble_eq_true rfl)], by simp only [h 0 (Nat.le_of_ble_eq_true rfl)]⟩) (fun a8 h8 C => ?_)
  have g8 : ∀ c, c < 1 → a8 c = Y.1 c := fun c hc => (h8 c (Nat.lt_of_lt_of_le hc (Nat.le_of_ble_eq_true rfl))).trans (g7 c hc)
  have C : xC (Gl sm16 (a8, Y.2)) Z (xBk B 8 107) "BetweenStopsModel" cX10_init 1 2 := C
  show xWS (Gl sm16 (a8, Y.2)) (xBk B 8 107) 1 smm20 [(0, .ref (a8 0))] 171 [.ref (a8 8), .ref (a8 0)]
  refine wg_putr (l2 := sm17) (k := 10) (r := 8) (i := 0) (pc := 171) C dX10_init_171 rfl hin_10 tyX10 tyX10_ok nmX10 (by decide) kf_X10_38 rfl rfl (tyX10_ok 10 (by decide)) rfl rfl R.2.1 sm16_at0 (by decide) rfl (fun C => ?_)
  refine ws_aload_n (pc := 174) C dX10_init_174 rfl 0 rfl ?_
  refine ws_bipush (pc := 175) C dX10_init_175 cb_8 ?_
  refine wg_newa (l2 := sm18) (t := 0) (N' := 8) (fun a => [(0, .ref (a 0))]) (fun a => [.ref (a 0)]) C dX10_init_177 (by decide) rfl kar_int hA sm17_w rfl (smm20_z 9 (by decide)).1 (smm20_z 9 (by decide)).2 (by decide) (by decide) (by decide) rfl rfl (HK (k2 := 9) (by decide)) (HN (n2 := 115) (by decide)) (fun a h => ⟨by simp only [h 0 (Nat.le_of_ble_eq_true rfl)], by simp only [h 0 (Nat.le_of_ble_eq_true rfl)]⟩) (fun a9 h9 C => ?_)
  have g9 : ∀ c, c < 1 → a9 c = Y.1 c := fun c hc => (h9 c (Nat.lt_of_lt_of_le hc (Nat.le_of_ble_eq_true rfl))).trans (g8 c hc)
  have C : xC (Gl sm18 (a9, Y.2)) Z (xBk B 9 115) "BetweenStopsModel" cX10_init 1 2 := C
  show xWS (Gl sm18 (a9, Y.2)) (xBk B 9 115) 1 smm20 [(0, .ref (a9 0))] 179 [.ref (a9 9), .ref (a9 0)]
  refine wg_putr (l2 := sm19) (k := 11) (r := 9) (i := 0) (pc := 179) C dX10_init_179 rfl hin_10 tyX10 tyX10_ok nmX10 (by decide) kf_X10_41 rfl rfl (tyX10_ok 11 (by decide)) rfl rfl R.2.1 sm18_at0 (by decide) rfl (fun C => ?_)
  refine ws_aload_n (pc := 182) C dX10_init_182 rfl 0 rfl ?_
  refine ws_bipush (pc := 183) C dX10_init_183 cb_8 ?_
  refine wg_newa (l2 := sm20) (t := 0) (N' := 8) (fun a => [(0, .ref (a 0))]) (fun a => [.ref (a 0)]) C dX10_init_185 (by decide) rfl kar_int hA sm19_w rfl (smm20_z 10 (by decide)).1 (smm20_z 10 (by decide)).2 (by decide) (by decide) (by decide) rfl rfl (HK (k2 := 10) (by decide)) (HN (n2 := 123) (by decide)) (fun a h => ⟨by simp only [h 0 (Nat.le_of_ble_eq_true rfl)], by simp only [h 0 (Nat.le_of_ble_eq_true rfl)]⟩) (fun a10 h10 C => ?_)
  have g10 : ∀ c, c < 1 → a10 c = Y.1 c := fun c hc => (h10 c (Nat.lt_of_lt_of_le hc (Nat.le_of_ble_eq_true rfl))).trans (g9 c hc)
  have C : xC (Gl sm20 (a10, Y.2)) Z (xBk B 10 123) "BetweenStopsModel" cX10_init 1 2 := C
  show xWS (Gl sm20 (a10, Y.2)) (xBk B 10 123) 1 smm20 [(0, .ref (a10 0))] 187 [.ref (a10 10), .ref (a10 0)]
  refine wg_putr (l2 := sm21) (k := 13) (r := 10) (i := 0) (pc := 187) C dX10_init_187 rfl hin_10 tyX10 tyX10_ok nmX10 (by decide) kf_X10_44 rfl rfl (tyX10_ok 13 (by decide)) rfl rfl R.2.1 sm20_at0 (by decide) rfl (fun C => ?_)
  refine ws_aload_n (pc := 190) C dX10_init_190 rfl 0 rfl ?_
  refine ws_bipush (pc := 191) C dX10_init_191 cb_8 ?_
  refine wg_newa (l2 := sm22) (t := 0) (N' := 8) (fun a => [(0, .ref (a 0))]) (fun a => [.ref (a 0)]) C dX10_init_193 (by decide) rfl kar_int hA sm21_w rfl (smm20_z 11 (by decide)).1 (smm20_z 11 (by decide)).2 (by decide) (by decide) (by decide) rfl rfl (HK (k2 := 11) (by decide)) (HN (n2 := 131) (by decide)) (fun a h => ⟨by simp only [h 0 (Nat.le_of_ble_eq_true rfl)], by simp only [h 0 (Nat.le_of_ble_eq_true rfl)]⟩) (fun a11 h11 C => ?_)
  have g11 : ∀ c, c < 1 → a11 c = Y.1 c := fun c hc => (h11 c (Nat.lt_of_lt_of_le hc (Nat.le_of_ble_eq_true rfl))).trans (g10 c hc)
  have C : xC (Gl sm22 (a11, Y.2)) Z (xBk B 11 131) "BetweenStopsModel" cX10_init 1 2 := C
  show xWS (Gl sm22 (a11, Y.2)) (xBk B 11 131) 1 smm20 [(0, .ref (a11 0))] 195 [.ref (a11 11), .ref (a11 0)]
  refine wg_putr (l2 := sm23) (k := 14) (r := 11) (i := 0) (pc := 195) C dX10_init_195 rfl hin_10 tyX10 tyX10_ok nmX10 (by decide) kf_X10_47 rfl rfl (tyX10_ok 14 (by decide)) rfl rfl R.2.1 sm22_at0 (by decide) rfl (fun C => ?_)
  refine ws_aload_n (pc := 198) C dX10_init_198 rfl 0 rfl ?_
  refine ws_bipush (pc := 199) C dX10_init_199 cb_8 ?_
  refine wg_newa (l2 := sm24) (t := 0) (N' := 8) (fun a => [(0, .ref (a 0))]) (fun a => [.ref (a 0)]) C dX10_init_201 (by decide) rfl kar_int hA sm23_w rfl (smm20_z 12 (by decide)).1 (smm20_z 12 (by decide)).2 (by decide) (by decide) (by decide) rfl rfl (HK (k2 := 12) (by decide)) (HN (n2 := 139) (by decide)) (fun a h => ⟨by simp only [h 0 (Nat.le_of_ble_eq_true rfl)], by simp only [h 0 (Nat.le_of_ble_eq_true rfl)]⟩) (fun a12 h12 C => ?_)
  have g12 : ∀ c, c < 1 → a12 c = Y.1 c := fun c hc => (h12 c (Nat.lt_of_lt_of_le hc (Nat.le_of_ble_eq_true rfl))).trans (g11 c hc)
  have C : xC (Gl sm24 (a12, Y.2)) Z (xBk B 12 139) "BetweenStopsModel" cX10_init 1 2 := C
  show xWS (Gl sm24 (a12, Y.2)) (xBk B 12 139) 1 smm20 [(0, .ref (a12 0))] 203 [.ref (a12 12), .ref (a12 0)]
  refine wg_putr (l2 := sm25) (k := 15) (r := 12) (i := 0) (pc := 203) C dX10_init_203 rfl hin_10 tyX10 tyX10_ok nmX10 (by decide) kf_X10_50 rfl rfl (tyX10_ok 15 (by decide)) rfl rfl R.2.1 sm24_at0 (by decide) rfl (fun C => ?_)
  refine ws_aload_n (pc := 206) C dX10_init_206 rfl 0 rfl ?_
  refine ws_bipush (pc := 207) C dX10_init_207 cb_8 ?_
  refine wg_newa (l2 := sm26) (t := 0) (N' := 8) (fun a => [(0, .ref (a 0))]) (fun a => [.ref (a 0)]) C dX10_init_209 (by decide) rfl kar_int hA sm25_w rfl (smm20_z 13 (by decide)).1 (smm20_z 13 (by decide)).2 (by decide) (by decide) (by decide) rfl rfl (HK (k2 := 13) (by decide)) (HN (n2 := 147) (by decide)) (fun a h => ⟨by simp only [h 0 (Nat.le_of_ble_eq_true rfl)], by simp only [h 0 (Nat.le_of_ble_eq_true rfl)]⟩) (fun a13 h13 C => ?_)
  have g13 : ∀ c, c < 1 → a13 c = Y.1 c := fun c hc => (h13 c (Nat.lt_of_lt_of_le hc (Nat.le_of_ble_eq_true rfl))).trans (g12 c hc)
  have C : xC (Gl sm26 (a13, Y.2)) Z (xBk B 13 147) "BetweenStopsModel" cX10_init 1 2 := C
  show xWS (Gl sm26 (a13, Y.2)) (xBk B 13 147) 1 smm20 [(0, .ref (a13 0))] 211 [.ref (a13 13), .ref (a13 0)]
  refine wg_putr (l2 := sm27) (k := 16) (r := 13) (i := 0) (pc := 211) C dX10_init_211 rfl hin_10 tyX10 tyX10_ok nmX10 (by decide) kf_X10_53 rfl rfl (tyX10_ok 16 (by decide)) rfl rfl R.2.1 sm26_at0 (by decide) rfl (fun C => ?_)
  refine ws_aload_n (pc := 214) C dX10_init_214 rfl 0 rfl ?_
  refine ws_sipush (pc := 215) C dX10_init_215 cs_160 ?_
  refine wg_newa (l2 := sm28) (t := 0) (N' := 160) (fun a => [(0, .ref (a 0))]) (fun a => [.ref (a 0)]) C dX10_init_218 (by decide) rfl kar_int hA sm27_w rfl (smm20_z 14 (by decide)).1 (smm20_z 14 (by decide)).2 (by decide) (by decide) (by decide) rfl rfl (HK (k2 := 14) (by decide)) (HN (n2 := 307) (by decide)) (fun a h => ⟨by simp only [h 0 (Nat.le_of_ble_eq_true rfl)], by simp only [h 0 (Nat.le_of_ble_eq_true rfl)]⟩) (fun a14 h14 C => ?_)
  have g14 : ∀ c, c < 1 → a14 c = Y.1 c := fun c hc => (h14 c (Nat.lt_of_lt_of_le hc (Nat.le_of_ble_eq_true rfl))).trans (g13 c hc)
  have C : xC (Gl sm28 (a14, Y.2)) Z (xBk B 14 307) "BetweenStopsModel" cX10_init 1 2 := C
  show xWS (Gl sm28 (a14, Y.2)) (xBk B 14 307) 1 smm20 [(0, .ref (a14 0))] 220 [.ref (a14 14), .ref (a14 0)]
  refine wg_putr (l2 := sm29) (k := 17) (r := 14) (i := 0) (pc := 220) C dX10_init_220 rfl hin_10 tyX10 tyX10_ok nmX10 (by decide) kf_X10_56 rfl rfl (tyX10_ok 17 (by decide)) rfl rfl R.2.1 sm28_at0 (by decide) rfl (fun C => ?_)
  refine ws_aload_n (pc := 223) C dX10_init_223 rfl 0 rfl ?_
  refine ws_sipush (pc := 224) C dX10_init_224 cs_1200 ?_
  refine wg_newa (l2 := sm30) (t := 0) (N' := 1200) (fun a => [(0, .ref (a 0))]) (fun a => [.ref (a 0)]) C dX10_init_227 (by decide) rfl kar_int hA sm29_w rfl (smm20_z 15 (by decide)).1 (smm20_z 15 (by decide)).2 (by decide) (by decide) (by decide) rfl rfl (HK (k2 := 15) (by decide)) (HN (n2 := 1507) (by decide)) (fun a h => ⟨by simp only [h 0 (Nat.le_of_ble_eq_true rfl)], by simp only [h 0 (Nat.le_of_ble_eq_true rfl)]⟩) (fun a15 h15 C => ?_)
  have g15 : ∀ c, c < 1 → a15 c = Y.1 c := fun c hc => (h15 c (Nat.lt_of_lt_of_le hc (Nat.le_of_ble_eq_true rfl))).trans (g14 c hc)
  have C : xC (Gl sm30 (a15, Y.2)) Z (xBk B 15 1507) "BetweenStopsModel" cX10_init 1 2 := C
  show xWS (Gl sm30 (a15, Y.2)) (xBk B 15 1507) 1 smm20 [(0, .ref (a15 0))] 229 [.ref (a15 15), .ref (a15 0)]
  refine wg_putr (l2 := sm31) (k := 19) (r := 15) (i := 0) (pc := 229) C dX10_init_229 rfl hin_10 tyX10 tyX10_ok nmX10 (by decide) kf_X10_59 rfl rfl (tyX10_ok 19 (by decide)) rfl rfl R.2.1 sm30_at0 (by decide) rfl (fun C => ?_)
  refine ws_aload_n (pc := 232) C dX10_init_232 rfl 0 rfl ?_
  refine ws_bipush (pc := 233) C dX10_init_233 cb_24 ?_
  refine wg_newa (l2 := sm32) (t := 0) (N' := 24) (fun a => [(0, .ref (a 0))]) (fun a => [.ref (a 0)]) C dX10_init_235 (by decide) rfl kar_int hA sm31_w rfl (smm20_z 16 (by decide)).1 (smm20_z 16 (by decide)).2 (by decide) (by decide) (by decide) rfl rfl (HK (k2 := 16) (by decide)) (HN (n2 := 1531) (by decide)) (fun a h => ⟨by simp only [h 0 (Nat.le_of_ble_eq_true rfl)], by simp only [h 0 (Nat.le_of_ble_eq_true rfl)]⟩) (fun a16 h16 C => ?_)
  have g16 : ∀ c, c < 1 → a16 c = Y.1 c := fun c hc => (h16 c (Nat.lt_of_lt_of_le hc (Nat.le_of_ble_eq_true rfl))).trans (g15 c hc)
  have C : xC (Gl sm32 (a16, Y.2)) Z (xBk B 16 1531) "BetweenStopsModel" cX10_init 1 2 := C
  show xWS (Gl sm32 (a16, Y.2)) (xBk B 16 1531) 1 smm20 [(0, .ref (a16 0))] 237 [.ref (a16 16), .ref (a16 0)]
  refine wg_putr (l2 := sm33) (k := 20) (r := 16) (i := 0) (pc := 237) C dX10_init_237 rfl hin_10 tyX10 tyX10_ok nmX10 (by decide) kf_X10_62 rfl rfl (tyX10_ok 20 (by decide)) rfl rfl R.2.1 sm32_at0 (by decide) rfl (fun C => ?_)
  refine ws_aload_n (pc := 240) C dX10_init_240 rfl 0 rfl ?_
  refine ws_iconst (pc := 241) C dX10_init_241 ci_1 ?_
  refine ws_putI (σ2 := smm21) (pc := 242) C dX10_init_242 fp_X10_65 (xSf_of sm33_at0 rfl) rfl ?_
  refine ws_aload_n (pc := 245) C dX10_init_245 rfl 0 rfl ?_
  refine ws_bipush (pc := 246) C dX10_init_246 cb_41 ?_
  refine wg_newa (l2 := sm34) (t := 0) (N' := 41) (fun a => [(0, .ref (a 0))]) (fun a => [.ref (a 0)]) C dX10_init_248 (by decide) rfl kar_int hA sm33_w rfl (smm21_z 17 (by decide)).1 (smm21_z 17 (by decide)).2 (by decide) (by decide) (by decide) rfl rfl (HK (k2 := 17) (by decide)) (HN (n2 := 1572) (by decide)) (fun a h => ⟨by simp only [h 0 (Nat.le_of_ble_eq_true rfl)], by simp only [h 0 (Nat.le_of_ble_eq_true rfl)]⟩) (fun a17 h17 C => ?_)
  have g17 : ∀ c, c < 1 → a17 c = Y.1 c := fun c hc => (h17 c (Nat.lt_of_lt_of_le hc (Nat.le_of_ble_eq_true rfl))).trans (g16 c hc)
  have C : xC (Gl sm34 (a17, Y.2)) Z (xBk B 17 1572) "BetweenStopsModel" cX10_init 1 2 := C
  show xWS (Gl sm34 (a17, Y.2)) (xBk B 17 1572) 1 smm21 [(0, .ref (a17 0))] 250 [.ref (a17 17), .ref (a17 0)]
  refine wg_putr (l2 := sm35) (k := 29) (r := 17) (i := 0) (pc := 250) C dX10_init_250 rfl hin_10 tyX10 tyX10_ok nmX10 (by decide) kf_X10_68 rfl rfl (tyX10_ok 29 (by decide)) rfl rfl R.2.1 sm34_at0 (by decide) rfl (fun C => ?_)
  refine ws_aload_n (pc := 253) C dX10_init_253 rfl 0 rfl ?_
  refine ws_bipush (pc := 254) C dX10_init_254 cb_18 ?_
  refine wg_newa (l2 := sm36) (t := 0) (N' := 18) (fun a => [(0, .ref (a 0))]) (fun a => [.ref (a 0)]) C dX10_init_256 (by decide) rfl kar_int hA sm35_w rfl (smm21_z 18 (by decide)).1 (smm21_z 18 (by decide)).2 (by decide) (by decide) (by decide) rfl rfl (HK (k2 := 18) (by decide)) (HN (n2 := 1590) (by decide)) (fun a h => ⟨by simp only [h 0 (Nat.le_of_ble_eq_true rfl)], by simp only [h 0 (Nat.le_of_ble_eq_true rfl)]⟩) (fun a18 h18 C => ?_)
  have g18 : ∀ c, c < 1 → a18 c = Y.1 c := fun c hc => (h18 c (Nat.lt_of_lt_of_le hc (Nat.le_of_ble_eq_true rfl))).trans (g17 c hc)
  have C : xC (Gl sm36 (a18, Y.2)) Z (xBk B 18 1590) "BetweenStopsModel" cX10_init 1 2 := C
  show xWS (Gl sm36 (a18, Y.2)) (xBk B 18 1590) 1 smm21 [(0, .ref (a18 0))] 258 [.ref (a18 18), .ref (a18 0)]
  refine wg_putr (l2 := sm37) (k := 30) (r := 18) (i := 0) (pc := 258) C dX10_init_258 rfl hin_10 tyX10 tyX10_ok nmX10 (by decide) kf_X10_71 rfl rfl (tyX10_ok 30 (by decide)) rfl rfl R.2.1 sm36_at0 (by decide) rfl (fun C => ?_)
  refine ws_aload_n (pc := 261) C dX10_init_261 rfl 0 rfl ?_
  refine ws_bipush (pc := 262) C dX10_init_262 cb_8 ?_
  refine wg_newa (l2 := sm38) (t := 0) (N' := 8) (fun a => [(0, .ref (a 0))]) (fun a => [.ref (a 0)]) C dX10_init_264 (by decide) rfl kar_int hA sm37_w rfl (smm21_z 19 (by decide)).1 (smm21_z 19 (by decide)).2 (by decide) (by decide) (by decide) rfl rfl (HK (k2 := 19) (by decide)) (HN (n2 := 1598) (by decide)) (fun a h => ⟨by simp only [h 0 (Nat.le_of_ble_eq_true rfl)], by simp only [h 0 (Nat.le_of_ble_eq_true rfl)]⟩) (fun a19 h19 C => ?_)
  have g19 : ∀ c, c < 1 → a19 c = Y.1 c := fun c hc => (h19 c (Nat.lt_of_lt_of_le hc (Nat.le_of_ble_eq_true rfl))).trans (g18 c hc)
  have C : xC (Gl sm38 (a19, Y.2)) Z (xBk B 19 1598) "BetweenStopsModel" cX10_init 1 2 := C
  show xWS (Gl sm38 (a19, Y.2)) (xBk B 19 1598) 1 smm21 [(0, .ref (a19 0))] 266 [.ref (a19 19), .ref (a19 0)]
  refine wg_putr (l2 := sm39) (k := 31) (r := 19) (i := 0) (pc := 266) C dX10_init_266 rfl hin_10 tyX10 tyX10_ok nmX10 (by decide) kf_X10_74 rfl rfl (tyX10_ok 31 (by decide)) rfl rfl R.2.1 sm38_at0 (by decide) rfl (fun C => ?_)
  refine ws_aload_n (pc := 269) C dX10_init_269 rfl 0 rfl ?_
  refine ws_bipush (pc := 270) C dX10_init_270 cb_8 ?_
  refine wg_newa (l2 := sm40) (t := 0) (N' := 8) (fun a => [(0, .ref (a 0))]) (fun a => [.ref (a 0)]) C dX10_init_272 (by decide) rfl kar_int hA sm39_w rfl (smm21_z 20 (by decide)).1 (smm21_z 20 (by decide)).2 (by decide) (by decide) (by decide) rfl rfl (HK (k2 := 20) (by decide)) (HN (n2 := 1606) (by decide)) (fun a h => ⟨by simp only [h 0 (Nat.le_of_ble_eq_true rfl)], by simp only [h 0 (Nat.le_of_ble_eq_true rfl)]⟩) (fun a20 h20 C => ?_)
  have g20 : ∀ c, c < 1 → a20 c = Y.1 c := fun c hc => (h20 c (Nat.lt_of_lt_of_le hc (Nat.le_of_ble_eq_true rfl))).trans (g19 c hc)
  have C : xC (Gl sm40 (a20, Y.2)) Z (xBk B 20 1606) "BetweenStopsModel" cX10_init 1 2 := C
  show xWS (Gl sm40 (a20, Y.2)) (xBk B 20 1606) 1 smm21 [(0, .ref (a20 0))] 274 [.ref (a20 20), .ref (a20 0)]
  refine wg_putr (l2 := sm41) (k := 32) (r := 20) (i := 0) (pc := 274) C dX10_init_274 rfl hin_10 tyX10 tyX10_ok nmX10 (by decide) kf_X10_77 rfl rfl (tyX10_ok 32 (by decide)) rfl rfl R.2.1 sm40_at0 (by decide) rfl (fun C => ?_)
  refine ws_aload_n (pc := 277) C dX10_init_277 rfl 0 rfl ?_
  refine ws_bipush (pc := 278) C dX10_init_278 cb_8 ?_
  refine wg_newa (l2 := sm42) (t := 0) (N' := 8) (fun a => [(0, .ref (a 0))]) (fun a => [.ref (a 0)]) C dX10_init_280 (by decide) rfl kar_int hA sm41_w rfl (smm21_z 21 (by decide)).1 (smm21_z 21 (by decide)).2 (by decide) (by decide) (by decide) rfl rfl (HK (k2 := 21) (by decide)) (HN (n2 := 1614) (by decide)) (fun a h => ⟨by simp only [h 0 (Nat.le_of_ble_eq_true rfl)], by simp only [h 0 (Nat.le_of_ble_eq_true rfl)]⟩) (fun a21 h21 C => ?_)
  have g21 : ∀ c, c < 1 → a21 c = Y.1 c := fun c hc => (h21 c (Nat.lt_of_lt_of_le hc (Nat.le_of_ble_eq_true rfl))).trans (g20 c hc)
  have C : xC (Gl sm42 (a21, Y.2)) Z (xBk B 21 1614) "BetweenStopsModel" cX10_init 1 2 := C
  show xWS (Gl sm42 (a21, Y.2)) (xBk B 21 1614) 1 smm21 [(0, .ref (a21 0))] 282 [.ref (a21 21), .ref (a21 0)]
  refine wg_putr (l2 := sm43) (k := 33) (r := 21) (i := 0) (pc := 282) C dX10_init_282 rfl hin_10 tyX10 tyX10_ok nmX10 (by decide) kf_X10_80 rfl rfl (tyX10_ok 33 (by decide)) rfl rfl R.2.1 sm42_at0 (by decide) rfl (fun C => ?_)
  refine ws_aload_n (pc := 285) C dX10_init_285 rfl 0 rfl ?_
  refine ws_iconst (pc := 286) C dX10_init_286 ci_4 ?_
  refine wg_newa (l2 := sm44) (t := 0) (N' := 4) (fun a => [(0, .ref (a 0))]) (fun a => [.ref (a 0)]) C dX10_init_287 (by decide) rfl kar_int hA sm43_w rfl (smm21_z 22 (by decide)).1 (smm21_z 22 (by decide)).2 (by decide) (by decide) (by decide) rfl rfl (HK (k2 := 22) (by decide)) (HN (n2 := 1618) (by decide)) (fun a h => ⟨by simp only [h 0 (Nat.le_of_ble_eq_true rfl)], by simp only [h 0 (Nat.le_of_ble_eq_true rfl)]⟩) (fun a22 h22 C => ?_)
  have g22 : ∀ c, c < 1 → a22 c = Y.1 c := fun c hc => (h22 c (Nat.lt_of_lt_of_le hc (Nat.le_of_ble_eq_true rfl))).trans (g21 c hc)
  have C : xC (Gl sm44 (a22, Y.2)) Z (xBk B 22 1618) "BetweenStopsModel" cX10_init 1 2 := C
  show xWS (Gl sm44 (a22, Y.2)) (xBk B 22 1618) 1 smm21 [(0, .ref (a22 0))] 289 [.ref (a22 22), .ref (a22 0)]
  refine ws_dup (pc := 289) C dX10_init_289 rfl ?_
  refine ws_iconst (pc := 290) C dX10_init_290 ci_0 ?_
  refine ws_iconst (pc := 291) C dX10_init_291 ci_m1 ?_
  refine ws_iastK (σ2 := smm22) (k := 0) (pc := 292) C dX10_init_292 (xSr_of sm44_at22) (by decide +kernel) (by decide) rfl ?_
  refine ws_dup (pc := 293) C dX10_init_293 rfl ?_
  refine ws_iconst (pc := 294) C dX10_init_294 ci_1 ?_
  refine ws_iconst (pc := 295) C dX10_init_295 ci_m1 ?_
  refine ws_iastK (σ2 := smm23) (k := 1) (pc := 296) C dX10_init_296 (xSr_of sm44_at22) (by decide +kernel) (by decide) rfl ?_
  refine ws_dup (pc := 297) C dX10_init_297 rfl ?_
  refine ws_iconst (pc := 298) C dX10_init_298 ci_2 ?_
  refine ws_iconst (pc := 299) C dX10_init_299 ci_m1 ?_
  refine ws_iastK (σ2 := smm24) (k := 2) (pc := 300) C dX10_init_300 (xSr_of sm44_at22) (by decide +kernel) (by decide) rfl ?_
  refine ws_dup (pc := 301) C dX10_init_301 rfl ?_
  refine ws_iconst (pc := 302) C dX10_init_302 ci_3 ?_
  refine ws_iconst (pc := 303) C dX10_init_303 ci_m1 ?_
  refine ws_iastK (σ2 := smm25) (k := 3) (pc := 304) C dX10_init_304 (xSr_of sm44_at22) (by decide +kernel) (by decide) rfl ?_
  refine wg_putr (l2 := sm45) (k := 34) (r := 22) (i := 0) (pc := 305) C dX10_init_305 rfl hin_10 tyX10 tyX10_ok nmX10 (by decide) kf_X10_83 rfl rfl (tyX10_ok 34 (by decide)) rfl rfl R.2.1 sm44_at0 (by decide) rfl (fun C => ?_)
  refine ws_aload_n (pc := 308) C dX10_init_308 rfl 0 rfl ?_
  refine ws_iconst (pc := 309) C dX10_init_309 ci_4 ?_
  refine wg_newa (l2 := sm46) (t := 0) (N' := 4) (fun a => [(0, .ref (a 0))]) (fun a => [.ref (a 0)]) C dX10_init_310 (by decide) rfl kar_int hA sm45_w rfl (smm25_z 23 (by decide)).1 (smm25_z 23 (by decide)).2 (by decide) (by decide) (by decide) rfl rfl (HK (k2 := 23) (by decide)) (HN (n2 := 1622) (by decide)) (fun a h => ⟨by simp only [h 0 (Nat.le_of_ble_eq_true rfl)], by simp only [h 0 (Nat.le_of_ble_eq_true rfl)]⟩) (fun a23 h23 C => ?_)
  have g23 : ∀ c, c < 1 → a23 c = Y.1 c := fun c hc => (h23 c (Nat.lt_of_lt_of_le hc (Nat.le_of_ble_eq_true rfl))).trans (g22 c hc)
  have C : xC (Gl sm46 (a23, Y.2)) Z (xBk B 23 1622) "BetweenStopsModel" cX10_init 1 2 := C
  show xWS (Gl sm46 (a23, Y.2)) (xBk B 23 1622) 1 smm25 [(0, .ref (a23 0))] 312 [.ref (a23 23), .ref (a23 0)]
  refine wg_putr (l2 := sm47) (k := 35) (r := 23) (i := 0) (pc := 312) C dX10_init_312 rfl hin_10 tyX10 tyX10_ok nmX10 (by decide) kf_X10_86 rfl rfl (tyX10_ok 35 (by decide)) rfl rfl R.2.1 sm46_at0 (by decide) rfl (fun C => ?_)
  refine ws_aload_n (pc := 315) C dX10_init_315 rfl 0 rfl ?_
  refine ws_sipush (pc := 316) C dX10_init_316 cs_164 ?_
  refine wg_newa (l2 := sm48) (t := 0) (N' := 164) (fun a => [(0, .ref (a 0))]) (fun a => [.ref (a 0)]) C dX10_init_319 (by decide) rfl kar_int hA sm47_w rfl (smm25_z 24 (by decide)).1 (smm25_z 24 (by decide)).2 (by decide) (by decide) (by decide) rfl rfl (HK (k2 := 24) (by decide)) (HN (n2 := 1786) (by decide)) (fun a h => ⟨by simp only [h 0 (Nat.le_of_ble_eq_true rfl)], by simp only [h 0 (Nat.le_of_ble_eq_true rfl)]⟩) (fun a24 h24 C => ?_)
  have g24 : ∀ c, c < 1 → a24 c = Y.1 c := fun c hc => (h24 c (Nat.lt_of_lt_of_le hc (Nat.le_of_ble_eq_true rfl))).trans (g23 c hc)
  have C : xC (Gl sm48 (a24, Y.2)) Z (xBk B 24 1786) "BetweenStopsModel" cX10_init 1 2 := C
  show xWS (Gl sm48 (a24, Y.2)) (xBk B 24 1786) 1 smm25 [(0, .ref (a24 0))] 321 [.ref (a24 24), .ref (a24 0)]
  refine wg_putr (l2 := sm49) (k := 36) (r := 24) (i := 0) (pc := 321) C dX10_init_321 rfl hin_10 tyX10 tyX10_ok nmX10 (by decide) kf_X10_89 rfl rfl (tyX10_ok 36 (by decide)) rfl rfl R.2.1 sm48_at0 (by decide) rfl (fun C => ?_)
  refine ws_aload_n (pc := 324) C dX10_init_324 rfl 0 rfl ?_
  refine ws_bipush (pc := 325) C dX10_init_325 cb_8 ?_
  refine wg_newa (l2 := sm50) (t := 0) (N' := 8) (fun a => [(0, .ref (a 0))]) (fun a => [.ref (a 0)]) C dX10_init_327 (by decide) rfl kar_int hA sm49_w rfl (smm25_z 25 (by decide)).1 (smm25_z 25 (by decide)).2 (by decide) (by decide) (by decide) rfl rfl (HK (k2 := 25) (by decide)) (HN (n2 := 1794) (by decide)) (fun a h => ⟨by simp only [h 0 (Nat.le_of_ble_eq_true rfl)], by simp only [h 0 (Nat.le_of_ble_eq_true rfl)]⟩) (fun a25 h25 C => ?_)
  have g25 : ∀ c, c < 1 → a25 c = Y.1 c := fun c hc => (h25 c (Nat.lt_of_lt_of_le hc (Nat.le_of_ble_eq_true rfl))).trans (g24 c hc)
  have C : xC (Gl sm50 (a25, Y.2)) Z (xBk B 25 1794) "BetweenStopsModel" cX10_init 1 2 := C
  show xWS (Gl sm50 (a25, Y.2)) (xBk B 25 1794) 1 smm25 [(0, .ref (a25 0))] 329 [.ref (a25 25), .ref (a25 0)]
  refine wg_putr (l2 := sm51) (k := 43) (r := 25) (i := 0) (pc := 329) C dX10_init_329 rfl hin_10 tyX10 tyX10_ok nmX10 (by decide) kf_X10_92 rfl rfl (tyX10_ok 43 (by decide)) rfl rfl R.2.1 sm50_at0 (by decide) rfl (fun C => ?_)
  refine ws_aload_n (pc := 332) C dX10_init_332 rfl 0 rfl ?_
  refine ws_bipush (pc := 333) C dX10_init_333 cb_12 ?_
  refine wg_newa (l2 := sm52) (t := 1) (N' := 12) (fun a => [(0, .ref (a 0))]) (fun a => [.ref (a 0)]) C dX10_init_335 (by decide) rfl kar_long hA sm51_w rfl (smm25_z 26 (by decide)).1 (smm25_z 26 (by decide)).2 (by decide) (by decide) (by decide) rfl rfl (HK (k2 := 26) (by decide)) (HN (n2 := 1806) (by decide)) (fun a h => ⟨by simp only [h 0 (Nat.le_of_ble_eq_true rfl)], by simp only [h 0 (Nat.le_of_ble_eq_true rfl)]⟩) (fun a26 h26 C => ?_)
  have g26 : ∀ c, c < 1 → a26 c = Y.1 c := fun c hc => (h26 c (Nat.lt_of_lt_of_le hc (Nat.le_of_ble_eq_true rfl))).trans (g25 c hc)
  have C : xC (Gl sm52 (a26, Y.2)) Z (xBk B 26 1806) "BetweenStopsModel" cX10_init 1 2 := C
  show xWS (Gl sm52 (a26, Y.2)) (xBk B 26 1806) 1 smm25 [(0, .ref (a26 0))] 337 [.ref (a26 26), .ref (a26 0)]
  refine ws_dup (pc := 337) C dX10_init_337 rfl ?_
  refine ws_iconst (pc := 338) C dX10_init_338 ci_0 ?_
  refine ws_ldc2 (pc := 339) C dX10_init_339 kK_X10_95 ?_
  refine ws_lastK (σ2 := smm26) (k := 0) (pc := 342) C dX10_init_342 (xSr_of sm52_at26) (by decide +kernel) (by decide) rfl ?_
  refine ws_dup (pc := 343) C dX10_init_343 rfl ?_
  refine ws_iconst (pc := 344) C dX10_init_344 ci_1 ?_
  refine ws_ldc2 (pc := 345) C dX10_init_345 kK_X10_97 ?_
  refine ws_lastK (σ2 := smm27) (k := 1) (pc := 348) C dX10_init_348 (xSr_of sm52_at26) (by decide +kernel) (by decide) rfl ?_
  refine ws_dup (pc := 349) C dX10_init_349 rfl ?_
  refine ws_iconst (pc := 350) C dX10_init_350 ci_2 ?_
  refine ws_ldc2 (pc := 351) C dX10_init_351 kK_X10_99 ?_
  refine ws_lastK (σ2 := smm28) (k := 2) (pc := 354) C dX10_init_354 (xSr_of sm52_at26) (by decide +kernel) (by decide) rfl ?_
  refine ws_dup (pc := 355) C dX10_init_355 rfl ?_
  refine ws_iconst (pc := 356) C dX10_init_356 ci_3 ?_
  refine ws_ldc2 (pc := 357) C dX10_init_357 kK_X10_101 ?_
  refine ws_lastK (σ2 := smm29) (k := 3) (pc := 360) C dX10_init_360 (xSr_of sm52_at26) (by decide +kernel) (by decide) rfl ?_
  refine ws_dup (pc := 361) C dX10_init_361 rfl ?_
  refine ws_iconst (pc := 362) C dX10_init_362 ci_4 ?_
  refine ws_ldc2 (pc := 363) C dX10_init_363 kK_X10_103 ?_
  refine ws_lastK (σ2 := smm30) (k := 4) (pc := 366) C dX10_init_366 (xSr_of sm52_at26) (by decide +kernel) (by decide) rfl ?_
  refine ws_dup (pc := 367) C dX10_init_367 rfl ?_
  refine ws_iconst (pc := 368) C dX10_init_368 ci_5 ?_
  refine ws_ldc2 (pc := 369) C dX10_init_369 kK_X10_105 ?_
  refine ws_lastK (σ2 := smm31) (k := 5) (pc := 372) C dX10_init_372 (xSr_of sm52_at26) (by decide +kernel) (by decide) rfl ?_
  refine ws_dup (pc := 373) C dX10_init_373 rfl ?_
  refine ws_bipush (pc := 374) C dX10_init_374 cb_6 ?_
  refine ws_ldc2 (pc := 376) C dX10_init_376 kK_X10_107 ?_
  refine ws_lastK (σ2 := smm32) (k := 6) (pc := 379) C dX10_init_379 (xSr_of sm52_at26) (by decide +kernel) (by decide) rfl ?_
  refine ws_dup (pc := 380) C dX10_init_380 rfl ?_
  refine ws_bipush (pc := 381) C dX10_init_381 cb_7 ?_
  refine ws_ldc2 (pc := 383) C dX10_init_383 kK_X10_109 ?_
  refine ws_lastK (σ2 := smm33) (k := 7) (pc := 386) C dX10_init_386 (xSr_of sm52_at26) (by decide +kernel) (by decide) rfl ?_
  refine ws_dup (pc := 387) C dX10_init_387 rfl ?_
  refine ws_bipush (pc := 388) C dX10_init_388 cb_8 ?_
  refine ws_ldc2 (pc := 390) C dX10_init_390 kK_X10_111 ?_
  refine ws_lastK (σ2 := smm34) (k := 8) (pc := 393) C dX10_init_393 (xSr_of sm52_at26) (by decide +kernel) (by decide) rfl ?_
  refine ws_dup (pc := 394) C dX10_init_394 rfl ?_
  refine ws_bipush (pc := 395) C dX10_init_395 cb_9 ?_
  refine ws_ldc2 (pc := 397) C dX10_init_397 kK_X10_113 ?_
  refine ws_lastK (σ2 := smm35) (k := 9) (pc := 400) C dX10_init_400 (xSr_of sm52_at26) (by decide +kernel) (by decide) rfl ?_
  refine ws_dup (pc := 401) C dX10_init_401 rfl ?_
  refine ws_bipush (pc := 402) C dX10_init_402 cb_10 ?_
  refine ws_ldc2 (pc := 404) C dX10_init_404 kK_X10_115 ?_
  refine ws_lastK (σ2 := smm36) (k := 10) (pc := 407) C dX10_init_407 (xSr_of sm52_at26) (by decide +kernel) (by decide) rfl ?_
  refine ws_dup (pc := 408) C dX10_init_408 rfl ?_
  refine ws_bipush (pc := 409) C dX10_init_409 cb_11 ?_
  refine ws_ldc2 (pc := 411) C dX10_init_411 kK_X10_117 ?_
  refine ws_lastK (σ2 := smm37) (k := 11) (pc := 414) C dX10_init_414 (xSr_of sm52_at26) (by decide +kernel) (by decide) rfl ?_
  refine wg_putr (l2 := sm53) (k := 51) (r := 26) (i := 0) (pc := 415) C dX10_init_415 rfl hin_10 tyX10 tyX10_ok nmX10 (by decide) kf_X10_119 rfl rfl (tyX10_ok 51 (by decide)) rfl rfl R.2.1 sm52_at0 (by decide) rfl (fun C => ?_)
  refine ws_aload_n (pc := 418) C dX10_init_418 rfl 0 rfl ?_
  refine ws_sipush (pc := 419) C dX10_init_419 cs_200 ?_
  refine wg_newa (l2 := sm54) (t := 0) (N' := 200) (fun a => [(0, .ref (a 0))]) (fun a => [.ref (a 0)]) C dX10_init_422 (by decide) rfl kar_int hA sm53_w rfl (smm37_z 27 (by decide)).1 (smm37_z 27 (by decide)).2 (by decide) (by decide) (by decide) rfl rfl (HK (k2 := 27) (by decide)) (HN (n2 := 2006) (by decide)) (fun a h => ⟨by simp only [h 0 (Nat.le_of_ble_eq_true rfl)], by simp only [h 0 (Nat.le_of_ble_eq_true rfl)]⟩) (fun a27 h27 C => ?_)
  have g27 : ∀ c, c < 1 → a27 c = Y.1 c := fun c hc => (h27 c (Nat.lt_of_lt_of_le hc (Nat.le_of_ble_eq_true rfl))).trans (g26 c hc)
  have C : xC (Gl sm54 (a27, Y.2)) Z (xBk B 27 2006) "BetweenStopsModel" cX10_init 1 2 := C
  show xWS (Gl sm54 (a27, Y.2)) (xBk B 27 2006) 1 smm37 [(0, .ref (a27 0))] 424 [.ref (a27 27), .ref (a27 0)]
  refine wg_putr (l2 := sm55) (k := 52) (r := 27) (i := 0) (pc := 424) C dX10_init_424 rfl hin_10 tyX10 tyX10_ok nmX10 (by decide) kf_X10_123 rfl rfl (tyX10_ok 52 (by decide)) rfl rfl R.2.1 sm54_at0 (by decide) rfl (fun C => ?_)
  refine ws_aload_n (pc := 427) C dX10_init_427 rfl 0 rfl ?_
  refine ws_sipush (pc := 428) C dX10_init_428 cs_200 ?_
  refine wg_newa (l2 := sm56) (t := 0) (N' := 200) (fun a => [(0, .ref (a 0))]) (fun a => [.ref (a 0)]) C dX10_init_431 (by decide) rfl kar_int hA sm55_w rfl (smm37_z 28 (by decide)).1 (smm37_z 28 (by decide)).2 (by decide) (by decide) (by decide) rfl rfl (HK (k2 := 28) (by decide)) (HN (n2 := 2206) (by decide)) (fun a h => ⟨by simp only [h 0 (Nat.le_of_ble_eq_true rfl)], by simp only [h 0 (Nat.le_of_ble_eq_true rfl)]⟩) (fun a28 h28 C => ?_)
  have g28 : ∀ c, c < 1 → a28 c = Y.1 c := fun c hc => (h28 c (Nat.lt_of_lt_of_le hc (Nat.le_of_ble_eq_true rfl))).trans (g27 c hc)
  have C : xC (Gl sm56 (a28, Y.2)) Z (xBk B 28 2206) "BetweenStopsModel" cX10_init 1 2 := C
  show xWS (Gl sm56 (a28, Y.2)) (xBk B 28 2206) 1 smm37 [(0, .ref (a28 0))] 433 [.ref (a28 28), .ref (a28 0)]
  refine wg_putr (l2 := sm57) (k := 56) (r := 28) (i := 0) (pc := 433) C dX10_init_433 rfl hin_10 tyX10 tyX10_ok nmX10 (by decide) kf_X10_126 rfl rfl (tyX10_ok 56 (by decide)) rfl rfl R.2.1 sm56_at0 (by decide) rfl (fun C => ?_)
  refine ws_aload_n (pc := 436) C dX10_init_436 rfl 0 rfl ?_
  refine ws_bipush (pc := 437) C dX10_init_437 cb_6 ?_
  refine wg_newa (l2 := sm58) (t := 0) (N' := 6) (fun a => [(0, .ref (a 0))]) (fun a => [.ref (a 0)]) C dX10_init_439 (by decide) rfl kar_int hA sm57_w rfl (smm37_z 29 (by decide)).1 (smm37_z 29 (by decide)).2 (by decide) (by decide) (by decide) rfl rfl (HK (k2 := 29) (by decide)) (HN (n2 := 2212) (by decide)) (fun a h => ⟨by simp only [h 0 (Nat.le_of_ble_eq_true rfl)], by simp only [h 0 (Nat.le_of_ble_eq_true rfl)]⟩) (fun a29 h29 C => ?_)
  have g29 : ∀ c, c < 1 → a29 c = Y.1 c := fun c hc => (h29 c (Nat.lt_of_lt_of_le hc (Nat.le_of_ble_eq_true rfl))).trans (g28 c hc)
  have C : xC (Gl sm58 (a29, Y.2)) Z (xBk B 29 2212) "BetweenStopsModel" cX10_init 1 2 := C
  show xWS (Gl sm58 (a29, Y.2)) (xBk B 29 2212) 1 smm37 [(0, .ref (a29 0))] 441 [.ref (a29 29), .ref (a29 0)]
  refine wg_putr (l2 := sm59) (k := 57) (r := 29) (i := 0) (pc := 441) C dX10_init_441 rfl hin_10 tyX10 tyX10_ok nmX10 (by decide) kf_X10_129 rfl rfl (tyX10_ok 57 (by decide)) rfl rfl R.2.1 sm58_at0 (by decide) rfl (fun C => ?_)
  refine ws_aload_n (pc := 444) C dX10_init_444 rfl 0 rfl ?_
  refine ws_bipush (pc := 445) C dX10_init_445 cb_8 ?_
  refine wg_newa (l2 := sm60) (t := 0) (N' := 8) (fun a => [(0, .ref (a 0))]) (fun a => [.ref (a 0)]) C dX10_init_447 (by decide) rfl kar_int hA sm59_w rfl (smm37_z 30 (by decide)).1 (smm37_z 30 (by decide)).2 (by decide) (by decide) (by decide) rfl rfl (HK (k2 := 30) (by decide)) (HN (n2 := 2220) (by decide)) (fun a h => ⟨by simp only [h 0 (Nat.le_of_ble_eq_true rfl)], by simp only [h 0 (Nat.le_of_ble_eq_true rfl)]⟩) (fun a30 h30 C => ?_)
  have g30 : ∀ c, c < 1 → a30 c = Y.1 c := fun c hc => (h30 c (Nat.lt_of_lt_of_le hc (Nat.le_of_ble_eq_true rfl))).trans (g29 c hc)
  have C : xC (Gl sm60 (a30, Y.2)) Z (xBk B 30 2220) "BetweenStopsModel" cX10_init 1 2 := C
  show xWS (Gl sm60 (a30, Y.2)) (xBk B 30 2220) 1 smm37 [(0, .ref (a30 0))] 449 [.ref (a30 30), .ref (a30 0)]
  refine wg_putr (l2 := sm61) (k := 58) (r := 30) (i := 0) (pc := 449) C dX10_init_449 rfl hin_10 tyX10 tyX10_ok nmX10 (by decide) kf_X10_132 rfl rfl (tyX10_ok 58 (by decide)) rfl rfl R.2.1 sm60_at0 (by decide) rfl (fun C => ?_)
  refine ws_aload_n (pc := 452) C dX10_init_452 rfl 0 rfl ?_
  refine ws_bipush (pc := 453) C dX10_init_453 cb_8 ?_
  refine wg_newa (l2 := sm62) (t := 0) (N' := 8) (fun a => [(0, .ref (a 0))]) (fun a => [.ref (a 0)]) C dX10_init_455 (by decide) rfl kar_int hA sm61_w rfl (smm37_z 31 (by decide)).1 (smm37_z 31 (by decide)).2 (by decide) (by decide) (by decide) rfl rfl (HK (k2 := 31) (by decide)) (HN (n2 := 2228) (by decide)) (fun a h => ⟨by simp only [h 0 (Nat.le_of_ble_eq_true rfl)], by simp only [h 0 (Nat.le_of_ble_eq_true rfl)]⟩) (fun a31 h31 C => ?_)
  have g31 : ∀ c, c < 1 → a31 c = Y.1 c := fun c hc => (h31 c (Nat.lt_of_lt_of_le hc (Nat.le_of_ble_eq_true rfl))).trans (g30 c hc)
  have C : xC (Gl sm62 (a31, Y.2)) Z (xBk B 31 2228) "BetweenStopsModel" cX10_init 1 2 := C
  show xWS (Gl sm62 (a31, Y.2)) (xBk B 31 2228) 1 smm37 [(0, .ref (a31 0))] 457 [.ref (a31 31), .ref (a31 0)]
  refine wg_putr (l2 := sm63) (k := 59) (r := 31) (i := 0) (pc := 457) C dX10_init_457 rfl hin_10 tyX10 tyX10_ok nmX10 (by decide) kf_X10_135 rfl rfl (tyX10_ok 59 (by decide)) rfl rfl R.2.1 sm62_at0 (by decide) rfl (fun C => ?_)
  refine ws_aload_n (pc := 460) C dX10_init_460 rfl 0 rfl ?_
  refine ws_bipush (pc := 461) C dX10_init_461 cb_8 ?_
  refine wg_newa (l2 := sm64) (t := 0) (N' := 8) (fun a => [(0, .ref (a 0))]) (fun a => [.ref (a 0)]) C dX10_init_463 (by decide) rfl kar_int hA sm63_w rfl (smm37_z 32 (by decide)).1 (smm37_z 32 (by decide)).2 (by decide) (by decide) (by decide) rfl rfl (HK (k2 := 32) (by decide)) (HN (n2 := 2236) (by decide)) (fun a h => ⟨by simp only [h 0 (Nat.le_of_ble_eq_true rfl)], by simp only [h 0 (Nat.le_of_ble_eq_true rfl)]⟩) (fun a32 h32 C => ?_)
  have g32 : ∀ c, c < 1 → a32 c = Y.1 c := fun c hc => (h32 c (Nat.lt_of_lt_of_le hc (Nat.le_of_ble_eq_true rfl))).trans (g31 c hc)
  have C : xC (Gl sm64 (a32, Y.2)) Z (xBk B 32 2236) "BetweenStopsModel" cX10_init 1 2 := C
  show xWS (Gl sm64 (a32, Y.2)) (xBk B 32 2236) 1 smm37 [(0, .ref (a32 0))] 465 [.ref (a32 32), .ref (a32 0)]
  refine wg_putr (l2 := sm65) (k := 61) (r := 32) (i := 0) (pc := 465) C dX10_init_465 rfl hin_10 tyX10 tyX10_ok nmX10 (by decide) kf_X10_138 rfl rfl (tyX10_ok 61 (by decide)) rfl rfl R.2.1 sm64_at0 (by decide) rfl (fun C => ?_)
  refine ws_aload_n (pc := 468) C dX10_init_468 rfl 0 rfl ?_
  refine ws_bipush (pc := 469) C dX10_init_469 cb_21 ?_
  refine wg_newa (l2 := sm66) (t := 0) (N' := 21) (fun a => [(0, .ref (a 0))]) (fun a => [.ref (a 0)]) C dX10_init_471 (by decide) rfl kar_int hA sm65_w rfl (smm37_z 33 (by decide)).1 (smm37_z 33 (by decide)).2 (by decide) (by decide) (by decide) rfl rfl (HK (k2 := 33) (by decide)) (HN (n2 := 2257) (by decide)) (fun a h => ⟨by simp only [h 0 (Nat.le_of_ble_eq_true rfl)], by simp only [h 0 (Nat.le_of_ble_eq_true rfl)]⟩) (fun a33 h33 C => ?_)
  have g33 : ∀ c, c < 1 → a33 c = Y.1 c := fun c hc => (h33 c (Nat.lt_of_lt_of_le hc (Nat.le_of_ble_eq_true rfl))).trans (g32 c hc)
  have C : xC (Gl sm66 (a33, Y.2)) Z (xBk B 33 2257) "BetweenStopsModel" cX10_init 1 2 := C
  show xWS (Gl sm66 (a33, Y.2)) (xBk B 33 2257) 1 smm37 [(0, .ref (a33 0))] 473 [.ref (a33 33), .ref (a33 0)]
  refine wg_putr (l2 := sm67) (k := 63) (r := 33) (i := 0) (pc := 473) C dX10_init_473 rfl hin_10 tyX10 tyX10_ok nmX10 (by decide) kf_X10_141 rfl rfl (tyX10_ok 63 (by decide)) rfl rfl R.2.1 sm66_at0 (by decide) rfl (fun C => ?_)
  refine ws_aload_n (pc := 476) C dX10_init_476 rfl 0 rfl ?_
  refine ws_bipush (pc := 477) C dX10_init_477 cb_8 ?_
  refine wg_newa (l2 := sm68) (t := 0) (N' := 8) (fun a => [(0, .ref (a 0))]) (fun a => [.ref (a 0)]) C dX10_init_479 (by decide) rfl kar_int hA sm67_w rfl (smm37_z 34 (by decide)).1 (smm37_z 34 (by decide)).2 (by decide) (by decide) (by decide) rfl rfl (HK (k2 := 34) (by decide)) (HN (n2 := 2265) (by decide)) (fun a h => ⟨by simp only [h 0 (Nat.le_of_ble_eq_true rfl)], by simp only [h 0 (Nat.le_of_ble_eq_true rfl)]⟩) (fun a34 h34 C => ?_)
  have g34 : ∀ c, c < 1 → a34 c = Y.1 c := fun c hc => (h34 c (Nat.lt_of_lt_of_le hc (Nat.le_of_ble_eq_true rfl))).trans (g33 c hc)
  have C : xC (Gl sm68 (a34, Y.2)) Z (xBk B 34 2265) "BetweenStopsModel" cX10_init 1 2 := C
  show xWS (Gl sm68 (a34, Y.2)) (xBk B 34 2265) 1 smm37 [(0, .ref (a34 0))] 481 [.ref (a34 34), .ref (a34 0)]
  refine wg_putr (l2 := sm69) (k := 64) (r := 34) (i := 0) (pc := 481) C dX10_init_481 rfl hin_10 tyX10 tyX10_ok nmX10 (by decide) kf_X10_144 rfl rfl (tyX10_ok 64 (by decide)) rfl rfl R.2.1 sm68_at0 (by decide) rfl (fun C => ?_)
  refine ws_aload_n (pc := 484) C dX10_init_484 rfl 0 rfl ?_
  refine ws_bipush (pc := 485) C dX10_init_485 cb_8 ?_
  refine wg_newa (l2 := sm70) (t := 1) (N' := 8) (fun a => [(0, .ref (a 0))]) (fun a => [.ref (a 0)]) C dX10_init_487 (by decide) rfl kar_long hA sm69_w rfl (smm37_z 35 (by decide)).1 (smm37_z 35 (by decide)).2 (by decide) (by decide) (by decide) rfl rfl (HK (k2 := 35) (by decide)) (HN (n2 := 2273) (by decide)) (fun a h => ⟨by simp only [h 0 (Nat.le_of_ble_eq_true rfl)], by simp only [h 0 (Nat.le_of_ble_eq_true rfl)]⟩) (fun a35 h35 C => ?_)
  have g35 : ∀ c, c < 1 → a35 c = Y.1 c := fun c hc => (h35 c (Nat.lt_of_lt_of_le hc (Nat.le_of_ble_eq_true rfl))).trans (g34 c hc)
  have C : xC (Gl sm70 (a35, Y.2)) Z (xBk B 35 2273) "BetweenStopsModel" cX10_init 1 2 := C
  show xWS (Gl sm70 (a35, Y.2)) (xBk B 35 2273) 1 smm37 [(0, .ref (a35 0))] 489 [.ref (a35 35), .ref (a35 0)]
  refine wg_putr (l2 := sm71) (k := 65) (r := 35) (i := 0) (pc := 489) C dX10_init_489 rfl hin_10 tyX10 tyX10_ok nmX10 (by decide) kf_X10_147 rfl rfl (tyX10_ok 65 (by decide)) rfl rfl R.2.1 sm70_at0 (by decide) rfl (fun C => ?_)
  refine ws_aload_n (pc := 492) C dX10_init_492 rfl 0 rfl ?_
  refine ws_bipush (pc := 493) C dX10_init_493 cb_8 ?_
  refine wg_newa (l2 := sm72) (t := 0) (N' := 8) (fun a => [(0, .ref (a 0))]) (fun a => [.ref (a 0)]) C dX10_init_495 (by decide) rfl kar_int hA sm71_w rfl (smm37_z 36 (by decide)).1 (smm37_z 36 (by decide)).2 (by decide) (by decide) (by decide) rfl rfl (HK (k2 := 36) (by decide)) (HN (n2 := 2281) (by decide)) (fun a h => ⟨by simp only [h 0 (Nat.le_of_ble_eq_true rfl)], by simp only [h 0 (Nat.le_of_ble_eq_true rfl)]⟩) (fun a36 h36 C => ?_)
  have g36 : ∀ c, c < 1 → a36 c = Y.1 c := fun c hc => (h36 c (Nat.lt_of_lt_of_le hc (Nat.le_of_ble_eq_true rfl))).trans (g35 c hc)
  have C : xC (Gl sm72 (a36, Y.2)) Z (xBk B 36 2281) "BetweenStopsModel" cX10_init 1 2 := C
  show xWS (Gl sm72 (a36, Y.2)) (xBk B 36 2281) 1 smm37 [(0, .ref (a36 0))] 497 [.ref (a36 36), .ref (a36 0)]
  refine wg_putr (l2 := sm73) (k := 66) (r := 36) (i := 0) (pc := 497) C dX10_init_497 rfl hin_10 tyX10 tyX10_ok nmX10 (by decide) kf_X10_150 rfl rfl (tyX10_ok 66 (by decide)) rfl rfl R.2.1 sm72_at0 (by decide) rfl (fun C => ?_)
  refine ws_aload_n (pc := 500) C dX10_init_500 rfl 0 rfl ?_
  refine ws_bipush (pc := 501) C dX10_init_501 cb_12 ?_
  refine wg_newa (l2 := sm74) (t := 1) (N' := 12) (fun a => [(0, .ref (a 0))]) (fun a => [.ref (a 0)]) C dX10_init_503 (by decide) rfl kar_long hA sm73_w rfl (smm37_z 37 (by decide)).1 (smm37_z 37 (by decide)).2 (by decide) (by decide) (by decide) rfl rfl (HK (k2 := 37) (by decide)) (HN (n2 := 2293) (by decide)) (fun a h => ⟨by simp only [h 0 (Nat.le_of_ble_eq_true rfl)], by simp only [h 0 (Nat.le_of_ble_eq_true rfl)]⟩) (fun a37 h37 C => ?_)
  have g37 : ∀ c, c < 1 → a37 c = Y.1 c := fun c hc => (h37 c (Nat.lt_of_lt_of_le hc (Nat.le_of_ble_eq_true rfl))).trans (g36 c hc)
  have C : xC (Gl sm74 (a37, Y.2)) Z (xBk B 37 2293) "BetweenStopsModel" cX10_init 1 2 := C
  show xWS (Gl sm74 (a37, Y.2)) (xBk B 37 2293) 1 smm37 [(0, .ref (a37 0))] 505 [.ref (a37 37), .ref (a37 0)]
  refine wg_putr (l2 := sm75) (k := 67) (r := 37) (i := 0) (pc := 505) C dX10_init_505 rfl hin_10 tyX10 tyX10_ok nmX10 (by decide) kf_X10_153 rfl rfl (tyX10_ok 67 (by decide)) rfl rfl R.2.1 sm74_at0 (by decide) rfl (fun C => ?_)
  have e : Gl sm75 (a37, Y.2) = GM (a37, Y.2) := by rw [sm75_end]; rfl
  rw [e] at C ⊢
  refine ws_less [0] rfl ?_
  exact tX10_init C R rfl g37 h
