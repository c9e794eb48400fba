theorem sg_1 {w : Cond} (h : w ∈ tables_1_1) : w ∈ lw_tbl := List.mem_append_right _ (show w ∈ tables_1 from List.mem_append_left _ h)
theorem sg_2 {w : Cond} (h : w ∈ tables_1_2) : w ∈ lw_tbl := List.mem_append_right _ (show w ∈ tables_1 from List.mem_append_right _ (List.mem_append_left _ h))
theorem sg_3 {w : Cond} (h : w ∈ tables_1_3) : w ∈ lw_tbl := List.mem_append_right _ (show w ∈ tables_1 from List.mem_append_right _ (List.mem_append_right _ (List.mem_append_left _ h)))
theorem sg_4 {w : Cond} (h : w ∈ tables_1_4) : w ∈ lw_tbl := List.mem_append_right _ (show w ∈ tables_1 from List.mem_append_right _ (List.mem_append_right _ (List.mem_append_right _ (List.mem_append_left _ h))))
theorem sg_5 {w : Cond} (h : w ∈ tables_1_5) : w ∈ lw_tbl := List.mem_append_right _ (show w ∈ tables_1 from List.mem_append_right _ (List.mem_append_right _ (List.mem_append_right _ (List.mem_append_right _ (List.mem_append_left _ h)))))
theorem sg_6 {w : Cond} (h : w ∈ tables_1_6) : w ∈ lw_tbl := List.mem_append_right _ (show w ∈ tables_1 from List.mem_append_right _ (List.mem_append_right _ (List.mem_append_right _ (List.mem_append_right _ (List.mem_append_right _ (List.mem_append_left _ h))))))
theorem sg_7 {w : Cond} (h : w ∈ tables_1_7) : w ∈ lw_tbl := List.mem_append_right _ (show w ∈ tables_1 from List.mem_append_right _ (List.mem_append_right _ (List.mem_append_right _ (List.mem_append_right _ (List.mem_append_right _ (List.mem_append_right _ (h)))))))
theorem sg_0 {w : Cond} (h : w ∈ k2_sels lw_privs) : w ∈ lw_tbl := List.mem_append_left _ h
theorem hin_0 : ∀ w ∈ u_ws RX0 TX0 11, w ∈ xTB := fun w h => xTB_in ((by decide +kernel : ∀ w ∈ u_ws RX0 TX0 11, w ∈ lw_tbl) w h) ((by decide +kernel : ∀ w ∈ u_ws RX0 TX0 11, goodWord w = true) w h)
theorem hin_1 : ∀ w ∈ u_ws RX1 TX1 1, w ∈ xTB := fun w h => xTB_in ((by decide +kernel : ∀ w ∈ u_ws RX1 TX1 1, w ∈ lw_tbl) w h) ((by decide +kernel : ∀ w ∈ u_ws RX1 TX1 1, goodWord w = true) w h)
theorem hin_2 : ∀ w ∈ u_ws RX2 TX2 3, w ∈ xTB := fun w h => xTB_in ((by decide +kernel : ∀ w ∈ u_ws RX2 TX2 3, w ∈ lw_tbl) w h) ((by decide +kernel : ∀ w ∈ u_ws RX2 TX2 3, goodWord w = true) w h)
theorem hin_3 : ∀ w ∈ u_ws RX3 TX3 8, w ∈ xTB := fun w h => xTB_in ((by decide +kernel : ∀ w ∈ u_ws RX3 TX3 8, w ∈ lw_tbl) w h) ((by decide +kernel : ∀ w ∈ u_ws RX3 TX3 8, goodWord w = true) w h)
theorem hin_4 : ∀ w ∈ u_ws RX4 TX4 6, w ∈ xTB := fun w h => xTB_in ((by decide +kernel : ∀ w ∈ u_ws RX4 TX4 6, w ∈ lw_tbl) w h) ((by decide +kernel : ∀ w ∈ u_ws RX4 TX4 6, goodWord w = true) w h)
theorem hin_5 : ∀ w ∈ u_ws RX5 TX5 5, w ∈ xTB := fun w h => xTB_in ((by decide +kernel : ∀ w ∈ u_ws RX5 TX5 5, w ∈ lw_tbl) w h) ((by decide +kernel : ∀ w ∈ u_ws RX5 TX5 5, goodWord w = true) w h)
theorem hin_6 : ∀ w ∈ u_ws RX6 TX6 10, w ∈ xTB := fun w h => xTB_in ((by decide +kernel : ∀ w ∈ u_ws RX6 TX6 10, w ∈ lw_tbl) w h) ((by decide +kernel : ∀ w ∈ u_ws RX6 TX6 10, goodWord w = true) w h)
theorem hin_7 : ∀ w ∈ u_ws RX7 TX7 4, w ∈ xTB := fun w h => xTB_in ((by decide +kernel : ∀ w ∈ u_ws RX7 TX7 4, w ∈ lw_tbl) w h) ((by decide +kernel : ∀ w ∈ u_ws RX7 TX7 4, goodWord w = true) w h)
theorem hin_8 : ∀ w ∈ u_ws RX8 TX8 17, w ∈ xTB := fun w h => xTB_in ((by decide +kernel : ∀ w ∈ u_ws RX8 TX8 17, w ∈ lw_tbl) w h) ((by decide +kernel : ∀ w ∈ u_ws RX8 TX8 17, goodWord w = true) w h)
theorem hin_9 : ∀ w ∈ u_ws RX9 TX9 15, w ∈ xTB := fun w h => xTB_in ((by decide +kernel : ∀ w ∈ u_ws RX9 TX9 15, w ∈ lw_tbl) w h) ((by decide +kernel : ∀ w ∈ u_ws RX9 TX9 15, goodWord w = true) w h)
theorem hin_10 : ∀ w ∈ u_ws RX10 TX10 68, w ∈ xTB := fun w h => xTB_in ((by decide +kernel : ∀ w ∈ u_ws RX10 TX10 68, w ∈ lw_tbl) w h) ((by decide +kernel : ∀ w ∈ u_ws RX10 TX10 68, goodWord w = true) w h)
theorem kf_X3_9 : Cond.fieldLink "BetweenStops$Stop" 9 "BetweenStops$Stop" "kind" "I" ∈ xTB := xTB_in (sg_1 (List.mem_of_getElem? (i := 51) (by decide +kernel))) rfl
theorem fd_X3_9 : xFd "BetweenStops$Stop" 9 3 0 := ⟨_, TX3, 8, rfl, hin_3, by decide, kf_X3_9⟩
theorem fp_X3_9 : xFp "BetweenStops$Stop" 9 3 0 .int := ⟨_, TX3, 8, tyX3, rfl, hin_3, by decide, kf_X3_9, tyX3_ok, nmX3, rfl, by decide +kernel⟩
theorem kf_X9_181 : Cond.fieldLink "BetweenStops" 181 "BetweenStops$Stop" "kind" "I" ∈ xTB := xTB_in (sg_1 (List.mem_of_getElem? (i := 52) (by decide +kernel))) rfl
theorem fd_X9_181 : xFd "BetweenStops" 181 3 0 := ⟨_, TX3, 8, rfl, hin_3, by decide, kf_X9_181⟩
theorem fp_X9_181 : xFp "BetweenStops" 181 3 0 .int := ⟨_, TX3, 8, tyX3, rfl, hin_3, by decide, kf_X9_181, tyX3_ok, nmX3, rfl, by decide +kernel⟩
theorem kf_X3_23 : Cond.fieldLink "BetweenStops$Stop" 23 "BetweenStops$Stop" "kindAbove" "I" ∈ xTB := xTB_in (sg_1 (List.mem_of_getElem? (i := 53) (by decide +kernel))) rfl
theorem fd_X3_23 : xFd "BetweenStops$Stop" 23 3 1 := ⟨_, TX3, 8, rfl, hin_3, by decide, kf_X3_23⟩
theorem fp_X3_23 : xFp "BetweenStops$Stop" 23 3 1 .int := ⟨_, TX3, 8, tyX3, rfl, hin_3, by decide, kf_X3_23, tyX3_ok, nmX3, rfl, by decide +kernel⟩
theorem kf_X3_26 : Cond.fieldLink "BetweenStops$Stop" 26 "BetweenStops$Stop" "cell" "I" ∈ xTB := xTB_in (sg_1 (List.mem_of_getElem? (i := 54) (by decide +kernel))) rfl
theorem fd_X3_26 : xFd "BetweenStops$Stop" 26 3 2 := ⟨_, TX3, 8, rfl, hin_3, by decide, kf_X3_26⟩
theorem fp_X3_26 : xFp "BetweenStops$Stop" 26 3 2 .int := ⟨_, TX3, 8, tyX3, rfl, hin_3, by decide, kf_X3_26, tyX3_ok, nmX3, rfl, by decide +kernel⟩
theorem kf_X8_113 : Cond.fieldLink "BetweenStops$Ways" 113 "BetweenStops$Stop" "cell" "I" ∈ xTB := xTB_in (sg_1 (List.mem_of_getElem? (i := 55) (by decide +kernel))) rfl
theorem fd_X8_113 : xFd "BetweenStops$Ways" 113 3 2 := ⟨_, TX3, 8, rfl, hin_3, by decide, kf_X8_113⟩
theorem fp_X8_113 : xFp "BetweenStops$Ways" 113 3 2 .int := ⟨_, TX3, 8, tyX3, rfl, hin_3, by decide, kf_X8_113, tyX3_ok, nmX3, rfl, by decide +kernel⟩
theorem kf_X9_184 : Cond.fieldLink "BetweenStops" 184 "BetweenStops$Stop" "cell" "I" ∈ xTB := xTB_in (sg_1 (List.mem_of_getElem? (i := 56) (by decide +kernel))) rfl
theorem fd_X9_184 : xFd "BetweenStops" 184 3 2 := ⟨_, TX3, 8, rfl, hin_3, by decide, kf_X9_184⟩
theorem fp_X9_184 : xFp "BetweenStops" 184 3 2 .int := ⟨_, TX3, 8, tyX3, rfl, hin_3, by decide, kf_X9_184, tyX3_ok, nmX3, rfl, by decide +kernel⟩
theorem kf_X3_29 : Cond.fieldLink "BetweenStops$Stop" 29 "BetweenStops$Stop" "takes" "I" ∈ xTB := xTB_in (sg_1 (List.mem_of_getElem? (i := 57) (by decide +kernel))) rfl
theorem fd_X3_29 : xFd "BetweenStops$Stop" 29 3 3 := ⟨_, TX3, 8, rfl, hin_3, by decide, kf_X3_29⟩
theorem fp_X3_29 : xFp "BetweenStops$Stop" 29 3 3 .int := ⟨_, TX3, 8, tyX3, rfl, hin_3, by decide, kf_X3_29, tyX3_ok, nmX3, rfl, by decide +kernel⟩
theorem kf_X9_313 : Cond.fieldLink "BetweenStops" 313 "BetweenStops$Stop" "takes" "I" ∈ xTB := xTB_in (sg_1 (List.mem_of_getElem? (i := 58) (by decide +kernel))) rfl
theorem fd_X9_313 : xFd "BetweenStops" 313 3 3 := ⟨_, TX3, 8, rfl, hin_3, by decide, kf_X9_313⟩
theorem fp_X9_313 : xFp "BetweenStops" 313 3 3 .int := ⟨_, TX3, 8, tyX3, rfl, hin_3, by decide, kf_X9_313, tyX3_ok, nmX3, rfl, by decide +kernel⟩
theorem kf_X3_32 : Cond.fieldLink "BetweenStops$Stop" 32 "BetweenStops$Stop" "more" "I" ∈ xTB := xTB_in (sg_1 (List.mem_of_getElem? (i := 59) (by decide +kernel))) rfl
theorem fd_X3_32 : xFd "BetweenStops$Stop" 32 3 4 := ⟨_, TX3, 8, rfl, hin_3, by decide, kf_X3_32⟩
theorem fp_X3_32 : xFp "BetweenStops$Stop" 32 3 4 .int := ⟨_, TX3, 8, tyX3, rfl, hin_3, by decide, kf_X3_32, tyX3_ok, nmX3, rfl, by decide +kernel⟩
theorem kf_X3_35 : Cond.fieldLink "BetweenStops$Stop" 35 "BetweenStops$Stop" "isOpen" "Z" ∈ xTB := xTB_in (sg_1 (List.mem_of_getElem? (i := 60) (by decide +kernel))) rfl
theorem fd_X3_35 : xFd "BetweenStops$Stop" 35 3 5 := ⟨_, TX3, 8, rfl, hin_3, by decide, kf_X3_35⟩
theorem fp_X3_35 : xFp "BetweenStops$Stop" 35 3 5 .boolean := ⟨_, TX3, 8, tyX3, rfl, hin_3, by decide, kf_X3_35, tyX3_ok, nmX3, rfl, by decide +kernel⟩
theorem kf_X0_64 : Cond.fieldLink "BetweenStops$Image" 64 "BetweenStops$Stop" "isOpen" "Z" ∈ xTB := xTB_in (sg_1 (List.mem_of_getElem? (i := 61) (by decide +kernel))) rfl
theorem fd_X0_64 : xFd "BetweenStops$Image" 64 3 5 := ⟨_, TX3, 8, rfl, hin_3, by decide, kf_X0_64⟩
theorem fp_X0_64 : xFp "BetweenStops$Image" 64 3 5 .boolean := ⟨_, TX3, 8, tyX3, rfl, hin_3, by decide, kf_X0_64, tyX3_ok, nmX3, rfl, by decide +kernel⟩
theorem kf_X6_72 : Cond.fieldLink "BetweenStops$Town" 72 "BetweenStops$Stop" "isOpen" "Z" ∈ xTB := xTB_in (sg_1 (List.mem_of_getElem? (i := 62) (by decide +kernel))) rfl
theorem fd_X6_72 : xFd "BetweenStops$Town" 72 3 5 := ⟨_, TX3, 8, rfl, hin_3, by decide, kf_X6_72⟩
theorem fp_X6_72 : xFp "BetweenStops$Town" 72 3 5 .boolean := ⟨_, TX3, 8, tyX3, rfl, hin_3, by decide, kf_X6_72, tyX3_ok, nmX3, rfl, by decide +kernel⟩
theorem kf_X9_167 : Cond.fieldLink "BetweenStops" 167 "BetweenStops$Stop" "isOpen" "Z" ∈ xTB := xTB_in (sg_1 (List.mem_of_getElem? (i := 63) (by decide +kernel))) rfl
theorem fd_X9_167 : xFd "BetweenStops" 167 3 5 := ⟨_, TX3, 8, rfl, hin_3, by decide, kf_X9_167⟩
theorem fp_X9_167 : xFp "BetweenStops" 167 3 5 .boolean := ⟨_, TX3, 8, tyX3, rfl, hin_3, by decide, kf_X9_167, tyX3_ok, nmX3, rfl, by decide +kernel⟩
theorem kf_X3_39 : Cond.fieldLink "BetweenStops$Stop" 39 "BetweenStops$Stop" "wanted" "I" ∈ xTB := xTB_in (sg_1 (List.mem_of_getElem? (i := 64) (by decide +kernel))) rfl
theorem fd_X3_39 : xFd "BetweenStops$Stop" 39 3 6 := ⟨_, TX3, 8, rfl, hin_3, by decide, kf_X3_39⟩
theorem fp_X3_39 : xFp "BetweenStops$Stop" 39 3 6 .int := ⟨_, TX3, 8, tyX3, rfl, hin_3, by decide, kf_X3_39, tyX3_ok, nmX3, rfl, by decide +kernel⟩
theorem kf_X8_85 : Cond.fieldLink "BetweenStops$Ways" 85 "BetweenStops$Stop" "wanted" "I" ∈ xTB := xTB_in (sg_1 (List.mem_of_getElem? (i := 65) (by decide +kernel))) rfl
theorem fd_X8_85 : xFd "BetweenStops$Ways" 85 3 6 := ⟨_, TX3, 8, rfl, hin_3, by decide, kf_X8_85⟩
theorem fp_X8_85 : xFp "BetweenStops$Ways" 85 3 6 .int := ⟨_, TX3, 8, tyX3, rfl, hin_3, by decide, kf_X8_85, tyX3_ok, nmX3, rfl, by decide +kernel⟩
theorem kf_X0_68 : Cond.fieldLink "BetweenStops$Image" 68 "BetweenStops$Stop" "wanted" "I" ∈ xTB := xTB_in (sg_1 (List.mem_of_getElem? (i := 66) (by decide +kernel))) rfl
theorem fd_X0_68 : xFd "BetweenStops$Image" 68 3 6 := ⟨_, TX3, 8, rfl, hin_3, by decide, kf_X0_68⟩
theorem fp_X0_68 : xFp "BetweenStops$Image" 68 3 6 .int := ⟨_, TX3, 8, tyX3, rfl, hin_3, by decide, kf_X0_68, tyX3_ok, nmX3, rfl, by decide +kernel⟩
theorem kf_X9_175 : Cond.fieldLink "BetweenStops" 175 "BetweenStops$Stop" "wanted" "I" ∈ xTB := xTB_in (sg_1 (List.mem_of_getElem? (i := 67) (by decide +kernel))) rfl
theorem fd_X9_175 : xFd "BetweenStops" 175 3 6 := ⟨_, TX3, 8, rfl, hin_3, by decide, kf_X9_175⟩
theorem fp_X9_175 : xFp "BetweenStops" 175 3 6 .int := ⟨_, TX3, 8, tyX3, rfl, hin_3, by decide, kf_X9_175, tyX3_ok, nmX3, rfl, by decide +kernel⟩
theorem kf_X8_76 : Cond.fieldLink "BetweenStops$Ways" 76 "BetweenStops$Stop" "pattern" "I" ∈ xTB := xTB_in (sg_1 (List.mem_of_getElem? (i := 68) (by decide +kernel))) rfl
theorem fd_X8_76 : xFd "BetweenStops$Ways" 76 3 7 := ⟨_, TX3, 8, rfl, hin_3, by decide, kf_X8_76⟩
theorem fp_X8_76 : xFp "BetweenStops$Ways" 76 3 7 .int := ⟨_, TX3, 8, tyX3, rfl, hin_3, by decide, kf_X8_76, tyX3_ok, nmX3, rfl, by decide +kernel⟩
theorem kf_X3_42 : Cond.fieldLink "BetweenStops$Stop" 42 "BetweenStops$Stop" "pattern" "I" ∈ xTB := xTB_in (sg_1 (List.mem_of_getElem? (i := 69) (by decide +kernel))) rfl
theorem fd_X3_42 : xFd "BetweenStops$Stop" 42 3 7 := ⟨_, TX3, 8, rfl, hin_3, by decide, kf_X3_42⟩
theorem fp_X3_42 : xFp "BetweenStops$Stop" 42 3 7 .int := ⟨_, TX3, 8, tyX3, rfl, hin_3, by decide, kf_X3_42, tyX3_ok, nmX3, rfl, by decide +kernel⟩
theorem kf_X0_70 : Cond.fieldLink "BetweenStops$Image" 70 "BetweenStops$Stop" "pattern" "I" ∈ xTB := xTB_in (sg_1 (List.mem_of_getElem? (i := 70) (by decide +kernel))) rfl
theorem fd_X0_70 : xFd "BetweenStops$Image" 70 3 7 := ⟨_, TX3, 8, rfl, hin_3, by decide, kf_X0_70⟩
theorem fp_X0_70 : xFp "BetweenStops$Image" 70 3 7 .int := ⟨_, TX3, 8, tyX3, rfl, hin_3, by decide, kf_X0_70, tyX3_ok, nmX3, rfl, by decide +kernel⟩
theorem kf_X9_178 : Cond.fieldLink "BetweenStops" 178 "BetweenStops$Stop" "pattern" "I" ∈ xTB := xTB_in (sg_1 (List.mem_of_getElem? (i := 71) (by decide +kernel))) rfl
theorem fd_X9_178 : xFd "BetweenStops" 178 3 7 := ⟨_, TX3, 8, rfl, hin_3, by decide, kf_X9_178⟩
theorem fp_X9_178 : xFp "BetweenStops" 178 3 7 .int := ⟨_, TX3, 8, tyX3, rfl, hin_3, by decide, kf_X9_178, tyX3_ok, nmX3, rfl, by decide +kernel⟩
theorem kf_X7_7 : Cond.fieldLink "BetweenStops$Trip" 7 "BetweenStops$Trip" "from" "I" ∈ xTB := xTB_in (sg_1 (List.mem_of_getElem? (i := 95) (by decide +kernel))) rfl
theorem fd_X7_7 : xFd "BetweenStops$Trip" 7 7 0 := ⟨_, TX7, 4, rfl, hin_7, by decide, kf_X7_7⟩
theorem fp_X7_7 : xFp "BetweenStops$Trip" 7 7 0 .int := ⟨_, TX7, 4, tyX7, rfl, hin_7, by decide, kf_X7_7, tyX7_ok, nmX7, rfl, by decide +kernel⟩
theorem kf_X8_98 : Cond.fieldLink "BetweenStops$Ways" 98 "BetweenStops$Trip" "from" "I" ∈ xTB := xTB_in (sg_1 (List.mem_of_getElem? (i := 96) (by decide +kernel))) rfl
theorem fd_X8_98 : xFd "BetweenStops$Ways" 98 7 0 := ⟨_, TX7, 4, rfl, hin_7, by decide, kf_X8_98⟩
theorem fp_X8_98 : xFp "BetweenStops$Ways" 98 7 0 .int := ⟨_, TX7, 4, tyX7, rfl, hin_7, by decide, kf_X8_98, tyX7_ok, nmX7, rfl, by decide +kernel⟩
theorem kf_X7_13 : Cond.fieldLink "BetweenStops$Trip" 13 "BetweenStops$Trip" "to" "I" ∈ xTB := xTB_in (sg_1 (List.mem_of_getElem? (i := 97) (by decide +kernel))) rfl
theorem fd_X7_13 : xFd "BetweenStops$Trip" 13 7 1 := ⟨_, TX7, 4, rfl, hin_7, by decide, kf_X7_13⟩
theorem fp_X7_13 : xFp "BetweenStops$Trip" 13 7 1 .int := ⟨_, TX7, 4, tyX7, rfl, hin_7, by decide, kf_X7_13, tyX7_ok, nmX7, rfl, by decide +kernel⟩
theorem kf_X8_103 : Cond.fieldLink "BetweenStops$Ways" 103 "BetweenStops$Trip" "to" "I" ∈ xTB := xTB_in (sg_1 (List.mem_of_getElem? (i := 98) (by decide +kernel))) rfl
theorem fd_X8_103 : xFd "BetweenStops$Ways" 103 7 1 := ⟨_, TX7, 4, rfl, hin_7, by decide, kf_X8_103⟩
theorem fp_X8_103 : xFp "BetweenStops$Ways" 103 7 1 .int := ⟨_, TX7, 4, tyX7, rfl, hin_7, by decide, kf_X8_103, tyX7_ok, nmX7, rfl, by decide +kernel⟩
theorem kf_X7_16 : Cond.fieldLink "BetweenStops$Trip" 16 "BetweenStops$Trip" "many" "I" ∈ xTB := xTB_in (sg_1 (List.mem_of_getElem? (i := 99) (by decide +kernel))) rfl
theorem fd_X7_16 : xFd "BetweenStops$Trip" 16 7 2 := ⟨_, TX7, 4, rfl, hin_7, by decide, kf_X7_16⟩
theorem fp_X7_16 : xFp "BetweenStops$Trip" 16 7 2 .int := ⟨_, TX7, 4, tyX7, rfl, hin_7, by decide, kf_X7_16, tyX7_ok, nmX7, rfl, by decide +kernel⟩
theorem kf_X6_80 : Cond.fieldLink "BetweenStops$Town" 80 "BetweenStops$Trip" "many" "I" ∈ xTB := xTB_in (sg_1 (List.mem_of_getElem? (i := 100) (by decide +kernel))) rfl
theorem fd_X6_80 : xFd "BetweenStops$Town" 80 7 2 := ⟨_, TX7, 4, rfl, hin_7, by decide, kf_X6_80⟩
theorem fp_X6_80 : xFp "BetweenStops$Town" 80 7 2 .int := ⟨_, TX7, 4, tyX7, rfl, hin_7, by decide, kf_X6_80, tyX7_ok, nmX7, rfl, by decide +kernel⟩
theorem kf_X8_154 : Cond.fieldLink "BetweenStops$Ways" 154 "BetweenStops$Trip" "many" "I" ∈ xTB := xTB_in (sg_1 (List.mem_of_getElem? (i := 101) (by decide +kernel))) rfl
theorem fd_X8_154 : xFd "BetweenStops$Ways" 154 7 2 := ⟨_, TX7, 4, rfl, hin_7, by decide, kf_X8_154⟩
theorem fp_X8_154 : xFp "BetweenStops$Ways" 154 7 2 .int := ⟨_, TX7, 4, tyX7, rfl, hin_7, by decide, kf_X8_154, tyX7_ok, nmX7, rfl, by decide +kernel⟩
theorem kf_X9_365 : Cond.fieldLink "BetweenStops" 365 "BetweenStops$Trip" "many" "I" ∈ xTB := xTB_in (sg_1 (List.mem_of_getElem? (i := 102) (by decide +kernel))) rfl
theorem fd_X9_365 : xFd "BetweenStops" 365 7 2 := ⟨_, TX7, 4, rfl, hin_7, by decide, kf_X9_365⟩
theorem fp_X9_365 : xFp "BetweenStops" 365 7 2 .int := ⟨_, TX7, 4, tyX7, rfl, hin_7, by decide, kf_X9_365, tyX7_ok, nmX7, rfl, by decide +kernel⟩
theorem kf_X7_19 : Cond.fieldLink "BetweenStops$Trip" 19 "BetweenStops$Trip" "sort" "I" ∈ xTB := xTB_in (sg_1 (List.mem_of_getElem? (i := 103) (by decide +kernel))) rfl
theorem fd_X7_19 : xFd "BetweenStops$Trip" 19 7 3 := ⟨_, TX7, 4, rfl, hin_7, by decide, kf_X7_19⟩
theorem fp_X7_19 : xFp "BetweenStops$Trip" 19 7 3 .int := ⟨_, TX7, 4, tyX7, rfl, hin_7, by decide, kf_X7_19, tyX7_ok, nmX7, rfl, by decide +kernel⟩
theorem kf_X8_106 : Cond.fieldLink "BetweenStops$Ways" 106 "BetweenStops$Trip" "sort" "I" ∈ xTB := xTB_in (sg_1 (List.mem_of_getElem? (i := 104) (by decide +kernel))) rfl
theorem fd_X8_106 : xFd "BetweenStops$Ways" 106 7 3 := ⟨_, TX7, 4, rfl, hin_7, by decide, kf_X8_106⟩
theorem fp_X8_106 : xFp "BetweenStops$Ways" 106 7 3 .int := ⟨_, TX7, 4, tyX7, rfl, hin_7, by decide, kf_X8_106, tyX7_ok, nmX7, rfl, by decide +kernel⟩
theorem kf_X9_290 : Cond.fieldLink "BetweenStops" 290 "BetweenStops$Trip" "sort" "I" ∈ xTB := xTB_in (sg_1 (List.mem_of_getElem? (i := 105) (by decide +kernel))) rfl
theorem fd_X9_290 : xFd "BetweenStops" 290 7 3 := ⟨_, TX7, 4, rfl, hin_7, by decide, kf_X9_290⟩
theorem fp_X9_290 : xFp "BetweenStops" 290 7 3 .int := ⟨_, TX7, 4, tyX7, rfl, hin_7, by decide, kf_X9_290, tyX7_ok, nmX7, rfl, by decide +kernel⟩
theorem kf_X6_9 : Cond.fieldLink "BetweenStops$Town" 9 "BetweenStops$Town" "heights" "[I" ∈ xTB := xTB_in (sg_1 (List.mem_of_getElem? (i := 115) (by decide +kernel))) rfl
theorem fd_X6_9 : xFd "BetweenStops$Town" 9 6 0 := ⟨_, TX6, 10, rfl, hin_6, by decide, kf_X6_9⟩
theorem kf_X0_38 : Cond.fieldLink "BetweenStops$Image" 38 "BetweenStops$Town" "heights" "[I" ∈ xTB := xTB_in (sg_1 (List.mem_of_getElem? (i := 116) (by decide +kernel))) rfl
theorem fd_X0_38 : xFd "BetweenStops$Image" 38 6 0 := ⟨_, TX6, 10, rfl, hin_6, by decide, kf_X0_38⟩
theorem kf_X9_115 : Cond.fieldLink "BetweenStops" 115 "BetweenStops$Town" "heights" "[I" ∈ xTB := xTB_in (sg_1 (List.mem_of_getElem? (i := 117) (by decide +kernel))) rfl
theorem fd_X9_115 : xFd "BetweenStops" 115 6 0 := ⟨_, TX6, 10, rfl, hin_6, by decide, kf_X9_115⟩
theorem kf_X6_15 : Cond.fieldLink "BetweenStops$Town" 15 "BetweenStops$Town" "climbsOut" "[I" ∈ xTB := xTB_in (sg_1 (List.mem_of_getElem? (i := 118) (by decide +kernel))) rfl
theorem fd_X6_15 : xFd "BetweenStops$Town" 15 6 1 := ⟨_, TX6, 10, rfl, hin_6, by decide, kf_X6_15⟩
theorem kf_X6_18 : Cond.fieldLink "BetweenStops$Town" 18 "BetweenStops$Town" "climbsHome" "[I" ∈ xTB := xTB_in (sg_1 (List.mem_of_getElem? (i := 119) (by decide +kernel))) rfl
theorem fd_X6_18 : xFd "BetweenStops$Town" 18 6 2 := ⟨_, TX6, 10, rfl, hin_6, by decide, kf_X6_18⟩
theorem kf_X6_23 : Cond.fieldLink "BetweenStops$Town" 23 "BetweenStops$Town" "sorts" "[[I" ∈ xTB := xTB_in (sg_1 (List.mem_of_getElem? (i := 120) (by decide +kernel))) rfl
theorem fd_X6_23 : xFd "BetweenStops$Town" 23 6 3 := ⟨_, TX6, 10, rfl, hin_6, by decide, kf_X6_23⟩
theorem kf_X0_47 : Cond.fieldLink "BetweenStops$Image" 47 "BetweenStops$Town" "sorts" "[[I" ∈ xTB := xTB_in (sg_1 (List.mem_of_getElem? (i := 121) (by decide +kernel))) rfl
theorem fd_X0_47 : xFd "BetweenStops$Image" 47 6 3 := ⟨_, TX6, 10, rfl, hin_6, by decide, kf_X0_47⟩
theorem kf_X9_131 : Cond.fieldLink "BetweenStops" 131 "BetweenStops$Town" "sorts" "[[I" ∈ xTB := xTB_in (sg_1 (List.mem_of_getElem? (i := 122) (by decide +kernel))) rfl
theorem fd_X9_131 : xFd "BetweenStops" 131 6 3 := ⟨_, TX6, 10, rfl, hin_6, by decide, kf_X9_131⟩
theorem kf_X8_148 : Cond.fieldLink "BetweenStops$Ways" 148 "BetweenStops$Town" "sorts" "[[I" ∈ xTB := xTB_in (sg_1 (List.mem_of_getElem? (i := 123) (by decide +kernel))) rfl
theorem fd_X8_148 : xFd "BetweenStops$Ways" 148 6 3 := ⟨_, TX6, 10, rfl, hin_6, by decide, kf_X8_148⟩
theorem kf_X6_26 : Cond.fieldLink "BetweenStops$Town" 26 "BetweenStops$Town" "every" "I" ∈ xTB := xTB_in (sg_1 (List.mem_of_getElem? (i := 124) (by decide +kernel))) rfl
theorem fd_X6_26 : xFd "BetweenStops$Town" 26 6 4 := ⟨_, TX6, 10, rfl, hin_6, by decide, kf_X6_26⟩
theorem fp_X6_26 : xFp "BetweenStops$Town" 26 6 4 .int := ⟨_, TX6, 10, tyX6, rfl, hin_6, by decide, kf_X6_26, tyX6_ok, nmX6, rfl, by decide +kernel⟩
theorem kf_X0_48 : Cond.fieldLink "BetweenStops$Image" 48 "BetweenStops$Town" "every" "I" ∈ xTB := xTB_in (sg_1 (List.mem_of_getElem? (i := 125) (by decide +kernel))) rfl
theorem fd_X0_48 : xFd "BetweenStops$Image" 48 6 4 := ⟨_, TX6, 10, rfl, hin_6, by decide, kf_X0_48⟩
theorem fp_X0_48 : xFp "BetweenStops$Image" 48 6 4 .int := ⟨_, TX6, 10, tyX6, rfl, hin_6, by decide, kf_X0_48, tyX6_ok, nmX6, rfl, by decide +kernel⟩
theorem kf_X9_135 : Cond.fieldLink "BetweenStops" 135 "BetweenStops$Town" "every" "I" ∈ xTB := xTB_in (sg_1 (List.mem_of_getElem? (i := 126) (by decide +kernel))) rfl
theorem fd_X9_135 : xFd "BetweenStops" 135 6 4 := ⟨_, TX6, 10, rfl, hin_6, by decide, kf_X9_135⟩
theorem fp_X9_135 : xFp "BetweenStops" 135 6 4 .int := ⟨_, TX6, 10, tyX6, rfl, hin_6, by decide, kf_X9_135, tyX6_ok, nmX6, rfl, by decide +kernel⟩
theorem kf_X6_30 : Cond.fieldLink "BetweenStops$Town" 30 "BetweenStops$Town" "pace" "I" ∈ xTB := xTB_in (sg_1 (List.mem_of_getElem? (i := 127) (by decide +kernel))) rfl
theorem fd_X6_30 : xFd "BetweenStops$Town" 30 6 5 := ⟨_, TX6, 10, rfl, hin_6, by decide, kf_X6_30⟩
theorem fp_X6_30 : xFp "BetweenStops$Town" 30 6 5 .int := ⟨_, TX6, 10, tyX6, rfl, hin_6, by decide, kf_X6_30, tyX6_ok, nmX6, rfl, by decide +kernel⟩
theorem kf_X0_52 : Cond.fieldLink "BetweenStops$Image" 52 "BetweenStops$Town" "pace" "I" ∈ xTB := xTB_in (sg_1 (List.mem_of_getElem? (i := 128) (by decide +kernel))) rfl
theorem fd_X0_52 : xFd "BetweenStops$Image" 52 6 5 := ⟨_, TX6, 10, rfl, hin_6, by decide, kf_X0_52⟩
theorem fp_X0_52 : xFp "BetweenStops$Image" 52 6 5 .int := ⟨_, TX6, 10, tyX6, rfl, hin_6, by decide, kf_X0_52, tyX6_ok, nmX6, rfl, by decide +kernel⟩
theorem kf_X9_138 : Cond.fieldLink "BetweenStops" 138 "BetweenStops$Town" "pace" "I" ∈ xTB := xTB_in (sg_1 (List.mem_of_getElem? (i := 129) (by decide +kernel))) rfl
theorem fd_X9_138 : xFd "BetweenStops" 138 6 5 := ⟨_, TX6, 10, rfl, hin_6, by decide, kf_X9_138⟩
theorem fp_X9_138 : xFp "BetweenStops" 138 6 5 .int := ⟨_, TX6, 10, tyX6, rfl, hin_6, by decide, kf_X9_138, tyX6_ok, nmX6, rfl, by decide +kernel⟩
theorem kf_X8_145 : Cond.fieldLink "BetweenStops$Ways" 145 "BetweenStops$Town" "pace" "I" ∈ xTB := xTB_in (sg_1 (List.mem_of_getElem? (i := 130) (by decide +kernel))) rfl
theorem fd_X8_145 : xFd "BetweenStops$Ways" 145 6 5 := ⟨_, TX6, 10, rfl, hin_6, by decide, kf_X8_145⟩
theorem fp_X8_145 : xFp "BetweenStops$Ways" 145 6 5 .int := ⟨_, TX6, 10, tyX6, rfl, hin_6, by decide, kf_X8_145, tyX6_ok, nmX6, rfl, by decide +kernel⟩
theorem kf_X6_35 : Cond.fieldLink "BetweenStops$Town" 35 "BetweenStops$Town" "stops" "[LBetweenStops$Stop;" ∈ xTB := xTB_in (sg_1 (List.mem_of_getElem? (i := 131) (by decide +kernel))) rfl
theorem fd_X6_35 : xFd "BetweenStops$Town" 35 6 6 := ⟨_, TX6, 10, rfl, hin_6, by decide, kf_X6_35⟩
theorem kf_X8_72 : Cond.fieldLink "BetweenStops$Ways" 72 "BetweenStops$Town" "stops" "[LBetweenStops$Stop;" ∈ xTB := xTB_in (sg_1 (List.mem_of_getElem? (i := 132) (by decide +kernel))) rfl
theorem fd_X8_72 : xFd "BetweenStops$Ways" 72 6 6 := ⟨_, TX6, 10, rfl, hin_6, by decide, kf_X8_72⟩
theorem kf_X0_60 : Cond.fieldLink "BetweenStops$Image" 60 "BetweenStops$Town" "stops" "[LBetweenStops$Stop;" ∈ xTB := xTB_in (sg_1 (List.mem_of_getElem? (i := 133) (by decide +kernel))) rfl
theorem fd_X0_60 : xFd "BetweenStops$Image" 60 6 6 := ⟨_, TX6, 10, rfl, hin_6, by decide, kf_X0_60⟩
theorem kf_X9_154 : Cond.fieldLink "BetweenStops" 154 "BetweenStops$Town" "stops" "[LBetweenStops$Stop;" ∈ xTB := xTB_in (sg_1 (List.mem_of_getElem? (i := 134) (by decide +kernel))) rfl
theorem fd_X9_154 : xFd "BetweenStops" 154 6 6 := ⟨_, TX6, 10, rfl, hin_6, by decide, kf_X9_154⟩
theorem kf_X6_39 : Cond.fieldLink "BetweenStops$Town" 39 "BetweenStops$Town" "stopCount" "I" ∈ xTB := xTB_in (sg_1 (List.mem_of_getElem? (i := 135) (by decide +kernel))) rfl
theorem fd_X6_39 : xFd "BetweenStops$Town" 39 6 7 := ⟨_, TX6, 10, rfl, hin_6, by decide, kf_X6_39⟩
theorem fp_X6_39 : xFp "BetweenStops$Town" 39 6 7 .int := ⟨_, TX6, 10, tyX6, rfl, hin_6, by decide, kf_X6_39, tyX6_ok, nmX6, rfl, by decide +kernel⟩
theorem kf_X8_67 : Cond.fieldLink "BetweenStops$Ways" 67 "BetweenStops$Town" "stopCount" "I" ∈ xTB := xTB_in (sg_1 (List.mem_of_getElem? (i := 136) (by decide +kernel))) rfl
theorem fd_X8_67 : xFd "BetweenStops$Ways" 67 6 7 := ⟨_, TX6, 10, rfl, hin_6, by decide, kf_X8_67⟩
theorem fp_X8_67 : xFp "BetweenStops$Ways" 67 6 7 .int := ⟨_, TX6, 10, tyX6, rfl, hin_6, by decide, kf_X8_67, tyX6_ok, nmX6, rfl, by decide +kernel⟩
theorem kf_X0_56 : Cond.fieldLink "BetweenStops$Image" 56 "BetweenStops$Town" "stopCount" "I" ∈ xTB := xTB_in (sg_1 (List.mem_of_getElem? (i := 137) (by decide +kernel))) rfl
theorem fd_X0_56 : xFd "BetweenStops$Image" 56 6 7 := ⟨_, TX6, 10, rfl, hin_6, by decide, kf_X0_56⟩
theorem fp_X0_56 : xFp "BetweenStops$Image" 56 6 7 .int := ⟨_, TX6, 10, tyX6, rfl, hin_6, by decide, kf_X0_56, tyX6_ok, nmX6, rfl, by decide +kernel⟩
theorem kf_X9_151 : Cond.fieldLink "BetweenStops" 151 "BetweenStops$Town" "stopCount" "I" ∈ xTB := xTB_in (sg_1 (List.mem_of_getElem? (i := 138) (by decide +kernel))) rfl
theorem fd_X9_151 : xFd "BetweenStops" 151 6 7 := ⟨_, TX6, 10, rfl, hin_6, by decide, kf_X9_151⟩
theorem fp_X9_151 : xFp "BetweenStops" 151 6 7 .int := ⟨_, TX6, 10, tyX6, rfl, hin_6, by decide, kf_X9_151, tyX6_ok, nmX6, rfl, by decide +kernel⟩
theorem kf_X6_44 : Cond.fieldLink "BetweenStops$Town" 44 "BetweenStops$Town" "trips" "[LBetweenStops$Trip;" ∈ xTB := xTB_in (sg_1 (List.mem_of_getElem? (i := 139) (by decide +kernel))) rfl
theorem fd_X6_44 : xFd "BetweenStops$Town" 44 6 8 := ⟨_, TX6, 10, rfl, hin_6, by decide, kf_X6_44⟩
theorem kf_X8_94 : Cond.fieldLink "BetweenStops$Ways" 94 "BetweenStops$Town" "trips" "[LBetweenStops$Trip;" ∈ xTB := xTB_in (sg_1 (List.mem_of_getElem? (i := 140) (by decide +kernel))) rfl
theorem fd_X8_94 : xFd "BetweenStops$Ways" 94 6 8 := ⟨_, TX6, 10, rfl, hin_6, by decide, kf_X8_94⟩
theorem kf_X9_200 : Cond.fieldLink "BetweenStops" 200 "BetweenStops$Town" "trips" "[LBetweenStops$Trip;" ∈ xTB := xTB_in (sg_1 (List.mem_of_getElem? (i := 141) (by decide +kernel))) rfl
theorem fd_X9_200 : xFd "BetweenStops" 200 6 8 := ⟨_, TX6, 10, rfl, hin_6, by decide, kf_X9_200⟩
theorem kf_X6_48 : Cond.fieldLink "BetweenStops$Town" 48 "BetweenStops$Town" "tripCount" "I" ∈ xTB := xTB_in (sg_1 (List.mem_of_getElem? (i := 142) (by decide +kernel))) rfl
theorem fd_X6_48 : xFd "BetweenStops$Town" 48 6 9 := ⟨_, TX6, 10, rfl, hin_6, by decide, kf_X6_48⟩
theorem fp_X6_48 : xFp "BetweenStops$Town" 48 6 9 .int := ⟨_, TX6, 10, tyX6, rfl, hin_6, by decide, kf_X6_48, tyX6_ok, nmX6, rfl, by decide +kernel⟩
theorem kf_X8_91 : Cond.fieldLink "BetweenStops$Ways" 91 "BetweenStops$Town" "tripCount" "I" ∈ xTB := xTB_in (sg_1 (List.mem_of_getElem? (i := 143) (by decide +kernel))) rfl
theorem fd_X8_91 : xFd "BetweenStops$Ways" 91 6 9 := ⟨_, TX6, 10, rfl, hin_6, by decide, kf_X8_91⟩
theorem fp_X8_91 : xFp "BetweenStops$Ways" 91 6 9 .int := ⟨_, TX6, 10, tyX6, rfl, hin_6, by decide, kf_X8_91, tyX6_ok, nmX6, rfl, by decide +kernel⟩
theorem kf_X0_73 : Cond.fieldLink "BetweenStops$Image" 73 "BetweenStops$Town" "tripCount" "I" ∈ xTB := xTB_in (sg_1 (List.mem_of_getElem? (i := 144) (by decide +kernel))) rfl
theorem fd_X0_73 : xFd "BetweenStops$Image" 73 6 9 := ⟨_, TX6, 10, rfl, hin_6, by decide, kf_X0_73⟩
theorem fp_X0_73 : xFp "BetweenStops$Image" 73 6 9 .int := ⟨_, TX6, 10, tyX6, rfl, hin_6, by decide, kf_X0_73, tyX6_ok, nmX6, rfl, by decide +kernel⟩
theorem kf_X9_197 : Cond.fieldLink "BetweenStops" 197 "BetweenStops$Town" "tripCount" "I" ∈ xTB := xTB_in (sg_1 (List.mem_of_getElem? (i := 145) (by decide +kernel))) rfl
theorem fd_X9_197 : xFd "BetweenStops" 197 6 9 := ⟨_, TX6, 10, rfl, hin_6, by decide, kf_X9_197⟩
theorem fp_X9_197 : xFp "BetweenStops" 197 6 9 .int := ⟨_, TX6, 10, tyX6, rfl, hin_6, by decide, kf_X9_197, tyX6_ok, nmX6, rfl, by decide +kernel⟩
theorem kf_X8_63 : Cond.fieldLink "BetweenStops$Ways" 63 "BetweenStops$Ways" "town" "LBetweenStops$Town;" ∈ xTB := xTB_in (sg_1 (List.mem_of_getElem? (i := 174) (by decide +kernel))) rfl
theorem fd_X8_63 : xFd "BetweenStops$Ways" 63 8 0 := ⟨_, TX8, 17, rfl, hin_8, by decide, kf_X8_63⟩
theorem kf_X8_9 : Cond.fieldLink "BetweenStops$Ways" 9 "BetweenStops$Ways" "cars" "[I" ∈ xTB := xTB_in (sg_1 (List.mem_of_getElem? (i := 175) (by decide +kernel))) rfl
theorem fd_X8_9 : xFd "BetweenStops$Ways" 9 8 1 := ⟨_, TX8, 17, rfl, hin_8, by decide, kf_X8_9⟩
theorem kf_X9_377 : Cond.fieldLink "BetweenStops" 377 "BetweenStops$Ways" "cars" "[I" ∈ xTB := xTB_in (sg_1 (List.mem_of_getElem? (i := 176) (by decide +kernel))) rfl
theorem fd_X9_377 : xFd "BetweenStops" 377 8 1 := ⟨_, TX8, 17, rfl, hin_8, by decide, kf_X9_377⟩
theorem kf_X8_15 : Cond.fieldLink "BetweenStops$Ways" 15 "BetweenStops$Ways" "seconds" "[I" ∈ xTB := xTB_in (sg_1 (List.mem_of_getElem? (i := 177) (by decide +kernel))) rfl
theorem fd_X8_15 : xFd "BetweenStops$Ways" 15 8 2 := ⟨_, TX8, 17, rfl, hin_8, by decide, kf_X8_15⟩
theorem kf_X9_310 : Cond.fieldLink "BetweenStops" 310 "BetweenStops$Ways" "seconds" "[I" ∈ xTB := xTB_in (sg_1 (List.mem_of_getElem? (i := 178) (by decide +kernel))) rfl
theorem fd_X9_310 : xFd "BetweenStops" 310 8 2 := ⟨_, TX8, 17, rfl, hin_8, by decide, kf_X9_310⟩
theorem kf_X8_18 : Cond.fieldLink "BetweenStops$Ways" 18 "BetweenStops$Ways" "direct" "[I" ∈ xTB := xTB_in (sg_1 (List.mem_of_getElem? (i := 179) (by decide +kernel))) rfl
theorem fd_X8_18 : xFd "BetweenStops$Ways" 18 8 3 := ⟨_, TX8, 17, rfl, hin_8, by decide, kf_X8_18⟩
theorem kf_X8_23 : Cond.fieldLink "BetweenStops$Ways" 23 "BetweenStops$Ways" "toStop" "[[I" ∈ xTB := xTB_in (sg_1 (List.mem_of_getElem? (i := 180) (by decide +kernel))) rfl
theorem fd_X8_23 : xFd "BetweenStops$Ways" 23 8 4 := ⟨_, TX8, 17, rfl, hin_8, by decide, kf_X8_23⟩
theorem kf_X8_26 : Cond.fieldLink "BetweenStops$Ways" 26 "BetweenStops$Ways" "fromStop" "[[I" ∈ xTB := xTB_in (sg_1 (List.mem_of_getElem? (i := 181) (by decide +kernel))) rfl
theorem fd_X8_26 : xFd "BetweenStops$Ways" 26 8 5 := ⟨_, TX8, 17, rfl, hin_8, by decide, kf_X8_26⟩
theorem kf_X8_29 : Cond.fieldLink "BetweenStops$Ways" 29 "BetweenStops$Ways" "members" "[I" ∈ xTB := xTB_in (sg_1 (List.mem_of_getElem? (i := 182) (by decide +kernel))) rfl
theorem fd_X8_29 : xFd "BetweenStops$Ways" 29 8 6 := ⟨_, TX8, 17, rfl, hin_8, by decide, kf_X8_29⟩
theorem kf_X8_32 : Cond.fieldLink "BetweenStops$Ways" 32 "BetweenStops$Ways" "memberCount" "I" ∈ xTB := xTB_in (sg_1 (List.mem_of_getElem? (i := 183) (by decide +kernel))) rfl
theorem fd_X8_32 : xFd "BetweenStops$Ways" 32 8 7 := ⟨_, TX8, 17, rfl, hin_8, by decide, kf_X8_32⟩
theorem fp_X8_32 : xFp "BetweenStops$Ways" 32 8 7 .int := ⟨_, TX8, 17, tyX8, rfl, hin_8, by decide, kf_X8_32, tyX8_ok, nmX8, rfl, by decide +kernel⟩
theorem kf_X8_36 : Cond.fieldLink "BetweenStops$Ways" 36 "BetweenStops$Ways" "stood" "[[I" ∈ xTB := xTB_in (sg_1 (List.mem_of_getElem? (i := 184) (by decide +kernel))) rfl
theorem fd_X8_36 : xFd "BetweenStops$Ways" 36 8 8 := ⟨_, TX8, 17, rfl, hin_8, by decide, kf_X8_36⟩
theorem kf_X8_39 : Cond.fieldLink "BetweenStops$Ways" 39 "BetweenStops$Ways" "waits" "[[I" ∈ xTB := xTB_in (sg_1 (List.mem_of_getElem? (i := 185) (by decide +kernel))) rfl
theorem fd_X8_39 : xFd "BetweenStops$Ways" 39 8 9 := ⟨_, TX8, 17, rfl, hin_8, by decide, kf_X8_39⟩
theorem kf_X8_42 : Cond.fieldLink "BetweenStops$Ways" 42 "BetweenStops$Ways" "rides" "[[I" ∈ xTB := xTB_in (sg_1 (List.mem_of_getElem? (i := 186) (by decide +kernel))) rfl
theorem fd_X8_42 : xFd "BetweenStops$Ways" 42 8 10 := ⟨_, TX8, 17, rfl, hin_8, by decide, kf_X8_42⟩
theorem kf_X8_45 : Cond.fieldLink "BetweenStops$Ways" 45 "BetweenStops$Ways" "costs" "[I" ∈ xTB := xTB_in (sg_1 (List.mem_of_getElem? (i := 187) (by decide +kernel))) rfl
theorem fd_X8_45 : xFd "BetweenStops$Ways" 45 8 11 := ⟨_, TX8, 17, rfl, hin_8, by decide, kf_X8_45⟩
theorem kf_X9_221 : Cond.fieldLink "BetweenStops" 221 "BetweenStops$Ways" "costs" "[I" ∈ xTB := xTB_in (sg_1 (List.mem_of_getElem? (i := 188) (by decide +kernel))) rfl
theorem fd_X9_221 : xFd "BetweenStops" 221 8 11 := ⟨_, TX8, 17, rfl, hin_8, by decide, kf_X9_221⟩
theorem kf_X8_48 : Cond.fieldLink "BetweenStops$Ways" 48 "BetweenStops$Ways" "ins" "[I" ∈ xTB := xTB_in (sg_1 (List.mem_of_getElem? (i := 189) (by decide +kernel))) rfl
theorem fd_X8_48 : xFd "BetweenStops$Ways" 48 8 12 := ⟨_, TX8, 17, rfl, hin_8, by decide, kf_X8_48⟩
theorem kf_X9_224 : Cond.fieldLink "BetweenStops" 224 "BetweenStops$Ways" "ins" "[I" ∈ xTB := xTB_in (sg_1 (List.mem_of_getElem? (i := 190) (by decide +kernel))) rfl
theorem fd_X9_224 : xFd "BetweenStops" 224 8 12 := ⟨_, TX8, 17, rfl, hin_8, by decide, kf_X9_224⟩
theorem kf_X8_51 : Cond.fieldLink "BetweenStops$Ways" 51 "BetweenStops$Ways" "outs" "[I" ∈ xTB := xTB_in (sg_1 (List.mem_of_getElem? (i := 191) (by decide +kernel))) rfl
theorem fd_X8_51 : xFd "BetweenStops$Ways" 51 8 13 := ⟨_, TX8, 17, rfl, hin_8, by decide, kf_X8_51⟩
theorem kf_X9_227 : Cond.fieldLink "BetweenStops" 227 "BetweenStops$Ways" "outs" "[I" ∈ xTB := xTB_in (sg_1 (List.mem_of_getElem? (i := 192) (by decide +kernel))) rfl
theorem fd_X9_227 : xFd "BetweenStops" 227 8 13 := ⟨_, TX8, 17, rfl, hin_8, by decide, kf_X9_227⟩
theorem kf_X8_54 : Cond.fieldLink "BetweenStops$Ways" 54 "BetweenStops$Ways" "walked" "[I" ∈ xTB := xTB_in (sg_1 (List.mem_of_getElem? (i := 193) (by decide +kernel))) rfl
theorem fd_X8_54 : xFd "BetweenStops$Ways" 54 8 14 := ⟨_, TX8, 17, rfl, hin_8, by decide, kf_X8_54⟩
theorem kf_X9_230 : Cond.fieldLink "BetweenStops" 230 "BetweenStops$Ways" "walked" "[I" ∈ xTB := xTB_in (sg_1 (List.mem_of_getElem? (i := 194) (by decide +kernel))) rfl
theorem fd_X9_230 : xFd "BetweenStops" 230 8 14 := ⟨_, TX8, 17, rfl, hin_8, by decide, kf_X9_230⟩
theorem kf_X8_57 : Cond.fieldLink "BetweenStops$Ways" 57 "BetweenStops$Ways" "waited" "[I" ∈ xTB := xTB_in (sg_1 (List.mem_of_getElem? (i := 195) (by decide +kernel))) rfl
theorem fd_X8_57 : xFd "BetweenStops$Ways" 57 8 15 := ⟨_, TX8, 17, rfl, hin_8, by decide, kf_X8_57⟩
theorem kf_X9_233 : Cond.fieldLink "BetweenStops" 233 "BetweenStops$Ways" "waited" "[I" ∈ xTB := xTB_in (sg_1 (List.mem_of_getElem? (i := 196) (by decide +kernel))) rfl
theorem fd_X9_233 : xFd "BetweenStops" 233 8 15 := ⟨_, TX8, 17, rfl, hin_8, by decide, kf_X9_233⟩
theorem kf_X8_60 : Cond.fieldLink "BetweenStops$Ways" 60 "BetweenStops$Ways" "ridden" "[I" ∈ xTB := xTB_in (sg_1 (List.mem_of_getElem? (i := 197) (by decide +kernel))) rfl
theorem fd_X8_60 : xFd "BetweenStops$Ways" 60 8 16 := ⟨_, TX8, 17, rfl, hin_8, by decide, kf_X8_60⟩
theorem kf_X9_236 : Cond.fieldLink "BetweenStops" 236 "BetweenStops$Ways" "ridden" "[I" ∈ xTB := xTB_in (sg_1 (List.mem_of_getElem? (i := 198) (by decide +kernel))) rfl
theorem fd_X9_236 : xFd "BetweenStops" 236 8 16 := ⟨_, TX8, 17, rfl, hin_8, by decide, kf_X9_236⟩
theorem kf_X4_9 : Cond.fieldLink "BetweenStops$Tape" 9 "BetweenStops$Tape" "bytes" "[I" ∈ xTB := xTB_in (sg_2 (List.mem_of_getElem? (i := 0) (by decide +kernel))) rfl
theorem fd_X4_9 : xFd "BetweenStops$Tape" 9 4 0 := ⟨_, TX4, 6, rfl, hin_4, by decide, kf_X4_9⟩
theorem kf_X4_15 : Cond.fieldLink "BetweenStops$Tape" 15 "BetweenStops$Tape" "size" "I" ∈ xTB := xTB_in (sg_2 (List.mem_of_getElem? (i := 1) (by decide +kernel))) rfl
theorem fd_X4_15 : xFd "BetweenStops$Tape" 15 4 1 := ⟨_, TX4, 6, rfl, hin_4, by decide, kf_X4_15⟩
theorem fp_X4_15 : xFp "BetweenStops$Tape" 15 4 1 .int := ⟨_, TX4, 6, tyX4, rfl, hin_4, by decide, kf_X4_15, tyX4_ok, nmX4, rfl, by decide +kernel⟩
theorem kf_X9_108 : Cond.fieldLink "BetweenStops" 108 "BetweenStops$Tape" "size" "I" ∈ xTB := xTB_in (sg_2 (List.mem_of_getElem? (i := 2) (by decide +kernel))) rfl
theorem fd_X9_108 : xFd "BetweenStops" 108 4 1 := ⟨_, TX4, 6, rfl, hin_4, by decide, kf_X9_108⟩
theorem fp_X9_108 : xFp "BetweenStops" 108 4 1 .int := ⟨_, TX4, 6, tyX4, rfl, hin_4, by decide, kf_X9_108, tyX4_ok, nmX4, rfl, by decide +kernel⟩
theorem kf_X4_19 : Cond.fieldLink "BetweenStops$Tape" 19 "BetweenStops$Tape" "token" "I" ∈ xTB := xTB_in (sg_2 (List.mem_of_getElem? (i := 3) (by decide +kernel))) rfl
theorem fd_X4_19 : xFd "BetweenStops$Tape" 19 4 2 := ⟨_, TX4, 6, rfl, hin_4, by decide, kf_X4_19⟩
theorem fp_X4_19 : xFp "BetweenStops$Tape" 19 4 2 .int := ⟨_, TX4, 6, tyX4, rfl, hin_4, by decide, kf_X4_19, tyX4_ok, nmX4, rfl, by decide +kernel⟩
theorem kf_X1_40 : Cond.fieldLink "BetweenStops$Reader" 40 "BetweenStops$Tape" "token" "I" ∈ xTB := xTB_in (sg_2 (List.mem_of_getElem? (i := 4) (by decide +kernel))) rfl
theorem fd_X1_40 : xFd "BetweenStops$Reader" 40 4 2 := ⟨_, TX4, 6, rfl, hin_4, by decide, kf_X1_40⟩
theorem fp_X1_40 : xFp "BetweenStops$Reader" 40 4 2 .int := ⟨_, TX4, 6, tyX4, rfl, hin_4, by decide, kf_X1_40, tyX4_ok, nmX4, rfl, by decide +kernel⟩
theorem kf_X4_22 : Cond.fieldLink "BetweenStops$Tape" 22 "BetweenStops$Tape" "start" "I" ∈ xTB := xTB_in (sg_2 (List.mem_of_getElem? (i := 5) (by decide +kernel))) rfl
theorem fd_X4_22 : xFd "BetweenStops$Tape" 22 4 3 := ⟨_, TX4, 6, rfl, hin_4, by decide, kf_X4_22⟩
theorem fp_X4_22 : xFp "BetweenStops$Tape" 22 4 3 .int := ⟨_, TX4, 6, tyX4, rfl, hin_4, by decide, kf_X4_22, tyX4_ok, nmX4, rfl, by decide +kernel⟩
theorem kf_X1_33 : Cond.fieldLink "BetweenStops$Reader" 33 "BetweenStops$Tape" "start" "I" ∈ xTB := xTB_in (sg_2 (List.mem_of_getElem? (i := 6) (by decide +kernel))) rfl
theorem fd_X1_33 : xFd "BetweenStops$Reader" 33 4 3 := ⟨_, TX4, 6, rfl, hin_4, by decide, kf_X1_33⟩
theorem fp_X1_33 : xFp "BetweenStops$Reader" 33 4 3 .int := ⟨_, TX4, 6, tyX4, rfl, hin_4, by decide, kf_X1_33, tyX4_ok, nmX4, rfl, by decide +kernel⟩
theorem kf_X4_25 : Cond.fieldLink "BetweenStops$Tape" 25 "BetweenStops$Tape" "behind" "I" ∈ xTB := xTB_in (sg_2 (List.mem_of_getElem? (i := 7) (by decide +kernel))) rfl
theorem fd_X4_25 : xFd "BetweenStops$Tape" 25 4 4 := ⟨_, TX4, 6, rfl, hin_4, by decide, kf_X4_25⟩
theorem fp_X4_25 : xFp "BetweenStops$Tape" 25 4 4 .int := ⟨_, TX4, 6, tyX4, rfl, hin_4, by decide, kf_X4_25, tyX4_ok, nmX4, rfl, by decide +kernel⟩
theorem kf_X4_28 : Cond.fieldLink "BetweenStops$Tape" 28 "BetweenStops$Tape" "number" "I" ∈ xTB := xTB_in (sg_2 (List.mem_of_getElem? (i := 8) (by decide +kernel))) rfl
theorem fd_X4_28 : xFd "BetweenStops$Tape" 28 4 5 := ⟨_, TX4, 6, rfl, hin_4, by decide, kf_X4_28⟩
theorem fp_X4_28 : xFp "BetweenStops$Tape" 28 4 5 .int := ⟨_, TX4, 6, tyX4, rfl, hin_4, by decide, kf_X4_28, tyX4_ok, nmX4, rfl, by decide +kernel⟩
theorem kf_X1_62 : Cond.fieldLink "BetweenStops$Reader" 62 "BetweenStops$Tape" "number" "I" ∈ xTB := xTB_in (sg_2 (List.mem_of_getElem? (i := 9) (by decide +kernel))) rfl
theorem fd_X1_62 : xFd "BetweenStops$Reader" 62 4 5 := ⟨_, TX4, 6, rfl, hin_4, by decide, kf_X1_62⟩
theorem fp_X1_62 : xFp "BetweenStops$Reader" 62 4 5 .int := ⟨_, TX4, 6, tyX4, rfl, hin_4, by decide, kf_X1_62, tyX4_ok, nmX4, rfl, by decide +kernel⟩
theorem kf_X1_9 : Cond.fieldLink "BetweenStops$Reader" 9 "BetweenStops$Reader" "tape" "LBetweenStops$Tape;" ∈ xTB := xTB_in (sg_2 (List.mem_of_getElem? (i := 29) (by decide +kernel))) rfl
theorem fd_X1_9 : xFd "BetweenStops$Reader" 9 1 0 := ⟨_, TX1, 1, rfl, hin_1, by decide, kf_X1_9⟩
theorem kf_X0_9 : Cond.fieldLink "BetweenStops$Image" 9 "BetweenStops$Image" "isThere" "Z" ∈ xTB := xTB_in (sg_2 (List.mem_of_getElem? (i := 42) (by decide +kernel))) rfl
theorem fd_X0_9 : xFd "BetweenStops$Image" 9 0 0 := ⟨_, TX0, 11, rfl, hin_0, by decide, kf_X0_9⟩
theorem fp_X0_9 : xFp "BetweenStops$Image" 9 0 0 .boolean := ⟨_, TX0, 11, tyX0, rfl, hin_0, by decide, kf_X0_9, tyX0_ok, nmX0, rfl, by decide +kernel⟩
theorem kf_X9_335 : Cond.fieldLink "BetweenStops" 335 "BetweenStops$Image" "isThere" "Z" ∈ xTB := xTB_in (sg_2 (List.mem_of_getElem? (i := 43) (by decide +kernel))) rfl
theorem fd_X9_335 : xFd "BetweenStops" 335 0 0 := ⟨_, TX0, 11, rfl, hin_0, by decide, kf_X9_335⟩
theorem fp_X9_335 : xFp "BetweenStops" 335 0 0 .boolean := ⟨_, TX0, 11, tyX0, rfl, hin_0, by decide, kf_X9_335, tyX0_ok, nmX0, rfl, by decide +kernel⟩
theorem kf_X0_34 : Cond.fieldLink "BetweenStops$Image" 34 "BetweenStops$Image" "law" "I" ∈ xTB := xTB_in (sg_2 (List.mem_of_getElem? (i := 44) (by decide +kernel))) rfl
theorem fd_X0_34 : xFd "BetweenStops$Image" 34 0 1 := ⟨_, TX0, 11, rfl, hin_0, by decide, kf_X0_34⟩
theorem fp_X0_34 : xFp "BetweenStops$Image" 34 0 1 .int := ⟨_, TX0, 11, tyX0, rfl, hin_0, by decide, kf_X0_34, tyX0_ok, nmX0, rfl, by decide +kernel⟩
theorem kf_X9_341 : Cond.fieldLink "BetweenStops" 341 "BetweenStops$Image" "law" "I" ∈ xTB := xTB_in (sg_2 (List.mem_of_getElem? (i := 45) (by decide +kernel))) rfl
theorem fd_X9_341 : xFd "BetweenStops" 341 0 1 := ⟨_, TX0, 11, rfl, hin_0, by decide, kf_X9_341⟩
theorem fp_X9_341 : xFp "BetweenStops" 341 0 1 .int := ⟨_, TX0, 11, tyX0, rfl, hin_0, by decide, kf_X9_341, tyX0_ok, nmX0, rfl, by decide +kernel⟩
theorem kf_X0_15 : Cond.fieldLink "BetweenStops$Image" 15 "BetweenStops$Image" "heights" "[I" ∈ xTB := xTB_in (sg_2 (List.mem_of_getElem? (i := 46) (by decide +kernel))) rfl
theorem fd_X0_15 : xFd "BetweenStops$Image" 15 0 2 := ⟨_, TX0, 11, rfl, hin_0, by decide, kf_X0_15⟩
theorem kf_X0_21 : Cond.fieldLink "BetweenStops$Image" 21 "BetweenStops$Image" "sorts" "[[I" ∈ xTB := xTB_in (sg_2 (List.mem_of_getElem? (i := 47) (by decide +kernel))) rfl
theorem fd_X0_21 : xFd "BetweenStops$Image" 21 0 3 := ⟨_, TX0, 11, rfl, hin_0, by decide, kf_X0_21⟩
theorem kf_X0_51 : Cond.fieldLink "BetweenStops$Image" 51 "BetweenStops$Image" "every" "I" ∈ xTB := xTB_in (sg_2 (List.mem_of_getElem? (i := 48) (by decide +kernel))) rfl
theorem fd_X0_51 : xFd "BetweenStops$Image" 51 0 4 := ⟨_, TX0, 11, rfl, hin_0, by decide, kf_X0_51⟩
theorem fp_X0_51 : xFp "BetweenStops$Image" 51 0 4 .int := ⟨_, TX0, 11, tyX0, rfl, hin_0, by decide, kf_X0_51, tyX0_ok, nmX0, rfl, by decide +kernel⟩
theorem kf_X0_55 : Cond.fieldLink "BetweenStops$Image" 55 "BetweenStops$Image" "pace" "I" ∈ xTB := xTB_in (sg_2 (List.mem_of_getElem? (i := 49) (by decide +kernel))) rfl
theorem fd_X0_55 : xFd "BetweenStops$Image" 55 0 5 := ⟨_, TX0, 11, rfl, hin_0, by decide, kf_X0_55⟩
theorem fp_X0_55 : xFp "BetweenStops$Image" 55 0 5 .int := ⟨_, TX0, 11, tyX0, rfl, hin_0, by decide, kf_X0_55, tyX0_ok, nmX0, rfl, by decide +kernel⟩
theorem kf_X0_59 : Cond.fieldLink "BetweenStops$Image" 59 "BetweenStops$Image" "stopCount" "I" ∈ xTB := xTB_in (sg_2 (List.mem_of_getElem? (i := 50) (by decide +kernel))) rfl
theorem fd_X0_59 : xFd "BetweenStops$Image" 59 0 6 := ⟨_, TX0, 11, rfl, hin_0, by decide, kf_X0_59⟩
theorem fp_X0_59 : xFp "BetweenStops$Image" 59 0 6 .int := ⟨_, TX0, 11, tyX0, rfl, hin_0, by decide, kf_X0_59, tyX0_ok, nmX0, rfl, by decide +kernel⟩
theorem kf_X0_24 : Cond.fieldLink "BetweenStops$Image" 24 "BetweenStops$Image" "isOpen" "[Z" ∈ xTB := xTB_in (sg_2 (List.mem_of_getElem? (i := 51) (by decide +kernel))) rfl
theorem fd_X0_24 : xFd "BetweenStops$Image" 24 0 7 := ⟨_, TX0, 11, rfl, hin_0, by decide, kf_X0_24⟩
theorem kf_X0_28 : Cond.fieldLink "BetweenStops$Image" 28 "BetweenStops$Image" "wanted" "[I" ∈ xTB := xTB_in (sg_2 (List.mem_of_getElem? (i := 52) (by decide +kernel))) rfl
theorem fd_X0_28 : xFd "BetweenStops$Image" 28 0 8 := ⟨_, TX0, 11, rfl, hin_0, by decide, kf_X0_28⟩
theorem kf_X0_31 : Cond.fieldLink "BetweenStops$Image" 31 "BetweenStops$Image" "patterns" "[I" ∈ xTB := xTB_in (sg_2 (List.mem_of_getElem? (i := 53) (by decide +kernel))) rfl
theorem fd_X0_31 : xFd "BetweenStops$Image" 31 0 9 := ⟨_, TX0, 11, rfl, hin_0, by decide, kf_X0_31⟩
theorem kf_X0_76 : Cond.fieldLink "BetweenStops$Image" 76 "BetweenStops$Image" "tripCount" "I" ∈ xTB := xTB_in (sg_2 (List.mem_of_getElem? (i := 54) (by decide +kernel))) rfl
theorem fd_X0_76 : xFd "BetweenStops$Image" 76 0 10 := ⟨_, TX0, 11, rfl, hin_0, by decide, kf_X0_76⟩
theorem fp_X0_76 : xFp "BetweenStops$Image" 76 0 10 .int := ⟨_, TX0, 11, tyX0, rfl, hin_0, by decide, kf_X0_76, tyX0_ok, nmX0, rfl, by decide +kernel⟩
theorem kf_X5_9 : Cond.fieldLink "BetweenStops$Text" 9 "BetweenStops$Text" "codes" "[I" ∈ xTB := xTB_in (sg_2 (List.mem_of_getElem? (i := 86) (by decide +kernel))) rfl
theorem fd_X5_9 : xFd "BetweenStops$Text" 9 5 0 := ⟨_, TX5, 5, rfl, hin_5, by decide, kf_X5_9⟩
theorem kf_X5_15 : Cond.fieldLink "BetweenStops$Text" 15 "BetweenStops$Text" "partEnds" "[I" ∈ xTB := xTB_in (sg_2 (List.mem_of_getElem? (i := 87) (by decide +kernel))) rfl
theorem fd_X5_15 : xFd "BetweenStops$Text" 15 5 1 := ⟨_, TX5, 5, rfl, hin_5, by decide, kf_X5_15⟩
theorem kf_X5_18 : Cond.fieldLink "BetweenStops$Text" 18 "BetweenStops$Text" "stack" "[I" ∈ xTB := xTB_in (sg_2 (List.mem_of_getElem? (i := 88) (by decide +kernel))) rfl
theorem fd_X5_18 : xFd "BetweenStops$Text" 18 5 2 := ⟨_, TX5, 5, rfl, hin_5, by decide, kf_X5_18⟩
theorem kf_X5_21 : Cond.fieldLink "BetweenStops$Text" 21 "BetweenStops$Text" "size" "I" ∈ xTB := xTB_in (sg_2 (List.mem_of_getElem? (i := 89) (by decide +kernel))) rfl
theorem fd_X5_21 : xFd "BetweenStops$Text" 21 5 3 := ⟨_, TX5, 5, rfl, hin_5, by decide, kf_X5_21⟩
theorem fp_X5_21 : xFp "BetweenStops$Text" 21 5 3 .int := ⟨_, TX5, 5, tyX5, rfl, hin_5, by decide, kf_X5_21, tyX5_ok, nmX5, rfl, by decide +kernel⟩
theorem kf_X5_25 : Cond.fieldLink "BetweenStops$Text" 25 "BetweenStops$Text" "parts" "I" ∈ xTB := xTB_in (sg_2 (List.mem_of_getElem? (i := 90) (by decide +kernel))) rfl
theorem fd_X5_25 : xFd "BetweenStops$Text" 25 5 4 := ⟨_, TX5, 5, rfl, hin_5, by decide, kf_X5_25⟩
theorem fp_X5_25 : xFp "BetweenStops$Text" 25 5 4 .int := ⟨_, TX5, 5, tyX5, rfl, hin_5, by decide, kf_X5_25, tyX5_ok, nmX5, rfl, by decide +kernel⟩
theorem kf_X2_9 : Cond.fieldLink "BetweenStops$Sheet" 9 "BetweenStops$Sheet" "row" "[I" ∈ xTB := xTB_in (sg_2 (List.mem_of_getElem? (i := 107) (by decide +kernel))) rfl
theorem fd_X2_9 : xFd "BetweenStops$Sheet" 9 2 0 := ⟨_, TX2, 3, rfl, hin_2, by decide, kf_X2_9⟩
theorem kf_X9_287 : Cond.fieldLink "BetweenStops" 287 "BetweenStops$Sheet" "row" "[I" ∈ xTB := xTB_in (sg_2 (List.mem_of_getElem? (i := 108) (by decide +kernel))) rfl
theorem fd_X9_287 : xFd "BetweenStops" 287 2 0 := ⟨_, TX2, 3, rfl, hin_2, by decide, kf_X9_287⟩
theorem kf_X2_15 : Cond.fieldLink "BetweenStops$Sheet" 15 "BetweenStops$Sheet" "sort" "I" ∈ xTB := xTB_in (sg_2 (List.mem_of_getElem? (i := 109) (by decide +kernel))) rfl
theorem fd_X2_15 : xFd "BetweenStops$Sheet" 15 2 1 := ⟨_, TX2, 3, rfl, hin_2, by decide, kf_X2_15⟩
theorem fp_X2_15 : xFp "BetweenStops$Sheet" 15 2 1 .int := ⟨_, TX2, 3, tyX2, rfl, hin_2, by decide, kf_X2_15, tyX2_ok, nmX2, rfl, by decide +kernel⟩
theorem kf_X9_350 : Cond.fieldLink "BetweenStops" 350 "BetweenStops$Sheet" "sort" "I" ∈ xTB := xTB_in (sg_2 (List.mem_of_getElem? (i := 110) (by decide +kernel))) rfl
theorem fd_X9_350 : xFd "BetweenStops" 350 2 1 := ⟨_, TX2, 3, rfl, hin_2, by decide, kf_X9_350⟩
theorem fp_X9_350 : xFp "BetweenStops" 350 2 1 .int := ⟨_, TX2, 3, tyX2, rfl, hin_2, by decide, kf_X9_350, tyX2_ok, nmX2, rfl, by decide +kernel⟩
theorem kf_X2_19 : Cond.fieldLink "BetweenStops$Sheet" 19 "BetweenStops$Sheet" "size" "I" ∈ xTB := xTB_in (sg_2 (List.mem_of_getElem? (i := 111) (by decide +kernel))) rfl
theorem fd_X2_19 : xFd "BetweenStops$Sheet" 19 2 2 := ⟨_, TX2, 3, rfl, hin_2, by decide, kf_X2_19⟩
theorem fp_X2_19 : xFp "BetweenStops$Sheet" 19 2 2 .int := ⟨_, TX2, 3, tyX2, rfl, hin_2, by decide, kf_X2_19, tyX2_ok, nmX2, rfl, by decide +kernel⟩
theorem kf_X9_286 : Cond.fieldLink "BetweenStops" 286 "BetweenStops$Sheet" "size" "I" ∈ xTB := xTB_in (sg_2 (List.mem_of_getElem? (i := 112) (by decide +kernel))) rfl
theorem fd_X9_286 : xFd "BetweenStops" 286 2 2 := ⟨_, TX2, 3, rfl, hin_2, by decide, kf_X9_286⟩
theorem fp_X9_286 : xFp "BetweenStops" 286 2 2 .int := ⟨_, TX2, 3, tyX2, rfl, hin_2, by decide, kf_X9_286, tyX2_ok, nmX2, rfl, by decide +kernel⟩
theorem kf_J0_38 : Cond.fieldLink "java/lang/String" 38 "java/lang/String" "COMPACT_STRINGS" "Z" ∈ xTB := xTB_in (sg_2 (List.mem_of_getElem? (i := 129) (by decide +kernel))) rfl
theorem kf_J0_1053 : Cond.fieldLink "java/lang/String" 1053 "jdk/internal/util/Preconditions" "SIOOBE_FORMATTER" "Ljava/util/function/BiFunction;" ∈ xTB := xTB_in (sg_2 (List.mem_of_getElem? (i := 145) (by decide +kernel))) rfl
theorem kf_J2_44 : Cond.fieldLink "java/lang/StringUTF16" 44 "java/lang/StringUTF16" "$assertionsDisabled" "Z" ∈ xTB := xTB_in (sg_2 (List.mem_of_getElem? (i := 163) (by decide +kernel))) rfl
theorem kf_J2_59 : Cond.fieldLink "java/lang/StringUTF16" 59 "java/lang/StringUTF16" "HI_BYTE_SHIFT" "I" ∈ xTB := xTB_in (sg_2 (List.mem_of_getElem? (i := 165) (by decide +kernel))) rfl
theorem kf_J2_63 : Cond.fieldLink "java/lang/StringUTF16" 63 "java/lang/StringUTF16" "LO_BYTE_SHIFT" "I" ∈ xTB := xTB_in (sg_2 (List.mem_of_getElem? (i := 167) (by decide +kernel))) rfl
theorem kf_X9_10 : Cond.fieldLink "BetweenStops" 10 "BetweenStops" "town" "LBetweenStops$Town;" ∈ xTB := xTB_in (sg_3 (List.mem_of_getElem? (i := 88) (by decide +kernel))) rfl
theorem fd_X9_10 : xFd "BetweenStops" 10 9 0 := ⟨_, TX9, 15, rfl, hin_9, by decide, kf_X9_10⟩
theorem kf_X9_21 : Cond.fieldLink "BetweenStops" 21 "BetweenStops" "ways" "LBetweenStops$Ways;" ∈ xTB := xTB_in (sg_3 (List.mem_of_getElem? (i := 89) (by decide +kernel))) rfl
theorem fd_X9_21 : xFd "BetweenStops" 21 9 1 := ⟨_, TX9, 15, rfl, hin_9, by decide, kf_X9_21⟩
theorem kf_X9_28 : Cond.fieldLink "BetweenStops" 28 "BetweenStops" "tape" "LBetweenStops$Tape;" ∈ xTB := xTB_in (sg_3 (List.mem_of_getElem? (i := 90) (by decide +kernel))) rfl
theorem fd_X9_28 : xFd "BetweenStops" 28 9 2 := ⟨_, TX9, 15, rfl, hin_9, by decide, kf_X9_28⟩
theorem kf_X9_37 : Cond.fieldLink "BetweenStops" 37 "BetweenStops" "reader" "LBetweenStops$Reader;" ∈ xTB := xTB_in (sg_3 (List.mem_of_getElem? (i := 91) (by decide +kernel))) rfl
theorem fd_X9_37 : xFd "BetweenStops" 37 9 3 := ⟨_, TX9, 15, rfl, hin_9, by decide, kf_X9_37⟩
theorem kf_X9_43 : Cond.fieldLink "BetweenStops" 43 "BetweenStops" "texts" "[LBetweenStops$Text;" ∈ xTB := xTB_in (sg_3 (List.mem_of_getElem? (i := 92) (by decide +kernel))) rfl
theorem fd_X9_43 : xFd "BetweenStops" 43 9 4 := ⟨_, TX9, 15, rfl, hin_9, by decide, kf_X9_43⟩
theorem kf_X9_47 : Cond.fieldLink "BetweenStops" 47 "BetweenStops" "textCount" "I" ∈ xTB := xTB_in (sg_3 (List.mem_of_getElem? (i := 93) (by decide +kernel))) rfl
theorem fd_X9_47 : xFd "BetweenStops" 47 9 5 := ⟨_, TX9, 15, rfl, hin_9, by decide, kf_X9_47⟩
theorem fp_X9_47 : xFp "BetweenStops" 47 9 5 .int := ⟨_, TX9, 15, tyX9, rfl, hin_9, by decide, kf_X9_47, tyX9_ok, nmX9, rfl, by decide +kernel⟩
theorem kf_X9_51 : Cond.fieldLink "BetweenStops" 51 "BetweenStops" "law" "I" ∈ xTB := xTB_in (sg_3 (List.mem_of_getElem? (i := 94) (by decide +kernel))) rfl
theorem fd_X9_51 : xFd "BetweenStops" 51 9 6 := ⟨_, TX9, 15, rfl, hin_9, by decide, kf_X9_51⟩
theorem fp_X9_51 : xFp "BetweenStops" 51 9 6 .int := ⟨_, TX9, 15, tyX9, rfl, hin_9, by decide, kf_X9_51, tyX9_ok, nmX9, rfl, by decide +kernel⟩
theorem kf_X9_57 : Cond.fieldLink "BetweenStops" 57 "BetweenStops" "kept" "LBetweenStops$Image;" ∈ xTB := xTB_in (sg_3 (List.mem_of_getElem? (i := 95) (by decide +kernel))) rfl
theorem fd_X9_57 : xFd "BetweenStops" 57 9 7 := ⟨_, TX9, 15, rfl, hin_9, by decide, kf_X9_57⟩
theorem kf_X9_63 : Cond.fieldLink "BetweenStops" 63 "BetweenStops" "sheets" "[LBetweenStops$Sheet;" ∈ xTB := xTB_in (sg_3 (List.mem_of_getElem? (i := 96) (by decide +kernel))) rfl
theorem fd_X9_63 : xFd "BetweenStops" 63 9 8 := ⟨_, TX9, 15, rfl, hin_9, by decide, kf_X9_63⟩
theorem kf_X9_67 : Cond.fieldLink "BetweenStops" 67 "BetweenStops" "names" "[I" ∈ xTB := xTB_in (sg_3 (List.mem_of_getElem? (i := 97) (by decide +kernel))) rfl
theorem fd_X9_67 : xFd "BetweenStops" 67 9 9 := ⟨_, TX9, 15, rfl, hin_9, by decide, kf_X9_67⟩
theorem kf_X9_71 : Cond.fieldLink "BetweenStops" 71 "BetweenStops" "costsNow" "[I" ∈ xTB := xTB_in (sg_3 (List.mem_of_getElem? (i := 98) (by decide +kernel))) rfl
theorem fd_X9_71 : xFd "BetweenStops" 71 9 10 := ⟨_, TX9, 15, rfl, hin_9, by decide, kf_X9_71⟩
theorem kf_X9_74 : Cond.fieldLink "BetweenStops" 74 "BetweenStops" "homesBehind" "[I" ∈ xTB := xTB_in (sg_3 (List.mem_of_getElem? (i := 99) (by decide +kernel))) rfl
theorem fd_X9_74 : xFd "BetweenStops" 74 9 11 := ⟨_, TX9, 15, rfl, hin_9, by decide, kf_X9_74⟩
theorem kf_X9_77 : Cond.fieldLink "BetweenStops" 77 "BetweenStops" "left" "[I" ∈ xTB := xTB_in (sg_3 (List.mem_of_getElem? (i := 100) (by decide +kernel))) rfl
theorem fd_X9_77 : xFd "BetweenStops" 77 9 12 := ⟨_, TX9, 15, rfl, hin_9, by decide, kf_X9_77⟩
theorem kf_X9_80 : Cond.fieldLink "BetweenStops" 80 "BetweenStops" "ends" "[I" ∈ xTB := xTB_in (sg_3 (List.mem_of_getElem? (i := 101) (by decide +kernel))) rfl
theorem fd_X9_80 : xFd "BetweenStops" 80 9 13 := ⟨_, TX9, 15, rfl, hin_9, by decide, kf_X9_80⟩
theorem kf_X9_83 : Cond.fieldLink "BetweenStops" 83 "BetweenStops" "wishes" "[I" ∈ xTB := xTB_in (sg_3 (List.mem_of_getElem? (i := 102) (by decide +kernel))) rfl
theorem fd_X9_83 : xFd "BetweenStops" 83 9 14 := ⟨_, TX9, 15, rfl, hin_9, by decide, kf_X9_83⟩
theorem kf_X9_125 : Cond.fieldLink "BetweenStops" 125 "BetweenStops" "TRAIT_LEAST" "[I" ∈ xTB := xTB_in (sg_3 (List.mem_of_getElem? (i := 154) (by decide +kernel))) rfl
theorem kf_X9_128 : Cond.fieldLink "BetweenStops" 128 "BetweenStops" "TRAIT_MOST" "[I" ∈ xTB := xTB_in (sg_3 (List.mem_of_getElem? (i := 156) (by decide +kernel))) rfl
theorem kf_X10_7 : Cond.fieldLink "BetweenStopsModel" 7 "BetweenStopsModel" "height" "[I" ∈ xTB := xTB_in (sg_5 (List.mem_of_getElem? (i := 141) (by decide +kernel))) rfl
theorem fd_X10_7 : xFd "BetweenStopsModel" 7 10 0 := ⟨_, TX10, 68, rfl, hin_10, by decide, kf_X10_7⟩
theorem kf_X10_13 : Cond.fieldLink "BetweenStopsModel" 13 "BetweenStopsModel" "sorts" "[I" ∈ xTB := xTB_in (sg_5 (List.mem_of_getElem? (i := 142) (by decide +kernel))) rfl
theorem fd_X10_13 : xFd "BetweenStopsModel" 13 10 1 := ⟨_, TX10, 68, rfl, hin_10, by decide, kf_X10_13⟩
theorem kf_X10_16 : Cond.fieldLink "BetweenStopsModel" 16 "BetweenStopsModel" "every" "I" ∈ xTB := xTB_in (sg_5 (List.mem_of_getElem? (i := 143) (by decide +kernel))) rfl
theorem fd_X10_16 : xFd "BetweenStopsModel" 16 10 2 := ⟨_, TX10, 68, rfl, hin_10, by decide, kf_X10_16⟩
theorem fp_X10_16 : xFp "BetweenStopsModel" 16 10 2 .int := ⟨_, TX10, 68, tyX10, rfl, hin_10, by decide, kf_X10_16, tyX10_ok, nmX10, rfl, by decide +kernel⟩
theorem kf_X10_20 : Cond.fieldLink "BetweenStopsModel" 20 "BetweenStopsModel" "pace" "I" ∈ xTB := xTB_in (sg_5 (List.mem_of_getElem? (i := 144) (by decide +kernel))) rfl
theorem fd_X10_20 : xFd "BetweenStopsModel" 20 10 3 := ⟨_, TX10, 68, rfl, hin_10, by decide, kf_X10_20⟩
theorem fp_X10_20 : xFp "BetweenStopsModel" 20 10 3 .int := ⟨_, TX10, 68, tyX10, rfl, hin_10, by decide, kf_X10_20, tyX10_ok, nmX10, rfl, by decide +kernel⟩
theorem kf_X10_166 : Cond.fieldLink "BetweenStopsModel" 166 "BetweenStopsModel" "stops" "I" ∈ xTB := xTB_in (sg_5 (List.mem_of_getElem? (i := 145) (by decide +kernel))) rfl
theorem fd_X10_166 : xFd "BetweenStopsModel" 166 10 4 := ⟨_, TX10, 68, rfl, hin_10, by decide, kf_X10_166⟩
theorem fp_X10_166 : xFp "BetweenStopsModel" 166 10 4 .int := ⟨_, TX10, 68, tyX10, rfl, hin_10, by decide, kf_X10_166, tyX10_ok, nmX10, rfl, by decide +kernel⟩
theorem kf_X10_23 : Cond.fieldLink "BetweenStopsModel" 23 "BetweenStopsModel" "kind" "[I" ∈ xTB := xTB_in (sg_5 (List.mem_of_getElem? (i := 146) (by decide +kernel))) rfl
theorem fd_X10_23 : xFd "BetweenStopsModel" 23 10 5 := ⟨_, TX10, 68, rfl, hin_10, by decide, kf_X10_23⟩
theorem kf_X10_26 : Cond.fieldLink "BetweenStopsModel" 26 "BetweenStopsModel" "cellOf" "[I" ∈ xTB := xTB_in (sg_5 (List.mem_of_getElem? (i := 147) (by decide +kernel))) rfl
theorem fd_X10_26 : xFd "BetweenStopsModel" 26 10 6 := ⟨_, TX10, 68, rfl, hin_10, by decide, kf_X10_26⟩
theorem kf_X10_29 : Cond.fieldLink "BetweenStopsModel" 29 "BetweenStopsModel" "takes" "[I" ∈ xTB := xTB_in (sg_5 (List.mem_of_getElem? (i := 148) (by decide +kernel))) rfl
theorem fd_X10_29 : xFd "BetweenStopsModel" 29 10 7 := ⟨_, TX10, 68, rfl, hin_10, by decide, kf_X10_29⟩
theorem kf_X10_32 : Cond.fieldLink "BetweenStopsModel" 32 "BetweenStopsModel" "more" "[I" ∈ xTB := xTB_in (sg_5 (List.mem_of_getElem? (i := 149) (by decide +kernel))) rfl
theorem fd_X10_32 : xFd "BetweenStopsModel" 32 10 8 := ⟨_, TX10, 68, rfl, hin_10, by decide, kf_X10_32⟩
theorem kf_X10_35 : Cond.fieldLink "BetweenStopsModel" 35 "BetweenStopsModel" "open" "[I" ∈ xTB := xTB_in (sg_5 (List.mem_of_getElem? (i := 150) (by decide +kernel))) rfl
theorem fd_X10_35 : xFd "BetweenStopsModel" 35 10 9 := ⟨_, TX10, 68, rfl, hin_10, by decide, kf_X10_35⟩
theorem kf_X10_38 : Cond.fieldLink "BetweenStopsModel" 38 "BetweenStopsModel" "wanted" "[I" ∈ xTB := xTB_in (sg_5 (List.mem_of_getElem? (i := 151) (by decide +kernel))) rfl
theorem fd_X10_38 : xFd "BetweenStopsModel" 38 10 10 := ⟨_, TX10, 68, rfl, hin_10, by decide, kf_X10_38⟩
theorem kf_X10_41 : Cond.fieldLink "BetweenStopsModel" 41 "BetweenStopsModel" "pattern" "[I" ∈ xTB := xTB_in (sg_5 (List.mem_of_getElem? (i := 152) (by decide +kernel))) rfl
theorem fd_X10_41 : xFd "BetweenStopsModel" 41 10 11 := ⟨_, TX10, 68, rfl, hin_10, by decide, kf_X10_41⟩
theorem kf_X10_169 : Cond.fieldLink "BetweenStopsModel" 169 "BetweenStopsModel" "trips" "I" ∈ xTB := xTB_in (sg_5 (List.mem_of_getElem? (i := 153) (by decide +kernel))) rfl
theorem fd_X10_169 : xFd "BetweenStopsModel" 169 10 12 := ⟨_, TX10, 68, rfl, hin_10, by decide, kf_X10_169⟩
theorem fp_X10_169 : xFp "BetweenStopsModel" 169 10 12 .int := ⟨_, TX10, 68, tyX10, rfl, hin_10, by decide, kf_X10_169, tyX10_ok, nmX10, rfl, by decide +kernel⟩
theorem kf_X10_44 : Cond.fieldLink "BetweenStopsModel" 44 "BetweenStopsModel" "tripFrom" "[I" ∈ xTB := xTB_in (sg_5 (List.mem_of_getElem? (i := 154) (by decide +kernel))) rfl
theorem fd_X10_44 : xFd "BetweenStopsModel" 44 10 13 := ⟨_, TX10, 68, rfl, hin_10, by decide, kf_X10_44⟩
theorem kf_X10_47 : Cond.fieldLink "BetweenStopsModel" 47 "BetweenStopsModel" "tripTo" "[I" ∈ xTB := xTB_in (sg_5 (List.mem_of_getElem? (i := 155) (by decide +kernel))) rfl
theorem fd_X10_47 : xFd "BetweenStopsModel" 47 10 14 := ⟨_, TX10, 68, rfl, hin_10, by decide, kf_X10_47⟩
theorem kf_X10_50 : Cond.fieldLink "BetweenStopsModel" 50 "BetweenStopsModel" "tripMany" "[I" ∈ xTB := xTB_in (sg_5 (List.mem_of_getElem? (i := 156) (by decide +kernel))) rfl
theorem fd_X10_50 : xFd "BetweenStopsModel" 50 10 15 := ⟨_, TX10, 68, rfl, hin_10, by decide, kf_X10_50⟩
theorem kf_X10_53 : Cond.fieldLink "BetweenStopsModel" 53 "BetweenStopsModel" "tripSort" "[I" ∈ xTB := xTB_in (sg_5 (List.mem_of_getElem? (i := 157) (by decide +kernel))) rfl
theorem fd_X10_53 : xFd "BetweenStopsModel" 53 10 16 := ⟨_, TX10, 68, rfl, hin_10, by decide, kf_X10_53⟩
theorem kf_X10_56 : Cond.fieldLink "BetweenStopsModel" 56 "BetweenStopsModel" "tape" "[I" ∈ xTB := xTB_in (sg_5 (List.mem_of_getElem? (i := 158) (by decide +kernel))) rfl
theorem fd_X10_56 : xFd "BetweenStopsModel" 56 10 17 := ⟨_, TX10, 68, rfl, hin_10, by decide, kf_X10_56⟩
theorem kf_X10_205 : Cond.fieldLink "BetweenStopsModel" 205 "BetweenStopsModel" "taped" "I" ∈ xTB := xTB_in (sg_5 (List.mem_of_getElem? (i := 159) (by decide +kernel))) rfl
theorem fd_X10_205 : xFd "BetweenStopsModel" 205 10 18 := ⟨_, TX10, 68, rfl, hin_10, by decide, kf_X10_205⟩
theorem fp_X10_205 : xFp "BetweenStopsModel" 205 10 18 .int := ⟨_, TX10, 68, tyX10, rfl, hin_10, by decide, kf_X10_205, tyX10_ok, nmX10, rfl, by decide +kernel⟩
theorem kf_X10_59 : Cond.fieldLink "BetweenStopsModel" 59 "BetweenStopsModel" "codes" "[I" ∈ xTB := xTB_in (sg_5 (List.mem_of_getElem? (i := 160) (by decide +kernel))) rfl
theorem fd_X10_59 : xFd "BetweenStopsModel" 59 10 19 := ⟨_, TX10, 68, rfl, hin_10, by decide, kf_X10_59⟩
theorem kf_X10_62 : Cond.fieldLink "BetweenStopsModel" 62 "BetweenStopsModel" "starts" "[I" ∈ xTB := xTB_in (sg_5 (List.mem_of_getElem? (i := 161) (by decide +kernel))) rfl
theorem fd_X10_62 : xFd "BetweenStopsModel" 62 10 20 := ⟨_, TX10, 68, rfl, hin_10, by decide, kf_X10_62⟩
theorem kf_X10_65 : Cond.fieldLink "BetweenStopsModel" 65 "BetweenStopsModel" "texts" "I" ∈ xTB := xTB_in (sg_5 (List.mem_of_getElem? (i := 162) (by decide +kernel))) rfl
theorem fd_X10_65 : xFd "BetweenStopsModel" 65 10 21 := ⟨_, TX10, 68, rfl, hin_10, by decide, kf_X10_65⟩
theorem fp_X10_65 : xFp "BetweenStopsModel" 65 10 21 .int := ⟨_, TX10, 68, tyX10, rfl, hin_10, by decide, kf_X10_65, tyX10_ok, nmX10, rfl, by decide +kernel⟩
theorem kf_X10_202 : Cond.fieldLink "BetweenStopsModel" 202 "BetweenStopsModel" "rule" "I" ∈ xTB := xTB_in (sg_5 (List.mem_of_getElem? (i := 163) (by decide +kernel))) rfl
theorem fd_X10_202 : xFd "BetweenStopsModel" 202 10 22 := ⟨_, TX10, 68, rfl, hin_10, by decide, kf_X10_202⟩
theorem fp_X10_202 : xFp "BetweenStopsModel" 202 10 22 .int := ⟨_, TX10, 68, tyX10, rfl, hin_10, by decide, kf_X10_202, tyX10_ok, nmX10, rfl, by decide +kernel⟩
theorem kf_X10_393 : Cond.fieldLink "BetweenStopsModel" 393 "BetweenStopsModel" "hasImage" "Z" ∈ xTB := xTB_in (sg_5 (List.mem_of_getElem? (i := 164) (by decide +kernel))) rfl
theorem fd_X10_393 : xFd "BetweenStopsModel" 393 10 23 := ⟨_, TX10, 68, rfl, hin_10, by decide, kf_X10_393⟩
theorem fp_X10_393 : xFp "BetweenStopsModel" 393 10 23 .boolean := ⟨_, TX10, 68, tyX10, rfl, hin_10, by decide, kf_X10_393, tyX10_ok, nmX10, rfl, by decide +kernel⟩
theorem kf_X10_397 : Cond.fieldLink "BetweenStopsModel" 397 "BetweenStopsModel" "imageStops" "I" ∈ xTB := xTB_in (sg_5 (List.mem_of_getElem? (i := 165) (by decide +kernel))) rfl
theorem fd_X10_397 : xFd "BetweenStopsModel" 397 10 24 := ⟨_, TX10, 68, rfl, hin_10, by decide, kf_X10_397⟩
theorem fp_X10_397 : xFp "BetweenStopsModel" 397 10 24 .int := ⟨_, TX10, 68, tyX10, rfl, hin_10, by decide, kf_X10_397, tyX10_ok, nmX10, rfl, by decide +kernel⟩
theorem kf_X10_400 : Cond.fieldLink "BetweenStopsModel" 400 "BetweenStopsModel" "imageTrips" "I" ∈ xTB := xTB_in (sg_5 (List.mem_of_getElem? (i := 166) (by decide +kernel))) rfl
theorem fd_X10_400 : xFd "BetweenStopsModel" 400 10 25 := ⟨_, TX10, 68, rfl, hin_10, by decide, kf_X10_400⟩
theorem fp_X10_400 : xFp "BetweenStopsModel" 400 10 25 .int := ⟨_, TX10, 68, tyX10, rfl, hin_10, by decide, kf_X10_400, tyX10_ok, nmX10, rfl, by decide +kernel⟩
theorem kf_X10_403 : Cond.fieldLink "BetweenStopsModel" 403 "BetweenStopsModel" "imageEvery" "I" ∈ xTB := xTB_in (sg_5 (List.mem_of_getElem? (i := 167) (by decide +kernel))) rfl
theorem fd_X10_403 : xFd "BetweenStopsModel" 403 10 26 := ⟨_, TX10, 68, rfl, hin_10, by decide, kf_X10_403⟩
theorem fp_X10_403 : xFp "BetweenStopsModel" 403 10 26 .int := ⟨_, TX10, 68, tyX10, rfl, hin_10, by decide, kf_X10_403, tyX10_ok, nmX10, rfl, by decide +kernel⟩
theorem kf_X10_406 : Cond.fieldLink "BetweenStopsModel" 406 "BetweenStopsModel" "imagePace" "I" ∈ xTB := xTB_in (sg_5 (List.mem_of_getElem? (i := 168) (by decide +kernel))) rfl
theorem fd_X10_406 : xFd "BetweenStopsModel" 406 10 27 := ⟨_, TX10, 68, rfl, hin_10, by decide, kf_X10_406⟩
theorem fp_X10_406 : xFp "BetweenStopsModel" 406 10 27 .int := ⟨_, TX10, 68, tyX10, rfl, hin_10, by decide, kf_X10_406, tyX10_ok, nmX10, rfl, by decide +kernel⟩
theorem kf_X10_409 : Cond.fieldLink "BetweenStopsModel" 409 "BetweenStopsModel" "imageRule" "I" ∈ xTB := xTB_in (sg_5 (List.mem_of_getElem? (i := 169) (by decide +kernel))) rfl
theorem fd_X10_409 : xFd "BetweenStopsModel" 409 10 28 := ⟨_, TX10, 68, rfl, hin_10, by decide, kf_X10_409⟩
theorem fp_X10_409 : xFp "BetweenStopsModel" 409 10 28 .int := ⟨_, TX10, 68, tyX10, rfl, hin_10, by decide, kf_X10_409, tyX10_ok, nmX10, rfl, by decide +kernel⟩
theorem kf_X10_68 : Cond.fieldLink "BetweenStopsModel" 68 "BetweenStopsModel" "imageHeight" "[I" ∈ xTB := xTB_in (sg_5 (List.mem_of_getElem? (i := 170) (by decide +kernel))) rfl
theorem fd_X10_68 : xFd "BetweenStopsModel" 68 10 29 := ⟨_, TX10, 68, rfl, hin_10, by decide, kf_X10_68⟩
theorem kf_X10_71 : Cond.fieldLink "BetweenStopsModel" 71 "BetweenStopsModel" "imageSorts" "[I" ∈ xTB := xTB_in (sg_5 (List.mem_of_getElem? (i := 171) (by decide +kernel))) rfl
theorem fd_X10_71 : xFd "BetweenStopsModel" 71 10 30 := ⟨_, TX10, 68, rfl, hin_10, by decide, kf_X10_71⟩
theorem kf_X10_74 : Cond.fieldLink "BetweenStopsModel" 74 "BetweenStopsModel" "imageOpen" "[I" ∈ xTB := xTB_in (sg_5 (List.mem_of_getElem? (i := 172) (by decide +kernel))) rfl
theorem fd_X10_74 : xFd "BetweenStopsModel" 74 10 31 := ⟨_, TX10, 68, rfl, hin_10, by decide, kf_X10_74⟩
theorem kf_X10_77 : Cond.fieldLink "BetweenStopsModel" 77 "BetweenStopsModel" "imageWanted" "[I" ∈ xTB := xTB_in (sg_5 (List.mem_of_getElem? (i := 173) (by decide +kernel))) rfl
theorem fd_X10_77 : xFd "BetweenStopsModel" 77 10 32 := ⟨_, TX10, 68, rfl, hin_10, by decide, kf_X10_77⟩
theorem kf_X10_80 : Cond.fieldLink "BetweenStopsModel" 80 "BetweenStopsModel" "imagePattern" "[I" ∈ xTB := xTB_in (sg_5 (List.mem_of_getElem? (i := 174) (by decide +kernel))) rfl
theorem fd_X10_80 : xFd "BetweenStopsModel" 80 10 33 := ⟨_, TX10, 68, rfl, hin_10, by decide, kf_X10_80⟩
theorem kf_X10_83 : Cond.fieldLink "BetweenStopsModel" 83 "BetweenStopsModel" "sheetSort" "[I" ∈ xTB := xTB_in (sg_5 (List.mem_of_getElem? (i := 175) (by decide +kernel))) rfl
theorem fd_X10_83 : xFd "BetweenStopsModel" 83 10 34 := ⟨_, TX10, 68, rfl, hin_10, by decide, kf_X10_83⟩
theorem kf_X10_86 : Cond.fieldLink "BetweenStopsModel" 86 "BetweenStopsModel" "sheetSize" "[I" ∈ xTB := xTB_in (sg_5 (List.mem_of_getElem? (i := 176) (by decide +kernel))) rfl
theorem fd_X10_86 : xFd "BetweenStopsModel" 86 10 35 := ⟨_, TX10, 68, rfl, hin_10, by decide, kf_X10_86⟩
theorem kf_X10_89 : Cond.fieldLink "BetweenStopsModel" 89 "BetweenStopsModel" "cells" "[I" ∈ xTB := xTB_in (sg_5 (List.mem_of_getElem? (i := 177) (by decide +kernel))) rfl
theorem fd_X10_89 : xFd "BetweenStopsModel" 89 10 36 := ⟨_, TX10, 68, rfl, hin_10, by decide, kf_X10_89⟩
theorem kf_X10_217 : Cond.fieldLink "BetweenStopsModel" 217 "BetweenStopsModel" "wayCost" "I" ∈ xTB := xTB_in (sg_5 (List.mem_of_getElem? (i := 178) (by decide +kernel))) rfl
theorem fd_X10_217 : xFd "BetweenStopsModel" 217 10 37 := ⟨_, TX10, 68, rfl, hin_10, by decide, kf_X10_217⟩
theorem fp_X10_217 : xFp "BetweenStopsModel" 217 10 37 .int := ⟨_, TX10, 68, tyX10, rfl, hin_10, by decide, kf_X10_217, tyX10_ok, nmX10, rfl, by decide +kernel⟩
theorem kf_X10_220 : Cond.fieldLink "BetweenStopsModel" 220 "BetweenStopsModel" "wayIn" "I" ∈ xTB := xTB_in (sg_5 (List.mem_of_getElem? (i := 179) (by decide +kernel))) rfl
theorem fd_X10_220 : xFd "BetweenStopsModel" 220 10 38 := ⟨_, TX10, 68, rfl, hin_10, by decide, kf_X10_220⟩
theorem fp_X10_220 : xFp "BetweenStopsModel" 220 10 38 .int := ⟨_, TX10, 68, tyX10, rfl, hin_10, by decide, kf_X10_220, tyX10_ok, nmX10, rfl, by decide +kernel⟩
theorem kf_X10_223 : Cond.fieldLink "BetweenStopsModel" 223 "BetweenStopsModel" "wayOut" "I" ∈ xTB := xTB_in (sg_5 (List.mem_of_getElem? (i := 180) (by decide +kernel))) rfl
theorem fd_X10_223 : xFd "BetweenStopsModel" 223 10 39 := ⟨_, TX10, 68, rfl, hin_10, by decide, kf_X10_223⟩
theorem fp_X10_223 : xFp "BetweenStopsModel" 223 10 39 .int := ⟨_, TX10, 68, tyX10, rfl, hin_10, by decide, kf_X10_223, tyX10_ok, nmX10, rfl, by decide +kernel⟩
theorem kf_X10_226 : Cond.fieldLink "BetweenStopsModel" 226 "BetweenStopsModel" "wayWalk" "I" ∈ xTB := xTB_in (sg_5 (List.mem_of_getElem? (i := 181) (by decide +kernel))) rfl
theorem fd_X10_226 : xFd "BetweenStopsModel" 226 10 40 := ⟨_, TX10, 68, rfl, hin_10, by decide, kf_X10_226⟩
theorem fp_X10_226 : xFp "BetweenStopsModel" 226 10 40 .int := ⟨_, TX10, 68, tyX10, rfl, hin_10, by decide, kf_X10_226, tyX10_ok, nmX10, rfl, by decide +kernel⟩
theorem kf_X10_229 : Cond.fieldLink "BetweenStopsModel" 229 "BetweenStopsModel" "wayWait" "I" ∈ xTB := xTB_in (sg_5 (List.mem_of_getElem? (i := 182) (by decide +kernel))) rfl
theorem fd_X10_229 : xFd "BetweenStopsModel" 229 10 41 := ⟨_, TX10, 68, rfl, hin_10, by decide, kf_X10_229⟩
theorem fp_X10_229 : xFp "BetweenStopsModel" 229 10 41 .int := ⟨_, TX10, 68, tyX10, rfl, hin_10, by decide, kf_X10_229, tyX10_ok, nmX10, rfl, by decide +kernel⟩
theorem kf_X10_232 : Cond.fieldLink "BetweenStopsModel" 232 "BetweenStopsModel" "wayRide" "I" ∈ xTB := xTB_in (sg_5 (List.mem_of_getElem? (i := 183) (by decide +kernel))) rfl
theorem fd_X10_232 : xFd "BetweenStopsModel" 232 10 42 := ⟨_, TX10, 68, rfl, hin_10, by decide, kf_X10_232⟩
theorem fp_X10_232 : xFp "BetweenStopsModel" 232 10 42 .int := ⟨_, TX10, 68, tyX10, rfl, hin_10, by decide, kf_X10_232, tyX10_ok, nmX10, rfl, by decide +kernel⟩
theorem kf_X10_92 : Cond.fieldLink "BetweenStopsModel" 92 "BetweenStopsModel" "costOf" "[I" ∈ xTB := xTB_in (sg_5 (List.mem_of_getElem? (i := 184) (by decide +kernel))) rfl
theorem fd_X10_92 : xFd "BetweenStopsModel" 92 10 43 := ⟨_, TX10, 68, rfl, hin_10, by decide, kf_X10_92⟩
theorem kf_X10_246 : Cond.fieldLink "BetweenStopsModel" 246 "BetweenStopsModel" "walkMost" "I" ∈ xTB := xTB_in (sg_5 (List.mem_of_getElem? (i := 185) (by decide +kernel))) rfl
theorem fd_X10_246 : xFd "BetweenStopsModel" 246 10 44 := ⟨_, TX10, 68, rfl, hin_10, by decide, kf_X10_246⟩
theorem fp_X10_246 : xFp "BetweenStopsModel" 246 10 44 .int := ⟨_, TX10, 68, tyX10, rfl, hin_10, by decide, kf_X10_246, tyX10_ok, nmX10, rfl, by decide +kernel⟩
theorem kf_X10_249 : Cond.fieldLink "BetweenStopsModel" 249 "BetweenStopsModel" "costMost" "I" ∈ xTB := xTB_in (sg_5 (List.mem_of_getElem? (i := 186) (by decide +kernel))) rfl
theorem fd_X10_249 : xFd "BetweenStopsModel" 249 10 45 := ⟨_, TX10, 68, rfl, hin_10, by decide, kf_X10_249⟩
theorem fp_X10_249 : xFp "BetweenStopsModel" 249 10 45 .int := ⟨_, TX10, 68, tyX10, rfl, hin_10, by decide, kf_X10_249, tyX10_ok, nmX10, rfl, by decide +kernel⟩
theorem kf_X10_252 : Cond.fieldLink "BetweenStopsModel" 252 "BetweenStopsModel" "costWho" "I" ∈ xTB := xTB_in (sg_5 (List.mem_of_getElem? (i := 187) (by decide +kernel))) rfl
theorem fd_X10_252 : xFd "BetweenStopsModel" 252 10 46 := ⟨_, TX10, 68, rfl, hin_10, by decide, kf_X10_252⟩
theorem fp_X10_252 : xFp "BetweenStopsModel" 252 10 46 .int := ⟨_, TX10, 68, tyX10, rfl, hin_10, by decide, kf_X10_252, tyX10_ok, nmX10, rfl, by decide +kernel⟩
theorem kf_X10_266 : Cond.fieldLink "BetweenStopsModel" 266 "BetweenStopsModel" "at" "I" ∈ xTB := xTB_in (sg_5 (List.mem_of_getElem? (i := 188) (by decide +kernel))) rfl
theorem fd_X10_266 : xFd "BetweenStopsModel" 266 10 47 := ⟨_, TX10, 68, rfl, hin_10, by decide, kf_X10_266⟩
theorem fp_X10_266 : xFp "BetweenStopsModel" 266 10 47 .int := ⟨_, TX10, 68, tyX10, rfl, hin_10, by decide, kf_X10_266, tyX10_ok, nmX10, rfl, by decide +kernel⟩
theorem kf_X10_269 : Cond.fieldLink "BetweenStopsModel" 269 "BetweenStopsModel" "begun" "I" ∈ xTB := xTB_in (sg_5 (List.mem_of_getElem? (i := 189) (by decide +kernel))) rfl
theorem fd_X10_269 : xFd "BetweenStopsModel" 269 10 48 := ⟨_, TX10, 68, rfl, hin_10, by decide, kf_X10_269⟩
theorem fp_X10_269 : xFp "BetweenStopsModel" 269 10 48 .int := ⟨_, TX10, 68, tyX10, rfl, hin_10, by decide, kf_X10_269, tyX10_ok, nmX10, rfl, by decide +kernel⟩
theorem kf_X10_272 : Cond.fieldLink "BetweenStopsModel" 272 "BetweenStopsModel" "token" "I" ∈ xTB := xTB_in (sg_5 (List.mem_of_getElem? (i := 190) (by decide +kernel))) rfl
theorem fd_X10_272 : xFd "BetweenStopsModel" 272 10 49 := ⟨_, TX10, 68, rfl, hin_10, by decide, kf_X10_272⟩
theorem fp_X10_272 : xFp "BetweenStopsModel" 272 10 49 .int := ⟨_, TX10, 68, tyX10, rfl, hin_10, by decide, kf_X10_272, tyX10_ok, nmX10, rfl, by decide +kernel⟩
theorem kf_X10_275 : Cond.fieldLink "BetweenStopsModel" 275 "BetweenStopsModel" "value" "I" ∈ xTB := xTB_in (sg_5 (List.mem_of_getElem? (i := 191) (by decide +kernel))) rfl
theorem fd_X10_275 : xFd "BetweenStopsModel" 275 10 50 := ⟨_, TX10, 68, rfl, hin_10, by decide, kf_X10_275⟩
theorem fp_X10_275 : xFp "BetweenStopsModel" 275 10 50 .int := ⟨_, TX10, 68, tyX10, rfl, hin_10, by decide, kf_X10_275, tyX10_ok, nmX10, rfl, by decide +kernel⟩
theorem kf_X10_119 : Cond.fieldLink "BetweenStopsModel" 119 "BetweenStopsModel" "words" "[J" ∈ xTB := xTB_in (sg_5 (List.mem_of_getElem? (i := 192) (by decide +kernel))) rfl
theorem fd_X10_119 : xFd "BetweenStopsModel" 119 10 51 := ⟨_, TX10, 68, rfl, hin_10, by decide, kf_X10_119⟩
theorem kf_X10_123 : Cond.fieldLink "BetweenStopsModel" 123 "BetweenStopsModel" "held" "[I" ∈ xTB := xTB_in (sg_5 (List.mem_of_getElem? (i := 193) (by decide +kernel))) rfl
theorem fd_X10_123 : xFd "BetweenStopsModel" 123 10 52 := ⟨_, TX10, 68, rfl, hin_10, by decide, kf_X10_123⟩
theorem kf_X10_284 : Cond.fieldLink "BetweenStopsModel" 284 "BetweenStopsModel" "heldMany" "I" ∈ xTB := xTB_in (sg_5 (List.mem_of_getElem? (i := 194) (by decide +kernel))) rfl
theorem fd_X10_284 : xFd "BetweenStopsModel" 284 10 53 := ⟨_, TX10, 68, rfl, hin_10, by decide, kf_X10_284⟩
theorem fp_X10_284 : xFp "BetweenStopsModel" 284 10 53 .int := ⟨_, TX10, 68, tyX10, rfl, hin_10, by decide, kf_X10_284, tyX10_ok, nmX10, rfl, by decide +kernel⟩
theorem kf_X10_290 : Cond.fieldLink "BetweenStopsModel" 290 "BetweenStopsModel" "opens" "I" ∈ xTB := xTB_in (sg_5 (List.mem_of_getElem? (i := 195) (by decide +kernel))) rfl
theorem fd_X10_290 : xFd "BetweenStopsModel" 290 10 54 := ⟨_, TX10, 68, rfl, hin_10, by decide, kf_X10_290⟩
theorem fp_X10_290 : xFp "BetweenStopsModel" 290 10 54 .int := ⟨_, TX10, 68, tyX10, rfl, hin_10, by decide, kf_X10_290, tyX10_ok, nmX10, rfl, by decide +kernel⟩
theorem kf_X10_281 : Cond.fieldLink "BetweenStopsModel" 281 "BetweenStopsModel" "out" "I" ∈ xTB := xTB_in (sg_5 (List.mem_of_getElem? (i := 196) (by decide +kernel))) rfl
theorem fd_X10_281 : xFd "BetweenStopsModel" 281 10 55 := ⟨_, TX10, 68, rfl, hin_10, by decide, kf_X10_281⟩
theorem fp_X10_281 : xFp "BetweenStopsModel" 281 10 55 .int := ⟨_, TX10, 68, tyX10, rfl, hin_10, by decide, kf_X10_281, tyX10_ok, nmX10, rfl, by decide +kernel⟩
theorem kf_X10_126 : Cond.fieldLink "BetweenStopsModel" 126 "BetweenStopsModel" "stack" "[I" ∈ xTB := xTB_in (sg_5 (List.mem_of_getElem? (i := 197) (by decide +kernel))) rfl
theorem fd_X10_126 : xFd "BetweenStopsModel" 126 10 56 := ⟨_, TX10, 68, rfl, hin_10, by decide, kf_X10_126⟩
theorem kf_X10_129 : Cond.fieldLink "BetweenStopsModel" 129 "BetweenStopsModel" "named" "[I" ∈ xTB := xTB_in (sg_5 (List.mem_of_getElem? (i := 198) (by decide +kernel))) rfl
theorem fd_X10_129 : xFd "BetweenStopsModel" 129 10 57 := ⟨_, TX10, 68, rfl, hin_10, by decide, kf_X10_129⟩
theorem kf_X10_132 : Cond.fieldLink "BetweenStopsModel" 132 "BetweenStopsModel" "keptOpen" "[I" ∈ xTB := xTB_in (sg_5 (List.mem_of_getElem? (i := 199) (by decide +kernel))) rfl
theorem fd_X10_132 : xFd "BetweenStopsModel" 132 10 58 := ⟨_, TX10, 68, rfl, hin_10, by decide, kf_X10_132⟩
theorem kf_X10_135 : Cond.fieldLink "BetweenStopsModel" 135 "BetweenStopsModel" "nowCost" "[I" ∈ xTB := xTB_in (sg_5 (List.mem_of_getElem? (i := 200) (by decide +kernel))) rfl
theorem fd_X10_135 : xFd "BetweenStopsModel" 135 10 59 := ⟨_, TX10, 68, rfl, hin_10, by decide, kf_X10_135⟩
theorem kf_X10_332 : Cond.fieldLink "BetweenStopsModel" 332 "BetweenStopsModel" "bestTotal" "J" ∈ xTB := xTB_in (sg_5 (List.mem_of_getElem? (i := 201) (by decide +kernel))) rfl
theorem fd_X10_332 : xFd "BetweenStopsModel" 332 10 60 := ⟨_, TX10, 68, rfl, hin_10, by decide, kf_X10_332⟩
theorem fp_X10_332 : xFp "BetweenStopsModel" 332 10 60 .long := ⟨_, TX10, 68, tyX10, rfl, hin_10, by decide, kf_X10_332, tyX10_ok, nmX10, rfl, by decide +kernel⟩
theorem kf_X10_138 : Cond.fieldLink "BetweenStopsModel" 138 "BetweenStopsModel" "keptPattern" "[I" ∈ xTB := xTB_in (sg_5 (List.mem_of_getElem? (i := 202) (by decide +kernel))) rfl
theorem fd_X10_138 : xFd "BetweenStopsModel" 138 10 61 := ⟨_, TX10, 68, rfl, hin_10, by decide, kf_X10_138⟩
theorem kf_X10_352 : Cond.fieldLink "BetweenStopsModel" 352 "BetweenStopsModel" "givenTotal" "J" ∈ xTB := xTB_in (sg_5 (List.mem_of_getElem? (i := 203) (by decide +kernel))) rfl
theorem fd_X10_352 : xFd "BetweenStopsModel" 352 10 62 := ⟨_, TX10, 68, rfl, hin_10, by decide, kf_X10_352⟩
theorem fp_X10_352 : xFp "BetweenStopsModel" 352 10 62 .long := ⟨_, TX10, 68, tyX10, rfl, hin_10, by decide, kf_X10_352, tyX10_ok, nmX10, rfl, by decide +kernel⟩
theorem kf_X10_141 : Cond.fieldLink "BetweenStopsModel" 141 "BetweenStopsModel" "behind" "[I" ∈ xTB := xTB_in (sg_5 (List.mem_of_getElem? (i := 204) (by decide +kernel))) rfl
theorem fd_X10_141 : xFd "BetweenStopsModel" 141 10 63 := ⟨_, TX10, 68, rfl, hin_10, by decide, kf_X10_141⟩
theorem kf_X10_144 : Cond.fieldLink "BetweenStopsModel" 144 "BetweenStopsModel" "asking" "[I" ∈ xTB := xTB_in (sg_5 (List.mem_of_getElem? (i := 205) (by decide +kernel))) rfl
theorem fd_X10_144 : xFd "BetweenStopsModel" 144 10 64 := ⟨_, TX10, 68, rfl, hin_10, by decide, kf_X10_144⟩
theorem kf_X10_147 : Cond.fieldLink "BetweenStopsModel" 147 "BetweenStopsModel" "left" "[J" ∈ xTB := xTB_in (sg_5 (List.mem_of_getElem? (i := 206) (by decide +kernel))) rfl
theorem fd_X10_147 : xFd "BetweenStopsModel" 147 10 65 := ⟨_, TX10, 68, rfl, hin_10, by decide, kf_X10_147⟩
theorem kf_X10_150 : Cond.fieldLink "BetweenStopsModel" 150 "BetweenStopsModel" "uses" "[I" ∈ xTB := xTB_in (sg_5 (List.mem_of_getElem? (i := 207) (by decide +kernel))) rfl
theorem fd_X10_150 : xFd "BetweenStopsModel" 150 10 66 := ⟨_, TX10, 68, rfl, hin_10, by decide, kf_X10_150⟩
theorem kf_X10_153 : Cond.fieldLink "BetweenStopsModel" 153 "BetweenStopsModel" "ends" "[J" ∈ xTB := xTB_in (sg_5 (List.mem_of_getElem? (i := 208) (by decide +kernel))) rfl
theorem fd_X10_153 : xFd "BetweenStopsModel" 153 10 67 := ⟨_, TX10, 68, rfl, hin_10, by decide, kf_X10_153⟩
theorem kf_J0_9 : Cond.fieldLink "java/lang/String" 9 "java/lang/String" "value" "[B" ∈ xTB := xTB_in (sg_7 (List.mem_of_getElem? (i := 226) (by decide +kernel))) rfl
theorem kf_J0_15 : Cond.fieldLink "java/lang/String" 15 "java/lang/String" "coder" "B" ∈ xTB := xTB_in (sg_7 (List.mem_of_getElem? (i := 227) (by decide +kernel))) rfl
theorem kl_L_9 : Cond.methodLink "BetweenStopsLaw" 9 yX9_init ∈ xTB := xTB_in (sg_1 (List.mem_of_getElem? (i := 23) (by decide +kernel))) rfl
theorem kl_X9_1 : Cond.methodLink "BetweenStops" 1 objectInit ∈ xTB := xTB_in (sg_1 (List.mem_of_getElem? (i := 26) (by decide +kernel))) rfl
theorem kl_X9_9 : Cond.methodLink "BetweenStops" 9 yX6_init ∈ xTB := xTB_in (sg_1 (List.mem_of_getElem? (i := 31) (by decide +kernel))) rfl
theorem kl_X6_3 : Cond.methodLink "BetweenStops$Town" 3 objectInit ∈ xTB := xTB_in (sg_1 (List.mem_of_getElem? (i := 34) (by decide +kernel))) rfl
theorem kl_X6_54 : Cond.methodLink "BetweenStops$Town" 54 arraycopyName ∈ xTB := xTB_in (sg_1 (List.mem_of_getElem? (i := 43) (by decide +kernel))) rfl
theorem kl_X3_3 : Cond.methodLink "BetweenStops$Stop" 3 objectInit ∈ xTB := xTB_in (sg_1 (List.mem_of_getElem? (i := 50) (by decide +kernel))) rfl
theorem kl_X7_1 : Cond.methodLink "BetweenStops$Trip" 1 objectInit ∈ xTB := xTB_in (sg_1 (List.mem_of_getElem? (i := 94) (by decide +kernel))) rfl
theorem kl_X9_18 : Cond.methodLink "BetweenStops" 18 yX8_init ∈ xTB := xTB_in (sg_1 (List.mem_of_getElem? (i := 169) (by decide +kernel))) rfl
theorem kl_X8_3 : Cond.methodLink "BetweenStops$Ways" 3 objectInit ∈ xTB := xTB_in (sg_1 (List.mem_of_getElem? (i := 172) (by decide +kernel))) rfl
theorem kl_X4_3 : Cond.methodLink "BetweenStops$Tape" 3 objectInit ∈ xTB := xTB_in (sg_1 (List.mem_of_getElem? (i := 239) (by decide +kernel))) rfl
theorem kl_X9_34 : Cond.methodLink "BetweenStops" 34 yX1_init ∈ xTB := xTB_in (sg_2 (List.mem_of_getElem? (i := 25) (by decide +kernel))) rfl
theorem kl_X1_3 : Cond.methodLink "BetweenStops$Reader" 3 objectInit ∈ xTB := xTB_in (sg_2 (List.mem_of_getElem? (i := 28) (by decide +kernel))) rfl
theorem kl_X0_3 : Cond.methodLink "BetweenStops$Image" 3 objectInit ∈ xTB := xTB_in (sg_2 (List.mem_of_getElem? (i := 40) (by decide +kernel))) rfl
theorem kl_X5_3 : Cond.methodLink "BetweenStops$Text" 3 objectInit ∈ xTB := xTB_in (sg_2 (List.mem_of_getElem? (i := 85) (by decide +kernel))) rfl
theorem kl_X2_3 : Cond.methodLink "BetweenStops$Sheet" 3 objectInit ∈ xTB := xTB_in (sg_2 (List.mem_of_getElem? (i := 106) (by decide +kernel))) rfl
theorem kl_X9_90 : Cond.methodLink "BetweenStops" 90 yJ0_length_8abf5 ∈ xTB := xTB_in (sg_2 (List.mem_of_getElem? (i := 121) (by decide +kernel))) rfl
theorem kl_J0_335 : Cond.methodLink "java/lang/String" 335 yJ0_coder_7d493 ∈ xTB := xTB_in (sg_2 (List.mem_of_getElem? (i := 125) (by decide +kernel))) rfl
theorem kl_X9_96 : Cond.methodLink "BetweenStops" 96 yJ0_charAt_5068e ∈ xTB := xTB_in (sg_2 (List.mem_of_getElem? (i := 131) (by decide +kernel))) rfl
theorem kl_J0_492 : Cond.methodLink "java/lang/String" 492 yJ0_isLatin1_aae02 ∈ xTB := xTB_in (sg_2 (List.mem_of_getElem? (i := 135) (by decide +kernel))) rfl
theorem kl_J0_495 : Cond.methodLink "java/lang/String" 495 yJ1_charAt_3b067 ∈ xTB := xTB_in (sg_2 (List.mem_of_getElem? (i := 139) (by decide +kernel))) rfl
theorem kl_J1_9 : Cond.methodLink "java/lang/StringLatin1" 9 yJ0_checkIndex_df160 ∈ xTB := xTB_in (sg_2 (List.mem_of_getElem? (i := 142) (by decide +kernel))) rfl
theorem kl_J0_1059 : Cond.methodLink "java/lang/String" 1059 yJ3_checkIndex_8e157 ∈ xTB := xTB_in (sg_2 (List.mem_of_getElem? (i := 147) (by decide +kernel))) rfl
theorem kl_J0_498 : Cond.methodLink "java/lang/String" 498 yJ2_charAt_3b067 ∈ xTB := xTB_in (sg_2 (List.mem_of_getElem? (i := 150) (by decide +kernel))) rfl
theorem kl_J2_67 : Cond.methodLink "java/lang/StringUTF16" 67 yJ2_checkIndex_2214a ∈ xTB := xTB_in (sg_2 (List.mem_of_getElem? (i := 153) (by decide +kernel))) rfl
theorem kl_J2_48 : Cond.methodLink "java/lang/StringUTF16" 48 yJ2_length_9d52b ∈ xTB := xTB_in (sg_2 (List.mem_of_getElem? (i := 156) (by decide +kernel))) rfl
theorem kl_J2_414 : Cond.methodLink "java/lang/StringUTF16" 414 yJ0_checkIndex_df160 ∈ xTB := xTB_in (sg_2 (List.mem_of_getElem? (i := 159) (by decide +kernel))) rfl
theorem kl_J2_71 : Cond.methodLink "java/lang/StringUTF16" 71 yJ2_getChar_3b067 ∈ xTB := xTB_in (sg_2 (List.mem_of_getElem? (i := 160) (by decide +kernel))) rfl
theorem kl_X9_100 : Cond.methodLink "BetweenStops" 100 yX4_append ∈ xTB := xTB_in (sg_2 (List.mem_of_getElem? (i := 169) (by decide +kernel))) rfl
theorem kl_X9_104 : Cond.methodLink "BetweenStops" 104 yX1_faultOf ∈ xTB := xTB_in (sg_2 (List.mem_of_getElem? (i := 173) (by decide +kernel))) rfl
theorem kl_X1_15 : Cond.methodLink "BetweenStops$Reader" 15 yX5_clear ∈ xTB := xTB_in (sg_2 (List.mem_of_getElem? (i := 177) (by decide +kernel))) rfl
theorem kl_X1_20 : Cond.methodLink "BetweenStops$Reader" 20 yX4_rewind ∈ xTB := xTB_in (sg_2 (List.mem_of_getElem? (i := 181) (by decide +kernel))) rfl
theorem kl_X4_31 : Cond.methodLink "BetweenStops$Tape" 31 yX4_advance ∈ xTB := xTB_in (sg_2 (List.mem_of_getElem? (i := 185) (by decide +kernel))) rfl
theorem kl_X4_34 : Cond.methodLink "BetweenStops$Tape" 34 yX4_isBlank ∈ xTB := xTB_in (sg_2 (List.mem_of_getElem? (i := 189) (by decide +kernel))) rfl
theorem kl_X4_38 : Cond.methodLink "BetweenStops$Tape" 38 yX4_isLetter ∈ xTB := xTB_in (sg_2 (List.mem_of_getElem? (i := 192) (by decide +kernel))) rfl
theorem kl_X4_41 : Cond.methodLink "BetweenStops$Tape" 41 yX4_readWord ∈ xTB := xTB_in (sg_2 (List.mem_of_getElem? (i := 195) (by decide +kernel))) rfl
theorem kl_X4_60 : Cond.methodLink "BetweenStops$Tape" 60 yX4_isWord ∈ xTB := xTB_in (sg_2 (List.mem_of_getElem? (i := 200) (by decide +kernel))) rfl
theorem kl_X4_86 : Cond.methodLink "BetweenStops$Tape" 86 yJ0_length_8abf5 ∈ xTB := xTB_in (sg_2 (List.mem_of_getElem? (i := 204) (by decide +kernel))) rfl
theorem kl_X4_90 : Cond.methodLink "BetweenStops$Tape" 90 yJ0_charAt_5068e ∈ xTB := xTB_in (sg_2 (List.mem_of_getElem? (i := 205) (by decide +kernel))) rfl
theorem kl_X4_44 : Cond.methodLink "BetweenStops$Tape" 44 yX4_isDigit ∈ xTB := xTB_in (sg_2 (List.mem_of_getElem? (i := 217) (by decide +kernel))) rfl
theorem kl_X4_47 : Cond.methodLink "BetweenStops$Tape" 47 yX4_readNumber ∈ xTB := xTB_in (sg_2 (List.mem_of_getElem? (i := 220) (by decide +kernel))) rfl
theorem kl_X4_52 : Cond.methodLink "BetweenStops$Tape" 52 yJ0_indexOf_0f7a4 ∈ xTB := xTB_in (sg_2 (List.mem_of_getElem? (i := 225) (by decide +kernel))) rfl
theorem kl_J0_633 : Cond.methodLink "java/lang/String" 633 yJ0_indexOf_7cf53 ∈ xTB := xTB_in (sg_2 (List.mem_of_getElem? (i := 229) (by decide +kernel))) rfl
theorem kl_J0_505 : Cond.methodLink "java/lang/String" 505 yJ0_length_8abf5 ∈ xTB := xTB_in (sg_2 (List.mem_of_getElem? (i := 233) (by decide +kernel))) rfl
theorem kl_J0_637 : Cond.methodLink "java/lang/String" 637 yJ1_indexOf_4cfef ∈ xTB := xTB_in (sg_2 (List.mem_of_getElem? (i := 234) (by decide +kernel))) rfl
theorem kl_J1_88 : Cond.methodLink "java/lang/StringLatin1" 88 yJ1_canEncode_9a6ad ∈ xTB := xTB_in (sg_2 (List.mem_of_getElem? (i := 237) (by decide +kernel))) rfl
theorem kl_J1_92 : Cond.methodLink "java/lang/StringLatin1" 92 Lib.Math.max.name ∈ xTB := xTB_in (sg_3 (List.mem_of_getElem? (i := 0) (by decide +kernel))) rfl
theorem kl_J1_38 : Cond.methodLink "java/lang/StringLatin1" 38 Lib.Math.min.name ∈ xTB := xTB_in (sg_3 (List.mem_of_getElem? (i := 3) (by decide +kernel))) rfl
theorem kl_J1_95 : Cond.methodLink "java/lang/StringLatin1" 95 yJ1_indexOfChar_4cfef ∈ xTB := xTB_in (sg_3 (List.mem_of_getElem? (i := 6) (by decide +kernel))) rfl
theorem kl_J0_640 : Cond.methodLink "java/lang/String" 640 yJ2_indexOf_4cfef ∈ xTB := xTB_in (sg_3 (List.mem_of_getElem? (i := 9) (by decide +kernel))) rfl
theorem kl_J2_224 : Cond.methodLink "java/lang/StringUTF16" 224 Lib.Math.max.name ∈ xTB := xTB_in (sg_3 (List.mem_of_getElem? (i := 12) (by decide +kernel))) rfl
theorem kl_J2_183 : Cond.methodLink "java/lang/StringUTF16" 183 Lib.Math.min.name ∈ xTB := xTB_in (sg_3 (List.mem_of_getElem? (i := 13) (by decide +kernel))) rfl
theorem kl_J2_228 : Cond.methodLink "java/lang/StringUTF16" 228 yJ2_indexOfChar_4cfef ∈ xTB := xTB_in (sg_3 (List.mem_of_getElem? (i := 15) (by decide +kernel))) rfl
theorem kl_J2_96 : Cond.methodLink "java/lang/StringUTF16" 96 yJ2_checkBoundsBeginEnd_d044e ∈ xTB := xTB_in (sg_3 (List.mem_of_getElem? (i := 18) (by decide +kernel))) rfl
theorem kl_J2_241 : Cond.methodLink "java/lang/StringUTF16" 241 yJ0_checkBoundsBeginEnd_23922 ∈ xTB := xTB_in (sg_3 (List.mem_of_getElem? (i := 21) (by decide +kernel))) rfl
theorem kl_J0_1062 : Cond.methodLink "java/lang/String" 1062 yJ3_checkFromToIndex_8c36e ∈ xTB := xTB_in (sg_3 (List.mem_of_getElem? (i := 24) (by decide +kernel))) rfl
theorem kl_J2_244 : Cond.methodLink "java/lang/StringUTF16" 244 yJ2_indexOfCharUnsafe_4cfef ∈ xTB := xTB_in (sg_3 (List.mem_of_getElem? (i := 27) (by decide +kernel))) rfl
theorem kl_J2_232 : Cond.methodLink "java/lang/StringUTF16" 232 yJ2_indexOfSupplementary_4cfef ∈ xTB := xTB_in (sg_3 (List.mem_of_getElem? (i := 30) (by decide +kernel))) rfl
theorem kl_J2_164 : Cond.methodLink "java/lang/StringUTF16" 164 yJ11_isValidCodePoint_9a6ad ∈ xTB := xTB_in (sg_3 (List.mem_of_getElem? (i := 33) (by decide +kernel))) rfl
theorem kl_J2_157 : Cond.methodLink "java/lang/StringUTF16" 157 yJ11_highSurrogate_5068e ∈ xTB := xTB_in (sg_3 (List.mem_of_getElem? (i := 36) (by decide +kernel))) rfl
theorem kl_J2_161 : Cond.methodLink "java/lang/StringUTF16" 161 yJ11_lowSurrogate_5068e ∈ xTB := xTB_in (sg_3 (List.mem_of_getElem? (i := 40) (by decide +kernel))) rfl
theorem kl_X1_25 : Cond.methodLink "BetweenStops$Reader" 25 yX1_passes ∈ xTB := xTB_in (sg_3 (List.mem_of_getElem? (i := 44) (by decide +kernel))) rfl
theorem kl_X1_43 : Cond.methodLink "BetweenStops$Reader" 43 yX4_advance ∈ xTB := xTB_in (sg_3 (List.mem_of_getElem? (i := 48) (by decide +kernel))) rfl
theorem kl_X1_29 : Cond.methodLink "BetweenStops$Reader" 29 yX1_readLevel ∈ xTB := xTB_in (sg_3 (List.mem_of_getElem? (i := 49) (by decide +kernel))) rfl
theorem kl_X1_46 : Cond.methodLink "BetweenStops$Reader" 46 yX1_readOne ∈ xTB := xTB_in (sg_3 (List.mem_of_getElem? (i := 53) (by decide +kernel))) rfl
theorem kl_X1_65 : Cond.methodLink "BetweenStops$Reader" 65 yX5_addNumber ∈ xTB := xTB_in (sg_3 (List.mem_of_getElem? (i := 57) (by decide +kernel))) rfl
theorem kl_X5_28 : Cond.methodLink "BetweenStops$Text" 28 yX5_add ∈ xTB := xTB_in (sg_3 (List.mem_of_getElem? (i := 61) (by decide +kernel))) rfl
theorem kl_X1_68 : Cond.methodLink "BetweenStops$Reader" 68 yX5_addName ∈ xTB := xTB_in (sg_3 (List.mem_of_getElem? (i := 65) (by decide +kernel))) rfl
theorem kl_X1_50 : Cond.methodLink "BetweenStops$Reader" 50 yX1_readBehind ∈ xTB := xTB_in (sg_3 (List.mem_of_getElem? (i := 69) (by decide +kernel))) rfl
theorem kl_X1_58 : Cond.methodLink "BetweenStops$Reader" 58 yX5_addSign ∈ xTB := xTB_in (sg_3 (List.mem_of_getElem? (i := 73) (by decide +kernel))) rfl
theorem kl_X1_71 : Cond.methodLink "BetweenStops$Reader" 71 yX1_readInside ∈ xTB := xTB_in (sg_3 (List.mem_of_getElem? (i := 77) (by decide +kernel))) rfl
theorem kl_X1_54 : Cond.methodLink "BetweenStops$Reader" 54 yX1_joinsAt ∈ xTB := xTB_in (sg_3 (List.mem_of_getElem? (i := 81) (by decide +kernel))) rfl
theorem kl_X1_37 : Cond.methodLink "BetweenStops$Reader" 37 yX5_endPart ∈ xTB := xTB_in (sg_3 (List.mem_of_getElem? (i := 84) (by decide +kernel))) rfl
theorem kl_L_13 : Cond.methodLink "BetweenStopsLaw" 13 yX9_road ∈ xTB := xTB_in (sg_3 (List.mem_of_getElem? (i := 135) (by decide +kernel))) rfl
theorem kl_X9_111 : Cond.methodLink "BetweenStops" 111 yX9_isWithin ∈ xTB := xTB_in (sg_3 (List.mem_of_getElem? (i := 139) (by decide +kernel))) rfl
theorem kl_X9_118 : Cond.methodLink "BetweenStops" 118 yX6_measureClimbs ∈ xTB := xTB_in (sg_3 (List.mem_of_getElem? (i := 142) (by decide +kernel))) rfl
theorem kl_X6_62 : Cond.methodLink "BetweenStops$Town" 62 Lib.Math.max.name ∈ xTB := xTB_in (sg_3 (List.mem_of_getElem? (i := 146) (by decide +kernel))) rfl
theorem kl_L_18 : Cond.methodLink "BetweenStopsLaw" 18 yX9_sort ∈ xTB := xTB_in (sg_3 (List.mem_of_getElem? (i := 147) (by decide +kernel))) rfl
theorem kl_X9_121 : Cond.methodLink "BetweenStops" 121 yX9_isSort ∈ xTB := xTB_in (sg_3 (List.mem_of_getElem? (i := 151) (by decide +kernel))) rfl
theorem kl_L_23 : Cond.methodLink "BetweenStopsLaw" 23 yX9_car ∈ xTB := xTB_in (sg_3 (List.mem_of_getElem? (i := 158) (by decide +kernel))) rfl
theorem kl_L_27 : Cond.methodLink "BetweenStopsLaw" 27 yX9_walks ∈ xTB := xTB_in (sg_3 (List.mem_of_getElem? (i := 162) (by decide +kernel))) rfl
theorem kl_X9_141 : Cond.methodLink "BetweenStops" 141 yX9_isCell ∈ xTB := xTB_in (sg_3 (List.mem_of_getElem? (i := 166) (by decide +kernel))) rfl
theorem kl_X9_144 : Cond.methodLink "BetweenStops" 144 yX6_walkSeconds ∈ xTB := xTB_in (sg_3 (List.mem_of_getElem? (i := 169) (by decide +kernel))) rfl
theorem kl_X6_68 : Cond.methodLink "BetweenStops$Town" 68 Lib.Math.abs.name ∈ xTB := xTB_in (sg_3 (List.mem_of_getElem? (i := 173) (by decide +kernel))) rfl
theorem kl_L_31 : Cond.methodLink "BetweenStopsLaw" 31 yX9_stop ∈ xTB := xTB_in (sg_3 (List.mem_of_getElem? (i := 176) (by decide +kernel))) rfl
theorem kl_X9_148 : Cond.methodLink "BetweenStops" 148 yX9_isKind ∈ xTB := xTB_in (sg_3 (List.mem_of_getElem? (i := 180) (by decide +kernel))) rfl
theorem kl_X9_158 : Cond.methodLink "BetweenStops" 158 yX3_begin ∈ xTB := xTB_in (sg_3 (List.mem_of_getElem? (i := 183) (by decide +kernel))) rfl
theorem kl_L_36 : Cond.methodLink "BetweenStopsLaw" 36 yX9_open ∈ xTB := xTB_in (sg_3 (List.mem_of_getElem? (i := 190) (by decide +kernel))) rfl
theorem kl_X9_164 : Cond.methodLink "BetweenStops" 164 yX9_isStop ∈ xTB := xTB_in (sg_3 (List.mem_of_getElem? (i := 194) (by decide +kernel))) rfl
theorem kl_X9_171 : Cond.methodLink "BetweenStops" 171 yX9_asNumber ∈ xTB := xTB_in (sg_3 (List.mem_of_getElem? (i := 198) (by decide +kernel))) rfl
theorem kl_L_40 : Cond.methodLink "BetweenStopsLaw" 40 yX9_want ∈ xTB := xTB_in (sg_3 (List.mem_of_getElem? (i := 201) (by decide +kernel))) rfl
theorem kl_L_44 : Cond.methodLink "BetweenStopsLaw" 44 yX9_turns ∈ xTB := xTB_in (sg_3 (List.mem_of_getElem? (i := 205) (by decide +kernel))) rfl
theorem kl_L_48 : Cond.methodLink "BetweenStopsLaw" 48 yX9_told ∈ xTB := xTB_in (sg_3 (List.mem_of_getElem? (i := 209) (by decide +kernel))) rfl
theorem kl_X9_187 : Cond.methodLink "BetweenStops" 187 yX3_secondsIf ∈ xTB := xTB_in (sg_3 (List.mem_of_getElem? (i := 213) (by decide +kernel))) rfl
theorem kl_X9_191 : Cond.methodLink "BetweenStops" 191 yX3_carsBy ∈ xTB := xTB_in (sg_3 (List.mem_of_getElem? (i := 217) (by decide +kernel))) rfl
theorem kl_X3_52 : Cond.methodLink "BetweenStops$Stop" 52 yX3_carsServed ∈ xTB := xTB_in (sg_3 (List.mem_of_getElem? (i := 221) (by decide +kernel))) rfl
theorem kl_X3_45 : Cond.methodLink "BetweenStops$Stop" 45 yX3_isOf ∈ xTB := xTB_in (sg_3 (List.mem_of_getElem? (i := 225) (by decide +kernel))) rfl
theorem kl_X9_194 : Cond.methodLink "BetweenStops" 194 yX3_isOf ∈ xTB := xTB_in (sg_3 (List.mem_of_getElem? (i := 229) (by decide +kernel))) rfl
theorem kl_L_52 : Cond.methodLink "BetweenStopsLaw" 52 yX9_trip ∈ xTB := xTB_in (sg_3 (List.mem_of_getElem? (i := 230) (by decide +kernel))) rfl
theorem kl_X9_204 : Cond.methodLink "BetweenStops" 204 yX7_begin ∈ xTB := xTB_in (sg_3 (List.mem_of_getElem? (i := 234) (by decide +kernel))) rfl
theorem kl_L_56 : Cond.methodLink "BetweenStopsLaw" 56 yX9_count ∈ xTB := xTB_in (sg_3 (List.mem_of_getElem? (i := 238) (by decide +kernel))) rfl
theorem kl_X9_207 : Cond.methodLink "BetweenStops" 207 yX6_openSet ∈ xTB := xTB_in (sg_4 (List.mem_of_getElem? (i := 2) (by decide +kernel))) rfl
theorem kl_X9_210 : Cond.methodLink "BetweenStops" 210 yJ6_bitCount_0f7a4 ∈ xTB := xTB_in (sg_4 (List.mem_of_getElem? (i := 7) (by decide +kernel))) rfl
theorem kl_L_61 : Cond.methodLink "BetweenStopsLaw" 61 yX9_takes ∈ xTB := xTB_in (sg_4 (List.mem_of_getElem? (i := 13) (by decide +kernel))) rfl
theorem kl_X9_215 : Cond.methodLink "BetweenStops" 215 yX9_isTrip ∈ xTB := xTB_in (sg_4 (List.mem_of_getElem? (i := 17) (by decide +kernel))) rfl
theorem kl_X9_218 : Cond.methodLink "BetweenStops" 218 yX9_lookAtNow ∈ xTB := xTB_in (sg_4 (List.mem_of_getElem? (i := 21) (by decide +kernel))) rfl
theorem kl_X9_254 : Cond.methodLink "BetweenStops" 254 yX8_measure ∈ xTB := xTB_in (sg_4 (List.mem_of_getElem? (i := 25) (by decide +kernel))) rfl
theorem kl_X8_81 : Cond.methodLink "BetweenStops$Ways" 81 yX3_carsBy ∈ xTB := xTB_in (sg_4 (List.mem_of_getElem? (i := 29) (by decide +kernel))) rfl
theorem kl_X8_88 : Cond.methodLink "BetweenStops$Ways" 88 yX3_secondsIf ∈ xTB := xTB_in (sg_4 (List.mem_of_getElem? (i := 30) (by decide +kernel))) rfl
theorem kl_X8_109 : Cond.methodLink "BetweenStops$Ways" 109 yX6_walkSeconds ∈ xTB := xTB_in (sg_4 (List.mem_of_getElem? (i := 31) (by decide +kernel))) rfl
theorem kl_X9_274 : Cond.methodLink "BetweenStops" 274 yX8_look ∈ xTB := xTB_in (sg_4 (List.mem_of_getElem? (i := 32) (by decide +kernel))) rfl
theorem kl_X8_116 : Cond.methodLink "BetweenStops$Ways" 116 yX8_addUpStanding ∈ xTB := xTB_in (sg_4 (List.mem_of_getElem? (i := 36) (by decide +kernel))) rfl
theorem kl_X8_127 : Cond.methodLink "BetweenStops$Ways" 127 yJ7_fill_53178 ∈ xTB := xTB_in (sg_4 (List.mem_of_getElem? (i := 40) (by decide +kernel))) rfl
theorem kl_X8_120 : Cond.methodLink "BetweenStops$Ways" 120 yX8_ride ∈ xTB := xTB_in (sg_4 (List.mem_of_getElem? (i := 43) (by decide +kernel))) rfl
theorem kl_X8_133 : Cond.methodLink "BetweenStops$Ways" 133 yX8_carTime ∈ xTB := xTB_in (sg_4 (List.mem_of_getElem? (i := 47) (by decide +kernel))) rfl
theorem kl_X8_136 : Cond.methodLink "BetweenStops$Ways" 136 Lib.Math.min.name ∈ xTB := xTB_in (sg_4 (List.mem_of_getElem? (i := 51) (by decide +kernel))) rfl
theorem kl_X8_142 : Cond.methodLink "BetweenStops$Ways" 142 Lib.Math.max.name ∈ xTB := xTB_in (sg_4 (List.mem_of_getElem? (i := 52) (by decide +kernel))) rfl
theorem kl_X8_124 : Cond.methodLink "BetweenStops$Ways" 124 yX8_findBest ∈ xTB := xTB_in (sg_4 (List.mem_of_getElem? (i := 53) (by decide +kernel))) rfl
theorem kl_X8_151 : Cond.methodLink "BetweenStops$Ways" 151 yX8_tellBest ∈ xTB := xTB_in (sg_4 (List.mem_of_getElem? (i := 57) (by decide +kernel))) rfl
theorem kl_L_65 : Cond.methodLink "BetweenStopsLaw" 65 yX9_sum ∈ xTB := xTB_in (sg_4 (List.mem_of_getElem? (i := 61) (by decide +kernel))) rfl
theorem kl_X9_241 : Cond.methodLink "BetweenStops" 241 yX8_total ∈ xTB := xTB_in (sg_4 (List.mem_of_getElem? (i := 66) (by decide +kernel))) rfl
theorem kl_X9_245 : Cond.methodLink "BetweenStops" 245 yX8_dearest ∈ xTB := xTB_in (sg_4 (List.mem_of_getElem? (i := 70) (by decide +kernel))) rfl
theorem kl_X9_248 : Cond.methodLink "BetweenStops" 248 yX8_dearestCost ∈ xTB := xTB_in (sg_4 (List.mem_of_getElem? (i := 74) (by decide +kernel))) rfl
theorem kl_X8_157 : Cond.methodLink "BetweenStops$Ways" 157 yX8_dearest ∈ xTB := xTB_in (sg_4 (List.mem_of_getElem? (i := 78) (by decide +kernel))) rfl
theorem kl_L_70 : Cond.methodLink "BetweenStopsLaw" 70 yX9_use ∈ xTB := xTB_in (sg_4 (List.mem_of_getElem? (i := 79) (by decide +kernel))) rfl
theorem kl_X9_251 : Cond.methodLink "BetweenStops" 251 yX8_usersOf ∈ xTB := xTB_in (sg_4 (List.mem_of_getElem? (i := 83) (by decide +kernel))) rfl
theorem kl_L_76 : Cond.methodLink "BetweenStopsLaw" 76 yX9_feed ∈ xTB := xTB_in (sg_4 (List.mem_of_getElem? (i := 87) (by decide +kernel))) rfl
theorem kl_L_81 : Cond.methodLink "BetweenStopsLaw" 81 yX9_text ∈ xTB := xTB_in (sg_4 (List.mem_of_getElem? (i := 91) (by decide +kernel))) rfl
theorem kl_L_86 : Cond.methodLink "BetweenStopsLaw" 86 yX9_force ∈ xTB := xTB_in (sg_4 (List.mem_of_getElem? (i := 95) (by decide +kernel))) rfl
theorem kl_L_90 : Cond.methodLink "BetweenStopsLaw" 90 yX9_best ∈ xTB := xTB_in (sg_4 (List.mem_of_getElem? (i := 99) (by decide +kernel))) rfl
theorem kl_X9_258 : Cond.methodLink "BetweenStops" 258 yX9_bestSet ∈ xTB := xTB_in (sg_4 (List.mem_of_getElem? (i := 104) (by decide +kernel))) rfl
theorem kl_X9_271 : Cond.methodLink "BetweenStops" 271 yX6_setCount ∈ xTB := xTB_in (sg_4 (List.mem_of_getElem? (i := 108) (by decide +kernel))) rfl
theorem kl_X9_262 : Cond.methodLink "BetweenStops" 262 yX9_totalOf ∈ xTB := xTB_in (sg_4 (List.mem_of_getElem? (i := 112) (by decide +kernel))) rfl
theorem kl_X9_371 : Cond.methodLink "BetweenStops" 371 yX9_walksAtMost ∈ xTB := xTB_in (sg_4 (List.mem_of_getElem? (i := 116) (by decide +kernel))) rfl
theorem kl_X9_374 : Cond.methodLink "BetweenStops" 374 yX9_dropsAtMost ∈ xTB := xTB_in (sg_4 (List.mem_of_getElem? (i := 120) (by decide +kernel))) rfl
theorem kl_L_94 : Cond.methodLink "BetweenStopsLaw" 94 yX9_bound ∈ xTB := xTB_in (sg_4 (List.mem_of_getElem? (i := 124) (by decide +kernel))) rfl
theorem kl_L_98 : Cond.methodLink "BetweenStopsLaw" 98 yX9_least ∈ xTB := xTB_in (sg_4 (List.mem_of_getElem? (i := 129) (by decide +kernel))) rfl
theorem kl_X9_268 : Cond.methodLink "BetweenStops" 268 yX9_keepCosts ∈ xTB := xTB_in (sg_4 (List.mem_of_getElem? (i := 134) (by decide +kernel))) rfl
theorem kl_X9_355 : Cond.methodLink "BetweenStops" 355 arraycopyName ∈ xTB := xTB_in (sg_4 (List.mem_of_getElem? (i := 138) (by decide +kernel))) rfl
theorem kl_L_102 : Cond.methodLink "BetweenStopsLaw" 102 yX9_fair ∈ xTB := xTB_in (sg_4 (List.mem_of_getElem? (i := 139) (by decide +kernel))) rfl
theorem kl_L_106 : Cond.methodLink "BetweenStopsLaw" 106 yX9_fewest ∈ xTB := xTB_in (sg_4 (List.mem_of_getElem? (i := 143) (by decide +kernel))) rfl
theorem kl_L_110 : Cond.methodLink "BetweenStopsLaw" 110 yX9_judge ∈ xTB := xTB_in (sg_4 (List.mem_of_getElem? (i := 148) (by decide +kernel))) rfl
theorem kl_X9_279 : Cond.methodLink "BetweenStops" 279 yX9_isSheet ∈ xTB := xTB_in (sg_4 (List.mem_of_getElem? (i := 152) (by decide +kernel))) rfl
theorem kl_X9_282 : Cond.methodLink "BetweenStops" 282 yX2_isMissing ∈ xTB := xTB_in (sg_4 (List.mem_of_getElem? (i := 155) (by decide +kernel))) rfl
theorem kl_L_114 : Cond.methodLink "BetweenStopsLaw" 114 yX9_patterns ∈ xTB := xTB_in (sg_4 (List.mem_of_getElem? (i := 159) (by decide +kernel))) rfl
theorem kl_X9_293 : Cond.methodLink "BetweenStops" 293 Lib.Math.min.name ∈ xTB := xTB_in (sg_4 (List.mem_of_getElem? (i := 163) (by decide +kernel))) rfl
theorem kl_X9_298 : Cond.methodLink "BetweenStops" 298 yX9_takePatterns ∈ xTB := xTB_in (sg_4 (List.mem_of_getElem? (i := 164) (by decide +kernel))) rfl
theorem kl_L_118 : Cond.methodLink "BetweenStopsLaw" 118 yX9_bench ∈ xTB := xTB_in (sg_4 (List.mem_of_getElem? (i := 168) (by decide +kernel))) rfl
theorem kl_X9_301 : Cond.methodLink "BetweenStops" 301 yX9_peopleWhoPayMore ∈ xTB := xTB_in (sg_4 (List.mem_of_getElem? (i := 172) (by decide +kernel))) rfl
theorem kl_X9_304 : Cond.methodLink "BetweenStops" 304 yX9_mostPaidMore ∈ xTB := xTB_in (sg_4 (List.mem_of_getElem? (i := 176) (by decide +kernel))) rfl
theorem kl_X9_368 : Cond.methodLink "BetweenStops" 368 Lib.Math.max.name ∈ xTB := xTB_in (sg_4 (List.mem_of_getElem? (i := 180) (by decide +kernel))) rfl
theorem kl_L_123 : Cond.methodLink "BetweenStopsLaw" 123 yX9_give ∈ xTB := xTB_in (sg_4 (List.mem_of_getElem? (i := 181) (by decide +kernel))) rfl
theorem kl_X9_307 : Cond.methodLink "BetweenStops" 307 yX9_givenUpOf ∈ xTB := xTB_in (sg_4 (List.mem_of_getElem? (i := 185) (by decide +kernel))) rfl
theorem kl_L_127 : Cond.methodLink "BetweenStopsLaw" 127 yX9_order ∈ xTB := xTB_in (sg_4 (List.mem_of_getElem? (i := 189) (by decide +kernel))) rfl
theorem kl_L_131 : Cond.methodLink "BetweenStopsLaw" 131 yX9_thins ∈ xTB := xTB_in (sg_4 (List.mem_of_getElem? (i := 193) (by decide +kernel))) rfl
theorem kl_L_135 : Cond.methodLink "BetweenStopsLaw" 135 yX9_across ∈ xTB := xTB_in (sg_4 (List.mem_of_getElem? (i := 197) (by decide +kernel))) rfl
theorem kl_L_139 : Cond.methodLink "BetweenStopsLaw" 139 yX9_homes ∈ xTB := xTB_in (sg_4 (List.mem_of_getElem? (i := 201) (by decide +kernel))) rfl
theorem kl_X9_316 : Cond.methodLink "BetweenStops" 316 yX9_homesIf ∈ xTB := xTB_in (sg_4 (List.mem_of_getElem? (i := 205) (by decide +kernel))) rfl
theorem kl_X9_380 : Cond.methodLink "BetweenStops" 380 yX5_valueOf ∈ xTB := xTB_in (sg_4 (List.mem_of_getElem? (i := 209) (by decide +kernel))) rfl
theorem kl_X5_32 : Cond.methodLink "BetweenStops$Text" 32 yX5_step ∈ xTB := xTB_in (sg_4 (List.mem_of_getElem? (i := 213) (by decide +kernel))) rfl
theorem kl_X5_40 : Cond.methodLink "BetweenStops$Text" 40 yX5_joined ∈ xTB := xTB_in (sg_4 (List.mem_of_getElem? (i := 218) (by decide +kernel))) rfl
theorem kl_L_143 : Cond.methodLink "BetweenStopsLaw" 143 yX9_round ∈ xTB := xTB_in (sg_4 (List.mem_of_getElem? (i := 221) (by decide +kernel))) rfl
theorem kl_X9_319 : Cond.methodLink "BetweenStops" 319 yX9_goRounds ∈ xTB := xTB_in (sg_4 (List.mem_of_getElem? (i := 225) (by decide +kernel))) rfl
theorem kl_X9_384 : Cond.methodLink "BetweenStops" 384 yX6_peopleBut ∈ xTB := xTB_in (sg_4 (List.mem_of_getElem? (i := 229) (by decide +kernel))) rfl
theorem kl_X9_387 : Cond.methodLink "BetweenStops" 387 yX9_atBounds ∈ xTB := xTB_in (sg_4 (List.mem_of_getElem? (i := 233) (by decide +kernel))) rfl
theorem kl_L_147 : Cond.methodLink "BetweenStopsLaw" 147 yX9_rest ∈ xTB := xTB_in (sg_4 (List.mem_of_getElem? (i := 236) (by decide +kernel))) rfl
theorem kl_L_151 : Cond.methodLink "BetweenStopsLaw" 151 yX9_asks ∈ xTB := xTB_in (sg_5 (List.mem_of_getElem? (i := 0) (by decide +kernel))) rfl
theorem kl_X9_322 : Cond.methodLink "BetweenStops" 322 yX9_wantedNow ∈ xTB := xTB_in (sg_5 (List.mem_of_getElem? (i := 4) (by decide +kernel))) rfl
theorem kl_X9_390 : Cond.methodLink "BetweenStops" 390 yX9_nameStop ∈ xTB := xTB_in (sg_5 (List.mem_of_getElem? (i := 8) (by decide +kernel))) rfl
theorem kl_X9_394 : Cond.methodLink "BetweenStops" 394 yJ7_fill_53178 ∈ xTB := xTB_in (sg_5 (List.mem_of_getElem? (i := 12) (by decide +kernel))) rfl
theorem kl_L_155 : Cond.methodLink "BetweenStopsLaw" 155 yX9_asked ∈ xTB := xTB_in (sg_5 (List.mem_of_getElem? (i := 13) (by decide +kernel))) rfl
theorem kl_L_159 : Cond.methodLink "BetweenStopsLaw" 159 yX9_bunch ∈ xTB := xTB_in (sg_5 (List.mem_of_getElem? (i := 17) (by decide +kernel))) rfl
theorem kl_X9_325 : Cond.methodLink "BetweenStops" 325 yX9_runCars ∈ xTB := xTB_in (sg_5 (List.mem_of_getElem? (i := 21) (by decide +kernel))) rfl
theorem kl_X9_400 : Cond.methodLink "BetweenStops" 400 yX9_endOf ∈ xTB := xTB_in (sg_5 (List.mem_of_getElem? (i := 25) (by decide +kernel))) rfl
theorem kl_X9_403 : Cond.methodLink "BetweenStops" 403 yX9_stopsNow ∈ xTB := xTB_in (sg_5 (List.mem_of_getElem? (i := 29) (by decide +kernel))) rfl
theorem kl_X9_406 : Cond.methodLink "BetweenStops" 406 yX9_leave ∈ xTB := xTB_in (sg_5 (List.mem_of_getElem? (i := 33) (by decide +kernel))) rfl
theorem kl_L_163 : Cond.methodLink "BetweenStopsLaw" 163 yX9_crowd ∈ xTB := xTB_in (sg_5 (List.mem_of_getElem? (i := 37) (by decide +kernel))) rfl
theorem kl_L_167 : Cond.methodLink "BetweenStopsLaw" 167 yX9_drawn ∈ xTB := xTB_in (sg_5 (List.mem_of_getElem? (i := 41) (by decide +kernel))) rfl
theorem kl_X9_328 : Cond.methodLink "BetweenStops" 328 yX9_drawnRide ∈ xTB := xTB_in (sg_5 (List.mem_of_getElem? (i := 45) (by decide +kernel))) rfl
theorem kl_X9_409 : Cond.methodLink "BetweenStops" 409 yX9_nextLot ∈ xTB := xTB_in (sg_5 (List.mem_of_getElem? (i := 49) (by decide +kernel))) rfl
theorem kl_X9_417 : Cond.methodLink "BetweenStops" 417 yX3_secondsDrawn ∈ xTB := xTB_in (sg_5 (List.mem_of_getElem? (i := 56) (by decide +kernel))) rfl
theorem kl_X3_48 : Cond.methodLink "BetweenStops$Stop" 48 yX3_secondsIf ∈ xTB := xTB_in (sg_5 (List.mem_of_getElem? (i := 60) (by decide +kernel))) rfl
theorem kl_L_171 : Cond.methodLink "BetweenStopsLaw" 171 yX9_image ∈ xTB := xTB_in (sg_5 (List.mem_of_getElem? (i := 61) (by decide +kernel))) rfl
theorem kl_X9_331 : Cond.methodLink "BetweenStops" 331 yX0_keep ∈ xTB := xTB_in (sg_5 (List.mem_of_getElem? (i := 65) (by decide +kernel))) rfl
theorem kl_X0_41 : Cond.methodLink "BetweenStops$Image" 41 arraycopyName ∈ xTB := xTB_in (sg_5 (List.mem_of_getElem? (i := 69) (by decide +kernel))) rfl
theorem kl_L_175 : Cond.methodLink "BetweenStopsLaw" 175 yX9_back ∈ xTB := xTB_in (sg_5 (List.mem_of_getElem? (i := 70) (by decide +kernel))) rfl
theorem kl_X9_338 : Cond.methodLink "BetweenStops" 338 yX0_giveBack ∈ xTB := xTB_in (sg_5 (List.mem_of_getElem? (i := 74) (by decide +kernel))) rfl
theorem kl_X0_77 : Cond.methodLink "BetweenStops$Image" 77 yX6_measureClimbs ∈ xTB := xTB_in (sg_5 (List.mem_of_getElem? (i := 78) (by decide +kernel))) rfl
theorem kl_L_179 : Cond.methodLink "BetweenStopsLaw" 179 yX9_sheet ∈ xTB := xTB_in (sg_5 (List.mem_of_getElem? (i := 79) (by decide +kernel))) rfl
theorem kl_X9_342 : Cond.methodLink "BetweenStops" 342 yX2_begin ∈ xTB := xTB_in (sg_5 (List.mem_of_getElem? (i := 83) (by decide +kernel))) rfl
theorem kl_X2_22 : Cond.methodLink "BetweenStops$Sheet" 22 yJ7_fill_53178 ∈ xTB := xTB_in (sg_5 (List.mem_of_getElem? (i := 87) (by decide +kernel))) rfl
theorem kl_L_183 : Cond.methodLink "BetweenStopsLaw" 183 yX9_cell ∈ xTB := xTB_in (sg_5 (List.mem_of_getElem? (i := 88) (by decide +kernel))) rfl
theorem kl_X9_344 : Cond.methodLink "BetweenStops" 344 yX2_holds ∈ xTB := xTB_in (sg_5 (List.mem_of_getElem? (i := 92) (by decide +kernel))) rfl
theorem kl_X9_347 : Cond.methodLink "BetweenStops" 347 yX2_write ∈ xTB := xTB_in (sg_5 (List.mem_of_getElem? (i := 96) (by decide +kernel))) rfl
theorem kl_L_187 : Cond.methodLink "BetweenStopsLaw" 187 yX9_copy ∈ xTB := xTB_in (sg_5 (List.mem_of_getElem? (i := 100) (by decide +kernel))) rfl
theorem kl_X9_351 : Cond.methodLink "BetweenStops" 351 yX2_holdsRow ∈ xTB := xTB_in (sg_5 (List.mem_of_getElem? (i := 104) (by decide +kernel))) rfl
theorem kl_L_192 : Cond.methodLink "BetweenStopsLaw" 192 yX9_tripsBy ∈ xTB := xTB_in (sg_5 (List.mem_of_getElem? (i := 108) (by decide +kernel))) rfl
theorem kl_X9_361 : Cond.methodLink "BetweenStops" 361 yX9_trip ∈ xTB := xTB_in (sg_5 (List.mem_of_getElem? (i := 112) (by decide +kernel))) rfl
theorem kl_L_196 : Cond.methodLink "BetweenStopsLaw" 196 yX9_taken ∈ xTB := xTB_in (sg_5 (List.mem_of_getElem? (i := 113) (by decide +kernel))) rfl
theorem kl_L_12 : Cond.methodLink "BetweenStopsLaw" 12 yX10_init ∈ xTB := xTB_in (sg_5 (List.mem_of_getElem? (i := 119) (by decide +kernel))) rfl
theorem kl_X10_1 : Cond.methodLink "BetweenStopsModel" 1 objectInit ∈ xTB := xTB_in (sg_5 (List.mem_of_getElem? (i := 122) (by decide +kernel))) rfl
theorem kl_X10_157 : Cond.methodLink "BetweenStopsModel" 157 yX10_first ∈ xTB := xTB_in (sg_5 (List.mem_of_getElem? (i := 136) (by decide +kernel))) rfl
theorem kl_L_17 : Cond.methodLink "BetweenStopsLaw" 17 yX10_road ∈ xTB := xTB_in (sg_6 (List.mem_of_getElem? (i := 107) (by decide +kernel))) rfl
theorem kl_X10_172 : Cond.methodLink "BetweenStopsModel" 172 yX10_isCell ∈ xTB := xTB_in (sg_6 (List.mem_of_getElem? (i := 111) (by decide +kernel))) rfl
theorem kl_X10_162 : Cond.methodLink "BetweenStopsModel" 162 yX10_in ∈ xTB := xTB_in (sg_6 (List.mem_of_getElem? (i := 114) (by decide +kernel))) rfl
theorem kl_L_22 : Cond.methodLink "BetweenStopsLaw" 22 yX10_sort ∈ xTB := xTB_in (sg_6 (List.mem_of_getElem? (i := 117) (by decide +kernel))) rfl
theorem kl_L_26 : Cond.methodLink "BetweenStopsLaw" 26 yX10_car ∈ xTB := xTB_in (sg_6 (List.mem_of_getElem? (i := 121) (by decide +kernel))) rfl
theorem kl_L_30 : Cond.methodLink "BetweenStopsLaw" 30 yX10_walks ∈ xTB := xTB_in (sg_6 (List.mem_of_getElem? (i := 125) (by decide +kernel))) rfl
theorem kl_X10_176 : Cond.methodLink "BetweenStopsModel" 176 yX10_walk ∈ xTB := xTB_in (sg_6 (List.mem_of_getElem? (i := 129) (by decide +kernel))) rfl
theorem kl_L_35 : Cond.methodLink "BetweenStopsLaw" 35 yX10_stop ∈ xTB := xTB_in (sg_6 (List.mem_of_getElem? (i := 133) (by decide +kernel))) rfl
theorem kl_L_39 : Cond.methodLink "BetweenStopsLaw" 39 yX10_open ∈ xTB := xTB_in (sg_6 (List.mem_of_getElem? (i := 137) (by decide +kernel))) rfl
theorem kl_X10_180 : Cond.methodLink "BetweenStopsModel" 180 yX10_isStop ∈ xTB := xTB_in (sg_6 (List.mem_of_getElem? (i := 141) (by decide +kernel))) rfl
theorem kl_L_43 : Cond.methodLink "BetweenStopsLaw" 43 yX10_want ∈ xTB := xTB_in (sg_6 (List.mem_of_getElem? (i := 145) (by decide +kernel))) rfl
theorem kl_L_47 : Cond.methodLink "BetweenStopsLaw" 47 yX10_turns ∈ xTB := xTB_in (sg_6 (List.mem_of_getElem? (i := 149) (by decide +kernel))) rfl
theorem kl_L_51 : Cond.methodLink "BetweenStopsLaw" 51 yX10_told ∈ xTB := xTB_in (sg_6 (List.mem_of_getElem? (i := 153) (by decide +kernel))) rfl
theorem kl_X10_191 : Cond.methodLink "BetweenStopsModel" 191 yX10_seconds ∈ xTB := xTB_in (sg_6 (List.mem_of_getElem? (i := 157) (by decide +kernel))) rfl
theorem kl_X10_183 : Cond.methodLink "BetweenStopsModel" 183 yX10_secondsBy ∈ xTB := xTB_in (sg_6 (List.mem_of_getElem? (i := 161) (by decide +kernel))) rfl
theorem kl_X10_187 : Cond.methodLink "BetweenStopsModel" 187 yX10_lets ∈ xTB := xTB_in (sg_6 (List.mem_of_getElem? (i := 165) (by decide +kernel))) rfl
theorem kl_X10_195 : Cond.methodLink "BetweenStopsModel" 195 yX10_isAsked ∈ xTB := xTB_in (sg_6 (List.mem_of_getElem? (i := 169) (by decide +kernel))) rfl
theorem kl_L_55 : Cond.methodLink "BetweenStopsLaw" 55 yX10_trip ∈ xTB := xTB_in (sg_6 (List.mem_of_getElem? (i := 173) (by decide +kernel))) rfl
theorem kl_L_60 : Cond.methodLink "BetweenStopsLaw" 60 yX10_count ∈ xTB := xTB_in (sg_6 (List.mem_of_getElem? (i := 177) (by decide +kernel))) rfl
theorem kl_X10_198 : Cond.methodLink "BetweenStopsModel" 198 yX10_openMany ∈ xTB := xTB_in (sg_6 (List.mem_of_getElem? (i := 181) (by decide +kernel))) rfl
theorem kl_L_64 : Cond.methodLink "BetweenStopsLaw" 64 yX10_takes ∈ xTB := xTB_in (sg_6 (List.mem_of_getElem? (i := 185) (by decide +kernel))) rfl
theorem kl_X10_239 : Cond.methodLink "BetweenStopsModel" 239 yX10_isTrip ∈ xTB := xTB_in (sg_6 (List.mem_of_getElem? (i := 189) (by decide +kernel))) rfl
theorem kl_X10_242 : Cond.methodLink "BetweenStopsModel" 242 yX10_finds ∈ xTB := xTB_in (sg_6 (List.mem_of_getElem? (i := 193) (by decide +kernel))) rfl
theorem kl_X10_235 : Cond.methodLink "BetweenStopsModel" 235 yX10_tries ∈ xTB := xTB_in (sg_6 (List.mem_of_getElem? (i := 197) (by decide +kernel))) rfl
theorem kl_X10_211 : Cond.methodLink "BetweenStopsModel" 211 yX10_doesStop ∈ xTB := xTB_in (sg_6 (List.mem_of_getElem? (i := 201) (by decide +kernel))) rfl
theorem kl_X10_214 : Cond.methodLink "BetweenStopsModel" 214 yX10_rides ∈ xTB := xTB_in (sg_6 (List.mem_of_getElem? (i := 205) (by decide +kernel))) rfl
theorem kl_X10_208 : Cond.methodLink "BetweenStopsModel" 208 yX10_isBetween ∈ xTB := xTB_in (sg_6 (List.mem_of_getElem? (i := 209) (by decide +kernel))) rfl
theorem kl_L_69 : Cond.methodLink "BetweenStopsLaw" 69 yX10_sum ∈ xTB := xTB_in (sg_6 (List.mem_of_getElem? (i := 213) (by decide +kernel))) rfl
theorem kl_X10_257 : Cond.methodLink "BetweenStopsModel" 257 yX10_total ∈ xTB := xTB_in (sg_6 (List.mem_of_getElem? (i := 218) (by decide +kernel))) rfl
theorem kl_L_73 : Cond.methodLink "BetweenStopsLaw" 73 yX10_use ∈ xTB := xTB_in (sg_6 (List.mem_of_getElem? (i := 222) (by decide +kernel))) rfl
theorem kl_X10_261 : Cond.methodLink "BetweenStopsModel" 261 yX10_useOf ∈ xTB := xTB_in (sg_6 (List.mem_of_getElem? (i := 226) (by decide +kernel))) rfl
theorem kl_L_80 : Cond.methodLink "BetweenStopsLaw" 80 yX10_feed ∈ xTB := xTB_in (sg_6 (List.mem_of_getElem? (i := 230) (by decide +kernel))) rfl
theorem kl_L_85 : Cond.methodLink "BetweenStopsLaw" 85 yX10_text ∈ xTB := xTB_in (sg_6 (List.mem_of_getElem? (i := 235) (by decide +kernel))) rfl
theorem kl_X10_302 : Cond.methodLink "BetweenStopsModel" 302 yX10_next ∈ xTB := xTB_in (sg_6 (List.mem_of_getElem? (i := 239) (by decide +kernel))) rfl
theorem kl_X10_278 : Cond.methodLink "BetweenStopsModel" 278 yX10_letters ∈ xTB := xTB_in (sg_7 (List.mem_of_getElem? (i := 3) (by decide +kernel))) rfl
theorem kl_X10_315 : Cond.methodLink "BetweenStopsModel" 315 yX10_eRead ∈ xTB := xTB_in (sg_7 (List.mem_of_getElem? (i := 7) (by decide +kernel))) rfl
theorem kl_X10_293 : Cond.methodLink "BetweenStopsModel" 293 yX10_puts ∈ xTB := xTB_in (sg_7 (List.mem_of_getElem? (i := 12) (by decide +kernel))) rfl
theorem kl_X10_299 : Cond.methodLink "BetweenStopsModel" 299 yX10_unwinds ∈ xTB := xTB_in (sg_7 (List.mem_of_getElem? (i := 16) (by decide +kernel))) rfl
theorem kl_X10_287 : Cond.methodLink "BetweenStopsModel" 287 yX10_rank ∈ xTB := xTB_in (sg_7 (List.mem_of_getElem? (i := 20) (by decide +kernel))) rfl
theorem kl_X10_306 : Cond.methodLink "BetweenStopsModel" 306 yX10_opensOne ∈ xTB := xTB_in (sg_7 (List.mem_of_getElem? (i := 23) (by decide +kernel))) rfl
theorem kl_X10_296 : Cond.methodLink "BetweenStopsModel" 296 yX10_holds ∈ xTB := xTB_in (sg_7 (List.mem_of_getElem? (i := 27) (by decide +kernel))) rfl
theorem kl_X10_309 : Cond.methodLink "BetweenStopsModel" 309 yX10_signOf ∈ xTB := xTB_in (sg_7 (List.mem_of_getElem? (i := 31) (by decide +kernel))) rfl
theorem kl_X10_312 : Cond.methodLink "BetweenStopsModel" 312 yX10_between ∈ xTB := xTB_in (sg_7 (List.mem_of_getElem? (i := 35) (by decide +kernel))) rfl
theorem kl_L_89 : Cond.methodLink "BetweenStopsLaw" 89 yX10_force ∈ xTB := xTB_in (sg_7 (List.mem_of_getElem? (i := 39) (by decide +kernel))) rfl
theorem kl_L_93 : Cond.methodLink "BetweenStopsLaw" 93 yX10_best ∈ xTB := xTB_in (sg_7 (List.mem_of_getElem? (i := 43) (by decide +kernel))) rfl
theorem kl_X10_342 : Cond.methodLink "BetweenStopsModel" 342 yX10_bestSet ∈ xTB := xTB_in (sg_7 (List.mem_of_getElem? (i := 47) (by decide +kernel))) rfl
theorem kl_X10_322 : Cond.methodLink "BetweenStopsModel" 322 yX10_keeps ∈ xTB := xTB_in (sg_7 (List.mem_of_getElem? (i := 51) (by decide +kernel))) rfl
theorem kl_X10_325 : Cond.methodLink "BetweenStopsModel" 325 yX10_totalWith ∈ xTB := xTB_in (sg_7 (List.mem_of_getElem? (i := 55) (by decide +kernel))) rfl
theorem kl_X10_329 : Cond.methodLink "BetweenStopsModel" 329 yX10_isWithin ∈ xTB := xTB_in (sg_7 (List.mem_of_getElem? (i := 59) (by decide +kernel))) rfl
theorem kl_X10_336 : Cond.methodLink "BetweenStopsModel" 336 yX10_ones ∈ xTB := xTB_in (sg_7 (List.mem_of_getElem? (i := 63) (by decide +kernel))) rfl
theorem kl_X10_339 : Cond.methodLink "BetweenStopsModel" 339 yX10_lays ∈ xTB := xTB_in (sg_7 (List.mem_of_getElem? (i := 66) (by decide +kernel))) rfl
theorem kl_L_97 : Cond.methodLink "BetweenStopsLaw" 97 yX10_bound ∈ xTB := xTB_in (sg_7 (List.mem_of_getElem? (i := 70) (by decide +kernel))) rfl
theorem kl_L_101 : Cond.methodLink "BetweenStopsLaw" 101 yX10_least ∈ xTB := xTB_in (sg_7 (List.mem_of_getElem? (i := 75) (by decide +kernel))) rfl
theorem kl_L_105 : Cond.methodLink "BetweenStopsLaw" 105 yX10_fair ∈ xTB := xTB_in (sg_7 (List.mem_of_getElem? (i := 80) (by decide +kernel))) rfl
theorem kl_L_109 : Cond.methodLink "BetweenStopsLaw" 109 yX10_fewest ∈ xTB := xTB_in (sg_7 (List.mem_of_getElem? (i := 84) (by decide +kernel))) rfl
theorem kl_L_113 : Cond.methodLink "BetweenStopsLaw" 113 yX10_judge ∈ xTB := xTB_in (sg_7 (List.mem_of_getElem? (i := 89) (by decide +kernel))) rfl
theorem kl_L_117 : Cond.methodLink "BetweenStopsLaw" 117 yX10_patterns ∈ xTB := xTB_in (sg_7 (List.mem_of_getElem? (i := 93) (by decide +kernel))) rfl
theorem kl_L_122 : Cond.methodLink "BetweenStopsLaw" 122 yX10_bench ∈ xTB := xTB_in (sg_7 (List.mem_of_getElem? (i := 99) (by decide +kernel))) rfl
theorem kl_L_126 : Cond.methodLink "BetweenStopsLaw" 126 yX10_give ∈ xTB := xTB_in (sg_7 (List.mem_of_getElem? (i := 103) (by decide +kernel))) rfl
theorem kl_X10_355 : Cond.methodLink "BetweenStopsModel" 355 yX10_givesUp ∈ xTB := xTB_in (sg_7 (List.mem_of_getElem? (i := 107) (by decide +kernel))) rfl
theorem kl_L_130 : Cond.methodLink "BetweenStopsLaw" 130 yX10_order ∈ xTB := xTB_in (sg_7 (List.mem_of_getElem? (i := 111) (by decide +kernel))) rfl
theorem kl_L_134 : Cond.methodLink "BetweenStopsLaw" 134 yX10_thins ∈ xTB := xTB_in (sg_7 (List.mem_of_getElem? (i := 115) (by decide +kernel))) rfl
theorem kl_L_138 : Cond.methodLink "BetweenStopsLaw" 138 yX10_across ∈ xTB := xTB_in (sg_7 (List.mem_of_getElem? (i := 119) (by decide +kernel))) rfl
theorem kl_L_142 : Cond.methodLink "BetweenStopsLaw" 142 yX10_homes ∈ xTB := xTB_in (sg_7 (List.mem_of_getElem? (i := 123) (by decide +kernel))) rfl
theorem kl_X10_365 : Cond.methodLink "BetweenStopsModel" 365 yX10_homesNow ∈ xTB := xTB_in (sg_7 (List.mem_of_getElem? (i := 127) (by decide +kernel))) rfl
theorem kl_X10_358 : Cond.methodLink "BetweenStopsModel" 358 yX10_names ∈ xTB := xTB_in (sg_7 (List.mem_of_getElem? (i := 131) (by decide +kernel))) rfl
theorem kl_X10_362 : Cond.methodLink "BetweenStopsModel" 362 yX10_says ∈ xTB := xTB_in (sg_7 (List.mem_of_getElem? (i := 135) (by decide +kernel))) rfl
theorem kl_X10_319 : Cond.methodLink "BetweenStopsModel" 319 yX10_two ∈ xTB := xTB_in (sg_7 (List.mem_of_getElem? (i := 139) (by decide +kernel))) rfl
theorem kl_L_146 : Cond.methodLink "BetweenStopsLaw" 146 yX10_round ∈ xTB := xTB_in (sg_7 (List.mem_of_getElem? (i := 142) (by decide +kernel))) rfl
theorem kl_X10_370 : Cond.methodLink "BetweenStopsModel" 370 yX10_roundFrom ∈ xTB := xTB_in (sg_7 (List.mem_of_getElem? (i := 146) (by decide +kernel))) rfl
theorem kl_L_150 : Cond.methodLink "BetweenStopsLaw" 150 yX10_rest ∈ xTB := xTB_in (sg_7 (List.mem_of_getElem? (i := 151) (by decide +kernel))) rfl
theorem kl_L_154 : Cond.methodLink "BetweenStopsLaw" 154 yX10_asks ∈ xTB := xTB_in (sg_7 (List.mem_of_getElem? (i := 155) (by decide +kernel))) rfl
theorem kl_X10_376 : Cond.methodLink "BetweenStopsModel" 376 yX10_asksOf ∈ xTB := xTB_in (sg_7 (List.mem_of_getElem? (i := 159) (by decide +kernel))) rfl
theorem kl_X10_373 : Cond.methodLink "BetweenStopsModel" 373 yX10_within ∈ xTB := xTB_in (sg_7 (List.mem_of_getElem? (i := 163) (by decide +kernel))) rfl
theorem kl_L_158 : Cond.methodLink "BetweenStopsLaw" 158 yX10_asked ∈ xTB := xTB_in (sg_7 (List.mem_of_getElem? (i := 166) (by decide +kernel))) rfl
theorem kl_L_162 : Cond.methodLink "BetweenStopsLaw" 162 yX10_bunch ∈ xTB := xTB_in (sg_7 (List.mem_of_getElem? (i := 170) (by decide +kernel))) rfl
theorem kl_X10_383 : Cond.methodLink "BetweenStopsModel" 383 yX10_goesAll ∈ xTB := xTB_in (sg_7 (List.mem_of_getElem? (i := 174) (by decide +kernel))) rfl
theorem kl_X10_379 : Cond.methodLink "BetweenStopsModel" 379 yX10_goesBy ∈ xTB := xTB_in (sg_7 (List.mem_of_getElem? (i := 178) (by decide +kernel))) rfl
theorem kl_L_166 : Cond.methodLink "BetweenStopsLaw" 166 yX10_crowd ∈ xTB := xTB_in (sg_7 (List.mem_of_getElem? (i := 182) (by decide +kernel))) rfl
theorem kl_L_170 : Cond.methodLink "BetweenStopsLaw" 170 yX10_drawn ∈ xTB := xTB_in (sg_7 (List.mem_of_getElem? (i := 186) (by decide +kernel))) rfl
theorem kl_L_174 : Cond.methodLink "BetweenStopsLaw" 174 yX10_image ∈ xTB := xTB_in (sg_7 (List.mem_of_getElem? (i := 193) (by decide +kernel))) rfl
theorem kl_L_178 : Cond.methodLink "BetweenStopsLaw" 178 yX10_back ∈ xTB := xTB_in (sg_7 (List.mem_of_getElem? (i := 197) (by decide +kernel))) rfl
theorem kl_L_182 : Cond.methodLink "BetweenStopsLaw" 182 yX10_sheet ∈ xTB := xTB_in (sg_7 (List.mem_of_getElem? (i := 201) (by decide +kernel))) rfl
theorem kl_L_186 : Cond.methodLink "BetweenStopsLaw" 186 yX10_cell ∈ xTB := xTB_in (sg_7 (List.mem_of_getElem? (i := 205) (by decide +kernel))) rfl
theorem kl_L_191 : Cond.methodLink "BetweenStopsLaw" 191 yX10_copy ∈ xTB := xTB_in (sg_7 (List.mem_of_getElem? (i := 209) (by decide +kernel))) rfl
theorem kl_L_195 : Cond.methodLink "BetweenStopsLaw" 195 yX10_tripsBy ∈ xTB := xTB_in (sg_7 (List.mem_of_getElem? (i := 213) (by decide +kernel))) rfl
theorem kl_X10_412 : Cond.methodLink "BetweenStopsModel" 412 yX10_trip ∈ xTB := xTB_in (sg_7 (List.mem_of_getElem? (i := 217) (by decide +kernel))) rfl
theorem kl_L_199 : Cond.methodLink "BetweenStopsLaw" 199 yX10_taken ∈ xTB := xTB_in (sg_7 (List.mem_of_getElem? (i := 218) (by decide +kernel))) rfl
theorem kl_X10_416 : Cond.methodLink "BetweenStopsModel" 416 yX10_isUnder ∈ xTB := xTB_in (sg_7 (List.mem_of_getElem? (i := 222) (by decide +kernel))) rfl
theorem kn_X6_60 : Cond.methodLinkNest "BetweenStops$Town" 60 yX3_init "BetweenStops" ∈ xNw := List.mem_filter.mpr ⟨sg_1 (List.mem_of_getElem? (i := 47) (by decide +kernel)), rfl⟩
theorem kn_X6_61 : Cond.methodLinkNest "BetweenStops$Town" 61 yX7_init "BetweenStops" ∈ xNw := List.mem_filter.mpr ⟨sg_1 (List.mem_of_getElem? (i := 91) (by decide +kernel)), rfl⟩
theorem kn_X9_27 : Cond.methodLinkNest "BetweenStops" 27 yX4_init "BetweenStops" ∈ xNw := List.mem_filter.mpr ⟨sg_1 (List.mem_of_getElem? (i := 236) (by decide +kernel)), rfl⟩
theorem kn_X9_56 : Cond.methodLinkNest "BetweenStops" 56 yX0_init "BetweenStops" ∈ xNw := List.mem_filter.mpr ⟨sg_2 (List.mem_of_getElem? (i := 37) (by decide +kernel)), rfl⟩
theorem kn_X9_86 : Cond.methodLinkNest "BetweenStops" 86 yX5_init "BetweenStops" ∈ xNw := List.mem_filter.mpr ⟨sg_2 (List.mem_of_getElem? (i := 82) (by decide +kernel)), rfl⟩
theorem kn_X9_87 : Cond.methodLinkNest "BetweenStops" 87 yX2_init "BetweenStops" ∈ xNw := List.mem_filter.mpr ⟨sg_2 (List.mem_of_getElem? (i := 103) (by decide +kernel)), rfl⟩
theorem kn_X3_15 : Cond.methodLinkNest "BetweenStops$Stop" 15 yX9_isKind "BetweenStops" ∈ xNw := List.mem_filter.mpr ⟨sg_3 (List.mem_of_getElem? (i := 187) (by decide +kernel)), rfl⟩
theorem kn_X6_76 : Cond.methodLinkNest "BetweenStops$Town" 76 yX9_asNumber "BetweenStops" ∈ xNw := List.mem_filter.mpr ⟨sg_4 (List.mem_of_getElem? (i := 6) (by decide +kernel)), rfl⟩
theorem kn_X5_36 : Cond.methodLinkNest "BetweenStops$Text" 36 yX9_asNumber "BetweenStops" ∈ xNw := List.mem_filter.mpr ⟨sg_4 (List.mem_of_getElem? (i := 217) (by decide +kernel)), rfl⟩
theorem kg_X6_51 : Cond.fieldLinkNest "BetweenStops$Town" 51 "BetweenStops" "TRAITS_AT_FIRST" "[I" "BetweenStops" ∈ xNw := List.mem_filter.mpr ⟨sg_1 (List.mem_of_getElem? (i := 41) (by decide +kernel)), rfl⟩
theorem kg_X3_19 : Cond.fieldLinkNest "BetweenStops$Stop" 19 "BetweenStops" "KIND_ABOVE" "[I" "BetweenStops" ∈ xNw := List.mem_filter.mpr ⟨sg_3 (List.mem_of_getElem? (i := 188) (by decide +kernel)), rfl⟩
theorem ki_L : Cond.initialized "BetweenStopsLaw" ∈ xTB := xTB_in (sg_1 (List.mem_of_getElem? (i := 0) (by decide +kernel))) rfl
theorem ki_X9 : Cond.initialized "BetweenStops" ∈ xTB := xTB_in (sg_1 (List.mem_of_getElem? (i := 1) (by decide +kernel))) rfl
theorem ki_X6 : Cond.initialized "BetweenStops$Town" ∈ xTB := xTB_in (sg_1 (List.mem_of_getElem? (i := 2) (by decide +kernel))) rfl
theorem ki_J10 : Cond.initialized "java/lang/System" ∈ xTB := xTB_in (sg_1 (List.mem_of_getElem? (i := 3) (by decide +kernel))) rfl
theorem ki_X3 : Cond.initialized "BetweenStops$Stop" ∈ xTB := xTB_in (sg_1 (List.mem_of_getElem? (i := 4) (by decide +kernel))) rfl
theorem ki_X7 : Cond.initialized "BetweenStops$Trip" ∈ xTB := xTB_in (sg_1 (List.mem_of_getElem? (i := 5) (by decide +kernel))) rfl
theorem ki_X8 : Cond.initialized "BetweenStops$Ways" ∈ xTB := xTB_in (sg_1 (List.mem_of_getElem? (i := 6) (by decide +kernel))) rfl
theorem ki_X4 : Cond.initialized "BetweenStops$Tape" ∈ xTB := xTB_in (sg_1 (List.mem_of_getElem? (i := 7) (by decide +kernel))) rfl
theorem ki_X1 : Cond.initialized "BetweenStops$Reader" ∈ xTB := xTB_in (sg_1 (List.mem_of_getElem? (i := 8) (by decide +kernel))) rfl
theorem ki_X0 : Cond.initialized "BetweenStops$Image" ∈ xTB := xTB_in (sg_1 (List.mem_of_getElem? (i := 9) (by decide +kernel))) rfl
theorem ki_X5 : Cond.initialized "BetweenStops$Text" ∈ xTB := xTB_in (sg_1 (List.mem_of_getElem? (i := 10) (by decide +kernel))) rfl
theorem ki_X2 : Cond.initialized "BetweenStops$Sheet" ∈ xTB := xTB_in (sg_1 (List.mem_of_getElem? (i := 11) (by decide +kernel))) rfl
theorem ki_J0 : Cond.initialized "java/lang/String" ∈ xTB := xTB_in (sg_1 (List.mem_of_getElem? (i := 12) (by decide +kernel))) rfl
theorem ki_J1 : Cond.initialized "java/lang/StringLatin1" ∈ xTB := xTB_in (sg_1 (List.mem_of_getElem? (i := 13) (by decide +kernel))) rfl
theorem ki_J3 : Cond.initialized "jdk/internal/util/Preconditions" ∈ xTB := xTB_in (sg_1 (List.mem_of_getElem? (i := 14) (by decide +kernel))) rfl
theorem ki_J2 : Cond.initialized "java/lang/StringUTF16" ∈ xTB := xTB_in (sg_1 (List.mem_of_getElem? (i := 15) (by decide +kernel))) rfl
theorem ki_J9 : Cond.initialized "java/lang/Math" ∈ xTB := xTB_in (sg_1 (List.mem_of_getElem? (i := 16) (by decide +kernel))) rfl
theorem ki_J11 : Cond.initialized "java/lang/Character" ∈ xTB := xTB_in (sg_1 (List.mem_of_getElem? (i := 17) (by decide +kernel))) rfl
theorem ki_X10 : Cond.initialized "BetweenStopsModel" ∈ xTB := xTB_in (sg_1 (List.mem_of_getElem? (i := 18) (by decide +kernel))) rfl
theorem ki_J6 : Cond.initialized "java/lang/Integer" ∈ xTB := xTB_in (sg_1 (List.mem_of_getElem? (i := 19) (by decide +kernel))) rfl
theorem ki_J7 : Cond.initialized "java/util/Arrays" ∈ xTB := xTB_in (sg_1 (List.mem_of_getElem? (i := 20) (by decide +kernel))) rfl
theorem kc_X9_init : Cond.code yX9_init cX9_init 2 none ∈ xTB := xTB_in (sg_1 (List.mem_of_getElem? (i := 25) (by decide +kernel))) rfl
theorem mw_X9_init : xMw yX9_init cX9_init 2 none 0 := ⟨kc_X9_init, ki_X9, by decide, by decide, by decide +kernel⟩
theorem km_X9_init : Cond.instanceMethod yX9_init ∈ xTB := xTB_in (sg_1 (List.mem_of_getElem? (i := 24) (by decide +kernel))) rfl
theorem kc_X6_init : Cond.code yX6_init cX6_init 2 none ∈ xTB := xTB_in (sg_1 (List.mem_of_getElem? (i := 33) (by decide +kernel))) rfl
theorem mw_X6_init : xMw yX6_init cX6_init 2 none 0 := ⟨kc_X6_init, ki_X6, by decide, by decide, by decide +kernel⟩
theorem km_X6_init : Cond.instanceMethod yX6_init ∈ xTB := xTB_in (sg_1 (List.mem_of_getElem? (i := 32) (by decide +kernel))) rfl
theorem kc_X3_init : Cond.code yX3_init cX3_init 1 none ∈ xTB := xTB_in (sg_1 (List.mem_of_getElem? (i := 49) (by decide +kernel))) rfl
theorem mw_X3_init : xMw yX3_init cX3_init 1 none 0 := ⟨kc_X3_init, ki_X3, by decide, by decide, by decide +kernel⟩
theorem km_X3_init : Cond.instanceMethod yX3_init ∈ xTB := xTB_in (sg_1 (List.mem_of_getElem? (i := 48) (by decide +kernel))) rfl
theorem kc_X7_init : Cond.code yX7_init cX7_init 1 none ∈ xTB := xTB_in (sg_1 (List.mem_of_getElem? (i := 93) (by decide +kernel))) rfl
theorem mw_X7_init : xMw yX7_init cX7_init 1 none 0 := ⟨kc_X7_init, ki_X7, by decide, by decide, by decide +kernel⟩
theorem km_X7_init : Cond.instanceMethod yX7_init ∈ xTB := xTB_in (sg_1 (List.mem_of_getElem? (i := 92) (by decide +kernel))) rfl
theorem kc_X8_init : Cond.code yX8_init cX8_init 2 none ∈ xTB := xTB_in (sg_1 (List.mem_of_getElem? (i := 171) (by decide +kernel))) rfl
theorem mw_X8_init : xMw yX8_init cX8_init 2 none 1 := ⟨kc_X8_init, ki_X8, by decide, by decide, by decide +kernel⟩
theorem km_X8_init : Cond.instanceMethod yX8_init ∈ xTB := xTB_in (sg_1 (List.mem_of_getElem? (i := 170) (by decide +kernel))) rfl
theorem kc_X4_init : Cond.code yX4_init cX4_init 1 none ∈ xTB := xTB_in (sg_1 (List.mem_of_getElem? (i := 238) (by decide +kernel))) rfl
theorem mw_X4_init : xMw yX4_init cX4_init 1 none 0 := ⟨kc_X4_init, ki_X4, by decide, by decide, by decide +kernel⟩
theorem km_X4_init : Cond.instanceMethod yX4_init ∈ xTB := xTB_in (sg_1 (List.mem_of_getElem? (i := 237) (by decide +kernel))) rfl
theorem kc_X1_init : Cond.code yX1_init cX1_init 2 none ∈ xTB := xTB_in (sg_2 (List.mem_of_getElem? (i := 27) (by decide +kernel))) rfl
theorem mw_X1_init : xMw yX1_init cX1_init 2 none 1 := ⟨kc_X1_init, ki_X1, by decide, by decide, by decide +kernel⟩
theorem km_X1_init : Cond.instanceMethod yX1_init ∈ xTB := xTB_in (sg_2 (List.mem_of_getElem? (i := 26) (by decide +kernel))) rfl
theorem kc_X0_init : Cond.code yX0_init cX0_init 1 none ∈ xTB := xTB_in (sg_2 (List.mem_of_getElem? (i := 39) (by decide +kernel))) rfl
theorem mw_X0_init : xMw yX0_init cX0_init 1 none 0 := ⟨kc_X0_init, ki_X0, by decide, by decide, by decide +kernel⟩
theorem km_X0_init : Cond.instanceMethod yX0_init ∈ xTB := xTB_in (sg_2 (List.mem_of_getElem? (i := 38) (by decide +kernel))) rfl
theorem kc_X5_init : Cond.code yX5_init cX5_init 1 none ∈ xTB := xTB_in (sg_2 (List.mem_of_getElem? (i := 84) (by decide +kernel))) rfl
theorem mw_X5_init : xMw yX5_init cX5_init 1 none 0 := ⟨kc_X5_init, ki_X5, by decide, by decide, by decide +kernel⟩
theorem km_X5_init : Cond.instanceMethod yX5_init ∈ xTB := xTB_in (sg_2 (List.mem_of_getElem? (i := 83) (by decide +kernel))) rfl
theorem kc_X2_init : Cond.code yX2_init cX2_init 1 none ∈ xTB := xTB_in (sg_2 (List.mem_of_getElem? (i := 105) (by decide +kernel))) rfl
theorem mw_X2_init : xMw yX2_init cX2_init 1 none 0 := ⟨kc_X2_init, ki_X2, by decide, by decide, by decide +kernel⟩
theorem km_X2_init : Cond.instanceMethod yX2_init ∈ xTB := xTB_in (sg_2 (List.mem_of_getElem? (i := 104) (by decide +kernel))) rfl
theorem kc_J0_length_8abf5 : Cond.code yJ0_length_8abf5 cJ0_length_8abf5 1 (some .int) ∈ xTB := xTB_in (sg_2 (List.mem_of_getElem? (i := 124) (by decide +kernel))) rfl
theorem mw_J0_length_8abf5 : xMw yJ0_length_8abf5 cJ0_length_8abf5 1 (some .int) 0 := ⟨kc_J0_length_8abf5, ki_J0, by decide, by decide, by decide +kernel⟩
theorem km_J0_length_8abf5 : Cond.instanceMethod yJ0_length_8abf5 ∈ xTB := xTB_in (sg_2 (List.mem_of_getElem? (i := 122) (by decide +kernel))) rfl
theorem ke_J0_length_8abf5 : Cond.selects "java/lang/String" yJ0_length_8abf5 yJ0_length_8abf5 ∈ xTB := xTB_in (sg_2 (List.mem_of_getElem? (i := 123) (by decide +kernel))) rfl
theorem mv_J0_length_8abf5 : xMwV yJ0_length_8abf5 := ⟨km_J0_length_8abf5, ke_J0_length_8abf5⟩
theorem kc_J0_coder_7d493 : Cond.code yJ0_coder_7d493 cJ0_coder_7d493 1 (some .byte) ∈ xTB := xTB_in (sg_2 (List.mem_of_getElem? (i := 128) (by decide +kernel))) rfl
theorem mw_J0_coder_7d493 : xMw yJ0_coder_7d493 cJ0_coder_7d493 1 (some .byte) 0 := ⟨kc_J0_coder_7d493, ki_J0, by decide, by decide, by decide +kernel⟩
theorem km_J0_coder_7d493 : Cond.instanceMethod yJ0_coder_7d493 ∈ xTB := xTB_in (sg_2 (List.mem_of_getElem? (i := 126) (by decide +kernel))) rfl
theorem ke_J0_coder_7d493 : Cond.selects "java/lang/String" yJ0_coder_7d493 yJ0_coder_7d493 ∈ xTB := xTB_in (sg_2 (List.mem_of_getElem? (i := 127) (by decide +kernel))) rfl
theorem mv_J0_coder_7d493 : xMwV yJ0_coder_7d493 := ⟨km_J0_coder_7d493, ke_J0_coder_7d493⟩
theorem kc_J0_charAt_5068e : Cond.code yJ0_charAt_5068e cJ0_charAt_5068e 2 (some .char) ∈ xTB := xTB_in (sg_2 (List.mem_of_getElem? (i := 134) (by decide +kernel))) rfl
theorem mw_J0_charAt_5068e : xMw yJ0_charAt_5068e cJ0_charAt_5068e 2 (some .char) 1 := ⟨kc_J0_charAt_5068e, ki_J0, by decide, by decide, by decide +kernel⟩
theorem km_J0_charAt_5068e : Cond.instanceMethod yJ0_charAt_5068e ∈ xTB := xTB_in (sg_2 (List.mem_of_getElem? (i := 132) (by decide +kernel))) rfl
theorem ke_J0_charAt_5068e : Cond.selects "java/lang/String" yJ0_charAt_5068e yJ0_charAt_5068e ∈ xTB := xTB_in (sg_2 (List.mem_of_getElem? (i := 133) (by decide +kernel))) rfl
theorem mv_J0_charAt_5068e : xMwV yJ0_charAt_5068e := ⟨km_J0_charAt_5068e, ke_J0_charAt_5068e⟩
theorem kc_J0_isLatin1_aae02 : Cond.code yJ0_isLatin1_aae02 cJ0_isLatin1_aae02 1 (some .boolean) ∈ xTB := xTB_in (sg_2 (List.mem_of_getElem? (i := 138) (by decide +kernel))) rfl
theorem mw_J0_isLatin1_aae02 : xMw yJ0_isLatin1_aae02 cJ0_isLatin1_aae02 1 (some .boolean) 0 := ⟨kc_J0_isLatin1_aae02, ki_J0, by decide, by decide, by decide +kernel⟩
theorem km_J0_isLatin1_aae02 : Cond.instanceMethod yJ0_isLatin1_aae02 ∈ xTB := xTB_in (sg_2 (List.mem_of_getElem? (i := 136) (by decide +kernel))) rfl
theorem ke_J0_isLatin1_aae02 : Cond.selects "java/lang/String" yJ0_isLatin1_aae02 yJ0_isLatin1_aae02 ∈ xTB := xTB_in (sg_2 (List.mem_of_getElem? (i := 137) (by decide +kernel))) rfl
theorem mv_J0_isLatin1_aae02 : xMwV yJ0_isLatin1_aae02 := ⟨km_J0_isLatin1_aae02, ke_J0_isLatin1_aae02⟩
theorem kc_J1_charAt_3b067 : Cond.code yJ1_charAt_3b067 cJ1_charAt_3b067 2 (some .char) ∈ xTB := xTB_in (sg_2 (List.mem_of_getElem? (i := 141) (by decide +kernel))) rfl
theorem mw_J1_charAt_3b067 : xMw yJ1_charAt_3b067 cJ1_charAt_3b067 2 (some .char) 2 := ⟨kc_J1_charAt_3b067, ki_J1, by decide, by decide, by decide +kernel⟩
theorem ks_J1_charAt_3b067 : Cond.static yJ1_charAt_3b067 ∈ xTB := xTB_in (sg_2 (List.mem_of_getElem? (i := 140) (by decide +kernel))) rfl
theorem kc_J0_checkIndex_df160 : Cond.code yJ0_checkIndex_df160 cJ0_checkIndex_df160 2 none ∈ xTB := xTB_in (sg_2 (List.mem_of_getElem? (i := 144) (by decide +kernel))) rfl
theorem mw_J0_checkIndex_df160 : xMw yJ0_checkIndex_df160 cJ0_checkIndex_df160 2 none 2 := ⟨kc_J0_checkIndex_df160, ki_J0, by decide, by decide, by decide +kernel⟩
theorem ks_J0_checkIndex_df160 : Cond.static yJ0_checkIndex_df160 ∈ xTB := xTB_in (sg_2 (List.mem_of_getElem? (i := 143) (by decide +kernel))) rfl
theorem kc_J3_checkIndex_8e157 : Cond.code yJ3_checkIndex_8e157 cJ3_checkIndex_8e157 3 (some .int) ∈ xTB := xTB_in (sg_2 (List.mem_of_getElem? (i := 149) (by decide +kernel))) rfl
theorem mw_J3_checkIndex_8e157 : xMw yJ3_checkIndex_8e157 cJ3_checkIndex_8e157 3 (some .int) 3 := ⟨kc_J3_checkIndex_8e157, ki_J3, by decide, by decide, by decide +kernel⟩
theorem ks_J3_checkIndex_8e157 : Cond.static yJ3_checkIndex_8e157 ∈ xTB := xTB_in (sg_2 (List.mem_of_getElem? (i := 148) (by decide +kernel))) rfl
theorem kc_J2_charAt_3b067 : Cond.code yJ2_charAt_3b067 cJ2_charAt_3b067 2 (some .char) ∈ xTB := xTB_in (sg_2 (List.mem_of_getElem? (i := 152) (by decide +kernel))) rfl
theorem mw_J2_charAt_3b067 : xMw yJ2_charAt_3b067 cJ2_charAt_3b067 2 (some .char) 2 := ⟨kc_J2_charAt_3b067, ki_J2, by decide, by decide, by decide +kernel⟩
theorem ks_J2_charAt_3b067 : Cond.static yJ2_charAt_3b067 ∈ xTB := xTB_in (sg_2 (List.mem_of_getElem? (i := 151) (by decide +kernel))) rfl
theorem kc_J2_checkIndex_2214a : Cond.code yJ2_checkIndex_2214a cJ2_checkIndex_2214a 2 none ∈ xTB := xTB_in (sg_2 (List.mem_of_getElem? (i := 155) (by decide +kernel))) rfl
theorem mw_J2_checkIndex_2214a : xMw yJ2_checkIndex_2214a cJ2_checkIndex_2214a 2 none 2 := ⟨kc_J2_checkIndex_2214a, ki_J2, by decide, by decide, by decide +kernel⟩
theorem ks_J2_checkIndex_2214a : Cond.static yJ2_checkIndex_2214a ∈ xTB := xTB_in (sg_2 (List.mem_of_getElem? (i := 154) (by decide +kernel))) rfl
theorem kc_J2_length_9d52b : Cond.code yJ2_length_9d52b cJ2_length_9d52b 1 (some .int) ∈ xTB := xTB_in (sg_2 (List.mem_of_getElem? (i := 158) (by decide +kernel))) rfl
theorem mw_J2_length_9d52b : xMw yJ2_length_9d52b cJ2_length_9d52b 1 (some .int) 1 := ⟨kc_J2_length_9d52b, ki_J2, by decide, by decide, by decide +kernel⟩
theorem ks_J2_length_9d52b : Cond.static yJ2_length_9d52b ∈ xTB := xTB_in (sg_2 (List.mem_of_getElem? (i := 157) (by decide +kernel))) rfl
theorem kc_J2_getChar_3b067 : Cond.code yJ2_getChar_3b067 cJ2_getChar_3b067 2 (some .char) ∈ xTB := xTB_in (sg_2 (List.mem_of_getElem? (i := 162) (by decide +kernel))) rfl
theorem mw_J2_getChar_3b067 : xMw yJ2_getChar_3b067 cJ2_getChar_3b067 2 (some .char) 2 := ⟨kc_J2_getChar_3b067, ki_J2, by decide, by decide, by decide +kernel⟩
theorem ks_J2_getChar_3b067 : Cond.static yJ2_getChar_3b067 ∈ xTB := xTB_in (sg_2 (List.mem_of_getElem? (i := 161) (by decide +kernel))) rfl
theorem kc_X4_append : Cond.code yX4_append cX4_append 2 none ∈ xTB := xTB_in (sg_2 (List.mem_of_getElem? (i := 172) (by decide +kernel))) rfl
theorem mw_X4_append : xMw yX4_append cX4_append 2 none 1 := ⟨kc_X4_append, ki_X4, by decide, by decide, by decide +kernel⟩
theorem km_X4_append : Cond.instanceMethod yX4_append ∈ xTB := xTB_in (sg_2 (List.mem_of_getElem? (i := 170) (by decide +kernel))) rfl
theorem ke_X4_append : Cond.selects "BetweenStops$Tape" yX4_append yX4_append ∈ xTB := xTB_in (sg_2 (List.mem_of_getElem? (i := 171) (by decide +kernel))) rfl
theorem mv_X4_append : xMwV yX4_append := ⟨km_X4_append, ke_X4_append⟩
theorem kc_X1_faultOf : Cond.code yX1_faultOf cX1_faultOf 3 (some .int) ∈ xTB := xTB_in (sg_2 (List.mem_of_getElem? (i := 176) (by decide +kernel))) rfl
theorem mw_X1_faultOf : xMw yX1_faultOf cX1_faultOf 3 (some .int) 1 := ⟨kc_X1_faultOf, ki_X1, by decide, by decide, by decide +kernel⟩
theorem km_X1_faultOf : Cond.instanceMethod yX1_faultOf ∈ xTB := xTB_in (sg_2 (List.mem_of_getElem? (i := 174) (by decide +kernel))) rfl
theorem ke_X1_faultOf : Cond.selects "BetweenStops$Reader" yX1_faultOf yX1_faultOf ∈ xTB := xTB_in (sg_2 (List.mem_of_getElem? (i := 175) (by decide +kernel))) rfl
theorem mv_X1_faultOf : xMwV yX1_faultOf := ⟨km_X1_faultOf, ke_X1_faultOf⟩
theorem kc_X5_clear : Cond.code yX5_clear cX5_clear 1 none ∈ xTB := xTB_in (sg_2 (List.mem_of_getElem? (i := 180) (by decide +kernel))) rfl
theorem mw_X5_clear : xMw yX5_clear cX5_clear 1 none 0 := ⟨kc_X5_clear, ki_X5, by decide, by decide, by decide +kernel⟩
theorem km_X5_clear : Cond.instanceMethod yX5_clear ∈ xTB := xTB_in (sg_2 (List.mem_of_getElem? (i := 178) (by decide +kernel))) rfl
theorem ke_X5_clear : Cond.selects "BetweenStops$Text" yX5_clear yX5_clear ∈ xTB := xTB_in (sg_2 (List.mem_of_getElem? (i := 179) (by decide +kernel))) rfl
theorem mv_X5_clear : xMwV yX5_clear := ⟨km_X5_clear, ke_X5_clear⟩
theorem kc_X4_rewind : Cond.code yX4_rewind cX4_rewind 1 none ∈ xTB := xTB_in (sg_2 (List.mem_of_getElem? (i := 184) (by decide +kernel))) rfl
theorem mw_X4_rewind : xMw yX4_rewind cX4_rewind 1 none 0 := ⟨kc_X4_rewind, ki_X4, by decide, by decide, by decide +kernel⟩
theorem km_X4_rewind : Cond.instanceMethod yX4_rewind ∈ xTB := xTB_in (sg_2 (List.mem_of_getElem? (i := 182) (by decide +kernel))) rfl
theorem ke_X4_rewind : Cond.selects "BetweenStops$Tape" yX4_rewind yX4_rewind ∈ xTB := xTB_in (sg_2 (List.mem_of_getElem? (i := 183) (by decide +kernel))) rfl
theorem mv_X4_rewind : xMwV yX4_rewind := ⟨km_X4_rewind, ke_X4_rewind⟩
theorem kc_X4_advance : Cond.code yX4_advance cX4_advance 1 none ∈ xTB := xTB_in (sg_2 (List.mem_of_getElem? (i := 188) (by decide +kernel))) rfl
theorem mw_X4_advance : xMw yX4_advance cX4_advance 1 none 0 := ⟨kc_X4_advance, ki_X4, by decide, by decide, by decide +kernel⟩
theorem km_X4_advance : Cond.instanceMethod yX4_advance ∈ xTB := xTB_in (sg_2 (List.mem_of_getElem? (i := 186) (by decide +kernel))) rfl
theorem ke_X4_advance : Cond.selects "BetweenStops$Tape" yX4_advance yX4_advance ∈ xTB := xTB_in (sg_2 (List.mem_of_getElem? (i := 187) (by decide +kernel))) rfl
theorem mv_X4_advance : xMwV yX4_advance := ⟨km_X4_advance, ke_X4_advance⟩
theorem kc_X4_isBlank : Cond.code yX4_isBlank cX4_isBlank 1 (some .boolean) ∈ xTB := xTB_in (sg_2 (List.mem_of_getElem? (i := 191) (by decide +kernel))) rfl
theorem mw_X4_isBlank : xMw yX4_isBlank cX4_isBlank 1 (some .boolean) 1 := ⟨kc_X4_isBlank, ki_X4, by decide, by decide, by decide +kernel⟩
theorem ks_X4_isBlank : Cond.static yX4_isBlank ∈ xTB := xTB_in (sg_2 (List.mem_of_getElem? (i := 190) (by decide +kernel))) rfl
theorem kc_X4_isLetter : Cond.code yX4_isLetter cX4_isLetter 1 (some .boolean) ∈ xTB := xTB_in (sg_2 (List.mem_of_getElem? (i := 194) (by decide +kernel))) rfl
theorem mw_X4_isLetter : xMw yX4_isLetter cX4_isLetter 1 (some .boolean) 1 := ⟨kc_X4_isLetter, ki_X4, by decide, by decide, by decide +kernel⟩
theorem ks_X4_isLetter : Cond.static yX4_isLetter ∈ xTB := xTB_in (sg_2 (List.mem_of_getElem? (i := 193) (by decide +kernel))) rfl
theorem kc_X4_readWord : Cond.code yX4_readWord cX4_readWord 2 none ∈ xTB := xTB_in (sg_2 (List.mem_of_getElem? (i := 198) (by decide +kernel))) rfl
theorem mw_X4_readWord : xMw yX4_readWord cX4_readWord 2 none 0 := ⟨kc_X4_readWord, ki_X4, by decide, by decide, by decide +kernel⟩
theorem km_X4_readWord : Cond.instanceMethod yX4_readWord ∈ xTB := xTB_in (sg_2 (List.mem_of_getElem? (i := 197) (by decide +kernel))) rfl
theorem ke_X4_readWord : Cond.selects "BetweenStops$Tape" yX4_readWord yX4_readWord ∈ xTB := xTB_in (sg_0 (List.mem_of_getElem? (i := 0) (by decide +kernel))) rfl
theorem mv_X4_readWord : xMwV yX4_readWord := ⟨km_X4_readWord, ke_X4_readWord⟩
theorem kc_X4_isWord : Cond.code yX4_isWord cX4_isWord 3 (some .boolean) ∈ xTB := xTB_in (sg_2 (List.mem_of_getElem? (i := 203) (by decide +kernel))) rfl
theorem mw_X4_isWord : xMw yX4_isWord cX4_isWord 3 (some .boolean) 1 := ⟨kc_X4_isWord, ki_X4, by decide, by decide, by decide +kernel⟩
theorem km_X4_isWord : Cond.instanceMethod yX4_isWord ∈ xTB := xTB_in (sg_2 (List.mem_of_getElem? (i := 202) (by decide +kernel))) rfl
theorem ke_X4_isWord : Cond.selects "BetweenStops$Tape" yX4_isWord yX4_isWord ∈ xTB := xTB_in (sg_0 (List.mem_of_getElem? (i := 1) (by decide +kernel))) rfl
theorem mv_X4_isWord : xMwV yX4_isWord := ⟨km_X4_isWord, ke_X4_isWord⟩
theorem kc_X4_isDigit : Cond.code yX4_isDigit cX4_isDigit 1 (some .boolean) ∈ xTB := xTB_in (sg_2 (List.mem_of_getElem? (i := 219) (by decide +kernel))) rfl
theorem mw_X4_isDigit : xMw yX4_isDigit cX4_isDigit 1 (some .boolean) 1 := ⟨kc_X4_isDigit, ki_X4, by decide, by decide, by decide +kernel⟩
theorem ks_X4_isDigit : Cond.static yX4_isDigit ∈ xTB := xTB_in (sg_2 (List.mem_of_getElem? (i := 218) (by decide +kernel))) rfl
theorem kc_X4_readNumber : Cond.code yX4_readNumber cX4_readNumber 1 none ∈ xTB := xTB_in (sg_2 (List.mem_of_getElem? (i := 223) (by decide +kernel))) rfl
theorem mw_X4_readNumber : xMw yX4_readNumber cX4_readNumber 1 none 0 := ⟨kc_X4_readNumber, ki_X4, by decide, by decide, by decide +kernel⟩
theorem km_X4_readNumber : Cond.instanceMethod yX4_readNumber ∈ xTB := xTB_in (sg_2 (List.mem_of_getElem? (i := 222) (by decide +kernel))) rfl
theorem ke_X4_readNumber : Cond.selects "BetweenStops$Tape" yX4_readNumber yX4_readNumber ∈ xTB := xTB_in (sg_0 (List.mem_of_getElem? (i := 2) (by decide +kernel))) rfl
theorem mv_X4_readNumber : xMwV yX4_readNumber := ⟨km_X4_readNumber, ke_X4_readNumber⟩
theorem kc_J0_indexOf_0f7a4 : Cond.code yJ0_indexOf_0f7a4 cJ0_indexOf_0f7a4 2 (some .int) ∈ xTB := xTB_in (sg_2 (List.mem_of_getElem? (i := 228) (by decide +kernel))) rfl
theorem mw_J0_indexOf_0f7a4 : xMw yJ0_indexOf_0f7a4 cJ0_indexOf_0f7a4 2 (some .int) 1 := ⟨kc_J0_indexOf_0f7a4, ki_J0, by decide, by decide, by decide +kernel⟩
theorem km_J0_indexOf_0f7a4 : Cond.instanceMethod yJ0_indexOf_0f7a4 ∈ xTB := xTB_in (sg_2 (List.mem_of_getElem? (i := 226) (by decide +kernel))) rfl
theorem ke_J0_indexOf_0f7a4 : Cond.selects "java/lang/String" yJ0_indexOf_0f7a4 yJ0_indexOf_0f7a4 ∈ xTB := xTB_in (sg_2 (List.mem_of_getElem? (i := 227) (by decide +kernel))) rfl
theorem mv_J0_indexOf_0f7a4 : xMwV yJ0_indexOf_0f7a4 := ⟨km_J0_indexOf_0f7a4, ke_J0_indexOf_0f7a4⟩
theorem kc_J0_indexOf_7cf53 : Cond.code yJ0_indexOf_7cf53 cJ0_indexOf_7cf53 3 (some .int) ∈ xTB := xTB_in (sg_2 (List.mem_of_getElem? (i := 232) (by decide +kernel))) rfl
theorem mw_J0_indexOf_7cf53 : xMw yJ0_indexOf_7cf53 cJ0_indexOf_7cf53 3 (some .int) 2 := ⟨kc_J0_indexOf_7cf53, ki_J0, by decide, by decide, by decide +kernel⟩
theorem km_J0_indexOf_7cf53 : Cond.instanceMethod yJ0_indexOf_7cf53 ∈ xTB := xTB_in (sg_2 (List.mem_of_getElem? (i := 230) (by decide +kernel))) rfl
theorem ke_J0_indexOf_7cf53 : Cond.selects "java/lang/String" yJ0_indexOf_7cf53 yJ0_indexOf_7cf53 ∈ xTB := xTB_in (sg_2 (List.mem_of_getElem? (i := 231) (by decide +kernel))) rfl
theorem mv_J0_indexOf_7cf53 : xMwV yJ0_indexOf_7cf53 := ⟨km_J0_indexOf_7cf53, ke_J0_indexOf_7cf53⟩
theorem kc_J1_indexOf_4cfef : Cond.code yJ1_indexOf_4cfef cJ1_indexOf_4cfef 4 (some .int) ∈ xTB := xTB_in (sg_2 (List.mem_of_getElem? (i := 236) (by decide +kernel))) rfl
theorem mw_J1_indexOf_4cfef : xMw yJ1_indexOf_4cfef cJ1_indexOf_4cfef 4 (some .int) 4 := ⟨kc_J1_indexOf_4cfef, ki_J1, by decide, by decide, by decide +kernel⟩
theorem ks_J1_indexOf_4cfef : Cond.static yJ1_indexOf_4cfef ∈ xTB := xTB_in (sg_2 (List.mem_of_getElem? (i := 235) (by decide +kernel))) rfl
theorem kc_J1_canEncode_9a6ad : Cond.code yJ1_canEncode_9a6ad cJ1_canEncode_9a6ad 1 (some .boolean) ∈ xTB := xTB_in (sg_2 (List.mem_of_getElem? (i := 239) (by decide +kernel))) rfl
theorem mw_J1_canEncode_9a6ad : xMw yJ1_canEncode_9a6ad cJ1_canEncode_9a6ad 1 (some .boolean) 1 := ⟨kc_J1_canEncode_9a6ad, ki_J1, by decide, by decide, by decide +kernel⟩
theorem ks_J1_canEncode_9a6ad : Cond.static yJ1_canEncode_9a6ad ∈ xTB := xTB_in (sg_2 (List.mem_of_getElem? (i := 238) (by decide +kernel))) rfl
theorem kc_max : Cond.code Lib.Math.max.name Lib.Math.max.code 2 (some .int) ∈ xTB := xTB_in (sg_3 (List.mem_of_getElem? (i := 2) (by decide +kernel))) rfl
theorem ks_max : Cond.static Lib.Math.max.name ∈ xTB := xTB_in (sg_3 (List.mem_of_getElem? (i := 1) (by decide +kernel))) rfl
theorem kc_min : Cond.code Lib.Math.min.name Lib.Math.min.code 2 (some .int) ∈ xTB := xTB_in (sg_3 (List.mem_of_getElem? (i := 5) (by decide +kernel))) rfl
theorem ks_min : Cond.static Lib.Math.min.name ∈ xTB := xTB_in (sg_3 (List.mem_of_getElem? (i := 4) (by decide +kernel))) rfl
theorem kc_J1_indexOfChar_4cfef : Cond.code yJ1_indexOfChar_4cfef cJ1_indexOfChar_4cfef 6 (some .int) ∈ xTB := xTB_in (sg_3 (List.mem_of_getElem? (i := 8) (by decide +kernel))) rfl
theorem mw_J1_indexOfChar_4cfef : xMw yJ1_indexOfChar_4cfef cJ1_indexOfChar_4cfef 6 (some .int) 4 := ⟨kc_J1_indexOfChar_4cfef, ki_J1, by decide, by decide, by decide +kernel⟩
theorem ks_J1_indexOfChar_4cfef : Cond.static yJ1_indexOfChar_4cfef ∈ xTB := xTB_in (sg_3 (List.mem_of_getElem? (i := 7) (by decide +kernel))) rfl
theorem kc_J2_indexOf_4cfef : Cond.code yJ2_indexOf_4cfef cJ2_indexOf_4cfef 4 (some .int) ∈ xTB := xTB_in (sg_3 (List.mem_of_getElem? (i := 11) (by decide +kernel))) rfl
theorem mw_J2_indexOf_4cfef : xMw yJ2_indexOf_4cfef cJ2_indexOf_4cfef 4 (some .int) 4 := ⟨kc_J2_indexOf_4cfef, ki_J2, by decide, by decide, by decide +kernel⟩
theorem ks_J2_indexOf_4cfef : Cond.static yJ2_indexOf_4cfef ∈ xTB := xTB_in (sg_3 (List.mem_of_getElem? (i := 10) (by decide +kernel))) rfl
theorem kc_J2_indexOfChar_4cfef : Cond.code yJ2_indexOfChar_4cfef cJ2_indexOfChar_4cfef 4 (some .int) ∈ xTB := xTB_in (sg_3 (List.mem_of_getElem? (i := 17) (by decide +kernel))) rfl
theorem mw_J2_indexOfChar_4cfef : xMw yJ2_indexOfChar_4cfef cJ2_indexOfChar_4cfef 4 (some .int) 4 := ⟨kc_J2_indexOfChar_4cfef, ki_J2, by decide, by decide, by decide +kernel⟩
theorem ks_J2_indexOfChar_4cfef : Cond.static yJ2_indexOfChar_4cfef ∈ xTB := xTB_in (sg_3 (List.mem_of_getElem? (i := 16) (by decide +kernel))) rfl
theorem kc_J2_checkBoundsBeginEnd_d044e : Cond.code yJ2_checkBoundsBeginEnd_d044e cJ2_checkBoundsBeginEnd_d044e 3 none ∈ xTB := xTB_in (sg_3 (List.mem_of_getElem? (i := 20) (by decide +kernel))) rfl
theorem mw_J2_checkBoundsBeginEnd_d044e : xMw yJ2_checkBoundsBeginEnd_d044e cJ2_checkBoundsBeginEnd_d044e 3 none 3 := ⟨kc_J2_checkBoundsBeginEnd_d044e, ki_J2, by decide, by decide, by decide +kernel⟩
theorem ks_J2_checkBoundsBeginEnd_d044e : Cond.static yJ2_checkBoundsBeginEnd_d044e ∈ xTB := xTB_in (sg_3 (List.mem_of_getElem? (i := 19) (by decide +kernel))) rfl
theorem kc_J0_checkBoundsBeginEnd_23922 : Cond.code yJ0_checkBoundsBeginEnd_23922 cJ0_checkBoundsBeginEnd_23922 3 none ∈ xTB := xTB_in (sg_3 (List.mem_of_getElem? (i := 23) (by decide +kernel))) rfl
theorem mw_J0_checkBoundsBeginEnd_23922 : xMw yJ0_checkBoundsBeginEnd_23922 cJ0_checkBoundsBeginEnd_23922 3 none 3 := ⟨kc_J0_checkBoundsBeginEnd_23922, ki_J0, by decide, by decide, by decide +kernel⟩
theorem ks_J0_checkBoundsBeginEnd_23922 : Cond.static yJ0_checkBoundsBeginEnd_23922 ∈ xTB := xTB_in (sg_3 (List.mem_of_getElem? (i := 22) (by decide +kernel))) rfl
theorem kc_J3_checkFromToIndex_8c36e : Cond.code yJ3_checkFromToIndex_8c36e cJ3_checkFromToIndex_8c36e 4 (some .int) ∈ xTB := xTB_in (sg_3 (List.mem_of_getElem? (i := 26) (by decide +kernel))) rfl
theorem mw_J3_checkFromToIndex_8c36e : xMw yJ3_checkFromToIndex_8c36e cJ3_checkFromToIndex_8c36e 4 (some .int) 4 := ⟨kc_J3_checkFromToIndex_8c36e, ki_J3, by decide, by decide, by decide +kernel⟩
theorem ks_J3_checkFromToIndex_8c36e : Cond.static yJ3_checkFromToIndex_8c36e ∈ xTB := xTB_in (sg_3 (List.mem_of_getElem? (i := 25) (by decide +kernel))) rfl
theorem kc_J2_indexOfCharUnsafe_4cfef : Cond.code yJ2_indexOfCharUnsafe_4cfef cJ2_indexOfCharUnsafe_4cfef 5 (some .int) ∈ xTB := xTB_in (sg_3 (List.mem_of_getElem? (i := 29) (by decide +kernel))) rfl
theorem mw_J2_indexOfCharUnsafe_4cfef : xMw yJ2_indexOfCharUnsafe_4cfef cJ2_indexOfCharUnsafe_4cfef 5 (some .int) 4 := ⟨kc_J2_indexOfCharUnsafe_4cfef, ki_J2, by decide, by decide, by decide +kernel⟩
theorem ks_J2_indexOfCharUnsafe_4cfef : Cond.static yJ2_indexOfCharUnsafe_4cfef ∈ xTB := xTB_in (sg_3 (List.mem_of_getElem? (i := 28) (by decide +kernel))) rfl
theorem kc_J2_indexOfSupplementary_4cfef : Cond.code yJ2_indexOfSupplementary_4cfef cJ2_indexOfSupplementary_4cfef 7 (some .int) ∈ xTB := xTB_in (sg_3 (List.mem_of_getElem? (i := 32) (by decide +kernel))) rfl
theorem mw_J2_indexOfSupplementary_4cfef : xMw yJ2_indexOfSupplementary_4cfef cJ2_indexOfSupplementary_4cfef 7 (some .int) 4 := ⟨kc_J2_indexOfSupplementary_4cfef, ki_J2, by decide, by decide, by decide +kernel⟩
theorem ks_J2_indexOfSupplementary_4cfef : Cond.static yJ2_indexOfSupplementary_4cfef ∈ xTB := xTB_in (sg_3 (List.mem_of_getElem? (i := 31) (by decide +kernel))) rfl
theorem kc_J11_isValidCodePoint_9a6ad : Cond.code yJ11_isValidCodePoint_9a6ad cJ11_isValidCodePoint_9a6ad 2 (some .boolean) ∈ xTB := xTB_in (sg_3 (List.mem_of_getElem? (i := 35) (by decide +kernel))) rfl
theorem mw_J11_isValidCodePoint_9a6ad : xMw yJ11_isValidCodePoint_9a6ad cJ11_isValidCodePoint_9a6ad 2 (some .boolean) 1 := ⟨kc_J11_isValidCodePoint_9a6ad, ki_J11, by decide, by decide, by decide +kernel⟩
theorem ks_J11_isValidCodePoint_9a6ad : Cond.static yJ11_isValidCodePoint_9a6ad ∈ xTB := xTB_in (sg_3 (List.mem_of_getElem? (i := 34) (by decide +kernel))) rfl
theorem kc_J11_highSurrogate_5068e : Cond.code yJ11_highSurrogate_5068e cJ11_highSurrogate_5068e 1 (some .char) ∈ xTB := xTB_in (sg_3 (List.mem_of_getElem? (i := 38) (by decide +kernel))) rfl
theorem mw_J11_highSurrogate_5068e : xMw yJ11_highSurrogate_5068e cJ11_highSurrogate_5068e 1 (some .char) 1 := ⟨kc_J11_highSurrogate_5068e, ki_J11, by decide, by decide, by decide +kernel⟩
theorem ks_J11_highSurrogate_5068e : Cond.static yJ11_highSurrogate_5068e ∈ xTB := xTB_in (sg_3 (List.mem_of_getElem? (i := 37) (by decide +kernel))) rfl
theorem kc_J11_lowSurrogate_5068e : Cond.code yJ11_lowSurrogate_5068e cJ11_lowSurrogate_5068e 1 (some .char) ∈ xTB := xTB_in (sg_3 (List.mem_of_getElem? (i := 42) (by decide +kernel))) rfl
theorem mw_J11_lowSurrogate_5068e : xMw yJ11_lowSurrogate_5068e cJ11_lowSurrogate_5068e 1 (some .char) 1 := ⟨kc_J11_lowSurrogate_5068e, ki_J11, by decide, by decide, by decide +kernel⟩
theorem ks_J11_lowSurrogate_5068e : Cond.static yJ11_lowSurrogate_5068e ∈ xTB := xTB_in (sg_3 (List.mem_of_getElem? (i := 41) (by decide +kernel))) rfl
theorem kc_X1_passes : Cond.code yX1_passes cX1_passes 2 (some .boolean) ∈ xTB := xTB_in (sg_3 (List.mem_of_getElem? (i := 47) (by decide +kernel))) rfl
theorem mw_X1_passes : xMw yX1_passes cX1_passes 2 (some .boolean) 1 := ⟨kc_X1_passes, ki_X1, by decide, by decide, by decide +kernel⟩
theorem km_X1_passes : Cond.instanceMethod yX1_passes ∈ xTB := xTB_in (sg_3 (List.mem_of_getElem? (i := 46) (by decide +kernel))) rfl
theorem ke_X1_passes : Cond.selects "BetweenStops$Reader" yX1_passes yX1_passes ∈ xTB := xTB_in (sg_0 (List.mem_of_getElem? (i := 3) (by decide +kernel))) rfl
theorem mv_X1_passes : xMwV yX1_passes := ⟨km_X1_passes, ke_X1_passes⟩
theorem kc_X1_readLevel : Cond.code yX1_readLevel cX1_readLevel 7 (some .boolean) ∈ xTB := xTB_in (sg_3 (List.mem_of_getElem? (i := 52) (by decide +kernel))) rfl
theorem mw_X1_readLevel : xMw yX1_readLevel cX1_readLevel 7 (some .boolean) 3 := ⟨kc_X1_readLevel, ki_X1, by decide, by decide, by decide +kernel⟩
theorem km_X1_readLevel : Cond.instanceMethod yX1_readLevel ∈ xTB := xTB_in (sg_3 (List.mem_of_getElem? (i := 51) (by decide +kernel))) rfl
theorem ke_X1_readLevel : Cond.selects "BetweenStops$Reader" yX1_readLevel yX1_readLevel ∈ xTB := xTB_in (sg_0 (List.mem_of_getElem? (i := 4) (by decide +kernel))) rfl
theorem mv_X1_readLevel : xMwV yX1_readLevel := ⟨km_X1_readLevel, ke_X1_readLevel⟩
theorem kc_X1_readOne : Cond.code yX1_readOne cX1_readOne 3 (some .boolean) ∈ xTB := xTB_in (sg_3 (List.mem_of_getElem? (i := 56) (by decide +kernel))) rfl
theorem mw_X1_readOne : xMw yX1_readOne cX1_readOne 3 (some .boolean) 2 := ⟨kc_X1_readOne, ki_X1, by decide, by decide, by decide +kernel⟩
theorem km_X1_readOne : Cond.instanceMethod yX1_readOne ∈ xTB := xTB_in (sg_3 (List.mem_of_getElem? (i := 55) (by decide +kernel))) rfl
theorem ke_X1_readOne : Cond.selects "BetweenStops$Reader" yX1_readOne yX1_readOne ∈ xTB := xTB_in (sg_0 (List.mem_of_getElem? (i := 5) (by decide +kernel))) rfl
theorem mv_X1_readOne : xMwV yX1_readOne := ⟨km_X1_readOne, ke_X1_readOne⟩
theorem kc_X5_addNumber : Cond.code yX5_addNumber cX5_addNumber 2 none ∈ xTB := xTB_in (sg_3 (List.mem_of_getElem? (i := 60) (by decide +kernel))) rfl
theorem mw_X5_addNumber : xMw yX5_addNumber cX5_addNumber 2 none 1 := ⟨kc_X5_addNumber, ki_X5, by decide, by decide, by decide +kernel⟩
theorem km_X5_addNumber : Cond.instanceMethod yX5_addNumber ∈ xTB := xTB_in (sg_3 (List.mem_of_getElem? (i := 58) (by decide +kernel))) rfl
theorem ke_X5_addNumber : Cond.selects "BetweenStops$Text" yX5_addNumber yX5_addNumber ∈ xTB := xTB_in (sg_3 (List.mem_of_getElem? (i := 59) (by decide +kernel))) rfl
theorem mv_X5_addNumber : xMwV yX5_addNumber := ⟨km_X5_addNumber, ke_X5_addNumber⟩
theorem kc_X5_add : Cond.code yX5_add cX5_add 2 none ∈ xTB := xTB_in (sg_3 (List.mem_of_getElem? (i := 64) (by decide +kernel))) rfl
theorem mw_X5_add : xMw yX5_add cX5_add 2 none 1 := ⟨kc_X5_add, ki_X5, by decide, by decide, by decide +kernel⟩
theorem km_X5_add : Cond.instanceMethod yX5_add ∈ xTB := xTB_in (sg_3 (List.mem_of_getElem? (i := 63) (by decide +kernel))) rfl
theorem ke_X5_add : Cond.selects "BetweenStops$Text" yX5_add yX5_add ∈ xTB := xTB_in (sg_0 (List.mem_of_getElem? (i := 6) (by decide +kernel))) rfl
theorem mv_X5_add : xMwV yX5_add := ⟨km_X5_add, ke_X5_add⟩
theorem kc_X5_addName : Cond.code yX5_addName cX5_addName 2 none ∈ xTB := xTB_in (sg_3 (List.mem_of_getElem? (i := 68) (by decide +kernel))) rfl
theorem mw_X5_addName : xMw yX5_addName cX5_addName 2 none 1 := ⟨kc_X5_addName, ki_X5, by decide, by decide, by decide +kernel⟩
theorem km_X5_addName : Cond.instanceMethod yX5_addName ∈ xTB := xTB_in (sg_3 (List.mem_of_getElem? (i := 66) (by decide +kernel))) rfl
theorem ke_X5_addName : Cond.selects "BetweenStops$Text" yX5_addName yX5_addName ∈ xTB := xTB_in (sg_3 (List.mem_of_getElem? (i := 67) (by decide +kernel))) rfl
theorem mv_X5_addName : xMwV yX5_addName := ⟨km_X5_addName, ke_X5_addName⟩
theorem kc_X1_readBehind : Cond.code yX1_readBehind cX1_readBehind 5 (some .boolean) ∈ xTB := xTB_in (sg_3 (List.mem_of_getElem? (i := 72) (by decide +kernel))) rfl
theorem mw_X1_readBehind : xMw yX1_readBehind cX1_readBehind 5 (some .boolean) 4 := ⟨kc_X1_readBehind, ki_X1, by decide, by decide, by decide +kernel⟩
theorem km_X1_readBehind : Cond.instanceMethod yX1_readBehind ∈ xTB := xTB_in (sg_3 (List.mem_of_getElem? (i := 71) (by decide +kernel))) rfl
theorem ke_X1_readBehind : Cond.selects "BetweenStops$Reader" yX1_readBehind yX1_readBehind ∈ xTB := xTB_in (sg_0 (List.mem_of_getElem? (i := 7) (by decide +kernel))) rfl
theorem mv_X1_readBehind : xMwV yX1_readBehind := ⟨km_X1_readBehind, ke_X1_readBehind⟩
theorem kc_X5_addSign : Cond.code yX5_addSign cX5_addSign 2 none ∈ xTB := xTB_in (sg_3 (List.mem_of_getElem? (i := 76) (by decide +kernel))) rfl
theorem mw_X5_addSign : xMw yX5_addSign cX5_addSign 2 none 1 := ⟨kc_X5_addSign, ki_X5, by decide, by decide, by decide +kernel⟩
theorem km_X5_addSign : Cond.instanceMethod yX5_addSign ∈ xTB := xTB_in (sg_3 (List.mem_of_getElem? (i := 74) (by decide +kernel))) rfl
theorem ke_X5_addSign : Cond.selects "BetweenStops$Text" yX5_addSign yX5_addSign ∈ xTB := xTB_in (sg_3 (List.mem_of_getElem? (i := 75) (by decide +kernel))) rfl
theorem mv_X5_addSign : xMwV yX5_addSign := ⟨km_X5_addSign, ke_X5_addSign⟩
theorem kc_X1_readInside : Cond.code yX1_readInside cX1_readInside 3 (some .boolean) ∈ xTB := xTB_in (sg_3 (List.mem_of_getElem? (i := 80) (by decide +kernel))) rfl
theorem mw_X1_readInside : xMw yX1_readInside cX1_readInside 3 (some .boolean) 2 := ⟨kc_X1_readInside, ki_X1, by decide, by decide, by decide +kernel⟩
theorem km_X1_readInside : Cond.instanceMethod yX1_readInside ∈ xTB := xTB_in (sg_3 (List.mem_of_getElem? (i := 79) (by decide +kernel))) rfl
theorem ke_X1_readInside : Cond.selects "BetweenStops$Reader" yX1_readInside yX1_readInside ∈ xTB := xTB_in (sg_0 (List.mem_of_getElem? (i := 8) (by decide +kernel))) rfl
theorem mv_X1_readInside : xMwV yX1_readInside := ⟨km_X1_readInside, ke_X1_readInside⟩
theorem kc_X1_joinsAt : Cond.code yX1_joinsAt cX1_joinsAt 2 (some .boolean) ∈ xTB := xTB_in (sg_3 (List.mem_of_getElem? (i := 83) (by decide +kernel))) rfl
theorem mw_X1_joinsAt : xMw yX1_joinsAt cX1_joinsAt 2 (some .boolean) 2 := ⟨kc_X1_joinsAt, ki_X1, by decide, by decide, by decide +kernel⟩
theorem ks_X1_joinsAt : Cond.static yX1_joinsAt ∈ xTB := xTB_in (sg_3 (List.mem_of_getElem? (i := 82) (by decide +kernel))) rfl
theorem kc_X5_endPart : Cond.code yX5_endPart cX5_endPart 1 none ∈ xTB := xTB_in (sg_3 (List.mem_of_getElem? (i := 87) (by decide +kernel))) rfl
theorem mw_X5_endPart : xMw yX5_endPart cX5_endPart 1 none 0 := ⟨kc_X5_endPart, ki_X5, by decide, by decide, by decide +kernel⟩
theorem km_X5_endPart : Cond.instanceMethod yX5_endPart ∈ xTB := xTB_in (sg_3 (List.mem_of_getElem? (i := 85) (by decide +kernel))) rfl
theorem ke_X5_endPart : Cond.selects "BetweenStops$Text" yX5_endPart yX5_endPart ∈ xTB := xTB_in (sg_3 (List.mem_of_getElem? (i := 86) (by decide +kernel))) rfl
theorem mv_X5_endPart : xMwV yX5_endPart := ⟨km_X5_endPart, ke_X5_endPart⟩
theorem kc_X9_road : Cond.code yX9_road cX9_road 4 (some .int) ∈ xTB := xTB_in (sg_3 (List.mem_of_getElem? (i := 138) (by decide +kernel))) rfl
theorem mw_X9_road : xMw yX9_road cX9_road 4 (some .int) 2 := ⟨kc_X9_road, ki_X9, by decide, by decide, by decide +kernel⟩
theorem km_X9_road : Cond.instanceMethod yX9_road ∈ xTB := xTB_in (sg_3 (List.mem_of_getElem? (i := 136) (by decide +kernel))) rfl
theorem ke_X9_road : Cond.selects "BetweenStops" yX9_road yX9_road ∈ xTB := xTB_in (sg_3 (List.mem_of_getElem? (i := 137) (by decide +kernel))) rfl
theorem mv_X9_road : xMwV yX9_road := ⟨km_X9_road, ke_X9_road⟩
theorem kc_X9_isWithin : Cond.code yX9_isWithin cX9_isWithin 3 (some .boolean) ∈ xTB := xTB_in (sg_3 (List.mem_of_getElem? (i := 141) (by decide +kernel))) rfl
theorem mw_X9_isWithin : xMw yX9_isWithin cX9_isWithin 3 (some .boolean) 3 := ⟨kc_X9_isWithin, ki_X9, by decide, by decide, by decide +kernel⟩
theorem ks_X9_isWithin : Cond.static yX9_isWithin ∈ xTB := xTB_in (sg_3 (List.mem_of_getElem? (i := 140) (by decide +kernel))) rfl
theorem kc_X6_measureClimbs : Cond.code yX6_measureClimbs cX6_measureClimbs 3 none ∈ xTB := xTB_in (sg_3 (List.mem_of_getElem? (i := 145) (by decide +kernel))) rfl
theorem mw_X6_measureClimbs : xMw yX6_measureClimbs cX6_measureClimbs 3 none 0 := ⟨kc_X6_measureClimbs, ki_X6, by decide, by decide, by decide +kernel⟩
theorem km_X6_measureClimbs : Cond.instanceMethod yX6_measureClimbs ∈ xTB := xTB_in (sg_3 (List.mem_of_getElem? (i := 143) (by decide +kernel))) rfl
theorem ke_X6_measureClimbs : Cond.selects "BetweenStops$Town" yX6_measureClimbs yX6_measureClimbs ∈ xTB := xTB_in (sg_3 (List.mem_of_getElem? (i := 144) (by decide +kernel))) rfl
theorem mv_X6_measureClimbs : xMwV yX6_measureClimbs := ⟨km_X6_measureClimbs, ke_X6_measureClimbs⟩
theorem kc_X9_sort : Cond.code yX9_sort cX9_sort 5 (some .int) ∈ xTB := xTB_in (sg_3 (List.mem_of_getElem? (i := 150) (by decide +kernel))) rfl
theorem mw_X9_sort : xMw yX9_sort cX9_sort 5 (some .int) 3 := ⟨kc_X9_sort, ki_X9, by decide, by decide, by decide +kernel⟩
theorem km_X9_sort : Cond.instanceMethod yX9_sort ∈ xTB := xTB_in (sg_3 (List.mem_of_getElem? (i := 148) (by decide +kernel))) rfl
theorem ke_X9_sort : Cond.selects "BetweenStops" yX9_sort yX9_sort ∈ xTB := xTB_in (sg_3 (List.mem_of_getElem? (i := 149) (by decide +kernel))) rfl
theorem mv_X9_sort : xMwV yX9_sort := ⟨km_X9_sort, ke_X9_sort⟩
theorem kc_X9_isSort : Cond.code yX9_isSort cX9_isSort 1 (some .boolean) ∈ xTB := xTB_in (sg_3 (List.mem_of_getElem? (i := 153) (by decide +kernel))) rfl
theorem mw_X9_isSort : xMw yX9_isSort cX9_isSort 1 (some .boolean) 1 := ⟨kc_X9_isSort, ki_X9, by decide, by decide, by decide +kernel⟩
theorem ks_X9_isSort : Cond.static yX9_isSort ∈ xTB := xTB_in (sg_3 (List.mem_of_getElem? (i := 152) (by decide +kernel))) rfl
theorem kc_X9_car : Cond.code yX9_car cX9_car 4 (some .int) ∈ xTB := xTB_in (sg_3 (List.mem_of_getElem? (i := 161) (by decide +kernel))) rfl
theorem mw_X9_car : xMw yX9_car cX9_car 4 (some .int) 2 := ⟨kc_X9_car, ki_X9, by decide, by decide, by decide +kernel⟩
theorem km_X9_car : Cond.instanceMethod yX9_car ∈ xTB := xTB_in (sg_3 (List.mem_of_getElem? (i := 159) (by decide +kernel))) rfl
theorem ke_X9_car : Cond.selects "BetweenStops" yX9_car yX9_car ∈ xTB := xTB_in (sg_3 (List.mem_of_getElem? (i := 160) (by decide +kernel))) rfl
theorem mv_X9_car : xMwV yX9_car := ⟨km_X9_car, ke_X9_car⟩
theorem kc_X9_walks : Cond.code yX9_walks cX9_walks 4 (some .int) ∈ xTB := xTB_in (sg_3 (List.mem_of_getElem? (i := 165) (by decide +kernel))) rfl
theorem mw_X9_walks : xMw yX9_walks cX9_walks 4 (some .int) 3 := ⟨kc_X9_walks, ki_X9, by decide, by decide, by decide +kernel⟩
theorem km_X9_walks : Cond.instanceMethod yX9_walks ∈ xTB := xTB_in (sg_3 (List.mem_of_getElem? (i := 163) (by decide +kernel))) rfl
theorem ke_X9_walks : Cond.selects "BetweenStops" yX9_walks yX9_walks ∈ xTB := xTB_in (sg_3 (List.mem_of_getElem? (i := 164) (by decide +kernel))) rfl
theorem mv_X9_walks : xMwV yX9_walks := ⟨km_X9_walks, ke_X9_walks⟩
theorem kc_X9_isCell : Cond.code yX9_isCell cX9_isCell 1 (some .boolean) ∈ xTB := xTB_in (sg_3 (List.mem_of_getElem? (i := 168) (by decide +kernel))) rfl
theorem mw_X9_isCell : xMw yX9_isCell cX9_isCell 1 (some .boolean) 1 := ⟨kc_X9_isCell, ki_X9, by decide, by decide, by decide +kernel⟩
theorem ks_X9_isCell : Cond.static yX9_isCell ∈ xTB := xTB_in (sg_3 (List.mem_of_getElem? (i := 167) (by decide +kernel))) rfl
theorem kc_X6_walkSeconds : Cond.code yX6_walkSeconds cX6_walkSeconds 5 (some .int) ∈ xTB := xTB_in (sg_3 (List.mem_of_getElem? (i := 172) (by decide +kernel))) rfl
theorem mw_X6_walkSeconds : xMw yX6_walkSeconds cX6_walkSeconds 5 (some .int) 3 := ⟨kc_X6_walkSeconds, ki_X6, by decide, by decide, by decide +kernel⟩
theorem km_X6_walkSeconds : Cond.instanceMethod yX6_walkSeconds ∈ xTB := xTB_in (sg_3 (List.mem_of_getElem? (i := 170) (by decide +kernel))) rfl
theorem ke_X6_walkSeconds : Cond.selects "BetweenStops$Town" yX6_walkSeconds yX6_walkSeconds ∈ xTB := xTB_in (sg_3 (List.mem_of_getElem? (i := 171) (by decide +kernel))) rfl
theorem mv_X6_walkSeconds : xMwV yX6_walkSeconds := ⟨km_X6_walkSeconds, ke_X6_walkSeconds⟩
theorem kc_abs : Cond.code Lib.Math.abs.name Lib.Math.abs.code 1 (some .int) ∈ xTB := xTB_in (sg_3 (List.mem_of_getElem? (i := 175) (by decide +kernel))) rfl
theorem ks_abs : Cond.static Lib.Math.abs.name ∈ xTB := xTB_in (sg_3 (List.mem_of_getElem? (i := 174) (by decide +kernel))) rfl
theorem kc_X9_stop : Cond.code yX9_stop cX9_stop 5 (some .int) ∈ xTB := xTB_in (sg_3 (List.mem_of_getElem? (i := 179) (by decide +kernel))) rfl
theorem mw_X9_stop : xMw yX9_stop cX9_stop 5 (some .int) 4 := ⟨kc_X9_stop, ki_X9, by decide, by decide, by decide +kernel⟩
theorem km_X9_stop : Cond.instanceMethod yX9_stop ∈ xTB := xTB_in (sg_3 (List.mem_of_getElem? (i := 177) (by decide +kernel))) rfl
theorem ke_X9_stop : Cond.selects "BetweenStops" yX9_stop yX9_stop ∈ xTB := xTB_in (sg_3 (List.mem_of_getElem? (i := 178) (by decide +kernel))) rfl
theorem mv_X9_stop : xMwV yX9_stop := ⟨km_X9_stop, ke_X9_stop⟩
theorem kc_X9_isKind : Cond.code yX9_isKind cX9_isKind 1 (some .boolean) ∈ xTB := xTB_in (sg_3 (List.mem_of_getElem? (i := 182) (by decide +kernel))) rfl
theorem mw_X9_isKind : xMw yX9_isKind cX9_isKind 1 (some .boolean) 1 := ⟨kc_X9_isKind, ki_X9, by decide, by decide, by decide +kernel⟩
theorem ks_X9_isKind : Cond.static yX9_isKind ∈ xTB := xTB_in (sg_3 (List.mem_of_getElem? (i := 181) (by decide +kernel))) rfl
theorem kc_X3_begin : Cond.code yX3_begin cX3_begin 5 none ∈ xTB := xTB_in (sg_3 (List.mem_of_getElem? (i := 186) (by decide +kernel))) rfl
theorem mw_X3_begin : xMw yX3_begin cX3_begin 5 none 4 := ⟨kc_X3_begin, ki_X3, by decide, by decide, by decide +kernel⟩
theorem km_X3_begin : Cond.instanceMethod yX3_begin ∈ xTB := xTB_in (sg_3 (List.mem_of_getElem? (i := 184) (by decide +kernel))) rfl
theorem ke_X3_begin : Cond.selects "BetweenStops$Stop" yX3_begin yX3_begin ∈ xTB := xTB_in (sg_3 (List.mem_of_getElem? (i := 185) (by decide +kernel))) rfl
theorem mv_X3_begin : xMwV yX3_begin := ⟨km_X3_begin, ke_X3_begin⟩
theorem kc_X9_open : Cond.code yX9_open cX9_open 4 (some .int) ∈ xTB := xTB_in (sg_3 (List.mem_of_getElem? (i := 193) (by decide +kernel))) rfl
theorem mw_X9_open : xMw yX9_open cX9_open 4 (some .int) 2 := ⟨kc_X9_open, ki_X9, by decide, by decide, by decide +kernel⟩
theorem km_X9_open : Cond.instanceMethod yX9_open ∈ xTB := xTB_in (sg_3 (List.mem_of_getElem? (i := 191) (by decide +kernel))) rfl
theorem ke_X9_open : Cond.selects "BetweenStops" yX9_open yX9_open ∈ xTB := xTB_in (sg_3 (List.mem_of_getElem? (i := 192) (by decide +kernel))) rfl
theorem mv_X9_open : xMwV yX9_open := ⟨km_X9_open, ke_X9_open⟩
theorem kc_X9_isStop : Cond.code yX9_isStop cX9_isStop 2 (some .boolean) ∈ xTB := xTB_in (sg_3 (List.mem_of_getElem? (i := 197) (by decide +kernel))) rfl
theorem mw_X9_isStop : xMw yX9_isStop cX9_isStop 2 (some .boolean) 1 := ⟨kc_X9_isStop, ki_X9, by decide, by decide, by decide +kernel⟩
theorem km_X9_isStop : Cond.instanceMethod yX9_isStop ∈ xTB := xTB_in (sg_3 (List.mem_of_getElem? (i := 196) (by decide +kernel))) rfl
theorem ke_X9_isStop : Cond.selects "BetweenStops" yX9_isStop yX9_isStop ∈ xTB := xTB_in (sg_0 (List.mem_of_getElem? (i := 9) (by decide +kernel))) rfl
theorem mv_X9_isStop : xMwV yX9_isStop := ⟨km_X9_isStop, ke_X9_isStop⟩
theorem kc_X9_asNumber : Cond.code yX9_asNumber cX9_asNumber 1 (some .int) ∈ xTB := xTB_in (sg_3 (List.mem_of_getElem? (i := 200) (by decide +kernel))) rfl
theorem mw_X9_asNumber : xMw yX9_asNumber cX9_asNumber 1 (some .int) 1 := ⟨kc_X9_asNumber, ki_X9, by decide, by decide, by decide +kernel⟩
theorem ks_X9_asNumber : Cond.static yX9_asNumber ∈ xTB := xTB_in (sg_3 (List.mem_of_getElem? (i := 199) (by decide +kernel))) rfl
theorem kc_X9_want : Cond.code yX9_want cX9_want 4 (some .int) ∈ xTB := xTB_in (sg_3 (List.mem_of_getElem? (i := 204) (by decide +kernel))) rfl
theorem mw_X9_want : xMw yX9_want cX9_want 4 (some .int) 2 := ⟨kc_X9_want, ki_X9, by decide, by decide, by decide +kernel⟩
theorem km_X9_want : Cond.instanceMethod yX9_want ∈ xTB := xTB_in (sg_3 (List.mem_of_getElem? (i := 202) (by decide +kernel))) rfl
theorem ke_X9_want : Cond.selects "BetweenStops" yX9_want yX9_want ∈ xTB := xTB_in (sg_3 (List.mem_of_getElem? (i := 203) (by decide +kernel))) rfl
theorem mv_X9_want : xMwV yX9_want := ⟨km_X9_want, ke_X9_want⟩
theorem kc_X9_turns : Cond.code yX9_turns cX9_turns 4 (some .int) ∈ xTB := xTB_in (sg_3 (List.mem_of_getElem? (i := 208) (by decide +kernel))) rfl
theorem mw_X9_turns : xMw yX9_turns cX9_turns 4 (some .int) 2 := ⟨kc_X9_turns, ki_X9, by decide, by decide, by decide +kernel⟩
theorem km_X9_turns : Cond.instanceMethod yX9_turns ∈ xTB := xTB_in (sg_3 (List.mem_of_getElem? (i := 206) (by decide +kernel))) rfl
theorem ke_X9_turns : Cond.selects "BetweenStops" yX9_turns yX9_turns ∈ xTB := xTB_in (sg_3 (List.mem_of_getElem? (i := 207) (by decide +kernel))) rfl
theorem mv_X9_turns : xMwV yX9_turns := ⟨km_X9_turns, ke_X9_turns⟩
theorem kc_X9_told : Cond.code yX9_told cX9_told 4 (some .int) ∈ xTB := xTB_in (sg_3 (List.mem_of_getElem? (i := 212) (by decide +kernel))) rfl
theorem mw_X9_told : xMw yX9_told cX9_told 4 (some .int) 2 := ⟨kc_X9_told, ki_X9, by decide, by decide, by decide +kernel⟩
theorem km_X9_told : Cond.instanceMethod yX9_told ∈ xTB := xTB_in (sg_3 (List.mem_of_getElem? (i := 210) (by decide +kernel))) rfl
theorem ke_X9_told : Cond.selects "BetweenStops" yX9_told yX9_told ∈ xTB := xTB_in (sg_3 (List.mem_of_getElem? (i := 211) (by decide +kernel))) rfl
theorem mv_X9_told : xMwV yX9_told := ⟨km_X9_told, ke_X9_told⟩
theorem kc_X3_secondsIf : Cond.code yX3_secondsIf cX3_secondsIf 2 (some .int) ∈ xTB := xTB_in (sg_3 (List.mem_of_getElem? (i := 216) (by decide +kernel))) rfl
theorem mw_X3_secondsIf : xMw yX3_secondsIf cX3_secondsIf 2 (some .int) 1 := ⟨kc_X3_secondsIf, ki_X3, by decide, by decide, by decide +kernel⟩
theorem km_X3_secondsIf : Cond.instanceMethod yX3_secondsIf ∈ xTB := xTB_in (sg_3 (List.mem_of_getElem? (i := 214) (by decide +kernel))) rfl
theorem ke_X3_secondsIf : Cond.selects "BetweenStops$Stop" yX3_secondsIf yX3_secondsIf ∈ xTB := xTB_in (sg_3 (List.mem_of_getElem? (i := 215) (by decide +kernel))) rfl
theorem mv_X3_secondsIf : xMwV yX3_secondsIf := ⟨km_X3_secondsIf, ke_X3_secondsIf⟩
theorem kc_X3_carsBy : Cond.code yX3_carsBy cX3_carsBy 2 (some .int) ∈ xTB := xTB_in (sg_3 (List.mem_of_getElem? (i := 220) (by decide +kernel))) rfl
theorem mw_X3_carsBy : xMw yX3_carsBy cX3_carsBy 2 (some .int) 1 := ⟨kc_X3_carsBy, ki_X3, by decide, by decide, by decide +kernel⟩
theorem km_X3_carsBy : Cond.instanceMethod yX3_carsBy ∈ xTB := xTB_in (sg_3 (List.mem_of_getElem? (i := 218) (by decide +kernel))) rfl
theorem ke_X3_carsBy : Cond.selects "BetweenStops$Stop" yX3_carsBy yX3_carsBy ∈ xTB := xTB_in (sg_3 (List.mem_of_getElem? (i := 219) (by decide +kernel))) rfl
theorem mv_X3_carsBy : xMwV yX3_carsBy := ⟨km_X3_carsBy, ke_X3_carsBy⟩
theorem kc_X3_carsServed : Cond.code yX3_carsServed cX3_carsServed 2 (some .int) ∈ xTB := xTB_in (sg_3 (List.mem_of_getElem? (i := 224) (by decide +kernel))) rfl
theorem mw_X3_carsServed : xMw yX3_carsServed cX3_carsServed 2 (some .int) 0 := ⟨kc_X3_carsServed, ki_X3, by decide, by decide, by decide +kernel⟩
theorem km_X3_carsServed : Cond.instanceMethod yX3_carsServed ∈ xTB := xTB_in (sg_3 (List.mem_of_getElem? (i := 223) (by decide +kernel))) rfl
theorem ke_X3_carsServed : Cond.selects "BetweenStops$Stop" yX3_carsServed yX3_carsServed ∈ xTB := xTB_in (sg_0 (List.mem_of_getElem? (i := 10) (by decide +kernel))) rfl
theorem mv_X3_carsServed : xMwV yX3_carsServed := ⟨km_X3_carsServed, ke_X3_carsServed⟩
theorem kc_X3_isOf : Cond.code yX3_isOf cX3_isOf 2 (some .boolean) ∈ xTB := xTB_in (sg_3 (List.mem_of_getElem? (i := 228) (by decide +kernel))) rfl
theorem mw_X3_isOf : xMw yX3_isOf cX3_isOf 2 (some .boolean) 1 := ⟨kc_X3_isOf, ki_X3, by decide, by decide, by decide +kernel⟩
theorem km_X3_isOf : Cond.instanceMethod yX3_isOf ∈ xTB := xTB_in (sg_3 (List.mem_of_getElem? (i := 226) (by decide +kernel))) rfl
theorem ke_X3_isOf : Cond.selects "BetweenStops$Stop" yX3_isOf yX3_isOf ∈ xTB := xTB_in (sg_3 (List.mem_of_getElem? (i := 227) (by decide +kernel))) rfl
theorem mv_X3_isOf : xMwV yX3_isOf := ⟨km_X3_isOf, ke_X3_isOf⟩
theorem kc_X9_trip : Cond.code yX9_trip cX9_trip 5 (some .int) ∈ xTB := xTB_in (sg_3 (List.mem_of_getElem? (i := 233) (by decide +kernel))) rfl
theorem mw_X9_trip : xMw yX9_trip cX9_trip 5 (some .int) 4 := ⟨kc_X9_trip, ki_X9, by decide, by decide, by decide +kernel⟩
theorem km_X9_trip : Cond.instanceMethod yX9_trip ∈ xTB := xTB_in (sg_3 (List.mem_of_getElem? (i := 231) (by decide +kernel))) rfl
theorem ke_X9_trip : Cond.selects "BetweenStops" yX9_trip yX9_trip ∈ xTB := xTB_in (sg_3 (List.mem_of_getElem? (i := 232) (by decide +kernel))) rfl
theorem mv_X9_trip : xMwV yX9_trip := ⟨km_X9_trip, ke_X9_trip⟩
theorem kc_X7_begin : Cond.code yX7_begin cX7_begin 5 none ∈ xTB := xTB_in (sg_3 (List.mem_of_getElem? (i := 237) (by decide +kernel))) rfl
theorem mw_X7_begin : xMw yX7_begin cX7_begin 5 none 4 := ⟨kc_X7_begin, ki_X7, by decide, by decide, by decide +kernel⟩
theorem km_X7_begin : Cond.instanceMethod yX7_begin ∈ xTB := xTB_in (sg_3 (List.mem_of_getElem? (i := 235) (by decide +kernel))) rfl
theorem ke_X7_begin : Cond.selects "BetweenStops$Trip" yX7_begin yX7_begin ∈ xTB := xTB_in (sg_3 (List.mem_of_getElem? (i := 236) (by decide +kernel))) rfl
theorem mv_X7_begin : xMwV yX7_begin := ⟨km_X7_begin, ke_X7_begin⟩
theorem kc_X9_count : Cond.code yX9_count cX9_count 2 (some .int) ∈ xTB := xTB_in (sg_4 (List.mem_of_getElem? (i := 1) (by decide +kernel))) rfl
theorem mw_X9_count : xMw yX9_count cX9_count 2 (some .int) 1 := ⟨kc_X9_count, ki_X9, by decide, by decide, by decide +kernel⟩
theorem km_X9_count : Cond.instanceMethod yX9_count ∈ xTB := xTB_in (sg_3 (List.mem_of_getElem? (i := 239) (by decide +kernel))) rfl
theorem ke_X9_count : Cond.selects "BetweenStops" yX9_count yX9_count ∈ xTB := xTB_in (sg_4 (List.mem_of_getElem? (i := 0) (by decide +kernel))) rfl
theorem mv_X9_count : xMwV yX9_count := ⟨km_X9_count, ke_X9_count⟩
theorem kc_X6_openSet : Cond.code yX6_openSet cX6_openSet 3 (some .int) ∈ xTB := xTB_in (sg_4 (List.mem_of_getElem? (i := 5) (by decide +kernel))) rfl
theorem mw_X6_openSet : xMw yX6_openSet cX6_openSet 3 (some .int) 0 := ⟨kc_X6_openSet, ki_X6, by decide, by decide, by decide +kernel⟩
theorem km_X6_openSet : Cond.instanceMethod yX6_openSet ∈ xTB := xTB_in (sg_4 (List.mem_of_getElem? (i := 3) (by decide +kernel))) rfl
theorem ke_X6_openSet : Cond.selects "BetweenStops$Town" yX6_openSet yX6_openSet ∈ xTB := xTB_in (sg_4 (List.mem_of_getElem? (i := 4) (by decide +kernel))) rfl
theorem mv_X6_openSet : xMwV yX6_openSet := ⟨km_X6_openSet, ke_X6_openSet⟩
theorem kc_J6_bitCount_0f7a4 : Cond.code yJ6_bitCount_0f7a4 cJ6_bitCount_0f7a4 1 (some .int) ∈ xTB := xTB_in (sg_4 (List.mem_of_getElem? (i := 9) (by decide +kernel))) rfl
theorem mw_J6_bitCount_0f7a4 : xMw yJ6_bitCount_0f7a4 cJ6_bitCount_0f7a4 1 (some .int) 1 := ⟨kc_J6_bitCount_0f7a4, ki_J6, by decide, by decide, by decide +kernel⟩
theorem ks_J6_bitCount_0f7a4 : Cond.static yJ6_bitCount_0f7a4 ∈ xTB := xTB_in (sg_4 (List.mem_of_getElem? (i := 8) (by decide +kernel))) rfl
theorem kc_X9_takes : Cond.code yX9_takes cX9_takes 3 (some .int) ∈ xTB := xTB_in (sg_4 (List.mem_of_getElem? (i := 16) (by decide +kernel))) rfl
theorem mw_X9_takes : xMw yX9_takes cX9_takes 3 (some .int) 2 := ⟨kc_X9_takes, ki_X9, by decide, by decide, by decide +kernel⟩
theorem km_X9_takes : Cond.instanceMethod yX9_takes ∈ xTB := xTB_in (sg_4 (List.mem_of_getElem? (i := 14) (by decide +kernel))) rfl
theorem ke_X9_takes : Cond.selects "BetweenStops" yX9_takes yX9_takes ∈ xTB := xTB_in (sg_4 (List.mem_of_getElem? (i := 15) (by decide +kernel))) rfl
theorem mv_X9_takes : xMwV yX9_takes := ⟨km_X9_takes, ke_X9_takes⟩
theorem kc_X9_isTrip : Cond.code yX9_isTrip cX9_isTrip 2 (some .boolean) ∈ xTB := xTB_in (sg_4 (List.mem_of_getElem? (i := 20) (by decide +kernel))) rfl
theorem mw_X9_isTrip : xMw yX9_isTrip cX9_isTrip 2 (some .boolean) 1 := ⟨kc_X9_isTrip, ki_X9, by decide, by decide, by decide +kernel⟩
theorem km_X9_isTrip : Cond.instanceMethod yX9_isTrip ∈ xTB := xTB_in (sg_4 (List.mem_of_getElem? (i := 19) (by decide +kernel))) rfl
theorem ke_X9_isTrip : Cond.selects "BetweenStops" yX9_isTrip yX9_isTrip ∈ xTB := xTB_in (sg_0 (List.mem_of_getElem? (i := 11) (by decide +kernel))) rfl
theorem mv_X9_isTrip : xMwV yX9_isTrip := ⟨km_X9_isTrip, ke_X9_isTrip⟩
theorem kc_X9_lookAtNow : Cond.code yX9_lookAtNow cX9_lookAtNow 1 none ∈ xTB := xTB_in (sg_4 (List.mem_of_getElem? (i := 24) (by decide +kernel))) rfl
theorem mw_X9_lookAtNow : xMw yX9_lookAtNow cX9_lookAtNow 1 none 0 := ⟨kc_X9_lookAtNow, ki_X9, by decide, by decide, by decide +kernel⟩
theorem km_X9_lookAtNow : Cond.instanceMethod yX9_lookAtNow ∈ xTB := xTB_in (sg_4 (List.mem_of_getElem? (i := 23) (by decide +kernel))) rfl
theorem ke_X9_lookAtNow : Cond.selects "BetweenStops" yX9_lookAtNow yX9_lookAtNow ∈ xTB := xTB_in (sg_0 (List.mem_of_getElem? (i := 12) (by decide +kernel))) rfl
theorem mv_X9_lookAtNow : xMwV yX9_lookAtNow := ⟨km_X9_lookAtNow, ke_X9_lookAtNow⟩
theorem kc_X8_measure : Cond.code yX8_measure cX8_measure 4 none ∈ xTB := xTB_in (sg_4 (List.mem_of_getElem? (i := 28) (by decide +kernel))) rfl
theorem mw_X8_measure : xMw yX8_measure cX8_measure 4 none 0 := ⟨kc_X8_measure, ki_X8, by decide, by decide, by decide +kernel⟩
theorem km_X8_measure : Cond.instanceMethod yX8_measure ∈ xTB := xTB_in (sg_4 (List.mem_of_getElem? (i := 26) (by decide +kernel))) rfl
theorem ke_X8_measure : Cond.selects "BetweenStops$Ways" yX8_measure yX8_measure ∈ xTB := xTB_in (sg_4 (List.mem_of_getElem? (i := 27) (by decide +kernel))) rfl
theorem mv_X8_measure : xMwV yX8_measure := ⟨km_X8_measure, ke_X8_measure⟩
theorem kc_X8_look : Cond.code yX8_look cX8_look 5 none ∈ xTB := xTB_in (sg_4 (List.mem_of_getElem? (i := 35) (by decide +kernel))) rfl
theorem mw_X8_look : xMw yX8_look cX8_look 5 none 2 := ⟨kc_X8_look, ki_X8, by decide, by decide, by decide +kernel⟩
theorem km_X8_look : Cond.instanceMethod yX8_look ∈ xTB := xTB_in (sg_4 (List.mem_of_getElem? (i := 33) (by decide +kernel))) rfl
theorem ke_X8_look : Cond.selects "BetweenStops$Ways" yX8_look yX8_look ∈ xTB := xTB_in (sg_4 (List.mem_of_getElem? (i := 34) (by decide +kernel))) rfl
theorem mv_X8_look : xMwV yX8_look := ⟨km_X8_look, ke_X8_look⟩
theorem kc_X8_addUpStanding : Cond.code yX8_addUpStanding cX8_addUpStanding 5 none ∈ xTB := xTB_in (sg_4 (List.mem_of_getElem? (i := 39) (by decide +kernel))) rfl
theorem mw_X8_addUpStanding : xMw yX8_addUpStanding cX8_addUpStanding 5 none 1 := ⟨kc_X8_addUpStanding, ki_X8, by decide, by decide, by decide +kernel⟩
theorem km_X8_addUpStanding : Cond.instanceMethod yX8_addUpStanding ∈ xTB := xTB_in (sg_4 (List.mem_of_getElem? (i := 38) (by decide +kernel))) rfl
theorem ke_X8_addUpStanding : Cond.selects "BetweenStops$Ways" yX8_addUpStanding yX8_addUpStanding ∈ xTB := xTB_in (sg_0 (List.mem_of_getElem? (i := 13) (by decide +kernel))) rfl
theorem mv_X8_addUpStanding : xMwV yX8_addUpStanding := ⟨km_X8_addUpStanding, ke_X8_addUpStanding⟩
theorem kc_J7_fill_53178 : Cond.code yJ7_fill_53178 cJ7_fill_53178 4 none ∈ xTB := xTB_in (sg_4 (List.mem_of_getElem? (i := 42) (by decide +kernel))) rfl
theorem mw_J7_fill_53178 : xMw yJ7_fill_53178 cJ7_fill_53178 4 none 2 := ⟨kc_J7_fill_53178, ki_J7, by decide, by decide, by decide +kernel⟩
theorem ks_J7_fill_53178 : Cond.static yJ7_fill_53178 ∈ xTB := xTB_in (sg_4 (List.mem_of_getElem? (i := 41) (by decide +kernel))) rfl
theorem kc_X8_ride : Cond.code yX8_ride cX8_ride 7 none ∈ xTB := xTB_in (sg_4 (List.mem_of_getElem? (i := 46) (by decide +kernel))) rfl
theorem mw_X8_ride : xMw yX8_ride cX8_ride 7 none 3 := ⟨kc_X8_ride, ki_X8, by decide, by decide, by decide +kernel⟩
theorem km_X8_ride : Cond.instanceMethod yX8_ride ∈ xTB := xTB_in (sg_4 (List.mem_of_getElem? (i := 45) (by decide +kernel))) rfl
theorem ke_X8_ride : Cond.selects "BetweenStops$Ways" yX8_ride yX8_ride ∈ xTB := xTB_in (sg_0 (List.mem_of_getElem? (i := 14) (by decide +kernel))) rfl
theorem mv_X8_ride : xMwV yX8_ride := ⟨km_X8_ride, ke_X8_ride⟩
theorem kc_X8_carTime : Cond.code yX8_carTime cX8_carTime 6 (some .int) ∈ xTB := xTB_in (sg_4 (List.mem_of_getElem? (i := 50) (by decide +kernel))) rfl
theorem mw_X8_carTime : xMw yX8_carTime cX8_carTime 6 (some .int) 3 := ⟨kc_X8_carTime, ki_X8, by decide, by decide, by decide +kernel⟩
theorem km_X8_carTime : Cond.instanceMethod yX8_carTime ∈ xTB := xTB_in (sg_4 (List.mem_of_getElem? (i := 49) (by decide +kernel))) rfl
theorem ke_X8_carTime : Cond.selects "BetweenStops$Ways" yX8_carTime yX8_carTime ∈ xTB := xTB_in (sg_0 (List.mem_of_getElem? (i := 15) (by decide +kernel))) rfl
theorem mv_X8_carTime : xMwV yX8_carTime := ⟨km_X8_carTime, ke_X8_carTime⟩
theorem kc_X8_findBest : Cond.code yX8_findBest cX8_findBest 8 none ∈ xTB := xTB_in (sg_4 (List.mem_of_getElem? (i := 56) (by decide +kernel))) rfl
theorem mw_X8_findBest : xMw yX8_findBest cX8_findBest 8 none 1 := ⟨kc_X8_findBest, ki_X8, by decide, by decide, by decide +kernel⟩
theorem km_X8_findBest : Cond.instanceMethod yX8_findBest ∈ xTB := xTB_in (sg_4 (List.mem_of_getElem? (i := 55) (by decide +kernel))) rfl
theorem ke_X8_findBest : Cond.selects "BetweenStops$Ways" yX8_findBest yX8_findBest ∈ xTB := xTB_in (sg_0 (List.mem_of_getElem? (i := 16) (by decide +kernel))) rfl
theorem mv_X8_findBest : xMwV yX8_findBest := ⟨km_X8_findBest, ke_X8_findBest⟩
theorem kc_X8_tellBest : Cond.code yX8_tellBest cX8_tellBest 5 none ∈ xTB := xTB_in (sg_4 (List.mem_of_getElem? (i := 60) (by decide +kernel))) rfl
theorem mw_X8_tellBest : xMw yX8_tellBest cX8_tellBest 5 none 3 := ⟨kc_X8_tellBest, ki_X8, by decide, by decide, by decide +kernel⟩
theorem km_X8_tellBest : Cond.instanceMethod yX8_tellBest ∈ xTB := xTB_in (sg_4 (List.mem_of_getElem? (i := 59) (by decide +kernel))) rfl
theorem ke_X8_tellBest : Cond.selects "BetweenStops$Ways" yX8_tellBest yX8_tellBest ∈ xTB := xTB_in (sg_0 (List.mem_of_getElem? (i := 17) (by decide +kernel))) rfl
theorem mv_X8_tellBest : xMwV yX8_tellBest := ⟨km_X8_tellBest, ke_X8_tellBest⟩
theorem kc_X9_sum : Cond.code yX9_sum cX9_sum 2 (some .long) ∈ xTB := xTB_in (sg_4 (List.mem_of_getElem? (i := 64) (by decide +kernel))) rfl
theorem mw_X9_sum : xMw yX9_sum cX9_sum 2 (some .long) 1 := ⟨kc_X9_sum, ki_X9, by decide, by decide, by decide +kernel⟩
theorem km_X9_sum : Cond.instanceMethod yX9_sum ∈ xTB := xTB_in (sg_4 (List.mem_of_getElem? (i := 62) (by decide +kernel))) rfl
theorem ke_X9_sum : Cond.selects "BetweenStops" yX9_sum yX9_sum ∈ xTB := xTB_in (sg_4 (List.mem_of_getElem? (i := 63) (by decide +kernel))) rfl
theorem mv_X9_sum : xMwV yX9_sum := ⟨km_X9_sum, ke_X9_sum⟩
theorem kc_X8_total : Cond.code yX8_total cX8_total 4 (some .long) ∈ xTB := xTB_in (sg_4 (List.mem_of_getElem? (i := 69) (by decide +kernel))) rfl
theorem mw_X8_total : xMw yX8_total cX8_total 4 (some .long) 0 := ⟨kc_X8_total, ki_X8, by decide, by decide, by decide +kernel⟩
theorem km_X8_total : Cond.instanceMethod yX8_total ∈ xTB := xTB_in (sg_4 (List.mem_of_getElem? (i := 67) (by decide +kernel))) rfl
theorem ke_X8_total : Cond.selects "BetweenStops$Ways" yX8_total yX8_total ∈ xTB := xTB_in (sg_4 (List.mem_of_getElem? (i := 68) (by decide +kernel))) rfl
theorem mv_X8_total : xMwV yX8_total := ⟨km_X8_total, ke_X8_total⟩
theorem kc_X8_dearest : Cond.code yX8_dearest cX8_dearest 3 (some .int) ∈ xTB := xTB_in (sg_4 (List.mem_of_getElem? (i := 73) (by decide +kernel))) rfl
theorem mw_X8_dearest : xMw yX8_dearest cX8_dearest 3 (some .int) 0 := ⟨kc_X8_dearest, ki_X8, by decide, by decide, by decide +kernel⟩
theorem km_X8_dearest : Cond.instanceMethod yX8_dearest ∈ xTB := xTB_in (sg_4 (List.mem_of_getElem? (i := 71) (by decide +kernel))) rfl
theorem ke_X8_dearest : Cond.selects "BetweenStops$Ways" yX8_dearest yX8_dearest ∈ xTB := xTB_in (sg_4 (List.mem_of_getElem? (i := 72) (by decide +kernel))) rfl
theorem mv_X8_dearest : xMwV yX8_dearest := ⟨km_X8_dearest, ke_X8_dearest⟩
theorem kc_X8_dearestCost : Cond.code yX8_dearestCost cX8_dearestCost 2 (some .int) ∈ xTB := xTB_in (sg_4 (List.mem_of_getElem? (i := 77) (by decide +kernel))) rfl
theorem mw_X8_dearestCost : xMw yX8_dearestCost cX8_dearestCost 2 (some .int) 0 := ⟨kc_X8_dearestCost, ki_X8, by decide, by decide, by decide +kernel⟩
theorem km_X8_dearestCost : Cond.instanceMethod yX8_dearestCost ∈ xTB := xTB_in (sg_4 (List.mem_of_getElem? (i := 75) (by decide +kernel))) rfl
theorem ke_X8_dearestCost : Cond.selects "BetweenStops$Ways" yX8_dearestCost yX8_dearestCost ∈ xTB := xTB_in (sg_4 (List.mem_of_getElem? (i := 76) (by decide +kernel))) rfl
theorem mv_X8_dearestCost : xMwV yX8_dearestCost := ⟨km_X8_dearestCost, ke_X8_dearestCost⟩
theorem kc_X9_use : Cond.code yX9_use cX9_use 2 (some .int) ∈ xTB := xTB_in (sg_4 (List.mem_of_getElem? (i := 82) (by decide +kernel))) rfl
theorem mw_X9_use : xMw yX9_use cX9_use 2 (some .int) 1 := ⟨kc_X9_use, ki_X9, by decide, by decide, by decide +kernel⟩
theorem km_X9_use : Cond.instanceMethod yX9_use ∈ xTB := xTB_in (sg_4 (List.mem_of_getElem? (i := 80) (by decide +kernel))) rfl
theorem ke_X9_use : Cond.selects "BetweenStops" yX9_use yX9_use ∈ xTB := xTB_in (sg_4 (List.mem_of_getElem? (i := 81) (by decide +kernel))) rfl
theorem mv_X9_use : xMwV yX9_use := ⟨km_X9_use, ke_X9_use⟩
theorem kc_X8_usersOf : Cond.code yX8_usersOf cX8_usersOf 4 (some .int) ∈ xTB := xTB_in (sg_4 (List.mem_of_getElem? (i := 86) (by decide +kernel))) rfl
theorem mw_X8_usersOf : xMw yX8_usersOf cX8_usersOf 4 (some .int) 1 := ⟨kc_X8_usersOf, ki_X8, by decide, by decide, by decide +kernel⟩
theorem km_X8_usersOf : Cond.instanceMethod yX8_usersOf ∈ xTB := xTB_in (sg_4 (List.mem_of_getElem? (i := 84) (by decide +kernel))) rfl
theorem ke_X8_usersOf : Cond.selects "BetweenStops$Ways" yX8_usersOf yX8_usersOf ∈ xTB := xTB_in (sg_4 (List.mem_of_getElem? (i := 85) (by decide +kernel))) rfl
theorem mv_X8_usersOf : xMwV yX8_usersOf := ⟨km_X8_usersOf, ke_X8_usersOf⟩
theorem kc_X9_feed : Cond.code yX9_feed cX9_feed 5 (some .int) ∈ xTB := xTB_in (sg_4 (List.mem_of_getElem? (i := 90) (by decide +kernel))) rfl
theorem mw_X9_feed : xMw yX9_feed cX9_feed 5 (some .int) 2 := ⟨kc_X9_feed, ki_X9, by decide, by decide, by decide +kernel⟩
theorem km_X9_feed : Cond.instanceMethod yX9_feed ∈ xTB := xTB_in (sg_4 (List.mem_of_getElem? (i := 88) (by decide +kernel))) rfl
theorem ke_X9_feed : Cond.selects "BetweenStops" yX9_feed yX9_feed ∈ xTB := xTB_in (sg_4 (List.mem_of_getElem? (i := 89) (by decide +kernel))) rfl
theorem mv_X9_feed : xMwV yX9_feed := ⟨km_X9_feed, ke_X9_feed⟩
theorem kc_X9_text : Cond.code yX9_text cX9_text 2 (some .int) ∈ xTB := xTB_in (sg_4 (List.mem_of_getElem? (i := 94) (by decide +kernel))) rfl
theorem mw_X9_text : xMw yX9_text cX9_text 2 (some .int) 0 := ⟨kc_X9_text, ki_X9, by decide, by decide, by decide +kernel⟩
theorem km_X9_text : Cond.instanceMethod yX9_text ∈ xTB := xTB_in (sg_4 (List.mem_of_getElem? (i := 92) (by decide +kernel))) rfl
theorem ke_X9_text : Cond.selects "BetweenStops" yX9_text yX9_text ∈ xTB := xTB_in (sg_4 (List.mem_of_getElem? (i := 93) (by decide +kernel))) rfl
theorem mv_X9_text : xMwV yX9_text := ⟨km_X9_text, ke_X9_text⟩
theorem kc_X9_force : Cond.code yX9_force cX9_force 3 (some .int) ∈ xTB := xTB_in (sg_4 (List.mem_of_getElem? (i := 98) (by decide +kernel))) rfl
theorem mw_X9_force : xMw yX9_force cX9_force 3 (some .int) 1 := ⟨kc_X9_force, ki_X9, by decide, by decide, by decide +kernel⟩
theorem km_X9_force : Cond.instanceMethod yX9_force ∈ xTB := xTB_in (sg_4 (List.mem_of_getElem? (i := 96) (by decide +kernel))) rfl
theorem ke_X9_force : Cond.selects "BetweenStops" yX9_force yX9_force ∈ xTB := xTB_in (sg_4 (List.mem_of_getElem? (i := 97) (by decide +kernel))) rfl
theorem mv_X9_force : xMwV yX9_force := ⟨km_X9_force, ke_X9_force⟩
theorem kc_X9_best : Cond.code yX9_best cX9_best 3 (some .long) ∈ xTB := xTB_in (sg_4 (List.mem_of_getElem? (i := 102) (by decide +kernel))) rfl
theorem mw_X9_best : xMw yX9_best cX9_best 3 (some .long) 1 := ⟨kc_X9_best, ki_X9, by decide, by decide, by decide +kernel⟩
theorem km_X9_best : Cond.instanceMethod yX9_best ∈ xTB := xTB_in (sg_4 (List.mem_of_getElem? (i := 100) (by decide +kernel))) rfl
theorem ke_X9_best : Cond.selects "BetweenStops" yX9_best yX9_best ∈ xTB := xTB_in (sg_4 (List.mem_of_getElem? (i := 101) (by decide +kernel))) rfl
theorem mv_X9_best : xMwV yX9_best := ⟨km_X9_best, ke_X9_best⟩
theorem kc_X9_bestSet : Cond.code yX9_bestSet cX9_bestSet 10 (some .int) ∈ xTB := xTB_in (sg_4 (List.mem_of_getElem? (i := 107) (by decide +kernel))) rfl
theorem mw_X9_bestSet : xMw yX9_bestSet cX9_bestSet 10 (some .int) 2 := ⟨kc_X9_bestSet, ki_X9, by decide, by decide, by decide +kernel⟩
theorem km_X9_bestSet : Cond.instanceMethod yX9_bestSet ∈ xTB := xTB_in (sg_4 (List.mem_of_getElem? (i := 106) (by decide +kernel))) rfl
theorem ke_X9_bestSet : Cond.selects "BetweenStops" yX9_bestSet yX9_bestSet ∈ xTB := xTB_in (sg_0 (List.mem_of_getElem? (i := 18) (by decide +kernel))) rfl
theorem mv_X9_bestSet : xMwV yX9_bestSet := ⟨km_X9_bestSet, ke_X9_bestSet⟩
theorem kc_X6_setCount : Cond.code yX6_setCount cX6_setCount 1 (some .int) ∈ xTB := xTB_in (sg_4 (List.mem_of_getElem? (i := 111) (by decide +kernel))) rfl
theorem mw_X6_setCount : xMw yX6_setCount cX6_setCount 1 (some .int) 0 := ⟨kc_X6_setCount, ki_X6, by decide, by decide, by decide +kernel⟩
theorem km_X6_setCount : Cond.instanceMethod yX6_setCount ∈ xTB := xTB_in (sg_4 (List.mem_of_getElem? (i := 109) (by decide +kernel))) rfl
theorem ke_X6_setCount : Cond.selects "BetweenStops$Town" yX6_setCount yX6_setCount ∈ xTB := xTB_in (sg_4 (List.mem_of_getElem? (i := 110) (by decide +kernel))) rfl
theorem mv_X6_setCount : xMwV yX6_setCount := ⟨km_X6_setCount, ke_X6_setCount⟩
theorem kc_X9_totalOf : Cond.code yX9_totalOf cX9_totalOf 2 (some .long) ∈ xTB := xTB_in (sg_4 (List.mem_of_getElem? (i := 115) (by decide +kernel))) rfl
theorem mw_X9_totalOf : xMw yX9_totalOf cX9_totalOf 2 (some .long) 1 := ⟨kc_X9_totalOf, ki_X9, by decide, by decide, by decide +kernel⟩
theorem km_X9_totalOf : Cond.instanceMethod yX9_totalOf ∈ xTB := xTB_in (sg_4 (List.mem_of_getElem? (i := 114) (by decide +kernel))) rfl
theorem ke_X9_totalOf : Cond.selects "BetweenStops" yX9_totalOf yX9_totalOf ∈ xTB := xTB_in (sg_0 (List.mem_of_getElem? (i := 19) (by decide +kernel))) rfl
theorem mv_X9_totalOf : xMwV yX9_totalOf := ⟨km_X9_totalOf, ke_X9_totalOf⟩
theorem kc_X9_walksAtMost : Cond.code yX9_walksAtMost cX9_walksAtMost 3 (some .boolean) ∈ xTB := xTB_in (sg_4 (List.mem_of_getElem? (i := 119) (by decide +kernel))) rfl
theorem mw_X9_walksAtMost : xMw yX9_walksAtMost cX9_walksAtMost 3 (some .boolean) 1 := ⟨kc_X9_walksAtMost, ki_X9, by decide, by decide, by decide +kernel⟩
theorem km_X9_walksAtMost : Cond.instanceMethod yX9_walksAtMost ∈ xTB := xTB_in (sg_4 (List.mem_of_getElem? (i := 118) (by decide +kernel))) rfl
theorem ke_X9_walksAtMost : Cond.selects "BetweenStops" yX9_walksAtMost yX9_walksAtMost ∈ xTB := xTB_in (sg_0 (List.mem_of_getElem? (i := 20) (by decide +kernel))) rfl
theorem mv_X9_walksAtMost : xMwV yX9_walksAtMost := ⟨km_X9_walksAtMost, ke_X9_walksAtMost⟩
theorem kc_X9_dropsAtMost : Cond.code yX9_dropsAtMost cX9_dropsAtMost 3 (some .boolean) ∈ xTB := xTB_in (sg_4 (List.mem_of_getElem? (i := 123) (by decide +kernel))) rfl
theorem mw_X9_dropsAtMost : xMw yX9_dropsAtMost cX9_dropsAtMost 3 (some .boolean) 1 := ⟨kc_X9_dropsAtMost, ki_X9, by decide, by decide, by decide +kernel⟩
theorem km_X9_dropsAtMost : Cond.instanceMethod yX9_dropsAtMost ∈ xTB := xTB_in (sg_4 (List.mem_of_getElem? (i := 122) (by decide +kernel))) rfl
theorem ke_X9_dropsAtMost : Cond.selects "BetweenStops" yX9_dropsAtMost yX9_dropsAtMost ∈ xTB := xTB_in (sg_0 (List.mem_of_getElem? (i := 21) (by decide +kernel))) rfl
theorem mv_X9_dropsAtMost : xMwV yX9_dropsAtMost := ⟨km_X9_dropsAtMost, ke_X9_dropsAtMost⟩
theorem kc_X9_bound : Cond.code yX9_bound cX9_bound 2 (some .int) ∈ xTB := xTB_in (sg_4 (List.mem_of_getElem? (i := 127) (by decide +kernel))) rfl
theorem mw_X9_bound : xMw yX9_bound cX9_bound 2 (some .int) 1 := ⟨kc_X9_bound, ki_X9, by decide, by decide, by decide +kernel⟩
theorem km_X9_bound : Cond.instanceMethod yX9_bound ∈ xTB := xTB_in (sg_4 (List.mem_of_getElem? (i := 125) (by decide +kernel))) rfl
theorem ke_X9_bound : Cond.selects "BetweenStops" yX9_bound yX9_bound ∈ xTB := xTB_in (sg_4 (List.mem_of_getElem? (i := 126) (by decide +kernel))) rfl
theorem mv_X9_bound : xMwV yX9_bound := ⟨km_X9_bound, ke_X9_bound⟩
theorem kc_X9_least : Cond.code yX9_least cX9_least 2 (some .int) ∈ xTB := xTB_in (sg_4 (List.mem_of_getElem? (i := 132) (by decide +kernel))) rfl
theorem mw_X9_least : xMw yX9_least cX9_least 2 (some .int) 1 := ⟨kc_X9_least, ki_X9, by decide, by decide, by decide +kernel⟩
theorem km_X9_least : Cond.instanceMethod yX9_least ∈ xTB := xTB_in (sg_4 (List.mem_of_getElem? (i := 130) (by decide +kernel))) rfl
theorem ke_X9_least : Cond.selects "BetweenStops" yX9_least yX9_least ∈ xTB := xTB_in (sg_4 (List.mem_of_getElem? (i := 131) (by decide +kernel))) rfl
theorem mv_X9_least : xMwV yX9_least := ⟨km_X9_least, ke_X9_least⟩
theorem kc_X9_keepCosts : Cond.code yX9_keepCosts cX9_keepCosts 1 none ∈ xTB := xTB_in (sg_4 (List.mem_of_getElem? (i := 137) (by decide +kernel))) rfl
theorem mw_X9_keepCosts : xMw yX9_keepCosts cX9_keepCosts 1 none 0 := ⟨kc_X9_keepCosts, ki_X9, by decide, by decide, by decide +kernel⟩
theorem km_X9_keepCosts : Cond.instanceMethod yX9_keepCosts ∈ xTB := xTB_in (sg_4 (List.mem_of_getElem? (i := 136) (by decide +kernel))) rfl
theorem ke_X9_keepCosts : Cond.selects "BetweenStops" yX9_keepCosts yX9_keepCosts ∈ xTB := xTB_in (sg_0 (List.mem_of_getElem? (i := 22) (by decide +kernel))) rfl
theorem mv_X9_keepCosts : xMwV yX9_keepCosts := ⟨km_X9_keepCosts, ke_X9_keepCosts⟩
theorem kc_X9_fair : Cond.code yX9_fair cX9_fair 4 (some .int) ∈ xTB := xTB_in (sg_4 (List.mem_of_getElem? (i := 142) (by decide +kernel))) rfl
theorem mw_X9_fair : xMw yX9_fair cX9_fair 4 (some .int) 0 := ⟨kc_X9_fair, ki_X9, by decide, by decide, by decide +kernel⟩
theorem km_X9_fair : Cond.instanceMethod yX9_fair ∈ xTB := xTB_in (sg_4 (List.mem_of_getElem? (i := 140) (by decide +kernel))) rfl
theorem ke_X9_fair : Cond.selects "BetweenStops" yX9_fair yX9_fair ∈ xTB := xTB_in (sg_4 (List.mem_of_getElem? (i := 141) (by decide +kernel))) rfl
theorem mv_X9_fair : xMwV yX9_fair := ⟨km_X9_fair, ke_X9_fair⟩
theorem kc_X9_fewest : Cond.code yX9_fewest cX9_fewest 5 (some .int) ∈ xTB := xTB_in (sg_4 (List.mem_of_getElem? (i := 146) (by decide +kernel))) rfl
theorem mw_X9_fewest : xMw yX9_fewest cX9_fewest 5 (some .int) 1 := ⟨kc_X9_fewest, ki_X9, by decide, by decide, by decide +kernel⟩
theorem km_X9_fewest : Cond.instanceMethod yX9_fewest ∈ xTB := xTB_in (sg_4 (List.mem_of_getElem? (i := 144) (by decide +kernel))) rfl
theorem ke_X9_fewest : Cond.selects "BetweenStops" yX9_fewest yX9_fewest ∈ xTB := xTB_in (sg_4 (List.mem_of_getElem? (i := 145) (by decide +kernel))) rfl
theorem mv_X9_fewest : xMwV yX9_fewest := ⟨km_X9_fewest, ke_X9_fewest⟩
theorem kc_X9_judge : Cond.code yX9_judge cX9_judge 5 (some .int) ∈ xTB := xTB_in (sg_4 (List.mem_of_getElem? (i := 151) (by decide +kernel))) rfl
theorem mw_X9_judge : xMw yX9_judge cX9_judge 5 (some .int) 1 := ⟨kc_X9_judge, ki_X9, by decide, by decide, by decide +kernel⟩
theorem km_X9_judge : Cond.instanceMethod yX9_judge ∈ xTB := xTB_in (sg_4 (List.mem_of_getElem? (i := 149) (by decide +kernel))) rfl
theorem ke_X9_judge : Cond.selects "BetweenStops" yX9_judge yX9_judge ∈ xTB := xTB_in (sg_4 (List.mem_of_getElem? (i := 150) (by decide +kernel))) rfl
theorem mv_X9_judge : xMwV yX9_judge := ⟨km_X9_judge, ke_X9_judge⟩
theorem kc_X9_isSheet : Cond.code yX9_isSheet cX9_isSheet 1 (some .boolean) ∈ xTB := xTB_in (sg_4 (List.mem_of_getElem? (i := 154) (by decide +kernel))) rfl
theorem mw_X9_isSheet : xMw yX9_isSheet cX9_isSheet 1 (some .boolean) 1 := ⟨kc_X9_isSheet, ki_X9, by decide, by decide, by decide +kernel⟩
theorem ks_X9_isSheet : Cond.static yX9_isSheet ∈ xTB := xTB_in (sg_4 (List.mem_of_getElem? (i := 153) (by decide +kernel))) rfl
theorem kc_X2_isMissing : Cond.code yX2_isMissing cX2_isMissing 1 (some .boolean) ∈ xTB := xTB_in (sg_4 (List.mem_of_getElem? (i := 158) (by decide +kernel))) rfl
theorem mw_X2_isMissing : xMw yX2_isMissing cX2_isMissing 1 (some .boolean) 0 := ⟨kc_X2_isMissing, ki_X2, by decide, by decide, by decide +kernel⟩
theorem km_X2_isMissing : Cond.instanceMethod yX2_isMissing ∈ xTB := xTB_in (sg_4 (List.mem_of_getElem? (i := 156) (by decide +kernel))) rfl
theorem ke_X2_isMissing : Cond.selects "BetweenStops$Sheet" yX2_isMissing yX2_isMissing ∈ xTB := xTB_in (sg_4 (List.mem_of_getElem? (i := 157) (by decide +kernel))) rfl
theorem mv_X2_isMissing : xMwV yX2_isMissing := ⟨km_X2_isMissing, ke_X2_isMissing⟩
theorem kc_X9_patterns : Cond.code yX9_patterns cX9_patterns 12 (some .long) ∈ xTB := xTB_in (sg_4 (List.mem_of_getElem? (i := 162) (by decide +kernel))) rfl
theorem mw_X9_patterns : xMw yX9_patterns cX9_patterns 12 (some .long) 1 := ⟨kc_X9_patterns, ki_X9, by decide, by decide, by decide +kernel⟩
theorem km_X9_patterns : Cond.instanceMethod yX9_patterns ∈ xTB := xTB_in (sg_4 (List.mem_of_getElem? (i := 160) (by decide +kernel))) rfl
theorem ke_X9_patterns : Cond.selects "BetweenStops" yX9_patterns yX9_patterns ∈ xTB := xTB_in (sg_4 (List.mem_of_getElem? (i := 161) (by decide +kernel))) rfl
theorem mv_X9_patterns : xMwV yX9_patterns := ⟨km_X9_patterns, ke_X9_patterns⟩
theorem kc_X9_takePatterns : Cond.code yX9_takePatterns cX9_takePatterns 8 (some .int) ∈ xTB := xTB_in (sg_4 (List.mem_of_getElem? (i := 167) (by decide +kernel))) rfl
theorem mw_X9_takePatterns : xMw yX9_takePatterns cX9_takePatterns 8 (some .int) 2 := ⟨kc_X9_takePatterns, ki_X9, by decide, by decide, by decide +kernel⟩
theorem km_X9_takePatterns : Cond.instanceMethod yX9_takePatterns ∈ xTB := xTB_in (sg_4 (List.mem_of_getElem? (i := 166) (by decide +kernel))) rfl
theorem ke_X9_takePatterns : Cond.selects "BetweenStops" yX9_takePatterns yX9_takePatterns ∈ xTB := xTB_in (sg_0 (List.mem_of_getElem? (i := 23) (by decide +kernel))) rfl
theorem mv_X9_takePatterns : xMwV yX9_takePatterns := ⟨km_X9_takePatterns, ke_X9_takePatterns⟩
theorem kc_X9_bench : Cond.code yX9_bench cX9_bench 5 (some .long) ∈ xTB := xTB_in (sg_4 (List.mem_of_getElem? (i := 171) (by decide +kernel))) rfl
theorem mw_X9_bench : xMw yX9_bench cX9_bench 5 (some .long) 2 := ⟨kc_X9_bench, ki_X9, by decide, by decide, by decide +kernel⟩
theorem km_X9_bench : Cond.instanceMethod yX9_bench ∈ xTB := xTB_in (sg_4 (List.mem_of_getElem? (i := 169) (by decide +kernel))) rfl
theorem ke_X9_bench : Cond.selects "BetweenStops" yX9_bench yX9_bench ∈ xTB := xTB_in (sg_4 (List.mem_of_getElem? (i := 170) (by decide +kernel))) rfl
theorem mv_X9_bench : xMwV yX9_bench := ⟨km_X9_bench, ke_X9_bench⟩
theorem kc_X9_peopleWhoPayMore : Cond.code yX9_peopleWhoPayMore cX9_peopleWhoPayMore 4 (some .int) ∈ xTB := xTB_in (sg_4 (List.mem_of_getElem? (i := 175) (by decide +kernel))) rfl
theorem mw_X9_peopleWhoPayMore : xMw yX9_peopleWhoPayMore cX9_peopleWhoPayMore 4 (some .int) 1 := ⟨kc_X9_peopleWhoPayMore, ki_X9, by decide, by decide, by decide +kernel⟩
theorem km_X9_peopleWhoPayMore : Cond.instanceMethod yX9_peopleWhoPayMore ∈ xTB := xTB_in (sg_4 (List.mem_of_getElem? (i := 174) (by decide +kernel))) rfl
theorem ke_X9_peopleWhoPayMore : Cond.selects "BetweenStops" yX9_peopleWhoPayMore yX9_peopleWhoPayMore ∈ xTB := xTB_in (sg_0 (List.mem_of_getElem? (i := 24) (by decide +kernel))) rfl
theorem mv_X9_peopleWhoPayMore : xMwV yX9_peopleWhoPayMore := ⟨km_X9_peopleWhoPayMore, ke_X9_peopleWhoPayMore⟩
theorem kc_X9_mostPaidMore : Cond.code yX9_mostPaidMore cX9_mostPaidMore 3 (some .int) ∈ xTB := xTB_in (sg_4 (List.mem_of_getElem? (i := 179) (by decide +kernel))) rfl
theorem mw_X9_mostPaidMore : xMw yX9_mostPaidMore cX9_mostPaidMore 3 (some .int) 0 := ⟨kc_X9_mostPaidMore, ki_X9, by decide, by decide, by decide +kernel⟩
theorem km_X9_mostPaidMore : Cond.instanceMethod yX9_mostPaidMore ∈ xTB := xTB_in (sg_4 (List.mem_of_getElem? (i := 178) (by decide +kernel))) rfl
theorem ke_X9_mostPaidMore : Cond.selects "BetweenStops" yX9_mostPaidMore yX9_mostPaidMore ∈ xTB := xTB_in (sg_0 (List.mem_of_getElem? (i := 25) (by decide +kernel))) rfl
theorem mv_X9_mostPaidMore : xMwV yX9_mostPaidMore := ⟨km_X9_mostPaidMore, ke_X9_mostPaidMore⟩
theorem kc_X9_give : Cond.code yX9_give cX9_give 1 (some .int) ∈ xTB := xTB_in (sg_4 (List.mem_of_getElem? (i := 184) (by decide +kernel))) rfl
theorem mw_X9_give : xMw yX9_give cX9_give 1 (some .int) 0 := ⟨kc_X9_give, ki_X9, by decide, by decide, by decide +kernel⟩
theorem km_X9_give : Cond.instanceMethod yX9_give ∈ xTB := xTB_in (sg_4 (List.mem_of_getElem? (i := 182) (by decide +kernel))) rfl
theorem ke_X9_give : Cond.selects "BetweenStops" yX9_give yX9_give ∈ xTB := xTB_in (sg_4 (List.mem_of_getElem? (i := 183) (by decide +kernel))) rfl
theorem mv_X9_give : xMwV yX9_give := ⟨km_X9_give, ke_X9_give⟩
theorem kc_X9_givenUpOf : Cond.code yX9_givenUpOf cX9_givenUpOf 8 (some .int) ∈ xTB := xTB_in (sg_4 (List.mem_of_getElem? (i := 188) (by decide +kernel))) rfl
theorem mw_X9_givenUpOf : xMw yX9_givenUpOf cX9_givenUpOf 8 (some .int) 1 := ⟨kc_X9_givenUpOf, ki_X9, by decide, by decide, by decide +kernel⟩
theorem km_X9_givenUpOf : Cond.instanceMethod yX9_givenUpOf ∈ xTB := xTB_in (sg_4 (List.mem_of_getElem? (i := 187) (by decide +kernel))) rfl
theorem ke_X9_givenUpOf : Cond.selects "BetweenStops" yX9_givenUpOf yX9_givenUpOf ∈ xTB := xTB_in (sg_0 (List.mem_of_getElem? (i := 26) (by decide +kernel))) rfl
theorem mv_X9_givenUpOf : xMwV yX9_givenUpOf := ⟨km_X9_givenUpOf, ke_X9_givenUpOf⟩
theorem kc_X9_order : Cond.code yX9_order cX9_order 6 (some .int) ∈ xTB := xTB_in (sg_4 (List.mem_of_getElem? (i := 192) (by decide +kernel))) rfl
theorem mw_X9_order : xMw yX9_order cX9_order 6 (some .int) 1 := ⟨kc_X9_order, ki_X9, by decide, by decide, by decide +kernel⟩
theorem km_X9_order : Cond.instanceMethod yX9_order ∈ xTB := xTB_in (sg_4 (List.mem_of_getElem? (i := 190) (by decide +kernel))) rfl
theorem ke_X9_order : Cond.selects "BetweenStops" yX9_order yX9_order ∈ xTB := xTB_in (sg_4 (List.mem_of_getElem? (i := 191) (by decide +kernel))) rfl
theorem mv_X9_order : xMwV yX9_order := ⟨km_X9_order, ke_X9_order⟩
theorem kc_X9_thins : Cond.code yX9_thins cX9_thins 5 (some .int) ∈ xTB := xTB_in (sg_4 (List.mem_of_getElem? (i := 196) (by decide +kernel))) rfl
theorem mw_X9_thins : xMw yX9_thins cX9_thins 5 (some .int) 0 := ⟨kc_X9_thins, ki_X9, by decide, by decide, by decide +kernel⟩
theorem km_X9_thins : Cond.instanceMethod yX9_thins ∈ xTB := xTB_in (sg_4 (List.mem_of_getElem? (i := 194) (by decide +kernel))) rfl
theorem ke_X9_thins : Cond.selects "BetweenStops" yX9_thins yX9_thins ∈ xTB := xTB_in (sg_4 (List.mem_of_getElem? (i := 195) (by decide +kernel))) rfl
theorem mv_X9_thins : xMwV yX9_thins := ⟨km_X9_thins, ke_X9_thins⟩
theorem kc_X9_across : Cond.code yX9_across cX9_across 4 (some .long) ∈ xTB := xTB_in (sg_4 (List.mem_of_getElem? (i := 200) (by decide +kernel))) rfl
theorem mw_X9_across : xMw yX9_across cX9_across 4 (some .long) 1 := ⟨kc_X9_across, ki_X9, by decide, by decide, by decide +kernel⟩
theorem km_X9_across : Cond.instanceMethod yX9_across ∈ xTB := xTB_in (sg_4 (List.mem_of_getElem? (i := 198) (by decide +kernel))) rfl
theorem ke_X9_across : Cond.selects "BetweenStops" yX9_across yX9_across ∈ xTB := xTB_in (sg_4 (List.mem_of_getElem? (i := 199) (by decide +kernel))) rfl
theorem mv_X9_across : xMwV yX9_across := ⟨km_X9_across, ke_X9_across⟩
theorem kc_X9_homes : Cond.code yX9_homes cX9_homes 1 (some .int) ∈ xTB := xTB_in (sg_4 (List.mem_of_getElem? (i := 204) (by decide +kernel))) rfl
theorem mw_X9_homes : xMw yX9_homes cX9_homes 1 (some .int) 0 := ⟨kc_X9_homes, ki_X9, by decide, by decide, by decide +kernel⟩
theorem km_X9_homes : Cond.instanceMethod yX9_homes ∈ xTB := xTB_in (sg_4 (List.mem_of_getElem? (i := 202) (by decide +kernel))) rfl
theorem ke_X9_homes : Cond.selects "BetweenStops" yX9_homes yX9_homes ∈ xTB := xTB_in (sg_4 (List.mem_of_getElem? (i := 203) (by decide +kernel))) rfl
theorem mv_X9_homes : xMwV yX9_homes := ⟨km_X9_homes, ke_X9_homes⟩
theorem kc_X9_homesIf : Cond.code yX9_homesIf cX9_homesIf 4 (some .int) ∈ xTB := xTB_in (sg_4 (List.mem_of_getElem? (i := 208) (by decide +kernel))) rfl
theorem mw_X9_homesIf : xMw yX9_homesIf cX9_homesIf 4 (some .int) 1 := ⟨kc_X9_homesIf, ki_X9, by decide, by decide, by decide +kernel⟩
theorem km_X9_homesIf : Cond.instanceMethod yX9_homesIf ∈ xTB := xTB_in (sg_4 (List.mem_of_getElem? (i := 207) (by decide +kernel))) rfl
theorem ke_X9_homesIf : Cond.selects "BetweenStops" yX9_homesIf yX9_homesIf ∈ xTB := xTB_in (sg_0 (List.mem_of_getElem? (i := 27) (by decide +kernel))) rfl
theorem mv_X9_homesIf : xMwV yX9_homesIf := ⟨km_X9_homesIf, ke_X9_homesIf⟩
theorem kc_X5_valueOf : Cond.code yX5_valueOf cX5_valueOf 5 (some .int) ∈ xTB := xTB_in (sg_4 (List.mem_of_getElem? (i := 212) (by decide +kernel))) rfl
theorem mw_X5_valueOf : xMw yX5_valueOf cX5_valueOf 5 (some .int) 2 := ⟨kc_X5_valueOf, ki_X5, by decide, by decide, by decide +kernel⟩
theorem km_X5_valueOf : Cond.instanceMethod yX5_valueOf ∈ xTB := xTB_in (sg_4 (List.mem_of_getElem? (i := 210) (by decide +kernel))) rfl
theorem ke_X5_valueOf : Cond.selects "BetweenStops$Text" yX5_valueOf yX5_valueOf ∈ xTB := xTB_in (sg_4 (List.mem_of_getElem? (i := 211) (by decide +kernel))) rfl
theorem mv_X5_valueOf : xMwV yX5_valueOf := ⟨km_X5_valueOf, ke_X5_valueOf⟩
theorem kc_X5_step : Cond.code yX5_step cX5_step 5 (some .int) ∈ xTB := xTB_in (sg_4 (List.mem_of_getElem? (i := 216) (by decide +kernel))) rfl
theorem mw_X5_step : xMw yX5_step cX5_step 5 (some .int) 3 := ⟨kc_X5_step, ki_X5, by decide, by decide, by decide +kernel⟩
theorem km_X5_step : Cond.instanceMethod yX5_step ∈ xTB := xTB_in (sg_4 (List.mem_of_getElem? (i := 215) (by decide +kernel))) rfl
theorem ke_X5_step : Cond.selects "BetweenStops$Text" yX5_step yX5_step ∈ xTB := xTB_in (sg_0 (List.mem_of_getElem? (i := 28) (by decide +kernel))) rfl
theorem mv_X5_step : xMwV yX5_step := ⟨km_X5_step, ke_X5_step⟩
theorem kc_X5_joined : Cond.code yX5_joined cX5_joined 3 (some .int) ∈ xTB := xTB_in (sg_4 (List.mem_of_getElem? (i := 220) (by decide +kernel))) rfl
theorem mw_X5_joined : xMw yX5_joined cX5_joined 3 (some .int) 3 := ⟨kc_X5_joined, ki_X5, by decide, by decide, by decide +kernel⟩
theorem ks_X5_joined : Cond.static yX5_joined ∈ xTB := xTB_in (sg_4 (List.mem_of_getElem? (i := 219) (by decide +kernel))) rfl
theorem kc_X9_round : Cond.code yX9_round cX9_round 2 (some .int) ∈ xTB := xTB_in (sg_4 (List.mem_of_getElem? (i := 224) (by decide +kernel))) rfl
theorem mw_X9_round : xMw yX9_round cX9_round 2 (some .int) 1 := ⟨kc_X9_round, ki_X9, by decide, by decide, by decide +kernel⟩
theorem km_X9_round : Cond.instanceMethod yX9_round ∈ xTB := xTB_in (sg_4 (List.mem_of_getElem? (i := 222) (by decide +kernel))) rfl
theorem ke_X9_round : Cond.selects "BetweenStops" yX9_round yX9_round ∈ xTB := xTB_in (sg_4 (List.mem_of_getElem? (i := 223) (by decide +kernel))) rfl
theorem mv_X9_round : xMwV yX9_round := ⟨km_X9_round, ke_X9_round⟩
theorem kc_X9_goRounds : Cond.code yX9_goRounds cX9_goRounds 5 none ∈ xTB := xTB_in (sg_4 (List.mem_of_getElem? (i := 228) (by decide +kernel))) rfl
theorem mw_X9_goRounds : xMw yX9_goRounds cX9_goRounds 5 none 1 := ⟨kc_X9_goRounds, ki_X9, by decide, by decide, by decide +kernel⟩
theorem km_X9_goRounds : Cond.instanceMethod yX9_goRounds ∈ xTB := xTB_in (sg_4 (List.mem_of_getElem? (i := 227) (by decide +kernel))) rfl
theorem ke_X9_goRounds : Cond.selects "BetweenStops" yX9_goRounds yX9_goRounds ∈ xTB := xTB_in (sg_0 (List.mem_of_getElem? (i := 29) (by decide +kernel))) rfl
theorem mv_X9_goRounds : xMwV yX9_goRounds := ⟨km_X9_goRounds, ke_X9_goRounds⟩
theorem kc_X6_peopleBut : Cond.code yX6_peopleBut cX6_peopleBut 4 (some .int) ∈ xTB := xTB_in (sg_4 (List.mem_of_getElem? (i := 232) (by decide +kernel))) rfl
theorem mw_X6_peopleBut : xMw yX6_peopleBut cX6_peopleBut 4 (some .int) 1 := ⟨kc_X6_peopleBut, ki_X6, by decide, by decide, by decide +kernel⟩
theorem km_X6_peopleBut : Cond.instanceMethod yX6_peopleBut ∈ xTB := xTB_in (sg_4 (List.mem_of_getElem? (i := 230) (by decide +kernel))) rfl
theorem ke_X6_peopleBut : Cond.selects "BetweenStops$Town" yX6_peopleBut yX6_peopleBut ∈ xTB := xTB_in (sg_4 (List.mem_of_getElem? (i := 231) (by decide +kernel))) rfl
theorem mv_X6_peopleBut : xMwV yX6_peopleBut := ⟨km_X6_peopleBut, ke_X6_peopleBut⟩
theorem kc_X9_atBounds : Cond.code yX9_atBounds cX9_atBounds 3 (some .int) ∈ xTB := xTB_in (sg_4 (List.mem_of_getElem? (i := 235) (by decide +kernel))) rfl
theorem mw_X9_atBounds : xMw yX9_atBounds cX9_atBounds 3 (some .int) 3 := ⟨kc_X9_atBounds, ki_X9, by decide, by decide, by decide +kernel⟩
theorem ks_X9_atBounds : Cond.static yX9_atBounds ∈ xTB := xTB_in (sg_4 (List.mem_of_getElem? (i := 234) (by decide +kernel))) rfl
theorem kc_X9_rest : Cond.code yX9_rest cX9_rest 4 (some .int) ∈ xTB := xTB_in (sg_4 (List.mem_of_getElem? (i := 239) (by decide +kernel))) rfl
theorem mw_X9_rest : xMw yX9_rest cX9_rest 4 (some .int) 1 := ⟨kc_X9_rest, ki_X9, by decide, by decide, by decide +kernel⟩
theorem km_X9_rest : Cond.instanceMethod yX9_rest ∈ xTB := xTB_in (sg_4 (List.mem_of_getElem? (i := 237) (by decide +kernel))) rfl
theorem ke_X9_rest : Cond.selects "BetweenStops" yX9_rest yX9_rest ∈ xTB := xTB_in (sg_4 (List.mem_of_getElem? (i := 238) (by decide +kernel))) rfl
theorem mv_X9_rest : xMwV yX9_rest := ⟨km_X9_rest, ke_X9_rest⟩
theorem kc_X9_asks : Cond.code yX9_asks cX9_asks 2 (some .int) ∈ xTB := xTB_in (sg_5 (List.mem_of_getElem? (i := 3) (by decide +kernel))) rfl
theorem mw_X9_asks : xMw yX9_asks cX9_asks 2 (some .int) 1 := ⟨kc_X9_asks, ki_X9, by decide, by decide, by decide +kernel⟩
theorem km_X9_asks : Cond.instanceMethod yX9_asks ∈ xTB := xTB_in (sg_5 (List.mem_of_getElem? (i := 1) (by decide +kernel))) rfl
theorem ke_X9_asks : Cond.selects "BetweenStops" yX9_asks yX9_asks ∈ xTB := xTB_in (sg_5 (List.mem_of_getElem? (i := 2) (by decide +kernel))) rfl
theorem mv_X9_asks : xMwV yX9_asks := ⟨km_X9_asks, ke_X9_asks⟩
theorem kc_X9_wantedNow : Cond.code yX9_wantedNow cX9_wantedNow 2 (some .int) ∈ xTB := xTB_in (sg_5 (List.mem_of_getElem? (i := 7) (by decide +kernel))) rfl
theorem mw_X9_wantedNow : xMw yX9_wantedNow cX9_wantedNow 2 (some .int) 1 := ⟨kc_X9_wantedNow, ki_X9, by decide, by decide, by decide +kernel⟩
theorem km_X9_wantedNow : Cond.instanceMethod yX9_wantedNow ∈ xTB := xTB_in (sg_5 (List.mem_of_getElem? (i := 6) (by decide +kernel))) rfl
theorem ke_X9_wantedNow : Cond.selects "BetweenStops" yX9_wantedNow yX9_wantedNow ∈ xTB := xTB_in (sg_0 (List.mem_of_getElem? (i := 30) (by decide +kernel))) rfl
theorem mv_X9_wantedNow : xMwV yX9_wantedNow := ⟨km_X9_wantedNow, ke_X9_wantedNow⟩
theorem kc_X9_nameStop : Cond.code yX9_nameStop cX9_nameStop 4 none ∈ xTB := xTB_in (sg_5 (List.mem_of_getElem? (i := 11) (by decide +kernel))) rfl
theorem mw_X9_nameStop : xMw yX9_nameStop cX9_nameStop 4 none 3 := ⟨kc_X9_nameStop, ki_X9, by decide, by decide, by decide +kernel⟩
theorem km_X9_nameStop : Cond.instanceMethod yX9_nameStop ∈ xTB := xTB_in (sg_5 (List.mem_of_getElem? (i := 10) (by decide +kernel))) rfl
theorem ke_X9_nameStop : Cond.selects "BetweenStops" yX9_nameStop yX9_nameStop ∈ xTB := xTB_in (sg_0 (List.mem_of_getElem? (i := 31) (by decide +kernel))) rfl
theorem mv_X9_nameStop : xMwV yX9_nameStop := ⟨km_X9_nameStop, ke_X9_nameStop⟩
theorem kc_X9_asked : Cond.code yX9_asked cX9_asked 3 (some .int) ∈ xTB := xTB_in (sg_5 (List.mem_of_getElem? (i := 16) (by decide +kernel))) rfl
theorem mw_X9_asked : xMw yX9_asked cX9_asked 3 (some .int) 0 := ⟨kc_X9_asked, ki_X9, by decide, by decide, by decide +kernel⟩
theorem km_X9_asked : Cond.instanceMethod yX9_asked ∈ xTB := xTB_in (sg_5 (List.mem_of_getElem? (i := 14) (by decide +kernel))) rfl
theorem ke_X9_asked : Cond.selects "BetweenStops" yX9_asked yX9_asked ∈ xTB := xTB_in (sg_5 (List.mem_of_getElem? (i := 15) (by decide +kernel))) rfl
theorem mv_X9_asked : xMwV yX9_asked := ⟨km_X9_asked, ke_X9_asked⟩
theorem kc_X9_bunch : Cond.code yX9_bunch cX9_bunch 3 (some .int) ∈ xTB := xTB_in (sg_5 (List.mem_of_getElem? (i := 20) (by decide +kernel))) rfl
theorem mw_X9_bunch : xMw yX9_bunch cX9_bunch 3 (some .int) 2 := ⟨kc_X9_bunch, ki_X9, by decide, by decide, by decide +kernel⟩
theorem km_X9_bunch : Cond.instanceMethod yX9_bunch ∈ xTB := xTB_in (sg_5 (List.mem_of_getElem? (i := 18) (by decide +kernel))) rfl
theorem ke_X9_bunch : Cond.selects "BetweenStops" yX9_bunch yX9_bunch ∈ xTB := xTB_in (sg_5 (List.mem_of_getElem? (i := 19) (by decide +kernel))) rfl
theorem mv_X9_bunch : xMwV yX9_bunch := ⟨km_X9_bunch, ke_X9_bunch⟩
theorem kc_X9_runCars : Cond.code yX9_runCars cX9_runCars 4 none ∈ xTB := xTB_in (sg_5 (List.mem_of_getElem? (i := 24) (by decide +kernel))) rfl
theorem mw_X9_runCars : xMw yX9_runCars cX9_runCars 4 none 2 := ⟨kc_X9_runCars, ki_X9, by decide, by decide, by decide +kernel⟩
theorem km_X9_runCars : Cond.instanceMethod yX9_runCars ∈ xTB := xTB_in (sg_5 (List.mem_of_getElem? (i := 23) (by decide +kernel))) rfl
theorem ke_X9_runCars : Cond.selects "BetweenStops" yX9_runCars yX9_runCars ∈ xTB := xTB_in (sg_0 (List.mem_of_getElem? (i := 32) (by decide +kernel))) rfl
theorem mv_X9_runCars : xMwV yX9_runCars := ⟨km_X9_runCars, ke_X9_runCars⟩
theorem kc_X9_endOf : Cond.code yX9_endOf cX9_endOf 6 (some .int) ∈ xTB := xTB_in (sg_5 (List.mem_of_getElem? (i := 28) (by decide +kernel))) rfl
theorem mw_X9_endOf : xMw yX9_endOf cX9_endOf 6 (some .int) 2 := ⟨kc_X9_endOf, ki_X9, by decide, by decide, by decide +kernel⟩
theorem km_X9_endOf : Cond.instanceMethod yX9_endOf ∈ xTB := xTB_in (sg_5 (List.mem_of_getElem? (i := 27) (by decide +kernel))) rfl
theorem ke_X9_endOf : Cond.selects "BetweenStops" yX9_endOf yX9_endOf ∈ xTB := xTB_in (sg_0 (List.mem_of_getElem? (i := 33) (by decide +kernel))) rfl
theorem mv_X9_endOf : xMwV yX9_endOf := ⟨km_X9_endOf, ke_X9_endOf⟩
theorem kc_X9_stopsNow : Cond.code yX9_stopsNow cX9_stopsNow 3 (some .boolean) ∈ xTB := xTB_in (sg_5 (List.mem_of_getElem? (i := 32) (by decide +kernel))) rfl
theorem mw_X9_stopsNow : xMw yX9_stopsNow cX9_stopsNow 3 (some .boolean) 2 := ⟨kc_X9_stopsNow, ki_X9, by decide, by decide, by decide +kernel⟩
theorem km_X9_stopsNow : Cond.instanceMethod yX9_stopsNow ∈ xTB := xTB_in (sg_5 (List.mem_of_getElem? (i := 31) (by decide +kernel))) rfl
theorem ke_X9_stopsNow : Cond.selects "BetweenStops" yX9_stopsNow yX9_stopsNow ∈ xTB := xTB_in (sg_0 (List.mem_of_getElem? (i := 34) (by decide +kernel))) rfl
theorem mv_X9_stopsNow : xMwV yX9_stopsNow := ⟨km_X9_stopsNow, ke_X9_stopsNow⟩
theorem kc_X9_leave : Cond.code yX9_leave cX9_leave 5 (some .int) ∈ xTB := xTB_in (sg_5 (List.mem_of_getElem? (i := 36) (by decide +kernel))) rfl
theorem mw_X9_leave : xMw yX9_leave cX9_leave 5 (some .int) 2 := ⟨kc_X9_leave, ki_X9, by decide, by decide, by decide +kernel⟩
theorem km_X9_leave : Cond.instanceMethod yX9_leave ∈ xTB := xTB_in (sg_5 (List.mem_of_getElem? (i := 35) (by decide +kernel))) rfl
theorem ke_X9_leave : Cond.selects "BetweenStops" yX9_leave yX9_leave ∈ xTB := xTB_in (sg_0 (List.mem_of_getElem? (i := 35) (by decide +kernel))) rfl
theorem mv_X9_leave : xMwV yX9_leave := ⟨km_X9_leave, ke_X9_leave⟩
theorem kc_X9_crowd : Cond.code yX9_crowd cX9_crowd 5 (some .int) ∈ xTB := xTB_in (sg_5 (List.mem_of_getElem? (i := 40) (by decide +kernel))) rfl
theorem mw_X9_crowd : xMw yX9_crowd cX9_crowd 5 (some .int) 2 := ⟨kc_X9_crowd, ki_X9, by decide, by decide, by decide +kernel⟩
theorem km_X9_crowd : Cond.instanceMethod yX9_crowd ∈ xTB := xTB_in (sg_5 (List.mem_of_getElem? (i := 38) (by decide +kernel))) rfl
theorem ke_X9_crowd : Cond.selects "BetweenStops" yX9_crowd yX9_crowd ∈ xTB := xTB_in (sg_5 (List.mem_of_getElem? (i := 39) (by decide +kernel))) rfl
theorem mv_X9_crowd : xMwV yX9_crowd := ⟨km_X9_crowd, ke_X9_crowd⟩
theorem kc_X9_drawn : Cond.code yX9_drawn cX9_drawn 3 (some .int) ∈ xTB := xTB_in (sg_5 (List.mem_of_getElem? (i := 44) (by decide +kernel))) rfl
theorem mw_X9_drawn : xMw yX9_drawn cX9_drawn 3 (some .int) 2 := ⟨kc_X9_drawn, ki_X9, by decide, by decide, by decide +kernel⟩
theorem km_X9_drawn : Cond.instanceMethod yX9_drawn ∈ xTB := xTB_in (sg_5 (List.mem_of_getElem? (i := 42) (by decide +kernel))) rfl
theorem ke_X9_drawn : Cond.selects "BetweenStops" yX9_drawn yX9_drawn ∈ xTB := xTB_in (sg_5 (List.mem_of_getElem? (i := 43) (by decide +kernel))) rfl
theorem mv_X9_drawn : xMwV yX9_drawn := ⟨km_X9_drawn, ke_X9_drawn⟩
theorem kc_X9_drawnRide : Cond.code yX9_drawnRide cX9_drawnRide 13 (some .int) ∈ xTB := xTB_in (sg_5 (List.mem_of_getElem? (i := 48) (by decide +kernel))) rfl
theorem mw_X9_drawnRide : xMw yX9_drawnRide cX9_drawnRide 13 (some .int) 3 := ⟨kc_X9_drawnRide, ki_X9, by decide, by decide, by decide +kernel⟩
theorem km_X9_drawnRide : Cond.instanceMethod yX9_drawnRide ∈ xTB := xTB_in (sg_5 (List.mem_of_getElem? (i := 47) (by decide +kernel))) rfl
theorem ke_X9_drawnRide : Cond.selects "BetweenStops" yX9_drawnRide yX9_drawnRide ∈ xTB := xTB_in (sg_0 (List.mem_of_getElem? (i := 36) (by decide +kernel))) rfl
theorem mv_X9_drawnRide : xMwV yX9_drawnRide := ⟨km_X9_drawnRide, ke_X9_drawnRide⟩
theorem kc_X9_nextLot : Cond.code yX9_nextLot cX9_nextLot 2 (some .long) ∈ xTB := xTB_in (sg_5 (List.mem_of_getElem? (i := 51) (by decide +kernel))) rfl
theorem mw_X9_nextLot : xMw yX9_nextLot cX9_nextLot 2 (some .long) 1 := ⟨kc_X9_nextLot, ki_X9, by decide, by decide, by decide +kernel⟩
theorem ks_X9_nextLot : Cond.static yX9_nextLot ∈ xTB := xTB_in (sg_5 (List.mem_of_getElem? (i := 50) (by decide +kernel))) rfl
theorem kc_X3_secondsDrawn : Cond.code yX3_secondsDrawn cX3_secondsDrawn 2 (some .int) ∈ xTB := xTB_in (sg_5 (List.mem_of_getElem? (i := 59) (by decide +kernel))) rfl
theorem mw_X3_secondsDrawn : xMw yX3_secondsDrawn cX3_secondsDrawn 2 (some .int) 1 := ⟨kc_X3_secondsDrawn, ki_X3, by decide, by decide, by decide +kernel⟩
theorem km_X3_secondsDrawn : Cond.instanceMethod yX3_secondsDrawn ∈ xTB := xTB_in (sg_5 (List.mem_of_getElem? (i := 57) (by decide +kernel))) rfl
theorem ke_X3_secondsDrawn : Cond.selects "BetweenStops$Stop" yX3_secondsDrawn yX3_secondsDrawn ∈ xTB := xTB_in (sg_5 (List.mem_of_getElem? (i := 58) (by decide +kernel))) rfl
theorem mv_X3_secondsDrawn : xMwV yX3_secondsDrawn := ⟨km_X3_secondsDrawn, ke_X3_secondsDrawn⟩
theorem kc_X9_image : Cond.code yX9_image cX9_image 1 (some .int) ∈ xTB := xTB_in (sg_5 (List.mem_of_getElem? (i := 64) (by decide +kernel))) rfl
theorem mw_X9_image : xMw yX9_image cX9_image 1 (some .int) 0 := ⟨kc_X9_image, ki_X9, by decide, by decide, by decide +kernel⟩
theorem km_X9_image : Cond.instanceMethod yX9_image ∈ xTB := xTB_in (sg_5 (List.mem_of_getElem? (i := 62) (by decide +kernel))) rfl
theorem ke_X9_image : Cond.selects "BetweenStops" yX9_image yX9_image ∈ xTB := xTB_in (sg_5 (List.mem_of_getElem? (i := 63) (by decide +kernel))) rfl
theorem mv_X9_image : xMwV yX9_image := ⟨km_X9_image, ke_X9_image⟩
theorem kc_X0_keep : Cond.code yX0_keep cX0_keep 4 none ∈ xTB := xTB_in (sg_5 (List.mem_of_getElem? (i := 68) (by decide +kernel))) rfl
theorem mw_X0_keep : xMw yX0_keep cX0_keep 4 none 2 := ⟨kc_X0_keep, ki_X0, by decide, by decide, by decide +kernel⟩
theorem km_X0_keep : Cond.instanceMethod yX0_keep ∈ xTB := xTB_in (sg_5 (List.mem_of_getElem? (i := 66) (by decide +kernel))) rfl
theorem ke_X0_keep : Cond.selects "BetweenStops$Image" yX0_keep yX0_keep ∈ xTB := xTB_in (sg_5 (List.mem_of_getElem? (i := 67) (by decide +kernel))) rfl
theorem mv_X0_keep : xMwV yX0_keep := ⟨km_X0_keep, ke_X0_keep⟩
theorem kc_X9_back : Cond.code yX9_back cX9_back 1 (some .int) ∈ xTB := xTB_in (sg_5 (List.mem_of_getElem? (i := 73) (by decide +kernel))) rfl
theorem mw_X9_back : xMw yX9_back cX9_back 1 (some .int) 0 := ⟨kc_X9_back, ki_X9, by decide, by decide, by decide +kernel⟩
theorem km_X9_back : Cond.instanceMethod yX9_back ∈ xTB := xTB_in (sg_5 (List.mem_of_getElem? (i := 71) (by decide +kernel))) rfl
theorem ke_X9_back : Cond.selects "BetweenStops" yX9_back yX9_back ∈ xTB := xTB_in (sg_5 (List.mem_of_getElem? (i := 72) (by decide +kernel))) rfl
theorem mv_X9_back : xMwV yX9_back := ⟨km_X9_back, ke_X9_back⟩
theorem kc_X0_giveBack : Cond.code yX0_giveBack cX0_giveBack 3 none ∈ xTB := xTB_in (sg_5 (List.mem_of_getElem? (i := 77) (by decide +kernel))) rfl
theorem mw_X0_giveBack : xMw yX0_giveBack cX0_giveBack 3 none 1 := ⟨kc_X0_giveBack, ki_X0, by decide, by decide, by decide +kernel⟩
theorem km_X0_giveBack : Cond.instanceMethod yX0_giveBack ∈ xTB := xTB_in (sg_5 (List.mem_of_getElem? (i := 75) (by decide +kernel))) rfl
theorem ke_X0_giveBack : Cond.selects "BetweenStops$Image" yX0_giveBack yX0_giveBack ∈ xTB := xTB_in (sg_5 (List.mem_of_getElem? (i := 76) (by decide +kernel))) rfl
theorem mv_X0_giveBack : xMwV yX0_giveBack := ⟨km_X0_giveBack, ke_X0_giveBack⟩
theorem kc_X9_sheet : Cond.code yX9_sheet cX9_sheet 4 (some .int) ∈ xTB := xTB_in (sg_5 (List.mem_of_getElem? (i := 82) (by decide +kernel))) rfl
theorem mw_X9_sheet : xMw yX9_sheet cX9_sheet 4 (some .int) 3 := ⟨kc_X9_sheet, ki_X9, by decide, by decide, by decide +kernel⟩
theorem km_X9_sheet : Cond.instanceMethod yX9_sheet ∈ xTB := xTB_in (sg_5 (List.mem_of_getElem? (i := 80) (by decide +kernel))) rfl
theorem ke_X9_sheet : Cond.selects "BetweenStops" yX9_sheet yX9_sheet ∈ xTB := xTB_in (sg_5 (List.mem_of_getElem? (i := 81) (by decide +kernel))) rfl
theorem mv_X9_sheet : xMwV yX9_sheet := ⟨km_X9_sheet, ke_X9_sheet⟩
theorem kc_X2_begin : Cond.code yX2_begin cX2_begin 3 none ∈ xTB := xTB_in (sg_5 (List.mem_of_getElem? (i := 86) (by decide +kernel))) rfl
theorem mw_X2_begin : xMw yX2_begin cX2_begin 3 none 2 := ⟨kc_X2_begin, ki_X2, by decide, by decide, by decide +kernel⟩
theorem km_X2_begin : Cond.instanceMethod yX2_begin ∈ xTB := xTB_in (sg_5 (List.mem_of_getElem? (i := 84) (by decide +kernel))) rfl
theorem ke_X2_begin : Cond.selects "BetweenStops$Sheet" yX2_begin yX2_begin ∈ xTB := xTB_in (sg_5 (List.mem_of_getElem? (i := 85) (by decide +kernel))) rfl
theorem mv_X2_begin : xMwV yX2_begin := ⟨km_X2_begin, ke_X2_begin⟩
theorem kc_X9_cell : Cond.code yX9_cell cX9_cell 4 (some .int) ∈ xTB := xTB_in (sg_5 (List.mem_of_getElem? (i := 91) (by decide +kernel))) rfl
theorem mw_X9_cell : xMw yX9_cell cX9_cell 4 (some .int) 3 := ⟨kc_X9_cell, ki_X9, by decide, by decide, by decide +kernel⟩
theorem km_X9_cell : Cond.instanceMethod yX9_cell ∈ xTB := xTB_in (sg_5 (List.mem_of_getElem? (i := 89) (by decide +kernel))) rfl
theorem ke_X9_cell : Cond.selects "BetweenStops" yX9_cell yX9_cell ∈ xTB := xTB_in (sg_5 (List.mem_of_getElem? (i := 90) (by decide +kernel))) rfl
theorem mv_X9_cell : xMwV yX9_cell := ⟨km_X9_cell, ke_X9_cell⟩
theorem kc_X2_holds : Cond.code yX2_holds cX2_holds 2 (some .boolean) ∈ xTB := xTB_in (sg_5 (List.mem_of_getElem? (i := 95) (by decide +kernel))) rfl
theorem mw_X2_holds : xMw yX2_holds cX2_holds 2 (some .boolean) 1 := ⟨kc_X2_holds, ki_X2, by decide, by decide, by decide +kernel⟩
theorem km_X2_holds : Cond.instanceMethod yX2_holds ∈ xTB := xTB_in (sg_5 (List.mem_of_getElem? (i := 93) (by decide +kernel))) rfl
theorem ke_X2_holds : Cond.selects "BetweenStops$Sheet" yX2_holds yX2_holds ∈ xTB := xTB_in (sg_5 (List.mem_of_getElem? (i := 94) (by decide +kernel))) rfl
theorem mv_X2_holds : xMwV yX2_holds := ⟨km_X2_holds, ke_X2_holds⟩
theorem kc_X2_write : Cond.code yX2_write cX2_write 3 none ∈ xTB := xTB_in (sg_5 (List.mem_of_getElem? (i := 99) (by decide +kernel))) rfl
theorem mw_X2_write : xMw yX2_write cX2_write 3 none 2 := ⟨kc_X2_write, ki_X2, by decide, by decide, by decide +kernel⟩
theorem km_X2_write : Cond.instanceMethod yX2_write ∈ xTB := xTB_in (sg_5 (List.mem_of_getElem? (i := 97) (by decide +kernel))) rfl
theorem ke_X2_write : Cond.selects "BetweenStops$Sheet" yX2_write yX2_write ∈ xTB := xTB_in (sg_5 (List.mem_of_getElem? (i := 98) (by decide +kernel))) rfl
theorem mv_X2_write : xMwV yX2_write := ⟨km_X2_write, ke_X2_write⟩
theorem kc_X9_copy : Cond.code yX9_copy cX9_copy 8 (some .int) ∈ xTB := xTB_in (sg_5 (List.mem_of_getElem? (i := 103) (by decide +kernel))) rfl
theorem mw_X9_copy : xMw yX9_copy cX9_copy 8 (some .int) 5 := ⟨kc_X9_copy, ki_X9, by decide, by decide, by decide +kernel⟩
theorem km_X9_copy : Cond.instanceMethod yX9_copy ∈ xTB := xTB_in (sg_5 (List.mem_of_getElem? (i := 101) (by decide +kernel))) rfl
theorem ke_X9_copy : Cond.selects "BetweenStops" yX9_copy yX9_copy ∈ xTB := xTB_in (sg_5 (List.mem_of_getElem? (i := 102) (by decide +kernel))) rfl
theorem mv_X9_copy : xMwV yX9_copy := ⟨km_X9_copy, ke_X9_copy⟩
theorem kc_X2_holdsRow : Cond.code yX2_holdsRow cX2_holdsRow 3 (some .boolean) ∈ xTB := xTB_in (sg_5 (List.mem_of_getElem? (i := 107) (by decide +kernel))) rfl
theorem mw_X2_holdsRow : xMw yX2_holdsRow cX2_holdsRow 3 (some .boolean) 2 := ⟨kc_X2_holdsRow, ki_X2, by decide, by decide, by decide +kernel⟩
theorem km_X2_holdsRow : Cond.instanceMethod yX2_holdsRow ∈ xTB := xTB_in (sg_5 (List.mem_of_getElem? (i := 105) (by decide +kernel))) rfl
theorem ke_X2_holdsRow : Cond.selects "BetweenStops$Sheet" yX2_holdsRow yX2_holdsRow ∈ xTB := xTB_in (sg_5 (List.mem_of_getElem? (i := 106) (by decide +kernel))) rfl
theorem mv_X2_holdsRow : xMwV yX2_holdsRow := ⟨km_X2_holdsRow, ke_X2_holdsRow⟩
theorem kc_X9_tripsBy : Cond.code yX9_tripsBy cX9_tripsBy 9 (some .int) ∈ xTB := xTB_in (sg_5 (List.mem_of_getElem? (i := 111) (by decide +kernel))) rfl
theorem mw_X9_tripsBy : xMw yX9_tripsBy cX9_tripsBy 9 (some .int) 4 := ⟨kc_X9_tripsBy, ki_X9, by decide, by decide, by decide +kernel⟩
theorem km_X9_tripsBy : Cond.instanceMethod yX9_tripsBy ∈ xTB := xTB_in (sg_5 (List.mem_of_getElem? (i := 109) (by decide +kernel))) rfl
theorem ke_X9_tripsBy : Cond.selects "BetweenStops" yX9_tripsBy yX9_tripsBy ∈ xTB := xTB_in (sg_5 (List.mem_of_getElem? (i := 110) (by decide +kernel))) rfl
theorem mv_X9_tripsBy : xMwV yX9_tripsBy := ⟨km_X9_tripsBy, ke_X9_tripsBy⟩
theorem kc_X9_taken : Cond.code yX9_taken cX9_taken 4 (some .int) ∈ xTB := xTB_in (sg_5 (List.mem_of_getElem? (i := 116) (by decide +kernel))) rfl
theorem mw_X9_taken : xMw yX9_taken cX9_taken 4 (some .int) 2 := ⟨kc_X9_taken, ki_X9, by decide, by decide, by decide +kernel⟩
theorem km_X9_taken : Cond.instanceMethod yX9_taken ∈ xTB := xTB_in (sg_5 (List.mem_of_getElem? (i := 114) (by decide +kernel))) rfl
theorem ke_X9_taken : Cond.selects "BetweenStops" yX9_taken yX9_taken ∈ xTB := xTB_in (sg_5 (List.mem_of_getElem? (i := 115) (by decide +kernel))) rfl
theorem mv_X9_taken : xMwV yX9_taken := ⟨km_X9_taken, ke_X9_taken⟩
theorem kc_X10_init : Cond.code yX10_init cX10_init 1 none ∈ xTB := xTB_in (sg_5 (List.mem_of_getElem? (i := 121) (by decide +kernel))) rfl
theorem mw_X10_init : xMw yX10_init cX10_init 1 none 0 := ⟨kc_X10_init, ki_X10, by decide, by decide, by decide +kernel⟩
theorem km_X10_init : Cond.instanceMethod yX10_init ∈ xTB := xTB_in (sg_5 (List.mem_of_getElem? (i := 120) (by decide +kernel))) rfl
theorem kc_X10_first : Cond.code yX10_first cX10_first 6 none ∈ xTB := xTB_in (sg_5 (List.mem_of_getElem? (i := 139) (by decide +kernel))) rfl
theorem mw_X10_first : xMw yX10_first cX10_first 6 none 5 := ⟨kc_X10_first, ki_X10, by decide, by decide, by decide +kernel⟩
theorem km_X10_first : Cond.instanceMethod yX10_first ∈ xTB := xTB_in (sg_5 (List.mem_of_getElem? (i := 138) (by decide +kernel))) rfl
theorem ke_X10_first : Cond.selects "BetweenStopsModel" yX10_first yX10_first ∈ xTB := xTB_in (sg_0 (List.mem_of_getElem? (i := 37) (by decide +kernel))) rfl
theorem mv_X10_first : xMwV yX10_first := ⟨km_X10_first, ke_X10_first⟩
theorem kc_X10_road : Cond.code yX10_road cX10_road 4 (some .int) ∈ xTB := xTB_in (sg_6 (List.mem_of_getElem? (i := 110) (by decide +kernel))) rfl
theorem mw_X10_road : xMw yX10_road cX10_road 4 (some .int) 2 := ⟨kc_X10_road, ki_X10, by decide, by decide, by decide +kernel⟩
theorem km_X10_road : Cond.instanceMethod yX10_road ∈ xTB := xTB_in (sg_6 (List.mem_of_getElem? (i := 108) (by decide +kernel))) rfl
theorem ke_X10_road : Cond.selects "BetweenStopsModel" yX10_road yX10_road ∈ xTB := xTB_in (sg_6 (List.mem_of_getElem? (i := 109) (by decide +kernel))) rfl
theorem mv_X10_road : xMwV yX10_road := ⟨km_X10_road, ke_X10_road⟩
theorem kc_X10_isCell : Cond.code yX10_isCell cX10_isCell 1 (some .boolean) ∈ xTB := xTB_in (sg_6 (List.mem_of_getElem? (i := 113) (by decide +kernel))) rfl
theorem mw_X10_isCell : xMw yX10_isCell cX10_isCell 1 (some .boolean) 1 := ⟨kc_X10_isCell, ki_X10, by decide, by decide, by decide +kernel⟩
theorem ks_X10_isCell : Cond.static yX10_isCell ∈ xTB := xTB_in (sg_6 (List.mem_of_getElem? (i := 112) (by decide +kernel))) rfl
theorem kc_X10_in : Cond.code yX10_in cX10_in 3 (some .boolean) ∈ xTB := xTB_in (sg_6 (List.mem_of_getElem? (i := 116) (by decide +kernel))) rfl
theorem mw_X10_in : xMw yX10_in cX10_in 3 (some .boolean) 3 := ⟨kc_X10_in, ki_X10, by decide, by decide, by decide +kernel⟩
theorem ks_X10_in : Cond.static yX10_in ∈ xTB := xTB_in (sg_6 (List.mem_of_getElem? (i := 115) (by decide +kernel))) rfl
theorem kc_X10_sort : Cond.code yX10_sort cX10_sort 6 (some .int) ∈ xTB := xTB_in (sg_6 (List.mem_of_getElem? (i := 120) (by decide +kernel))) rfl
theorem mw_X10_sort : xMw yX10_sort cX10_sort 6 (some .int) 3 := ⟨kc_X10_sort, ki_X10, by decide, by decide, by decide +kernel⟩
theorem km_X10_sort : Cond.instanceMethod yX10_sort ∈ xTB := xTB_in (sg_6 (List.mem_of_getElem? (i := 118) (by decide +kernel))) rfl
theorem ke_X10_sort : Cond.selects "BetweenStopsModel" yX10_sort yX10_sort ∈ xTB := xTB_in (sg_6 (List.mem_of_getElem? (i := 119) (by decide +kernel))) rfl
theorem mv_X10_sort : xMwV yX10_sort := ⟨km_X10_sort, ke_X10_sort⟩
theorem kc_X10_car : Cond.code yX10_car cX10_car 4 (some .int) ∈ xTB := xTB_in (sg_6 (List.mem_of_getElem? (i := 124) (by decide +kernel))) rfl
theorem mw_X10_car : xMw yX10_car cX10_car 4 (some .int) 2 := ⟨kc_X10_car, ki_X10, by decide, by decide, by decide +kernel⟩
theorem km_X10_car : Cond.instanceMethod yX10_car ∈ xTB := xTB_in (sg_6 (List.mem_of_getElem? (i := 122) (by decide +kernel))) rfl
theorem ke_X10_car : Cond.selects "BetweenStopsModel" yX10_car yX10_car ∈ xTB := xTB_in (sg_6 (List.mem_of_getElem? (i := 123) (by decide +kernel))) rfl
theorem mv_X10_car : xMwV yX10_car := ⟨km_X10_car, ke_X10_car⟩
theorem kc_X10_walks : Cond.code yX10_walks cX10_walks 4 (some .int) ∈ xTB := xTB_in (sg_6 (List.mem_of_getElem? (i := 128) (by decide +kernel))) rfl
theorem mw_X10_walks : xMw yX10_walks cX10_walks 4 (some .int) 3 := ⟨kc_X10_walks, ki_X10, by decide, by decide, by decide +kernel⟩
theorem km_X10_walks : Cond.instanceMethod yX10_walks ∈ xTB := xTB_in (sg_6 (List.mem_of_getElem? (i := 126) (by decide +kernel))) rfl
theorem ke_X10_walks : Cond.selects "BetweenStopsModel" yX10_walks yX10_walks ∈ xTB := xTB_in (sg_6 (List.mem_of_getElem? (i := 127) (by decide +kernel))) rfl
theorem mv_X10_walks : xMwV yX10_walks := ⟨km_X10_walks, ke_X10_walks⟩
theorem kc_X10_walk : Cond.code yX10_walk cX10_walk 8 (some .int) ∈ xTB := xTB_in (sg_6 (List.mem_of_getElem? (i := 132) (by decide +kernel))) rfl
theorem mw_X10_walk : xMw yX10_walk cX10_walk 8 (some .int) 3 := ⟨kc_X10_walk, ki_X10, by decide, by decide, by decide +kernel⟩
theorem km_X10_walk : Cond.instanceMethod yX10_walk ∈ xTB := xTB_in (sg_6 (List.mem_of_getElem? (i := 131) (by decide +kernel))) rfl
theorem ke_X10_walk : Cond.selects "BetweenStopsModel" yX10_walk yX10_walk ∈ xTB := xTB_in (sg_0 (List.mem_of_getElem? (i := 38) (by decide +kernel))) rfl
theorem mv_X10_walk : xMwV yX10_walk := ⟨km_X10_walk, ke_X10_walk⟩
theorem kc_X10_stop : Cond.code yX10_stop cX10_stop 5 (some .int) ∈ xTB := xTB_in (sg_6 (List.mem_of_getElem? (i := 136) (by decide +kernel))) rfl
theorem mw_X10_stop : xMw yX10_stop cX10_stop 5 (some .int) 4 := ⟨kc_X10_stop, ki_X10, by decide, by decide, by decide +kernel⟩
theorem km_X10_stop : Cond.instanceMethod yX10_stop ∈ xTB := xTB_in (sg_6 (List.mem_of_getElem? (i := 134) (by decide +kernel))) rfl
theorem ke_X10_stop : Cond.selects "BetweenStopsModel" yX10_stop yX10_stop ∈ xTB := xTB_in (sg_6 (List.mem_of_getElem? (i := 135) (by decide +kernel))) rfl
theorem mv_X10_stop : xMwV yX10_stop := ⟨km_X10_stop, ke_X10_stop⟩
theorem kc_X10_open : Cond.code yX10_open cX10_open 4 (some .int) ∈ xTB := xTB_in (sg_6 (List.mem_of_getElem? (i := 140) (by decide +kernel))) rfl
theorem mw_X10_open : xMw yX10_open cX10_open 4 (some .int) 2 := ⟨kc_X10_open, ki_X10, by decide, by decide, by decide +kernel⟩
theorem km_X10_open : Cond.instanceMethod yX10_open ∈ xTB := xTB_in (sg_6 (List.mem_of_getElem? (i := 138) (by decide +kernel))) rfl
theorem ke_X10_open : Cond.selects "BetweenStopsModel" yX10_open yX10_open ∈ xTB := xTB_in (sg_6 (List.mem_of_getElem? (i := 139) (by decide +kernel))) rfl
theorem mv_X10_open : xMwV yX10_open := ⟨km_X10_open, ke_X10_open⟩
theorem kc_X10_isStop : Cond.code yX10_isStop cX10_isStop 2 (some .boolean) ∈ xTB := xTB_in (sg_6 (List.mem_of_getElem? (i := 144) (by decide +kernel))) rfl
theorem mw_X10_isStop : xMw yX10_isStop cX10_isStop 2 (some .boolean) 1 := ⟨kc_X10_isStop, ki_X10, by decide, by decide, by decide +kernel⟩
theorem km_X10_isStop : Cond.instanceMethod yX10_isStop ∈ xTB := xTB_in (sg_6 (List.mem_of_getElem? (i := 143) (by decide +kernel))) rfl
theorem ke_X10_isStop : Cond.selects "BetweenStopsModel" yX10_isStop yX10_isStop ∈ xTB := xTB_in (sg_0 (List.mem_of_getElem? (i := 39) (by decide +kernel))) rfl
theorem mv_X10_isStop : xMwV yX10_isStop := ⟨km_X10_isStop, ke_X10_isStop⟩
theorem kc_X10_want : Cond.code yX10_want cX10_want 4 (some .int) ∈ xTB := xTB_in (sg_6 (List.mem_of_getElem? (i := 148) (by decide +kernel))) rfl
theorem mw_X10_want : xMw yX10_want cX10_want 4 (some .int) 2 := ⟨kc_X10_want, ki_X10, by decide, by decide, by decide +kernel⟩
theorem km_X10_want : Cond.instanceMethod yX10_want ∈ xTB := xTB_in (sg_6 (List.mem_of_getElem? (i := 146) (by decide +kernel))) rfl
theorem ke_X10_want : Cond.selects "BetweenStopsModel" yX10_want yX10_want ∈ xTB := xTB_in (sg_6 (List.mem_of_getElem? (i := 147) (by decide +kernel))) rfl
theorem mv_X10_want : xMwV yX10_want := ⟨km_X10_want, ke_X10_want⟩
theorem kc_X10_turns : Cond.code yX10_turns cX10_turns 4 (some .int) ∈ xTB := xTB_in (sg_6 (List.mem_of_getElem? (i := 152) (by decide +kernel))) rfl
theorem mw_X10_turns : xMw yX10_turns cX10_turns 4 (some .int) 2 := ⟨kc_X10_turns, ki_X10, by decide, by decide, by decide +kernel⟩
theorem km_X10_turns : Cond.instanceMethod yX10_turns ∈ xTB := xTB_in (sg_6 (List.mem_of_getElem? (i := 150) (by decide +kernel))) rfl
theorem ke_X10_turns : Cond.selects "BetweenStopsModel" yX10_turns yX10_turns ∈ xTB := xTB_in (sg_6 (List.mem_of_getElem? (i := 151) (by decide +kernel))) rfl
theorem mv_X10_turns : xMwV yX10_turns := ⟨km_X10_turns, ke_X10_turns⟩
theorem kc_X10_told : Cond.code yX10_told cX10_told 3 (some .int) ∈ xTB := xTB_in (sg_6 (List.mem_of_getElem? (i := 156) (by decide +kernel))) rfl
theorem mw_X10_told : xMw yX10_told cX10_told 3 (some .int) 2 := ⟨kc_X10_told, ki_X10, by decide, by decide, by decide +kernel⟩
theorem km_X10_told : Cond.instanceMethod yX10_told ∈ xTB := xTB_in (sg_6 (List.mem_of_getElem? (i := 154) (by decide +kernel))) rfl
theorem ke_X10_told : Cond.selects "BetweenStopsModel" yX10_told yX10_told ∈ xTB := xTB_in (sg_6 (List.mem_of_getElem? (i := 155) (by decide +kernel))) rfl
theorem mv_X10_told : xMwV yX10_told := ⟨km_X10_told, ke_X10_told⟩
theorem kc_X10_seconds : Cond.code yX10_seconds cX10_seconds 2 (some .int) ∈ xTB := xTB_in (sg_6 (List.mem_of_getElem? (i := 160) (by decide +kernel))) rfl
theorem mw_X10_seconds : xMw yX10_seconds cX10_seconds 2 (some .int) 1 := ⟨kc_X10_seconds, ki_X10, by decide, by decide, by decide +kernel⟩
theorem km_X10_seconds : Cond.instanceMethod yX10_seconds ∈ xTB := xTB_in (sg_6 (List.mem_of_getElem? (i := 159) (by decide +kernel))) rfl
theorem ke_X10_seconds : Cond.selects "BetweenStopsModel" yX10_seconds yX10_seconds ∈ xTB := xTB_in (sg_0 (List.mem_of_getElem? (i := 40) (by decide +kernel))) rfl
theorem mv_X10_seconds : xMwV yX10_seconds := ⟨km_X10_seconds, ke_X10_seconds⟩
theorem kc_X10_secondsBy : Cond.code yX10_secondsBy cX10_secondsBy 3 (some .int) ∈ xTB := xTB_in (sg_6 (List.mem_of_getElem? (i := 164) (by decide +kernel))) rfl
theorem mw_X10_secondsBy : xMw yX10_secondsBy cX10_secondsBy 3 (some .int) 2 := ⟨kc_X10_secondsBy, ki_X10, by decide, by decide, by decide +kernel⟩
theorem km_X10_secondsBy : Cond.instanceMethod yX10_secondsBy ∈ xTB := xTB_in (sg_6 (List.mem_of_getElem? (i := 163) (by decide +kernel))) rfl
theorem ke_X10_secondsBy : Cond.selects "BetweenStopsModel" yX10_secondsBy yX10_secondsBy ∈ xTB := xTB_in (sg_0 (List.mem_of_getElem? (i := 41) (by decide +kernel))) rfl
theorem mv_X10_secondsBy : xMwV yX10_secondsBy := ⟨km_X10_secondsBy, ke_X10_secondsBy⟩
theorem kc_X10_lets : Cond.code yX10_lets cX10_lets 4 (some .boolean) ∈ xTB := xTB_in (sg_6 (List.mem_of_getElem? (i := 168) (by decide +kernel))) rfl
theorem mw_X10_lets : xMw yX10_lets cX10_lets 4 (some .boolean) 2 := ⟨kc_X10_lets, ki_X10, by decide, by decide, by decide +kernel⟩
theorem km_X10_lets : Cond.instanceMethod yX10_lets ∈ xTB := xTB_in (sg_6 (List.mem_of_getElem? (i := 167) (by decide +kernel))) rfl
theorem ke_X10_lets : Cond.selects "BetweenStopsModel" yX10_lets yX10_lets ∈ xTB := xTB_in (sg_0 (List.mem_of_getElem? (i := 42) (by decide +kernel))) rfl
theorem mv_X10_lets : xMwV yX10_lets := ⟨km_X10_lets, ke_X10_lets⟩
theorem kc_X10_isAsked : Cond.code yX10_isAsked cX10_isAsked 2 (some .boolean) ∈ xTB := xTB_in (sg_6 (List.mem_of_getElem? (i := 172) (by decide +kernel))) rfl
theorem mw_X10_isAsked : xMw yX10_isAsked cX10_isAsked 2 (some .boolean) 1 := ⟨kc_X10_isAsked, ki_X10, by decide, by decide, by decide +kernel⟩
theorem km_X10_isAsked : Cond.instanceMethod yX10_isAsked ∈ xTB := xTB_in (sg_6 (List.mem_of_getElem? (i := 171) (by decide +kernel))) rfl
theorem ke_X10_isAsked : Cond.selects "BetweenStopsModel" yX10_isAsked yX10_isAsked ∈ xTB := xTB_in (sg_0 (List.mem_of_getElem? (i := 43) (by decide +kernel))) rfl
theorem mv_X10_isAsked : xMwV yX10_isAsked := ⟨km_X10_isAsked, ke_X10_isAsked⟩
theorem kc_X10_trip : Cond.code yX10_trip cX10_trip 5 (some .int) ∈ xTB := xTB_in (sg_6 (List.mem_of_getElem? (i := 176) (by decide +kernel))) rfl
theorem mw_X10_trip : xMw yX10_trip cX10_trip 5 (some .int) 4 := ⟨kc_X10_trip, ki_X10, by decide, by decide, by decide +kernel⟩
theorem km_X10_trip : Cond.instanceMethod yX10_trip ∈ xTB := xTB_in (sg_6 (List.mem_of_getElem? (i := 174) (by decide +kernel))) rfl
theorem ke_X10_trip : Cond.selects "BetweenStopsModel" yX10_trip yX10_trip ∈ xTB := xTB_in (sg_6 (List.mem_of_getElem? (i := 175) (by decide +kernel))) rfl
theorem mv_X10_trip : xMwV yX10_trip := ⟨km_X10_trip, ke_X10_trip⟩
theorem kc_X10_count : Cond.code yX10_count cX10_count 2 (some .int) ∈ xTB := xTB_in (sg_6 (List.mem_of_getElem? (i := 180) (by decide +kernel))) rfl
theorem mw_X10_count : xMw yX10_count cX10_count 2 (some .int) 1 := ⟨kc_X10_count, ki_X10, by decide, by decide, by decide +kernel⟩
theorem km_X10_count : Cond.instanceMethod yX10_count ∈ xTB := xTB_in (sg_6 (List.mem_of_getElem? (i := 178) (by decide +kernel))) rfl
theorem ke_X10_count : Cond.selects "BetweenStopsModel" yX10_count yX10_count ∈ xTB := xTB_in (sg_6 (List.mem_of_getElem? (i := 179) (by decide +kernel))) rfl
theorem mv_X10_count : xMwV yX10_count := ⟨km_X10_count, ke_X10_count⟩
theorem kc_X10_openMany : Cond.code yX10_openMany cX10_openMany 3 (some .int) ∈ xTB := xTB_in (sg_6 (List.mem_of_getElem? (i := 184) (by decide +kernel))) rfl
theorem mw_X10_openMany : xMw yX10_openMany cX10_openMany 3 (some .int) 0 := ⟨kc_X10_openMany, ki_X10, by decide, by decide, by decide +kernel⟩
theorem km_X10_openMany : Cond.instanceMethod yX10_openMany ∈ xTB := xTB_in (sg_6 (List.mem_of_getElem? (i := 183) (by decide +kernel))) rfl
theorem ke_X10_openMany : Cond.selects "BetweenStopsModel" yX10_openMany yX10_openMany ∈ xTB := xTB_in (sg_0 (List.mem_of_getElem? (i := 44) (by decide +kernel))) rfl
theorem mv_X10_openMany : xMwV yX10_openMany := ⟨km_X10_openMany, ke_X10_openMany⟩
theorem kc_X10_takes : Cond.code yX10_takes cX10_takes 3 (some .int) ∈ xTB := xTB_in (sg_6 (List.mem_of_getElem? (i := 188) (by decide +kernel))) rfl
theorem mw_X10_takes : xMw yX10_takes cX10_takes 3 (some .int) 2 := ⟨kc_X10_takes, ki_X10, by decide, by decide, by decide +kernel⟩
theorem km_X10_takes : Cond.instanceMethod yX10_takes ∈ xTB := xTB_in (sg_6 (List.mem_of_getElem? (i := 186) (by decide +kernel))) rfl
theorem ke_X10_takes : Cond.selects "BetweenStopsModel" yX10_takes yX10_takes ∈ xTB := xTB_in (sg_6 (List.mem_of_getElem? (i := 187) (by decide +kernel))) rfl
theorem mv_X10_takes : xMwV yX10_takes := ⟨km_X10_takes, ke_X10_takes⟩
theorem kc_X10_isTrip : Cond.code yX10_isTrip cX10_isTrip 2 (some .boolean) ∈ xTB := xTB_in (sg_6 (List.mem_of_getElem? (i := 192) (by decide +kernel))) rfl
theorem mw_X10_isTrip : xMw yX10_isTrip cX10_isTrip 2 (some .boolean) 1 := ⟨kc_X10_isTrip, ki_X10, by decide, by decide, by decide +kernel⟩
theorem km_X10_isTrip : Cond.instanceMethod yX10_isTrip ∈ xTB := xTB_in (sg_6 (List.mem_of_getElem? (i := 191) (by decide +kernel))) rfl
theorem ke_X10_isTrip : Cond.selects "BetweenStopsModel" yX10_isTrip yX10_isTrip ∈ xTB := xTB_in (sg_0 (List.mem_of_getElem? (i := 45) (by decide +kernel))) rfl
theorem mv_X10_isTrip : xMwV yX10_isTrip := ⟨km_X10_isTrip, ke_X10_isTrip⟩
theorem kc_X10_finds : Cond.code yX10_finds cX10_finds 5 none ∈ xTB := xTB_in (sg_6 (List.mem_of_getElem? (i := 196) (by decide +kernel))) rfl
theorem mw_X10_finds : xMw yX10_finds cX10_finds 5 none 1 := ⟨kc_X10_finds, ki_X10, by decide, by decide, by decide +kernel⟩
theorem km_X10_finds : Cond.instanceMethod yX10_finds ∈ xTB := xTB_in (sg_6 (List.mem_of_getElem? (i := 195) (by decide +kernel))) rfl
theorem ke_X10_finds : Cond.selects "BetweenStopsModel" yX10_finds yX10_finds ∈ xTB := xTB_in (sg_0 (List.mem_of_getElem? (i := 46) (by decide +kernel))) rfl
theorem mv_X10_finds : xMwV yX10_finds := ⟨km_X10_finds, ke_X10_finds⟩
theorem kc_X10_tries : Cond.code yX10_tries cX10_tries 11 none ∈ xTB := xTB_in (sg_6 (List.mem_of_getElem? (i := 200) (by decide +kernel))) rfl
theorem mw_X10_tries : xMw yX10_tries cX10_tries 11 none 3 := ⟨kc_X10_tries, ki_X10, by decide, by decide, by decide +kernel⟩
theorem km_X10_tries : Cond.instanceMethod yX10_tries ∈ xTB := xTB_in (sg_6 (List.mem_of_getElem? (i := 199) (by decide +kernel))) rfl
theorem ke_X10_tries : Cond.selects "BetweenStopsModel" yX10_tries yX10_tries ∈ xTB := xTB_in (sg_0 (List.mem_of_getElem? (i := 47) (by decide +kernel))) rfl
theorem mv_X10_tries : xMwV yX10_tries := ⟨km_X10_tries, ke_X10_tries⟩
theorem kc_X10_doesStop : Cond.code yX10_doesStop cX10_doesStop 3 (some .boolean) ∈ xTB := xTB_in (sg_6 (List.mem_of_getElem? (i := 204) (by decide +kernel))) rfl
theorem mw_X10_doesStop : xMw yX10_doesStop cX10_doesStop 3 (some .boolean) 2 := ⟨kc_X10_doesStop, ki_X10, by decide, by decide, by decide +kernel⟩
theorem km_X10_doesStop : Cond.instanceMethod yX10_doesStop ∈ xTB := xTB_in (sg_6 (List.mem_of_getElem? (i := 203) (by decide +kernel))) rfl
theorem ke_X10_doesStop : Cond.selects "BetweenStopsModel" yX10_doesStop yX10_doesStop ∈ xTB := xTB_in (sg_0 (List.mem_of_getElem? (i := 48) (by decide +kernel))) rfl
theorem mv_X10_doesStop : xMwV yX10_doesStop := ⟨km_X10_doesStop, ke_X10_doesStop⟩
theorem kc_X10_rides : Cond.code yX10_rides cX10_rides 6 (some .int) ∈ xTB := xTB_in (sg_6 (List.mem_of_getElem? (i := 208) (by decide +kernel))) rfl
theorem mw_X10_rides : xMw yX10_rides cX10_rides 6 (some .int) 3 := ⟨kc_X10_rides, ki_X10, by decide, by decide, by decide +kernel⟩
theorem km_X10_rides : Cond.instanceMethod yX10_rides ∈ xTB := xTB_in (sg_6 (List.mem_of_getElem? (i := 207) (by decide +kernel))) rfl
theorem ke_X10_rides : Cond.selects "BetweenStopsModel" yX10_rides yX10_rides ∈ xTB := xTB_in (sg_0 (List.mem_of_getElem? (i := 49) (by decide +kernel))) rfl
theorem mv_X10_rides : xMwV yX10_rides := ⟨km_X10_rides, ke_X10_rides⟩
theorem kc_X10_isBetween : Cond.code yX10_isBetween cX10_isBetween 4 (some .boolean) ∈ xTB := xTB_in (sg_6 (List.mem_of_getElem? (i := 212) (by decide +kernel))) rfl
theorem mw_X10_isBetween : xMw yX10_isBetween cX10_isBetween 4 (some .boolean) 3 := ⟨kc_X10_isBetween, ki_X10, by decide, by decide, by decide +kernel⟩
theorem km_X10_isBetween : Cond.instanceMethod yX10_isBetween ∈ xTB := xTB_in (sg_6 (List.mem_of_getElem? (i := 211) (by decide +kernel))) rfl
theorem ke_X10_isBetween : Cond.selects "BetweenStopsModel" yX10_isBetween yX10_isBetween ∈ xTB := xTB_in (sg_0 (List.mem_of_getElem? (i := 50) (by decide +kernel))) rfl
theorem mv_X10_isBetween : xMwV yX10_isBetween := ⟨km_X10_isBetween, ke_X10_isBetween⟩
theorem kc_X10_sum : Cond.code yX10_sum cX10_sum 4 (some .long) ∈ xTB := xTB_in (sg_6 (List.mem_of_getElem? (i := 216) (by decide +kernel))) rfl
theorem mw_X10_sum : xMw yX10_sum cX10_sum 4 (some .long) 1 := ⟨kc_X10_sum, ki_X10, by decide, by decide, by decide +kernel⟩
theorem km_X10_sum : Cond.instanceMethod yX10_sum ∈ xTB := xTB_in (sg_6 (List.mem_of_getElem? (i := 214) (by decide +kernel))) rfl
theorem ke_X10_sum : Cond.selects "BetweenStopsModel" yX10_sum yX10_sum ∈ xTB := xTB_in (sg_6 (List.mem_of_getElem? (i := 215) (by decide +kernel))) rfl
theorem mv_X10_sum : xMwV yX10_sum := ⟨km_X10_sum, ke_X10_sum⟩
theorem kc_X10_total : Cond.code yX10_total cX10_total 4 (some .long) ∈ xTB := xTB_in (sg_6 (List.mem_of_getElem? (i := 221) (by decide +kernel))) rfl
theorem mw_X10_total : xMw yX10_total cX10_total 4 (some .long) 0 := ⟨kc_X10_total, ki_X10, by decide, by decide, by decide +kernel⟩
theorem km_X10_total : Cond.instanceMethod yX10_total ∈ xTB := xTB_in (sg_6 (List.mem_of_getElem? (i := 220) (by decide +kernel))) rfl
theorem ke_X10_total : Cond.selects "BetweenStopsModel" yX10_total yX10_total ∈ xTB := xTB_in (sg_0 (List.mem_of_getElem? (i := 51) (by decide +kernel))) rfl
theorem mv_X10_total : xMwV yX10_total := ⟨km_X10_total, ke_X10_total⟩
theorem kc_X10_use : Cond.code yX10_use cX10_use 2 (some .int) ∈ xTB := xTB_in (sg_6 (List.mem_of_getElem? (i := 225) (by decide +kernel))) rfl
theorem mw_X10_use : xMw yX10_use cX10_use 2 (some .int) 1 := ⟨kc_X10_use, ki_X10, by decide, by decide, by decide +kernel⟩
theorem km_X10_use : Cond.instanceMethod yX10_use ∈ xTB := xTB_in (sg_6 (List.mem_of_getElem? (i := 223) (by decide +kernel))) rfl
theorem ke_X10_use : Cond.selects "BetweenStopsModel" yX10_use yX10_use ∈ xTB := xTB_in (sg_6 (List.mem_of_getElem? (i := 224) (by decide +kernel))) rfl
theorem mv_X10_use : xMwV yX10_use := ⟨km_X10_use, ke_X10_use⟩
theorem kc_X10_useOf : Cond.code yX10_useOf cX10_useOf 4 (some .int) ∈ xTB := xTB_in (sg_6 (List.mem_of_getElem? (i := 229) (by decide +kernel))) rfl
theorem mw_X10_useOf : xMw yX10_useOf cX10_useOf 4 (some .int) 1 := ⟨kc_X10_useOf, ki_X10, by decide, by decide, by decide +kernel⟩
theorem km_X10_useOf : Cond.instanceMethod yX10_useOf ∈ xTB := xTB_in (sg_6 (List.mem_of_getElem? (i := 228) (by decide +kernel))) rfl
theorem ke_X10_useOf : Cond.selects "BetweenStopsModel" yX10_useOf yX10_useOf ∈ xTB := xTB_in (sg_0 (List.mem_of_getElem? (i := 52) (by decide +kernel))) rfl
theorem mv_X10_useOf : xMwV yX10_useOf := ⟨km_X10_useOf, ke_X10_useOf⟩
theorem kc_X10_feed : Cond.code yX10_feed cX10_feed 5 (some .int) ∈ xTB := xTB_in (sg_6 (List.mem_of_getElem? (i := 233) (by decide +kernel))) rfl
theorem mw_X10_feed : xMw yX10_feed cX10_feed 5 (some .int) 2 := ⟨kc_X10_feed, ki_X10, by decide, by decide, by decide +kernel⟩
theorem km_X10_feed : Cond.instanceMethod yX10_feed ∈ xTB := xTB_in (sg_6 (List.mem_of_getElem? (i := 231) (by decide +kernel))) rfl
theorem ke_X10_feed : Cond.selects "BetweenStopsModel" yX10_feed yX10_feed ∈ xTB := xTB_in (sg_6 (List.mem_of_getElem? (i := 232) (by decide +kernel))) rfl
theorem mv_X10_feed : xMwV yX10_feed := ⟨km_X10_feed, ke_X10_feed⟩
theorem kc_X10_text : Cond.code yX10_text cX10_text 3 (some .int) ∈ xTB := xTB_in (sg_6 (List.mem_of_getElem? (i := 238) (by decide +kernel))) rfl
theorem mw_X10_text : xMw yX10_text cX10_text 3 (some .int) 0 := ⟨kc_X10_text, ki_X10, by decide, by decide, by decide +kernel⟩
theorem km_X10_text : Cond.instanceMethod yX10_text ∈ xTB := xTB_in (sg_6 (List.mem_of_getElem? (i := 236) (by decide +kernel))) rfl
theorem ke_X10_text : Cond.selects "BetweenStopsModel" yX10_text yX10_text ∈ xTB := xTB_in (sg_6 (List.mem_of_getElem? (i := 237) (by decide +kernel))) rfl
theorem mv_X10_text : xMwV yX10_text := ⟨km_X10_text, ke_X10_text⟩
theorem kc_X10_next : Cond.code yX10_next cX10_next 5 none ∈ xTB := xTB_in (sg_7 (List.mem_of_getElem? (i := 2) (by decide +kernel))) rfl
theorem mw_X10_next : xMw yX10_next cX10_next 5 none 0 := ⟨kc_X10_next, ki_X10, by decide, by decide, by decide +kernel⟩
theorem km_X10_next : Cond.instanceMethod yX10_next ∈ xTB := xTB_in (sg_7 (List.mem_of_getElem? (i := 1) (by decide +kernel))) rfl
theorem ke_X10_next : Cond.selects "BetweenStopsModel" yX10_next yX10_next ∈ xTB := xTB_in (sg_0 (List.mem_of_getElem? (i := 53) (by decide +kernel))) rfl
theorem mv_X10_next : xMwV yX10_next := ⟨km_X10_next, ke_X10_next⟩
theorem kc_X10_letters : Cond.code yX10_letters cX10_letters 4 (some .long) ∈ xTB := xTB_in (sg_7 (List.mem_of_getElem? (i := 6) (by decide +kernel))) rfl
theorem mw_X10_letters : xMw yX10_letters cX10_letters 4 (some .long) 0 := ⟨kc_X10_letters, ki_X10, by decide, by decide, by decide +kernel⟩
theorem km_X10_letters : Cond.instanceMethod yX10_letters ∈ xTB := xTB_in (sg_7 (List.mem_of_getElem? (i := 5) (by decide +kernel))) rfl
theorem ke_X10_letters : Cond.selects "BetweenStopsModel" yX10_letters yX10_letters ∈ xTB := xTB_in (sg_0 (List.mem_of_getElem? (i := 54) (by decide +kernel))) rfl
theorem mv_X10_letters : xMwV yX10_letters := ⟨km_X10_letters, ke_X10_letters⟩
theorem kc_X10_eRead : Cond.code yX10_eRead cX10_eRead 4 (some .boolean) ∈ xTB := xTB_in (sg_7 (List.mem_of_getElem? (i := 10) (by decide +kernel))) rfl
theorem mw_X10_eRead : xMw yX10_eRead cX10_eRead 4 (some .boolean) 0 := ⟨kc_X10_eRead, ki_X10, by decide, by decide, by decide +kernel⟩
theorem km_X10_eRead : Cond.instanceMethod yX10_eRead ∈ xTB := xTB_in (sg_7 (List.mem_of_getElem? (i := 9) (by decide +kernel))) rfl
theorem ke_X10_eRead : Cond.selects "BetweenStopsModel" yX10_eRead yX10_eRead ∈ xTB := xTB_in (sg_0 (List.mem_of_getElem? (i := 55) (by decide +kernel))) rfl
theorem mv_X10_eRead : xMwV yX10_eRead := ⟨km_X10_eRead, ke_X10_eRead⟩
theorem kc_X10_puts : Cond.code yX10_puts cX10_puts 2 none ∈ xTB := xTB_in (sg_7 (List.mem_of_getElem? (i := 15) (by decide +kernel))) rfl
theorem mw_X10_puts : xMw yX10_puts cX10_puts 2 none 1 := ⟨kc_X10_puts, ki_X10, by decide, by decide, by decide +kernel⟩
theorem km_X10_puts : Cond.instanceMethod yX10_puts ∈ xTB := xTB_in (sg_7 (List.mem_of_getElem? (i := 14) (by decide +kernel))) rfl
theorem ke_X10_puts : Cond.selects "BetweenStopsModel" yX10_puts yX10_puts ∈ xTB := xTB_in (sg_0 (List.mem_of_getElem? (i := 56) (by decide +kernel))) rfl
theorem mv_X10_puts : xMwV yX10_puts := ⟨km_X10_puts, ke_X10_puts⟩
theorem kc_X10_unwinds : Cond.code yX10_unwinds cX10_unwinds 3 none ∈ xTB := xTB_in (sg_7 (List.mem_of_getElem? (i := 19) (by decide +kernel))) rfl
theorem mw_X10_unwinds : xMw yX10_unwinds cX10_unwinds 3 none 1 := ⟨kc_X10_unwinds, ki_X10, by decide, by decide, by decide +kernel⟩
theorem km_X10_unwinds : Cond.instanceMethod yX10_unwinds ∈ xTB := xTB_in (sg_7 (List.mem_of_getElem? (i := 18) (by decide +kernel))) rfl
theorem ke_X10_unwinds : Cond.selects "BetweenStopsModel" yX10_unwinds yX10_unwinds ∈ xTB := xTB_in (sg_0 (List.mem_of_getElem? (i := 57) (by decide +kernel))) rfl
theorem mv_X10_unwinds : xMwV yX10_unwinds := ⟨km_X10_unwinds, ke_X10_unwinds⟩
theorem kc_X10_rank : Cond.code yX10_rank cX10_rank 1 (some .int) ∈ xTB := xTB_in (sg_7 (List.mem_of_getElem? (i := 22) (by decide +kernel))) rfl
theorem mw_X10_rank : xMw yX10_rank cX10_rank 1 (some .int) 1 := ⟨kc_X10_rank, ki_X10, by decide, by decide, by decide +kernel⟩
theorem ks_X10_rank : Cond.static yX10_rank ∈ xTB := xTB_in (sg_7 (List.mem_of_getElem? (i := 21) (by decide +kernel))) rfl
theorem kc_X10_opensOne : Cond.code yX10_opensOne cX10_opensOne 2 (some .boolean) ∈ xTB := xTB_in (sg_7 (List.mem_of_getElem? (i := 26) (by decide +kernel))) rfl
theorem mw_X10_opensOne : xMw yX10_opensOne cX10_opensOne 2 (some .boolean) 1 := ⟨kc_X10_opensOne, ki_X10, by decide, by decide, by decide +kernel⟩
theorem km_X10_opensOne : Cond.instanceMethod yX10_opensOne ∈ xTB := xTB_in (sg_7 (List.mem_of_getElem? (i := 25) (by decide +kernel))) rfl
theorem ke_X10_opensOne : Cond.selects "BetweenStopsModel" yX10_opensOne yX10_opensOne ∈ xTB := xTB_in (sg_0 (List.mem_of_getElem? (i := 58) (by decide +kernel))) rfl
theorem mv_X10_opensOne : xMwV yX10_opensOne := ⟨km_X10_opensOne, ke_X10_opensOne⟩
theorem kc_X10_holds : Cond.code yX10_holds cX10_holds 2 none ∈ xTB := xTB_in (sg_7 (List.mem_of_getElem? (i := 30) (by decide +kernel))) rfl
theorem mw_X10_holds : xMw yX10_holds cX10_holds 2 none 1 := ⟨kc_X10_holds, ki_X10, by decide, by decide, by decide +kernel⟩
theorem km_X10_holds : Cond.instanceMethod yX10_holds ∈ xTB := xTB_in (sg_7 (List.mem_of_getElem? (i := 29) (by decide +kernel))) rfl
theorem ke_X10_holds : Cond.selects "BetweenStopsModel" yX10_holds yX10_holds ∈ xTB := xTB_in (sg_0 (List.mem_of_getElem? (i := 59) (by decide +kernel))) rfl
theorem mv_X10_holds : xMwV yX10_holds := ⟨km_X10_holds, ke_X10_holds⟩
theorem kc_X10_signOf : Cond.code yX10_signOf cX10_signOf 1 (some .int) ∈ xTB := xTB_in (sg_7 (List.mem_of_getElem? (i := 34) (by decide +kernel))) rfl
theorem mw_X10_signOf : xMw yX10_signOf cX10_signOf 1 (some .int) 0 := ⟨kc_X10_signOf, ki_X10, by decide, by decide, by decide +kernel⟩
theorem km_X10_signOf : Cond.instanceMethod yX10_signOf ∈ xTB := xTB_in (sg_7 (List.mem_of_getElem? (i := 33) (by decide +kernel))) rfl
theorem ke_X10_signOf : Cond.selects "BetweenStopsModel" yX10_signOf yX10_signOf ∈ xTB := xTB_in (sg_0 (List.mem_of_getElem? (i := 60) (by decide +kernel))) rfl
theorem mv_X10_signOf : xMwV yX10_signOf := ⟨km_X10_signOf, ke_X10_signOf⟩
theorem kc_X10_between : Cond.code yX10_between cX10_between 2 (some .boolean) ∈ xTB := xTB_in (sg_7 (List.mem_of_getElem? (i := 38) (by decide +kernel))) rfl
theorem mw_X10_between : xMw yX10_between cX10_between 2 (some .boolean) 1 := ⟨kc_X10_between, ki_X10, by decide, by decide, by decide +kernel⟩
theorem km_X10_between : Cond.instanceMethod yX10_between ∈ xTB := xTB_in (sg_7 (List.mem_of_getElem? (i := 37) (by decide +kernel))) rfl
theorem ke_X10_between : Cond.selects "BetweenStopsModel" yX10_between yX10_between ∈ xTB := xTB_in (sg_0 (List.mem_of_getElem? (i := 61) (by decide +kernel))) rfl
theorem mv_X10_between : xMwV yX10_between := ⟨km_X10_between, ke_X10_between⟩
theorem kc_X10_force : Cond.code yX10_force cX10_force 3 (some .int) ∈ xTB := xTB_in (sg_7 (List.mem_of_getElem? (i := 42) (by decide +kernel))) rfl
theorem mw_X10_force : xMw yX10_force cX10_force 3 (some .int) 1 := ⟨kc_X10_force, ki_X10, by decide, by decide, by decide +kernel⟩
theorem km_X10_force : Cond.instanceMethod yX10_force ∈ xTB := xTB_in (sg_7 (List.mem_of_getElem? (i := 40) (by decide +kernel))) rfl
theorem ke_X10_force : Cond.selects "BetweenStopsModel" yX10_force yX10_force ∈ xTB := xTB_in (sg_7 (List.mem_of_getElem? (i := 41) (by decide +kernel))) rfl
theorem mv_X10_force : xMwV yX10_force := ⟨km_X10_force, ke_X10_force⟩
theorem kc_X10_best : Cond.code yX10_best cX10_best 3 (some .long) ∈ xTB := xTB_in (sg_7 (List.mem_of_getElem? (i := 46) (by decide +kernel))) rfl
theorem mw_X10_best : xMw yX10_best cX10_best 3 (some .long) 1 := ⟨kc_X10_best, ki_X10, by decide, by decide, by decide +kernel⟩
theorem km_X10_best : Cond.instanceMethod yX10_best ∈ xTB := xTB_in (sg_7 (List.mem_of_getElem? (i := 44) (by decide +kernel))) rfl
theorem ke_X10_best : Cond.selects "BetweenStopsModel" yX10_best yX10_best ∈ xTB := xTB_in (sg_7 (List.mem_of_getElem? (i := 45) (by decide +kernel))) rfl
theorem mv_X10_best : xMwV yX10_best := ⟨km_X10_best, ke_X10_best⟩
theorem kc_X10_bestSet : Cond.code yX10_bestSet cX10_bestSet 7 (some .int) ∈ xTB := xTB_in (sg_7 (List.mem_of_getElem? (i := 50) (by decide +kernel))) rfl
theorem mw_X10_bestSet : xMw yX10_bestSet cX10_bestSet 7 (some .int) 2 := ⟨kc_X10_bestSet, ki_X10, by decide, by decide, by decide +kernel⟩
theorem km_X10_bestSet : Cond.instanceMethod yX10_bestSet ∈ xTB := xTB_in (sg_7 (List.mem_of_getElem? (i := 49) (by decide +kernel))) rfl
theorem ke_X10_bestSet : Cond.selects "BetweenStopsModel" yX10_bestSet yX10_bestSet ∈ xTB := xTB_in (sg_0 (List.mem_of_getElem? (i := 62) (by decide +kernel))) rfl
theorem mv_X10_bestSet : xMwV yX10_bestSet := ⟨km_X10_bestSet, ke_X10_bestSet⟩
theorem kc_X10_keeps : Cond.code yX10_keeps cX10_keeps 2 none ∈ xTB := xTB_in (sg_7 (List.mem_of_getElem? (i := 54) (by decide +kernel))) rfl
theorem mw_X10_keeps : xMw yX10_keeps cX10_keeps 2 none 0 := ⟨kc_X10_keeps, ki_X10, by decide, by decide, by decide +kernel⟩
theorem km_X10_keeps : Cond.instanceMethod yX10_keeps ∈ xTB := xTB_in (sg_7 (List.mem_of_getElem? (i := 53) (by decide +kernel))) rfl
theorem ke_X10_keeps : Cond.selects "BetweenStopsModel" yX10_keeps yX10_keeps ∈ xTB := xTB_in (sg_0 (List.mem_of_getElem? (i := 63) (by decide +kernel))) rfl
theorem mv_X10_keeps : xMwV yX10_keeps := ⟨km_X10_keeps, ke_X10_keeps⟩
theorem kc_X10_totalWith : Cond.code yX10_totalWith cX10_totalWith 3 (some .long) ∈ xTB := xTB_in (sg_7 (List.mem_of_getElem? (i := 58) (by decide +kernel))) rfl
theorem mw_X10_totalWith : xMw yX10_totalWith cX10_totalWith 3 (some .long) 1 := ⟨kc_X10_totalWith, ki_X10, by decide, by decide, by decide +kernel⟩
theorem km_X10_totalWith : Cond.instanceMethod yX10_totalWith ∈ xTB := xTB_in (sg_7 (List.mem_of_getElem? (i := 57) (by decide +kernel))) rfl
theorem ke_X10_totalWith : Cond.selects "BetweenStopsModel" yX10_totalWith yX10_totalWith ∈ xTB := xTB_in (sg_0 (List.mem_of_getElem? (i := 64) (by decide +kernel))) rfl
theorem mv_X10_totalWith : xMwV yX10_totalWith := ⟨km_X10_totalWith, ke_X10_totalWith⟩
theorem kc_X10_isWithin : Cond.code yX10_isWithin cX10_isWithin 3 (some .boolean) ∈ xTB := xTB_in (sg_7 (List.mem_of_getElem? (i := 62) (by decide +kernel))) rfl
theorem mw_X10_isWithin : xMw yX10_isWithin cX10_isWithin 3 (some .boolean) 1 := ⟨kc_X10_isWithin, ki_X10, by decide, by decide, by decide +kernel⟩
theorem km_X10_isWithin : Cond.instanceMethod yX10_isWithin ∈ xTB := xTB_in (sg_7 (List.mem_of_getElem? (i := 61) (by decide +kernel))) rfl
theorem ke_X10_isWithin : Cond.selects "BetweenStopsModel" yX10_isWithin yX10_isWithin ∈ xTB := xTB_in (sg_0 (List.mem_of_getElem? (i := 65) (by decide +kernel))) rfl
theorem mv_X10_isWithin : xMwV yX10_isWithin := ⟨km_X10_isWithin, ke_X10_isWithin⟩
theorem kc_X10_ones : Cond.code yX10_ones cX10_ones 3 (some .int) ∈ xTB := xTB_in (sg_7 (List.mem_of_getElem? (i := 65) (by decide +kernel))) rfl
theorem mw_X10_ones : xMw yX10_ones cX10_ones 3 (some .int) 1 := ⟨kc_X10_ones, ki_X10, by decide, by decide, by decide +kernel⟩
theorem ks_X10_ones : Cond.static yX10_ones ∈ xTB := xTB_in (sg_7 (List.mem_of_getElem? (i := 64) (by decide +kernel))) rfl
theorem kc_X10_lays : Cond.code yX10_lays cX10_lays 2 none ∈ xTB := xTB_in (sg_7 (List.mem_of_getElem? (i := 69) (by decide +kernel))) rfl
theorem mw_X10_lays : xMw yX10_lays cX10_lays 2 none 0 := ⟨kc_X10_lays, ki_X10, by decide, by decide, by decide +kernel⟩
theorem km_X10_lays : Cond.instanceMethod yX10_lays ∈ xTB := xTB_in (sg_7 (List.mem_of_getElem? (i := 68) (by decide +kernel))) rfl
theorem ke_X10_lays : Cond.selects "BetweenStopsModel" yX10_lays yX10_lays ∈ xTB := xTB_in (sg_0 (List.mem_of_getElem? (i := 66) (by decide +kernel))) rfl
theorem mv_X10_lays : xMwV yX10_lays := ⟨km_X10_lays, ke_X10_lays⟩
theorem kc_X10_bound : Cond.code yX10_bound cX10_bound 2 (some .int) ∈ xTB := xTB_in (sg_7 (List.mem_of_getElem? (i := 73) (by decide +kernel))) rfl
theorem mw_X10_bound : xMw yX10_bound cX10_bound 2 (some .int) 1 := ⟨kc_X10_bound, ki_X10, by decide, by decide, by decide +kernel⟩
theorem km_X10_bound : Cond.instanceMethod yX10_bound ∈ xTB := xTB_in (sg_7 (List.mem_of_getElem? (i := 71) (by decide +kernel))) rfl
theorem ke_X10_bound : Cond.selects "BetweenStopsModel" yX10_bound yX10_bound ∈ xTB := xTB_in (sg_7 (List.mem_of_getElem? (i := 72) (by decide +kernel))) rfl
theorem mv_X10_bound : xMwV yX10_bound := ⟨km_X10_bound, ke_X10_bound⟩
theorem kc_X10_least : Cond.code yX10_least cX10_least 2 (some .int) ∈ xTB := xTB_in (sg_7 (List.mem_of_getElem? (i := 78) (by decide +kernel))) rfl
theorem mw_X10_least : xMw yX10_least cX10_least 2 (some .int) 1 := ⟨kc_X10_least, ki_X10, by decide, by decide, by decide +kernel⟩
theorem km_X10_least : Cond.instanceMethod yX10_least ∈ xTB := xTB_in (sg_7 (List.mem_of_getElem? (i := 76) (by decide +kernel))) rfl
theorem ke_X10_least : Cond.selects "BetweenStopsModel" yX10_least yX10_least ∈ xTB := xTB_in (sg_7 (List.mem_of_getElem? (i := 77) (by decide +kernel))) rfl
theorem mv_X10_least : xMwV yX10_least := ⟨km_X10_least, ke_X10_least⟩
theorem kc_X10_fair : Cond.code yX10_fair cX10_fair 4 (some .int) ∈ xTB := xTB_in (sg_7 (List.mem_of_getElem? (i := 83) (by decide +kernel))) rfl
theorem mw_X10_fair : xMw yX10_fair cX10_fair 4 (some .int) 0 := ⟨kc_X10_fair, ki_X10, by decide, by decide, by decide +kernel⟩
theorem km_X10_fair : Cond.instanceMethod yX10_fair ∈ xTB := xTB_in (sg_7 (List.mem_of_getElem? (i := 81) (by decide +kernel))) rfl
theorem ke_X10_fair : Cond.selects "BetweenStopsModel" yX10_fair yX10_fair ∈ xTB := xTB_in (sg_7 (List.mem_of_getElem? (i := 82) (by decide +kernel))) rfl
theorem mv_X10_fair : xMwV yX10_fair := ⟨km_X10_fair, ke_X10_fair⟩
theorem kc_X10_fewest : Cond.code yX10_fewest cX10_fewest 4 (some .int) ∈ xTB := xTB_in (sg_7 (List.mem_of_getElem? (i := 87) (by decide +kernel))) rfl
theorem mw_X10_fewest : xMw yX10_fewest cX10_fewest 4 (some .int) 1 := ⟨kc_X10_fewest, ki_X10, by decide, by decide, by decide +kernel⟩
theorem km_X10_fewest : Cond.instanceMethod yX10_fewest ∈ xTB := xTB_in (sg_7 (List.mem_of_getElem? (i := 85) (by decide +kernel))) rfl
theorem ke_X10_fewest : Cond.selects "BetweenStopsModel" yX10_fewest yX10_fewest ∈ xTB := xTB_in (sg_7 (List.mem_of_getElem? (i := 86) (by decide +kernel))) rfl
theorem mv_X10_fewest : xMwV yX10_fewest := ⟨km_X10_fewest, ke_X10_fewest⟩
theorem kc_X10_judge : Cond.code yX10_judge cX10_judge 6 (some .int) ∈ xTB := xTB_in (sg_7 (List.mem_of_getElem? (i := 92) (by decide +kernel))) rfl
theorem mw_X10_judge : xMw yX10_judge cX10_judge 6 (some .int) 1 := ⟨kc_X10_judge, ki_X10, by decide, by decide, by decide +kernel⟩
theorem km_X10_judge : Cond.instanceMethod yX10_judge ∈ xTB := xTB_in (sg_7 (List.mem_of_getElem? (i := 90) (by decide +kernel))) rfl
theorem ke_X10_judge : Cond.selects "BetweenStopsModel" yX10_judge yX10_judge ∈ xTB := xTB_in (sg_7 (List.mem_of_getElem? (i := 91) (by decide +kernel))) rfl
theorem mv_X10_judge : xMwV yX10_judge := ⟨km_X10_judge, ke_X10_judge⟩
theorem kc_X10_patterns : Cond.code yX10_patterns cX10_patterns 16 (some .long) ∈ xTB := xTB_in (sg_7 (List.mem_of_getElem? (i := 96) (by decide +kernel))) rfl
theorem mw_X10_patterns : xMw yX10_patterns cX10_patterns 16 (some .long) 1 := ⟨kc_X10_patterns, ki_X10, by decide, by decide, by decide +kernel⟩
theorem km_X10_patterns : Cond.instanceMethod yX10_patterns ∈ xTB := xTB_in (sg_7 (List.mem_of_getElem? (i := 94) (by decide +kernel))) rfl
theorem ke_X10_patterns : Cond.selects "BetweenStopsModel" yX10_patterns yX10_patterns ∈ xTB := xTB_in (sg_7 (List.mem_of_getElem? (i := 95) (by decide +kernel))) rfl
theorem mv_X10_patterns : xMwV yX10_patterns := ⟨km_X10_patterns, ke_X10_patterns⟩
theorem kc_X10_bench : Cond.code yX10_bench cX10_bench 12 (some .long) ∈ xTB := xTB_in (sg_7 (List.mem_of_getElem? (i := 102) (by decide +kernel))) rfl
theorem mw_X10_bench : xMw yX10_bench cX10_bench 12 (some .long) 2 := ⟨kc_X10_bench, ki_X10, by decide, by decide, by decide +kernel⟩
theorem km_X10_bench : Cond.instanceMethod yX10_bench ∈ xTB := xTB_in (sg_7 (List.mem_of_getElem? (i := 100) (by decide +kernel))) rfl
theorem ke_X10_bench : Cond.selects "BetweenStopsModel" yX10_bench yX10_bench ∈ xTB := xTB_in (sg_7 (List.mem_of_getElem? (i := 101) (by decide +kernel))) rfl
theorem mv_X10_bench : xMwV yX10_bench := ⟨km_X10_bench, ke_X10_bench⟩
theorem kc_X10_give : Cond.code yX10_give cX10_give 1 (some .int) ∈ xTB := xTB_in (sg_7 (List.mem_of_getElem? (i := 106) (by decide +kernel))) rfl
theorem mw_X10_give : xMw yX10_give cX10_give 1 (some .int) 0 := ⟨kc_X10_give, ki_X10, by decide, by decide, by decide +kernel⟩
theorem km_X10_give : Cond.instanceMethod yX10_give ∈ xTB := xTB_in (sg_7 (List.mem_of_getElem? (i := 104) (by decide +kernel))) rfl
theorem ke_X10_give : Cond.selects "BetweenStopsModel" yX10_give yX10_give ∈ xTB := xTB_in (sg_7 (List.mem_of_getElem? (i := 105) (by decide +kernel))) rfl
theorem mv_X10_give : xMwV yX10_give := ⟨km_X10_give, ke_X10_give⟩
theorem kc_X10_givesUp : Cond.code yX10_givesUp cX10_givesUp 5 (some .int) ∈ xTB := xTB_in (sg_7 (List.mem_of_getElem? (i := 110) (by decide +kernel))) rfl
theorem mw_X10_givesUp : xMw yX10_givesUp cX10_givesUp 5 (some .int) 0 := ⟨kc_X10_givesUp, ki_X10, by decide, by decide, by decide +kernel⟩
theorem km_X10_givesUp : Cond.instanceMethod yX10_givesUp ∈ xTB := xTB_in (sg_7 (List.mem_of_getElem? (i := 109) (by decide +kernel))) rfl
theorem ke_X10_givesUp : Cond.selects "BetweenStopsModel" yX10_givesUp yX10_givesUp ∈ xTB := xTB_in (sg_0 (List.mem_of_getElem? (i := 67) (by decide +kernel))) rfl
theorem mv_X10_givesUp : xMwV yX10_givesUp := ⟨km_X10_givesUp, ke_X10_givesUp⟩
theorem kc_X10_order : Cond.code yX10_order cX10_order 5 (some .int) ∈ xTB := xTB_in (sg_7 (List.mem_of_getElem? (i := 114) (by decide +kernel))) rfl
theorem mw_X10_order : xMw yX10_order cX10_order 5 (some .int) 1 := ⟨kc_X10_order, ki_X10, by decide, by decide, by decide +kernel⟩
theorem km_X10_order : Cond.instanceMethod yX10_order ∈ xTB := xTB_in (sg_7 (List.mem_of_getElem? (i := 112) (by decide +kernel))) rfl
theorem ke_X10_order : Cond.selects "BetweenStopsModel" yX10_order yX10_order ∈ xTB := xTB_in (sg_7 (List.mem_of_getElem? (i := 113) (by decide +kernel))) rfl
theorem mv_X10_order : xMwV yX10_order := ⟨km_X10_order, ke_X10_order⟩
theorem kc_X10_thins : Cond.code yX10_thins cX10_thins 3 (some .int) ∈ xTB := xTB_in (sg_7 (List.mem_of_getElem? (i := 118) (by decide +kernel))) rfl
theorem mw_X10_thins : xMw yX10_thins cX10_thins 3 (some .int) 0 := ⟨kc_X10_thins, ki_X10, by decide, by decide, by decide +kernel⟩
theorem km_X10_thins : Cond.instanceMethod yX10_thins ∈ xTB := xTB_in (sg_7 (List.mem_of_getElem? (i := 116) (by decide +kernel))) rfl
theorem ke_X10_thins : Cond.selects "BetweenStopsModel" yX10_thins yX10_thins ∈ xTB := xTB_in (sg_7 (List.mem_of_getElem? (i := 117) (by decide +kernel))) rfl
theorem mv_X10_thins : xMwV yX10_thins := ⟨km_X10_thins, ke_X10_thins⟩
theorem kc_X10_across : Cond.code yX10_across cX10_across 4 (some .long) ∈ xTB := xTB_in (sg_7 (List.mem_of_getElem? (i := 122) (by decide +kernel))) rfl
theorem mw_X10_across : xMw yX10_across cX10_across 4 (some .long) 1 := ⟨kc_X10_across, ki_X10, by decide, by decide, by decide +kernel⟩
theorem km_X10_across : Cond.instanceMethod yX10_across ∈ xTB := xTB_in (sg_7 (List.mem_of_getElem? (i := 120) (by decide +kernel))) rfl
theorem ke_X10_across : Cond.selects "BetweenStopsModel" yX10_across yX10_across ∈ xTB := xTB_in (sg_7 (List.mem_of_getElem? (i := 121) (by decide +kernel))) rfl
theorem mv_X10_across : xMwV yX10_across := ⟨km_X10_across, ke_X10_across⟩
theorem kc_X10_homes : Cond.code yX10_homes cX10_homes 1 (some .int) ∈ xTB := xTB_in (sg_7 (List.mem_of_getElem? (i := 126) (by decide +kernel))) rfl
theorem mw_X10_homes : xMw yX10_homes cX10_homes 1 (some .int) 0 := ⟨kc_X10_homes, ki_X10, by decide, by decide, by decide +kernel⟩
theorem km_X10_homes : Cond.instanceMethod yX10_homes ∈ xTB := xTB_in (sg_7 (List.mem_of_getElem? (i := 124) (by decide +kernel))) rfl
theorem ke_X10_homes : Cond.selects "BetweenStopsModel" yX10_homes yX10_homes ∈ xTB := xTB_in (sg_7 (List.mem_of_getElem? (i := 125) (by decide +kernel))) rfl
theorem mv_X10_homes : xMwV yX10_homes := ⟨km_X10_homes, ke_X10_homes⟩
theorem kc_X10_homesNow : Cond.code yX10_homesNow cX10_homesNow 3 (some .int) ∈ xTB := xTB_in (sg_7 (List.mem_of_getElem? (i := 130) (by decide +kernel))) rfl
theorem mw_X10_homesNow : xMw yX10_homesNow cX10_homesNow 3 (some .int) 0 := ⟨kc_X10_homesNow, ki_X10, by decide, by decide, by decide +kernel⟩
theorem km_X10_homesNow : Cond.instanceMethod yX10_homesNow ∈ xTB := xTB_in (sg_7 (List.mem_of_getElem? (i := 129) (by decide +kernel))) rfl
theorem ke_X10_homesNow : Cond.selects "BetweenStopsModel" yX10_homesNow yX10_homesNow ∈ xTB := xTB_in (sg_0 (List.mem_of_getElem? (i := 68) (by decide +kernel))) rfl
theorem mv_X10_homesNow : xMwV yX10_homesNow := ⟨km_X10_homesNow, ke_X10_homesNow⟩
theorem kc_X10_names : Cond.code yX10_names cX10_names 5 none ∈ xTB := xTB_in (sg_7 (List.mem_of_getElem? (i := 134) (by decide +kernel))) rfl
theorem mw_X10_names : xMw yX10_names cX10_names 5 none 4 := ⟨kc_X10_names, ki_X10, by decide, by decide, by decide +kernel⟩
theorem km_X10_names : Cond.instanceMethod yX10_names ∈ xTB := xTB_in (sg_7 (List.mem_of_getElem? (i := 133) (by decide +kernel))) rfl
theorem ke_X10_names : Cond.selects "BetweenStopsModel" yX10_names yX10_names ∈ xTB := xTB_in (sg_0 (List.mem_of_getElem? (i := 69) (by decide +kernel))) rfl
theorem mv_X10_names : xMwV yX10_names := ⟨km_X10_names, ke_X10_names⟩
theorem kc_X10_says : Cond.code yX10_says cX10_says 7 (some .int) ∈ xTB := xTB_in (sg_7 (List.mem_of_getElem? (i := 138) (by decide +kernel))) rfl
theorem mw_X10_says : xMw yX10_says cX10_says 7 (some .int) 3 := ⟨kc_X10_says, ki_X10, by decide, by decide, by decide +kernel⟩
theorem km_X10_says : Cond.instanceMethod yX10_says ∈ xTB := xTB_in (sg_7 (List.mem_of_getElem? (i := 137) (by decide +kernel))) rfl
theorem ke_X10_says : Cond.selects "BetweenStopsModel" yX10_says yX10_says ∈ xTB := xTB_in (sg_0 (List.mem_of_getElem? (i := 70) (by decide +kernel))) rfl
theorem mv_X10_says : xMwV yX10_says := ⟨km_X10_says, ke_X10_says⟩
theorem kc_X10_two : Cond.code yX10_two cX10_two 3 (some .int) ∈ xTB := xTB_in (sg_7 (List.mem_of_getElem? (i := 141) (by decide +kernel))) rfl
theorem mw_X10_two : xMw yX10_two cX10_two 3 (some .int) 3 := ⟨kc_X10_two, ki_X10, by decide, by decide, by decide +kernel⟩
theorem ks_X10_two : Cond.static yX10_two ∈ xTB := xTB_in (sg_7 (List.mem_of_getElem? (i := 140) (by decide +kernel))) rfl
theorem kc_X10_round : Cond.code yX10_round cX10_round 4 (some .int) ∈ xTB := xTB_in (sg_7 (List.mem_of_getElem? (i := 145) (by decide +kernel))) rfl
theorem mw_X10_round : xMw yX10_round cX10_round 4 (some .int) 1 := ⟨kc_X10_round, ki_X10, by decide, by decide, by decide +kernel⟩
theorem km_X10_round : Cond.instanceMethod yX10_round ∈ xTB := xTB_in (sg_7 (List.mem_of_getElem? (i := 143) (by decide +kernel))) rfl
theorem ke_X10_round : Cond.selects "BetweenStopsModel" yX10_round yX10_round ∈ xTB := xTB_in (sg_7 (List.mem_of_getElem? (i := 144) (by decide +kernel))) rfl
theorem mv_X10_round : xMwV yX10_round := ⟨km_X10_round, ke_X10_round⟩
theorem kc_X10_roundFrom : Cond.code yX10_roundFrom cX10_roundFrom 10 (some .int) ∈ xTB := xTB_in (sg_7 (List.mem_of_getElem? (i := 149) (by decide +kernel))) rfl
theorem mw_X10_roundFrom : xMw yX10_roundFrom cX10_roundFrom 10 (some .int) 1 := ⟨kc_X10_roundFrom, ki_X10, by decide, by decide, by decide +kernel⟩
theorem km_X10_roundFrom : Cond.instanceMethod yX10_roundFrom ∈ xTB := xTB_in (sg_7 (List.mem_of_getElem? (i := 148) (by decide +kernel))) rfl
theorem ke_X10_roundFrom : Cond.selects "BetweenStopsModel" yX10_roundFrom yX10_roundFrom ∈ xTB := xTB_in (sg_0 (List.mem_of_getElem? (i := 71) (by decide +kernel))) rfl
theorem mv_X10_roundFrom : xMwV yX10_roundFrom := ⟨km_X10_roundFrom, ke_X10_roundFrom⟩
theorem kc_X10_rest : Cond.code yX10_rest cX10_rest 4 (some .int) ∈ xTB := xTB_in (sg_7 (List.mem_of_getElem? (i := 154) (by decide +kernel))) rfl
theorem mw_X10_rest : xMw yX10_rest cX10_rest 4 (some .int) 1 := ⟨kc_X10_rest, ki_X10, by decide, by decide, by decide +kernel⟩
theorem km_X10_rest : Cond.instanceMethod yX10_rest ∈ xTB := xTB_in (sg_7 (List.mem_of_getElem? (i := 152) (by decide +kernel))) rfl
theorem ke_X10_rest : Cond.selects "BetweenStopsModel" yX10_rest yX10_rest ∈ xTB := xTB_in (sg_7 (List.mem_of_getElem? (i := 153) (by decide +kernel))) rfl
theorem mv_X10_rest : xMwV yX10_rest := ⟨km_X10_rest, ke_X10_rest⟩
theorem kc_X10_asks : Cond.code yX10_asks cX10_asks 2 (some .int) ∈ xTB := xTB_in (sg_7 (List.mem_of_getElem? (i := 158) (by decide +kernel))) rfl
theorem mw_X10_asks : xMw yX10_asks cX10_asks 2 (some .int) 1 := ⟨kc_X10_asks, ki_X10, by decide, by decide, by decide +kernel⟩
theorem km_X10_asks : Cond.instanceMethod yX10_asks ∈ xTB := xTB_in (sg_7 (List.mem_of_getElem? (i := 156) (by decide +kernel))) rfl
theorem ke_X10_asks : Cond.selects "BetweenStopsModel" yX10_asks yX10_asks ∈ xTB := xTB_in (sg_7 (List.mem_of_getElem? (i := 157) (by decide +kernel))) rfl
theorem mv_X10_asks : xMwV yX10_asks := ⟨km_X10_asks, ke_X10_asks⟩
theorem kc_X10_asksOf : Cond.code yX10_asksOf cX10_asksOf 3 (some .int) ∈ xTB := xTB_in (sg_7 (List.mem_of_getElem? (i := 162) (by decide +kernel))) rfl
theorem mw_X10_asksOf : xMw yX10_asksOf cX10_asksOf 3 (some .int) 1 := ⟨kc_X10_asksOf, ki_X10, by decide, by decide, by decide +kernel⟩
theorem km_X10_asksOf : Cond.instanceMethod yX10_asksOf ∈ xTB := xTB_in (sg_7 (List.mem_of_getElem? (i := 161) (by decide +kernel))) rfl
theorem ke_X10_asksOf : Cond.selects "BetweenStopsModel" yX10_asksOf yX10_asksOf ∈ xTB := xTB_in (sg_0 (List.mem_of_getElem? (i := 72) (by decide +kernel))) rfl
theorem mv_X10_asksOf : xMwV yX10_asksOf := ⟨km_X10_asksOf, ke_X10_asksOf⟩
theorem kc_X10_within : Cond.code yX10_within cX10_within 2 (some .int) ∈ xTB := xTB_in (sg_7 (List.mem_of_getElem? (i := 165) (by decide +kernel))) rfl
theorem mw_X10_within : xMw yX10_within cX10_within 2 (some .int) 2 := ⟨kc_X10_within, ki_X10, by decide, by decide, by decide +kernel⟩
theorem ks_X10_within : Cond.static yX10_within ∈ xTB := xTB_in (sg_7 (List.mem_of_getElem? (i := 164) (by decide +kernel))) rfl
theorem kc_X10_asked : Cond.code yX10_asked cX10_asked 3 (some .int) ∈ xTB := xTB_in (sg_7 (List.mem_of_getElem? (i := 169) (by decide +kernel))) rfl
theorem mw_X10_asked : xMw yX10_asked cX10_asked 3 (some .int) 0 := ⟨kc_X10_asked, ki_X10, by decide, by decide, by decide +kernel⟩
theorem km_X10_asked : Cond.instanceMethod yX10_asked ∈ xTB := xTB_in (sg_7 (List.mem_of_getElem? (i := 167) (by decide +kernel))) rfl
theorem ke_X10_asked : Cond.selects "BetweenStopsModel" yX10_asked yX10_asked ∈ xTB := xTB_in (sg_7 (List.mem_of_getElem? (i := 168) (by decide +kernel))) rfl
theorem mv_X10_asked : xMwV yX10_asked := ⟨km_X10_asked, ke_X10_asked⟩
theorem kc_X10_bunch : Cond.code yX10_bunch cX10_bunch 3 (some .int) ∈ xTB := xTB_in (sg_7 (List.mem_of_getElem? (i := 173) (by decide +kernel))) rfl
theorem mw_X10_bunch : xMw yX10_bunch cX10_bunch 3 (some .int) 2 := ⟨kc_X10_bunch, ki_X10, by decide, by decide, by decide +kernel⟩
theorem km_X10_bunch : Cond.instanceMethod yX10_bunch ∈ xTB := xTB_in (sg_7 (List.mem_of_getElem? (i := 171) (by decide +kernel))) rfl
theorem ke_X10_bunch : Cond.selects "BetweenStopsModel" yX10_bunch yX10_bunch ∈ xTB := xTB_in (sg_7 (List.mem_of_getElem? (i := 172) (by decide +kernel))) rfl
theorem mv_X10_bunch : xMwV yX10_bunch := ⟨km_X10_bunch, ke_X10_bunch⟩
theorem kc_X10_goesAll : Cond.code yX10_goesAll cX10_goesAll 4 none ∈ xTB := xTB_in (sg_7 (List.mem_of_getElem? (i := 177) (by decide +kernel))) rfl
theorem mw_X10_goesAll : xMw yX10_goesAll cX10_goesAll 4 none 2 := ⟨kc_X10_goesAll, ki_X10, by decide, by decide, by decide +kernel⟩
theorem km_X10_goesAll : Cond.instanceMethod yX10_goesAll ∈ xTB := xTB_in (sg_7 (List.mem_of_getElem? (i := 176) (by decide +kernel))) rfl
theorem ke_X10_goesAll : Cond.selects "BetweenStopsModel" yX10_goesAll yX10_goesAll ∈ xTB := xTB_in (sg_0 (List.mem_of_getElem? (i := 73) (by decide +kernel))) rfl
theorem mv_X10_goesAll : xMwV yX10_goesAll := ⟨km_X10_goesAll, ke_X10_goesAll⟩
theorem kc_X10_goesBy : Cond.code yX10_goesBy cX10_goesBy 10 (some .long) ∈ xTB := xTB_in (sg_7 (List.mem_of_getElem? (i := 181) (by decide +kernel))) rfl
theorem mw_X10_goesBy : xMw yX10_goesBy cX10_goesBy 10 (some .long) 2 := ⟨kc_X10_goesBy, ki_X10, by decide, by decide, by decide +kernel⟩
theorem km_X10_goesBy : Cond.instanceMethod yX10_goesBy ∈ xTB := xTB_in (sg_7 (List.mem_of_getElem? (i := 180) (by decide +kernel))) rfl
theorem ke_X10_goesBy : Cond.selects "BetweenStopsModel" yX10_goesBy yX10_goesBy ∈ xTB := xTB_in (sg_0 (List.mem_of_getElem? (i := 74) (by decide +kernel))) rfl
theorem mv_X10_goesBy : xMwV yX10_goesBy := ⟨km_X10_goesBy, ke_X10_goesBy⟩
theorem kc_X10_crowd : Cond.code yX10_crowd cX10_crowd 6 (some .int) ∈ xTB := xTB_in (sg_7 (List.mem_of_getElem? (i := 185) (by decide +kernel))) rfl
theorem mw_X10_crowd : xMw yX10_crowd cX10_crowd 6 (some .int) 2 := ⟨kc_X10_crowd, ki_X10, by decide, by decide, by decide +kernel⟩
theorem km_X10_crowd : Cond.instanceMethod yX10_crowd ∈ xTB := xTB_in (sg_7 (List.mem_of_getElem? (i := 183) (by decide +kernel))) rfl
theorem ke_X10_crowd : Cond.selects "BetweenStopsModel" yX10_crowd yX10_crowd ∈ xTB := xTB_in (sg_7 (List.mem_of_getElem? (i := 184) (by decide +kernel))) rfl
theorem mv_X10_crowd : xMwV yX10_crowd := ⟨km_X10_crowd, ke_X10_crowd⟩
theorem kc_X10_drawn : Cond.code yX10_drawn cX10_drawn 10 (some .int) ∈ xTB := xTB_in (sg_7 (List.mem_of_getElem? (i := 189) (by decide +kernel))) rfl
theorem mw_X10_drawn : xMw yX10_drawn cX10_drawn 10 (some .int) 2 := ⟨kc_X10_drawn, ki_X10, by decide, by decide, by decide +kernel⟩
theorem km_X10_drawn : Cond.instanceMethod yX10_drawn ∈ xTB := xTB_in (sg_7 (List.mem_of_getElem? (i := 187) (by decide +kernel))) rfl
theorem ke_X10_drawn : Cond.selects "BetweenStopsModel" yX10_drawn yX10_drawn ∈ xTB := xTB_in (sg_7 (List.mem_of_getElem? (i := 188) (by decide +kernel))) rfl
theorem mv_X10_drawn : xMwV yX10_drawn := ⟨km_X10_drawn, ke_X10_drawn⟩
theorem kc_X10_image : Cond.code yX10_image cX10_image 2 (some .int) ∈ xTB := xTB_in (sg_7 (List.mem_of_getElem? (i := 196) (by decide +kernel))) rfl
theorem mw_X10_image : xMw yX10_image cX10_image 2 (some .int) 0 := ⟨kc_X10_image, ki_X10, by decide, by decide, by decide +kernel⟩
theorem km_X10_image : Cond.instanceMethod yX10_image ∈ xTB := xTB_in (sg_7 (List.mem_of_getElem? (i := 194) (by decide +kernel))) rfl
theorem ke_X10_image : Cond.selects "BetweenStopsModel" yX10_image yX10_image ∈ xTB := xTB_in (sg_7 (List.mem_of_getElem? (i := 195) (by decide +kernel))) rfl
theorem mv_X10_image : xMwV yX10_image := ⟨km_X10_image, ke_X10_image⟩
theorem kc_X10_back : Cond.code yX10_back cX10_back 2 (some .int) ∈ xTB := xTB_in (sg_7 (List.mem_of_getElem? (i := 200) (by decide +kernel))) rfl
theorem mw_X10_back : xMw yX10_back cX10_back 2 (some .int) 0 := ⟨kc_X10_back, ki_X10, by decide, by decide, by decide +kernel⟩
theorem km_X10_back : Cond.instanceMethod yX10_back ∈ xTB := xTB_in (sg_7 (List.mem_of_getElem? (i := 198) (by decide +kernel))) rfl
theorem ke_X10_back : Cond.selects "BetweenStopsModel" yX10_back yX10_back ∈ xTB := xTB_in (sg_7 (List.mem_of_getElem? (i := 199) (by decide +kernel))) rfl
theorem mv_X10_back : xMwV yX10_back := ⟨km_X10_back, ke_X10_back⟩
theorem kc_X10_sheet : Cond.code yX10_sheet cX10_sheet 5 (some .int) ∈ xTB := xTB_in (sg_7 (List.mem_of_getElem? (i := 204) (by decide +kernel))) rfl
theorem mw_X10_sheet : xMw yX10_sheet cX10_sheet 5 (some .int) 3 := ⟨kc_X10_sheet, ki_X10, by decide, by decide, by decide +kernel⟩
theorem km_X10_sheet : Cond.instanceMethod yX10_sheet ∈ xTB := xTB_in (sg_7 (List.mem_of_getElem? (i := 202) (by decide +kernel))) rfl
theorem ke_X10_sheet : Cond.selects "BetweenStopsModel" yX10_sheet yX10_sheet ∈ xTB := xTB_in (sg_7 (List.mem_of_getElem? (i := 203) (by decide +kernel))) rfl
theorem mv_X10_sheet : xMwV yX10_sheet := ⟨km_X10_sheet, ke_X10_sheet⟩
theorem kc_X10_cell : Cond.code yX10_cell cX10_cell 4 (some .int) ∈ xTB := xTB_in (sg_7 (List.mem_of_getElem? (i := 208) (by decide +kernel))) rfl
theorem mw_X10_cell : xMw yX10_cell cX10_cell 4 (some .int) 3 := ⟨kc_X10_cell, ki_X10, by decide, by decide, by decide +kernel⟩
theorem km_X10_cell : Cond.instanceMethod yX10_cell ∈ xTB := xTB_in (sg_7 (List.mem_of_getElem? (i := 206) (by decide +kernel))) rfl
theorem ke_X10_cell : Cond.selects "BetweenStopsModel" yX10_cell yX10_cell ∈ xTB := xTB_in (sg_7 (List.mem_of_getElem? (i := 207) (by decide +kernel))) rfl
theorem mv_X10_cell : xMwV yX10_cell := ⟨km_X10_cell, ke_X10_cell⟩
theorem kc_X10_copy : Cond.code yX10_copy cX10_copy 10 (some .int) ∈ xTB := xTB_in (sg_7 (List.mem_of_getElem? (i := 212) (by decide +kernel))) rfl
theorem mw_X10_copy : xMw yX10_copy cX10_copy 10 (some .int) 5 := ⟨kc_X10_copy, ki_X10, by decide, by decide, by decide +kernel⟩
theorem km_X10_copy : Cond.instanceMethod yX10_copy ∈ xTB := xTB_in (sg_7 (List.mem_of_getElem? (i := 210) (by decide +kernel))) rfl
theorem ke_X10_copy : Cond.selects "BetweenStopsModel" yX10_copy yX10_copy ∈ xTB := xTB_in (sg_7 (List.mem_of_getElem? (i := 211) (by decide +kernel))) rfl
theorem mv_X10_copy : xMwV yX10_copy := ⟨km_X10_copy, ke_X10_copy⟩
theorem kc_X10_tripsBy : Cond.code yX10_tripsBy cX10_tripsBy 9 (some .int) ∈ xTB := xTB_in (sg_7 (List.mem_of_getElem? (i := 216) (by decide +kernel))) rfl
theorem mw_X10_tripsBy : xMw yX10_tripsBy cX10_tripsBy 9 (some .int) 4 := ⟨kc_X10_tripsBy, ki_X10, by decide, by decide, by decide +kernel⟩
theorem km_X10_tripsBy : Cond.instanceMethod yX10_tripsBy ∈ xTB := xTB_in (sg_7 (List.mem_of_getElem? (i := 214) (by decide +kernel))) rfl
theorem ke_X10_tripsBy : Cond.selects "BetweenStopsModel" yX10_tripsBy yX10_tripsBy ∈ xTB := xTB_in (sg_7 (List.mem_of_getElem? (i := 215) (by decide +kernel))) rfl
theorem mv_X10_tripsBy : xMwV yX10_tripsBy := ⟨km_X10_tripsBy, ke_X10_tripsBy⟩
theorem kc_X10_taken : Cond.code yX10_taken cX10_taken 3 (some .int) ∈ xTB := xTB_in (sg_7 (List.mem_of_getElem? (i := 221) (by decide +kernel))) rfl
theorem mw_X10_taken : xMw yX10_taken cX10_taken 3 (some .int) 2 := ⟨kc_X10_taken, ki_X10, by decide, by decide, by decide +kernel⟩
theorem km_X10_taken : Cond.instanceMethod yX10_taken ∈ xTB := xTB_in (sg_7 (List.mem_of_getElem? (i := 219) (by decide +kernel))) rfl
theorem ke_X10_taken : Cond.selects "BetweenStopsModel" yX10_taken yX10_taken ∈ xTB := xTB_in (sg_7 (List.mem_of_getElem? (i := 220) (by decide +kernel))) rfl
theorem mv_X10_taken : xMwV yX10_taken := ⟨km_X10_taken, ke_X10_taken⟩
theorem kc_X10_isUnder : Cond.code yX10_isUnder cX10_isUnder 2 (some .boolean) ∈ xTB := xTB_in (sg_7 (List.mem_of_getElem? (i := 224) (by decide +kernel))) rfl
theorem mw_X10_isUnder : xMw yX10_isUnder cX10_isUnder 2 (some .boolean) 2 := ⟨kc_X10_isUnder, ki_X10, by decide, by decide, by decide +kernel⟩
theorem ks_X10_isUnder : Cond.static yX10_isUnder ∈ xTB := xTB_in (sg_7 (List.mem_of_getElem? (i := 223) (by decide +kernel))) rfl
theorem kk_J2_227 : Cond.constant "java/lang/StringUTF16" 227 (65536) ∈ xTB := xTB_in (sg_3 (List.mem_of_getElem? (i := 14) (by decide +kernel))) rfl
theorem kk_J11_110 : Cond.constant "java/lang/Character" 110 (55232) ∈ xTB := xTB_in (sg_3 (List.mem_of_getElem? (i := 39) (by decide +kernel))) rfl
theorem kk_J11_76 : Cond.constant "java/lang/Character" 76 (56320) ∈ xTB := xTB_in (sg_3 (List.mem_of_getElem? (i := 43) (by decide +kernel))) rfl
theorem kk_J6_265 : Cond.constant "java/lang/Integer" 265 (1431655765) ∈ xTB := xTB_in (sg_4 (List.mem_of_getElem? (i := 10) (by decide +kernel))) rfl
theorem kk_J6_266 : Cond.constant "java/lang/Integer" 266 (858993459) ∈ xTB := xTB_in (sg_4 (List.mem_of_getElem? (i := 11) (by decide +kernel))) rfl
theorem kk_J6_267 : Cond.constant "java/lang/Integer" 267 (252645135) ∈ xTB := xTB_in (sg_4 (List.mem_of_getElem? (i := 12) (by decide +kernel))) rfl
theorem kk_X9_257 : Cond.constant "BetweenStops" 257 (2147483647) ∈ xTB := xTB_in (sg_4 (List.mem_of_getElem? (i := 103) (by decide +kernel))) rfl
theorem kk_X9_266 : Cond.constant "BetweenStops" 266 (99999) ∈ xTB := xTB_in (sg_4 (List.mem_of_getElem? (i := 128) (by decide +kernel))) rfl
theorem kk_X9_267 : Cond.constant "BetweenStops" 267 (999999) ∈ xTB := xTB_in (sg_4 (List.mem_of_getElem? (i := 133) (by decide +kernel))) rfl
theorem kk_X9_278 : Cond.constant "BetweenStops" 278 (999999999) ∈ xTB := xTB_in (sg_4 (List.mem_of_getElem? (i := 147) (by decide +kernel))) rfl
theorem kk_X10_156 : Cond.constant "BetweenStopsModel" 156 (102000) ∈ xTB := xTB_in (sg_5 (List.mem_of_getElem? (i := 135) (by decide +kernel))) rfl
theorem kk_X10_161 : Cond.constant "BetweenStopsModel" 161 (100002) ∈ xTB := xTB_in (sg_5 (List.mem_of_getElem? (i := 140) (by decide +kernel))) rfl
theorem kk_X10_305 : Cond.constant "BetweenStopsModel" 305 (100000) ∈ xTB := xTB_in (sg_7 (List.mem_of_getElem? (i := 11) (by decide +kernel))) rfl
theorem kk_X10_345 : Cond.constant "BetweenStopsModel" 345 (99999) ∈ xTB := xTB_in (sg_7 (List.mem_of_getElem? (i := 74) (by decide +kernel))) rfl
theorem kk_X10_346 : Cond.constant "BetweenStopsModel" 346 (999999) ∈ xTB := xTB_in (sg_7 (List.mem_of_getElem? (i := 79) (by decide +kernel))) rfl
theorem kk_X10_347 : Cond.constant "BetweenStopsModel" 347 (999999999) ∈ xTB := xTB_in (sg_7 (List.mem_of_getElem? (i := 88) (by decide +kernel))) rfl
theorem kK_X9_239 : Cond.constantLong "BetweenStops" 239 (-4611686018427387904) ∈ xTB := xTB_in (sg_4 (List.mem_of_getElem? (i := 65) (by decide +kernel))) rfl
theorem kK_X9_420 : Cond.constantLong "BetweenStops" 420 (48271) ∈ xTB := xTB_in (sg_5 (List.mem_of_getElem? (i := 52) (by decide +kernel))) rfl
theorem kK_X9_422 : Cond.constantLong "BetweenStops" 422 (2147483647) ∈ xTB := xTB_in (sg_5 (List.mem_of_getElem? (i := 53) (by decide +kernel))) rfl
theorem kK_X9_413 : Cond.constantLong "BetweenStops" 413 (2) ∈ xTB := xTB_in (sg_5 (List.mem_of_getElem? (i := 54) (by decide +kernel))) rfl
theorem kK_X9_415 : Cond.constantLong "BetweenStops" 415 (10) ∈ xTB := xTB_in (sg_5 (List.mem_of_getElem? (i := 55) (by decide +kernel))) rfl
theorem kK_X10_95 : Cond.constantLong "BetweenStopsModel" 95 (1937006969) ∈ xTB := xTB_in (sg_5 (List.mem_of_getElem? (i := 123) (by decide +kernel))) rfl
theorem kK_X10_97 : Cond.constantLong "BetweenStopsModel" 97 (1818326117) ∈ xTB := xTB_in (sg_5 (List.mem_of_getElem? (i := 124) (by decide +kernel))) rfl
theorem kK_X10_99 : Cond.constantLong "BetweenStopsModel" 99 (6386539) ∈ xTB := xTB_in (sg_5 (List.mem_of_getElem? (i := 125) (by decide +kernel))) rfl
theorem kK_X10_101 : Cond.constantLong "BetweenStopsModel" 101 (1668248436) ∈ xTB := xTB_in (sg_5 (List.mem_of_getElem? (i := 126) (by decide +kernel))) rfl
theorem kK_X10_103 : Cond.constantLong "BetweenStopsModel" 103 (2002873451) ∈ xTB := xTB_in (sg_5 (List.mem_of_getElem? (i := 127) (by decide +kernel))) rfl
theorem kK_X10_105 : Cond.constantLong "BetweenStopsModel" 105 (2002872692) ∈ xTB := xTB_in (sg_5 (List.mem_of_getElem? (i := 128) (by decide +kernel))) rfl
theorem kK_X10_107 : Cond.constantLong "BetweenStopsModel" 107 (1919509605) ∈ xTB := xTB_in (sg_5 (List.mem_of_getElem? (i := 129) (by decide +kernel))) rfl
theorem kK_X10_109 : Cond.constantLong "BetweenStopsModel" 109 (1835101817) ∈ xTB := xTB_in (sg_5 (List.mem_of_getElem? (i := 130) (by decide +kernel))) rfl
theorem kK_X10_111 : Cond.constantLong "BetweenStopsModel" 111 (1936683636) ∈ xTB := xTB_in (sg_5 (List.mem_of_getElem? (i := 131) (by decide +kernel))) rfl
theorem kK_X10_113 : Cond.constantLong "BetweenStopsModel" 113 (28530) ∈ xTB := xTB_in (sg_5 (List.mem_of_getElem? (i := 132) (by decide +kernel))) rfl
theorem kK_X10_115 : Cond.constantLong "BetweenStopsModel" 115 (6385252) ∈ xTB := xTB_in (sg_5 (List.mem_of_getElem? (i := 133) (by decide +kernel))) rfl
theorem kK_X10_117 : Cond.constantLong "BetweenStopsModel" 117 (7237492) ∈ xTB := xTB_in (sg_5 (List.mem_of_getElem? (i := 134) (by decide +kernel))) rfl
theorem kK_X10_255 : Cond.constantLong "BetweenStopsModel" 255 (-4611686018427387904) ∈ xTB := xTB_in (sg_6 (List.mem_of_getElem? (i := 217) (by decide +kernel))) rfl
theorem kK_X10_264 : Cond.constantLong "BetweenStopsModel" 264 (255) ∈ xTB := xTB_in (sg_6 (List.mem_of_getElem? (i := 234) (by decide +kernel))) rfl
theorem kK_X10_348 : Cond.constantLong "BetweenStopsModel" 348 (-1) ∈ xTB := xTB_in (sg_7 (List.mem_of_getElem? (i := 97) (by decide +kernel))) rfl
theorem kK_X10_350 : Cond.constantLong "BetweenStopsModel" 350 (10) ∈ xTB := xTB_in (sg_7 (List.mem_of_getElem? (i := 98) (by decide +kernel))) rfl
theorem kK_X10_368 : Cond.constantLong "BetweenStopsModel" 368 (3600) ∈ xTB := xTB_in (sg_7 (List.mem_of_getElem? (i := 150) (by decide +kernel))) rfl
theorem kK_X10_387 : Cond.constantLong "BetweenStopsModel" 387 (48271) ∈ xTB := xTB_in (sg_7 (List.mem_of_getElem? (i := 190) (by decide +kernel))) rfl
theorem kK_X10_389 : Cond.constantLong "BetweenStopsModel" 389 (2147483647) ∈ xTB := xTB_in (sg_7 (List.mem_of_getElem? (i := 191) (by decide +kernel))) rfl
theorem kK_X10_391 : Cond.constantLong "BetweenStopsModel" 391 (2) ∈ xTB := xTB_in (sg_7 (List.mem_of_getElem? (i := 192) (by decide +kernel))) rfl
theorem kK_L_74 : Cond.constantLong "BetweenStopsLaw" 74 (4294967295) ∈ xTB := xTB_in (sg_7 (List.mem_of_getElem? (i := 225) (by decide +kernel))) rfl
theorem kx_native : Cond.native arraycopyName ∈ xTB := xTB_in (sg_1 (List.mem_of_getElem? (i := 45) (by decide +kernel))) rfl
theorem ks_arraycopy : Cond.static arraycopyName ∈ xTB := xTB_in (sg_1 (List.mem_of_getElem? (i := 44) (by decide +kernel))) rfl
theorem ac_X6_54 : xAc "BetweenStops$Town" 54 := ⟨kl_X6_54, kx_native, ks_arraycopy, ki_J10⟩
theorem ma_J1_92 : xMa "java/lang/StringLatin1" 92 Lib.Math.max.name Lib.Math.max.code 2 := ⟨kl_J1_92, ks_max, ki_J9, kc_max⟩
theorem ma_J1_38 : xMa "java/lang/StringLatin1" 38 Lib.Math.min.name Lib.Math.min.code 2 := ⟨kl_J1_38, ks_min, ki_J9, kc_min⟩
theorem ma_J2_224 : xMa "java/lang/StringUTF16" 224 Lib.Math.max.name Lib.Math.max.code 2 := ⟨kl_J2_224, ks_max, ki_J9, kc_max⟩
theorem ma_J2_183 : xMa "java/lang/StringUTF16" 183 Lib.Math.min.name Lib.Math.min.code 2 := ⟨kl_J2_183, ks_min, ki_J9, kc_min⟩
theorem ma_X6_62 : xMa "BetweenStops$Town" 62 Lib.Math.max.name Lib.Math.max.code 2 := ⟨kl_X6_62, ks_max, ki_J9, kc_max⟩
theorem ma_X6_68 : xMa "BetweenStops$Town" 68 Lib.Math.abs.name Lib.Math.abs.code 1 := ⟨kl_X6_68, ks_abs, ki_J9, kc_abs⟩
theorem ma_X8_136 : xMa "BetweenStops$Ways" 136 Lib.Math.min.name Lib.Math.min.code 2 := ⟨kl_X8_136, ks_min, ki_J9, kc_min⟩
theorem ma_X8_142 : xMa "BetweenStops$Ways" 142 Lib.Math.max.name Lib.Math.max.code 2 := ⟨kl_X8_142, ks_max, ki_J9, kc_max⟩
theorem ac_X9_355 : xAc "BetweenStops" 355 := ⟨kl_X9_355, kx_native, ks_arraycopy, ki_J10⟩
theorem ma_X9_293 : xMa "BetweenStops" 293 Lib.Math.min.name Lib.Math.min.code 2 := ⟨kl_X9_293, ks_min, ki_J9, kc_min⟩
theorem ma_X9_368 : xMa "BetweenStops" 368 Lib.Math.max.name Lib.Math.max.code 2 := ⟨kl_X9_368, ks_max, ki_J9, kc_max⟩
theorem ac_X0_41 : xAc "BetweenStops$Image" 41 := ⟨kl_X0_41, kx_native, ks_arraycopy, ki_J10⟩
theorem cb_m100 : (Int8.ofInt (-100)).toInt32 = (-100 : Int32) := by decide
theorem cb_m14 : (Int8.ofInt (-14)).toInt32 = (-14 : Int32) := by decide
theorem cb_m13 : (Int8.ofInt (-13)).toInt32 = (-13 : Int32) := by decide
theorem cb_m12 : (Int8.ofInt (-12)).toInt32 = (-12 : Int32) := by decide
theorem cb_m11 : (Int8.ofInt (-11)).toInt32 = (-11 : Int32) := by decide
theorem cb_m7 : (Int8.ofInt (-7)).toInt32 = (-7 : Int32) := by decide
theorem cb_m6 : (Int8.ofInt (-6)).toInt32 = (-6 : Int32) := by decide
theorem cb_m5 : (Int8.ofInt (-5)).toInt32 = (-5 : Int32) := by decide
theorem cb_m4 : (Int8.ofInt (-4)).toInt32 = (-4 : Int32) := by decide
theorem cb_m3 : (Int8.ofInt (-3)).toInt32 = (-3 : Int32) := by decide
theorem cb_m2 : (Int8.ofInt (-2)).toInt32 = (-2 : Int32) := by decide
theorem cb_6 : (Int8.ofInt (6)).toInt32 = (6 : Int32) := by decide
theorem cb_7 : (Int8.ofInt (7)).toInt32 = (7 : Int32) := by decide
theorem cb_8 : (Int8.ofInt (8)).toInt32 = (8 : Int32) := by decide
theorem cb_9 : (Int8.ofInt (9)).toInt32 = (9 : Int32) := by decide
theorem cb_10 : (Int8.ofInt (10)).toInt32 = (10 : Int32) := by decide
theorem cb_11 : (Int8.ofInt (11)).toInt32 = (11 : Int32) := by decide
theorem cb_12 : (Int8.ofInt (12)).toInt32 = (12 : Int32) := by decide
theorem cb_13 : (Int8.ofInt (13)).toInt32 = (13 : Int32) := by decide
theorem cb_14 : (Int8.ofInt (14)).toInt32 = (14 : Int32) := by decide
theorem cb_15 : (Int8.ofInt (15)).toInt32 = (15 : Int32) := by decide
theorem cb_16 : (Int8.ofInt (16)).toInt32 = (16 : Int32) := by decide
theorem cb_17 : (Int8.ofInt (17)).toInt32 = (17 : Int32) := by decide
theorem cb_18 : (Int8.ofInt (18)).toInt32 = (18 : Int32) := by decide
theorem cb_19 : (Int8.ofInt (19)).toInt32 = (19 : Int32) := by decide
theorem cb_20 : (Int8.ofInt (20)).toInt32 = (20 : Int32) := by decide
theorem cb_21 : (Int8.ofInt (21)).toInt32 = (21 : Int32) := by decide
theorem cb_24 : (Int8.ofInt (24)).toInt32 = (24 : Int32) := by decide
theorem cb_32 : (Int8.ofInt (32)).toInt32 = (32 : Int32) := by decide
theorem cb_40 : (Int8.ofInt (40)).toInt32 = (40 : Int32) := by decide
theorem cb_41 : (Int8.ofInt (41)).toInt32 = (41 : Int32) := by decide
theorem cb_42 : (Int8.ofInt (42)).toInt32 = (42 : Int32) := by decide
theorem cb_43 : (Int8.ofInt (43)).toInt32 = (43 : Int32) := by decide
theorem cb_45 : (Int8.ofInt (45)).toInt32 = (45 : Int32) := by decide
theorem cb_48 : (Int8.ofInt (48)).toInt32 = (48 : Int32) := by decide
theorem cb_57 : (Int8.ofInt (57)).toInt32 = (57 : Int32) := by decide
theorem cb_59 : (Int8.ofInt (59)).toInt32 = (59 : Int32) := by decide
theorem cb_60 : (Int8.ofInt (60)).toInt32 = (60 : Int32) := by decide
theorem cb_61 : (Int8.ofInt (61)).toInt32 = (61 : Int32) := by decide
theorem cb_63 : (Int8.ofInt (63)).toInt32 = (63 : Int32) := by decide
theorem cb_97 : (Int8.ofInt (97)).toInt32 = (97 : Int32) := by decide
theorem cb_99 : (Int8.ofInt (99)).toInt32 = (99 : Int32) := by decide
theorem cb_122 : (Int8.ofInt (122)).toInt32 = (122 : Int32) := by decide
theorem ci_m1 : Int32.ofInt (-1) = (-1 : Int32) := by decide
theorem ci_0 : Int32.ofInt (0) = (0 : Int32) := by decide
theorem ci_1 : Int32.ofInt (1) = (1 : Int32) := by decide
theorem ci_2 : Int32.ofInt (2) = (2 : Int32) := by decide
theorem ci_3 : Int32.ofInt (3) = (3 : Int32) := by decide
theorem ci_4 : Int32.ofInt (4) = (4 : Int32) := by decide
theorem ci_5 : Int32.ofInt (5) = (5 : Int32) := by decide
theorem cn_m1 (x : Int32) : x + Int32.ofInt (-1) = x + (-1) := by rw [show Int32.ofInt (-1) = (-1 : Int32) by decide]
theorem cn_1 (x : Int32) : x + Int32.ofInt (1) = x + (1) := by rw [show Int32.ofInt (1) = (1 : Int32) by decide]
theorem cn_6 (x : Int32) : x + Int32.ofInt (6) = x + (6) := by rw [show Int32.ofInt (6) = (6 : Int32) by decide]
theorem cs_160 : (Int16.ofInt (160)).toInt32 = (160 : Int32) := by decide
theorem cs_164 : (Int16.ofInt (164)).toInt32 = (164 : Int32) := by decide
theorem cs_200 : (Int16.ofInt (200)).toInt32 = (200 : Int32) := by decide
theorem cs_255 : (Int16.ofInt (255)).toInt32 = (255 : Int32) := by decide
theorem cs_300 : (Int16.ofInt (300)).toInt32 = (300 : Int32) := by decide
theorem cs_600 : (Int16.ofInt (600)).toInt32 = (600 : Int32) := by decide
theorem cs_999 : (Int16.ofInt (999)).toInt32 = (999 : Int32) := by decide
theorem cs_1023 : (Int16.ofInt (1023)).toInt32 = (1023 : Int32) := by decide
theorem cs_1200 : (Int16.ofInt (1200)).toInt32 = (1200 : Int32) := by decide
theorem cs_3600 : (Int16.ofInt (3600)).toInt32 = (3600 : Int32) := by decide
theorem cs_9999 : (Int16.ofInt (9999)).toInt32 = (9999 : Int32) := by decide
theorem ck_0 : (0 : Int32).toNatClampNeg = 0 := by decide +kernel
theorem ck_1 : (1 : Int32).toNatClampNeg = 1 := by decide +kernel
theorem ck_2 : (2 : Int32).toNatClampNeg = 2 := by decide +kernel
theorem ck_3 : (3 : Int32).toNatClampNeg = 3 := by decide +kernel
theorem ck_4 : (4 : Int32).toNatClampNeg = 4 := by decide +kernel
theorem ck_5 : (5 : Int32).toNatClampNeg = 5 := by decide +kernel
theorem ck_6 : (6 : Int32).toNatClampNeg = 6 := by decide +kernel
theorem ck_7 : (7 : Int32).toNatClampNeg = 7 := by decide +kernel
theorem ck_8 : (8 : Int32).toNatClampNeg = 8 := by decide +kernel
theorem ck_9 : (9 : Int32).toNatClampNeg = 9 := by decide +kernel
theorem ck_10 : (10 : Int32).toNatClampNeg = 10 := by decide +kernel
theorem ck_11 : (11 : Int32).toNatClampNeg = 11 := by decide +kernel
theorem ck_12 : (12 : Int32).toNatClampNeg = 12 := by decide +kernel
theorem ck_13 : (13 : Int32).toNatClampNeg = 13 := by decide +kernel
theorem ck_14 : (14 : Int32).toNatClampNeg = 14 := by decide +kernel
theorem ck_15 : (15 : Int32).toNatClampNeg = 15 := by decide +kernel
theorem ck_16 : (16 : Int32).toNatClampNeg = 16 := by decide +kernel
theorem ck_17 : (17 : Int32).toNatClampNeg = 17 := by decide +kernel
theorem ck_18 : (18 : Int32).toNatClampNeg = 18 := by decide +kernel
theorem ck_19 : (19 : Int32).toNatClampNeg = 19 := by decide +kernel
theorem ck_20 : (20 : Int32).toNatClampNeg = 20 := by decide +kernel
theorem ck_21 : (21 : Int32).toNatClampNeg = 21 := by decide +kernel
theorem ck_24 : (24 : Int32).toNatClampNeg = 24 := by decide +kernel
theorem ck_32 : (32 : Int32).toNatClampNeg = 32 := by decide +kernel
theorem ck_40 : (40 : Int32).toNatClampNeg = 40 := by decide +kernel
theorem ck_41 : (41 : Int32).toNatClampNeg = 41 := by decide +kernel
theorem ck_42 : (42 : Int32).toNatClampNeg = 42 := by decide +kernel
theorem ck_43 : (43 : Int32).toNatClampNeg = 43 := by decide +kernel
theorem ck_45 : (45 : Int32).toNatClampNeg = 45 := by decide +kernel
theorem ck_48 : (48 : Int32).toNatClampNeg = 48 := by decide +kernel
theorem ck_57 : (57 : Int32).toNatClampNeg = 57 := by decide +kernel
theorem ck_59 : (59 : Int32).toNatClampNeg = 59 := by decide +kernel
theorem ck_60 : (60 : Int32).toNatClampNeg = 60 := by decide +kernel
theorem ck_61 : (61 : Int32).toNatClampNeg = 61 := by decide +kernel
theorem ck_63 : (63 : Int32).toNatClampNeg = 63 := by decide +kernel
theorem ck_97 : (97 : Int32).toNatClampNeg = 97 := by decide +kernel
theorem ck_99 : (99 : Int32).toNatClampNeg = 99 := by decide +kernel
theorem ck_122 : (122 : Int32).toNatClampNeg = 122 := by decide +kernel
theorem ck_160 : (160 : Int32).toNatClampNeg = 160 := by decide +kernel
theorem ck_164 : (164 : Int32).toNatClampNeg = 164 := by decide +kernel
theorem ck_200 : (200 : Int32).toNatClampNeg = 200 := by decide +kernel
theorem ck_255 : (255 : Int32).toNatClampNeg = 255 := by decide +kernel
theorem ck_300 : (300 : Int32).toNatClampNeg = 300 := by decide +kernel
theorem ck_600 : (600 : Int32).toNatClampNeg = 600 := by decide +kernel
theorem ck_999 : (999 : Int32).toNatClampNeg = 999 := by decide +kernel
theorem ck_1023 : (1023 : Int32).toNatClampNeg = 1023 := by decide +kernel
theorem ck_1200 : (1200 : Int32).toNatClampNeg = 1200 := by decide +kernel
theorem ck_3600 : (3600 : Int32).toNatClampNeg = 3600 := by decide +kernel
theorem ck_9999 : (9999 : Int32).toNatClampNeg = 9999 := by decide +kernel
