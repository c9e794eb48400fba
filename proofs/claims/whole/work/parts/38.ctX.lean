def sx1 : List xSh := [.inr (9, [.inl none, .inl none, .inl none, .inl none, .inl none, .inr 0, .inr 0, .inl none, .inl none, .inl none, .inl none, .inl none, .inl none, .inl none, .inl none])]
theorem sx1_n : sx1.length = 1 := by decide +kernel
theorem sx1_w : xwf sx1 = true := by decide +kernel
def sx2 : List xSh := sx1 ++ [.inr (6, [.inl none, .inl none, .inl none, .inl none, .inr 0, .inr 0, .inl none, .inr 0, .inl none, .inr 0])]
theorem sx2_n : sx2.length = 2 := by decide +kernel
theorem sx2_w : xwf sx2 = true := by decide +kernel
def sx3 : List xSh := sx2 ++ [.inl (0, 41, [])]
theorem sx3_n : sx3.length = 3 := by decide +kernel
theorem sx3_w : xwf sx3 = true := by decide +kernel
theorem sx3_at1 : sx3[1]? = some (.inr (6, [.inl none, .inl none, .inl none, .inl none, .inr 0, .inr 0, .inl none, .inr 0, .inl none, .inr 0])) := xgO (by decide +kernel)
def sx4 : List xSh := sx3.set 1 (.inr (6, [.inl (some 2), .inl none, .inl none, .inl none, .inr 0, .inr 0, .inl none, .inr 0, .inl none, .inr 0]))
theorem sx4_n : sx4.length = 3 := by decide +kernel
theorem sx4_w : xwf sx4 = true := by decide +kernel
def sx5 : List xSh := sx4 ++ [.inl (0, 41, [])]
theorem sx5_n : sx5.length = 4 := by decide +kernel
theorem sx5_w : xwf sx5 = true := by decide +kernel
theorem sx5_at1 : sx5[1]? = some (.inr (6, [.inl (some 2), .inl none, .inl none, .inl none, .inr 0, .inr 0, .inl none, .inr 0, .inl none, .inr 0])) := xgO (by decide +kernel)
def sx6 : List xSh := sx5.set 1 (.inr (6, [.inl (some 2), .inl (some 3), .inl none, .inl none, .inr 0, .inr 0, .inl none, .inr 0, .inl none, .inr 0]))
theorem sx6_n : sx6.length = 4 := by decide +kernel
theorem sx6_w : xwf sx6 = true := by decide +kernel
def sx7 : List xSh := sx6 ++ [.inl (0, 41, [])]
theorem sx7_n : sx7.length = 5 := by decide +kernel
theorem sx7_w : xwf sx7 = true := by decide +kernel
theorem sx7_at1 : sx7[1]? = some (.inr (6, [.inl (some 2), .inl (some 3), .inl none, .inl none, .inr 0, .inr 0, .inl none, .inr 0, .inl none, .inr 0])) := xgO (by decide +kernel)
def sx8 : List xSh := sx7.set 1 (.inr (6, [.inl (some 2), .inl (some 3), .inl (some 4), .inl none, .inr 0, .inr 0, .inl none, .inr 0, .inl none, .inr 0]))
theorem sx8_n : sx8.length = 5 := by decide +kernel
theorem sx8_w : xwf sx8 = true := by decide +kernel
def sx9 : List xSh := sx8 ++ xouter sx8.length 3 :: List.replicate 3 (.inl (0, 6, []))
theorem sx9_n : sx9.length = 9 := by decide +kernel
theorem sx9_w : xwf sx9 = true := by decide +kernel
theorem sx9_at1 : sx9[1]? = some (.inr (6, [.inl (some 2), .inl (some 3), .inl (some 4), .inl none, .inr 0, .inr 0, .inl none, .inr 0, .inl none, .inr 0])) := xgO (by decide +kernel)
def sx10 : List xSh := sx9.set 1 (.inr (6, [.inl (some 2), .inl (some 3), .inl (some 4), .inl (some 5), .inr 0, .inr 0, .inl none, .inr 0, .inl none, .inr 0]))
theorem sx10_n : sx10.length = 9 := by decide +kernel
theorem sx10_w : xwf sx10 = true := by decide +kernel
theorem sx10_at1 : sx10[1]? = some (.inr (6, [.inl (some 2), .inl (some 3), .inl (some 4), .inl (some 5), .inr 0, .inr 0, .inl none, .inr 0, .inl none, .inr 0])) := xgO (by decide +kernel)
def sxm1 : xM := si x0 1 4 (300 : Int32)
theorem sxm1_z : xmz sxm1 2 := xmz_si xmz0 2 (by decide) (by decide)
def sxm2 : xM := si sxm1 1 5 (3 : Int32)
theorem sxm2_z : xmz sxm2 2 := xmz_si sxm1_z 2 (by decide) (by decide)
def sx11 : List xSh := sx10 ++ [.inl (4, 8, [none, none, none, none, none, none, none, none])]
theorem sx11_n : sx11.length = 10 := by decide +kernel
theorem sx11_w : xwf sx11 = true := by decide +kernel
theorem sx11_at1 : sx11[1]? = some (.inr (6, [.inl (some 2), .inl (some 3), .inl (some 4), .inl (some 5), .inr 0, .inr 0, .inl none, .inr 0, .inl none, .inr 0])) := xgO (by decide +kernel)
def sx12 : List xSh := sx11.set 1 (.inr (6, [.inl (some 2), .inl (some 3), .inl (some 4), .inl (some 5), .inr 0, .inr 0, .inl (some 9), .inr 0, .inl none, .inr 0]))
theorem sx12_n : sx12.length = 10 := by decide +kernel
theorem sx12_w : xwf sx12 = true := by decide +kernel
theorem sx12_at1 : sx12[1]? = some (.inr (6, [.inl (some 2), .inl (some 3), .inl (some 4), .inl (some 5), .inr 0, .inr 0, .inl (some 9), .inr 0, .inl none, .inr 0])) := xgO (by decide +kernel)
def sxm3 : xM := si sxm2 1 7 (0 : Int32)
theorem sxm3_z : xmz sxm3 2 := xmz_si sxm2_z 2 (by decide) (by decide)
def sx13 : List xSh := sx12 ++ [.inl (5, 8, [none, none, none, none, none, none, none, none])]
theorem sx13_n : sx13.length = 11 := by decide +kernel
theorem sx13_w : xwf sx13 = true := by decide +kernel
theorem sx13_at1 : sx13[1]? = some (.inr (6, [.inl (some 2), .inl (some 3), .inl (some 4), .inl (some 5), .inr 0, .inr 0, .inl (some 9), .inr 0, .inl none, .inr 0])) := xgO (by decide +kernel)
def sx14 : List xSh := sx13.set 1 (.inr (6, [.inl (some 2), .inl (some 3), .inl (some 4), .inl (some 5), .inr 0, .inr 0, .inl (some 9), .inr 0, .inl (some 10), .inr 0]))
theorem sx14_n : sx14.length = 11 := by decide +kernel
theorem sx14_w : xwf sx14 = true := by decide +kernel
theorem sx14_at1 : sx14[1]? = some (.inr (6, [.inl (some 2), .inl (some 3), .inl (some 4), .inl (some 5), .inr 0, .inr 0, .inl (some 9), .inr 0, .inl (some 10), .inr 0])) := xgO (by decide +kernel)
def sxm4 : xM := si sxm3 1 9 (0 : Int32)
theorem sxm4_z : xmz sxm4 2 := xmz_si sxm3_z 2 (by decide) (by decide)
theorem sx14_at5 : sx14[5]? = some (.inl (3, 3, [some 6, some 7, some 8])) := xgO (by decide +kernel)
theorem sx14_at6 : sx14[6]? = some (.inl (0, 6, [])) := xgO (by decide +kernel)
def sxm5 : xM := sscp sxm4 (fun j => sT2.getD j 0) (((0 : Int32) * (6 : Int32))).toNatClampNeg 6 ((0 : Int32)).toNatClampNeg ((6 : Int32)).toNatClampNeg
theorem sxm5_z : xmz sxm5 7 := xmz_sscp sxm4_z 7 (by decide) (by decide)
theorem sx14_at7 : sx14[7]? = some (.inl (0, 6, [])) := xgO (by decide +kernel)
def sxm6 : xM := sscp sxm5 (fun j => sT2.getD j 0) (((1 : Int32) * (6 : Int32))).toNatClampNeg 7 ((0 : Int32)).toNatClampNeg ((6 : Int32)).toNatClampNeg
theorem sxm6_z : xmz sxm6 8 := xmz_sscp sxm5_z 8 (by decide) (by decide)
theorem sx14_at8 : sx14[8]? = some (.inl (0, 6, [])) := xgO (by decide +kernel)
def sxm7 : xM := sscp sxm6 (fun j => sT2.getD j 0) (((2 : Int32) * (6 : Int32))).toNatClampNeg 8 ((0 : Int32)).toNatClampNeg ((6 : Int32)).toNatClampNeg
theorem sxm7_z : xmz sxm7 9 := xmz_sscp sxm6_z 9 (by decide) (by decide)
def sx15 : List xSh := sx14 ++ [.inr (3, [.inr 0, .inr 0, .inr 0, .inr 0, .inr 0, .inr 0, .inr 0, .inr 0])]
theorem sx15_n : sx15.length = 12 := by decide +kernel
theorem sx15_w : xwf sx15 = true := by decide +kernel
theorem sx15_at9 : sx15[9]? = some (.inl (4, 8, [none, none, none, none, none, none, none, none])) := xgO (by decide +kernel)
theorem sx15_at11 : sx15[11]? = some (.inr (3, [.inr 0, .inr 0, .inr 0, .inr 0, .inr 0, .inr 0, .inr 0, .inr 0])) := xgO (by decide +kernel)
def sx16 : List xSh := sx15.set 9 (.inl (4, 8, [some 11, none, none, none, none, none, none, none]))
theorem sx16_n : sx16.length = 12 := by decide +kernel
theorem sx16_w : xwf sx16 = true := by decide +kernel
theorem sx16_at1 : sx16[1]? = some (.inr (6, [.inl (some 2), .inl (some 3), .inl (some 4), .inl (some 5), .inr 0, .inr 0, .inl (some 9), .inr 0, .inl (some 10), .inr 0])) := xgO (by decide +kernel)
def sx17 : List xSh := sx16 ++ [.inr (3, [.inr 0, .inr 0, .inr 0, .inr 0, .inr 0, .inr 0, .inr 0, .inr 0])]
theorem sx17_n : sx17.length = 13 := by decide +kernel
theorem sx17_w : xwf sx17 = true := by decide +kernel
theorem sx17_at9 : sx17[9]? = some (.inl (4, 8, [some 11, none, none, none, none, none, none, none])) := xgO (by decide +kernel)
theorem sx17_at12 : sx17[12]? = some (.inr (3, [.inr 0, .inr 0, .inr 0, .inr 0, .inr 0, .inr 0, .inr 0, .inr 0])) := xgO (by decide +kernel)
def sx18 : List xSh := sx17.set 9 (.inl (4, 8, [some 11, some 12, none, none, none, none, none, none]))
theorem sx18_n : sx18.length = 13 := by decide +kernel
theorem sx18_w : xwf sx18 = true := by decide +kernel
theorem sx18_at1 : sx18[1]? = some (.inr (6, [.inl (some 2), .inl (some 3), .inl (some 4), .inl (some 5), .inr 0, .inr 0, .inl (some 9), .inr 0, .inl (some 10), .inr 0])) := xgO (by decide +kernel)
def sx19 : List xSh := sx18 ++ [.inr (3, [.inr 0, .inr 0, .inr 0, .inr 0, .inr 0, .inr 0, .inr 0, .inr 0])]
theorem sx19_n : sx19.length = 14 := by decide +kernel
theorem sx19_w : xwf sx19 = true := by decide +kernel
theorem sx19_at9 : sx19[9]? = some (.inl (4, 8, [some 11, some 12, none, none, none, none, none, none])) := xgO (by decide +kernel)
theorem sx19_at13 : sx19[13]? = some (.inr (3, [.inr 0, .inr 0, .inr 0, .inr 0, .inr 0, .inr 0, .inr 0, .inr 0])) := xgO (by decide +kernel)
def sx20 : List xSh := sx19.set 9 (.inl (4, 8, [some 11, some 12, some 13, none, none, none, none, none]))
theorem sx20_n : sx20.length = 14 := by decide +kernel
theorem sx20_w : xwf sx20 = true := by decide +kernel
theorem sx20_at1 : sx20[1]? = some (.inr (6, [.inl (some 2), .inl (some 3), .inl (some 4), .inl (some 5), .inr 0, .inr 0, .inl (some 9), .inr 0, .inl (some 10), .inr 0])) := xgO (by decide +kernel)
def sx21 : List xSh := sx20 ++ [.inr (3, [.inr 0, .inr 0, .inr 0, .inr 0, .inr 0, .inr 0, .inr 0, .inr 0])]
theorem sx21_n : sx21.length = 15 := by decide +kernel
theorem sx21_w : xwf sx21 = true := by decide +kernel
theorem sx21_at9 : sx21[9]? = some (.inl (4, 8, [some 11, some 12, some 13, none, none, none, none, none])) := xgO (by decide +kernel)
theorem sx21_at14 : sx21[14]? = some (.inr (3, [.inr 0, .inr 0, .inr 0, .inr 0, .inr 0, .inr 0, .inr 0, .inr 0])) := xgO (by decide +kernel)
def sx22 : List xSh := sx21.set 9 (.inl (4, 8, [some 11, some 12, some 13, some 14, none, none, none, none]))
theorem sx22_n : sx22.length = 15 := by decide +kernel
theorem sx22_w : xwf sx22 = true := by decide +kernel
theorem sx22_at1 : sx22[1]? = some (.inr (6, [.inl (some 2), .inl (some 3), .inl (some 4), .inl (some 5), .inr 0, .inr 0, .inl (some 9), .inr 0, .inl (some 10), .inr 0])) := xgO (by decide +kernel)
def sx23 : List xSh := sx22 ++ [.inr (3, [.inr 0, .inr 0, .inr 0, .inr 0, .inr 0, .inr 0, .inr 0, .inr 0])]
theorem sx23_n : sx23.length = 16 := by decide +kernel
theorem sx23_w : xwf sx23 = true := by decide +kernel
theorem sx23_at9 : sx23[9]? = some (.inl (4, 8, [some 11, some 12, some 13, some 14, none, none, none, none])) := xgO (by decide +kernel)
theorem sx23_at15 : sx23[15]? = some (.inr (3, [.inr 0, .inr 0, .inr 0, .inr 0, .inr 0, .inr 0, .inr 0, .inr 0])) := xgO (by decide +kernel)
def sx24 : List xSh := sx23.set 9 (.inl (4, 8, [some 11, some 12, some 13, some 14, some 15, none, none, none]))
theorem sx24_n : sx24.length = 16 := by decide +kernel
theorem sx24_w : xwf sx24 = true := by decide +kernel
theorem sx24_at1 : sx24[1]? = some (.inr (6, [.inl (some 2), .inl (some 3), .inl (some 4), .inl (some 5), .inr 0, .inr 0, .inl (some 9), .inr 0, .inl (some 10), .inr 0])) := xgO (by decide +kernel)
def sx25 : List xSh := sx24 ++ [.inr (3, [.inr 0, .inr 0, .inr 0, .inr 0, .inr 0, .inr 0, .inr 0, .inr 0])]
theorem sx25_n : sx25.length = 17 := by decide +kernel
theorem sx25_w : xwf sx25 = true := by decide +kernel
theorem sx25_at9 : sx25[9]? = some (.inl (4, 8, [some 11, some 12, some 13, some 14, some 15, none, none, none])) := xgO (by decide +kernel)
theorem sx25_at16 : sx25[16]? = some (.inr (3, [.inr 0, .inr 0, .inr 0, .inr 0, .inr 0, .inr 0, .inr 0, .inr 0])) := xgO (by decide +kernel)
def sx26 : List xSh := sx25.set 9 (.inl (4, 8, [some 11, some 12, some 13, some 14, some 15, some 16, none, none]))
theorem sx26_n : sx26.length = 17 := by decide +kernel
theorem sx26_w : xwf sx26 = true := by decide +kernel
theorem sx26_at1 : sx26[1]? = some (.inr (6, [.inl (some 2), .inl (some 3), .inl (some 4), .inl (some 5), .inr 0, .inr 0, .inl (some 9), .inr 0, .inl (some 10), .inr 0])) := xgO (by decide +kernel)
def sx27 : List xSh := sx26 ++ [.inr (3, [.inr 0, .inr 0, .inr 0, .inr 0, .inr 0, .inr 0, .inr 0, .inr 0])]
theorem sx27_n : sx27.length = 18 := by decide +kernel
theorem sx27_w : xwf sx27 = true := by decide +kernel
theorem sx27_at9 : sx27[9]? = some (.inl (4, 8, [some 11, some 12, some 13, some 14, some 15, some 16, none, none])) := xgO (by decide +kernel)
theorem sx27_at17 : sx27[17]? = some (.inr (3, [.inr 0, .inr 0, .inr 0, .inr 0, .inr 0, .inr 0, .inr 0, .inr 0])) := xgO (by decide +kernel)
def sx28 : List xSh := sx27.set 9 (.inl (4, 8, [some 11, some 12, some 13, some 14, some 15, some 16, some 17, none]))
theorem sx28_n : sx28.length = 18 := by decide +kernel
theorem sx28_w : xwf sx28 = true := by decide +kernel
theorem sx28_at1 : sx28[1]? = some (.inr (6, [.inl (some 2), .inl (some 3), .inl (some 4), .inl (some 5), .inr 0, .inr 0, .inl (some 9), .inr 0, .inl (some 10), .inr 0])) := xgO (by decide +kernel)
def sx29 : List xSh := sx28 ++ [.inr (3, [.inr 0, .inr 0, .inr 0, .inr 0, .inr 0, .inr 0, .inr 0, .inr 0])]
theorem sx29_n : sx29.length = 19 := by decide +kernel
theorem sx29_w : xwf sx29 = true := by decide +kernel
theorem sx29_at9 : sx29[9]? = some (.inl (4, 8, [some 11, some 12, some 13, some 14, some 15, some 16, some 17, none])) := xgO (by decide +kernel)
theorem sx29_at18 : sx29[18]? = some (.inr (3, [.inr 0, .inr 0, .inr 0, .inr 0, .inr 0, .inr 0, .inr 0, .inr 0])) := xgO (by decide +kernel)
def sx30 : List xSh := sx29.set 9 (.inl (4, 8, [some 11, some 12, some 13, some 14, some 15, some 16, some 17, some 18]))
theorem sx30_n : sx30.length = 19 := by decide +kernel
theorem sx30_w : xwf sx30 = true := by decide +kernel
theorem sx30_at1 : sx30[1]? = some (.inr (6, [.inl (some 2), .inl (some 3), .inl (some 4), .inl (some 5), .inr 0, .inr 0, .inl (some 9), .inr 0, .inl (some 10), .inr 0])) := xgO (by decide +kernel)
def sx31 : List xSh := sx30 ++ [.inr (7, [.inr 0, .inr 0, .inr 0, .inr 0])]
theorem sx31_n : sx31.length = 20 := by decide +kernel
theorem sx31_w : xwf sx31 = true := by decide +kernel
theorem sx31_at10 : sx31[10]? = some (.inl (5, 8, [none, none, none, none, none, none, none, none])) := xgO (by decide +kernel)
theorem sx31_at19 : sx31[19]? = some (.inr (7, [.inr 0, .inr 0, .inr 0, .inr 0])) := xgO (by decide +kernel)
def sx32 : List xSh := sx31.set 10 (.inl (5, 8, [some 19, none, none, none, none, none, none, none]))
theorem sx32_n : sx32.length = 20 := by decide +kernel
theorem sx32_w : xwf sx32 = true := by decide +kernel
theorem sx32_at1 : sx32[1]? = some (.inr (6, [.inl (some 2), .inl (some 3), .inl (some 4), .inl (some 5), .inr 0, .inr 0, .inl (some 9), .inr 0, .inl (some 10), .inr 0])) := xgO (by decide +kernel)
def sx33 : List xSh := sx32 ++ [.inr (7, [.inr 0, .inr 0, .inr 0, .inr 0])]
theorem sx33_n : sx33.length = 21 := by decide +kernel
theorem sx33_w : xwf sx33 = true := by decide +kernel
theorem sx33_at10 : sx33[10]? = some (.inl (5, 8, [some 19, none, none, none, none, none, none, none])) := xgO (by decide +kernel)
theorem sx33_at20 : sx33[20]? = some (.inr (7, [.inr 0, .inr 0, .inr 0, .inr 0])) := xgO (by decide +kernel)
def sx34 : List xSh := sx33.set 10 (.inl (5, 8, [some 19, some 20, none, none, none, none, none, none]))
theorem sx34_n : sx34.length = 21 := by decide +kernel
theorem sx34_w : xwf sx34 = true := by decide +kernel
theorem sx34_at1 : sx34[1]? = some (.inr (6, [.inl (some 2), .inl (some 3), .inl (some 4), .inl (some 5), .inr 0, .inr 0, .inl (some 9), .inr 0, .inl (some 10), .inr 0])) := xgO (by decide +kernel)
def sx35 : List xSh := sx34 ++ [.inr (7, [.inr 0, .inr 0, .inr 0, .inr 0])]
theorem sx35_n : sx35.length = 22 := by decide +kernel
theorem sx35_w : xwf sx35 = true := by decide +kernel
theorem sx35_at10 : sx35[10]? = some (.inl (5, 8, [some 19, some 20, none, none, none, none, none, none])) := xgO (by decide +kernel)
theorem sx35_at21 : sx35[21]? = some (.inr (7, [.inr 0, .inr 0, .inr 0, .inr 0])) := xgO (by decide +kernel)
def sx36 : List xSh := sx35.set 10 (.inl (5, 8, [some 19, some 20, some 21, none, none, none, none, none]))
theorem sx36_n : sx36.length = 22 := by decide +kernel
theorem sx36_w : xwf sx36 = true := by decide +kernel
theorem sx36_at1 : sx36[1]? = some (.inr (6, [.inl (some 2), .inl (some 3), .inl (some 4), .inl (some 5), .inr 0, .inr 0, .inl (some 9), .inr 0, .inl (some 10), .inr 0])) := xgO (by decide +kernel)
def sx37 : List xSh := sx36 ++ [.inr (7, [.inr 0, .inr 0, .inr 0, .inr 0])]
theorem sx37_n : sx37.length = 23 := by decide +kernel
theorem sx37_w : xwf sx37 = true := by decide +kernel
theorem sx37_at10 : sx37[10]? = some (.inl (5, 8, [some 19, some 20, some 21, none, none, none, none, none])) := xgO (by decide +kernel)
theorem sx37_at22 : sx37[22]? = some (.inr (7, [.inr 0, .inr 0, .inr 0, .inr 0])) := xgO (by decide +kernel)
def sx38 : List xSh := sx37.set 10 (.inl (5, 8, [some 19, some 20, some 21, some 22, none, none, none, none]))
theorem sx38_n : sx38.length = 23 := by decide +kernel
theorem sx38_w : xwf sx38 = true := by decide +kernel
theorem sx38_at1 : sx38[1]? = some (.inr (6, [.inl (some 2), .inl (some 3), .inl (some 4), .inl (some 5), .inr 0, .inr 0, .inl (some 9), .inr 0, .inl (some 10), .inr 0])) := xgO (by decide +kernel)
def sx39 : List xSh := sx38 ++ [.inr (7, [.inr 0, .inr 0, .inr 0, .inr 0])]
theorem sx39_n : sx39.length = 24 := by decide +kernel
theorem sx39_w : xwf sx39 = true := by decide +kernel
theorem sx39_at10 : sx39[10]? = some (.inl (5, 8, [some 19, some 20, some 21, some 22, none, none, none, none])) := xgO (by decide +kernel)
theorem sx39_at23 : sx39[23]? = some (.inr (7, [.inr 0, .inr 0, .inr 0, .inr 0])) := xgO (by decide +kernel)
def sx40 : List xSh := sx39.set 10 (.inl (5, 8, [some 19, some 20, some 21, some 22, some 23, none, none, none]))
theorem sx40_n : sx40.length = 24 := by decide +kernel
theorem sx40_w : xwf sx40 = true := by decide +kernel
theorem sx40_at1 : sx40[1]? = some (.inr (6, [.inl (some 2), .inl (some 3), .inl (some 4), .inl (some 5), .inr 0, .inr 0, .inl (some 9), .inr 0, .inl (some 10), .inr 0])) := xgO (by decide +kernel)
def sx41 : List xSh := sx40 ++ [.inr (7, [.inr 0, .inr 0, .inr 0, .inr 0])]
theorem sx41_n : sx41.length = 25 := by decide +kernel
theorem sx41_w : xwf sx41 = true := by decide +kernel
theorem sx41_at10 : sx41[10]? = some (.inl (5, 8, [some 19, some 20, some 21, some 22, some 23, none, none, none])) := xgO (by decide +kernel)
theorem sx41_at24 : sx41[24]? = some (.inr (7, [.inr 0, .inr 0, .inr 0, .inr 0])) := xgO (by decide +kernel)
def sx42 : List xSh := sx41.set 10 (.inl (5, 8, [some 19, some 20, some 21, some 22, some 23, some 24, none, none]))
theorem sx42_n : sx42.length = 25 := by decide +kernel
theorem sx42_w : xwf sx42 = true := by decide +kernel
theorem sx42_at1 : sx42[1]? = some (.inr (6, [.inl (some 2), .inl (some 3), .inl (some 4), .inl (some 5), .inr 0, .inr 0, .inl (some 9), .inr 0, .inl (some 10), .inr 0])) := xgO (by decide +kernel)
def sx43 : List xSh := sx42 ++ [.inr (7, [.inr 0, .inr 0, .inr 0, .inr 0])]
theorem sx43_n : sx43.length = 26 := by decide +kernel
theorem sx43_w : xwf sx43 = true := by decide +kernel
theorem sx43_at10 : sx43[10]? = some (.inl (5, 8, [some 19, some 20, some 21, some 22, some 23, some 24, none, none])) := xgO (by decide +kernel)
theorem sx43_at25 : sx43[25]? = some (.inr (7, [.inr 0, .inr 0, .inr 0, .inr 0])) := xgO (by decide +kernel)
def sx44 : List xSh := sx43.set 10 (.inl (5, 8, [some 19, some 20, some 21, some 22, some 23, some 24, some 25, none]))
theorem sx44_n : sx44.length = 26 := by decide +kernel
theorem sx44_w : xwf sx44 = true := by decide +kernel
theorem sx44_at1 : sx44[1]? = some (.inr (6, [.inl (some 2), .inl (some 3), .inl (some 4), .inl (some 5), .inr 0, .inr 0, .inl (some 9), .inr 0, .inl (some 10), .inr 0])) := xgO (by decide +kernel)
def sx45 : List xSh := sx44 ++ [.inr (7, [.inr 0, .inr 0, .inr 0, .inr 0])]
theorem sx45_n : sx45.length = 27 := by decide +kernel
theorem sx45_w : xwf sx45 = true := by decide +kernel
theorem sx45_at10 : sx45[10]? = some (.inl (5, 8, [some 19, some 20, some 21, some 22, some 23, some 24, some 25, none])) := xgO (by decide +kernel)
theorem sx45_at26 : sx45[26]? = some (.inr (7, [.inr 0, .inr 0, .inr 0, .inr 0])) := xgO (by decide +kernel)
def sx46 : List xSh := sx45.set 10 (.inl (5, 8, [some 19, some 20, some 21, some 22, some 23, some 24, some 25, some 26]))
theorem sx46_n : sx46.length = 27 := by decide +kernel
theorem sx46_w : xwf sx46 = true := by decide +kernel
theorem sx46_at0 : sx46[0]? = some (.inr (9, [.inl none, .inl none, .inl none, .inl none, .inl none, .inr 0, .inr 0, .inl none, .inl none, .inl none, .inl none, .inl none, .inl none, .inl none, .inl none])) := xgO (by decide +kernel)
def sx47 : List xSh := sx46.set 0 (.inr (9, [.inl (some 1), .inl none, .inl none, .inl none, .inl none, .inr 0, .inr 0, .inl none, .inl none, .inl none, .inl none, .inl none, .inl none, .inl none, .inl none]))
theorem sx47_n : sx47.length = 27 := by decide +kernel
theorem sx47_w : xwf sx47 = true := by decide +kernel
def sx48 : List xSh := sx47 ++ [.inr (8, [.inl none, .inl none, .inl none, .inl none, .inl none, .inl none, .inl none, .inr 0, .inl none, .inl none, .inl none, .inl none, .inl none, .inl none, .inl none, .inl none, .inl none])]
theorem sx48_n : sx48.length = 28 := by decide +kernel
theorem sx48_w : xwf sx48 = true := by decide +kernel
theorem sx48_at0 : sx48[0]? = some (.inr (9, [.inl (some 1), .inl none, .inl none, .inl none, .inl none, .inr 0, .inr 0, .inl none, .inl none, .inl none, .inl none, .inl none, .inl none, .inl none, .inl none])) := xgO (by decide +kernel)
def sx49 : List xSh := sx48 ++ [.inl (0, 8, [])]
theorem sx49_n : sx49.length = 29 := by decide +kernel
theorem sx49_w : xwf sx49 = true := by decide +kernel
theorem sx49_at27 : sx49[27]? = some (.inr (8, [.inl none, .inl none, .inl none, .inl none, .inl none, .inl none, .inl none, .inr 0, .inl none, .inl none, .inl none, .inl none, .inl none, .inl none, .inl none, .inl none, .inl none])) := xgO (by decide +kernel)
def sx50 : List xSh := sx49.set 27 (.inr (8, [.inl none, .inl (some 28), .inl none, .inl none, .inl none, .inl none, .inl none, .inr 0, .inl none, .inl none, .inl none, .inl none, .inl none, .inl none, .inl none, .inl none, .inl none]))
theorem sx50_n : sx50.length = 29 := by decide +kernel
theorem sx50_w : xwf sx50 = true := by decide +kernel
def sx51 : List xSh := sx50 ++ [.inl (0, 8, [])]
theorem sx51_n : sx51.length = 30 := by decide +kernel
theorem sx51_w : xwf sx51 = true := by decide +kernel
theorem sx51_at27 : sx51[27]? = some (.inr (8, [.inl none, .inl (some 28), .inl none, .inl none, .inl none, .inl none, .inl none, .inr 0, .inl none, .inl none, .inl none, .inl none, .inl none, .inl none, .inl none, .inl none, .inl none])) := xgO (by decide +kernel)
def sx52 : List xSh := sx51.set 27 (.inr (8, [.inl none, .inl (some 28), .inl (some 29), .inl none, .inl none, .inl none, .inl none, .inr 0, .inl none, .inl none, .inl none, .inl none, .inl none, .inl none, .inl none, .inl none, .inl none]))
theorem sx52_n : sx52.length = 30 := by decide +kernel
theorem sx52_w : xwf sx52 = true := by decide +kernel
def sx53 : List xSh := sx52 ++ [.inl (0, 8, [])]
theorem sx53_n : sx53.length = 31 := by decide +kernel
theorem sx53_w : xwf sx53 = true := by decide +kernel
theorem sx53_at27 : sx53[27]? = some (.inr (8, [.inl none, .inl (some 28), .inl (some 29), .inl none, .inl none, .inl none, .inl none, .inr 0, .inl none, .inl none, .inl none, .inl none, .inl none, .inl none, .inl none, .inl none, .inl none])) := xgO (by decide +kernel)
def sx54 : List xSh := sx53.set 27 (.inr (8, [.inl none, .inl (some 28), .inl (some 29), .inl (some 30), .inl none, .inl none, .inl none, .inr 0, .inl none, .inl none, .inl none, .inl none, .inl none, .inl none, .inl none, .inl none, .inl none]))
theorem sx54_n : sx54.length = 31 := by decide +kernel
theorem sx54_w : xwf sx54 = true := by decide +kernel
def sx55 : List xSh := sx54 ++ xouter sx54.length 8 :: List.replicate 8 (.inl (0, 8, []))
theorem sx55_n : sx55.length = 40 := by decide +kernel
theorem sx55_w : xwf sx55 = true := by decide +kernel
theorem sx55_at27 : sx55[27]? = some (.inr (8, [.inl none, .inl (some 28), .inl (some 29), .inl (some 30), .inl none, .inl none, .inl none, .inr 0, .inl none, .inl none, .inl none, .inl none, .inl none, .inl none, .inl none, .inl none, .inl none])) := xgO (by decide +kernel)
def sx56 : List xSh := sx55.set 27 (.inr (8, [.inl none, .inl (some 28), .inl (some 29), .inl (some 30), .inl (some 31), .inl none, .inl none, .inr 0, .inl none, .inl none, .inl none, .inl none, .inl none, .inl none, .inl none, .inl none, .inl none]))
theorem sx56_n : sx56.length = 40 := by decide +kernel
theorem sx56_w : xwf sx56 = true := by decide +kernel
def sx57 : List xSh := sx56 ++ xouter sx56.length 8 :: List.replicate 8 (.inl (0, 8, []))
theorem sx57_n : sx57.length = 49 := by decide +kernel
theorem sx57_w : xwf sx57 = true := by decide +kernel
theorem sx57_at27 : sx57[27]? = some (.inr (8, [.inl none, .inl (some 28), .inl (some 29), .inl (some 30), .inl (some 31), .inl none, .inl none, .inr 0, .inl none, .inl none, .inl none, .inl none, .inl none, .inl none, .inl none, .inl none, .inl none])) := xgO (by decide +kernel)
def sx58 : List xSh := sx57.set 27 (.inr (8, [.inl none, .inl (some 28), .inl (some 29), .inl (some 30), .inl (some 31), .inl (some 40), .inl none, .inr 0, .inl none, .inl none, .inl none, .inl none, .inl none, .inl none, .inl none, .inl none, .inl none]))
theorem sx58_n : sx58.length = 49 := by decide +kernel
theorem sx58_w : xwf sx58 = true := by decide +kernel
def sx59 : List xSh := sx58 ++ [.inl (0, 8, [])]
theorem sx59_n : sx59.length = 50 := by decide +kernel
theorem sx59_w : xwf sx59 = true := by decide +kernel
theorem sx59_at27 : sx59[27]? = some (.inr (8, [.inl none, .inl (some 28), .inl (some 29), .inl (some 30), .inl (some 31), .inl (some 40), .inl none, .inr 0, .inl none, .inl none, .inl none, .inl none, .inl none, .inl none, .inl none, .inl none, .inl none])) := xgO (by decide +kernel)
def sx60 : List xSh := sx59.set 27 (.inr (8, [.inl none, .inl (some 28), .inl (some 29), .inl (some 30), .inl (some 31), .inl (some 40), .inl (some 49), .inr 0, .inl none, .inl none, .inl none, .inl none, .inl none, .inl none, .inl none, .inl none, .inl none]))
theorem sx60_n : sx60.length = 50 := by decide +kernel
theorem sx60_w : xwf sx60 = true := by decide +kernel
theorem sx60_at27 : sx60[27]? = some (.inr (8, [.inl none, .inl (some 28), .inl (some 29), .inl (some 30), .inl (some 31), .inl (some 40), .inl (some 49), .inr 0, .inl none, .inl none, .inl none, .inl none, .inl none, .inl none, .inl none, .inl none, .inl none])) := xgO (by decide +kernel)
def sxm8 : xM := si sxm7 27 7 (0 : Int32)
theorem sxm8_z : xmz sxm8 28 := xmz_si sxm7_z 28 (by decide) (by decide)
def sx61 : List xSh := sx60 ++ xouter sx60.length 2 :: List.replicate 2 (.inl (0, 42, []))
theorem sx61_n : sx61.length = 53 := by decide +kernel
theorem sx61_w : xwf sx61 = true := by decide +kernel
theorem sx61_at27 : sx61[27]? = some (.inr (8, [.inl none, .inl (some 28), .inl (some 29), .inl (some 30), .inl (some 31), .inl (some 40), .inl (some 49), .inr 0, .inl none, .inl none, .inl none, .inl none, .inl none, .inl none, .inl none, .inl none, .inl none])) := xgO (by decide +kernel)
def sx62 : List xSh := sx61.set 27 (.inr (8, [.inl none, .inl (some 28), .inl (some 29), .inl (some 30), .inl (some 31), .inl (some 40), .inl (some 49), .inr 0, .inl (some 50), .inl none, .inl none, .inl none, .inl none, .inl none, .inl none, .inl none, .inl none]))
theorem sx62_n : sx62.length = 53 := by decide +kernel
theorem sx62_w : xwf sx62 = true := by decide +kernel
def sx63 : List xSh := sx62 ++ xouter sx62.length 8 :: List.replicate 8 (.inl (0, 8, []))
theorem sx63_n : sx63.length = 62 := by decide +kernel
theorem sx63_w : xwf sx63 = true := by decide +kernel
theorem sx63_at27 : sx63[27]? = some (.inr (8, [.inl none, .inl (some 28), .inl (some 29), .inl (some 30), .inl (some 31), .inl (some 40), .inl (some 49), .inr 0, .inl (some 50), .inl none, .inl none, .inl none, .inl none, .inl none, .inl none, .inl none, .inl none])) := xgO (by decide +kernel)
def sx64 : List xSh := sx63.set 27 (.inr (8, [.inl none, .inl (some 28), .inl (some 29), .inl (some 30), .inl (some 31), .inl (some 40), .inl (some 49), .inr 0, .inl (some 50), .inl (some 53), .inl none, .inl none, .inl none, .inl none, .inl none, .inl none, .inl none]))
theorem sx64_n : sx64.length = 62 := by decide +kernel
theorem sx64_w : xwf sx64 = true := by decide +kernel
def sx65 : List xSh := sx64 ++ xouter sx64.length 8 :: List.replicate 8 (.inl (0, 8, []))
theorem sx65_n : sx65.length = 71 := by decide +kernel
theorem sx65_w : xwf sx65 = true := by decide +kernel
theorem sx65_at27 : sx65[27]? = some (.inr (8, [.inl none, .inl (some 28), .inl (some 29), .inl (some 30), .inl (some 31), .inl (some 40), .inl (some 49), .inr 0, .inl (some 50), .inl (some 53), .inl none, .inl none, .inl none, .inl none, .inl none, .inl none, .inl none])) := xgO (by decide +kernel)
def sx66 : List xSh := sx65.set 27 (.inr (8, [.inl none, .inl (some 28), .inl (some 29), .inl (some 30), .inl (some 31), .inl (some 40), .inl (some 49), .inr 0, .inl (some 50), .inl (some 53), .inl (some 62), .inl none, .inl none, .inl none, .inl none, .inl none, .inl none]))
theorem sx66_n : sx66.length = 71 := by decide +kernel
theorem sx66_w : xwf sx66 = true := by decide +kernel
def sx67 : List xSh := sx66 ++ [.inl (0, 8, [])]
theorem sx67_n : sx67.length = 72 := by decide +kernel
theorem sx67_w : xwf sx67 = true := by decide +kernel
theorem sx67_at27 : sx67[27]? = some (.inr (8, [.inl none, .inl (some 28), .inl (some 29), .inl (some 30), .inl (some 31), .inl (some 40), .inl (some 49), .inr 0, .inl (some 50), .inl (some 53), .inl (some 62), .inl none, .inl none, .inl none, .inl none, .inl none, .inl none])) := xgO (by decide +kernel)
def sx68 : List xSh := sx67.set 27 (.inr (8, [.inl none, .inl (some 28), .inl (some 29), .inl (some 30), .inl (some 31), .inl (some 40), .inl (some 49), .inr 0, .inl (some 50), .inl (some 53), .inl (some 62), .inl (some 71), .inl none, .inl none, .inl none, .inl none, .inl none]))
theorem sx68_n : sx68.length = 72 := by decide +kernel
theorem sx68_w : xwf sx68 = true := by decide +kernel
def sx69 : List xSh := sx68 ++ [.inl (0, 8, [])]
theorem sx69_n : sx69.length = 73 := by decide +kernel
theorem sx69_w : xwf sx69 = true := by decide +kernel
theorem sx69_at27 : sx69[27]? = some (.inr (8, [.inl none, .inl (some 28), .inl (some 29), .inl (some 30), .inl (some 31), .inl (some 40), .inl (some 49), .inr 0, .inl (some 50), .inl (some 53), .inl (some 62), .inl (some 71), .inl none, .inl none, .inl none, .inl none, .inl none])) := xgO (by decide +kernel)
def sx70 : List xSh := sx69.set 27 (.inr (8, [.inl none, .inl (some 28), .inl (some 29), .inl (some 30), .inl (some 31), .inl (some 40), .inl (some 49), .inr 0, .inl (some 50), .inl (some 53), .inl (some 62), .inl (some 71), .inl (some 72), .inl none, .inl none, .inl none, .inl none]))
theorem sx70_n : sx70.length = 73 := by decide +kernel
theorem sx70_w : xwf sx70 = true := by decide +kernel
def sx71 : List xSh := sx70 ++ [.inl (0, 8, [])]
theorem sx71_n : sx71.length = 74 := by decide +kernel
theorem sx71_w : xwf sx71 = true := by decide +kernel
theorem sx71_at27 : sx71[27]? = some (.inr (8, [.inl none, .inl (some 28), .inl (some 29), .inl (some 30), .inl (some 31), .inl (some 40), .inl (some 49), .inr 0, .inl (some 50), .inl (some 53), .inl (some 62), .inl (some 71), .inl (some 72), .inl none, .inl none, .inl none, .inl none])) := xgO (by decide +kernel)
def sx72 : List xSh := sx71.set 27 (.inr (8, [.inl none, .inl (some 28), .inl (some 29), .inl (some 30), .inl (some 31), .inl (some 40), .inl (some 49), .inr 0, .inl (some 50), .inl (some 53), .inl (some 62), .inl (some 71), .inl (some 72), .inl (some 73), .inl none, .inl none, .inl none]))
theorem sx72_n : sx72.length = 74 := by decide +kernel
theorem sx72_w : xwf sx72 = true := by decide +kernel
def sx73 : List xSh := sx72 ++ [.inl (0, 8, [])]
theorem sx73_n : sx73.length = 75 := by decide +kernel
theorem sx73_w : xwf sx73 = true := by decide +kernel
theorem sx73_at27 : sx73[27]? = some (.inr (8, [.inl none, .inl (some 28), .inl (some 29), .inl (some 30), .inl (some 31), .inl (some 40), .inl (some 49), .inr 0, .inl (some 50), .inl (some 53), .inl (some 62), .inl (some 71), .inl (some 72), .inl (some 73), .inl none, .inl none, .inl none])) := xgO (by decide +kernel)
def sx74 : List xSh := sx73.set 27 (.inr (8, [.inl none, .inl (some 28), .inl (some 29), .inl (some 30), .inl (some 31), .inl (some 40), .inl (some 49), .inr 0, .inl (some 50), .inl (some 53), .inl (some 62), .inl (some 71), .inl (some 72), .inl (some 73), .inl (some 74), .inl none, .inl none]))
theorem sx74_n : sx74.length = 75 := by decide +kernel
theorem sx74_w : xwf sx74 = true := by decide +kernel
def sx75 : List xSh := sx74 ++ [.inl (0, 8, [])]
theorem sx75_n : sx75.length = 76 := by decide +kernel
theorem sx75_w : xwf sx75 = true := by decide +kernel
theorem sx75_at27 : sx75[27]? = some (.inr (8, [.inl none, .inl (some 28), .inl (some 29), .inl (some 30), .inl (some 31), .inl (some 40), .inl (some 49), .inr 0, .inl (some 50), .inl (some 53), .inl (some 62), .inl (some 71), .inl (some 72), .inl (some 73), .inl (some 74), .inl none, .inl none])) := xgO (by decide +kernel)
def sx76 : List xSh := sx75.set 27 (.inr (8, [.inl none, .inl (some 28), .inl (some 29), .inl (some 30), .inl (some 31), .inl (some 40), .inl (some 49), .inr 0, .inl (some 50), .inl (some 53), .inl (some 62), .inl (some 71), .inl (some 72), .inl (some 73), .inl (some 74), .inl (some 75), .inl none]))
theorem sx76_n : sx76.length = 76 := by decide +kernel
theorem sx76_w : xwf sx76 = true := by decide +kernel
def sx77 : List xSh := sx76 ++ [.inl (0, 8, [])]
theorem sx77_n : sx77.length = 77 := by decide +kernel
theorem sx77_w : xwf sx77 = true := by decide +kernel
theorem sx77_at27 : sx77[27]? = some (.inr (8, [.inl none, .inl (some 28), .inl (some 29), .inl (some 30), .inl (some 31), .inl (some 40), .inl (some 49), .inr 0, .inl (some 50), .inl (some 53), .inl (some 62), .inl (some 71), .inl (some 72), .inl (some 73), .inl (some 74), .inl (some 75), .inl none])) := xgO (by decide +kernel)
def sx78 : List xSh := sx77.set 27 (.inr (8, [.inl none, .inl (some 28), .inl (some 29), .inl (some 30), .inl (some 31), .inl (some 40), .inl (some 49), .inr 0, .inl (some 50), .inl (some 53), .inl (some 62), .inl (some 71), .inl (some 72), .inl (some 73), .inl (some 74), .inl (some 75), .inl (some 76)]))
theorem sx78_n : sx78.length = 77 := by decide +kernel
theorem sx78_w : xwf sx78 = true := by decide +kernel
theorem sx78_at27 : sx78[27]? = some (.inr (8, [.inl none, .inl (some 28), .inl (some 29), .inl (some 30), .inl (some 31), .inl (some 40), .inl (some 49), .inr 0, .inl (some 50), .inl (some 53), .inl (some 62), .inl (some 71), .inl (some 72), .inl (some 73), .inl (some 74), .inl (some 75), .inl (some 76)])) := xgO (by decide +kernel)
def sx79 : List xSh := sx78.set 27 (.inr (8, [.inl (some 1), .inl (some 28), .inl (some 29), .inl (some 30), .inl (some 31), .inl (some 40), .inl (some 49), .inr 0, .inl (some 50), .inl (some 53), .inl (some 62), .inl (some 71), .inl (some 72), .inl (some 73), .inl (some 74), .inl (some 75), .inl (some 76)]))
theorem sx79_n : sx79.length = 77 := by decide +kernel
theorem sx79_w : xwf sx79 = true := by decide +kernel
theorem sx79_at0 : sx79[0]? = some (.inr (9, [.inl (some 1), .inl none, .inl none, .inl none, .inl none, .inr 0, .inr 0, .inl none, .inl none, .inl none, .inl none, .inl none, .inl none, .inl none, .inl none])) := xgO (by decide +kernel)
def sx80 : List xSh := sx79.set 0 (.inr (9, [.inl (some 1), .inl (some 27), .inl none, .inl none, .inl none, .inr 0, .inr 0, .inl none, .inl none, .inl none, .inl none, .inl none, .inl none, .inl none, .inl none]))
theorem sx80_n : sx80.length = 77 := by decide +kernel
theorem sx80_w : xwf sx80 = true := by decide +kernel
def sx81 : List xSh := sx80 ++ [.inr (4, [.inl none, .inr 0, .inr 0, .inr 0, .inr 0, .inr 0])]
theorem sx81_n : sx81.length = 78 := by decide +kernel
theorem sx81_w : xwf sx81 = true := by decide +kernel
def sx82 : List xSh := sx81 ++ [.inl (0, 160, [])]
theorem sx82_n : sx82.length = 79 := by decide +kernel
theorem sx82_w : xwf sx82 = true := by decide +kernel
theorem sx82_at77 : sx82[77]? = some (.inr (4, [.inl none, .inr 0, .inr 0, .inr 0, .inr 0, .inr 0])) := xgO (by decide +kernel)
def sx83 : List xSh := sx82.set 77 (.inr (4, [.inl (some 78), .inr 0, .inr 0, .inr 0, .inr 0, .inr 0]))
theorem sx83_n : sx83.length = 79 := by decide +kernel
theorem sx83_w : xwf sx83 = true := by decide +kernel
theorem sx83_at77 : sx83[77]? = some (.inr (4, [.inl (some 78), .inr 0, .inr 0, .inr 0, .inr 0, .inr 0])) := xgO (by decide +kernel)
def sxm9 : xM := si sxm8 77 1 (0 : Int32)
theorem sxm9_z : xmz sxm9 78 := xmz_si sxm8_z 78 (by decide) (by decide)
def sxm10 : xM := si sxm9 77 2 (0 : Int32)
theorem sxm10_z : xmz sxm10 78 := xmz_si sxm9_z 78 (by decide) (by decide)
def sxm11 : xM := si sxm10 77 3 (0 : Int32)
theorem sxm11_z : xmz sxm11 78 := xmz_si sxm10_z 78 (by decide) (by decide)
def sxm12 : xM := si sxm11 77 4 (0 : Int32)
theorem sxm12_z : xmz sxm12 78 := xmz_si sxm11_z 78 (by decide) (by decide)
def sxm13 : xM := si sxm12 77 5 (0 : Int32)
theorem sxm13_z : xmz sxm13 78 := xmz_si sxm12_z 78 (by decide) (by decide)
theorem sx83_at0 : sx83[0]? = some (.inr (9, [.inl (some 1), .inl (some 27), .inl none, .inl none, .inl none, .inr 0, .inr 0, .inl none, .inl none, .inl none, .inl none, .inl none, .inl none, .inl none, .inl none])) := xgO (by decide +kernel)
def sx84 : List xSh := sx83.set 0 (.inr (9, [.inl (some 1), .inl (some 27), .inl (some 77), .inl none, .inl none, .inr 0, .inr 0, .inl none, .inl none, .inl none, .inl none, .inl none, .inl none, .inl none, .inl none]))
theorem sx84_n : sx84.length = 79 := by decide +kernel
theorem sx84_w : xwf sx84 = true := by decide +kernel
def sx85 : List xSh := sx84 ++ [.inr (1, [.inl none])]
theorem sx85_n : sx85.length = 80 := by decide +kernel
theorem sx85_w : xwf sx85 = true := by decide +kernel
theorem sx85_at0 : sx85[0]? = some (.inr (9, [.inl (some 1), .inl (some 27), .inl (some 77), .inl none, .inl none, .inr 0, .inr 0, .inl none, .inl none, .inl none, .inl none, .inl none, .inl none, .inl none, .inl none])) := xgO (by decide +kernel)
theorem sx85_at79 : sx85[79]? = some (.inr (1, [.inl none])) := xgO (by decide +kernel)
def sx86 : List xSh := sx85.set 79 (.inr (1, [.inl (some 77)]))
theorem sx86_n : sx86.length = 80 := by decide +kernel
theorem sx86_w : xwf sx86 = true := by decide +kernel
theorem sx86_at0 : sx86[0]? = some (.inr (9, [.inl (some 1), .inl (some 27), .inl (some 77), .inl none, .inl none, .inr 0, .inr 0, .inl none, .inl none, .inl none, .inl none, .inl none, .inl none, .inl none, .inl none])) := xgO (by decide +kernel)
def sx87 : List xSh := sx86.set 0 (.inr (9, [.inl (some 1), .inl (some 27), .inl (some 77), .inl (some 79), .inl none, .inr 0, .inr 0, .inl none, .inl none, .inl none, .inl none, .inl none, .inl none, .inl none, .inl none]))
theorem sx87_n : sx87.length = 80 := by decide +kernel
theorem sx87_w : xwf sx87 = true := by decide +kernel
def sx88 : List xSh := sx87 ++ [.inl (6, 6, [none, none, none, none, none, none])]
theorem sx88_n : sx88.length = 81 := by decide +kernel
theorem sx88_w : xwf sx88 = true := by decide +kernel
theorem sx88_at0 : sx88[0]? = some (.inr (9, [.inl (some 1), .inl (some 27), .inl (some 77), .inl (some 79), .inl none, .inr 0, .inr 0, .inl none, .inl none, .inl none, .inl none, .inl none, .inl none, .inl none, .inl none])) := xgO (by decide +kernel)
def sx89 : List xSh := sx88.set 0 (.inr (9, [.inl (some 1), .inl (some 27), .inl (some 77), .inl (some 79), .inl (some 80), .inr 0, .inr 0, .inl none, .inl none, .inl none, .inl none, .inl none, .inl none, .inl none, .inl none]))
theorem sx89_n : sx89.length = 81 := by decide +kernel
theorem sx89_w : xwf sx89 = true := by decide +kernel
theorem sx89_at0 : sx89[0]? = some (.inr (9, [.inl (some 1), .inl (some 27), .inl (some 77), .inl (some 79), .inl (some 80), .inr 0, .inr 0, .inl none, .inl none, .inl none, .inl none, .inl none, .inl none, .inl none, .inl none])) := xgO (by decide +kernel)
def sxm14 : xM := si sxm13 0 5 (1 : Int32)
theorem sxm14_z : xmz sxm14 78 := xmz_si sxm13_z 78 (by decide) (by decide)
def sxm15 : xM := si sxm14 0 6 (0 : Int32)
theorem sxm15_z : xmz sxm15 78 := xmz_si sxm14_z 78 (by decide) (by decide)
def sx90 : List xSh := sx89 ++ [.inr (0, [.inr 0, .inr 0, .inl none, .inl none, .inr 0, .inr 0, .inr 0, .inl none, .inl none, .inl none, .inr 0])]
theorem sx90_n : sx90.length = 82 := by decide +kernel
theorem sx90_w : xwf sx90 = true := by decide +kernel
theorem sx90_at81 : sx90[81]? = some (.inr (0, [.inr 0, .inr 0, .inl none, .inl none, .inr 0, .inr 0, .inr 0, .inl none, .inl none, .inl none, .inr 0])) := xgO (by decide +kernel)
def sxm16 : xM := si sxm15 81 0 (0 : Int32)
theorem sxm16_z : xmz sxm16 82 := xmz_si sxm15_z 82 (by decide) (by decide)
def sx91 : List xSh := sx90 ++ [.inl (0, 41, [])]
theorem sx91_n : sx91.length = 83 := by decide +kernel
theorem sx91_w : xwf sx91 = true := by decide +kernel
theorem sx91_at81 : sx91[81]? = some (.inr (0, [.inr 0, .inr 0, .inl none, .inl none, .inr 0, .inr 0, .inr 0, .inl none, .inl none, .inl none, .inr 0])) := xgO (by decide +kernel)
def sx92 : List xSh := sx91.set 81 (.inr (0, [.inr 0, .inr 0, .inl (some 82), .inl none, .inr 0, .inr 0, .inr 0, .inl none, .inl none, .inl none, .inr 0]))
theorem sx92_n : sx92.length = 83 := by decide +kernel
theorem sx92_w : xwf sx92 = true := by decide +kernel
def sx93 : List xSh := sx92 ++ xouter sx92.length 3 :: List.replicate 3 (.inl (0, 6, []))
theorem sx93_n : sx93.length = 87 := by decide +kernel
theorem sx93_w : xwf sx93 = true := by decide +kernel
theorem sx93_at81 : sx93[81]? = some (.inr (0, [.inr 0, .inr 0, .inl (some 82), .inl none, .inr 0, .inr 0, .inr 0, .inl none, .inl none, .inl none, .inr 0])) := xgO (by decide +kernel)
def sx94 : List xSh := sx93.set 81 (.inr (0, [.inr 0, .inr 0, .inl (some 82), .inl (some 83), .inr 0, .inr 0, .inr 0, .inl none, .inl none, .inl none, .inr 0]))
theorem sx94_n : sx94.length = 87 := by decide +kernel
theorem sx94_w : xwf sx94 = true := by decide +kernel
def sx95 : List xSh := sx94 ++ [.inl (2, 8, [])]
theorem sx95_n : sx95.length = 88 := by decide +kernel
theorem sx95_w : xwf sx95 = true := by decide +kernel
theorem sx95_at81 : sx95[81]? = some (.inr (0, [.inr 0, .inr 0, .inl (some 82), .inl (some 83), .inr 0, .inr 0, .inr 0, .inl none, .inl none, .inl none, .inr 0])) := xgO (by decide +kernel)
def sx96 : List xSh := sx95.set 81 (.inr (0, [.inr 0, .inr 0, .inl (some 82), .inl (some 83), .inr 0, .inr 0, .inr 0, .inl (some 87), .inl none, .inl none, .inr 0]))
theorem sx96_n : sx96.length = 88 := by decide +kernel
theorem sx96_w : xwf sx96 = true := by decide +kernel
def sx97 : List xSh := sx96 ++ [.inl (0, 8, [])]
theorem sx97_n : sx97.length = 89 := by decide +kernel
theorem sx97_w : xwf sx97 = true := by decide +kernel
theorem sx97_at81 : sx97[81]? = some (.inr (0, [.inr 0, .inr 0, .inl (some 82), .inl (some 83), .inr 0, .inr 0, .inr 0, .inl (some 87), .inl none, .inl none, .inr 0])) := xgO (by decide +kernel)
def sx98 : List xSh := sx97.set 81 (.inr (0, [.inr 0, .inr 0, .inl (some 82), .inl (some 83), .inr 0, .inr 0, .inr 0, .inl (some 87), .inl (some 88), .inl none, .inr 0]))
theorem sx98_n : sx98.length = 89 := by decide +kernel
theorem sx98_w : xwf sx98 = true := by decide +kernel
def sx99 : List xSh := sx98 ++ [.inl (0, 8, [])]
theorem sx99_n : sx99.length = 90 := by decide +kernel
theorem sx99_w : xwf sx99 = true := by decide +kernel
theorem sx99_at81 : sx99[81]? = some (.inr (0, [.inr 0, .inr 0, .inl (some 82), .inl (some 83), .inr 0, .inr 0, .inr 0, .inl (some 87), .inl (some 88), .inl none, .inr 0])) := xgO (by decide +kernel)
def sx100 : List xSh := sx99.set 81 (.inr (0, [.inr 0, .inr 0, .inl (some 82), .inl (some 83), .inr 0, .inr 0, .inr 0, .inl (some 87), .inl (some 88), .inl (some 89), .inr 0]))
theorem sx100_n : sx100.length = 90 := by decide +kernel
theorem sx100_w : xwf sx100 = true := by decide +kernel
theorem sx100_at0 : sx100[0]? = some (.inr (9, [.inl (some 1), .inl (some 27), .inl (some 77), .inl (some 79), .inl (some 80), .inr 0, .inr 0, .inl none, .inl none, .inl none, .inl none, .inl none, .inl none, .inl none, .inl none])) := xgO (by decide +kernel)
def sx101 : List xSh := sx100.set 0 (.inr (9, [.inl (some 1), .inl (some 27), .inl (some 77), .inl (some 79), .inl (some 80), .inr 0, .inr 0, .inl (some 81), .inl none, .inl none, .inl none, .inl none, .inl none, .inl none, .inl none]))
theorem sx101_n : sx101.length = 90 := by decide +kernel
theorem sx101_w : xwf sx101 = true := by decide +kernel
def sx102 : List xSh := sx101 ++ [.inl (7, 4, [none, none, none, none])]
theorem sx102_n : sx102.length = 91 := by decide +kernel
theorem sx102_w : xwf sx102 = true := by decide +kernel
theorem sx102_at0 : sx102[0]? = some (.inr (9, [.inl (some 1), .inl (some 27), .inl (some 77), .inl (some 79), .inl (some 80), .inr 0, .inr 0, .inl (some 81), .inl none, .inl none, .inl none, .inl none, .inl none, .inl none, .inl none])) := xgO (by decide +kernel)
def sx103 : List xSh := sx102.set 0 (.inr (9, [.inl (some 1), .inl (some 27), .inl (some 77), .inl (some 79), .inl (some 80), .inr 0, .inr 0, .inl (some 81), .inl (some 90), .inl none, .inl none, .inl none, .inl none, .inl none, .inl none]))
theorem sx103_n : sx103.length = 91 := by decide +kernel
theorem sx103_w : xwf sx103 = true := by decide +kernel
def sx104 : List xSh := sx103 ++ [.inl (0, 6, [])]
theorem sx104_n : sx104.length = 92 := by decide +kernel
theorem sx104_w : xwf sx104 = true := by decide +kernel
theorem sx104_at0 : sx104[0]? = some (.inr (9, [.inl (some 1), .inl (some 27), .inl (some 77), .inl (some 79), .inl (some 80), .inr 0, .inr 0, .inl (some 81), .inl (some 90), .inl none, .inl none, .inl none, .inl none, .inl none, .inl none])) := xgO (by decide +kernel)
def sx105 : List xSh := sx104.set 0 (.inr (9, [.inl (some 1), .inl (some 27), .inl (some 77), .inl (some 79), .inl (some 80), .inr 0, .inr 0, .inl (some 81), .inl (some 90), .inl (some 91), .inl none, .inl none, .inl none, .inl none, .inl none]))
theorem sx105_n : sx105.length = 92 := by decide +kernel
theorem sx105_w : xwf sx105 = true := by decide +kernel
def sx106 : List xSh := sx105 ++ [.inl (0, 8, [])]
theorem sx106_n : sx106.length = 93 := by decide +kernel
theorem sx106_w : xwf sx106 = true := by decide +kernel
theorem sx106_at0 : sx106[0]? = some (.inr (9, [.inl (some 1), .inl (some 27), .inl (some 77), .inl (some 79), .inl (some 80), .inr 0, .inr 0, .inl (some 81), .inl (some 90), .inl (some 91), .inl none, .inl none, .inl none, .inl none, .inl none])) := xgO (by decide +kernel)
def sx107 : List xSh := sx106.set 0 (.inr (9, [.inl (some 1), .inl (some 27), .inl (some 77), .inl (some 79), .inl (some 80), .inr 0, .inr 0, .inl (some 81), .inl (some 90), .inl (some 91), .inl (some 92), .inl none, .inl none, .inl none, .inl none]))
theorem sx107_n : sx107.length = 93 := by decide +kernel
theorem sx107_w : xwf sx107 = true := by decide +kernel
def sx108 : List xSh := sx107 ++ [.inl (0, 21, [])]
theorem sx108_n : sx108.length = 94 := by decide +kernel
theorem sx108_w : xwf sx108 = true := by decide +kernel
theorem sx108_at0 : sx108[0]? = some (.inr (9, [.inl (some 1), .inl (some 27), .inl (some 77), .inl (some 79), .inl (some 80), .inr 0, .inr 0, .inl (some 81), .inl (some 90), .inl (some 91), .inl (some 92), .inl none, .inl none, .inl none, .inl none])) := xgO (by decide +kernel)
def sx109 : List xSh := sx108.set 0 (.inr (9, [.inl (some 1), .inl (some 27), .inl (some 77), .inl (some 79), .inl (some 80), .inr 0, .inr 0, .inl (some 81), .inl (some 90), .inl (some 91), .inl (some 92), .inl (some 93), .inl none, .inl none, .inl none]))
theorem sx109_n : sx109.length = 94 := by decide +kernel
theorem sx109_w : xwf sx109 = true := by decide +kernel
def sx110 : List xSh := sx109 ++ [.inl (0, 8, [])]
theorem sx110_n : sx110.length = 95 := by decide +kernel
theorem sx110_w : xwf sx110 = true := by decide +kernel
theorem sx110_at0 : sx110[0]? = some (.inr (9, [.inl (some 1), .inl (some 27), .inl (some 77), .inl (some 79), .inl (some 80), .inr 0, .inr 0, .inl (some 81), .inl (some 90), .inl (some 91), .inl (some 92), .inl (some 93), .inl none, .inl none, .inl none])) := xgO (by decide +kernel)
def sx111 : List xSh := sx110.set 0 (.inr (9, [.inl (some 1), .inl (some 27), .inl (some 77), .inl (some 79), .inl (some 80), .inr 0, .inr 0, .inl (some 81), .inl (some 90), .inl (some 91), .inl (some 92), .inl (some 93), .inl (some 94), .inl none, .inl none]))
theorem sx111_n : sx111.length = 95 := by decide +kernel
theorem sx111_w : xwf sx111 = true := by decide +kernel
def sx112 : List xSh := sx111 ++ [.inl (0, 12, [])]
theorem sx112_n : sx112.length = 96 := by decide +kernel
theorem sx112_w : xwf sx112 = true := by decide +kernel
theorem sx112_at0 : sx112[0]? = some (.inr (9, [.inl (some 1), .inl (some 27), .inl (some 77), .inl (some 79), .inl (some 80), .inr 0, .inr 0, .inl (some 81), .inl (some 90), .inl (some 91), .inl (some 92), .inl (some 93), .inl (some 94), .inl none, .inl none])) := xgO (by decide +kernel)
def sx113 : List xSh := sx112.set 0 (.inr (9, [.inl (some 1), .inl (some 27), .inl (some 77), .inl (some 79), .inl (some 80), .inr 0, .inr 0, .inl (some 81), .inl (some 90), .inl (some 91), .inl (some 92), .inl (some 93), .inl (some 94), .inl (some 95), .inl none]))
theorem sx113_n : sx113.length = 96 := by decide +kernel
theorem sx113_w : xwf sx113 = true := by decide +kernel
def sx114 : List xSh := sx113 ++ [.inl (0, 8, [])]
theorem sx114_n : sx114.length = 97 := by decide +kernel
theorem sx114_w : xwf sx114 = true := by decide +kernel
theorem sx114_at0 : sx114[0]? = some (.inr (9, [.inl (some 1), .inl (some 27), .inl (some 77), .inl (some 79), .inl (some 80), .inr 0, .inr 0, .inl (some 81), .inl (some 90), .inl (some 91), .inl (some 92), .inl (some 93), .inl (some 94), .inl (some 95), .inl none])) := xgO (by decide +kernel)
def sx115 : List xSh := sx114.set 0 (.inr (9, [.inl (some 1), .inl (some 27), .inl (some 77), .inl (some 79), .inl (some 80), .inr 0, .inr 0, .inl (some 81), .inl (some 90), .inl (some 91), .inl (some 92), .inl (some 93), .inl (some 94), .inl (some 95), .inl (some 96)]))
theorem sx115_n : sx115.length = 97 := by decide +kernel
theorem sx115_w : xwf sx115 = true := by decide +kernel
theorem sx115_at0 : sx115[0]? = some (.inr (9, [.inl (some 1), .inl (some 27), .inl (some 77), .inl (some 79), .inl (some 80), .inr 0, .inr 0, .inl (some 81), .inl (some 90), .inl (some 91), .inl (some 92), .inl (some 93), .inl (some 94), .inl (some 95), .inl (some 96)])) := xgO (by decide +kernel)
def sx116 : List xSh := sx115 ++ [.inr (5, [.inl none, .inl none, .inl none, .inr 0, .inr 0])]
theorem sx116_n : sx116.length = 98 := by decide +kernel
theorem sx116_w : xwf sx116 = true := by decide +kernel
def sx117 : List xSh := sx116 ++ [.inl (0, 160, [])]
theorem sx117_n : sx117.length = 99 := by decide +kernel
theorem sx117_w : xwf sx117 = true := by decide +kernel
theorem sx117_at97 : sx117[97]? = some (.inr (5, [.inl none, .inl none, .inl none, .inr 0, .inr 0])) := xgO (by decide +kernel)
def sx118 : List xSh := sx117.set 97 (.inr (5, [.inl (some 98), .inl none, .inl none, .inr 0, .inr 0]))
theorem sx118_n : sx118.length = 99 := by decide +kernel
theorem sx118_w : xwf sx118 = true := by decide +kernel
def sx119 : List xSh := sx118 ++ [.inl (0, 3, [])]
theorem sx119_n : sx119.length = 100 := by decide +kernel
theorem sx119_w : xwf sx119 = true := by decide +kernel
theorem sx119_at97 : sx119[97]? = some (.inr (5, [.inl (some 98), .inl none, .inl none, .inr 0, .inr 0])) := xgO (by decide +kernel)
def sx120 : List xSh := sx119.set 97 (.inr (5, [.inl (some 98), .inl (some 99), .inl none, .inr 0, .inr 0]))
theorem sx120_n : sx120.length = 100 := by decide +kernel
theorem sx120_w : xwf sx120 = true := by decide +kernel
def sx121 : List xSh := sx120 ++ [.inl (0, 40, [])]
theorem sx121_n : sx121.length = 101 := by decide +kernel
theorem sx121_w : xwf sx121 = true := by decide +kernel
theorem sx121_at97 : sx121[97]? = some (.inr (5, [.inl (some 98), .inl (some 99), .inl none, .inr 0, .inr 0])) := xgO (by decide +kernel)
def sx122 : List xSh := sx121.set 97 (.inr (5, [.inl (some 98), .inl (some 99), .inl (some 100), .inr 0, .inr 0]))
theorem sx122_n : sx122.length = 101 := by decide +kernel
theorem sx122_w : xwf sx122 = true := by decide +kernel
theorem sx122_at97 : sx122[97]? = some (.inr (5, [.inl (some 98), .inl (some 99), .inl (some 100), .inr 0, .inr 0])) := xgO (by decide +kernel)
def sxm17 : xM := si sxm16 97 3 (0 : Int32)
theorem sxm17_z : xmz sxm17 98 := xmz_si sxm16_z 98 (by decide) (by decide)
def sxm18 : xM := si sxm17 97 4 (0 : Int32)
theorem sxm18_z : xmz sxm18 98 := xmz_si sxm17_z 98 (by decide) (by decide)
theorem sx122_at80 : sx122[80]? = some (.inl (6, 6, [none, none, none, none, none, none])) := xgO (by decide +kernel)
def sx123 : List xSh := sx122.set 80 (.inl (6, 6, [some 97, none, none, none, none, none]))
theorem sx123_n : sx123.length = 101 := by decide +kernel
theorem sx123_w : xwf sx123 = true := by decide +kernel
theorem sx123_at0 : sx123[0]? = some (.inr (9, [.inl (some 1), .inl (some 27), .inl (some 77), .inl (some 79), .inl (some 80), .inr 0, .inr 0, .inl (some 81), .inl (some 90), .inl (some 91), .inl (some 92), .inl (some 93), .inl (some 94), .inl (some 95), .inl (some 96)])) := xgO (by decide +kernel)
def sx124 : List xSh := sx123 ++ [.inr (5, [.inl none, .inl none, .inl none, .inr 0, .inr 0])]
theorem sx124_n : sx124.length = 102 := by decide +kernel
theorem sx124_w : xwf sx124 = true := by decide +kernel
def sx125 : List xSh := sx124 ++ [.inl (0, 160, [])]
theorem sx125_n : sx125.length = 103 := by decide +kernel
theorem sx125_w : xwf sx125 = true := by decide +kernel
theorem sx125_at101 : sx125[101]? = some (.inr (5, [.inl none, .inl none, .inl none, .inr 0, .inr 0])) := xgO (by decide +kernel)
def sx126 : List xSh := sx125.set 101 (.inr (5, [.inl (some 102), .inl none, .inl none, .inr 0, .inr 0]))
theorem sx126_n : sx126.length = 103 := by decide +kernel
theorem sx126_w : xwf sx126 = true := by decide +kernel
def sx127 : List xSh := sx126 ++ [.inl (0, 3, [])]
theorem sx127_n : sx127.length = 104 := by decide +kernel
theorem sx127_w : xwf sx127 = true := by decide +kernel
theorem sx127_at101 : sx127[101]? = some (.inr (5, [.inl (some 102), .inl none, .inl none, .inr 0, .inr 0])) := xgO (by decide +kernel)
def sx128 : List xSh := sx127.set 101 (.inr (5, [.inl (some 102), .inl (some 103), .inl none, .inr 0, .inr 0]))
theorem sx128_n : sx128.length = 104 := by decide +kernel
theorem sx128_w : xwf sx128 = true := by decide +kernel
def sx129 : List xSh := sx128 ++ [.inl (0, 40, [])]
theorem sx129_n : sx129.length = 105 := by decide +kernel
theorem sx129_w : xwf sx129 = true := by decide +kernel
theorem sx129_at101 : sx129[101]? = some (.inr (5, [.inl (some 102), .inl (some 103), .inl none, .inr 0, .inr 0])) := xgO (by decide +kernel)
def sx130 : List xSh := sx129.set 101 (.inr (5, [.inl (some 102), .inl (some 103), .inl (some 104), .inr 0, .inr 0]))
theorem sx130_n : sx130.length = 105 := by decide +kernel
theorem sx130_w : xwf sx130 = true := by decide +kernel
theorem sx130_at101 : sx130[101]? = some (.inr (5, [.inl (some 102), .inl (some 103), .inl (some 104), .inr 0, .inr 0])) := xgO (by decide +kernel)
def sxm19 : xM := si sxm18 101 3 (0 : Int32)
theorem sxm19_z : xmz sxm19 102 := xmz_si sxm18_z 102 (by decide) (by decide)
def sxm20 : xM := si sxm19 101 4 (0 : Int32)
theorem sxm20_z : xmz sxm20 102 := xmz_si sxm19_z 102 (by decide) (by decide)
theorem sx130_at80 : sx130[80]? = some (.inl (6, 6, [some 97, none, none, none, none, none])) := xgO (by decide +kernel)
def sx131 : List xSh := sx130.set 80 (.inl (6, 6, [some 97, some 101, none, none, none, none]))
theorem sx131_n : sx131.length = 105 := by decide +kernel
theorem sx131_w : xwf sx131 = true := by decide +kernel
theorem sx131_at0 : sx131[0]? = some (.inr (9, [.inl (some 1), .inl (some 27), .inl (some 77), .inl (some 79), .inl (some 80), .inr 0, .inr 0, .inl (some 81), .inl (some 90), .inl (some 91), .inl (some 92), .inl (some 93), .inl (some 94), .inl (some 95), .inl (some 96)])) := xgO (by decide +kernel)
def sx132 : List xSh := sx131 ++ [.inr (5, [.inl none, .inl none, .inl none, .inr 0, .inr 0])]
theorem sx132_n : sx132.length = 106 := by decide +kernel
theorem sx132_w : xwf sx132 = true := by decide +kernel
def sx133 : List xSh := sx132 ++ [.inl (0, 160, [])]
theorem sx133_n : sx133.length = 107 := by decide +kernel
theorem sx133_w : xwf sx133 = true := by decide +kernel
theorem sx133_at105 : sx133[105]? = some (.inr (5, [.inl none, .inl none, .inl none, .inr 0, .inr 0])) := xgO (by decide +kernel)
def sx134 : List xSh := sx133.set 105 (.inr (5, [.inl (some 106), .inl none, .inl none, .inr 0, .inr 0]))
theorem sx134_n : sx134.length = 107 := by decide +kernel
theorem sx134_w : xwf sx134 = true := by decide +kernel
def sx135 : List xSh := sx134 ++ [.inl (0, 3, [])]
theorem sx135_n : sx135.length = 108 := by decide +kernel
theorem sx135_w : xwf sx135 = true := by decide +kernel
theorem sx135_at105 : sx135[105]? = some (.inr (5, [.inl (some 106), .inl none, .inl none, .inr 0, .inr 0])) := xgO (by decide +kernel)
def sx136 : List xSh := sx135.set 105 (.inr (5, [.inl (some 106), .inl (some 107), .inl none, .inr 0, .inr 0]))
theorem sx136_n : sx136.length = 108 := by decide +kernel
theorem sx136_w : xwf sx136 = true := by decide +kernel
def sx137 : List xSh := sx136 ++ [.inl (0, 40, [])]
theorem sx137_n : sx137.length = 109 := by decide +kernel
theorem sx137_w : xwf sx137 = true := by decide +kernel
theorem sx137_at105 : sx137[105]? = some (.inr (5, [.inl (some 106), .inl (some 107), .inl none, .inr 0, .inr 0])) := xgO (by decide +kernel)
def sx138 : List xSh := sx137.set 105 (.inr (5, [.inl (some 106), .inl (some 107), .inl (some 108), .inr 0, .inr 0]))
theorem sx138_n : sx138.length = 109 := by decide +kernel
theorem sx138_w : xwf sx138 = true := by decide +kernel
theorem sx138_at105 : sx138[105]? = some (.inr (5, [.inl (some 106), .inl (some 107), .inl (some 108), .inr 0, .inr 0])) := xgO (by decide +kernel)
def sxm21 : xM := si sxm20 105 3 (0 : Int32)
theorem sxm21_z : xmz sxm21 106 := xmz_si sxm20_z 106 (by decide) (by decide)
def sxm22 : xM := si sxm21 105 4 (0 : Int32)
theorem sxm22_z : xmz sxm22 106 := xmz_si sxm21_z 106 (by decide) (by decide)
theorem sx138_at80 : sx138[80]? = some (.inl (6, 6, [some 97, some 101, none, none, none, none])) := xgO (by decide +kernel)
def sx139 : List xSh := sx138.set 80 (.inl (6, 6, [some 97, some 101, some 105, none, none, none]))
theorem sx139_n : sx139.length = 109 := by decide +kernel
theorem sx139_w : xwf sx139 = true := by decide +kernel
theorem sx139_at0 : sx139[0]? = some (.inr (9, [.inl (some 1), .inl (some 27), .inl (some 77), .inl (some 79), .inl (some 80), .inr 0, .inr 0, .inl (some 81), .inl (some 90), .inl (some 91), .inl (some 92), .inl (some 93), .inl (some 94), .inl (some 95), .inl (some 96)])) := xgO (by decide +kernel)
def sx140 : List xSh := sx139 ++ [.inr (5, [.inl none, .inl none, .inl none, .inr 0, .inr 0])]
theorem sx140_n : sx140.length = 110 := by decide +kernel
theorem sx140_w : xwf sx140 = true := by decide +kernel
def sx141 : List xSh := sx140 ++ [.inl (0, 160, [])]
theorem sx141_n : sx141.length = 111 := by decide +kernel
theorem sx141_w : xwf sx141 = true := by decide +kernel
theorem sx141_at109 : sx141[109]? = some (.inr (5, [.inl none, .inl none, .inl none, .inr 0, .inr 0])) := xgO (by decide +kernel)
def sx142 : List xSh := sx141.set 109 (.inr (5, [.inl (some 110), .inl none, .inl none, .inr 0, .inr 0]))
theorem sx142_n : sx142.length = 111 := by decide +kernel
theorem sx142_w : xwf sx142 = true := by decide +kernel
def sx143 : List xSh := sx142 ++ [.inl (0, 3, [])]
theorem sx143_n : sx143.length = 112 := by decide +kernel
theorem sx143_w : xwf sx143 = true := by decide +kernel
theorem sx143_at109 : sx143[109]? = some (.inr (5, [.inl (some 110), .inl none, .inl none, .inr 0, .inr 0])) := xgO (by decide +kernel)
def sx144 : List xSh := sx143.set 109 (.inr (5, [.inl (some 110), .inl (some 111), .inl none, .inr 0, .inr 0]))
theorem sx144_n : sx144.length = 112 := by decide +kernel
theorem sx144_w : xwf sx144 = true := by decide +kernel
def sx145 : List xSh := sx144 ++ [.inl (0, 40, [])]
theorem sx145_n : sx145.length = 113 := by decide +kernel
theorem sx145_w : xwf sx145 = true := by decide +kernel
theorem sx145_at109 : sx145[109]? = some (.inr (5, [.inl (some 110), .inl (some 111), .inl none, .inr 0, .inr 0])) := xgO (by decide +kernel)
def sx146 : List xSh := sx145.set 109 (.inr (5, [.inl (some 110), .inl (some 111), .inl (some 112), .inr 0, .inr 0]))
theorem sx146_n : sx146.length = 113 := by decide +kernel
theorem sx146_w : xwf sx146 = true := by decide +kernel
theorem sx146_at109 : sx146[109]? = some (.inr (5, [.inl (some 110), .inl (some 111), .inl (some 112), .inr 0, .inr 0])) := xgO (by decide +kernel)
def sxm23 : xM := si sxm22 109 3 (0 : Int32)
theorem sxm23_z : xmz sxm23 110 := xmz_si sxm22_z 110 (by decide) (by decide)
def sxm24 : xM := si sxm23 109 4 (0 : Int32)
theorem sxm24_z : xmz sxm24 110 := xmz_si sxm23_z 110 (by decide) (by decide)
theorem sx146_at80 : sx146[80]? = some (.inl (6, 6, [some 97, some 101, some 105, none, none, none])) := xgO (by decide +kernel)
def sx147 : List xSh := sx146.set 80 (.inl (6, 6, [some 97, some 101, some 105, some 109, none, none]))
theorem sx147_n : sx147.length = 113 := by decide +kernel
theorem sx147_w : xwf sx147 = true := by decide +kernel
theorem sx147_at0 : sx147[0]? = some (.inr (9, [.inl (some 1), .inl (some 27), .inl (some 77), .inl (some 79), .inl (some 80), .inr 0, .inr 0, .inl (some 81), .inl (some 90), .inl (some 91), .inl (some 92), .inl (some 93), .inl (some 94), .inl (some 95), .inl (some 96)])) := xgO (by decide +kernel)
def sx148 : List xSh := sx147 ++ [.inr (5, [.inl none, .inl none, .inl none, .inr 0, .inr 0])]
theorem sx148_n : sx148.length = 114 := by decide +kernel
theorem sx148_w : xwf sx148 = true := by decide +kernel
def sx149 : List xSh := sx148 ++ [.inl (0, 160, [])]
theorem sx149_n : sx149.length = 115 := by decide +kernel
theorem sx149_w : xwf sx149 = true := by decide +kernel
theorem sx149_at113 : sx149[113]? = some (.inr (5, [.inl none, .inl none, .inl none, .inr 0, .inr 0])) := xgO (by decide +kernel)
def sx150 : List xSh := sx149.set 113 (.inr (5, [.inl (some 114), .inl none, .inl none, .inr 0, .inr 0]))
theorem sx150_n : sx150.length = 115 := by decide +kernel
theorem sx150_w : xwf sx150 = true := by decide +kernel
def sx151 : List xSh := sx150 ++ [.inl (0, 3, [])]
theorem sx151_n : sx151.length = 116 := by decide +kernel
theorem sx151_w : xwf sx151 = true := by decide +kernel
theorem sx151_at113 : sx151[113]? = some (.inr (5, [.inl (some 114), .inl none, .inl none, .inr 0, .inr 0])) := xgO (by decide +kernel)
def sx152 : List xSh := sx151.set 113 (.inr (5, [.inl (some 114), .inl (some 115), .inl none, .inr 0, .inr 0]))
theorem sx152_n : sx152.length = 116 := by decide +kernel
theorem sx152_w : xwf sx152 = true := by decide +kernel
def sx153 : List xSh := sx152 ++ [.inl (0, 40, [])]
theorem sx153_n : sx153.length = 117 := by decide +kernel
theorem sx153_w : xwf sx153 = true := by decide +kernel
theorem sx153_at113 : sx153[113]? = some (.inr (5, [.inl (some 114), .inl (some 115), .inl none, .inr 0, .inr 0])) := xgO (by decide +kernel)
def sx154 : List xSh := sx153.set 113 (.inr (5, [.inl (some 114), .inl (some 115), .inl (some 116), .inr 0, .inr 0]))
theorem sx154_n : sx154.length = 117 := by decide +kernel
theorem sx154_w : xwf sx154 = true := by decide +kernel
theorem sx154_at113 : sx154[113]? = some (.inr (5, [.inl (some 114), .inl (some 115), .inl (some 116), .inr 0, .inr 0])) := xgO (by decide +kernel)
def sxm25 : xM := si sxm24 113 3 (0 : Int32)
theorem sxm25_z : xmz sxm25 114 := xmz_si sxm24_z 114 (by decide) (by decide)
def sxm26 : xM := si sxm25 113 4 (0 : Int32)
theorem sxm26_z : xmz sxm26 114 := xmz_si sxm25_z 114 (by decide) (by decide)
theorem sx154_at80 : sx154[80]? = some (.inl (6, 6, [some 97, some 101, some 105, some 109, none, none])) := xgO (by decide +kernel)
def sx155 : List xSh := sx154.set 80 (.inl (6, 6, [some 97, some 101, some 105, some 109, some 113, none]))
theorem sx155_n : sx155.length = 117 := by decide +kernel
theorem sx155_w : xwf sx155 = true := by decide +kernel
theorem sx155_at0 : sx155[0]? = some (.inr (9, [.inl (some 1), .inl (some 27), .inl (some 77), .inl (some 79), .inl (some 80), .inr 0, .inr 0, .inl (some 81), .inl (some 90), .inl (some 91), .inl (some 92), .inl (some 93), .inl (some 94), .inl (some 95), .inl (some 96)])) := xgO (by decide +kernel)
def sx156 : List xSh := sx155 ++ [.inr (5, [.inl none, .inl none, .inl none, .inr 0, .inr 0])]
theorem sx156_n : sx156.length = 118 := by decide +kernel
theorem sx156_w : xwf sx156 = true := by decide +kernel
def sx157 : List xSh := sx156 ++ [.inl (0, 160, [])]
theorem sx157_n : sx157.length = 119 := by decide +kernel
theorem sx157_w : xwf sx157 = true := by decide +kernel
theorem sx157_at117 : sx157[117]? = some (.inr (5, [.inl none, .inl none, .inl none, .inr 0, .inr 0])) := xgO (by decide +kernel)
def sx158 : List xSh := sx157.set 117 (.inr (5, [.inl (some 118), .inl none, .inl none, .inr 0, .inr 0]))
theorem sx158_n : sx158.length = 119 := by decide +kernel
theorem sx158_w : xwf sx158 = true := by decide +kernel
def sx159 : List xSh := sx158 ++ [.inl (0, 3, [])]
theorem sx159_n : sx159.length = 120 := by decide +kernel
theorem sx159_w : xwf sx159 = true := by decide +kernel
theorem sx159_at117 : sx159[117]? = some (.inr (5, [.inl (some 118), .inl none, .inl none, .inr 0, .inr 0])) := xgO (by decide +kernel)
def sx160 : List xSh := sx159.set 117 (.inr (5, [.inl (some 118), .inl (some 119), .inl none, .inr 0, .inr 0]))
theorem sx160_n : sx160.length = 120 := by decide +kernel
theorem sx160_w : xwf sx160 = true := by decide +kernel
def sx161 : List xSh := sx160 ++ [.inl (0, 40, [])]
theorem sx161_n : sx161.length = 121 := by decide +kernel
theorem sx161_w : xwf sx161 = true := by decide +kernel
theorem sx161_at117 : sx161[117]? = some (.inr (5, [.inl (some 118), .inl (some 119), .inl none, .inr 0, .inr 0])) := xgO (by decide +kernel)
def sx162 : List xSh := sx161.set 117 (.inr (5, [.inl (some 118), .inl (some 119), .inl (some 120), .inr 0, .inr 0]))
theorem sx162_n : sx162.length = 121 := by decide +kernel
theorem sx162_w : xwf sx162 = true := by decide +kernel
theorem sx162_at117 : sx162[117]? = some (.inr (5, [.inl (some 118), .inl (some 119), .inl (some 120), .inr 0, .inr 0])) := xgO (by decide +kernel)
def sxm27 : xM := si sxm26 117 3 (0 : Int32)
theorem sxm27_z : xmz sxm27 118 := xmz_si sxm26_z 118 (by decide) (by decide)
def sxm28 : xM := si sxm27 117 4 (0 : Int32)
theorem sxm28_z : xmz sxm28 118 := xmz_si sxm27_z 118 (by decide) (by decide)
theorem sx162_at80 : sx162[80]? = some (.inl (6, 6, [some 97, some 101, some 105, some 109, some 113, none])) := xgO (by decide +kernel)
def sx163 : List xSh := sx162.set 80 (.inl (6, 6, [some 97, some 101, some 105, some 109, some 113, some 117]))
theorem sx163_n : sx163.length = 121 := by decide +kernel
theorem sx163_w : xwf sx163 = true := by decide +kernel
theorem sx163_at0 : sx163[0]? = some (.inr (9, [.inl (some 1), .inl (some 27), .inl (some 77), .inl (some 79), .inl (some 80), .inr 0, .inr 0, .inl (some 81), .inl (some 90), .inl (some 91), .inl (some 92), .inl (some 93), .inl (some 94), .inl (some 95), .inl (some 96)])) := xgO (by decide +kernel)
def sx164 : List xSh := sx163 ++ [.inr (2, [.inl none, .inr 0, .inr 0])]
theorem sx164_n : sx164.length = 122 := by decide +kernel
theorem sx164_w : xwf sx164 = true := by decide +kernel
def sx165 : List xSh := sx164 ++ [.inl (0, 41, [])]
theorem sx165_n : sx165.length = 123 := by decide +kernel
theorem sx165_w : xwf sx165 = true := by decide +kernel
theorem sx165_at121 : sx165[121]? = some (.inr (2, [.inl none, .inr 0, .inr 0])) := xgO (by decide +kernel)
def sx166 : List xSh := sx165.set 121 (.inr (2, [.inl (some 122), .inr 0, .inr 0]))
theorem sx166_n : sx166.length = 123 := by decide +kernel
theorem sx166_w : xwf sx166 = true := by decide +kernel
theorem sx166_at121 : sx166[121]? = some (.inr (2, [.inl (some 122), .inr 0, .inr 0])) := xgO (by decide +kernel)
def sxm29 : xM := si sxm28 121 1 (-1 : Int32)
theorem sxm29_z : xmz sxm29 122 := xmz_si sxm28_z 122 (by decide) (by decide)
def sxm30 : xM := si sxm29 121 2 (0 : Int32)
theorem sxm30_z : xmz sxm30 122 := xmz_si sxm29_z 122 (by decide) (by decide)
theorem sx166_at90 : sx166[90]? = some (.inl (7, 4, [none, none, none, none])) := xgO (by decide +kernel)
def sx167 : List xSh := sx166.set 90 (.inl (7, 4, [some 121, none, none, none]))
theorem sx167_n : sx167.length = 123 := by decide +kernel
theorem sx167_w : xwf sx167 = true := by decide +kernel
theorem sx167_at0 : sx167[0]? = some (.inr (9, [.inl (some 1), .inl (some 27), .inl (some 77), .inl (some 79), .inl (some 80), .inr 0, .inr 0, .inl (some 81), .inl (some 90), .inl (some 91), .inl (some 92), .inl (some 93), .inl (some 94), .inl (some 95), .inl (some 96)])) := xgO (by decide +kernel)
def sx168 : List xSh := sx167 ++ [.inr (2, [.inl none, .inr 0, .inr 0])]
theorem sx168_n : sx168.length = 124 := by decide +kernel
theorem sx168_w : xwf sx168 = true := by decide +kernel
def sx169 : List xSh := sx168 ++ [.inl (0, 41, [])]
theorem sx169_n : sx169.length = 125 := by decide +kernel
theorem sx169_w : xwf sx169 = true := by decide +kernel
theorem sx169_at123 : sx169[123]? = some (.inr (2, [.inl none, .inr 0, .inr 0])) := xgO (by decide +kernel)
def sx170 : List xSh := sx169.set 123 (.inr (2, [.inl (some 124), .inr 0, .inr 0]))
theorem sx170_n : sx170.length = 125 := by decide +kernel
theorem sx170_w : xwf sx170 = true := by decide +kernel
theorem sx170_at123 : sx170[123]? = some (.inr (2, [.inl (some 124), .inr 0, .inr 0])) := xgO (by decide +kernel)
def sxm31 : xM := si sxm30 123 1 (-1 : Int32)
theorem sxm31_z : xmz sxm31 124 := xmz_si sxm30_z 124 (by decide) (by decide)
def sxm32 : xM := si sxm31 123 2 (0 : Int32)
theorem sxm32_z : xmz sxm32 124 := xmz_si sxm31_z 124 (by decide) (by decide)
theorem sx170_at90 : sx170[90]? = some (.inl (7, 4, [some 121, none, none, none])) := xgO (by decide +kernel)
def sx171 : List xSh := sx170.set 90 (.inl (7, 4, [some 121, some 123, none, none]))
theorem sx171_n : sx171.length = 125 := by decide +kernel
theorem sx171_w : xwf sx171 = true := by decide +kernel
theorem sx171_at0 : sx171[0]? = some (.inr (9, [.inl (some 1), .inl (some 27), .inl (some 77), .inl (some 79), .inl (some 80), .inr 0, .inr 0, .inl (some 81), .inl (some 90), .inl (some 91), .inl (some 92), .inl (some 93), .inl (some 94), .inl (some 95), .inl (some 96)])) := xgO (by decide +kernel)
def sx172 : List xSh := sx171 ++ [.inr (2, [.inl none, .inr 0, .inr 0])]
theorem sx172_n : sx172.length = 126 := by decide +kernel
theorem sx172_w : xwf sx172 = true := by decide +kernel
def sx173 : List xSh := sx172 ++ [.inl (0, 41, [])]
theorem sx173_n : sx173.length = 127 := by decide +kernel
theorem sx173_w : xwf sx173 = true := by decide +kernel
theorem sx173_at125 : sx173[125]? = some (.inr (2, [.inl none, .inr 0, .inr 0])) := xgO (by decide +kernel)
def sx174 : List xSh := sx173.set 125 (.inr (2, [.inl (some 126), .inr 0, .inr 0]))
theorem sx174_n : sx174.length = 127 := by decide +kernel
theorem sx174_w : xwf sx174 = true := by decide +kernel
theorem sx174_at125 : sx174[125]? = some (.inr (2, [.inl (some 126), .inr 0, .inr 0])) := xgO (by decide +kernel)
def sxm33 : xM := si sxm32 125 1 (-1 : Int32)
theorem sxm33_z : xmz sxm33 126 := xmz_si sxm32_z 126 (by decide) (by decide)
def sxm34 : xM := si sxm33 125 2 (0 : Int32)
theorem sxm34_z : xmz sxm34 126 := xmz_si sxm33_z 126 (by decide) (by decide)
theorem sx174_at90 : sx174[90]? = some (.inl (7, 4, [some 121, some 123, none, none])) := xgO (by decide +kernel)
def sx175 : List xSh := sx174.set 90 (.inl (7, 4, [some 121, some 123, some 125, none]))
theorem sx175_n : sx175.length = 127 := by decide +kernel
theorem sx175_w : xwf sx175 = true := by decide +kernel
theorem sx175_at0 : sx175[0]? = some (.inr (9, [.inl (some 1), .inl (some 27), .inl (some 77), .inl (some 79), .inl (some 80), .inr 0, .inr 0, .inl (some 81), .inl (some 90), .inl (some 91), .inl (some 92), .inl (some 93), .inl (some 94), .inl (some 95), .inl (some 96)])) := xgO (by decide +kernel)
def sx176 : List xSh := sx175 ++ [.inr (2, [.inl none, .inr 0, .inr 0])]
theorem sx176_n : sx176.length = 128 := by decide +kernel
theorem sx176_w : xwf sx176 = true := by decide +kernel
def sx177 : List xSh := sx176 ++ [.inl (0, 41, [])]
theorem sx177_n : sx177.length = 129 := by decide +kernel
theorem sx177_w : xwf sx177 = true := by decide +kernel
theorem sx177_at127 : sx177[127]? = some (.inr (2, [.inl none, .inr 0, .inr 0])) := xgO (by decide +kernel)
def sx178 : List xSh := sx177.set 127 (.inr (2, [.inl (some 128), .inr 0, .inr 0]))
theorem sx178_n : sx178.length = 129 := by decide +kernel
theorem sx178_w : xwf sx178 = true := by decide +kernel
theorem sx178_at127 : sx178[127]? = some (.inr (2, [.inl (some 128), .inr 0, .inr 0])) := xgO (by decide +kernel)
def sxm35 : xM := si sxm34 127 1 (-1 : Int32)
theorem sxm35_z : xmz sxm35 128 := xmz_si sxm34_z 128 (by decide) (by decide)
def sxm36 : xM := si sxm35 127 2 (0 : Int32)
theorem sxm36_z : xmz sxm36 128 := xmz_si sxm35_z 128 (by decide) (by decide)
theorem sx178_at90 : sx178[90]? = some (.inl (7, 4, [some 121, some 123, some 125, none])) := xgO (by decide +kernel)
def sx179 : List xSh := sx178.set 90 (.inl (7, 4, [some 121, some 123, some 125, some 127]))
theorem sx179_n : sx179.length = 129 := by decide +kernel
theorem sx179_w : xwf sx179 = true := by decide +kernel
