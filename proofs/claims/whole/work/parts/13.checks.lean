set_option maxRecDepth 100000 in
theorem sm_c0 : sm_mok sm_M sm_I0 := sm_ckM_ok (hs := sm_H0) (hm := sm_Hs.getD 0 (0, 0, 0, 0)) (by decide +kernel) (sm_ch_in 2 (List.mem_of_getElem? (i := 40) rfl))
set_option maxRecDepth 100000 in
theorem sm_c1 : sm_mok sm_M sm_I1 := sm_ckM_ok (hs := sm_H1) (hm := sm_Hs.getD 1 (0, 0, 0, 0)) (by decide +kernel) (sm_ch_in 5 (List.mem_of_getElem? (i := 132) rfl))
set_option maxRecDepth 100000 in
theorem sm_c2 : sm_mok sm_M sm_I2 := sm_ckM_ok (hs := sm_H2) (hm := sm_Hs.getD 2 (0, 0, 0, 0)) (by decide +kernel) (sm_ch_in 5 (List.mem_of_getElem? (i := 136) rfl))
set_option maxRecDepth 100000 in
theorem sm_c3 : sm_mok sm_M sm_I3 := sm_ckM_ok (hs := sm_H3) (hm := sm_Hs.getD 3 (0, 0, 0, 0)) (by decide +kernel) (sm_ch_in 5 (List.mem_of_getElem? (i := 146) rfl))
set_option maxRecDepth 100000 in
theorem sm_c4 : sm_mok sm_M sm_I4 := sm_ckM_ok (hs := sm_H4) (hm := sm_Hs.getD 4 (0, 0, 0, 0)) (by decide +kernel) (sm_ch_in 5 (List.mem_of_getElem? (i := 165) rfl))
set_option maxRecDepth 100000 in
theorem sm_c5 : sm_mok sm_M sm_I5 := sm_ckM_ok (hs := sm_H5) (hm := sm_Hs.getD 5 (0, 0, 0, 0)) (by decide +kernel) (sm_ch_in 5 (List.mem_of_getElem? (i := 141) rfl))
set_option maxRecDepth 100000 in
theorem sm_c6 : sm_mok sm_M sm_I6 := sm_ckM_ok (hs := sm_H6) (hm := sm_Hs.getD 6 (0, 0, 0, 0)) (by decide +kernel) (sm_ch_in 5 (List.mem_of_getElem? (i := 151) rfl))
set_option maxRecDepth 100000 in
theorem sm_c7 : sm_mok sm_M sm_I7 := sm_ckM_ok (hs := sm_H7) (hm := sm_Hs.getD 7 (0, 0, 0, 0)) (by decide +kernel) (sm_ch_in 5 (List.mem_of_getElem? (i := 156) rfl))
set_option maxRecDepth 100000 in
theorem sm_c8 : sm_mok sm_M sm_I8 := sm_ckM_ok (hs := sm_H8) (hm := sm_Hs.getD 8 (0, 0, 0, 0)) (by decide +kernel) (sm_ch_in 1 (List.mem_of_getElem? (i := 48) rfl))
set_option maxRecDepth 100000 in
theorem sm_c9 : sm_mok sm_M sm_I9 := sm_ckM_ok (hs := sm_H9) (hm := sm_Hs.getD 9 (0, 0, 0, 0)) (by decide +kernel) (sm_ch_in 2 (List.mem_of_getElem? (i := 136) rfl))
set_option maxRecDepth 100000 in
theorem sm_c10 : sm_mok sm_M sm_I10 := sm_ckM_ok (hs := sm_H10) (hm := sm_Hs.getD 10 (0, 0, 0, 0)) (by decide +kernel) (sm_ch_in 2 (List.mem_of_getElem? (i := 140) rfl))
set_option maxRecDepth 100000 in
theorem sm_c11 : sm_mok sm_M sm_I11 := sm_ckM_ok (hs := sm_H11) (hm := sm_Hs.getD 11 (0, 0, 0, 0)) (by decide +kernel) (sm_ch_in 3 (List.mem_of_getElem? (i := 28) rfl))
set_option maxRecDepth 100000 in
theorem sm_c12 : sm_mok sm_M sm_I12 := sm_ckM_ok (hs := sm_H12) (hm := sm_Hs.getD 12 (0, 0, 0, 0)) (by decide +kernel) (sm_ch_in 3 (List.mem_of_getElem? (i := 160) rfl))
set_option maxRecDepth 100000 in
theorem sm_c13 : sm_mok sm_M sm_I13 := sm_ckM_ok (hs := sm_H13) (hm := sm_Hs.getD 13 (0, 0, 0, 0)) (by decide +kernel) (sm_ch_in 1 (List.mem_of_getElem? (i := 173) rfl))
set_option maxRecDepth 100000 in
theorem sm_c14 : sm_mok sm_M sm_I14 := sm_ckM_ok (hs := sm_H14) (hm := sm_Hs.getD 14 (0, 0, 0, 0)) (by decide +kernel) (sm_ch_in 3 (List.mem_of_getElem? (i := 10) rfl))
set_option maxRecDepth 100000 in
theorem sm_c15 : sm_mok sm_M sm_I15 := sm_ckM_ok (hs := sm_H15) (hm := sm_Hs.getD 15 (0, 0, 0, 0)) (by decide +kernel) (sm_ch_in 3 (List.mem_of_getElem? (i := 14) rfl))
set_option maxRecDepth 100000 in
theorem sm_c16 : sm_mok sm_M sm_I16 := sm_ckM_ok (hs := sm_H16) (hm := sm_Hs.getD 16 (0, 0, 0, 0)) (by decide +kernel) (sm_ch_in 3 (List.mem_of_getElem? (i := 89) rfl))
set_option maxRecDepth 100000 in
theorem sm_c17 : sm_mok sm_M sm_I17 := sm_ckM_ok (hs := sm_H17) (hm := sm_Hs.getD 17 (0, 0, 0, 0)) (by decide +kernel) (sm_ch_in 3 (List.mem_of_getElem? (i := 94) rfl))
set_option maxRecDepth 100000 in
theorem sm_c18 : sm_mok sm_M sm_I18 := sm_ckM_ok (hs := sm_H18) (hm := sm_Hs.getD 18 (0, 0, 0, 0)) (by decide +kernel) (sm_ch_in 3 (List.mem_of_getElem? (i := 85) rfl))
set_option maxRecDepth 100000 in
theorem sm_c19 : sm_mok sm_M sm_I19 := sm_ckM_ok (hs := sm_H19) (hm := sm_Hs.getD 19 (0, 0, 0, 0)) (by decide +kernel) (sm_ch_in 3 (List.mem_of_getElem? (i := 33) rfl))
set_option maxRecDepth 100000 in
theorem sm_c20 : sm_mok sm_M sm_I20 := sm_ckM_ok (hs := sm_H20) (hm := sm_Hs.getD 20 (0, 0, 0, 0)) (by decide +kernel) (sm_ch_in 3 (List.mem_of_getElem? (i := 98) rfl))
set_option maxRecDepth 100000 in
theorem sm_c21 : sm_mok sm_M sm_I21 := sm_ckM_ok (hs := sm_H21) (hm := sm_Hs.getD 21 (0, 0, 0, 0)) (by decide +kernel) (sm_ch_in 3 (List.mem_of_getElem? (i := 102) rfl))
set_option maxRecDepth 100000 in
theorem sm_c22 : sm_mok sm_M sm_I22 := sm_ckM_ok (hs := sm_H22) (hm := sm_Hs.getD 22 (0, 0, 0, 0)) (by decide +kernel) (sm_ch_in 3 (List.mem_of_getElem? (i := 119) rfl))
set_option maxRecDepth 100000 in
theorem sm_c23 : sm_mok sm_M sm_I23 := sm_ckM_ok (hs := sm_H23) (hm := sm_Hs.getD 23 (0, 0, 0, 0)) (by decide +kernel) (sm_ch_in 3 (List.mem_of_getElem? (i := 115) rfl))
set_option maxRecDepth 100000 in
theorem sm_c24 : sm_mok sm_M sm_I24 := sm_ckM_ok (hs := sm_H24) (hm := sm_Hs.getD 24 (0, 0, 0, 0)) (by decide +kernel) (sm_ch_in 3 (List.mem_of_getElem? (i := 136) rfl))
set_option maxRecDepth 100000 in
theorem sm_c25 : sm_mok sm_M sm_I25 := sm_ckM_ok (hs := sm_H25) (hm := sm_Hs.getD 25 (0, 0, 0, 0)) (by decide +kernel) (sm_ch_in 3 (List.mem_of_getElem? (i := 140) rfl))
set_option maxRecDepth 100000 in
theorem sm_c26 : sm_mok sm_M sm_I26 := sm_ckM_ok (hs := sm_H26) (hm := sm_Hs.getD 26 (0, 0, 0, 0)) (by decide +kernel) (sm_ch_in 3 (List.mem_of_getElem? (i := 148) rfl))
set_option maxRecDepth 100000 in
theorem sm_c27 : sm_mok sm_M sm_I27 := sm_ckM_ok (hs := sm_H27) (hm := sm_Hs.getD 27 (0, 0, 0, 0)) (by decide +kernel) (sm_ch_in 3 (List.mem_of_getElem? (i := 144) rfl))
set_option maxRecDepth 100000 in
theorem sm_c28 : sm_mok sm_M sm_I28 := sm_ckM_ok (hs := sm_H28) (hm := sm_Hs.getD 28 (0, 0, 0, 0)) (by decide +kernel) (sm_ch_in 3 (List.mem_of_getElem? (i := 106) rfl))
set_option maxRecDepth 100000 in
theorem sm_c29 : sm_mok sm_M sm_I29 := sm_ckM_ok (hs := sm_H29) (hm := sm_Hs.getD 29 (0, 0, 0, 0)) (by decide +kernel) (sm_ch_in 1 (List.mem_of_getElem? (i := 120) rfl))
set_option maxRecDepth 100000 in
theorem sm_c30 : sm_mok sm_M sm_I30 := sm_ckM_ok (hs := sm_H30) (hm := sm_Hs.getD 30 (0, 0, 0, 0)) (by decide +kernel) (sm_ch_in 4 (List.mem_of_getElem? (i := 42) rfl))
set_option maxRecDepth 100000 in
theorem sm_c31 : sm_mok sm_M sm_I31 := sm_ckM_ok (hs := sm_H31) (hm := sm_Hs.getD 31 (0, 0, 0, 0)) (by decide +kernel) (sm_ch_in 4 (List.mem_of_getElem? (i := 47) rfl))
set_option maxRecDepth 100000 in
theorem sm_c32 : sm_mok sm_M sm_I32 := sm_ckM_ok (hs := sm_H32) (hm := sm_Hs.getD 32 (0, 0, 0, 0)) (by decide +kernel) (sm_ch_in 4 (List.mem_of_getElem? (i := 53) rfl))
set_option maxRecDepth 100000 in
theorem sm_c33 : sm_mok sm_M sm_I33 := sm_ckM_ok (hs := sm_H33) (hm := sm_Hs.getD 33 (0, 0, 0, 0)) (by decide +kernel) (sm_ch_in 5 (List.mem_of_getElem? (i := 179) rfl))
set_option maxRecDepth 100000 in
theorem sm_c34 : sm_mok sm_M sm_I34 := sm_ckM_ok (hs := sm_H34) (hm := sm_Hs.getD 34 (0, 0, 0, 0)) (by decide +kernel) (sm_ch_in 1 (List.mem_of_getElem? (i := 197) rfl))
set_option maxRecDepth 100000 in
theorem sm_c35 : sm_mok sm_M sm_I35 := sm_ckM_ok (hs := sm_H35) (hm := sm_Hs.getD 35 (0, 0, 0, 0)) (by decide +kernel) (sm_ch_in 3 (List.mem_of_getElem? (i := 191) rfl))
set_option maxRecDepth 100000 in
theorem sm_c36 : sm_mok sm_M sm_I36 := sm_ckM_ok (hs := sm_H36) (hm := sm_Hs.getD 36 (0, 0, 0, 0)) (by decide +kernel) (sm_ch_in 4 (List.mem_of_getElem? (i := 81) rfl))
set_option maxRecDepth 100000 in
theorem sm_c37 : sm_mok sm_M sm_I37 := sm_ckM_ok (hs := sm_H37) (hm := sm_Hs.getD 37 (0, 0, 0, 0)) (by decide +kernel) (sm_ch_in 3 (List.mem_of_getElem? (i := 195) rfl))
set_option maxRecDepth 100000 in
theorem sm_c38 : sm_mok sm_M sm_I38 := sm_ckM_ok (hs := sm_H38) (hm := sm_Hs.getD 38 (0, 0, 0, 0)) (by decide +kernel) (sm_ch_in 3 (List.mem_of_getElem? (i := 199) rfl))
set_option maxRecDepth 100000 in
theorem sm_c39 : sm_mok sm_M sm_I39 := sm_ckM_ok (hs := sm_H39) (hm := sm_Hs.getD 39 (0, 0, 0, 0)) (by decide +kernel) (sm_ch_in 4 (List.mem_of_getElem? (i := 164) rfl))
set_option maxRecDepth 100000 in
theorem sm_c40 : sm_mok sm_M sm_I40 := sm_ckM_ok (hs := sm_H40) (hm := sm_Hs.getD 40 (0, 0, 0, 0)) (by decide +kernel) (sm_ch_in 4 (List.mem_of_getElem? (i := 73) rfl))
set_option maxRecDepth 100000 in
theorem sm_c41 : sm_mok sm_M sm_I41 := sm_ckM_ok (hs := sm_H41) (hm := sm_Hs.getD 41 (0, 0, 0, 0)) (by decide +kernel) (sm_ch_in 3 (List.mem_of_getElem? (i := 208) rfl))
set_option maxRecDepth 100000 in
theorem sm_c42 : sm_mok sm_M sm_I42 := sm_ckM_ok (hs := sm_H42) (hm := sm_Hs.getD 42 (0, 0, 0, 0)) (by decide +kernel) (sm_ch_in 3 (List.mem_of_getElem? (i := 212) rfl))
set_option maxRecDepth 100000 in
theorem sm_c43 : sm_mok sm_M sm_I43 := sm_ckM_ok (hs := sm_H43) (hm := sm_Hs.getD 43 (0, 0, 0, 0)) (by decide +kernel) (sm_ch_in 3 (List.mem_of_getElem? (i := 204) rfl))
set_option maxRecDepth 100000 in
theorem sm_c44 : sm_mok sm_M sm_I44 := sm_ckM_ok (hs := sm_H44) (hm := sm_Hs.getD 44 (0, 0, 0, 0)) (by decide +kernel) (sm_ch_in 4 (List.mem_of_getElem? (i := 87) rfl))
set_option maxRecDepth 100000 in
theorem sm_c45 : sm_mok sm_M sm_I45 := sm_ckM_ok (hs := sm_H45) (hm := sm_Hs.getD 45 (0, 0, 0, 0)) (by decide +kernel) (sm_ch_in 4 (List.mem_of_getElem? (i := 92) rfl))
set_option maxRecDepth 100000 in
theorem sm_c46 : sm_mok sm_M sm_I46 := sm_ckM_ok (hs := sm_H46) (hm := sm_Hs.getD 46 (0, 0, 0, 0)) (by decide +kernel) (sm_ch_in 4 (List.mem_of_getElem? (i := 1) rfl))
set_option maxRecDepth 100000 in
theorem sm_c47 : sm_mok sm_M sm_I47 := sm_ckM_ok (hs := sm_H47) (hm := sm_Hs.getD 47 (0, 0, 0, 0)) (by decide +kernel) (sm_ch_in 4 (List.mem_of_getElem? (i := 101) rfl))
set_option maxRecDepth 100000 in
theorem sm_c48 : sm_mok sm_M sm_I48 := sm_ckM_ok (hs := sm_H48) (hm := sm_Hs.getD 48 (0, 0, 0, 0)) (by decide +kernel) (sm_ch_in 3 (List.mem_of_getElem? (i := 222) rfl))
set_option maxRecDepth 100000 in
theorem sm_c49 : sm_mok sm_M sm_I49 := sm_ckM_ok (hs := sm_H49) (hm := sm_Hs.getD 49 (0, 0, 0, 0)) (by decide +kernel) (sm_ch_in 3 (List.mem_of_getElem? (i := 218) rfl))
set_option maxRecDepth 100000 in
theorem sm_c50 : sm_mok sm_M sm_I50 := sm_ckM_ok (hs := sm_H50) (hm := sm_Hs.getD 50 (0, 0, 0, 0)) (by decide +kernel) (sm_ch_in 3 (List.mem_of_getElem? (i := 226) rfl))
set_option maxRecDepth 100000 in
theorem sm_c51 : sm_mok sm_M sm_I51 := sm_ckM_ok (hs := sm_H51) (hm := sm_Hs.getD 51 (0, 0, 0, 0)) (by decide +kernel) (sm_ch_in 3 (List.mem_of_getElem? (i := 237) rfl))
set_option maxRecDepth 100000 in
theorem sm_c52 : sm_mok sm_M sm_I52 := sm_ckM_ok (hs := sm_H52) (hm := sm_Hs.getD 52 (0, 0, 0, 0)) (by decide +kernel) (sm_ch_in 4 (List.mem_of_getElem? (i := 125) rfl))
set_option maxRecDepth 100000 in
theorem sm_c53 : sm_mok sm_M sm_I53 := sm_ckM_ok (hs := sm_H53) (hm := sm_Hs.getD 53 (0, 0, 0, 0)) (by decide +kernel) (sm_ch_in 4 (List.mem_of_getElem? (i := 145) rfl))
set_option maxRecDepth 100000 in
theorem sm_c54 : sm_mok sm_M sm_I54 := sm_ckM_ok (hs := sm_H54) (hm := sm_Hs.getD 54 (0, 0, 0, 0)) (by decide +kernel) (sm_ch_in 4 (List.mem_of_getElem? (i := 141) rfl))
set_option maxRecDepth 100000 in
theorem sm_c55 : sm_mok sm_M sm_I55 := sm_ckM_ok (hs := sm_H55) (hm := sm_Hs.getD 55 (0, 0, 0, 0)) (by decide +kernel) (sm_ch_in 4 (List.mem_of_getElem? (i := 121) rfl))
set_option maxRecDepth 100000 in
theorem sm_c56 : sm_mok sm_M sm_I56 := sm_ckM_ok (hs := sm_H56) (hm := sm_Hs.getD 56 (0, 0, 0, 0)) (by decide +kernel) (sm_ch_in 4 (List.mem_of_getElem? (i := 156) rfl))
set_option maxRecDepth 100000 in
theorem sm_c57 : sm_mok sm_M sm_I57 := sm_ckM_ok (hs := sm_H57) (hm := sm_Hs.getD 57 (0, 0, 0, 0)) (by decide +kernel) (sm_ch_in 4 (List.mem_of_getElem? (i := 117) rfl))
set_option maxRecDepth 100000 in
theorem sm_c58 : sm_mok sm_M sm_I58 := sm_ckM_ok (hs := sm_H58) (hm := sm_Hs.getD 58 (0, 0, 0, 0)) (by decide +kernel) (sm_ch_in 4 (List.mem_of_getElem? (i := 113) rfl))
set_option maxRecDepth 100000 in
theorem sm_c59 : sm_mok sm_M sm_I59 := sm_ckM_ok (hs := sm_H59) (hm := sm_Hs.getD 59 (0, 0, 0, 0)) (by decide +kernel) (sm_ch_in 4 (List.mem_of_getElem? (i := 133) rfl))
set_option maxRecDepth 100000 in
theorem sm_c60 : sm_mok sm_M sm_I60 := sm_ckM_ok (hs := sm_H60) (hm := sm_Hs.getD 60 (0, 0, 0, 0)) (by decide +kernel) (sm_ch_in 5 (List.mem_of_getElem? (i := 10) rfl))
set_option maxRecDepth 100000 in
theorem sm_c61 : sm_mok sm_M sm_I61 := sm_ckM_ok (hs := sm_H61) (hm := sm_Hs.getD 61 (0, 0, 0, 0)) (by decide +kernel) (sm_ch_in 4 (List.mem_of_getElem? (i := 221) rfl))
set_option maxRecDepth 100000 in
theorem sm_c62 : sm_mok sm_M sm_I62 := sm_ckM_ok (hs := sm_H62) (hm := sm_Hs.getD 62 (0, 0, 0, 0)) (by decide +kernel) (sm_ch_in 4 (List.mem_of_getElem? (i := 228) rfl))
set_option maxRecDepth 100000 in
theorem sm_c63 : sm_mok sm_M sm_I63 := sm_ckM_ok (hs := sm_H63) (hm := sm_Hs.getD 63 (0, 0, 0, 0)) (by decide +kernel) (sm_ch_in 5 (List.mem_of_getElem? (i := 106) rfl))
set_option maxRecDepth 100000 in
theorem sm_c64 : sm_mok sm_M sm_I64 := sm_ckM_ok (hs := sm_H64) (hm := sm_Hs.getD 64 (0, 0, 0, 0)) (by decide +kernel) (sm_ch_in 5 (List.mem_of_getElem? (i := 115) rfl))
set_option maxRecDepth 100000 in
theorem sm_c65 : sm_mok sm_M sm_I65 := sm_ckM_ok (hs := sm_H65) (hm := sm_Hs.getD 65 (0, 0, 0, 0)) (by decide +kernel) (sm_ch_in 5 (List.mem_of_getElem? (i := 120) rfl))
set_option maxRecDepth 100000 in
theorem sm_c66 : sm_mok sm_M sm_I66 := sm_ckM_ok (hs := sm_H66) (hm := sm_Hs.getD 66 (0, 0, 0, 0)) (by decide +kernel) (sm_ch_in 5 (List.mem_of_getElem? (i := 124) rfl))
set_option maxRecDepth 100000 in
theorem sm_c67 : sm_mok sm_M sm_I67 := sm_ckM_ok (hs := sm_H67) (hm := sm_Hs.getD 67 (0, 0, 0, 0)) (by decide +kernel) (sm_ch_in 2 (List.mem_of_getElem? (i := 13) rfl))
set_option maxRecDepth 100000 in
theorem sm_c68 : sm_mok sm_M sm_I68 := sm_ckM_ok (hs := sm_H68) (hm := sm_Hs.getD 68 (0, 0, 0, 0)) (by decide +kernel) (sm_ch_in 4 (List.mem_of_getElem? (i := 179) rfl))
set_option maxRecDepth 100000 in
theorem sm_c69 : sm_mok sm_M sm_I69 := sm_ckM_ok (hs := sm_H69) (hm := sm_Hs.getD 69 (0, 0, 0, 0)) (by decide +kernel) (sm_ch_in 4 (List.mem_of_getElem? (i := 172) rfl))
set_option maxRecDepth 100000 in
theorem sm_c70 : sm_mok sm_M sm_I70 := sm_ckM_ok (hs := sm_H70) (hm := sm_Hs.getD 70 (0, 0, 0, 0)) (by decide +kernel) (sm_ch_in 4 (List.mem_of_getElem? (i := 190) rfl))
set_option maxRecDepth 100000 in
theorem sm_c71 : sm_mok sm_M sm_I71 := sm_ckM_ok (hs := sm_H71) (hm := sm_Hs.getD 71 (0, 0, 0, 0)) (by decide +kernel) (sm_ch_in 4 (List.mem_of_getElem? (i := 199) rfl))
set_option maxRecDepth 100000 in
theorem sm_c72 : sm_mok sm_M sm_I72 := sm_ckM_ok (hs := sm_H72) (hm := sm_Hs.getD 72 (0, 0, 0, 0)) (by decide +kernel) (sm_ch_in 4 (List.mem_of_getElem? (i := 208) rfl))
set_option maxRecDepth 100000 in
theorem sm_c73 : sm_mok sm_M sm_I73 := sm_ckM_ok (hs := sm_H73) (hm := sm_Hs.getD 73 (0, 0, 0, 0)) (by decide +kernel) (sm_ch_in 4 (List.mem_of_getElem? (i := 217) rfl))
set_option maxRecDepth 100000 in
theorem sm_c74 : sm_mok sm_M sm_I74 := sm_ckM_ok (hs := sm_H74) (hm := sm_Hs.getD 74 (0, 0, 0, 0)) (by decide +kernel) (sm_ch_in 5 (List.mem_of_getElem? (i := 6) rfl))
set_option maxRecDepth 100000 in
theorem sm_c75 : sm_mok sm_M sm_I75 := sm_ckM_ok (hs := sm_H75) (hm := sm_Hs.getD 75 (0, 0, 0, 0)) (by decide +kernel) (sm_ch_in 5 (List.mem_of_getElem? (i := 3) rfl))
set_option maxRecDepth 100000 in
theorem sm_c76 : sm_mok sm_M sm_I76 := sm_ckM_ok (hs := sm_H76) (hm := sm_Hs.getD 76 (0, 0, 0, 0)) (by decide +kernel) (sm_ch_in 5 (List.mem_of_getElem? (i := 25) rfl))
set_option maxRecDepth 100000 in
theorem sm_c77 : sm_mok sm_M sm_I77 := sm_ckM_ok (hs := sm_H77) (hm := sm_Hs.getD 77 (0, 0, 0, 0)) (by decide +kernel) (sm_ch_in 5 (List.mem_of_getElem? (i := 29) rfl))
set_option maxRecDepth 100000 in
theorem sm_c78 : sm_mok sm_M sm_I78 := sm_ckM_ok (hs := sm_H78) (hm := sm_Hs.getD 78 (0, 0, 0, 0)) (by decide +kernel) (sm_ch_in 5 (List.mem_of_getElem? (i := 44) rfl))
set_option maxRecDepth 100000 in
theorem sm_c79 : sm_mok sm_M sm_I79 := sm_ckM_ok (hs := sm_H79) (hm := sm_Hs.getD 79 (0, 0, 0, 0)) (by decide +kernel) (sm_ch_in 2 (List.mem_of_getElem? (i := 64) rfl))
set_option maxRecDepth 100000 in
theorem sm_c80 : sm_mok sm_M sm_I80 := sm_ckM_ok (hs := sm_H80) (hm := sm_Hs.getD 80 (0, 0, 0, 0)) (by decide +kernel) (sm_ch_in 2 (List.mem_of_getElem? (i := 164) rfl))
set_option maxRecDepth 100000 in
theorem sm_c81 : sm_mok sm_M sm_I81 := sm_ckM_ok (hs := sm_H81) (hm := sm_Hs.getD 81 (0, 0, 0, 0)) (by decide +kernel) (sm_ch_in 2 (List.mem_of_getElem? (i := 160) rfl))
set_option maxRecDepth 100000 in
theorem sm_c82 : sm_mok sm_M sm_I82 := sm_ckM_ok (hs := sm_H82) (hm := sm_Hs.getD 82 (0, 0, 0, 0)) (by decide +kernel) (sm_ch_in 2 (List.mem_of_getElem? (i := 144) rfl))
set_option maxRecDepth 100000 in
theorem sm_c83 : sm_mok sm_M sm_I83 := sm_ckM_ok (hs := sm_H83) (hm := sm_Hs.getD 83 (0, 0, 0, 0)) (by decide +kernel) (sm_ch_in 2 (List.mem_of_getElem? (i := 148) rfl))
set_option maxRecDepth 100000 in
theorem sm_c84 : sm_mok sm_M sm_I84 := sm_ckM_ok (hs := sm_H84) (hm := sm_Hs.getD 84 (0, 0, 0, 0)) (by decide +kernel) (sm_ch_in 2 (List.mem_of_getElem? (i := 214) rfl))
set_option maxRecDepth 100000 in
theorem sm_c85 : sm_mok sm_M sm_I85 := sm_ckM_ok (hs := sm_H85) (hm := sm_Hs.getD 85 (0, 0, 0, 0)) (by decide +kernel) (sm_ch_in 2 (List.mem_of_getElem? (i := 168) rfl))
set_option maxRecDepth 100000 in
theorem sm_c86 : sm_mok sm_M sm_I86 := sm_ckM_ok (hs := sm_H86) (hm := sm_Hs.getD 86 (0, 0, 0, 0)) (by decide +kernel) (sm_ch_in 2 (List.mem_of_getElem? (i := 185) rfl))
set_option maxRecDepth 100000 in
theorem sm_c87 : sm_mok sm_M sm_I87 := sm_ckM_ok (hs := sm_H87) (hm := sm_Hs.getD 87 (0, 0, 0, 0)) (by decide +kernel) (sm_ch_in 2 (List.mem_of_getElem? (i := 201) rfl))
set_option maxRecDepth 100000 in
theorem sm_c88 : sm_mok sm_M sm_I88 := sm_ckM_ok (hs := sm_H88) (hm := sm_Hs.getD 88 (0, 0, 0, 0)) (by decide +kernel) (sm_ch_in 3 (List.mem_of_getElem? (i := 18) rfl))
set_option maxRecDepth 100000 in
theorem sm_c89 : sm_mok sm_M sm_I89 := sm_ckM_ok (hs := sm_H89) (hm := sm_Hs.getD 89 (0, 0, 0, 0)) (by decide +kernel) (sm_ch_in 2 (List.mem_of_getElem? (i := 172) rfl))
set_option maxRecDepth 100000 in
theorem sm_c90 : sm_mok sm_M sm_I90 := sm_ckM_ok (hs := sm_H90) (hm := sm_Hs.getD 90 (0, 0, 0, 0)) (by decide +kernel) (sm_ch_in 2 (List.mem_of_getElem? (i := 177) rfl))
set_option maxRecDepth 100000 in
theorem sm_c91 : sm_mok sm_M sm_I91 := sm_ckM_ok (hs := sm_H91) (hm := sm_Hs.getD 91 (0, 0, 0, 0)) (by decide +kernel) (sm_ch_in 2 (List.mem_of_getElem? (i := 189) rfl))
set_option maxRecDepth 100000 in
theorem sm_c92 : sm_mok sm_M sm_I92 := sm_ckM_ok (hs := sm_H92) (hm := sm_Hs.getD 92 (0, 0, 0, 0)) (by decide +kernel) (sm_ch_in 1 (List.mem_of_getElem? (i := 33) rfl))
set_option maxRecDepth 100000 in
theorem sm_c93 : sm_mok sm_M sm_I93 := sm_ckM_ok (hs := sm_H93) (hm := sm_Hs.getD 93 (0, 0, 0, 0)) (by decide +kernel) (sm_ch_in 2 (List.mem_of_getElem? (i := 236) rfl))
set_option maxRecDepth 100000 in
theorem sm_c94 : sm_mok sm_M sm_I94 := sm_ckM_ok (hs := sm_H94) (hm := sm_Hs.getD 94 (0, 0, 0, 0)) (by decide +kernel) (sm_ch_in 2 (List.mem_of_getElem? (i := 210) rfl))
set_option maxRecDepth 100000 in
theorem sm_c95 : sm_mok sm_M sm_I95 := sm_ckM_ok (hs := sm_H95) (hm := sm_Hs.getD 95 (0, 0, 0, 0)) (by decide +kernel) (sm_ch_in 3 (List.mem_of_getElem? (i := 152) rfl))
set_option maxRecDepth 100000 in
theorem sm_c96 : sm_mok sm_M sm_I96 := sm_ckM_ok (hs := sm_H96) (hm := sm_Hs.getD 96 (0, 0, 0, 0)) (by decide +kernel) (sm_ch_in 4 (List.mem_of_getElem? (i := 38) rfl))
set_option maxRecDepth 100000 in
theorem sm_c97 : sm_mok sm_M sm_I97 := sm_ckM_ok (hs := sm_H97) (hm := sm_Hs.getD 97 (0, 0, 0, 0)) (by decide +kernel) (sm_ch_in 5 (List.mem_of_getElem? (i := 174) rfl))
set_option maxRecDepth 100000 in
theorem sm_c98 : sm_mok sm_M sm_I98 := sm_ckM_ok (hs := sm_H98) (hm := sm_Hs.getD 98 (0, 0, 0, 0)) (by decide +kernel) (sm_ch_in 1 (List.mem_of_getElem? (i := 42) rfl))
set_option maxRecDepth 100000 in
theorem sm_c99 : sm_mok sm_M sm_I99 := sm_ckM_ok (hs := sm_H99) (hm := sm_Hs.getD 99 (0, 0, 0, 0)) (by decide +kernel) (sm_ch_in 3 (List.mem_of_getElem? (i := 24) rfl))
set_option maxRecDepth 100000 in
theorem sm_c100 : sm_mok sm_M sm_I100 := sm_ckM_ok (hs := sm_H100) (hm := sm_Hs.getD 100 (0, 0, 0, 0)) (by decide +kernel) (sm_ch_in 3 (List.mem_of_getElem? (i := 156) rfl))
set_option maxRecDepth 100000 in
theorem sm_c101 : sm_mok sm_M sm_I101 := sm_ckM_ok (hs := sm_H101) (hm := sm_Hs.getD 101 (0, 0, 0, 0)) (by decide +kernel) (sm_ch_in 3 (List.mem_of_getElem? (i := 110) rfl))
set_option maxRecDepth 100000 in
theorem sm_c102 : sm_mok sm_M sm_I102 := sm_ckM_ok (hs := sm_H102) (hm := sm_Hs.getD 102 (0, 0, 0, 0)) (by decide +kernel) (sm_ch_in 3 (List.mem_of_getElem? (i := 183) rfl))
set_option maxRecDepth 100000 in
theorem sm_c103 : sm_mok sm_M sm_I103 := sm_ckM_ok (hs := sm_H103) (hm := sm_Hs.getD 103 (0, 0, 0, 0)) (by decide +kernel) (sm_ch_in 4 (List.mem_of_getElem? (i := 20) rfl))
set_option maxRecDepth 100000 in
theorem sm_c104 : sm_mok sm_M sm_I104 := sm_ckM_ok (hs := sm_H104) (hm := sm_Hs.getD 104 (0, 0, 0, 0)) (by decide +kernel) (sm_ch_in 4 (List.mem_of_getElem? (i := 33) rfl))
set_option maxRecDepth 100000 in
theorem sm_c105 : sm_mok sm_M sm_I105 := sm_ckM_ok (hs := sm_H105) (hm := sm_Hs.getD 105 (0, 0, 0, 0)) (by decide +kernel) (sm_ch_in 4 (List.mem_of_getElem? (i := 129) rfl))
set_option maxRecDepth 100000 in
theorem sm_c106 : sm_mok sm_M sm_I106 := sm_ckM_ok (hs := sm_H106) (hm := sm_Hs.getD 106 (0, 0, 0, 0)) (by decide +kernel) (sm_ch_in 5 (List.mem_of_getElem? (i := 111) rfl))
set_option maxRecDepth 100000 in
theorem sm_c107 : sm_mok sm_M sm_I107 := sm_ckM_ok (hs := sm_H107) (hm := sm_Hs.getD 107 (0, 0, 0, 0)) (by decide +kernel) (sm_ch_in 5 (List.mem_of_getElem? (i := 54) rfl))
set_option maxRecDepth 100000 in
theorem sm_c108 : sm_mok sm_M sm_I108 := sm_ckM_ok (hs := sm_H108) (hm := sm_Hs.getD 108 (0, 0, 0, 0)) (by decide +kernel) (sm_ch_in 5 (List.mem_of_getElem? (i := 69) rfl))
set_option maxRecDepth 100000 in
theorem sm_c109 : sm_mok sm_M sm_I109 := sm_ckM_ok (hs := sm_H109) (hm := sm_Hs.getD 109 (0, 0, 0, 0)) (by decide +kernel) (sm_ch_in 5 (List.mem_of_getElem? (i := 65) rfl))
set_option maxRecDepth 100000 in
theorem sm_c110 : sm_mok sm_M sm_I110 := sm_ckM_ok (hs := sm_H110) (hm := sm_Hs.getD 110 (0, 0, 0, 0)) (by decide +kernel) (sm_ch_in 5 (List.mem_of_getElem? (i := 82) rfl))
set_option maxRecDepth 100000 in
theorem sm_c111 : sm_mok sm_M sm_I111 := sm_ckM_ok (hs := sm_H111) (hm := sm_Hs.getD 111 (0, 0, 0, 0)) (by decide +kernel) (sm_ch_in 5 (List.mem_of_getElem? (i := 86) rfl))
set_option maxRecDepth 100000 in
theorem sm_c112 : sm_mok sm_M sm_I112 := sm_ckM_ok (hs := sm_H112) (hm := sm_Hs.getD 112 (0, 0, 0, 0)) (by decide +kernel) (sm_ch_in 1 (List.mem_of_getElem? (i := 23) rfl))
set_option maxRecDepth 100000 in
theorem sm_c113 : sm_mok sm_M sm_I113 := sm_ckM_ok (hs := sm_H113) (hm := sm_Hs.getD 113 (0, 0, 0, 0)) (by decide +kernel) (sm_ch_in 2 (List.mem_of_getElem? (i := 124) rfl))
set_option maxRecDepth 100000 in
theorem sm_c114 : sm_mok sm_M sm_I114 := sm_ckM_ok (hs := sm_H114) (hm := sm_Hs.getD 114 (0, 0, 0, 0)) (by decide +kernel) (sm_ch_in 2 (List.mem_of_getElem? (i := 152) rfl))
set_option maxRecDepth 100000 in
theorem sm_c115 : sm_mok sm_M sm_I115 := sm_ckM_ok (hs := sm_H115) (hm := sm_Hs.getD 115 (0, 0, 0, 0)) (by decide +kernel) (sm_ch_in 2 (List.mem_of_getElem? (i := 181) rfl))
set_option maxRecDepth 100000 in
theorem sm_c116 : sm_mok sm_M sm_I116 := sm_ckM_ok (hs := sm_H116) (hm := sm_Hs.getD 116 (0, 0, 0, 0)) (by decide +kernel) (sm_ch_in 2 (List.mem_of_getElem? (i := 197) rfl))
set_option maxRecDepth 100000 in
theorem sm_c117 : sm_mok sm_M sm_I117 := sm_ckM_ok (hs := sm_H117) (hm := sm_Hs.getD 117 (0, 0, 0, 0)) (by decide +kernel) (sm_ch_in 2 (List.mem_of_getElem? (i := 205) rfl))
set_option maxRecDepth 100000 in
theorem sm_c118 : sm_mok sm_M sm_I118 := sm_ckM_ok (hs := sm_H118) (hm := sm_Hs.getD 118 (0, 0, 0, 0)) (by decide +kernel) (sm_ch_in 2 (List.mem_of_getElem? (i := 218) rfl))
set_option maxRecDepth 100000 in
theorem sm_c119 : sm_mok sm_M sm_I119 := sm_ckM_ok (hs := sm_H119) (hm := sm_Hs.getD 119 (0, 0, 0, 0)) (by decide +kernel) (sm_ch_in 2 (List.mem_of_getElem? (i := 222) rfl))
set_option maxRecDepth 100000 in
theorem sm_c120 : sm_mok sm_M sm_I120 := sm_ckM_ok (hs := sm_H120) (hm := sm_Hs.getD 120 (0, 0, 0, 0)) (by decide +kernel) (sm_ch_in 3 (List.mem_of_getElem? (i := 6) rfl))
set_option maxRecDepth 100000 in
theorem sm_c121 : sm_mok sm_M sm_I121 := sm_ckM_ok (hs := sm_H121) (hm := sm_Hs.getD 121 (0, 0, 0, 0)) (by decide +kernel) (sm_ch_in 3 (List.mem_of_getElem? (i := 166) rfl))
set_option maxRecDepth 100000 in
theorem sm_c122 : sm_mok sm_M sm_I122 := sm_ckM_ok (hs := sm_H122) (hm := sm_Hs.getD 122 (0, 0, 0, 0)) (by decide +kernel) (sm_ch_in 3 (List.mem_of_getElem? (i := 170) rfl))
set_option maxRecDepth 100000 in
theorem sm_c123 : sm_mok sm_M sm_I123 := sm_ckM_ok (hs := sm_H123) (hm := sm_Hs.getD 123 (0, 0, 0, 0)) (by decide +kernel) (sm_ch_in 3 (List.mem_of_getElem? (i := 179) rfl))
set_option maxRecDepth 100000 in
theorem sm_c124 : sm_mok sm_M sm_I124 := sm_ckM_ok (hs := sm_H124) (hm := sm_Hs.getD 124 (0, 0, 0, 0)) (by decide +kernel) (sm_ch_in 3 (List.mem_of_getElem? (i := 187) rfl))
set_option maxRecDepth 100000 in
theorem sm_c125 : sm_mok sm_M sm_I125 := sm_ckM_ok (hs := sm_H125) (hm := sm_Hs.getD 125 (0, 0, 0, 0)) (by decide +kernel) (sm_ch_in 4 (List.mem_of_getElem? (i := 5) rfl))
set_option maxRecDepth 100000 in
theorem sm_c126 : sm_mok sm_M sm_I126 := sm_ckM_ok (hs := sm_H126) (hm := sm_Hs.getD 126 (0, 0, 0, 0)) (by decide +kernel) (sm_ch_in 4 (List.mem_of_getElem? (i := 12) rfl))
set_option maxRecDepth 100000 in
theorem sm_c127 : sm_mok sm_M sm_I127 := sm_ckM_ok (hs := sm_H127) (hm := sm_Hs.getD 127 (0, 0, 0, 0)) (by decide +kernel) (sm_ch_in 4 (List.mem_of_getElem? (i := 16) rfl))
set_option maxRecDepth 100000 in
theorem sm_c128 : sm_mok sm_M sm_I128 := sm_ckM_ok (hs := sm_H128) (hm := sm_Hs.getD 128 (0, 0, 0, 0)) (by decide +kernel) (sm_ch_in 4 (List.mem_of_getElem? (i := 58) rfl))
set_option maxRecDepth 100000 in
theorem sm_c129 : sm_mok sm_M sm_I129 := sm_ckM_ok (hs := sm_H129) (hm := sm_Hs.getD 129 (0, 0, 0, 0)) (by decide +kernel) (sm_ch_in 4 (List.mem_of_getElem? (i := 65) rfl))
set_option maxRecDepth 100000 in
theorem sm_c130 : sm_mok sm_M sm_I130 := sm_ckM_ok (hs := sm_H130) (hm := sm_Hs.getD 130 (0, 0, 0, 0)) (by decide +kernel) (sm_ch_in 4 (List.mem_of_getElem? (i := 69) rfl))
set_option maxRecDepth 100000 in
theorem sm_c131 : sm_mok sm_M sm_I131 := sm_ckM_ok (hs := sm_H131) (hm := sm_Hs.getD 131 (0, 0, 0, 0)) (by decide +kernel) (sm_ch_in 4 (List.mem_of_getElem? (i := 96) rfl))
set_option maxRecDepth 100000 in
theorem sm_c132 : sm_mok sm_M sm_I132 := sm_ckM_ok (hs := sm_H132) (hm := sm_Hs.getD 132 (0, 0, 0, 0)) (by decide +kernel) (sm_ch_in 4 (List.mem_of_getElem? (i := 105) rfl))
set_option maxRecDepth 100000 in
theorem sm_c133 : sm_mok sm_M sm_I133 := sm_ckM_ok (hs := sm_H133) (hm := sm_Hs.getD 133 (0, 0, 0, 0)) (by decide +kernel) (sm_ch_in 4 (List.mem_of_getElem? (i := 109) rfl))
set_option maxRecDepth 100000 in
theorem sm_c134 : sm_mok sm_M sm_I134 := sm_ckM_ok (hs := sm_H134) (hm := sm_Hs.getD 134 (0, 0, 0, 0)) (by decide +kernel) (sm_ch_in 4 (List.mem_of_getElem? (i := 137) rfl))
set_option maxRecDepth 100000 in
theorem sm_c135 : sm_mok sm_M sm_I135 := sm_ckM_ok (hs := sm_H135) (hm := sm_Hs.getD 135 (0, 0, 0, 0)) (by decide +kernel) (sm_ch_in 4 (List.mem_of_getElem? (i := 149) rfl))
set_option maxRecDepth 100000 in
theorem sm_c136 : sm_mok sm_M sm_I136 := sm_ckM_ok (hs := sm_H136) (hm := sm_Hs.getD 136 (0, 0, 0, 0)) (by decide +kernel) (sm_ch_in 4 (List.mem_of_getElem? (i := 160) rfl))
set_option maxRecDepth 100000 in
theorem sm_c137 : sm_mok sm_M sm_I137 := sm_ckM_ok (hs := sm_H137) (hm := sm_Hs.getD 137 (0, 0, 0, 0)) (by decide +kernel) (sm_ch_in 4 (List.mem_of_getElem? (i := 168) rfl))
set_option maxRecDepth 100000 in
theorem sm_c138 : sm_mok sm_M sm_I138 := sm_ckM_ok (hs := sm_H138) (hm := sm_Hs.getD 138 (0, 0, 0, 0)) (by decide +kernel) (sm_ch_in 4 (List.mem_of_getElem? (i := 186) rfl))
set_option maxRecDepth 100000 in
theorem sm_c139 : sm_mok sm_M sm_I139 := sm_ckM_ok (hs := sm_H139) (hm := sm_Hs.getD 139 (0, 0, 0, 0)) (by decide +kernel) (sm_ch_in 4 (List.mem_of_getElem? (i := 195) rfl))
set_option maxRecDepth 100000 in
theorem sm_c140 : sm_mok sm_M sm_I140 := sm_ckM_ok (hs := sm_H140) (hm := sm_Hs.getD 140 (0, 0, 0, 0)) (by decide +kernel) (sm_ch_in 4 (List.mem_of_getElem? (i := 204) rfl))
set_option maxRecDepth 100000 in
theorem sm_c141 : sm_mok sm_M sm_I141 := sm_ckM_ok (hs := sm_H141) (hm := sm_Hs.getD 141 (0, 0, 0, 0)) (by decide +kernel) (sm_ch_in 4 (List.mem_of_getElem? (i := 213) rfl))
set_option maxRecDepth 100000 in
theorem sm_c142 : sm_mok sm_M sm_I142 := sm_ckM_ok (hs := sm_H142) (hm := sm_Hs.getD 142 (0, 0, 0, 0)) (by decide +kernel) (sm_ch_in 4 (List.mem_of_getElem? (i := 232) rfl))
set_option maxRecDepth 100000 in
theorem sm_c143 : sm_mok sm_M sm_I143 := sm_ckM_ok (hs := sm_H143) (hm := sm_Hs.getD 143 (0, 0, 0, 0)) (by decide +kernel) (sm_ch_in 5 (List.mem_of_getElem? (i := 21) rfl))
set_option maxRecDepth 100000 in
theorem sm_c144 : sm_mok sm_M sm_I144 := sm_ckM_ok (hs := sm_H144) (hm := sm_Hs.getD 144 (0, 0, 0, 0)) (by decide +kernel) (sm_ch_in 5 (List.mem_of_getElem? (i := 36) rfl))
set_option maxRecDepth 100000 in
theorem sm_c145 : sm_mok sm_M sm_I145 := sm_ckM_ok (hs := sm_H145) (hm := sm_Hs.getD 145 (0, 0, 0, 0)) (by decide +kernel) (sm_ch_in 5 (List.mem_of_getElem? (i := 40) rfl))
set_option maxRecDepth 100000 in
theorem sm_c146 : sm_mok sm_M sm_I146 := sm_ckM_ok (hs := sm_H146) (hm := sm_Hs.getD 146 (0, 0, 0, 0)) (by decide +kernel) (sm_ch_in 5 (List.mem_of_getElem? (i := 50) rfl))
set_option maxRecDepth 100000 in
theorem sm_c147 : sm_mok sm_M sm_I147 := sm_ckM_ok (hs := sm_H147) (hm := sm_Hs.getD 147 (0, 0, 0, 0)) (by decide +kernel) (sm_ch_in 5 (List.mem_of_getElem? (i := 61) rfl))
set_option maxRecDepth 100000 in
theorem sm_c148 : sm_mok sm_M sm_I148 := sm_ckM_ok (hs := sm_H148) (hm := sm_Hs.getD 148 (0, 0, 0, 0)) (by decide +kernel) (sm_ch_in 5 (List.mem_of_getElem? (i := 74) rfl))
set_option maxRecDepth 100000 in
theorem sm_c149 : sm_mok sm_M sm_I149 := sm_ckM_ok (hs := sm_H149) (hm := sm_Hs.getD 149 (0, 0, 0, 0)) (by decide +kernel) (sm_ch_in 5 (List.mem_of_getElem? (i := 78) rfl))
set_option maxRecDepth 100000 in
theorem sm_c150 : sm_mok sm_M sm_I150 := sm_ckM_ok (hs := sm_H150) (hm := sm_Hs.getD 150 (0, 0, 0, 0)) (by decide +kernel) (sm_ch_in 5 (List.mem_of_getElem? (i := 94) rfl))
set_option maxRecDepth 100000 in
theorem sm_c151 : sm_mok sm_M sm_I151 := sm_ckM_ok (hs := sm_H151) (hm := sm_Hs.getD 151 (0, 0, 0, 0)) (by decide +kernel) (sm_ch_in 5 (List.mem_of_getElem? (i := 102) rfl))
set_option maxRecDepth 100000 in
theorem sm_c152 : sm_mok sm_M sm_I152 := sm_ckM_ok (hs := sm_H152) (hm := sm_Hs.getD 152 (0, 0, 0, 0)) (by decide +kernel) (sm_ch_in 5 (List.mem_of_getElem? (i := 128) rfl))
set_option maxRecDepth 100000 in
theorem sm_c153 : sm_mok sm_M sm_I153 := sm_ckM_ok (hs := sm_H153) (hm := sm_Hs.getD 153 (0, 0, 0, 0)) (by decide +kernel) (sm_ch_in 5 (List.mem_of_getElem? (i := 161) rfl))
set_option maxRecDepth 100000 in
theorem sm_c154 : sm_mok sm_M sm_I154 := sm_ckM_ok (hs := sm_H154) (hm := sm_Hs.getD 154 (0, 0, 0, 0)) (by decide +kernel) (sm_ch_in 5 (List.mem_of_getElem? (i := 170) rfl))
set_option maxRecDepth 100000 in
theorem sm_c155 : sm_mok sm_M sm_I155 := sm_ckM_ok (hs := sm_H155) (hm := sm_Hs.getD 155 (0, 0, 0, 0)) (by decide +kernel) (sm_ch_in 5 (List.mem_of_getElem? (i := 184) rfl))
set_option maxRecDepth 100000 in
theorem sm_c156 : sm_mok sm_M sm_I156 := sm_ckM_ok (hs := sm_H156) (hm := sm_Hs.getD 156 (0, 0, 0, 0)) (by decide +kernel) (sm_ch_in 5 (List.mem_of_getElem? (i := 188) rfl))
set_option maxRecDepth 100000 in
theorem sm_c157 : sm_mok sm_M sm_I157 := sm_ckM_ok (hs := sm_H157) (hm := sm_Hs.getD 157 (0, 0, 0, 0)) (by decide +kernel) (sm_ch_in 2 (List.mem_of_getElem? (i := 132) rfl))
set_option maxRecDepth 100000 in
theorem sm_c158 : sm_mok sm_M sm_I158 := sm_ckM_ok (hs := sm_H158) (hm := sm_Hs.getD 158 (0, 0, 0, 0)) (by decide +kernel) (sm_ch_in 3 (List.mem_of_getElem? (i := 174) rfl))
set_option maxRecDepth 100000 in
theorem sm_c159 : sm_mok sm_M sm_I159 := sm_ckM_ok (hs := sm_H159) (hm := sm_Hs.getD 159 (0, 0, 0, 0)) (by decide +kernel) (sm_ch_in 4 (List.mem_of_getElem? (i := 236) rfl))
set_option maxRecDepth 100000 in
theorem sm_c160 : sm_mok sm_M sm_I160 := sm_ckM_ok (hs := sm_H160) (hm := sm_Hs.getD 160 (0, 0, 0, 0)) (by decide +kernel) (sm_ch_in 2 (List.mem_of_getElem? (i := 128) rfl))
set_option maxRecDepth 100000 in
theorem sm_c161 : sm_mok sm_M sm_I161 := sm_ckM_ok (hs := sm_H161) (hm := sm_Hs.getD 161 (0, 0, 0, 0)) (by decide +kernel) (sm_ch_in 2 (List.mem_of_getElem? (i := 156) rfl))
set_option maxRecDepth 100000 in
theorem sm_c162 : sm_mok sm_M sm_I162 := sm_ckM_ok (hs := sm_H162) (hm := sm_Hs.getD 162 (0, 0, 0, 0)) (by decide +kernel) (sm_ch_in 4 (List.mem_of_getElem? (i := 24) rfl))
set_option maxRecDepth 100000 in
theorem sm_c163 : sm_mok sm_M sm_I163 := sm_ckM_ok (hs := sm_H163) (hm := sm_Hs.getD 163 (0, 0, 0, 0)) (by decide +kernel) (sm_ch_in 4 (List.mem_of_getElem? (i := 29) rfl))
set_option maxRecDepth 100000 in
theorem sm_c164 : sm_mok sm_M sm_I164 := sm_ckM_ok (hs := sm_H164) (hm := sm_Hs.getD 164 (0, 0, 0, 0)) (by decide +kernel) (sm_ch_in 2 (List.mem_of_getElem? (i := 232) rfl))
set_option maxRecDepth 100000 in
theorem sm_c165 : sm_mok sm_M sm_I165 := sm_ckM_ok (hs := sm_H165) (hm := sm_Hs.getD 165 (0, 0, 0, 0)) (by decide +kernel) (sm_ch_in 5 (List.mem_of_getElem? (i := 98) rfl))
set_option maxRecDepth 100000 in
theorem sm_c166 : sm_mok sm_M sm_I166 := sm_ckM_ok (hs := sm_H166) (hm := sm_Hs.getD 166 (0, 0, 0, 0)) (by decide +kernel) (sm_ch_in 2 (List.mem_of_getElem? (i := 225) rfl))
set_option maxRecDepth 100000 in
theorem sm_c167 : sm_mok sm_M sm_I167 := sm_ckM_ok (hs := sm_H167) (hm := sm_Hs.getD 167 (0, 0, 0, 0)) (by decide +kernel) (sm_ch_in 2 (List.mem_of_getElem? (i := 228) rfl))
set_option maxRecDepth 100000 in
theorem sm_c168 : sm_mok sm_M sm_I168 := sm_ckM_ok (hs := sm_H168) (hm := sm_Hs.getD 168 (0, 0, 0, 0)) (by decide +kernel) (sm_ch_in 4 (List.mem_of_getElem? (i := 152) rfl))
set_option maxRecDepth 100000 in
theorem sm_c169 : sm_mok sm_M sm_I169 := sm_ckM_ok (hs := sm_H169) (hm := sm_Hs.getD 169 (0, 0, 0, 0)) (by decide +kernel) (sm_ch_in 4 (List.mem_of_getElem? (i := 239) rfl))
set_option maxRecDepth 100000 in
theorem sm_c170 : sm_mok sm_M sm_I170 := sm_ckM_ok (hs := sm_H170) (hm := sm_Hs.getD 170 (0, 0, 0, 0)) (by decide +kernel) (sm_ch_in 4 (List.mem_of_getElem? (i := 61) rfl))
set_option maxRecDepth 100000 in
theorem sm_c171 : sm_mok sm_M sm_I171 := sm_ckM_ok (hs := sm_H171) (hm := sm_Hs.getD 171 (0, 0, 0, 0)) (by decide +kernel) (sm_ch_in 4 (List.mem_of_getElem? (i := 8) rfl))
set_option maxRecDepth 100000 in
theorem sm_c172 : sm_mok sm_M sm_I172 := sm_ckM_ok (hs := sm_H172) (hm := sm_Hs.getD 172 (0, 0, 0, 0)) (by decide +kernel) (sm_ch_in 3 (List.mem_of_getElem? (i := 233) rfl))
set_option maxRecDepth 100000 in
theorem sm_c173 : sm_mok sm_M sm_I173 := sm_ckM_ok (hs := sm_H173) (hm := sm_Hs.getD 173 (0, 0, 0, 0)) (by decide +kernel) (sm_ch_in 5 (List.mem_of_getElem? (i := 193) rfl))
set_option maxRecDepth 100000 in
theorem sm_c174 : sm_mok sm_M sm_I174 := sm_ckM_ok (hs := sm_H174) (hm := sm_Hs.getD 174 (0, 0, 0, 0)) (by decide +kernel) (sm_ch_in 6 (List.mem_of_getElem? (i := 138) rfl))
set_option maxRecDepth 100000 in
theorem sm_c175 : sm_mok sm_M sm_I175 := sm_ckM_ok (hs := sm_H175) (hm := sm_Hs.getD 175 (0, 0, 0, 0)) (by decide +kernel) (sm_ch_in 7 (List.mem_of_getElem? (i := 22) rfl))
set_option maxRecDepth 100000 in
theorem sm_c176 : sm_mok sm_M sm_I176 := sm_ckM_ok (hs := sm_H176) (hm := sm_Hs.getD 176 (0, 0, 0, 0)) (by decide +kernel) (sm_ch_in 7 (List.mem_of_getElem? (i := 197) rfl))
set_option maxRecDepth 100000 in
theorem sm_c177 : sm_mok sm_M sm_I177 := sm_ckM_ok (hs := sm_H177) (hm := sm_Hs.getD 177 (0, 0, 0, 0)) (by decide +kernel) (sm_ch_in 6 (List.mem_of_getElem? (i := 134) rfl))
set_option maxRecDepth 100000 in
theorem sm_c178 : sm_mok sm_M sm_I178 := sm_ckM_ok (hs := sm_H178) (hm := sm_Hs.getD 178 (0, 0, 0, 0)) (by decide +kernel) (sm_ch_in 7 (List.mem_of_getElem? (i := 18) rfl))
set_option maxRecDepth 100000 in
theorem sm_c179 : sm_mok sm_M sm_I179 := sm_ckM_ok (hs := sm_H179) (hm := sm_Hs.getD 179 (0, 0, 0, 0)) (by decide +kernel) (sm_ch_in 7 (List.mem_of_getElem? (i := 31) rfl))
set_option maxRecDepth 100000 in
theorem sm_c180 : sm_mok sm_M sm_I180 := sm_ckM_ok (hs := sm_H180) (hm := sm_Hs.getD 180 (0, 0, 0, 0)) (by decide +kernel) (sm_ch_in 6 (List.mem_of_getElem? (i := 158) rfl))
set_option maxRecDepth 100000 in
theorem sm_c181 : sm_mok sm_M sm_I181 := sm_ckM_ok (hs := sm_H181) (hm := sm_Hs.getD 181 (0, 0, 0, 0)) (by decide +kernel) (sm_ch_in 6 (List.mem_of_getElem? (i := 130) rfl))
set_option maxRecDepth 100000 in
theorem sm_c182 : sm_mok sm_M sm_I182 := sm_ckM_ok (hs := sm_H182) (hm := sm_Hs.getD 182 (0, 0, 0, 0)) (by decide +kernel) (sm_ch_in 6 (List.mem_of_getElem? (i := 142) rfl))
set_option maxRecDepth 100000 in
theorem sm_c183 : sm_mok sm_M sm_I183 := sm_ckM_ok (hs := sm_H183) (hm := sm_Hs.getD 183 (0, 0, 0, 0)) (by decide +kernel) (sm_ch_in 6 (List.mem_of_getElem? (i := 146) rfl))
set_option maxRecDepth 100000 in
theorem sm_c184 : sm_mok sm_M sm_I184 := sm_ckM_ok (hs := sm_H184) (hm := sm_Hs.getD 184 (0, 0, 0, 0)) (by decide +kernel) (sm_ch_in 6 (List.mem_of_getElem? (i := 150) rfl))
set_option maxRecDepth 100000 in
theorem sm_c185 : sm_mok sm_M sm_I185 := sm_ckM_ok (hs := sm_H185) (hm := sm_Hs.getD 185 (0, 0, 0, 0)) (by decide +kernel) (sm_ch_in 6 (List.mem_of_getElem? (i := 154) rfl))
set_option maxRecDepth 100000 in
theorem sm_c186 : sm_mok sm_M sm_I186 := sm_ckM_ok (hs := sm_H186) (hm := sm_Hs.getD 186 (0, 0, 0, 0)) (by decide +kernel) (sm_ch_in 6 (List.mem_of_getElem? (i := 162) rfl))
set_option maxRecDepth 100000 in
theorem sm_c187 : sm_mok sm_M sm_I187 := sm_ckM_ok (hs := sm_H187) (hm := sm_Hs.getD 187 (0, 0, 0, 0)) (by decide +kernel) (sm_ch_in 6 (List.mem_of_getElem? (i := 170) rfl))
set_option maxRecDepth 100000 in
theorem sm_c188 : sm_mok sm_M sm_I188 := sm_ckM_ok (hs := sm_H188) (hm := sm_Hs.getD 188 (0, 0, 0, 0)) (by decide +kernel) (sm_ch_in 6 (List.mem_of_getElem? (i := 166) rfl))
set_option maxRecDepth 100000 in
theorem sm_c189 : sm_mok sm_M sm_I189 := sm_ckM_ok (hs := sm_H189) (hm := sm_Hs.getD 189 (0, 0, 0, 0)) (by decide +kernel) (sm_ch_in 6 (List.mem_of_getElem? (i := 190) rfl))
set_option maxRecDepth 100000 in
theorem sm_c190 : sm_mok sm_M sm_I190 := sm_ckM_ok (hs := sm_H190) (hm := sm_Hs.getD 190 (0, 0, 0, 0)) (by decide +kernel) (sm_ch_in 6 (List.mem_of_getElem? (i := 202) rfl))
set_option maxRecDepth 100000 in
theorem sm_c191 : sm_mok sm_M sm_I191 := sm_ckM_ok (hs := sm_H191) (hm := sm_Hs.getD 191 (0, 0, 0, 0)) (by decide +kernel) (sm_ch_in 6 (List.mem_of_getElem? (i := 198) rfl))
set_option maxRecDepth 100000 in
theorem sm_c192 : sm_mok sm_M sm_I192 := sm_ckM_ok (hs := sm_H192) (hm := sm_Hs.getD 192 (0, 0, 0, 0)) (by decide +kernel) (sm_ch_in 6 (List.mem_of_getElem? (i := 214) rfl))
set_option maxRecDepth 100000 in
theorem sm_c193 : sm_mok sm_M sm_I193 := sm_ckM_ok (hs := sm_H193) (hm := sm_Hs.getD 193 (0, 0, 0, 0)) (by decide +kernel) (sm_ch_in 6 (List.mem_of_getElem? (i := 210) rfl))
set_option maxRecDepth 100000 in
theorem sm_c194 : sm_mok sm_M sm_I194 := sm_ckM_ok (hs := sm_H194) (hm := sm_Hs.getD 194 (0, 0, 0, 0)) (by decide +kernel) (sm_ch_in 6 (List.mem_of_getElem? (i := 218) rfl))
set_option maxRecDepth 100000 in
theorem sm_c195 : sm_mok sm_M sm_I195 := sm_ckM_ok (hs := sm_H195) (hm := sm_Hs.getD 195 (0, 0, 0, 0)) (by decide +kernel) (sm_ch_in 6 (List.mem_of_getElem? (i := 230) rfl))
set_option maxRecDepth 100000 in
theorem sm_c196 : sm_mok sm_M sm_I196 := sm_ckM_ok (hs := sm_H196) (hm := sm_Hs.getD 196 (0, 0, 0, 0)) (by decide +kernel) (sm_ch_in 6 (List.mem_of_getElem? (i := 206) rfl))
set_option maxRecDepth 100000 in
theorem sm_c197 : sm_mok sm_M sm_I197 := sm_ckM_ok (hs := sm_H197) (hm := sm_Hs.getD 197 (0, 0, 0, 0)) (by decide +kernel) (sm_ch_in 6 (List.mem_of_getElem? (i := 234) rfl))
set_option maxRecDepth 100000 in
theorem sm_c198 : sm_mok sm_M sm_I198 := sm_ckM_ok (hs := sm_H198) (hm := sm_Hs.getD 198 (0, 0, 0, 0)) (by decide +kernel) (sm_ch_in 6 (List.mem_of_getElem? (i := 238) rfl))
set_option maxRecDepth 100000 in
theorem sm_c199 : sm_mok sm_M sm_I199 := sm_ckM_ok (hs := sm_H199) (hm := sm_Hs.getD 199 (0, 0, 0, 0)) (by decide +kernel) (sm_ch_in 7 (List.mem_of_getElem? (i := 2) rfl))
set_option maxRecDepth 100000 in
theorem sm_c200 : sm_mok sm_M sm_I200 := sm_ckM_ok (hs := sm_H200) (hm := sm_Hs.getD 200 (0, 0, 0, 0)) (by decide +kernel) (sm_ch_in 7 (List.mem_of_getElem? (i := 6) rfl))
set_option maxRecDepth 100000 in
theorem sm_c201 : sm_mok sm_M sm_I201 := sm_ckM_ok (hs := sm_H201) (hm := sm_Hs.getD 201 (0, 0, 0, 0)) (by decide +kernel) (sm_ch_in 6 (List.mem_of_getElem? (i := 226) rfl))
set_option maxRecDepth 100000 in
theorem sm_c202 : sm_mok sm_M sm_I202 := sm_ckM_ok (hs := sm_H202) (hm := sm_Hs.getD 202 (0, 0, 0, 0)) (by decide +kernel) (sm_ch_in 6 (List.mem_of_getElem? (i := 222) rfl))
set_option maxRecDepth 100000 in
theorem sm_c203 : sm_mok sm_M sm_I203 := sm_ckM_ok (hs := sm_H203) (hm := sm_Hs.getD 203 (0, 0, 0, 0)) (by decide +kernel) (sm_ch_in 6 (List.mem_of_getElem? (i := 194) rfl))
set_option maxRecDepth 100000 in
theorem sm_c204 : sm_mok sm_M sm_I204 := sm_ckM_ok (hs := sm_H204) (hm := sm_Hs.getD 204 (0, 0, 0, 0)) (by decide +kernel) (sm_ch_in 6 (List.mem_of_getElem? (i := 186) rfl))
set_option maxRecDepth 100000 in
theorem sm_c205 : sm_mok sm_M sm_I205 := sm_ckM_ok (hs := sm_H205) (hm := sm_Hs.getD 205 (0, 0, 0, 0)) (by decide +kernel) (sm_ch_in 7 (List.mem_of_getElem? (i := 10) rfl))
set_option maxRecDepth 100000 in
theorem sm_c206 : sm_mok sm_M sm_I206 := sm_ckM_ok (hs := sm_H206) (hm := sm_Hs.getD 206 (0, 0, 0, 0)) (by decide +kernel) (sm_ch_in 7 (List.mem_of_getElem? (i := 14) rfl))
set_option maxRecDepth 100000 in
theorem sm_c207 : sm_mok sm_M sm_I207 := sm_ckM_ok (hs := sm_H207) (hm := sm_Hs.getD 207 (0, 0, 0, 0)) (by decide +kernel) (sm_ch_in 7 (List.mem_of_getElem? (i := 27) rfl))
set_option maxRecDepth 100000 in
theorem sm_c208 : sm_mok sm_M sm_I208 := sm_ckM_ok (hs := sm_H208) (hm := sm_Hs.getD 208 (0, 0, 0, 0)) (by decide +kernel) (sm_ch_in 7 (List.mem_of_getElem? (i := 109) rfl))
set_option maxRecDepth 100000 in
theorem sm_c209 : sm_mok sm_M sm_I209 := sm_ckM_ok (hs := sm_H209) (hm := sm_Hs.getD 209 (0, 0, 0, 0)) (by decide +kernel) (sm_ch_in 7 (List.mem_of_getElem? (i := 43) rfl))
set_option maxRecDepth 100000 in
theorem sm_c210 : sm_mok sm_M sm_I210 := sm_ckM_ok (hs := sm_H210) (hm := sm_Hs.getD 210 (0, 0, 0, 0)) (by decide +kernel) (sm_ch_in 7 (List.mem_of_getElem? (i := 39) rfl))
set_option maxRecDepth 100000 in
theorem sm_c211 : sm_mok sm_M sm_I211 := sm_ckM_ok (hs := sm_H211) (hm := sm_Hs.getD 211 (0, 0, 0, 0)) (by decide +kernel) (sm_ch_in 7 (List.mem_of_getElem? (i := 35) rfl))
set_option maxRecDepth 100000 in
theorem sm_c212 : sm_mok sm_M sm_I212 := sm_ckM_ok (hs := sm_H212) (hm := sm_Hs.getD 212 (0, 0, 0, 0)) (by decide +kernel) (sm_ch_in 7 (List.mem_of_getElem? (i := 49) rfl))
set_option maxRecDepth 100000 in
theorem sm_c213 : sm_mok sm_M sm_I213 := sm_ckM_ok (hs := sm_H213) (hm := sm_Hs.getD 213 (0, 0, 0, 0)) (by decide +kernel) (sm_ch_in 7 (List.mem_of_getElem? (i := 53) rfl))
set_option maxRecDepth 100000 in
theorem sm_c214 : sm_mok sm_M sm_I214 := sm_ckM_ok (hs := sm_H214) (hm := sm_Hs.getD 214 (0, 0, 0, 0)) (by decide +kernel) (sm_ch_in 6 (List.mem_of_getElem? (i := 182) rfl))
set_option maxRecDepth 100000 in
theorem sm_c215 : sm_mok sm_M sm_I215 := sm_ckM_ok (hs := sm_H215) (hm := sm_Hs.getD 215 (0, 0, 0, 0)) (by decide +kernel) (sm_ch_in 7 (List.mem_of_getElem? (i := 57) rfl))
set_option maxRecDepth 100000 in
theorem sm_c216 : sm_mok sm_M sm_I216 := sm_ckM_ok (hs := sm_H216) (hm := sm_Hs.getD 216 (0, 0, 0, 0)) (by decide +kernel) (sm_ch_in 7 (List.mem_of_getElem? (i := 61) rfl))
set_option maxRecDepth 100000 in
theorem sm_c217 : sm_mok sm_M sm_I217 := sm_ckM_ok (hs := sm_H217) (hm := sm_Hs.getD 217 (0, 0, 0, 0)) (by decide +kernel) (sm_ch_in 6 (List.mem_of_getElem? (i := 178) rfl))
set_option maxRecDepth 100000 in
theorem sm_c218 : sm_mok sm_M sm_I218 := sm_ckM_ok (hs := sm_H218) (hm := sm_Hs.getD 218 (0, 0, 0, 0)) (by decide +kernel) (sm_ch_in 6 (List.mem_of_getElem? (i := 174) rfl))
set_option maxRecDepth 100000 in
theorem sm_c219 : sm_mok sm_M sm_I219 := sm_ckM_ok (hs := sm_H219) (hm := sm_Hs.getD 219 (0, 0, 0, 0)) (by decide +kernel) (sm_ch_in 7 (List.mem_of_getElem? (i := 77) rfl))
set_option maxRecDepth 100000 in
theorem sm_c220 : sm_mok sm_M sm_I220 := sm_ckM_ok (hs := sm_H220) (hm := sm_Hs.getD 220 (0, 0, 0, 0)) (by decide +kernel) (sm_ch_in 7 (List.mem_of_getElem? (i := 65) rfl))
set_option maxRecDepth 100000 in
theorem sm_c221 : sm_mok sm_M sm_I221 := sm_ckM_ok (hs := sm_H221) (hm := sm_Hs.getD 221 (0, 0, 0, 0)) (by decide +kernel) (sm_ch_in 7 (List.mem_of_getElem? (i := 69) rfl))
set_option maxRecDepth 100000 in
theorem sm_c222 : sm_mok sm_M sm_I222 := sm_ckM_ok (hs := sm_H222) (hm := sm_Hs.getD 222 (0, 0, 0, 0)) (by decide +kernel) (sm_ch_in 7 (List.mem_of_getElem? (i := 73) rfl))
set_option maxRecDepth 100000 in
theorem sm_c223 : sm_mok sm_M sm_I223 := sm_ckM_ok (hs := sm_H223) (hm := sm_Hs.getD 223 (0, 0, 0, 0)) (by decide +kernel) (sm_ch_in 7 (List.mem_of_getElem? (i := 89) rfl))
set_option maxRecDepth 100000 in
theorem sm_c224 : sm_mok sm_M sm_I224 := sm_ckM_ok (hs := sm_H224) (hm := sm_Hs.getD 224 (0, 0, 0, 0)) (by decide +kernel) (sm_ch_in 7 (List.mem_of_getElem? (i := 85) rfl))
set_option maxRecDepth 100000 in
theorem sm_c225 : sm_mok sm_M sm_I225 := sm_ckM_ok (hs := sm_H225) (hm := sm_Hs.getD 225 (0, 0, 0, 0)) (by decide +kernel) (sm_ch_in 7 (List.mem_of_getElem? (i := 81) rfl))
set_option maxRecDepth 100000 in
theorem sm_c226 : sm_mok sm_M sm_I226 := sm_ckM_ok (hs := sm_H226) (hm := sm_Hs.getD 226 (0, 0, 0, 0)) (by decide +kernel) (sm_ch_in 7 (List.mem_of_getElem? (i := 101) rfl))
set_option maxRecDepth 100000 in
theorem sm_c227 : sm_mok sm_M sm_I227 := sm_ckM_ok (hs := sm_H227) (hm := sm_Hs.getD 227 (0, 0, 0, 0)) (by decide +kernel) (sm_ch_in 7 (List.mem_of_getElem? (i := 105) rfl))
set_option maxRecDepth 100000 in
theorem sm_c228 : sm_mok sm_M sm_I228 := sm_ckM_ok (hs := sm_H228) (hm := sm_Hs.getD 228 (0, 0, 0, 0)) (by decide +kernel) (sm_ch_in 7 (List.mem_of_getElem? (i := 97) rfl))
set_option maxRecDepth 100000 in
theorem sm_c229 : sm_mok sm_M sm_I229 := sm_ckM_ok (hs := sm_H229) (hm := sm_Hs.getD 229 (0, 0, 0, 0)) (by decide +kernel) (sm_ch_in 7 (List.mem_of_getElem? (i := 113) rfl))
set_option maxRecDepth 100000 in
theorem sm_c230 : sm_mok sm_M sm_I230 := sm_ckM_ok (hs := sm_H230) (hm := sm_Hs.getD 230 (0, 0, 0, 0)) (by decide +kernel) (sm_ch_in 7 (List.mem_of_getElem? (i := 93) rfl))
set_option maxRecDepth 100000 in
theorem sm_c231 : sm_mok sm_M sm_I231 := sm_ckM_ok (hs := sm_H231) (hm := sm_Hs.getD 231 (0, 0, 0, 0)) (by decide +kernel) (sm_ch_in 7 (List.mem_of_getElem? (i := 117) rfl))
set_option maxRecDepth 100000 in
theorem sm_c232 : sm_mok sm_M sm_I232 := sm_ckM_ok (hs := sm_H232) (hm := sm_Hs.getD 232 (0, 0, 0, 0)) (by decide +kernel) (sm_ch_in 7 (List.mem_of_getElem? (i := 125) rfl))
set_option maxRecDepth 100000 in
theorem sm_c233 : sm_mok sm_M sm_I233 := sm_ckM_ok (hs := sm_H233) (hm := sm_Hs.getD 233 (0, 0, 0, 0)) (by decide +kernel) (sm_ch_in 7 (List.mem_of_getElem? (i := 121) rfl))
set_option maxRecDepth 100000 in
theorem sm_c234 : sm_mok sm_M sm_I234 := sm_ckM_ok (hs := sm_H234) (hm := sm_Hs.getD 234 (0, 0, 0, 0)) (by decide +kernel) (sm_ch_in 7 (List.mem_of_getElem? (i := 133) rfl))
set_option maxRecDepth 100000 in
theorem sm_c235 : sm_mok sm_M sm_I235 := sm_ckM_ok (hs := sm_H235) (hm := sm_Hs.getD 235 (0, 0, 0, 0)) (by decide +kernel) (sm_ch_in 7 (List.mem_of_getElem? (i := 137) rfl))
set_option maxRecDepth 100000 in
theorem sm_c236 : sm_mok sm_M sm_I236 := sm_ckM_ok (hs := sm_H236) (hm := sm_Hs.getD 236 (0, 0, 0, 0)) (by decide +kernel) (sm_ch_in 7 (List.mem_of_getElem? (i := 165) rfl))
set_option maxRecDepth 100000 in
theorem sm_c237 : sm_mok sm_M sm_I237 := sm_ckM_ok (hs := sm_H237) (hm := sm_Hs.getD 237 (0, 0, 0, 0)) (by decide +kernel) (sm_ch_in 7 (List.mem_of_getElem? (i := 161) rfl))
set_option maxRecDepth 100000 in
theorem sm_c238 : sm_mok sm_M sm_I238 := sm_ckM_ok (hs := sm_H238) (hm := sm_Hs.getD 238 (0, 0, 0, 0)) (by decide +kernel) (sm_ch_in 7 (List.mem_of_getElem? (i := 153) rfl))
set_option maxRecDepth 100000 in
theorem sm_c239 : sm_mok sm_M sm_I239 := sm_ckM_ok (hs := sm_H239) (hm := sm_Hs.getD 239 (0, 0, 0, 0)) (by decide +kernel) (sm_ch_in 7 (List.mem_of_getElem? (i := 145) rfl))
set_option maxRecDepth 100000 in
theorem sm_c240 : sm_mok sm_M sm_I240 := sm_ckM_ok (hs := sm_H240) (hm := sm_Hs.getD 240 (0, 0, 0, 0)) (by decide +kernel) (sm_ch_in 7 (List.mem_of_getElem? (i := 157) rfl))
set_option maxRecDepth 100000 in
theorem sm_c241 : sm_mok sm_M sm_I241 := sm_ckM_ok (hs := sm_H241) (hm := sm_Hs.getD 241 (0, 0, 0, 0)) (by decide +kernel) (sm_ch_in 7 (List.mem_of_getElem? (i := 141) rfl))
set_option maxRecDepth 100000 in
theorem sm_c242 : sm_mok sm_M sm_I242 := sm_ckM_ok (hs := sm_H242) (hm := sm_Hs.getD 242 (0, 0, 0, 0)) (by decide +kernel) (sm_ch_in 7 (List.mem_of_getElem? (i := 129) rfl))
set_option maxRecDepth 100000 in
theorem sm_c243 : sm_mok sm_M sm_I243 := sm_ckM_ok (hs := sm_H243) (hm := sm_Hs.getD 243 (0, 0, 0, 0)) (by decide +kernel) (sm_ch_in 7 (List.mem_of_getElem? (i := 149) rfl))
set_option maxRecDepth 100000 in
theorem sm_c244 : sm_mok sm_M sm_I244 := sm_ckM_ok (hs := sm_H244) (hm := sm_Hs.getD 244 (0, 0, 0, 0)) (by decide +kernel) (sm_ch_in 7 (List.mem_of_getElem? (i := 173) rfl))
set_option maxRecDepth 100000 in
theorem sm_c245 : sm_mok sm_M sm_I245 := sm_ckM_ok (hs := sm_H245) (hm := sm_Hs.getD 245 (0, 0, 0, 0)) (by decide +kernel) (sm_ch_in 7 (List.mem_of_getElem? (i := 169) rfl))
set_option maxRecDepth 100000 in
theorem sm_c246 : sm_mok sm_M sm_I246 := sm_ckM_ok (hs := sm_H246) (hm := sm_Hs.getD 246 (0, 0, 0, 0)) (by decide +kernel) (sm_ch_in 7 (List.mem_of_getElem? (i := 177) rfl))
set_option maxRecDepth 100000 in
theorem sm_c247 : sm_mok sm_M sm_I247 := sm_ckM_ok (hs := sm_H247) (hm := sm_Hs.getD 247 (0, 0, 0, 0)) (by decide +kernel) (sm_ch_in 7 (List.mem_of_getElem? (i := 185) rfl))
set_option maxRecDepth 100000 in
theorem sm_c248 : sm_mok sm_M sm_I248 := sm_ckM_ok (hs := sm_H248) (hm := sm_Hs.getD 248 (0, 0, 0, 0)) (by decide +kernel) (sm_ch_in 7 (List.mem_of_getElem? (i := 181) rfl))
set_option maxRecDepth 100000 in
theorem sm_c249 : sm_mok sm_M sm_I249 := sm_ckM_ok (hs := sm_H249) (hm := sm_Hs.getD 249 (0, 0, 0, 0)) (by decide +kernel) (sm_ch_in 7 (List.mem_of_getElem? (i := 189) rfl))
set_option maxRecDepth 100000 in
theorem sm_c250 : sm_mok sm_M sm_I250 := sm_ckM_ok (hs := sm_H250) (hm := sm_Hs.getD 250 (0, 0, 0, 0)) (by decide +kernel) (sm_ch_in 7 (List.mem_of_getElem? (i := 193) rfl))
set_option maxRecDepth 100000 in
theorem sm_c251 : sm_mok sm_M sm_I251 := sm_ckM_ok (hs := sm_H251) (hm := sm_Hs.getD 251 (0, 0, 0, 0)) (by decide +kernel) (sm_ch_in 7 (List.mem_of_getElem? (i := 201) rfl))
set_option maxRecDepth 100000 in
theorem sm_c252 : sm_mok sm_M sm_I252 := sm_ckM_ok (hs := sm_H252) (hm := sm_Hs.getD 252 (0, 0, 0, 0)) (by decide +kernel) (sm_ch_in 7 (List.mem_of_getElem? (i := 205) rfl))
set_option maxRecDepth 100000 in
theorem sm_c253 : sm_mok sm_M sm_I253 := sm_ckM_ok (hs := sm_H253) (hm := sm_Hs.getD 253 (0, 0, 0, 0)) (by decide +kernel) (sm_ch_in 7 (List.mem_of_getElem? (i := 213) rfl))
set_option maxRecDepth 100000 in
theorem sm_c254 : sm_mok sm_M sm_I254 := sm_ckM_ok (hs := sm_H254) (hm := sm_Hs.getD 254 (0, 0, 0, 0)) (by decide +kernel) (sm_ch_in 7 (List.mem_of_getElem? (i := 226) rfl))
set_option maxRecDepth 100000 in
theorem sm_c255 : sm_mok sm_M sm_I255 := sm_ckM_ok (hs := sm_H255) (hm := sm_Hs.getD 255 (0, 0, 0, 0)) (by decide +kernel) (sm_ch_in 7 (List.mem_of_getElem? (i := 222) rfl))
set_option maxRecDepth 100000 in
theorem sm_c256 : sm_mok sm_M sm_I256 := sm_ckM_ok (hs := sm_H256) (hm := sm_Hs.getD 256 (0, 0, 0, 0)) (by decide +kernel) (sm_ch_in 7 (List.mem_of_getElem? (i := 218) rfl))
set_option maxRecDepth 100000 in
theorem sm_c257 : sm_mok sm_M sm_I257 := sm_ckM_ok (hs := sm_H257) (hm := sm_Hs.getD 257 (0, 0, 0, 0)) (by decide +kernel) (sm_ch_in 7 (List.mem_of_getElem? (i := 230) rfl))
set_option maxRecDepth 100000 in
theorem sm_c258 : sm_mok sm_M sm_I258 := sm_ckM_ok (hs := sm_H258) (hm := sm_Hs.getD 258 (0, 0, 0, 0)) (by decide +kernel) (sm_ch_in 7 (List.mem_of_getElem? (i := 209) rfl))
set_option maxRecDepth 100000 in
theorem sm_c259 : sm_mok sm_M sm_I259 := sm_ckM_ok (hs := sm_H259) (hm := sm_Hs.getD 259 (0, 0, 0, 0)) (by decide +kernel) (sm_ch_in 7 (List.mem_of_getElem? (i := 238) rfl))
set_option maxRecDepth 100000 in
theorem sm_c260 : sm_mok sm_M sm_I260 := sm_ckM_ok (hs := sm_H260) (hm := sm_Hs.getD 260 (0, 0, 0, 0)) (by decide +kernel) (sm_ch_in 7 (List.mem_of_getElem? (i := 234) rfl))
set_option maxRecDepth 100000 in
theorem sm_c261 : sm_mok sm_M sm_I261 := sm_ckM_ok (hs := sm_H261) (hm := sm_Hs.getD 261 (0, 0, 0, 0)) (by decide +kernel) (sm_ch_in 8 (List.mem_of_getElem? (i := 14) rfl))
set_option maxRecDepth 100000 in
theorem sm_c262 : sm_mok sm_M sm_I262 := sm_ckM_ok (hs := sm_H262) (hm := sm_Hs.getD 262 (0, 0, 0, 0)) (by decide +kernel) (sm_ch_in 8 (List.mem_of_getElem? (i := 10) rfl))
set_option maxRecDepth 100000 in
theorem sm_c263 : sm_mok sm_M sm_I263 := sm_ckM_ok (hs := sm_H263) (hm := sm_Hs.getD 263 (0, 0, 0, 0)) (by decide +kernel) (sm_ch_in 8 (List.mem_of_getElem? (i := 6) rfl))
set_option maxRecDepth 100000 in
theorem sm_c264 : sm_mok sm_M sm_I264 := sm_ckM_ok (hs := sm_H264) (hm := sm_Hs.getD 264 (0, 0, 0, 0)) (by decide +kernel) (sm_ch_in 8 (List.mem_of_getElem? (i := 2) rfl))
set_option maxRecDepth 100000 in
theorem sm_c265 : sm_mok sm_M sm_I265 := sm_ckM_ok (hs := sm_H265) (hm := sm_Hs.getD 265 (0, 0, 0, 0)) (by decide +kernel) (sm_ch_in 8 (List.mem_of_getElem? (i := 18) rfl))
set_option maxRecDepth 100000 in
theorem sm_c266 : sm_mok sm_M sm_I266 := sm_ckM_ok (hs := sm_H266) (hm := sm_Hs.getD 266 (0, 0, 0, 0)) (by decide +kernel) (sm_ch_in 8 (List.mem_of_getElem? (i := 26) rfl))
set_option maxRecDepth 100000 in
theorem sm_c267 : sm_mok sm_M sm_I267 := sm_ckM_ok (hs := sm_H267) (hm := sm_Hs.getD 267 (0, 0, 0, 0)) (by decide +kernel) (sm_ch_in 8 (List.mem_of_getElem? (i := 22) rfl))
set_option maxRecDepth 100000 in
theorem sm_c268 : sm_mok sm_M sm_I268 := sm_ckM_ok (hs := sm_H268) (hm := sm_Hs.getD 268 (0, 0, 0, 0)) (by decide +kernel) (sm_ch_in 8 (List.mem_of_getElem? (i := 30) rfl))
set_option maxRecDepth 100000 in
theorem sm_c269 : sm_mok sm_M sm_I269 := sm_ckM_ok (hs := sm_H269) (hm := sm_Hs.getD 269 (0, 0, 0, 0)) (by decide +kernel) (sm_ch_in 8 (List.mem_of_getElem? (i := 39) rfl))
set_option maxRecDepth 100000 in
theorem sm_c270 : sm_mok sm_M sm_I270 := sm_ckM_ok (hs := sm_H270) (hm := sm_Hs.getD 270 (0, 0, 0, 0)) (by decide +kernel) (sm_ch_in 8 (List.mem_of_getElem? (i := 34) rfl))
set_option maxRecDepth 100000 in
theorem sm_c271 : sm_mok sm_M sm_I271 := sm_ckM_ok (hs := sm_H271) (hm := sm_Hs.getD 271 (0, 0, 0, 0)) (by decide +kernel) (sm_ch_in 8 (List.mem_of_getElem? (i := 53) rfl))
set_option maxRecDepth 100000 in
theorem sm_c272 : sm_mok sm_M sm_I272 := sm_ckM_ok (hs := sm_H272) (hm := sm_Hs.getD 272 (0, 0, 0, 0)) (by decide +kernel) (sm_ch_in 8 (List.mem_of_getElem? (i := 49) rfl))
set_option maxRecDepth 100000 in
theorem sm_c273 : sm_mok sm_M sm_I273 := sm_ckM_ok (hs := sm_H273) (hm := sm_Hs.getD 273 (0, 0, 0, 0)) (by decide +kernel) (sm_ch_in 8 (List.mem_of_getElem? (i := 57) rfl))
set_option maxRecDepth 100000 in
theorem sm_c274 : sm_mok sm_M sm_I274 := sm_ckM_ok (hs := sm_H274) (hm := sm_Hs.getD 274 (0, 0, 0, 0)) (by decide +kernel) (sm_ch_in 8 (List.mem_of_getElem? (i := 61) rfl))
set_option maxRecDepth 100000 in
theorem sm_c275 : sm_mok sm_M sm_I275 := sm_ckM_ok (hs := sm_H275) (hm := sm_Hs.getD 275 (0, 0, 0, 0)) (by decide +kernel) (sm_ch_in 8 (List.mem_of_getElem? (i := 45) rfl))
set_option maxRecDepth 100000 in
theorem sm_c276 : sm_mok sm_M sm_I276 := sm_ckM_ok (hs := sm_H276) (hm := sm_Hs.getD 276 (0, 0, 0, 0)) (by decide +kernel) (sm_ch_in 8 (List.mem_of_getElem? (i := 65) rfl))
set_option maxRecDepth 100000 in
theorem sm_c277 : sm_mok sm_M sm_I277 := sm_ckM_ok (hs := sm_H277) (hm := sm_Hs.getD 277 (0, 0, 0, 0)) (by decide +kernel) (sm_ch_in 8 (List.mem_of_getElem? (i := 77) rfl))
set_option maxRecDepth 100000 in
theorem sm_c278 : sm_mok sm_M sm_I278 := sm_ckM_ok (hs := sm_H278) (hm := sm_Hs.getD 278 (0, 0, 0, 0)) (by decide +kernel) (sm_ch_in 8 (List.mem_of_getElem? (i := 73) rfl))
set_option maxRecDepth 100000 in
theorem sm_c279 : sm_mok sm_M sm_I279 := sm_ckM_ok (hs := sm_H279) (hm := sm_Hs.getD 279 (0, 0, 0, 0)) (by decide +kernel) (sm_ch_in 8 (List.mem_of_getElem? (i := 69) rfl))
set_option maxRecDepth 100000 in
theorem sm_c280 : sm_mok sm_M sm_I280 := sm_ckM_ok (hs := sm_H280) (hm := sm_Hs.getD 280 (0, 0, 0, 0)) (by decide +kernel) (sm_ch_in 8 (List.mem_of_getElem? (i := 81) rfl))
set_option maxRecDepth 100000 in
theorem sm_c281 : sm_mok sm_M sm_I281 := sm_ckM_ok (hs := sm_H281) (hm := sm_Hs.getD 281 (0, 0, 0, 0)) (by decide +kernel) (sm_ch_in 8 (List.mem_of_getElem? (i := 85) rfl))
set_option maxRecDepth 100000 in
theorem sm_c282 : sm_mok sm_M sm_I282 := sm_ckM_ok (hs := sm_H282) (hm := sm_Hs.getD 282 (0, 0, 0, 0)) (by decide +kernel) (sm_ch_in 2 (List.mem_of_getElem? (i := 239) rfl))
set_option maxRecDepth 100000 in
theorem sm_c283 : sm_mok sm_M sm_I283 := sm_ckM_ok (hs := sm_H283) (hm := sm_Hs.getD 283 (0, 0, 0, 0)) (by decide +kernel) (sm_ch_in 5 (List.mem_of_getElem? (i := 13) rfl))
set_option maxRecDepth 100000 in
theorem sm_c284 : sm_mok sm_M sm_I284 := sm_ckM_ok (hs := sm_H284) (hm := sm_Hs.getD 284 (0, 0, 0, 0)) (by decide +kernel) (sm_ch_in 3 (List.mem_of_getElem? (i := 230) rfl))
set_option maxRecDepth 100000 in
theorem sm_c285 : sm_mok sm_M sm_I285 := sm_ckM_ok (hs := sm_H285) (hm := sm_Hs.getD 285 (0, 0, 0, 0)) (by decide +kernel) (sm_ch_in 5 (List.mem_of_getElem? (i := 89) rfl))
set_option maxRecDepth 100000 in
theorem sm_c286 : sm_mok sm_M sm_I286 := sm_ckM_ok (hs := sm_H286) (hm := sm_Hs.getD 286 (0, 0, 0, 0)) (by decide +kernel) (sm_ch_in 4 (List.mem_of_getElem? (i := 224) rfl))
set_option maxRecDepth 100000 in
theorem sm_c287 : sm_mok sm_M sm_I287 := sm_ckM_ok (hs := sm_H287) (hm := sm_Hs.getD 287 (0, 0, 0, 0)) (by decide +kernel) (sm_ch_in 5 (List.mem_of_getElem? (i := 16) rfl))
