set_option maxRecDepth 100000 in
theorem sm_c0 : sm_ckM sm_I0 sm_H0 (sm_Hs.getD 0 (0, 0, 0, 0)) = true := by decide +kernel
set_option maxRecDepth 100000 in
theorem sm_c1 : sm_ckM sm_I1 sm_H1 (sm_Hs.getD 1 (0, 0, 0, 0)) = true := by decide +kernel
set_option maxRecDepth 100000 in
theorem sm_c2 : sm_ckM sm_I2 sm_H2 (sm_Hs.getD 2 (0, 0, 0, 0)) = true := by decide +kernel
set_option maxRecDepth 100000 in
theorem sm_c3 : sm_ckM sm_I3 sm_H3 (sm_Hs.getD 3 (0, 0, 0, 0)) = true := by decide +kernel
set_option maxRecDepth 100000 in
theorem sm_c4 : sm_ckM sm_I4 sm_H4 (sm_Hs.getD 4 (0, 0, 0, 0)) = true := by decide +kernel
set_option maxRecDepth 100000 in
theorem sm_c5 : sm_ckM sm_I5 sm_H5 (sm_Hs.getD 5 (0, 0, 0, 0)) = true := by decide +kernel
set_option maxRecDepth 100000 in
theorem sm_c6 : sm_ckM sm_I6 sm_H6 (sm_Hs.getD 6 (0, 0, 0, 0)) = true := by decide +kernel
set_option maxRecDepth 100000 in
theorem sm_c7 : sm_ckM sm_I7 sm_H7 (sm_Hs.getD 7 (0, 0, 0, 0)) = true := by decide +kernel
set_option maxRecDepth 100000 in
theorem sm_c8 : sm_ckM sm_I8 sm_H8 (sm_Hs.getD 8 (0, 0, 0, 0)) = true := by decide +kernel
set_option maxRecDepth 100000 in
theorem sm_c9 : sm_ckM sm_I9 sm_H9 (sm_Hs.getD 9 (0, 0, 0, 0)) = true := by decide +kernel
set_option maxRecDepth 100000 in
theorem sm_c10 : sm_ckM sm_I10 sm_H10 (sm_Hs.getD 10 (0, 0, 0, 0)) = true := by decide +kernel
set_option maxRecDepth 100000 in
theorem sm_c11 : sm_ckM sm_I11 sm_H11 (sm_Hs.getD 11 (0, 0, 0, 0)) = true := by decide +kernel
set_option maxRecDepth 100000 in
theorem sm_c12 : sm_ckM sm_I12 sm_H12 (sm_Hs.getD 12 (0, 0, 0, 0)) = true := by decide +kernel
set_option maxRecDepth 100000 in
theorem sm_c13 : sm_ckM sm_I13 sm_H13 (sm_Hs.getD 13 (0, 0, 0, 0)) = true := by decide +kernel
set_option maxRecDepth 100000 in
theorem sm_c14 : sm_ckM sm_I14 sm_H14 (sm_Hs.getD 14 (0, 0, 0, 0)) = true := by decide +kernel
set_option maxRecDepth 100000 in
theorem sm_c15 : sm_ckM sm_I15 sm_H15 (sm_Hs.getD 15 (0, 0, 0, 0)) = true := by decide +kernel
set_option maxRecDepth 100000 in
theorem sm_c16 : sm_ckM sm_I16 sm_H16 (sm_Hs.getD 16 (0, 0, 0, 0)) = true := by decide +kernel
set_option maxRecDepth 100000 in
theorem sm_c17 : sm_ckM sm_I17 sm_H17 (sm_Hs.getD 17 (0, 0, 0, 0)) = true := by decide +kernel
set_option maxRecDepth 100000 in
theorem sm_c18 : sm_ckM sm_I18 sm_H18 (sm_Hs.getD 18 (0, 0, 0, 0)) = true := by decide +kernel
set_option maxRecDepth 100000 in
theorem sm_c19 : sm_ckM sm_I19 sm_H19 (sm_Hs.getD 19 (0, 0, 0, 0)) = true := by decide +kernel
set_option maxRecDepth 100000 in
theorem sm_c20 : sm_ckM sm_I20 sm_H20 (sm_Hs.getD 20 (0, 0, 0, 0)) = true := by decide +kernel
set_option maxRecDepth 100000 in
theorem sm_c21 : sm_ckM sm_I21 sm_H21 (sm_Hs.getD 21 (0, 0, 0, 0)) = true := by decide +kernel
set_option maxRecDepth 100000 in
theorem sm_c22 : sm_ckM sm_I22 sm_H22 (sm_Hs.getD 22 (0, 0, 0, 0)) = true := by decide +kernel
set_option maxRecDepth 100000 in
theorem sm_c23 : sm_ckM sm_I23 sm_H23 (sm_Hs.getD 23 (0, 0, 0, 0)) = true := by decide +kernel
set_option maxRecDepth 100000 in
theorem sm_c24 : sm_ckM sm_I24 sm_H24 (sm_Hs.getD 24 (0, 0, 0, 0)) = true := by decide +kernel
set_option maxRecDepth 100000 in
theorem sm_c25 : sm_ckM sm_I25 sm_H25 (sm_Hs.getD 25 (0, 0, 0, 0)) = true := by decide +kernel
set_option maxRecDepth 100000 in
theorem sm_c26 : sm_ckM sm_I26 sm_H26 (sm_Hs.getD 26 (0, 0, 0, 0)) = true := by decide +kernel
set_option maxRecDepth 100000 in
theorem sm_c27 : sm_ckM sm_I27 sm_H27 (sm_Hs.getD 27 (0, 0, 0, 0)) = true := by decide +kernel
set_option maxRecDepth 100000 in
theorem sm_c28 : sm_ckM sm_I28 sm_H28 (sm_Hs.getD 28 (0, 0, 0, 0)) = true := by decide +kernel
set_option maxRecDepth 100000 in
theorem sm_c29 : sm_ckM sm_I29 sm_H29 (sm_Hs.getD 29 (0, 0, 0, 0)) = true := by decide +kernel
set_option maxRecDepth 100000 in
theorem sm_c30 : sm_ckM sm_I30 sm_H30 (sm_Hs.getD 30 (0, 0, 0, 0)) = true := by decide +kernel
set_option maxRecDepth 100000 in
theorem sm_c31 : sm_ckM sm_I31 sm_H31 (sm_Hs.getD 31 (0, 0, 0, 0)) = true := by decide +kernel
set_option maxRecDepth 100000 in
theorem sm_c32 : sm_ckM sm_I32 sm_H32 (sm_Hs.getD 32 (0, 0, 0, 0)) = true := by decide +kernel
set_option maxRecDepth 100000 in
theorem sm_c33 : sm_ckM sm_I33 sm_H33 (sm_Hs.getD 33 (0, 0, 0, 0)) = true := by decide +kernel
set_option maxRecDepth 100000 in
theorem sm_c34 : sm_ckM sm_I34 sm_H34 (sm_Hs.getD 34 (0, 0, 0, 0)) = true := by decide +kernel
set_option maxRecDepth 100000 in
theorem sm_c35 : sm_ckM sm_I35 sm_H35 (sm_Hs.getD 35 (0, 0, 0, 0)) = true := by decide +kernel
set_option maxRecDepth 100000 in
theorem sm_c36 : sm_ckM sm_I36 sm_H36 (sm_Hs.getD 36 (0, 0, 0, 0)) = true := by decide +kernel
set_option maxRecDepth 100000 in
theorem sm_c37 : sm_ckM sm_I37 sm_H37 (sm_Hs.getD 37 (0, 0, 0, 0)) = true := by decide +kernel
set_option maxRecDepth 100000 in
theorem sm_c38 : sm_ckM sm_I38 sm_H38 (sm_Hs.getD 38 (0, 0, 0, 0)) = true := by decide +kernel
set_option maxRecDepth 100000 in
theorem sm_c39 : sm_ckM sm_I39 sm_H39 (sm_Hs.getD 39 (0, 0, 0, 0)) = true := by decide +kernel
set_option maxRecDepth 100000 in
theorem sm_c40 : sm_ckM sm_I40 sm_H40 (sm_Hs.getD 40 (0, 0, 0, 0)) = true := by decide +kernel
set_option maxRecDepth 100000 in
theorem sm_c41 : sm_ckM sm_I41 sm_H41 (sm_Hs.getD 41 (0, 0, 0, 0)) = true := by decide +kernel
set_option maxRecDepth 100000 in
theorem sm_c42 : sm_ckM sm_I42 sm_H42 (sm_Hs.getD 42 (0, 0, 0, 0)) = true := by decide +kernel
set_option maxRecDepth 100000 in
theorem sm_c43 : sm_ckM sm_I43 sm_H43 (sm_Hs.getD 43 (0, 0, 0, 0)) = true := by decide +kernel
set_option maxRecDepth 100000 in
theorem sm_c44 : sm_ckM sm_I44 sm_H44 (sm_Hs.getD 44 (0, 0, 0, 0)) = true := by decide +kernel
set_option maxRecDepth 100000 in
theorem sm_c45 : sm_ckM sm_I45 sm_H45 (sm_Hs.getD 45 (0, 0, 0, 0)) = true := by decide +kernel
set_option maxRecDepth 100000 in
theorem sm_c46 : sm_ckM sm_I46 sm_H46 (sm_Hs.getD 46 (0, 0, 0, 0)) = true := by decide +kernel
set_option maxRecDepth 100000 in
theorem sm_c47 : sm_ckM sm_I47 sm_H47 (sm_Hs.getD 47 (0, 0, 0, 0)) = true := by decide +kernel
set_option maxRecDepth 100000 in
theorem sm_c48 : sm_ckM sm_I48 sm_H48 (sm_Hs.getD 48 (0, 0, 0, 0)) = true := by decide +kernel
set_option maxRecDepth 100000 in
theorem sm_c49 : sm_ckM sm_I49 sm_H49 (sm_Hs.getD 49 (0, 0, 0, 0)) = true := by decide +kernel
set_option maxRecDepth 100000 in
theorem sm_c50 : sm_ckM sm_I50 sm_H50 (sm_Hs.getD 50 (0, 0, 0, 0)) = true := by decide +kernel
set_option maxRecDepth 100000 in
theorem sm_c51 : sm_ckM sm_I51 sm_H51 (sm_Hs.getD 51 (0, 0, 0, 0)) = true := by decide +kernel
set_option maxRecDepth 100000 in
theorem sm_c52 : sm_ckM sm_I52 sm_H52 (sm_Hs.getD 52 (0, 0, 0, 0)) = true := by decide +kernel
set_option maxRecDepth 100000 in
theorem sm_c53 : sm_ckM sm_I53 sm_H53 (sm_Hs.getD 53 (0, 0, 0, 0)) = true := by decide +kernel
set_option maxRecDepth 100000 in
theorem sm_c54 : sm_ckM sm_I54 sm_H54 (sm_Hs.getD 54 (0, 0, 0, 0)) = true := by decide +kernel
set_option maxRecDepth 100000 in
theorem sm_c55 : sm_ckM sm_I55 sm_H55 (sm_Hs.getD 55 (0, 0, 0, 0)) = true := by decide +kernel
set_option maxRecDepth 100000 in
theorem sm_c56 : sm_ckM sm_I56 sm_H56 (sm_Hs.getD 56 (0, 0, 0, 0)) = true := by decide +kernel
set_option maxRecDepth 100000 in
theorem sm_c57 : sm_ckM sm_I57 sm_H57 (sm_Hs.getD 57 (0, 0, 0, 0)) = true := by decide +kernel
set_option maxRecDepth 100000 in
theorem sm_c58 : sm_ckM sm_I58 sm_H58 (sm_Hs.getD 58 (0, 0, 0, 0)) = true := by decide +kernel
set_option maxRecDepth 100000 in
theorem sm_c59 : sm_ckM sm_I59 sm_H59 (sm_Hs.getD 59 (0, 0, 0, 0)) = true := by decide +kernel
set_option maxRecDepth 100000 in
theorem sm_c60 : sm_ckM sm_I60 sm_H60 (sm_Hs.getD 60 (0, 0, 0, 0)) = true := by decide +kernel
set_option maxRecDepth 100000 in
theorem sm_c61 : sm_ckM sm_I61 sm_H61 (sm_Hs.getD 61 (0, 0, 0, 0)) = true := by decide +kernel
set_option maxRecDepth 100000 in
theorem sm_c62 : sm_ckM sm_I62 sm_H62 (sm_Hs.getD 62 (0, 0, 0, 0)) = true := by decide +kernel
set_option maxRecDepth 100000 in
theorem sm_c63 : sm_ckM sm_I63 sm_H63 (sm_Hs.getD 63 (0, 0, 0, 0)) = true := by decide +kernel
set_option maxRecDepth 100000 in
theorem sm_c64 : sm_ckM sm_I64 sm_H64 (sm_Hs.getD 64 (0, 0, 0, 0)) = true := by decide +kernel
set_option maxRecDepth 100000 in
theorem sm_c65 : sm_ckM sm_I65 sm_H65 (sm_Hs.getD 65 (0, 0, 0, 0)) = true := by decide +kernel
set_option maxRecDepth 100000 in
theorem sm_c66 : sm_ckM sm_I66 sm_H66 (sm_Hs.getD 66 (0, 0, 0, 0)) = true := by decide +kernel
set_option maxRecDepth 100000 in
theorem sm_c67 : sm_ckM sm_I67 sm_H67 (sm_Hs.getD 67 (0, 0, 0, 0)) = true := by decide +kernel
set_option maxRecDepth 100000 in
theorem sm_c68 : sm_ckM sm_I68 sm_H68 (sm_Hs.getD 68 (0, 0, 0, 0)) = true := by decide +kernel
set_option maxRecDepth 100000 in
theorem sm_c69 : sm_ckM sm_I69 sm_H69 (sm_Hs.getD 69 (0, 0, 0, 0)) = true := by decide +kernel
set_option maxRecDepth 100000 in
theorem sm_c70 : sm_ckM sm_I70 sm_H70 (sm_Hs.getD 70 (0, 0, 0, 0)) = true := by decide +kernel
set_option maxRecDepth 100000 in
theorem sm_c71 : sm_ckM sm_I71 sm_H71 (sm_Hs.getD 71 (0, 0, 0, 0)) = true := by decide +kernel
set_option maxRecDepth 100000 in
theorem sm_c72 : sm_ckM sm_I72 sm_H72 (sm_Hs.getD 72 (0, 0, 0, 0)) = true := by decide +kernel
set_option maxRecDepth 100000 in
theorem sm_c73 : sm_ckM sm_I73 sm_H73 (sm_Hs.getD 73 (0, 0, 0, 0)) = true := by decide +kernel
set_option maxRecDepth 100000 in
theorem sm_c74 : sm_ckM sm_I74 sm_H74 (sm_Hs.getD 74 (0, 0, 0, 0)) = true := by decide +kernel
set_option maxRecDepth 100000 in
theorem sm_c75 : sm_ckM sm_I75 sm_H75 (sm_Hs.getD 75 (0, 0, 0, 0)) = true := by decide +kernel
set_option maxRecDepth 100000 in
theorem sm_c76 : sm_ckM sm_I76 sm_H76 (sm_Hs.getD 76 (0, 0, 0, 0)) = true := by decide +kernel
set_option maxRecDepth 100000 in
theorem sm_c77 : sm_ckM sm_I77 sm_H77 (sm_Hs.getD 77 (0, 0, 0, 0)) = true := by decide +kernel
set_option maxRecDepth 100000 in
theorem sm_c78 : sm_ckM sm_I78 sm_H78 (sm_Hs.getD 78 (0, 0, 0, 0)) = true := by decide +kernel
set_option maxRecDepth 100000 in
theorem sm_c79 : sm_ckM sm_I79 sm_H79 (sm_Hs.getD 79 (0, 0, 0, 0)) = true := by decide +kernel
set_option maxRecDepth 100000 in
theorem sm_c80 : sm_ckM sm_I80 sm_H80 (sm_Hs.getD 80 (0, 0, 0, 0)) = true := by decide +kernel
set_option maxRecDepth 100000 in
theorem sm_c81 : sm_ckM sm_I81 sm_H81 (sm_Hs.getD 81 (0, 0, 0, 0)) = true := by decide +kernel
set_option maxRecDepth 100000 in
theorem sm_c82 : sm_ckM sm_I82 sm_H82 (sm_Hs.getD 82 (0, 0, 0, 0)) = true := by decide +kernel
set_option maxRecDepth 100000 in
theorem sm_c83 : sm_ckM sm_I83 sm_H83 (sm_Hs.getD 83 (0, 0, 0, 0)) = true := by decide +kernel
set_option maxRecDepth 100000 in
theorem sm_c84 : sm_ckM sm_I84 sm_H84 (sm_Hs.getD 84 (0, 0, 0, 0)) = true := by decide +kernel
set_option maxRecDepth 100000 in
theorem sm_c85 : sm_ckM sm_I85 sm_H85 (sm_Hs.getD 85 (0, 0, 0, 0)) = true := by decide +kernel
set_option maxRecDepth 100000 in
theorem sm_c86 : sm_ckM sm_I86 sm_H86 (sm_Hs.getD 86 (0, 0, 0, 0)) = true := by decide +kernel
set_option maxRecDepth 100000 in
theorem sm_c87 : sm_ckM sm_I87 sm_H87 (sm_Hs.getD 87 (0, 0, 0, 0)) = true := by decide +kernel
set_option maxRecDepth 100000 in
theorem sm_c88 : sm_ckM sm_I88 sm_H88 (sm_Hs.getD 88 (0, 0, 0, 0)) = true := by decide +kernel
set_option maxRecDepth 100000 in
theorem sm_c89 : sm_ckM sm_I89 sm_H89 (sm_Hs.getD 89 (0, 0, 0, 0)) = true := by decide +kernel
set_option maxRecDepth 100000 in
theorem sm_c90 : sm_ckM sm_I90 sm_H90 (sm_Hs.getD 90 (0, 0, 0, 0)) = true := by decide +kernel
set_option maxRecDepth 100000 in
theorem sm_c91 : sm_ckM sm_I91 sm_H91 (sm_Hs.getD 91 (0, 0, 0, 0)) = true := by decide +kernel
set_option maxRecDepth 100000 in
theorem sm_c92 : sm_ckM sm_I92 sm_H92 (sm_Hs.getD 92 (0, 0, 0, 0)) = true := by decide +kernel
set_option maxRecDepth 100000 in
theorem sm_c93 : sm_ckM sm_I93 sm_H93 (sm_Hs.getD 93 (0, 0, 0, 0)) = true := by decide +kernel
set_option maxRecDepth 100000 in
theorem sm_c94 : sm_ckM sm_I94 sm_H94 (sm_Hs.getD 94 (0, 0, 0, 0)) = true := by decide +kernel
set_option maxRecDepth 100000 in
theorem sm_c95 : sm_ckM sm_I95 sm_H95 (sm_Hs.getD 95 (0, 0, 0, 0)) = true := by decide +kernel
set_option maxRecDepth 100000 in
theorem sm_c96 : sm_ckM sm_I96 sm_H96 (sm_Hs.getD 96 (0, 0, 0, 0)) = true := by decide +kernel
set_option maxRecDepth 100000 in
theorem sm_c97 : sm_ckM sm_I97 sm_H97 (sm_Hs.getD 97 (0, 0, 0, 0)) = true := by decide +kernel
set_option maxRecDepth 100000 in
theorem sm_c98 : sm_ckM sm_I98 sm_H98 (sm_Hs.getD 98 (0, 0, 0, 0)) = true := by decide +kernel
set_option maxRecDepth 100000 in
theorem sm_c99 : sm_ckM sm_I99 sm_H99 (sm_Hs.getD 99 (0, 0, 0, 0)) = true := by decide +kernel
set_option maxRecDepth 100000 in
theorem sm_c100 : sm_ckM sm_I100 sm_H100 (sm_Hs.getD 100 (0, 0, 0, 0)) = true := by decide +kernel
set_option maxRecDepth 100000 in
theorem sm_c101 : sm_ckM sm_I101 sm_H101 (sm_Hs.getD 101 (0, 0, 0, 0)) = true := by decide +kernel
set_option maxRecDepth 100000 in
theorem sm_c102 : sm_ckM sm_I102 sm_H102 (sm_Hs.getD 102 (0, 0, 0, 0)) = true := by decide +kernel
set_option maxRecDepth 100000 in
theorem sm_c103 : sm_ckM sm_I103 sm_H103 (sm_Hs.getD 103 (0, 0, 0, 0)) = true := by decide +kernel
set_option maxRecDepth 100000 in
theorem sm_c104 : sm_ckM sm_I104 sm_H104 (sm_Hs.getD 104 (0, 0, 0, 0)) = true := by decide +kernel
set_option maxRecDepth 100000 in
theorem sm_c105 : sm_ckM sm_I105 sm_H105 (sm_Hs.getD 105 (0, 0, 0, 0)) = true := by decide +kernel
set_option maxRecDepth 100000 in
theorem sm_c106 : sm_ckM sm_I106 sm_H106 (sm_Hs.getD 106 (0, 0, 0, 0)) = true := by decide +kernel
set_option maxRecDepth 100000 in
theorem sm_c107 : sm_ckM sm_I107 sm_H107 (sm_Hs.getD 107 (0, 0, 0, 0)) = true := by decide +kernel
set_option maxRecDepth 100000 in
theorem sm_c108 : sm_ckM sm_I108 sm_H108 (sm_Hs.getD 108 (0, 0, 0, 0)) = true := by decide +kernel
set_option maxRecDepth 100000 in
theorem sm_c109 : sm_ckM sm_I109 sm_H109 (sm_Hs.getD 109 (0, 0, 0, 0)) = true := by decide +kernel
set_option maxRecDepth 100000 in
theorem sm_c110 : sm_ckM sm_I110 sm_H110 (sm_Hs.getD 110 (0, 0, 0, 0)) = true := by decide +kernel
set_option maxRecDepth 100000 in
theorem sm_c111 : sm_ckM sm_I111 sm_H111 (sm_Hs.getD 111 (0, 0, 0, 0)) = true := by decide +kernel
set_option maxRecDepth 100000 in
theorem sm_c112 : sm_ckM sm_I112 sm_H112 (sm_Hs.getD 112 (0, 0, 0, 0)) = true := by decide +kernel
set_option maxRecDepth 100000 in
theorem sm_c113 : sm_ckM sm_I113 sm_H113 (sm_Hs.getD 113 (0, 0, 0, 0)) = true := by decide +kernel
set_option maxRecDepth 100000 in
theorem sm_c114 : sm_ckM sm_I114 sm_H114 (sm_Hs.getD 114 (0, 0, 0, 0)) = true := by decide +kernel
set_option maxRecDepth 100000 in
theorem sm_c115 : sm_ckM sm_I115 sm_H115 (sm_Hs.getD 115 (0, 0, 0, 0)) = true := by decide +kernel
set_option maxRecDepth 100000 in
theorem sm_c116 : sm_ckM sm_I116 sm_H116 (sm_Hs.getD 116 (0, 0, 0, 0)) = true := by decide +kernel
set_option maxRecDepth 100000 in
theorem sm_c117 : sm_ckM sm_I117 sm_H117 (sm_Hs.getD 117 (0, 0, 0, 0)) = true := by decide +kernel
set_option maxRecDepth 100000 in
theorem sm_c118 : sm_ckM sm_I118 sm_H118 (sm_Hs.getD 118 (0, 0, 0, 0)) = true := by decide +kernel
set_option maxRecDepth 100000 in
theorem sm_c119 : sm_ckM sm_I119 sm_H119 (sm_Hs.getD 119 (0, 0, 0, 0)) = true := by decide +kernel
set_option maxRecDepth 100000 in
theorem sm_c120 : sm_ckM sm_I120 sm_H120 (sm_Hs.getD 120 (0, 0, 0, 0)) = true := by decide +kernel
set_option maxRecDepth 100000 in
theorem sm_c121 : sm_ckM sm_I121 sm_H121 (sm_Hs.getD 121 (0, 0, 0, 0)) = true := by decide +kernel
set_option maxRecDepth 100000 in
theorem sm_c122 : sm_ckM sm_I122 sm_H122 (sm_Hs.getD 122 (0, 0, 0, 0)) = true := by decide +kernel
set_option maxRecDepth 100000 in
theorem sm_c123 : sm_ckM sm_I123 sm_H123 (sm_Hs.getD 123 (0, 0, 0, 0)) = true := by decide +kernel
set_option maxRecDepth 100000 in
theorem sm_c124 : sm_ckM sm_I124 sm_H124 (sm_Hs.getD 124 (0, 0, 0, 0)) = true := by decide +kernel
set_option maxRecDepth 100000 in
theorem sm_c125 : sm_ckM sm_I125 sm_H125 (sm_Hs.getD 125 (0, 0, 0, 0)) = true := by decide +kernel
set_option maxRecDepth 100000 in
theorem sm_c126 : sm_ckM sm_I126 sm_H126 (sm_Hs.getD 126 (0, 0, 0, 0)) = true := by decide +kernel
set_option maxRecDepth 100000 in
theorem sm_c127 : sm_ckM sm_I127 sm_H127 (sm_Hs.getD 127 (0, 0, 0, 0)) = true := by decide +kernel
set_option maxRecDepth 100000 in
theorem sm_c128 : sm_ckM sm_I128 sm_H128 (sm_Hs.getD 128 (0, 0, 0, 0)) = true := by decide +kernel
set_option maxRecDepth 100000 in
theorem sm_c129 : sm_ckM sm_I129 sm_H129 (sm_Hs.getD 129 (0, 0, 0, 0)) = true := by decide +kernel
set_option maxRecDepth 100000 in
theorem sm_c130 : sm_ckM sm_I130 sm_H130 (sm_Hs.getD 130 (0, 0, 0, 0)) = true := by decide +kernel
set_option maxRecDepth 100000 in
theorem sm_c131 : sm_ckM sm_I131 sm_H131 (sm_Hs.getD 131 (0, 0, 0, 0)) = true := by decide +kernel
set_option maxRecDepth 100000 in
theorem sm_c132 : sm_ckM sm_I132 sm_H132 (sm_Hs.getD 132 (0, 0, 0, 0)) = true := by decide +kernel
set_option maxRecDepth 100000 in
theorem sm_c133 : sm_ckM sm_I133 sm_H133 (sm_Hs.getD 133 (0, 0, 0, 0)) = true := by decide +kernel
set_option maxRecDepth 100000 in
theorem sm_c134 : sm_ckM sm_I134 sm_H134 (sm_Hs.getD 134 (0, 0, 0, 0)) = true := by decide +kernel
set_option maxRecDepth 100000 in
theorem sm_c135 : sm_ckM sm_I135 sm_H135 (sm_Hs.getD 135 (0, 0, 0, 0)) = true := by decide +kernel
set_option maxRecDepth 100000 in
theorem sm_c136 : sm_ckM sm_I136 sm_H136 (sm_Hs.getD 136 (0, 0, 0, 0)) = true := by decide +kernel
set_option maxRecDepth 100000 in
theorem sm_c137 : sm_ckM sm_I137 sm_H137 (sm_Hs.getD 137 (0, 0, 0, 0)) = true := by decide +kernel
set_option maxRecDepth 100000 in
theorem sm_c138 : sm_ckM sm_I138 sm_H138 (sm_Hs.getD 138 (0, 0, 0, 0)) = true := by decide +kernel
set_option maxRecDepth 100000 in
theorem sm_c139 : sm_ckM sm_I139 sm_H139 (sm_Hs.getD 139 (0, 0, 0, 0)) = true := by decide +kernel
set_option maxRecDepth 100000 in
theorem sm_c140 : sm_ckM sm_I140 sm_H140 (sm_Hs.getD 140 (0, 0, 0, 0)) = true := by decide +kernel
set_option maxRecDepth 100000 in
theorem sm_c141 : sm_ckM sm_I141 sm_H141 (sm_Hs.getD 141 (0, 0, 0, 0)) = true := by decide +kernel
set_option maxRecDepth 100000 in
theorem sm_c142 : sm_ckM sm_I142 sm_H142 (sm_Hs.getD 142 (0, 0, 0, 0)) = true := by decide +kernel
set_option maxRecDepth 100000 in
theorem sm_c143 : sm_ckM sm_I143 sm_H143 (sm_Hs.getD 143 (0, 0, 0, 0)) = true := by decide +kernel
set_option maxRecDepth 100000 in
theorem sm_c144 : sm_ckM sm_I144 sm_H144 (sm_Hs.getD 144 (0, 0, 0, 0)) = true := by decide +kernel
set_option maxRecDepth 100000 in
theorem sm_c145 : sm_ckM sm_I145 sm_H145 (sm_Hs.getD 145 (0, 0, 0, 0)) = true := by decide +kernel
set_option maxRecDepth 100000 in
theorem sm_c146 : sm_ckM sm_I146 sm_H146 (sm_Hs.getD 146 (0, 0, 0, 0)) = true := by decide +kernel
set_option maxRecDepth 100000 in
theorem sm_c147 : sm_ckM sm_I147 sm_H147 (sm_Hs.getD 147 (0, 0, 0, 0)) = true := by decide +kernel
set_option maxRecDepth 100000 in
theorem sm_c148 : sm_ckM sm_I148 sm_H148 (sm_Hs.getD 148 (0, 0, 0, 0)) = true := by decide +kernel
set_option maxRecDepth 100000 in
theorem sm_c149 : sm_ckM sm_I149 sm_H149 (sm_Hs.getD 149 (0, 0, 0, 0)) = true := by decide +kernel
set_option maxRecDepth 100000 in
theorem sm_c150 : sm_ckM sm_I150 sm_H150 (sm_Hs.getD 150 (0, 0, 0, 0)) = true := by decide +kernel
set_option maxRecDepth 100000 in
theorem sm_c151 : sm_ckM sm_I151 sm_H151 (sm_Hs.getD 151 (0, 0, 0, 0)) = true := by decide +kernel
set_option maxRecDepth 100000 in
theorem sm_c152 : sm_ckM sm_I152 sm_H152 (sm_Hs.getD 152 (0, 0, 0, 0)) = true := by decide +kernel
set_option maxRecDepth 100000 in
theorem sm_c153 : sm_ckM sm_I153 sm_H153 (sm_Hs.getD 153 (0, 0, 0, 0)) = true := by decide +kernel
set_option maxRecDepth 100000 in
theorem sm_c154 : sm_ckM sm_I154 sm_H154 (sm_Hs.getD 154 (0, 0, 0, 0)) = true := by decide +kernel
set_option maxRecDepth 100000 in
theorem sm_c155 : sm_ckM sm_I155 sm_H155 (sm_Hs.getD 155 (0, 0, 0, 0)) = true := by decide +kernel
set_option maxRecDepth 100000 in
theorem sm_c156 : sm_ckM sm_I156 sm_H156 (sm_Hs.getD 156 (0, 0, 0, 0)) = true := by decide +kernel
set_option maxRecDepth 100000 in
theorem sm_c157 : sm_ckM sm_I157 sm_H157 (sm_Hs.getD 157 (0, 0, 0, 0)) = true := by decide +kernel
set_option maxRecDepth 100000 in
theorem sm_c158 : sm_ckM sm_I158 sm_H158 (sm_Hs.getD 158 (0, 0, 0, 0)) = true := by decide +kernel
set_option maxRecDepth 100000 in
theorem sm_c159 : sm_ckM sm_I159 sm_H159 (sm_Hs.getD 159 (0, 0, 0, 0)) = true := by decide +kernel
set_option maxRecDepth 100000 in
theorem sm_c160 : sm_ckM sm_I160 sm_H160 (sm_Hs.getD 160 (0, 0, 0, 0)) = true := by decide +kernel
set_option maxRecDepth 100000 in
theorem sm_c161 : sm_ckM sm_I161 sm_H161 (sm_Hs.getD 161 (0, 0, 0, 0)) = true := by decide +kernel
set_option maxRecDepth 100000 in
theorem sm_c162 : sm_ckM sm_I162 sm_H162 (sm_Hs.getD 162 (0, 0, 0, 0)) = true := by decide +kernel
set_option maxRecDepth 100000 in
theorem sm_c163 : sm_ckM sm_I163 sm_H163 (sm_Hs.getD 163 (0, 0, 0, 0)) = true := by decide +kernel
set_option maxRecDepth 100000 in
theorem sm_c164 : sm_ckM sm_I164 sm_H164 (sm_Hs.getD 164 (0, 0, 0, 0)) = true := by decide +kernel
set_option maxRecDepth 100000 in
theorem sm_c165 : sm_ckM sm_I165 sm_H165 (sm_Hs.getD 165 (0, 0, 0, 0)) = true := by decide +kernel
set_option maxRecDepth 100000 in
theorem sm_c166 : sm_ckM sm_I166 sm_H166 (sm_Hs.getD 166 (0, 0, 0, 0)) = true := by decide +kernel
set_option maxRecDepth 100000 in
theorem sm_c167 : sm_ckM sm_I167 sm_H167 (sm_Hs.getD 167 (0, 0, 0, 0)) = true := by decide +kernel
set_option maxRecDepth 100000 in
theorem sm_c168 : sm_ckM sm_I168 sm_H168 (sm_Hs.getD 168 (0, 0, 0, 0)) = true := by decide +kernel
set_option maxRecDepth 100000 in
theorem sm_c169 : sm_ckM sm_I169 sm_H169 (sm_Hs.getD 169 (0, 0, 0, 0)) = true := by decide +kernel
set_option maxRecDepth 100000 in
theorem sm_c170 : sm_ckM sm_I170 sm_H170 (sm_Hs.getD 170 (0, 0, 0, 0)) = true := by decide +kernel
set_option maxRecDepth 100000 in
theorem sm_c171 : sm_ckM sm_I171 sm_H171 (sm_Hs.getD 171 (0, 0, 0, 0)) = true := by decide +kernel
set_option maxRecDepth 100000 in
theorem sm_c172 : sm_ckM sm_I172 sm_H172 (sm_Hs.getD 172 (0, 0, 0, 0)) = true := by decide +kernel
set_option maxRecDepth 100000 in
theorem sm_c173 : sm_ckM sm_I173 sm_H173 (sm_Hs.getD 173 (0, 0, 0, 0)) = true := by decide +kernel
set_option maxRecDepth 100000 in
theorem sm_c174 : sm_ckM sm_I174 sm_H174 (sm_Hs.getD 174 (0, 0, 0, 0)) = true := by decide +kernel
set_option maxRecDepth 100000 in
theorem sm_c175 : sm_ckM sm_I175 sm_H175 (sm_Hs.getD 175 (0, 0, 0, 0)) = true := by decide +kernel
set_option maxRecDepth 100000 in
theorem sm_c176 : sm_ckM sm_I176 sm_H176 (sm_Hs.getD 176 (0, 0, 0, 0)) = true := by decide +kernel
set_option maxRecDepth 100000 in
theorem sm_c177 : sm_ckM sm_I177 sm_H177 (sm_Hs.getD 177 (0, 0, 0, 0)) = true := by decide +kernel
set_option maxRecDepth 100000 in
theorem sm_c178 : sm_ckM sm_I178 sm_H178 (sm_Hs.getD 178 (0, 0, 0, 0)) = true := by decide +kernel
set_option maxRecDepth 100000 in
theorem sm_c179 : sm_ckM sm_I179 sm_H179 (sm_Hs.getD 179 (0, 0, 0, 0)) = true := by decide +kernel
set_option maxRecDepth 100000 in
theorem sm_c180 : sm_ckM sm_I180 sm_H180 (sm_Hs.getD 180 (0, 0, 0, 0)) = true := by decide +kernel
set_option maxRecDepth 100000 in
theorem sm_c181 : sm_ckM sm_I181 sm_H181 (sm_Hs.getD 181 (0, 0, 0, 0)) = true := by decide +kernel
set_option maxRecDepth 100000 in
theorem sm_c182 : sm_ckM sm_I182 sm_H182 (sm_Hs.getD 182 (0, 0, 0, 0)) = true := by decide +kernel
set_option maxRecDepth 100000 in
theorem sm_c183 : sm_ckM sm_I183 sm_H183 (sm_Hs.getD 183 (0, 0, 0, 0)) = true := by decide +kernel
set_option maxRecDepth 100000 in
theorem sm_c184 : sm_ckM sm_I184 sm_H184 (sm_Hs.getD 184 (0, 0, 0, 0)) = true := by decide +kernel
set_option maxRecDepth 100000 in
theorem sm_c185 : sm_ckM sm_I185 sm_H185 (sm_Hs.getD 185 (0, 0, 0, 0)) = true := by decide +kernel
set_option maxRecDepth 100000 in
theorem sm_c186 : sm_ckM sm_I186 sm_H186 (sm_Hs.getD 186 (0, 0, 0, 0)) = true := by decide +kernel
set_option maxRecDepth 100000 in
theorem sm_c187 : sm_ckM sm_I187 sm_H187 (sm_Hs.getD 187 (0, 0, 0, 0)) = true := by decide +kernel
set_option maxRecDepth 100000 in
theorem sm_c188 : sm_ckM sm_I188 sm_H188 (sm_Hs.getD 188 (0, 0, 0, 0)) = true := by decide +kernel
set_option maxRecDepth 100000 in
theorem sm_c189 : sm_ckM sm_I189 sm_H189 (sm_Hs.getD 189 (0, 0, 0, 0)) = true := by decide +kernel
set_option maxRecDepth 100000 in
theorem sm_c190 : sm_ckM sm_I190 sm_H190 (sm_Hs.getD 190 (0, 0, 0, 0)) = true := by decide +kernel
set_option maxRecDepth 100000 in
theorem sm_c191 : sm_ckM sm_I191 sm_H191 (sm_Hs.getD 191 (0, 0, 0, 0)) = true := by decide +kernel
set_option maxRecDepth 100000 in
theorem sm_c192 : sm_ckM sm_I192 sm_H192 (sm_Hs.getD 192 (0, 0, 0, 0)) = true := by decide +kernel
set_option maxRecDepth 100000 in
theorem sm_c193 : sm_ckM sm_I193 sm_H193 (sm_Hs.getD 193 (0, 0, 0, 0)) = true := by decide +kernel
set_option maxRecDepth 100000 in
theorem sm_c194 : sm_ckM sm_I194 sm_H194 (sm_Hs.getD 194 (0, 0, 0, 0)) = true := by decide +kernel
set_option maxRecDepth 100000 in
theorem sm_c195 : sm_ckM sm_I195 sm_H195 (sm_Hs.getD 195 (0, 0, 0, 0)) = true := by decide +kernel
set_option maxRecDepth 100000 in
theorem sm_c196 : sm_ckM sm_I196 sm_H196 (sm_Hs.getD 196 (0, 0, 0, 0)) = true := by decide +kernel
set_option maxRecDepth 100000 in
theorem sm_c197 : sm_ckM sm_I197 sm_H197 (sm_Hs.getD 197 (0, 0, 0, 0)) = true := by decide +kernel
set_option maxRecDepth 100000 in
theorem sm_c198 : sm_ckM sm_I198 sm_H198 (sm_Hs.getD 198 (0, 0, 0, 0)) = true := by decide +kernel
set_option maxRecDepth 100000 in
theorem sm_c199 : sm_ckM sm_I199 sm_H199 (sm_Hs.getD 199 (0, 0, 0, 0)) = true := by decide +kernel
set_option maxRecDepth 100000 in
theorem sm_c200 : sm_ckM sm_I200 sm_H200 (sm_Hs.getD 200 (0, 0, 0, 0)) = true := by decide +kernel
set_option maxRecDepth 100000 in
theorem sm_c201 : sm_ckM sm_I201 sm_H201 (sm_Hs.getD 201 (0, 0, 0, 0)) = true := by decide +kernel
set_option maxRecDepth 100000 in
theorem sm_c202 : sm_ckM sm_I202 sm_H202 (sm_Hs.getD 202 (0, 0, 0, 0)) = true := by decide +kernel
set_option maxRecDepth 100000 in
theorem sm_c203 : sm_ckM sm_I203 sm_H203 (sm_Hs.getD 203 (0, 0, 0, 0)) = true := by decide +kernel
set_option maxRecDepth 100000 in
theorem sm_c204 : sm_ckM sm_I204 sm_H204 (sm_Hs.getD 204 (0, 0, 0, 0)) = true := by decide +kernel
set_option maxRecDepth 100000 in
theorem sm_c205 : sm_ckM sm_I205 sm_H205 (sm_Hs.getD 205 (0, 0, 0, 0)) = true := by decide +kernel
set_option maxRecDepth 100000 in
theorem sm_c206 : sm_ckM sm_I206 sm_H206 (sm_Hs.getD 206 (0, 0, 0, 0)) = true := by decide +kernel
set_option maxRecDepth 100000 in
theorem sm_c207 : sm_ckM sm_I207 sm_H207 (sm_Hs.getD 207 (0, 0, 0, 0)) = true := by decide +kernel
set_option maxRecDepth 100000 in
theorem sm_c208 : sm_ckM sm_I208 sm_H208 (sm_Hs.getD 208 (0, 0, 0, 0)) = true := by decide +kernel
set_option maxRecDepth 100000 in
theorem sm_c209 : sm_ckM sm_I209 sm_H209 (sm_Hs.getD 209 (0, 0, 0, 0)) = true := by decide +kernel
set_option maxRecDepth 100000 in
theorem sm_c210 : sm_ckM sm_I210 sm_H210 (sm_Hs.getD 210 (0, 0, 0, 0)) = true := by decide +kernel
set_option maxRecDepth 100000 in
theorem sm_c211 : sm_ckM sm_I211 sm_H211 (sm_Hs.getD 211 (0, 0, 0, 0)) = true := by decide +kernel
set_option maxRecDepth 100000 in
theorem sm_c212 : sm_ckM sm_I212 sm_H212 (sm_Hs.getD 212 (0, 0, 0, 0)) = true := by decide +kernel
set_option maxRecDepth 100000 in
theorem sm_c213 : sm_ckM sm_I213 sm_H213 (sm_Hs.getD 213 (0, 0, 0, 0)) = true := by decide +kernel
set_option maxRecDepth 100000 in
theorem sm_c214 : sm_ckM sm_I214 sm_H214 (sm_Hs.getD 214 (0, 0, 0, 0)) = true := by decide +kernel
set_option maxRecDepth 100000 in
theorem sm_c215 : sm_ckM sm_I215 sm_H215 (sm_Hs.getD 215 (0, 0, 0, 0)) = true := by decide +kernel
set_option maxRecDepth 100000 in
theorem sm_c216 : sm_ckM sm_I216 sm_H216 (sm_Hs.getD 216 (0, 0, 0, 0)) = true := by decide +kernel
set_option maxRecDepth 100000 in
theorem sm_c217 : sm_ckM sm_I217 sm_H217 (sm_Hs.getD 217 (0, 0, 0, 0)) = true := by decide +kernel
set_option maxRecDepth 100000 in
theorem sm_c218 : sm_ckM sm_I218 sm_H218 (sm_Hs.getD 218 (0, 0, 0, 0)) = true := by decide +kernel
set_option maxRecDepth 100000 in
theorem sm_c219 : sm_ckM sm_I219 sm_H219 (sm_Hs.getD 219 (0, 0, 0, 0)) = true := by decide +kernel
set_option maxRecDepth 100000 in
theorem sm_c220 : sm_ckM sm_I220 sm_H220 (sm_Hs.getD 220 (0, 0, 0, 0)) = true := by decide +kernel
set_option maxRecDepth 100000 in
theorem sm_c221 : sm_ckM sm_I221 sm_H221 (sm_Hs.getD 221 (0, 0, 0, 0)) = true := by decide +kernel
set_option maxRecDepth 100000 in
theorem sm_c222 : sm_ckM sm_I222 sm_H222 (sm_Hs.getD 222 (0, 0, 0, 0)) = true := by decide +kernel
set_option maxRecDepth 100000 in
theorem sm_c223 : sm_ckM sm_I223 sm_H223 (sm_Hs.getD 223 (0, 0, 0, 0)) = true := by decide +kernel
set_option maxRecDepth 100000 in
theorem sm_c224 : sm_ckM sm_I224 sm_H224 (sm_Hs.getD 224 (0, 0, 0, 0)) = true := by decide +kernel
set_option maxRecDepth 100000 in
theorem sm_c225 : sm_ckM sm_I225 sm_H225 (sm_Hs.getD 225 (0, 0, 0, 0)) = true := by decide +kernel
set_option maxRecDepth 100000 in
theorem sm_c226 : sm_ckM sm_I226 sm_H226 (sm_Hs.getD 226 (0, 0, 0, 0)) = true := by decide +kernel
set_option maxRecDepth 100000 in
theorem sm_c227 : sm_ckM sm_I227 sm_H227 (sm_Hs.getD 227 (0, 0, 0, 0)) = true := by decide +kernel
set_option maxRecDepth 100000 in
theorem sm_c228 : sm_ckM sm_I228 sm_H228 (sm_Hs.getD 228 (0, 0, 0, 0)) = true := by decide +kernel
set_option maxRecDepth 100000 in
theorem sm_c229 : sm_ckM sm_I229 sm_H229 (sm_Hs.getD 229 (0, 0, 0, 0)) = true := by decide +kernel
set_option maxRecDepth 100000 in
theorem sm_c230 : sm_ckM sm_I230 sm_H230 (sm_Hs.getD 230 (0, 0, 0, 0)) = true := by decide +kernel
set_option maxRecDepth 100000 in
theorem sm_c231 : sm_ckM sm_I231 sm_H231 (sm_Hs.getD 231 (0, 0, 0, 0)) = true := by decide +kernel
set_option maxRecDepth 100000 in
theorem sm_c232 : sm_ckM sm_I232 sm_H232 (sm_Hs.getD 232 (0, 0, 0, 0)) = true := by decide +kernel
set_option maxRecDepth 100000 in
theorem sm_c233 : sm_ckM sm_I233 sm_H233 (sm_Hs.getD 233 (0, 0, 0, 0)) = true := by decide +kernel
set_option maxRecDepth 100000 in
theorem sm_c234 : sm_ckM sm_I234 sm_H234 (sm_Hs.getD 234 (0, 0, 0, 0)) = true := by decide +kernel
set_option maxRecDepth 100000 in
theorem sm_c235 : sm_ckM sm_I235 sm_H235 (sm_Hs.getD 235 (0, 0, 0, 0)) = true := by decide +kernel
set_option maxRecDepth 100000 in
theorem sm_c236 : sm_ckM sm_I236 sm_H236 (sm_Hs.getD 236 (0, 0, 0, 0)) = true := by decide +kernel
set_option maxRecDepth 100000 in
theorem sm_c237 : sm_ckM sm_I237 sm_H237 (sm_Hs.getD 237 (0, 0, 0, 0)) = true := by decide +kernel
set_option maxRecDepth 100000 in
theorem sm_c238 : sm_ckM sm_I238 sm_H238 (sm_Hs.getD 238 (0, 0, 0, 0)) = true := by decide +kernel
set_option maxRecDepth 100000 in
theorem sm_c239 : sm_ckM sm_I239 sm_H239 (sm_Hs.getD 239 (0, 0, 0, 0)) = true := by decide +kernel
set_option maxRecDepth 100000 in
theorem sm_c240 : sm_ckM sm_I240 sm_H240 (sm_Hs.getD 240 (0, 0, 0, 0)) = true := by decide +kernel
set_option maxRecDepth 100000 in
theorem sm_c241 : sm_ckM sm_I241 sm_H241 (sm_Hs.getD 241 (0, 0, 0, 0)) = true := by decide +kernel
set_option maxRecDepth 100000 in
theorem sm_c242 : sm_ckM sm_I242 sm_H242 (sm_Hs.getD 242 (0, 0, 0, 0)) = true := by decide +kernel
set_option maxRecDepth 100000 in
theorem sm_c243 : sm_ckM sm_I243 sm_H243 (sm_Hs.getD 243 (0, 0, 0, 0)) = true := by decide +kernel
set_option maxRecDepth 100000 in
theorem sm_c244 : sm_ckM sm_I244 sm_H244 (sm_Hs.getD 244 (0, 0, 0, 0)) = true := by decide +kernel
set_option maxRecDepth 100000 in
theorem sm_c245 : sm_ckM sm_I245 sm_H245 (sm_Hs.getD 245 (0, 0, 0, 0)) = true := by decide +kernel
set_option maxRecDepth 100000 in
theorem sm_c246 : sm_ckM sm_I246 sm_H246 (sm_Hs.getD 246 (0, 0, 0, 0)) = true := by decide +kernel
set_option maxRecDepth 100000 in
theorem sm_c247 : sm_ckM sm_I247 sm_H247 (sm_Hs.getD 247 (0, 0, 0, 0)) = true := by decide +kernel
set_option maxRecDepth 100000 in
theorem sm_c248 : sm_ckM sm_I248 sm_H248 (sm_Hs.getD 248 (0, 0, 0, 0)) = true := by decide +kernel
set_option maxRecDepth 100000 in
theorem sm_c249 : sm_ckM sm_I249 sm_H249 (sm_Hs.getD 249 (0, 0, 0, 0)) = true := by decide +kernel
set_option maxRecDepth 100000 in
theorem sm_c250 : sm_ckM sm_I250 sm_H250 (sm_Hs.getD 250 (0, 0, 0, 0)) = true := by decide +kernel
set_option maxRecDepth 100000 in
theorem sm_c251 : sm_ckM sm_I251 sm_H251 (sm_Hs.getD 251 (0, 0, 0, 0)) = true := by decide +kernel
set_option maxRecDepth 100000 in
theorem sm_c252 : sm_ckM sm_I252 sm_H252 (sm_Hs.getD 252 (0, 0, 0, 0)) = true := by decide +kernel
set_option maxRecDepth 100000 in
theorem sm_c253 : sm_ckM sm_I253 sm_H253 (sm_Hs.getD 253 (0, 0, 0, 0)) = true := by decide +kernel
set_option maxRecDepth 100000 in
theorem sm_c254 : sm_ckM sm_I254 sm_H254 (sm_Hs.getD 254 (0, 0, 0, 0)) = true := by decide +kernel
set_option maxRecDepth 100000 in
theorem sm_c255 : sm_ckM sm_I255 sm_H255 (sm_Hs.getD 255 (0, 0, 0, 0)) = true := by decide +kernel
set_option maxRecDepth 100000 in
theorem sm_c256 : sm_ckM sm_I256 sm_H256 (sm_Hs.getD 256 (0, 0, 0, 0)) = true := by decide +kernel
set_option maxRecDepth 100000 in
theorem sm_c257 : sm_ckM sm_I257 sm_H257 (sm_Hs.getD 257 (0, 0, 0, 0)) = true := by decide +kernel
set_option maxRecDepth 100000 in
theorem sm_c258 : sm_ckM sm_I258 sm_H258 (sm_Hs.getD 258 (0, 0, 0, 0)) = true := by decide +kernel
set_option maxRecDepth 100000 in
theorem sm_c259 : sm_ckM sm_I259 sm_H259 (sm_Hs.getD 259 (0, 0, 0, 0)) = true := by decide +kernel
set_option maxRecDepth 100000 in
theorem sm_c260 : sm_ckM sm_I260 sm_H260 (sm_Hs.getD 260 (0, 0, 0, 0)) = true := by decide +kernel
set_option maxRecDepth 100000 in
theorem sm_c261 : sm_ckM sm_I261 sm_H261 (sm_Hs.getD 261 (0, 0, 0, 0)) = true := by decide +kernel
set_option maxRecDepth 100000 in
theorem sm_c262 : sm_ckM sm_I262 sm_H262 (sm_Hs.getD 262 (0, 0, 0, 0)) = true := by decide +kernel
set_option maxRecDepth 100000 in
theorem sm_c263 : sm_ckM sm_I263 sm_H263 (sm_Hs.getD 263 (0, 0, 0, 0)) = true := by decide +kernel
set_option maxRecDepth 100000 in
theorem sm_c264 : sm_ckM sm_I264 sm_H264 (sm_Hs.getD 264 (0, 0, 0, 0)) = true := by decide +kernel
set_option maxRecDepth 100000 in
theorem sm_c265 : sm_ckM sm_I265 sm_H265 (sm_Hs.getD 265 (0, 0, 0, 0)) = true := by decide +kernel
set_option maxRecDepth 100000 in
theorem sm_c266 : sm_ckM sm_I266 sm_H266 (sm_Hs.getD 266 (0, 0, 0, 0)) = true := by decide +kernel
set_option maxRecDepth 100000 in
theorem sm_c267 : sm_ckM sm_I267 sm_H267 (sm_Hs.getD 267 (0, 0, 0, 0)) = true := by decide +kernel
set_option maxRecDepth 100000 in
theorem sm_c268 : sm_ckM sm_I268 sm_H268 (sm_Hs.getD 268 (0, 0, 0, 0)) = true := by decide +kernel
set_option maxRecDepth 100000 in
theorem sm_c269 : sm_ckM sm_I269 sm_H269 (sm_Hs.getD 269 (0, 0, 0, 0)) = true := by decide +kernel
set_option maxRecDepth 100000 in
theorem sm_c270 : sm_ckM sm_I270 sm_H270 (sm_Hs.getD 270 (0, 0, 0, 0)) = true := by decide +kernel
set_option maxRecDepth 100000 in
theorem sm_c271 : sm_ckM sm_I271 sm_H271 (sm_Hs.getD 271 (0, 0, 0, 0)) = true := by decide +kernel
set_option maxRecDepth 100000 in
theorem sm_c272 : sm_ckM sm_I272 sm_H272 (sm_Hs.getD 272 (0, 0, 0, 0)) = true := by decide +kernel
set_option maxRecDepth 100000 in
theorem sm_c273 : sm_ckM sm_I273 sm_H273 (sm_Hs.getD 273 (0, 0, 0, 0)) = true := by decide +kernel
set_option maxRecDepth 100000 in
theorem sm_c274 : sm_ckM sm_I274 sm_H274 (sm_Hs.getD 274 (0, 0, 0, 0)) = true := by decide +kernel
set_option maxRecDepth 100000 in
theorem sm_c275 : sm_ckM sm_I275 sm_H275 (sm_Hs.getD 275 (0, 0, 0, 0)) = true := by decide +kernel
set_option maxRecDepth 100000 in
theorem sm_c276 : sm_ckM sm_I276 sm_H276 (sm_Hs.getD 276 (0, 0, 0, 0)) = true := by decide +kernel
set_option maxRecDepth 100000 in
theorem sm_c277 : sm_ckM sm_I277 sm_H277 (sm_Hs.getD 277 (0, 0, 0, 0)) = true := by decide +kernel
set_option maxRecDepth 100000 in
theorem sm_c278 : sm_ckM sm_I278 sm_H278 (sm_Hs.getD 278 (0, 0, 0, 0)) = true := by decide +kernel
set_option maxRecDepth 100000 in
theorem sm_c279 : sm_ckM sm_I279 sm_H279 (sm_Hs.getD 279 (0, 0, 0, 0)) = true := by decide +kernel
set_option maxRecDepth 100000 in
theorem sm_c280 : sm_ckM sm_I280 sm_H280 (sm_Hs.getD 280 (0, 0, 0, 0)) = true := by decide +kernel
set_option maxRecDepth 100000 in
theorem sm_c281 : sm_ckM sm_I281 sm_H281 (sm_Hs.getD 281 (0, 0, 0, 0)) = true := by decide +kernel
set_option maxRecDepth 100000 in
theorem sm_c282 : sm_ckM sm_I282 sm_H282 (sm_Hs.getD 282 (0, 0, 0, 0)) = true := by decide +kernel
set_option maxRecDepth 100000 in
theorem sm_c283 : sm_ckM sm_I283 sm_H283 (sm_Hs.getD 283 (0, 0, 0, 0)) = true := by decide +kernel
set_option maxRecDepth 100000 in
theorem sm_c284 : sm_ckM sm_I284 sm_H284 (sm_Hs.getD 284 (0, 0, 0, 0)) = true := by decide +kernel
set_option maxRecDepth 100000 in
theorem sm_c285 : sm_ckM sm_I285 sm_H285 (sm_Hs.getD 285 (0, 0, 0, 0)) = true := by decide +kernel
set_option maxRecDepth 100000 in
theorem sm_c286 : sm_ckM sm_I286 sm_H286 (sm_Hs.getD 286 (0, 0, 0, 0)) = true := by decide +kernel
set_option maxRecDepth 100000 in
theorem sm_c287 : sm_ckM sm_I287 sm_H287 (sm_Hs.getD 287 (0, 0, 0, 0)) = true := by decide +kernel
theorem sm_M_ok : ∀ a J, sm_M a = some J → sm_mok sm_M J := by
  intro a J h
  have hc : ∃ hs hm, sm_ckM J hs hm = true := by
    unfold sm_M at h
    match a, h with
    | 0, h => cases h; exact ⟨_, _, sm_c0⟩
    | 1, h => cases h; exact ⟨_, _, sm_c1⟩
    | 2, h => cases h; exact ⟨_, _, sm_c2⟩
    | 3, h => cases h; exact ⟨_, _, sm_c3⟩
    | 4, h => cases h; exact ⟨_, _, sm_c4⟩
    | 5, h => cases h; exact ⟨_, _, sm_c5⟩
    | 6, h => cases h; exact ⟨_, _, sm_c6⟩
    | 7, h => cases h; exact ⟨_, _, sm_c7⟩
    | 8, h => cases h; exact ⟨_, _, sm_c8⟩
    | 9, h => cases h; exact ⟨_, _, sm_c9⟩
    | 10, h => cases h; exact ⟨_, _, sm_c10⟩
    | 11, h => cases h; exact ⟨_, _, sm_c11⟩
    | 12, h => cases h; exact ⟨_, _, sm_c12⟩
    | 13, h => cases h; exact ⟨_, _, sm_c13⟩
    | 14, h => cases h; exact ⟨_, _, sm_c14⟩
    | 15, h => cases h; exact ⟨_, _, sm_c15⟩
    | 16, h => cases h; exact ⟨_, _, sm_c16⟩
    | 17, h => cases h; exact ⟨_, _, sm_c17⟩
    | 18, h => cases h; exact ⟨_, _, sm_c18⟩
    | 19, h => cases h; exact ⟨_, _, sm_c19⟩
    | 20, h => cases h; exact ⟨_, _, sm_c20⟩
    | 21, h => cases h; exact ⟨_, _, sm_c21⟩
    | 22, h => cases h; exact ⟨_, _, sm_c22⟩
    | 23, h => cases h; exact ⟨_, _, sm_c23⟩
    | 24, h => cases h; exact ⟨_, _, sm_c24⟩
    | 25, h => cases h; exact ⟨_, _, sm_c25⟩
    | 26, h => cases h; exact ⟨_, _, sm_c26⟩
    | 27, h => cases h; exact ⟨_, _, sm_c27⟩
    | 28, h => cases h; exact ⟨_, _, sm_c28⟩
    | 29, h => cases h; exact ⟨_, _, sm_c29⟩
    | 30, h => cases h; exact ⟨_, _, sm_c30⟩
    | 31, h => cases h; exact ⟨_, _, sm_c31⟩
    | 32, h => cases h; exact ⟨_, _, sm_c32⟩
    | 33, h => cases h; exact ⟨_, _, sm_c33⟩
    | 34, h => cases h; exact ⟨_, _, sm_c34⟩
    | 35, h => cases h; exact ⟨_, _, sm_c35⟩
    | 36, h => cases h; exact ⟨_, _, sm_c36⟩
    | 37, h => cases h; exact ⟨_, _, sm_c37⟩
    | 38, h => cases h; exact ⟨_, _, sm_c38⟩
    | 39, h => cases h; exact ⟨_, _, sm_c39⟩
    | 40, h => cases h; exact ⟨_, _, sm_c40⟩
    | 41, h => cases h; exact ⟨_, _, sm_c41⟩
    | 42, h => cases h; exact ⟨_, _, sm_c42⟩
    | 43, h => cases h; exact ⟨_, _, sm_c43⟩
    | 44, h => cases h; exact ⟨_, _, sm_c44⟩
    | 45, h => cases h; exact ⟨_, _, sm_c45⟩
    | 46, h => cases h; exact ⟨_, _, sm_c46⟩
    | 47, h => cases h; exact ⟨_, _, sm_c47⟩
    | 48, h => cases h; exact ⟨_, _, sm_c48⟩
    | 49, h => cases h; exact ⟨_, _, sm_c49⟩
    | 50, h => cases h; exact ⟨_, _, sm_c50⟩
    | 51, h => cases h; exact ⟨_, _, sm_c51⟩
    | 52, h => cases h; exact ⟨_, _, sm_c52⟩
    | 53, h => cases h; exact ⟨_, _, sm_c53⟩
    | 54, h => cases h; exact ⟨_, _, sm_c54⟩
    | 55, h => cases h; exact ⟨_, _, sm_c55⟩
    | 56, h => cases h; exact ⟨_, _, sm_c56⟩
    | 57, h => cases h; exact ⟨_, _, sm_c57⟩
    | 58, h => cases h; exact ⟨_, _, sm_c58⟩
    | 59, h => cases h; exact ⟨_, _, sm_c59⟩
    | 60, h => cases h; exact ⟨_, _, sm_c60⟩
    | 61, h => cases h; exact ⟨_, _, sm_c61⟩
    | 62, h => cases h; exact ⟨_, _, sm_c62⟩
    | 63, h => cases h; exact ⟨_, _, sm_c63⟩
    | 64, h => cases h; exact ⟨_, _, sm_c64⟩
    | 65, h => cases h; exact ⟨_, _, sm_c65⟩
    | 66, h => cases h; exact ⟨_, _, sm_c66⟩
    | 67, h => cases h; exact ⟨_, _, sm_c67⟩
    | 68, h => cases h; exact ⟨_, _, sm_c68⟩
    | 69, h => cases h; exact ⟨_, _, sm_c69⟩
    | 70, h => cases h; exact ⟨_, _, sm_c70⟩
    | 71, h => cases h; exact ⟨_, _, sm_c71⟩
    | 72, h => cases h; exact ⟨_, _, sm_c72⟩
    | 73, h => cases h; exact ⟨_, _, sm_c73⟩
    | 74, h => cases h; exact ⟨_, _, sm_c74⟩
    | 75, h => cases h; exact ⟨_, _, sm_c75⟩
    | 76, h => cases h; exact ⟨_, _, sm_c76⟩
    | 77, h => cases h; exact ⟨_, _, sm_c77⟩
    | 78, h => cases h; exact ⟨_, _, sm_c78⟩
    | 79, h => cases h; exact ⟨_, _, sm_c79⟩
    | 80, h => cases h; exact ⟨_, _, sm_c80⟩
    | 81, h => cases h; exact ⟨_, _, sm_c81⟩
    | 82, h => cases h; exact ⟨_, _, sm_c82⟩
    | 83, h => cases h; exact ⟨_, _, sm_c83⟩
    | 84, h => cases h; exact ⟨_, _, sm_c84⟩
    | 85, h => cases h; exact ⟨_, _, sm_c85⟩
    | 86, h => cases h; exact ⟨_, _, sm_c86⟩
    | 87, h => cases h; exact ⟨_, _, sm_c87⟩
    | 88, h => cases h; exact ⟨_, _, sm_c88⟩
    | 89, h => cases h; exact ⟨_, _, sm_c89⟩
    | 90, h => cases h; exact ⟨_, _, sm_c90⟩
    | 91, h => cases h; exact ⟨_, _, sm_c91⟩
    | 92, h => cases h; exact ⟨_, _, sm_c92⟩
    | 93, h => cases h; exact ⟨_, _, sm_c93⟩
    | 94, h => cases h; exact ⟨_, _, sm_c94⟩
    | 95, h => cases h; exact ⟨_, _, sm_c95⟩
    | 96, h => cases h; exact ⟨_, _, sm_c96⟩
    | 97, h => cases h; exact ⟨_, _, sm_c97⟩
    | 98, h => cases h; exact ⟨_, _, sm_c98⟩
    | 99, h => cases h; exact ⟨_, _, sm_c99⟩
    | 100, h => cases h; exact ⟨_, _, sm_c100⟩
    | 101, h => cases h; exact ⟨_, _, sm_c101⟩
    | 102, h => cases h; exact ⟨_, _, sm_c102⟩
    | 103, h => cases h; exact ⟨_, _, sm_c103⟩
    | 104, h => cases h; exact ⟨_, _, sm_c104⟩
    | 105, h => cases h; exact ⟨_, _, sm_c105⟩
    | 106, h => cases h; exact ⟨_, _, sm_c106⟩
    | 107, h => cases h; exact ⟨_, _, sm_c107⟩
    | 108, h => cases h; exact ⟨_, _, sm_c108⟩
    | 109, h => cases h; exact ⟨_, _, sm_c109⟩
    | 110, h => cases h; exact ⟨_, _, sm_c110⟩
    | 111, h => cases h; exact ⟨_, _, sm_c111⟩
    | 112, h => cases h; exact ⟨_, _, sm_c112⟩
    | 113, h => cases h; exact ⟨_, _, sm_c113⟩
    | 114, h => cases h; exact ⟨_, _, sm_c114⟩
    | 115, h => cases h; exact ⟨_, _, sm_c115⟩
    | 116, h => cases h; exact ⟨_, _, sm_c116⟩
    | 117, h => cases h; exact ⟨_, _, sm_c117⟩
    | 118, h => cases h; exact ⟨_, _, sm_c118⟩
    | 119, h => cases h; exact ⟨_, _, sm_c119⟩
    | 120, h => cases h; exact ⟨_, _, sm_c120⟩
    | 121, h => cases h; exact ⟨_, _, sm_c121⟩
    | 122, h => cases h; exact ⟨_, _, sm_c122⟩
    | 123, h => cases h; exact ⟨_, _, sm_c123⟩
    | 124, h => cases h; exact ⟨_, _, sm_c124⟩
    | 125, h => cases h; exact ⟨_, _, sm_c125⟩
    | 126, h => cases h; exact ⟨_, _, sm_c126⟩
    | 127, h => cases h; exact ⟨_, _, sm_c127⟩
    | 128, h => cases h; exact ⟨_, _, sm_c128⟩
    | 129, h => cases h; exact ⟨_, _, sm_c129⟩
    | 130, h => cases h; exact ⟨_, _, sm_c130⟩
    | 131, h => cases h; exact ⟨_, _, sm_c131⟩
    | 132, h => cases h; exact ⟨_, _, sm_c132⟩
    | 133, h => cases h; exact ⟨_, _, sm_c133⟩
    | 134, h => cases h; exact ⟨_, _, sm_c134⟩
    | 135, h => cases h; exact ⟨_, _, sm_c135⟩
    | 136, h => cases h; exact ⟨_, _, sm_c136⟩
    | 137, h => cases h; exact ⟨_, _, sm_c137⟩
    | 138, h => cases h; exact ⟨_, _, sm_c138⟩
    | 139, h => cases h; exact ⟨_, _, sm_c139⟩
    | 140, h => cases h; exact ⟨_, _, sm_c140⟩
    | 141, h => cases h; exact ⟨_, _, sm_c141⟩
    | 142, h => cases h; exact ⟨_, _, sm_c142⟩
    | 143, h => cases h; exact ⟨_, _, sm_c143⟩
    | 144, h => cases h; exact ⟨_, _, sm_c144⟩
    | 145, h => cases h; exact ⟨_, _, sm_c145⟩
    | 146, h => cases h; exact ⟨_, _, sm_c146⟩
    | 147, h => cases h; exact ⟨_, _, sm_c147⟩
    | 148, h => cases h; exact ⟨_, _, sm_c148⟩
    | 149, h => cases h; exact ⟨_, _, sm_c149⟩
    | 150, h => cases h; exact ⟨_, _, sm_c150⟩
    | 151, h => cases h; exact ⟨_, _, sm_c151⟩
    | 152, h => cases h; exact ⟨_, _, sm_c152⟩
    | 153, h => cases h; exact ⟨_, _, sm_c153⟩
    | 154, h => cases h; exact ⟨_, _, sm_c154⟩
    | 155, h => cases h; exact ⟨_, _, sm_c155⟩
    | 156, h => cases h; exact ⟨_, _, sm_c156⟩
    | 157, h => cases h; exact ⟨_, _, sm_c157⟩
    | 158, h => cases h; exact ⟨_, _, sm_c158⟩
    | 159, h => cases h; exact ⟨_, _, sm_c159⟩
    | 160, h => cases h; exact ⟨_, _, sm_c160⟩
    | 161, h => cases h; exact ⟨_, _, sm_c161⟩
    | 162, h => cases h; exact ⟨_, _, sm_c162⟩
    | 163, h => cases h; exact ⟨_, _, sm_c163⟩
    | 164, h => cases h; exact ⟨_, _, sm_c164⟩
    | 165, h => cases h; exact ⟨_, _, sm_c165⟩
    | 166, h => cases h; exact ⟨_, _, sm_c166⟩
    | 167, h => cases h; exact ⟨_, _, sm_c167⟩
    | 168, h => cases h; exact ⟨_, _, sm_c168⟩
    | 169, h => cases h; exact ⟨_, _, sm_c169⟩
    | 170, h => cases h; exact ⟨_, _, sm_c170⟩
    | 171, h => cases h; exact ⟨_, _, sm_c171⟩
    | 172, h => cases h; exact ⟨_, _, sm_c172⟩
    | 173, h => cases h; exact ⟨_, _, sm_c173⟩
    | 174, h => cases h; exact ⟨_, _, sm_c174⟩
    | 175, h => cases h; exact ⟨_, _, sm_c175⟩
    | 176, h => cases h; exact ⟨_, _, sm_c176⟩
    | 177, h => cases h; exact ⟨_, _, sm_c177⟩
    | 178, h => cases h; exact ⟨_, _, sm_c178⟩
    | 179, h => cases h; exact ⟨_, _, sm_c179⟩
    | 180, h => cases h; exact ⟨_, _, sm_c180⟩
    | 181, h => cases h; exact ⟨_, _, sm_c181⟩
    | 182, h => cases h; exact ⟨_, _, sm_c182⟩
    | 183, h => cases h; exact ⟨_, _, sm_c183⟩
    | 184, h => cases h; exact ⟨_, _, sm_c184⟩
    | 185, h => cases h; exact ⟨_, _, sm_c185⟩
    | 186, h => cases h; exact ⟨_, _, sm_c186⟩
    | 187, h => cases h; exact ⟨_, _, sm_c187⟩
    | 188, h => cases h; exact ⟨_, _, sm_c188⟩
    | 189, h => cases h; exact ⟨_, _, sm_c189⟩
    | 190, h => cases h; exact ⟨_, _, sm_c190⟩
    | 191, h => cases h; exact ⟨_, _, sm_c191⟩
    | 192, h => cases h; exact ⟨_, _, sm_c192⟩
    | 193, h => cases h; exact ⟨_, _, sm_c193⟩
    | 194, h => cases h; exact ⟨_, _, sm_c194⟩
    | 195, h => cases h; exact ⟨_, _, sm_c195⟩
    | 196, h => cases h; exact ⟨_, _, sm_c196⟩
    | 197, h => cases h; exact ⟨_, _, sm_c197⟩
    | 198, h => cases h; exact ⟨_, _, sm_c198⟩
    | 199, h => cases h; exact ⟨_, _, sm_c199⟩
    | 200, h => cases h; exact ⟨_, _, sm_c200⟩
    | 201, h => cases h; exact ⟨_, _, sm_c201⟩
    | 202, h => cases h; exact ⟨_, _, sm_c202⟩
    | 203, h => cases h; exact ⟨_, _, sm_c203⟩
    | 204, h => cases h; exact ⟨_, _, sm_c204⟩
    | 205, h => cases h; exact ⟨_, _, sm_c205⟩
    | 206, h => cases h; exact ⟨_, _, sm_c206⟩
    | 207, h => cases h; exact ⟨_, _, sm_c207⟩
    | 208, h => cases h; exact ⟨_, _, sm_c208⟩
    | 209, h => cases h; exact ⟨_, _, sm_c209⟩
    | 210, h => cases h; exact ⟨_, _, sm_c210⟩
    | 211, h => cases h; exact ⟨_, _, sm_c211⟩
    | 212, h => cases h; exact ⟨_, _, sm_c212⟩
    | 213, h => cases h; exact ⟨_, _, sm_c213⟩
    | 214, h => cases h; exact ⟨_, _, sm_c214⟩
    | 215, h => cases h; exact ⟨_, _, sm_c215⟩
    | 216, h => cases h; exact ⟨_, _, sm_c216⟩
    | 217, h => cases h; exact ⟨_, _, sm_c217⟩
    | 218, h => cases h; exact ⟨_, _, sm_c218⟩
    | 219, h => cases h; exact ⟨_, _, sm_c219⟩
    | 220, h => cases h; exact ⟨_, _, sm_c220⟩
    | 221, h => cases h; exact ⟨_, _, sm_c221⟩
    | 222, h => cases h; exact ⟨_, _, sm_c222⟩
    | 223, h => cases h; exact ⟨_, _, sm_c223⟩
    | 224, h => cases h; exact ⟨_, _, sm_c224⟩
    | 225, h => cases h; exact ⟨_, _, sm_c225⟩
    | 226, h => cases h; exact ⟨_, _, sm_c226⟩
    | 227, h => cases h; exact ⟨_, _, sm_c227⟩
    | 228, h => cases h; exact ⟨_, _, sm_c228⟩
    | 229, h => cases h; exact ⟨_, _, sm_c229⟩
    | 230, h => cases h; exact ⟨_, _, sm_c230⟩
    | 231, h => cases h; exact ⟨_, _, sm_c231⟩
    | 232, h => cases h; exact ⟨_, _, sm_c232⟩
    | 233, h => cases h; exact ⟨_, _, sm_c233⟩
    | 234, h => cases h; exact ⟨_, _, sm_c234⟩
    | 235, h => cases h; exact ⟨_, _, sm_c235⟩
    | 236, h => cases h; exact ⟨_, _, sm_c236⟩
    | 237, h => cases h; exact ⟨_, _, sm_c237⟩
    | 238, h => cases h; exact ⟨_, _, sm_c238⟩
    | 239, h => cases h; exact ⟨_, _, sm_c239⟩
    | 240, h => cases h; exact ⟨_, _, sm_c240⟩
    | 241, h => cases h; exact ⟨_, _, sm_c241⟩
    | 242, h => cases h; exact ⟨_, _, sm_c242⟩
    | 243, h => cases h; exact ⟨_, _, sm_c243⟩
    | 244, h => cases h; exact ⟨_, _, sm_c244⟩
    | 245, h => cases h; exact ⟨_, _, sm_c245⟩
    | 246, h => cases h; exact ⟨_, _, sm_c246⟩
    | 247, h => cases h; exact ⟨_, _, sm_c247⟩
    | 248, h => cases h; exact ⟨_, _, sm_c248⟩
    | 249, h => cases h; exact ⟨_, _, sm_c249⟩
    | 250, h => cases h; exact ⟨_, _, sm_c250⟩
    | 251, h => cases h; exact ⟨_, _, sm_c251⟩
    | 252, h => cases h; exact ⟨_, _, sm_c252⟩
    | 253, h => cases h; exact ⟨_, _, sm_c253⟩
    | 254, h => cases h; exact ⟨_, _, sm_c254⟩
    | 255, h => cases h; exact ⟨_, _, sm_c255⟩
    | 256, h => cases h; exact ⟨_, _, sm_c256⟩
    | 257, h => cases h; exact ⟨_, _, sm_c257⟩
    | 258, h => cases h; exact ⟨_, _, sm_c258⟩
    | 259, h => cases h; exact ⟨_, _, sm_c259⟩
    | 260, h => cases h; exact ⟨_, _, sm_c260⟩
    | 261, h => cases h; exact ⟨_, _, sm_c261⟩
    | 262, h => cases h; exact ⟨_, _, sm_c262⟩
    | 263, h => cases h; exact ⟨_, _, sm_c263⟩
    | 264, h => cases h; exact ⟨_, _, sm_c264⟩
    | 265, h => cases h; exact ⟨_, _, sm_c265⟩
    | 266, h => cases h; exact ⟨_, _, sm_c266⟩
    | 267, h => cases h; exact ⟨_, _, sm_c267⟩
    | 268, h => cases h; exact ⟨_, _, sm_c268⟩
    | 269, h => cases h; exact ⟨_, _, sm_c269⟩
    | 270, h => cases h; exact ⟨_, _, sm_c270⟩
    | 271, h => cases h; exact ⟨_, _, sm_c271⟩
    | 272, h => cases h; exact ⟨_, _, sm_c272⟩
    | 273, h => cases h; exact ⟨_, _, sm_c273⟩
    | 274, h => cases h; exact ⟨_, _, sm_c274⟩
    | 275, h => cases h; exact ⟨_, _, sm_c275⟩
    | 276, h => cases h; exact ⟨_, _, sm_c276⟩
    | 277, h => cases h; exact ⟨_, _, sm_c277⟩
    | 278, h => cases h; exact ⟨_, _, sm_c278⟩
    | 279, h => cases h; exact ⟨_, _, sm_c279⟩
    | 280, h => cases h; exact ⟨_, _, sm_c280⟩
    | 281, h => cases h; exact ⟨_, _, sm_c281⟩
    | 282, h => cases h; exact ⟨_, _, sm_c282⟩
    | 283, h => cases h; exact ⟨_, _, sm_c283⟩
    | 284, h => cases h; exact ⟨_, _, sm_c284⟩
    | 285, h => cases h; exact ⟨_, _, sm_c285⟩
    | 286, h => cases h; exact ⟨_, _, sm_c286⟩
    | 287, h => cases h; exact ⟨_, _, sm_c287⟩
    | a + 288, h => simp [sm_Ms] at h
  obtain ⟨hs, hm, hc⟩ := hc
  exact sm_ckM_ok hc
