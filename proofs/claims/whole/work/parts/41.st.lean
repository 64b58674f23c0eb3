/-! ===== facts that never change, by name ===== -/
section ST
theorem st_K_2 {h : HP} (hs : STR h) : hK h 2 = 11 := (hs.1).1
theorem st_K_3 {h : HP} (hs : STR h) : hK h 3 = 25 := (hs.1).2.1
theorem st_L_3 {h : HP} (hs : STR h) : hL h 3 = 5 := (hs.1).2.2.1
theorem st_K_4 {h : HP} (hs : STR h) : hK h 4 = 10 := (hs.1).2.2.2.1
theorem st_K_5 {h : HP} (hs : STR h) : hK h 5 = 26 := (hs.1).2.2.2.2.1
theorem st_L_5 {h : HP} (hs : STR h) : hL h 5 = 60 := (hs.1).2.2.2.2.2.1
theorem st_K_6 {h : HP} (hs : STR h) : hK h 6 = 21 := (hs.1).2.2.2.2.2.2.1
theorem st_L_6 {h : HP} (hs : STR h) : hL h 6 = 25 := (hs.1).2.2.2.2.2.2.2.1
theorem st_K_9 {h : HP} (hs : STR h) : hK h 9 = 9 := (hs.1).2.2.2.2.2.2.2.2.1
theorem st_K_131 {h : HP} (hs : STR h) : hK h 131 = 6 := (hs.1).2.2.2.2.2.2.2.2.2.1
theorem st_K_132 {h : HP} (hs : STR h) : hK h 132 = 1 := (hs.1).2.2.2.2.2.2.2.2.2.2.1
theorem st_K_133 {h : HP} (hs : STR h) : hK h 133 = 4 := (hs.1).2.2.2.2.2.2.2.2.2.2.2.1
theorem st_K_134 {h : HP} (hs : STR h) : hK h 134 = 29 := (hs.1).2.2.2.2.2.2.2.2.2.2.2.2.1
theorem st_L_134 {h : HP} (hs : STR h) : hL h 134 = 14 := (hs.1).2.2.2.2.2.2.2.2.2.2.2.2.2.1
theorem st_K_135 {h : HP} (hs : STR h) : hK h 135 = 29 := (hs.1).2.2.2.2.2.2.2.2.2.2.2.2.2.2.1
theorem st_L_135 {h : HP} (hs : STR h) : hL h 135 = 14 := (hs.1).2.2.2.2.2.2.2.2.2.2.2.2.2.2.2
theorem st_R_1100_2 {h : HP} (hs : STR h) : hR h 1100 2 = 3 := (hs.2.1).1
theorem st_R_1101_2 {h : HP} (hs : STR h) : hR h 1101 2 = 4 := (hs.2.1).2.1
theorem st_R_1102_2 {h : HP} (hs : STR h) : hR h 1102 2 = 131 := (hs.2.1).2.2.1
theorem st_R_1103_2 {h : HP} (hs : STR h) : hR h 1103 2 = 132 := (hs.2.1).2.2.2.1
theorem st_R_1104_2 {h : HP} (hs : STR h) : hR h 1104 2 = 133 := (hs.2.1).2.2.2.2.1
theorem st_R_1003_4 {h : HP} (hs : STR h) : hR h 1003 4 = 5 := (hs.2.1).2.2.2.2.2.1
theorem st_R_1004_4 {h : HP} (hs : STR h) : hR h 1004 4 = 6 := (hs.2.1).2.2.2.2.2.2.1
theorem st_R_1006_4 {h : HP} (hs : STR h) : hR h 1006 4 = 9 := (hs.2.1).2.2.2.2.2.2.2.1
theorem st_R_600_131 {h : HP} (hs : STR h) : hR h 600 131 = 3 := (hs.2.1).2.2.2.2.2.2.2.2.1
theorem st_R_601_131 {h : HP} (hs : STR h) : hR h 601 131 = 4 := (hs.2.1).2.2.2.2.2.2.2.2.2.1
theorem st_R_100_132 {h : HP} (hs : STR h) : hR h 100 132 = 3 := (hs.2.1).2.2.2.2.2.2.2.2.2.2.1
theorem st_R_101_132 {h : HP} (hs : STR h) : hR h 101 132 = 4 := (hs.2.1).2.2.2.2.2.2.2.2.2.2.2.1
theorem st_R_400_133 {h : HP} (hs : STR h) : hR h 400 133 = 134 := (hs.2.1).2.2.2.2.2.2.2.2.2.2.2.2.1
theorem st_R_401_133 {h : HP} (hs : STR h) : hR h 401 133 = 135 := (hs.2.1).2.2.2.2.2.2.2.2.2.2.2.2.2
theorem st_AR_3_e {h : HP} (hs : STR h) {i : Nat} (hi : i < 5) : hAR h 3 i = 150 + 12 * i := (hs.2.2.1 i hi).1
theorem st_K_150 {h : HP} (hs : STR h) {i : Nat} (hi : i < 5) : hK h (150 + 12 * i) = 8 := (hs.2.2.1 i hi).2.1
theorem st_I_800_150 {h : HP} (hs : STR h) {i : Nat} (hi : i < 5) : hI h 800 (150 + 12 * i) = Int32.ofNat i := (hs.2.2.1 i hi).2.2.1
theorem st_R_801_150 {h : HP} (hs : STR h) {i : Nat} (hi : i < 5) : hR h 801 (150 + 12 * i) = 151 + 12 * i := (hs.2.2.1 i hi).2.2.2.1
theorem st_R_802_150 {h : HP} (hs : STR h) {i : Nat} (hi : i < 5) : hR h 802 (150 + 12 * i) = 153 + 12 * i := (hs.2.2.1 i hi).2.2.2.2.1
theorem st_R_803_150 {h : HP} (hs : STR h) {i : Nat} (hi : i < 5) : hR h 803 (150 + 12 * i) = 157 + 12 * i := (hs.2.2.1 i hi).2.2.2.2.2.1
theorem st_K_151 {h : HP} (hs : STR h) {i : Nat} (hi : i < 5) : hK h (151 + 12 * i) = 7 := (hs.2.2.1 i hi).2.2.2.2.2.2.1
theorem st_R_700_151 {h : HP} (hs : STR h) {i : Nat} (hi : i < 5) : hR h 700 (151 + 12 * i) = 152 + 12 * i := (hs.2.2.1 i hi).2.2.2.2.2.2.2.1
theorem st_K_152 {h : HP} (hs : STR h) {i : Nat} (hi : i < 5) : hK h (152 + 12 * i) = 27 := (hs.2.2.1 i hi).2.2.2.2.2.2.2.2.1
theorem st_L_152 {h : HP} (hs : STR h) {i : Nat} (hi : i < 5) : hL h (152 + 12 * i) = 30 := (hs.2.2.1 i hi).2.2.2.2.2.2.2.2.2.1
theorem st_K_153 {h : HP} (hs : STR h) {i : Nat} (hi : i < 5) : hK h (153 + 12 * i) = 5 := (hs.2.2.1 i hi).2.2.2.2.2.2.2.2.2.2.1
theorem st_R_500_153 {h : HP} (hs : STR h) {i : Nat} (hi : i < 5) : hR h 500 (153 + 12 * i) = 154 + 12 * i := (hs.2.2.1 i hi).2.2.2.2.2.2.2.2.2.2.2.1
theorem st_R_501_153 {h : HP} (hs : STR h) {i : Nat} (hi : i < 5) : hR h 501 (153 + 12 * i) = 155 + 12 * i := (hs.2.2.1 i hi).2.2.2.2.2.2.2.2.2.2.2.2.1
theorem st_R_503_153 {h : HP} (hs : STR h) {i : Nat} (hi : i < 5) : hR h 503 (153 + 12 * i) = 156 + 12 * i := (hs.2.2.1 i hi).2.2.2.2.2.2.2.2.2.2.2.2.2.1
theorem st_K_154 {h : HP} (hs : STR h) {i : Nat} (hi : i < 5) : hK h (154 + 12 * i) = 20 := (hs.2.2.1 i hi).2.2.2.2.2.2.2.2.2.2.2.2.2.2.1
theorem st_L_154 {h : HP} (hs : STR h) {i : Nat} (hi : i < 5) : hL h (154 + 12 * i) = 5 := (hs.2.2.1 i hi).2.2.2.2.2.2.2.2.2.2.2.2.2.2.2.1
theorem st_K_155 {h : HP} (hs : STR h) {i : Nat} (hi : i < 5) : hK h (155 + 12 * i) = 20 := (hs.2.2.1 i hi).2.2.2.2.2.2.2.2.2.2.2.2.2.2.2.2.1
theorem st_L_155 {h : HP} (hs : STR h) {i : Nat} (hi : i < 5) : hL h (155 + 12 * i) = 5 := (hs.2.2.1 i hi).2.2.2.2.2.2.2.2.2.2.2.2.2.2.2.2.2.1
theorem st_K_156 {h : HP} (hs : STR h) {i : Nat} (hi : i < 5) : hK h (156 + 12 * i) = 22 := (hs.2.2.1 i hi).2.2.2.2.2.2.2.2.2.2.2.2.2.2.2.2.2.2.1
theorem st_L_156 {h : HP} (hs : STR h) {i : Nat} (hi : i < 5) : hL h (156 + 12 * i) = 5 := (hs.2.2.1 i hi).2.2.2.2.2.2.2.2.2.2.2.2.2.2.2.2.2.2.2.1
theorem st_K_157 {h : HP} (hs : STR h) {i : Nat} (hi : i < 5) : hK h (157 + 12 * i) = 28 := (hs.2.2.1 i hi).2.2.2.2.2.2.2.2.2.2.2.2.2.2.2.2.2.2.2.2.1
theorem st_L_157 {h : HP} (hs : STR h) {i : Nat} (hi : i < 5) : hL h (157 + 12 * i) = 4 := (hs.2.2.1 i hi).2.2.2.2.2.2.2.2.2.2.2.2.2.2.2.2.2.2.2.2.2
theorem st_AR_157_e {h : HP} (hs : STR h) {i d : Nat} (hi : i < 5) (hd : d < 4) : hAR h (157 + 12 * i) d = 158 + 12 * i + d := (hs.2.2.2.1 i d hi hd).1
theorem st_K_158 {h : HP} (hs : STR h) {i d : Nat} (hi : i < 5) (hd : d < 4) : hK h (158 + 12 * i + d) = 2 := (hs.2.2.2.1 i d hi hd).2
theorem st_AR_134_e {h : HP} (hs : STR h) {a : Nat} (ha : a < 14) : hAR h 134 a = 136 + a := (hs.2.2.2.2 a ha).1
theorem st_K_136 {h : HP} (hs : STR h) {a : Nat} (ha : a < 14) : hK h (136 + a) = 0 := (hs.2.2.2.2 a ha).2
end ST
