/-! every method of the table can be called -/
theorem am_c0 : am_ckc am_m0 2 true (1, 36) (1, 3) (1, 35) (0, 0) = true := by decide +kernel
theorem am_c1 : am_ckc am_m1 2 true (1, 64) (1, 3) (1, 63) (0, 0) = true := by decide +kernel
theorem am_c2 : am_ckc am_m2 0 false (1, 32) (1, 2) (1, 31) (0, 0) = true := by decide +kernel
theorem am_c3 : am_ckc am_m3 3 false (1, 40) (1, 2) (1, 38) (1, 39) = true := by decide +kernel
theorem am_c4 : am_ckc am_m4 4 false (1, 51) (1, 2) (1, 50) (0, 0) = true := by decide +kernel
theorem am_c5 : am_ckc am_m5 4 false (1, 55) (1, 2) (1, 54) (0, 1) = true := by decide +kernel
theorem am_c6 : am_ckc am_m6 3 true (1, 43) (1, 2) (1, 42) (0, 0) = true := by decide +kernel
theorem am_c7 : am_ckc am_m7 1 false (4, 71) (1, 2) (4, 69) (4, 70) = true := by decide +kernel
theorem am_c8 : am_ckc am_m8 1 false (2, 223) (1, 2) (2, 221) (2, 222) = true := by decide +kernel
theorem am_c9 : am_ckc am_m9 1 false (4, 8) (1, 2) (4, 6) (4, 7) = true := by decide +kernel
theorem am_c10 : am_ckc am_m10 2 false (4, 188) (1, 2) (4, 186) (4, 187) = true := by decide +kernel
theorem am_c11 : am_ckc am_m11 0 false (2, 207) (1, 2) (2, 205) (2, 206) = true := by decide +kernel
theorem am_c12 : am_ckc am_m12 1 false (3, 167) (1, 2) (3, 165) (3, 166) = true := by decide +kernel
theorem am_c13 : am_ckc am_m13 0 false (3, 171) (1, 2) (3, 169) (3, 170) = true := by decide +kernel
theorem am_c14 : am_ckc am_m14 0 false (3, 214) (1, 2) (3, 212) (3, 213) = true := by decide +kernel
theorem am_c15 : am_ckc am_m15 1 false (4, 0) (1, 2) (3, 238) (3, 239) = true := by decide +kernel
theorem am_c16 : am_ckc am_m16 2 false (3, 181) (1, 2) (3, 179) (3, 180) = true := by decide +kernel
theorem am_c17 : am_ckc am_m17 0 false (3, 185) (1, 2) (3, 183) (3, 184) = true := by decide +kernel
theorem am_c18 : am_ckc am_m18 1 false (5, 11) (1, 2) (5, 9) (5, 10) = true := by decide +kernel
theorem am_c19 : am_ckc am_m19 1 false (3, 189) (1, 2) (3, 188) (0, 13) = true := by decide +kernel
theorem am_c20 : am_ckc am_m20 2 false (2, 203) (1, 2) (2, 201) (2, 202) = true := by decide +kernel
theorem am_c21 : am_ckc am_m21 3 false (2, 211) (1, 2) (2, 210) (0, 8) = true := by decide +kernel
theorem am_c22 : am_ckc am_m22 1 false (1, 120) (1, 6) (1, 119) (0, 0) = true := by decide +kernel
theorem am_c23 : am_ckc am_m23 1 false (2, 147) (1, 6) (2, 145) (2, 146) = true := by decide +kernel
theorem am_c24 : am_ckc am_m24 1 false (2, 199) (1, 6) (2, 197) (2, 198) = true := by decide +kernel
theorem am_c25 : am_ckc am_m25 1 false (3, 236) (1, 6) (3, 234) (3, 235) = true := by decide +kernel
theorem am_c26 : am_ckc am_m26 1 false (3, 201) (1, 6) (3, 199) (3, 200) = true := by decide +kernel
theorem am_c27 : am_ckc am_m27 0 false (2, 137) (1, 6) (2, 135) (2, 136) = true := by decide +kernel
theorem am_c28 : am_ckc am_m28 0 false (4, 76) (1, 6) (4, 74) (4, 75) = true := by decide +kernel
theorem am_c29 : am_ckc am_m29 2 false (1, 149) (1, 7) (1, 148) (0, 0) = true := by decide +kernel
theorem am_c30 : am_ckc am_m30 2 false (4, 220) (1, 7) (4, 218) (4, 219) = true := by decide +kernel
theorem am_c31 : am_ckc am_m31 1 false (2, 173) (1, 7) (2, 171) (2, 172) = true := by decide +kernel
theorem am_c32 : am_ckc am_m32 1 false (2, 219) (1, 7) (2, 217) (2, 218) = true := by decide +kernel
theorem am_c33 : am_ckc am_m33 1 false (3, 3) (1, 7) (3, 1) (3, 2) = true := by decide +kernel
theorem am_c34 : am_ckc am_m34 1 false (3, 120) (1, 7) (3, 118) (3, 119) = true := by decide +kernel
theorem am_c35 : am_ckc am_m35 1 false (2, 155) (1, 7) (2, 153) (2, 154) = true := by decide +kernel
theorem am_c36 : am_ckc am_m36 3 false (2, 169) (1, 7) (2, 167) (2, 168) = true := by decide +kernel
theorem am_c37 : am_ckc am_m37 2 false (2, 177) (1, 7) (2, 175) (2, 176) = true := by decide +kernel
theorem am_c38 : am_ckc am_m38 2 false (2, 195) (1, 7) (2, 193) (2, 194) = true := by decide +kernel
theorem am_c39 : am_ckc am_m39 2 false (2, 215) (1, 7) (2, 213) (2, 214) = true := by decide +kernel
theorem am_c40 : am_ckc am_m40 2 false (2, 227) (1, 7) (2, 225) (2, 226) = true := by decide +kernel
theorem am_c41 : am_ckc am_m41 2 false (2, 235) (1, 7) (2, 233) (2, 234) = true := by decide +kernel
theorem am_c42 : am_ckc am_m42 1 false (2, 164) (1, 7) (2, 163) (0, 4) = true := by decide +kernel
theorem am_c43 : am_ckc am_m43 4 false (2, 181) (1, 7) (2, 180) (0, 5) = true := by decide +kernel
theorem am_c44 : am_ckc am_m44 0 false (2, 187) (1, 7) (2, 186) (0, 6) = true := by decide +kernel
theorem am_c45 : am_ckc am_m45 3 false (2, 191) (1, 7) (2, 190) (0, 7) = true := by decide +kernel
theorem am_c46 : am_ckc am_m46 2 false (2, 231) (1, 7) (2, 230) (0, 9) = true := by decide +kernel
theorem am_c47 : am_ckc am_m47 2 false (3, 17) (1, 7) (3, 15) (3, 16) = true := by decide +kernel
theorem am_c48 : am_ckc am_m48 4 false (3, 60) (1, 13) (3, 59) (0, 0) = true := by decide +kernel
theorem am_c49 : am_ckc am_m49 1 false (1, 205) (1, 8) (1, 204) (0, 0) = true := by decide +kernel
theorem am_c50 : am_ckc am_m50 1 false (4, 67) (1, 8) (4, 65) (4, 66) = true := by decide +kernel
theorem am_c51 : am_ckc am_m51 2 false (3, 12) (1, 8) (3, 10) (3, 11) = true := by decide +kernel
theorem am_c52 : am_ckc am_m52 1 false (3, 7) (1, 8) (3, 5) (3, 6) = true := by decide +kernel
theorem am_c53 : am_ckc am_m53 2 false (4, 4) (1, 8) (4, 2) (4, 3) = true := by decide +kernel
theorem am_c54 : am_ckc am_m54 2 false (3, 96) (1, 8) (3, 94) (3, 95) = true := by decide +kernel
theorem am_c55 : am_ckc am_m55 2 false (3, 193) (1, 8) (3, 191) (3, 192) = true := by decide +kernel
theorem am_c56 : am_ckc am_m56 5 false (3, 129) (1, 8) (3, 127) (3, 128) = true := by decide +kernel
theorem am_c57 : am_ckc am_m57 0 false (3, 105) (1, 8) (3, 103) (3, 104) = true := by decide +kernel
theorem am_c58 : am_ckc am_m58 0 false (3, 26) (1, 8) (3, 24) (3, 25) = true := by decide +kernel
theorem am_c59 : am_ckc am_m59 2 false (3, 30) (1, 8) (3, 29) (0, 10) = true := by decide +kernel
theorem am_c60 : am_ckc am_m60 4 false (3, 82) (1, 8) (3, 80) (3, 81) = true := by decide +kernel
theorem am_c61 : am_ckc am_m61 2 false (3, 91) (1, 8) (3, 89) (3, 90) = true := by decide +kernel
theorem am_c62 : am_ckc am_m62 1 false (3, 57) (1, 8) (3, 55) (3, 56) = true := by decide +kernel
theorem am_c63 : am_ckc am_m63 1 false (3, 51) (1, 8) (3, 49) (3, 50) = true := by decide +kernel
theorem am_c64 : am_ckc am_m64 4 false (3, 124) (1, 8) (3, 122) (3, 123) = true := by decide +kernel
theorem am_c65 : am_ckc am_m65 2 false (3, 205) (1, 8) (3, 203) (3, 204) = true := by decide +kernel
theorem am_c66 : am_ckc am_m66 2 false (3, 163) (1, 8) (3, 161) (3, 162) = true := by decide +kernel
theorem am_c67 : am_ckc am_m67 3 false (2, 9) (1, 9) (2, 8) (0, 0) = true := by decide +kernel
theorem am_c68 : am_ckc am_m68 1 false (3, 43) (1, 9) (3, 41) (3, 42) = true := by decide +kernel
theorem am_c69 : am_ckc am_m69 1 false (3, 47) (1, 9) (3, 45) (3, 46) = true := by decide +kernel
theorem am_c70 : am_ckc am_m70 1 false (3, 227) (1, 9) (3, 225) (3, 226) = true := by decide +kernel
theorem am_c71 : am_ckc am_m71 3 false (4, 173) (1, 9) (4, 171) (4, 172) = true := by decide +kernel
theorem am_c72 : am_ckc am_m72 1 false (4, 200) (1, 9) (4, 198) (4, 199) = true := by decide +kernel
theorem am_c73 : am_ckc am_m73 1 false (4, 63) (1, 9) (4, 61) (4, 62) = true := by decide +kernel
theorem am_c74 : am_ckc am_m74 2 false (3, 86) (1, 9) (3, 84) (3, 85) = true := by decide +kernel
theorem am_c75 : am_ckc am_m75 0 false (3, 100) (1, 9) (3, 98) (3, 99) = true := by decide +kernel
theorem am_c76 : am_ckc am_m76 0 false (3, 22) (1, 9) (3, 20) (3, 21) = true := by decide +kernel
theorem am_c77 : am_ckc am_m77 0 false (3, 218) (1, 9) (3, 216) (3, 217) = true := by decide +kernel
theorem am_c78 : am_ckc am_m78 5 false (2, 49) (1, 10) (2, 48) (0, 0) = true := by decide +kernel
theorem am_c79 : am_ckc am_m79 1 false (2, 239) (1, 10) (2, 237) (2, 238) = true := by decide +kernel
theorem am_c80 : am_ckc am_m80 2 false (3, 35) (1, 10) (3, 33) (3, 34) = true := by decide +kernel
theorem am_c81 : am_ckc am_m81 2 false (3, 110) (1, 10) (3, 108) (3, 109) = true := by decide +kernel
theorem am_c82 : am_ckc am_m82 2 false (3, 116) (1, 10) (3, 114) (3, 115) = true := by decide +kernel
theorem am_c83 : am_ckc am_m83 1 false (3, 133) (1, 10) (3, 131) (3, 132) = true := by decide +kernel
theorem am_c84 : am_ckc am_m84 1 false (3, 137) (1, 10) (3, 135) (3, 136) = true := by decide +kernel
theorem am_c85 : am_ckc am_m85 2 false (3, 142) (1, 10) (3, 140) (3, 141) = true := by decide +kernel
theorem am_c86 : am_ckc am_m86 2 false (3, 146) (1, 10) (3, 144) (3, 145) = true := by decide +kernel
theorem am_c87 : am_ckc am_m87 3 false (3, 150) (1, 10) (3, 148) (3, 149) = true := by decide +kernel
theorem am_c88 : am_ckc am_m88 3 false (3, 154) (1, 10) (3, 153) (0, 12) = true := by decide +kernel
theorem am_c89 : am_ckc am_m89 4 false (3, 158) (1, 10) (3, 156) (3, 157) = true := by decide +kernel
theorem am_c90 : am_ckc am_m90 4 true (3, 177) (1, 10) (3, 176) (0, 0) = true := by decide +kernel
theorem am_c91 : am_ckc am_m91 1 false (3, 197) (1, 10) (3, 195) (3, 196) = true := by decide +kernel
theorem am_c92 : am_ckc am_m92 3 false (3, 209) (1, 10) (3, 208) (0, 14) = true := by decide +kernel
theorem am_c93 : am_ckc am_m93 1 false (3, 223) (1, 10) (3, 221) (3, 222) = true := by decide +kernel
theorem am_c94 : am_ckc am_m94 2 false (3, 232) (1, 10) (3, 231) (0, 15) = true := by decide +kernel
theorem am_c95 : am_ckc am_m95 1 false (3, 39) (1, 10) (3, 38) (0, 11) = true := by decide +kernel
theorem am_c96 : am_ckc am_m96 2 false (2, 71) (1, 11) (2, 70) (0, 0) = true := by decide +kernel
theorem am_c97 : am_ckc am_m97 1 false (4, 13) (1, 11) (4, 11) (4, 12) = true := by decide +kernel
theorem am_c98 : am_ckc am_m98 2 false (4, 23) (1, 11) (4, 22) (0, 16) = true := by decide +kernel
theorem am_c99 : am_ckc am_m99 2 false (4, 56) (1, 11) (4, 55) (0, 23) = true := by decide +kernel
theorem am_c100 : am_ckc am_m100 4 false (4, 38) (1, 11) (4, 37) (0, 19) = true := by decide +kernel
theorem am_c101 : am_ckc am_m101 3 false (4, 48) (1, 11) (4, 47) (0, 21) = true := by decide +kernel
theorem am_c102 : am_ckc am_m102 3 false (4, 52) (1, 11) (4, 51) (0, 22) = true := by decide +kernel
theorem am_c103 : am_ckc am_m103 3 false (4, 43) (1, 11) (4, 42) (0, 20) = true := by decide +kernel
theorem am_c104 : am_ckc am_m104 1 false (4, 31) (1, 11) (4, 30) (0, 18) = true := by decide +kernel
theorem am_c105 : am_ckc am_m105 1 false (4, 27) (1, 11) (4, 26) (0, 17) = true := by decide +kernel
theorem am_c106 : am_ckc am_m106 0 false (1, 24) (1, 1) (1, 23) (0, 0) = true := by decide +kernel
theorem am_c107 : am_ckc am_m107 1 false (2, 125) (1, 1) (2, 123) (2, 124) = true := by decide +kernel
theorem am_c108 : am_ckc am_m108 0 false (2, 133) (1, 1) (2, 131) (2, 132) = true := by decide +kernel
theorem am_c109 : am_ckc am_m109 0 false (4, 80) (1, 1) (4, 78) (4, 79) = true := by decide +kernel
theorem am_c110 : am_ckc am_m110 0 false (4, 84) (1, 1) (4, 82) (4, 83) = true := by decide +kernel
theorem am_c111 : am_ckc am_m111 1 false (4, 92) (1, 1) (4, 90) (4, 91) = true := by decide +kernel
theorem am_c112 : am_ckc am_m112 3 false (4, 169) (1, 1) (4, 167) (4, 168) = true := by decide +kernel
theorem am_c113 : am_ckc am_m113 4 false (4, 183) (1, 1) (4, 181) (4, 182) = true := by decide +kernel
theorem am_c114 : am_ckc am_m114 1 false (4, 196) (1, 1) (4, 194) (4, 195) = true := by decide +kernel
theorem am_c115 : am_ckc am_m115 2 false (4, 228) (1, 1) (4, 226) (4, 227) = true := by decide +kernel
theorem am_c116 : am_ckc am_m116 1 false (2, 141) (1, 1) (2, 140) (0, 2) = true := by decide +kernel
theorem am_c117 : am_ckc am_m117 1 false (2, 151) (1, 1) (2, 150) (0, 3) = true := by decide +kernel
theorem am_c118 : am_ckc am_m118 1 true (2, 128) (1, 1) (2, 127) (0, 0) = true := by decide +kernel
theorem am_c119 : am_ckc am_m119 2 true (1, 58) (1, 1) (1, 57) (0, 0) = true := by decide +kernel
theorem am_c120 : am_ckc am_m120 1 true (2, 158) (1, 1) (2, 157) (0, 0) = true := by decide +kernel
theorem am_c121 : am_ckc am_m121 0 false (5, 18) (1, 12) (5, 17) (0, 0) = true := by decide +kernel
theorem am_c122 : am_ckc am_m122 0 false (5, 204) (1, 12) (5, 202) (5, 203) = true := by decide +kernel
theorem am_c123 : am_ckc am_m123 2 true (5, 224) (1, 12) (5, 223) (0, 0) = true := by decide +kernel
theorem am_c124 : am_ckc am_m124 1 false (5, 32) (1, 12) (5, 31) (0, 26) = true := by decide +kernel
theorem am_c125 : am_ckc am_m125 4 true (5, 28) (1, 12) (5, 27) (0, 0) = true := by decide +kernel
theorem am_c126 : am_ckc am_m126 3 false (5, 25) (1, 12) (5, 24) (0, 25) = true := by decide +kernel
theorem am_c127 : am_ckc am_m127 0 false (5, 36) (1, 12) (5, 35) (0, 27) = true := by decide +kernel
theorem am_c128 : am_ckc am_m128 2 false (5, 40) (1, 12) (5, 39) (0, 28) = true := by decide +kernel
theorem am_c129 : am_ckc am_m129 2 false (6, 28) (1, 12) (6, 27) (0, 41) = true := by decide +kernel
theorem am_c130 : am_ckc am_m130 1 false (6, 144) (1, 12) (6, 143) (0, 70) = true := by decide +kernel
theorem am_c131 : am_ckc am_m131 4 false (6, 12) (1, 12) (6, 11) (0, 37) = true := by decide +kernel
theorem am_c132 : am_ckc am_m132 2 false (6, 152) (1, 12) (6, 151) (0, 72) = true := by decide +kernel
theorem am_c133 : am_ckc am_m133 2 false (6, 52) (1, 12) (6, 51) (0, 47) = true := by decide +kernel
theorem am_c134 : am_ckc am_m134 2 false (6, 4) (1, 12) (6, 3) (0, 35) = true := by decide +kernel
theorem am_c135 : am_ckc am_m135 2 false (6, 8) (1, 12) (6, 7) (0, 36) = true := by decide +kernel
theorem am_c136 : am_ckc am_m136 2 false (6, 24) (1, 12) (6, 23) (0, 40) = true := by decide +kernel
theorem am_c137 : am_ckc am_m137 3 false (6, 120) (1, 12) (6, 119) (0, 64) = true := by decide +kernel
theorem am_c138 : am_ckc am_m138 2 false (6, 116) (1, 12) (6, 115) (0, 63) = true := by decide +kernel
theorem am_c139 : am_ckc am_m139 3 false (6, 64) (1, 12) (6, 63) (0, 50) = true := by decide +kernel
theorem am_c140 : am_ckc am_m140 3 false (6, 128) (1, 12) (6, 127) (0, 66) = true := by decide +kernel
theorem am_c141 : am_ckc am_m141 1 false (6, 140) (1, 12) (6, 139) (0, 69) = true := by decide +kernel
theorem am_c142 : am_ckc am_m142 2 false (6, 112) (1, 12) (6, 111) (0, 62) = true := by decide +kernel
theorem am_c143 : am_ckc am_m143 3 false (6, 20) (1, 12) (6, 19) (0, 39) = true := by decide +kernel
theorem am_c144 : am_ckc am_m144 2 false (6, 48) (1, 12) (6, 47) (0, 46) = true := by decide +kernel
theorem am_c145 : am_ckc am_m145 1 false (6, 96) (1, 12) (6, 95) (0, 58) = true := by decide +kernel
theorem am_c146 : am_ckc am_m146 1 false (6, 104) (1, 12) (6, 103) (0, 60) = true := by decide +kernel
theorem am_c147 : am_ckc am_m147 0 false (5, 216) (1, 12) (5, 215) (0, 29) = true := by decide +kernel
theorem am_c148 : am_ckc am_m148 0 false (5, 232) (1, 12) (5, 231) (0, 32) = true := by decide +kernel
theorem am_c149 : am_ckc am_m149 0 false (6, 0) (1, 12) (5, 239) (0, 34) = true := by decide +kernel
theorem am_c150 : am_ckc am_m150 0 false (6, 36) (1, 12) (6, 35) (0, 43) = true := by decide +kernel
theorem am_c151 : am_ckc am_m151 0 false (6, 84) (1, 12) (6, 83) (0, 55) = true := by decide +kernel
theorem am_c152 : am_ckc am_m152 1 false (5, 228) (1, 12) (5, 227) (0, 31) = true := by decide +kernel
theorem am_c153 : am_ckc am_m153 1 false (6, 16) (1, 12) (6, 15) (0, 38) = true := by decide +kernel
theorem am_c154 : am_ckc am_m154 1 false (5, 220) (1, 12) (5, 219) (0, 30) = true := by decide +kernel
theorem am_c155 : am_ckc am_m155 1 false (5, 236) (1, 12) (5, 235) (0, 33) = true := by decide +kernel
theorem am_c156 : am_ckc am_m156 1 false (6, 68) (1, 12) (6, 67) (0, 51) = true := by decide +kernel
theorem am_c157 : am_ckc am_m157 2 false (6, 92) (1, 12) (6, 91) (0, 57) = true := by decide +kernel
theorem am_c158 : am_ckc am_m158 0 false (6, 44) (1, 12) (6, 43) (0, 45) = true := by decide +kernel
theorem am_c159 : am_ckc am_m159 2 false (6, 56) (1, 12) (6, 55) (0, 48) = true := by decide +kernel
theorem am_c160 : am_ckc am_m160 1 false (6, 60) (1, 12) (6, 59) (0, 49) = true := by decide +kernel
theorem am_c161 : am_ckc am_m161 2 false (6, 100) (1, 12) (6, 99) (0, 59) = true := by decide +kernel
theorem am_c162 : am_ckc am_m162 1 false (6, 32) (1, 12) (6, 31) (0, 42) = true := by decide +kernel
theorem am_c163 : am_ckc am_m163 2 false (6, 40) (1, 12) (6, 39) (0, 44) = true := by decide +kernel
theorem am_c164 : am_ckc am_m164 3 false (6, 88) (1, 12) (6, 87) (0, 56) = true := by decide +kernel
theorem am_c165 : am_ckc am_m165 2 false (6, 108) (1, 12) (6, 107) (0, 61) = true := by decide +kernel
theorem am_c166 : am_ckc am_m166 0 false (6, 124) (1, 12) (6, 123) (0, 65) = true := by decide +kernel
theorem am_c167 : am_ckc am_m167 0 false (6, 132) (1, 12) (6, 131) (0, 67) = true := by decide +kernel
theorem am_c168 : am_ckc am_m168 1 false (6, 136) (1, 12) (6, 135) (0, 68) = true := by decide +kernel
theorem am_c169 : am_ckc am_m169 1 false (6, 80) (1, 12) (6, 79) (0, 54) = true := by decide +kernel
theorem am_c170 : am_ckc am_m170 1 false (6, 76) (1, 12) (6, 75) (0, 53) = true := by decide +kernel
theorem am_c171 : am_ckc am_m171 1 false (6, 72) (1, 12) (6, 71) (0, 52) = true := by decide +kernel
theorem am_c172 : am_ckc am_m172 1 false (6, 148) (1, 12) (6, 147) (0, 71) = true := by decide +kernel
theorem am_c173 : am_ckc am_m173 2 false (6, 184) (1, 12) (6, 183) (0, 80) = true := by decide +kernel
theorem am_c174 : am_ckc am_m174 0 false (6, 180) (1, 12) (6, 179) (0, 79) = true := by decide +kernel
theorem am_c175 : am_ckc am_m175 2 false (6, 176) (1, 12) (6, 175) (0, 78) = true := by decide +kernel
theorem am_c176 : am_ckc am_m176 2 false (6, 172) (1, 12) (6, 171) (0, 77) = true := by decide +kernel
theorem am_c177 : am_ckc am_m177 2 false (6, 192) (1, 12) (6, 191) (0, 82) = true := by decide +kernel
theorem am_c178 : am_ckc am_m178 1 false (6, 168) (1, 12) (6, 167) (0, 76) = true := by decide +kernel
theorem am_c179 : am_ckc am_m179 2 false (6, 200) (1, 12) (6, 199) (0, 84) = true := by decide +kernel
theorem am_c180 : am_ckc am_m180 1 false (6, 196) (1, 12) (6, 195) (0, 83) = true := by decide +kernel
theorem am_c181 : am_ckc am_m181 0 false (6, 160) (1, 12) (6, 159) (0, 74) = true := by decide +kernel
theorem am_c182 : am_ckc am_m182 0 false (6, 164) (1, 12) (6, 163) (0, 75) = true := by decide +kernel
theorem am_c183 : am_ckc am_m183 0 false (6, 188) (1, 12) (6, 187) (0, 81) = true := by decide +kernel
theorem am_c184 : am_ckc am_m184 1 false (6, 156) (1, 12) (6, 155) (0, 73) = true := by decide +kernel
theorem am_c185 : am_ckc am_m185 1 false (5, 208) (1, 12) (5, 206) (5, 207) = true := by decide +kernel
theorem am_c186 : am_ckc am_m186 1 false (6, 208) (1, 12) (6, 207) (0, 86) = true := by decide +kernel
theorem am_c187 : am_ckc am_m187 1 false (6, 204) (1, 12) (6, 203) (0, 85) = true := by decide +kernel
theorem am_c188 : am_ckc am_m188 0 false (5, 212) (1, 12) (5, 210) (5, 211) = true := by decide +kernel
theorem am_c189 : am_ckc am_m189 0 false (6, 212) (1, 12) (6, 210) (6, 211) = true := by decide +kernel
theorem am_c190 : am_ckc am_m190 0 false (6, 216) (1, 12) (6, 214) (6, 215) = true := by decide +kernel
theorem am_c191 : am_ckc am_m191 1 false (6, 220) (1, 12) (6, 218) (6, 219) = true := by decide +kernel
theorem am_c192 : am_ckc am_m192 2 false (6, 232) (1, 12) (6, 231) (0, 88) = true := by decide +kernel
theorem am_c193 : am_ckc am_m193 3 false (6, 228) (1, 12) (6, 227) (0, 87) = true := by decide +kernel
theorem am_c194 : am_ckc am_m194 3 false (6, 224) (1, 12) (6, 222) (6, 223) = true := by decide +kernel
theorem am_c195 : am_ckc am_m195 4 false (6, 236) (1, 12) (6, 234) (6, 235) = true := by decide +kernel
theorem am_c196 : am_ckc am_m196 1 false (7, 4) (1, 12) (7, 3) (0, 89) = true := by decide +kernel
theorem am_c197 : am_ckc am_m197 1 false (7, 8) (1, 12) (7, 7) (0, 90) = true := by decide +kernel
theorem am_c198 : am_ckc am_m198 1 false (7, 0) (1, 12) (6, 238) (6, 239) = true := by decide +kernel
theorem am_c199 : am_ckc am_m199 3 false (7, 16) (1, 12) (7, 15) (0, 91) = true := by decide +kernel
theorem am_c200 : am_ckc am_m200 2 false (7, 12) (1, 12) (7, 10) (7, 11) = true := by decide +kernel
theorem am_cal_all : ∀ x M n isS, am_tb x = some M → am_hd x = some (n, isS) → am_cal M n isS := by
  intro x M n isS hM hh
  match x, hM, hh with
  | 0, hM, hh => cases hM; cases hh; exact am_ckc_ok am_c0
  | 1, hM, hh => cases hM; cases hh; exact am_ckc_ok am_c1
  | 2, hM, hh => cases hM; cases hh; exact am_ckc_ok am_c2
  | 3, hM, hh => cases hM; cases hh; exact am_ckc_ok am_c3
  | 4, hM, hh => cases hM; cases hh; exact am_ckc_ok am_c4
  | 5, hM, hh => cases hM; cases hh; exact am_ckc_ok am_c5
  | 6, hM, hh => cases hM; cases hh; exact am_ckc_ok am_c6
  | 7, hM, hh => cases hM; cases hh; exact am_ckc_ok am_c7
  | 8, hM, hh => cases hM; cases hh; exact am_ckc_ok am_c8
  | 9, hM, hh => cases hM; cases hh; exact am_ckc_ok am_c9
  | 10, hM, hh => cases hM; cases hh; exact am_ckc_ok am_c10
  | 11, hM, hh => cases hM; cases hh; exact am_ckc_ok am_c11
  | 12, hM, hh => cases hM; cases hh; exact am_ckc_ok am_c12
  | 13, hM, hh => cases hM; cases hh; exact am_ckc_ok am_c13
  | 14, hM, hh => cases hM; cases hh; exact am_ckc_ok am_c14
  | 15, hM, hh => cases hM; cases hh; exact am_ckc_ok am_c15
  | 16, hM, hh => cases hM; cases hh; exact am_ckc_ok am_c16
  | 17, hM, hh => cases hM; cases hh; exact am_ckc_ok am_c17
  | 18, hM, hh => cases hM; cases hh; exact am_ckc_ok am_c18
  | 19, hM, hh => cases hM; cases hh; exact am_ckc_ok am_c19
  | 20, hM, hh => cases hM; cases hh; exact am_ckc_ok am_c20
  | 21, hM, hh => cases hM; cases hh; exact am_ckc_ok am_c21
  | 22, hM, hh => cases hM; cases hh; exact am_ckc_ok am_c22
  | 23, hM, hh => cases hM; cases hh; exact am_ckc_ok am_c23
  | 24, hM, hh => cases hM; cases hh; exact am_ckc_ok am_c24
  | 25, hM, hh => cases hM; cases hh; exact am_ckc_ok am_c25
  | 26, hM, hh => cases hM; cases hh; exact am_ckc_ok am_c26
  | 27, hM, hh => cases hM; cases hh; exact am_ckc_ok am_c27
  | 28, hM, hh => cases hM; cases hh; exact am_ckc_ok am_c28
  | 29, hM, hh => cases hM; cases hh; exact am_ckc_ok am_c29
  | 30, hM, hh => cases hM; cases hh; exact am_ckc_ok am_c30
  | 31, hM, hh => cases hM; cases hh; exact am_ckc_ok am_c31
  | 32, hM, hh => cases hM; cases hh; exact am_ckc_ok am_c32
  | 33, hM, hh => cases hM; cases hh; exact am_ckc_ok am_c33
  | 34, hM, hh => cases hM; cases hh; exact am_ckc_ok am_c34
  | 35, hM, hh => cases hM; cases hh; exact am_ckc_ok am_c35
  | 36, hM, hh => cases hM; cases hh; exact am_ckc_ok am_c36
  | 37, hM, hh => cases hM; cases hh; exact am_ckc_ok am_c37
  | 38, hM, hh => cases hM; cases hh; exact am_ckc_ok am_c38
  | 39, hM, hh => cases hM; cases hh; exact am_ckc_ok am_c39
  | 40, hM, hh => cases hM; cases hh; exact am_ckc_ok am_c40
  | 41, hM, hh => cases hM; cases hh; exact am_ckc_ok am_c41
  | 42, hM, hh => cases hM; cases hh; exact am_ckc_ok am_c42
  | 43, hM, hh => cases hM; cases hh; exact am_ckc_ok am_c43
  | 44, hM, hh => cases hM; cases hh; exact am_ckc_ok am_c44
  | 45, hM, hh => cases hM; cases hh; exact am_ckc_ok am_c45
  | 46, hM, hh => cases hM; cases hh; exact am_ckc_ok am_c46
  | 47, hM, hh => cases hM; cases hh; exact am_ckc_ok am_c47
  | 48, hM, hh => cases hM; cases hh; exact am_ckc_ok am_c48
  | 49, hM, hh => cases hM; cases hh; exact am_ckc_ok am_c49
  | 50, hM, hh => cases hM; cases hh; exact am_ckc_ok am_c50
  | 51, hM, hh => cases hM; cases hh; exact am_ckc_ok am_c51
  | 52, hM, hh => cases hM; cases hh; exact am_ckc_ok am_c52
  | 53, hM, hh => cases hM; cases hh; exact am_ckc_ok am_c53
  | 54, hM, hh => cases hM; cases hh; exact am_ckc_ok am_c54
  | 55, hM, hh => cases hM; cases hh; exact am_ckc_ok am_c55
  | 56, hM, hh => cases hM; cases hh; exact am_ckc_ok am_c56
  | 57, hM, hh => cases hM; cases hh; exact am_ckc_ok am_c57
  | 58, hM, hh => cases hM; cases hh; exact am_ckc_ok am_c58
  | 59, hM, hh => cases hM; cases hh; exact am_ckc_ok am_c59
  | 60, hM, hh => cases hM; cases hh; exact am_ckc_ok am_c60
  | 61, hM, hh => cases hM; cases hh; exact am_ckc_ok am_c61
  | 62, hM, hh => cases hM; cases hh; exact am_ckc_ok am_c62
  | 63, hM, hh => cases hM; cases hh; exact am_ckc_ok am_c63
  | 64, hM, hh => cases hM; cases hh; exact am_ckc_ok am_c64
  | 65, hM, hh => cases hM; cases hh; exact am_ckc_ok am_c65
  | 66, hM, hh => cases hM; cases hh; exact am_ckc_ok am_c66
  | 67, hM, hh => cases hM; cases hh; exact am_ckc_ok am_c67
  | 68, hM, hh => cases hM; cases hh; exact am_ckc_ok am_c68
  | 69, hM, hh => cases hM; cases hh; exact am_ckc_ok am_c69
  | 70, hM, hh => cases hM; cases hh; exact am_ckc_ok am_c70
  | 71, hM, hh => cases hM; cases hh; exact am_ckc_ok am_c71
  | 72, hM, hh => cases hM; cases hh; exact am_ckc_ok am_c72
  | 73, hM, hh => cases hM; cases hh; exact am_ckc_ok am_c73
  | 74, hM, hh => cases hM; cases hh; exact am_ckc_ok am_c74
  | 75, hM, hh => cases hM; cases hh; exact am_ckc_ok am_c75
  | 76, hM, hh => cases hM; cases hh; exact am_ckc_ok am_c76
  | 77, hM, hh => cases hM; cases hh; exact am_ckc_ok am_c77
  | 78, hM, hh => cases hM; cases hh; exact am_ckc_ok am_c78
  | 79, hM, hh => cases hM; cases hh; exact am_ckc_ok am_c79
  | 80, hM, hh => cases hM; cases hh; exact am_ckc_ok am_c80
  | 81, hM, hh => cases hM; cases hh; exact am_ckc_ok am_c81
  | 82, hM, hh => cases hM; cases hh; exact am_ckc_ok am_c82
  | 83, hM, hh => cases hM; cases hh; exact am_ckc_ok am_c83
  | 84, hM, hh => cases hM; cases hh; exact am_ckc_ok am_c84
  | 85, hM, hh => cases hM; cases hh; exact am_ckc_ok am_c85
  | 86, hM, hh => cases hM; cases hh; exact am_ckc_ok am_c86
  | 87, hM, hh => cases hM; cases hh; exact am_ckc_ok am_c87
  | 88, hM, hh => cases hM; cases hh; exact am_ckc_ok am_c88
  | 89, hM, hh => cases hM; cases hh; exact am_ckc_ok am_c89
  | 90, hM, hh => cases hM; cases hh; exact am_ckc_ok am_c90
  | 91, hM, hh => cases hM; cases hh; exact am_ckc_ok am_c91
  | 92, hM, hh => cases hM; cases hh; exact am_ckc_ok am_c92
  | 93, hM, hh => cases hM; cases hh; exact am_ckc_ok am_c93
  | 94, hM, hh => cases hM; cases hh; exact am_ckc_ok am_c94
  | 95, hM, hh => cases hM; cases hh; exact am_ckc_ok am_c95
  | 96, hM, hh => cases hM; cases hh; exact am_ckc_ok am_c96
  | 97, hM, hh => cases hM; cases hh; exact am_ckc_ok am_c97
  | 98, hM, hh => cases hM; cases hh; exact am_ckc_ok am_c98
  | 99, hM, hh => cases hM; cases hh; exact am_ckc_ok am_c99
  | 100, hM, hh => cases hM; cases hh; exact am_ckc_ok am_c100
  | 101, hM, hh => cases hM; cases hh; exact am_ckc_ok am_c101
  | 102, hM, hh => cases hM; cases hh; exact am_ckc_ok am_c102
  | 103, hM, hh => cases hM; cases hh; exact am_ckc_ok am_c103
  | 104, hM, hh => cases hM; cases hh; exact am_ckc_ok am_c104
  | 105, hM, hh => cases hM; cases hh; exact am_ckc_ok am_c105
  | 106, hM, hh => cases hM; cases hh; exact am_ckc_ok am_c106
  | 107, hM, hh => cases hM; cases hh; exact am_ckc_ok am_c107
  | 108, hM, hh => cases hM; cases hh; exact am_ckc_ok am_c108
  | 109, hM, hh => cases hM; cases hh; exact am_ckc_ok am_c109
  | 110, hM, hh => cases hM; cases hh; exact am_ckc_ok am_c110
  | 111, hM, hh => cases hM; cases hh; exact am_ckc_ok am_c111
  | 112, hM, hh => cases hM; cases hh; exact am_ckc_ok am_c112
  | 113, hM, hh => cases hM; cases hh; exact am_ckc_ok am_c113
  | 114, hM, hh => cases hM; cases hh; exact am_ckc_ok am_c114
  | 115, hM, hh => cases hM; cases hh; exact am_ckc_ok am_c115
  | 116, hM, hh => cases hM; cases hh; exact am_ckc_ok am_c116
  | 117, hM, hh => cases hM; cases hh; exact am_ckc_ok am_c117
  | 118, hM, hh => cases hM; cases hh; exact am_ckc_ok am_c118
  | 119, hM, hh => cases hM; cases hh; exact am_ckc_ok am_c119
  | 120, hM, hh => cases hM; cases hh; exact am_ckc_ok am_c120
  | 121, hM, hh => cases hM; cases hh; exact am_ckc_ok am_c121
  | 122, hM, hh => cases hM; cases hh; exact am_ckc_ok am_c122
  | 123, hM, hh => cases hM; cases hh; exact am_ckc_ok am_c123
  | 124, hM, hh => cases hM; cases hh; exact am_ckc_ok am_c124
  | 125, hM, hh => cases hM; cases hh; exact am_ckc_ok am_c125
  | 126, hM, hh => cases hM; cases hh; exact am_ckc_ok am_c126
  | 127, hM, hh => cases hM; cases hh; exact am_ckc_ok am_c127
  | 128, hM, hh => cases hM; cases hh; exact am_ckc_ok am_c128
  | 129, hM, hh => cases hM; cases hh; exact am_ckc_ok am_c129
  | 130, hM, hh => cases hM; cases hh; exact am_ckc_ok am_c130
  | 131, hM, hh => cases hM; cases hh; exact am_ckc_ok am_c131
  | 132, hM, hh => cases hM; cases hh; exact am_ckc_ok am_c132
  | 133, hM, hh => cases hM; cases hh; exact am_ckc_ok am_c133
  | 134, hM, hh => cases hM; cases hh; exact am_ckc_ok am_c134
  | 135, hM, hh => cases hM; cases hh; exact am_ckc_ok am_c135
  | 136, hM, hh => cases hM; cases hh; exact am_ckc_ok am_c136
  | 137, hM, hh => cases hM; cases hh; exact am_ckc_ok am_c137
  | 138, hM, hh => cases hM; cases hh; exact am_ckc_ok am_c138
  | 139, hM, hh => cases hM; cases hh; exact am_ckc_ok am_c139
  | 140, hM, hh => cases hM; cases hh; exact am_ckc_ok am_c140
  | 141, hM, hh => cases hM; cases hh; exact am_ckc_ok am_c141
  | 142, hM, hh => cases hM; cases hh; exact am_ckc_ok am_c142
  | 143, hM, hh => cases hM; cases hh; exact am_ckc_ok am_c143
  | 144, hM, hh => cases hM; cases hh; exact am_ckc_ok am_c144
  | 145, hM, hh => cases hM; cases hh; exact am_ckc_ok am_c145
  | 146, hM, hh => cases hM; cases hh; exact am_ckc_ok am_c146
  | 147, hM, hh => cases hM; cases hh; exact am_ckc_ok am_c147
  | 148, hM, hh => cases hM; cases hh; exact am_ckc_ok am_c148
  | 149, hM, hh => cases hM; cases hh; exact am_ckc_ok am_c149
  | 150, hM, hh => cases hM; cases hh; exact am_ckc_ok am_c150
  | 151, hM, hh => cases hM; cases hh; exact am_ckc_ok am_c151
  | 152, hM, hh => cases hM; cases hh; exact am_ckc_ok am_c152
  | 153, hM, hh => cases hM; cases hh; exact am_ckc_ok am_c153
  | 154, hM, hh => cases hM; cases hh; exact am_ckc_ok am_c154
  | 155, hM, hh => cases hM; cases hh; exact am_ckc_ok am_c155
  | 156, hM, hh => cases hM; cases hh; exact am_ckc_ok am_c156
  | 157, hM, hh => cases hM; cases hh; exact am_ckc_ok am_c157
  | 158, hM, hh => cases hM; cases hh; exact am_ckc_ok am_c158
  | 159, hM, hh => cases hM; cases hh; exact am_ckc_ok am_c159
  | 160, hM, hh => cases hM; cases hh; exact am_ckc_ok am_c160
  | 161, hM, hh => cases hM; cases hh; exact am_ckc_ok am_c161
  | 162, hM, hh => cases hM; cases hh; exact am_ckc_ok am_c162
  | 163, hM, hh => cases hM; cases hh; exact am_ckc_ok am_c163
  | 164, hM, hh => cases hM; cases hh; exact am_ckc_ok am_c164
  | 165, hM, hh => cases hM; cases hh; exact am_ckc_ok am_c165
  | 166, hM, hh => cases hM; cases hh; exact am_ckc_ok am_c166
  | 167, hM, hh => cases hM; cases hh; exact am_ckc_ok am_c167
  | 168, hM, hh => cases hM; cases hh; exact am_ckc_ok am_c168
  | 169, hM, hh => cases hM; cases hh; exact am_ckc_ok am_c169
  | 170, hM, hh => cases hM; cases hh; exact am_ckc_ok am_c170
  | 171, hM, hh => cases hM; cases hh; exact am_ckc_ok am_c171
  | 172, hM, hh => cases hM; cases hh; exact am_ckc_ok am_c172
  | 173, hM, hh => cases hM; cases hh; exact am_ckc_ok am_c173
  | 174, hM, hh => cases hM; cases hh; exact am_ckc_ok am_c174
  | 175, hM, hh => cases hM; cases hh; exact am_ckc_ok am_c175
  | 176, hM, hh => cases hM; cases hh; exact am_ckc_ok am_c176
  | 177, hM, hh => cases hM; cases hh; exact am_ckc_ok am_c177
  | 178, hM, hh => cases hM; cases hh; exact am_ckc_ok am_c178
  | 179, hM, hh => cases hM; cases hh; exact am_ckc_ok am_c179
  | 180, hM, hh => cases hM; cases hh; exact am_ckc_ok am_c180
  | 181, hM, hh => cases hM; cases hh; exact am_ckc_ok am_c181
  | 182, hM, hh => cases hM; cases hh; exact am_ckc_ok am_c182
  | 183, hM, hh => cases hM; cases hh; exact am_ckc_ok am_c183
  | 184, hM, hh => cases hM; cases hh; exact am_ckc_ok am_c184
  | 185, hM, hh => cases hM; cases hh; exact am_ckc_ok am_c185
  | 186, hM, hh => cases hM; cases hh; exact am_ckc_ok am_c186
  | 187, hM, hh => cases hM; cases hh; exact am_ckc_ok am_c187
  | 188, hM, hh => cases hM; cases hh; exact am_ckc_ok am_c188
  | 189, hM, hh => cases hM; cases hh; exact am_ckc_ok am_c189
  | 190, hM, hh => cases hM; cases hh; exact am_ckc_ok am_c190
  | 191, hM, hh => cases hM; cases hh; exact am_ckc_ok am_c191
  | 192, hM, hh => cases hM; cases hh; exact am_ckc_ok am_c192
  | 193, hM, hh => cases hM; cases hh; exact am_ckc_ok am_c193
  | 194, hM, hh => cases hM; cases hh; exact am_ckc_ok am_c194
  | 195, hM, hh => cases hM; cases hh; exact am_ckc_ok am_c195
  | 196, hM, hh => cases hM; cases hh; exact am_ckc_ok am_c196
  | 197, hM, hh => cases hM; cases hh; exact am_ckc_ok am_c197
  | 198, hM, hh => cases hM; cases hh; exact am_ckc_ok am_c198
  | 199, hM, hh => cases hM; cases hh; exact am_ckc_ok am_c199
  | 200, hM, hh => cases hM; cases hh; exact am_ckc_ok am_c200
  | x + 201, hM, hh => exact absurd hM (by show ¬ am_Ms[x + 201]? = some M; rw [List.getElem?_eq_none (by show am_Ms.length ≤ x + 201; rw [show am_Ms.length = 201 from rfl]; omega)]; exact fun h => by cases h)
