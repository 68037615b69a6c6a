/-! The code words of every method, by their places -/
theorem so_c0 : so_cw 0 ∈ tables_1_2 := List.mem_of_getElem? (i := 21) rfl
theorem so_c1 : so_cw 1 ∈ tables_1_2 := List.mem_of_getElem? (i := 29) rfl
theorem so_c2 : so_cw 2 ∈ tables_1_2 := List.mem_of_getElem? (i := 204) rfl
theorem so_c3 : so_cw 3 ∈ tables_1_2 := List.mem_of_getElem? (i := 175) rfl
theorem so_c4 : so_cw 4 ∈ tables_1_3 := List.mem_of_getElem? (i := 59) rfl
theorem so_c5 : so_cw 5 ∈ tables_1_3 := List.mem_of_getElem? (i := 79) rfl
theorem so_c6 : so_cw 6 ∈ tables_1_3 := List.mem_of_getElem? (i := 128) rfl
theorem so_c7 : so_cw 7 ∈ tables_1_2 := List.mem_of_getElem? (i := 180) rfl
theorem so_c8 : so_cw 8 ∈ tables_1_2 := List.mem_of_getElem? (i := 195) rfl
theorem so_c9 : so_cw 9 ∈ tables_1_3 := List.mem_of_getElem? (i := 149) rfl
theorem so_c10 : so_cw 10 ∈ tables_1_4 := List.mem_of_getElem? (i := 3) rfl
theorem so_c11 : so_cw 11 ∈ tables_1_4 := List.mem_of_getElem? (i := 11) rfl
theorem so_c12 : so_cw 12 ∈ tables_1_4 := List.mem_of_getElem? (i := 19) rfl
theorem so_c13 : so_cw 13 ∈ tables_1_4 := List.mem_of_getElem? (i := 31) rfl
theorem so_c14 : so_cw 14 ∈ tables_1_4 := List.mem_of_getElem? (i := 46) rfl
theorem so_c15 : so_cw 15 ∈ tables_1_4 := List.mem_of_getElem? (i := 53) rfl
theorem so_c16 : so_cw 16 ∈ tables_1_4 := List.mem_of_getElem? (i := 68) rfl
theorem so_c17 : so_cw 17 ∈ tables_1_4 := List.mem_of_getElem? (i := 80) rfl
theorem so_c18 : so_cw 18 ∈ tables_1_4 := List.mem_of_getElem? (i := 87) rfl
theorem so_c19 : so_cw 19 ∈ tables_1_4 := List.mem_of_getElem? (i := 94) rfl
theorem so_c20 : so_cw 20 ∈ tables_1_4 := List.mem_of_getElem? (i := 180) rfl
theorem so_c21 : so_cw 21 ∈ tables_1_5 := List.mem_of_getElem? (i := 24) rfl
theorem so_c22 : so_cw 22 ∈ tables_1_5 := List.mem_of_getElem? (i := 31) rfl
theorem so_c23 : so_cw 23 ∈ tables_1_5 := List.mem_of_getElem? (i := 38) rfl
theorem so_c24 : so_cw 24 ∈ tables_1_5 := List.mem_of_getElem? (i := 46) rfl
theorem so_c25 : so_cw 25 ∈ tables_1_5 := List.mem_of_getElem? (i := 72) rfl
theorem so_c26 : so_cw 26 ∈ tables_1_3 := List.mem_of_getElem? (i := 153) rfl
theorem so_c27 : so_cw 27 ∈ tables_1_2 := List.mem_of_getElem? (i := 208) rfl
theorem so_c28 : so_cw 28 ∈ tables_1_4 := List.mem_of_getElem? (i := 35) rfl
theorem so_c29 : so_cw 29 ∈ tables_1_4 := List.mem_of_getElem? (i := 23) rfl
theorem so_c30 : so_cw 30 ∈ tables_1_5 := List.mem_of_getElem? (i := 50) rfl
theorem so_c31 : so_cw 31 ∈ tables_1_3 := List.mem_of_getElem? (i := 157) rfl
theorem so_c32 : so_cw 32 ∈ tables_1_4 := List.mem_of_getElem? (i := 57) rfl
theorem so_c33 : so_cw 33 ∈ tables_1_3 := List.mem_of_getElem? (i := 187) rfl
theorem so_c34 : so_cw 34 ∈ tables_1_5 := List.mem_of_getElem? (i := 9) rfl
theorem so_c35 : so_cw 35 ∈ tables_1_5 := List.mem_of_getElem? (i := 219) rfl
theorem so_c36 : so_cw 36 ∈ tables_1_5 := List.mem_of_getElem? (i := 231) rfl
theorem so_c37 : so_cw 37 ∈ tables_1_5 := List.mem_of_getElem? (i := 227) rfl
theorem so_c38 : so_cw 38 ∈ tables_1_6 := List.mem_of_getElem? (i := 3) rfl
theorem so_c39 : so_cw 39 ∈ tables_1_6 := List.mem_of_getElem? (i := 15) rfl
theorem so_c40 : so_cw 40 ∈ tables_1_5 := List.mem_of_getElem? (i := 239) rfl
theorem so_c41 : so_cw 41 ∈ tables_1_6 := List.mem_of_getElem? (i := 19) rfl
theorem so_c42 : so_cw 42 ∈ tables_1_6 := List.mem_of_getElem? (i := 23) rfl
theorem so_c43 : so_cw 43 ∈ tables_1_5 := List.mem_of_getElem? (i := 235) rfl
theorem so_c44 : so_cw 44 ∈ tables_1_5 := List.mem_of_getElem? (i := 223) rfl
theorem so_c45 : so_cw 45 ∈ tables_1_6 := List.mem_of_getElem? (i := 7) rfl
theorem so_c46 : so_cw 46 ∈ tables_1_6 := List.mem_of_getElem? (i := 11) rfl
theorem so_c47 : so_cw 47 ∈ tables_1_6 := List.mem_of_getElem? (i := 27) rfl
theorem so_c48 : so_cw 48 ∈ tables_1_6 := List.mem_of_getElem? (i := 39) rfl
theorem so_c49 : so_cw 49 ∈ tables_1_6 := List.mem_of_getElem? (i := 42) rfl
theorem so_c50 : so_cw 50 ∈ tables_1_6 := List.mem_of_getElem? (i := 36) rfl
theorem so_c51 : so_cw 51 ∈ tables_1_6 := List.mem_of_getElem? (i := 46) rfl
theorem so_c52 : so_cw 52 ∈ tables_1_6 := List.mem_of_getElem? (i := 32) rfl
theorem so_c53 : so_cw 53 ∈ tables_1_6 := List.mem_of_getElem? (i := 58) rfl
theorem so_c54 : so_cw 54 ∈ tables_1_6 := List.mem_of_getElem? (i := 54) rfl
theorem so_c55 : so_cw 55 ∈ tables_1_6 := List.mem_of_getElem? (i := 50) rfl
theorem so_c56 : so_cw 56 ∈ tables_1_6 := List.mem_of_getElem? (i := 74) rfl
theorem so_c57 : so_cw 57 ∈ tables_1_6 := List.mem_of_getElem? (i := 90) rfl
theorem so_c58 : so_cw 58 ∈ tables_1_6 := List.mem_of_getElem? (i := 86) rfl
theorem so_c59 : so_cw 59 ∈ tables_1_6 := List.mem_of_getElem? (i := 70) rfl
theorem so_c60 : so_cw 60 ∈ tables_1_6 := List.mem_of_getElem? (i := 113) rfl
theorem so_c61 : so_cw 61 ∈ tables_1_6 := List.mem_of_getElem? (i := 117) rfl
theorem so_c62 : so_cw 62 ∈ tables_1_6 := List.mem_of_getElem? (i := 66) rfl
theorem so_c63 : so_cw 63 ∈ tables_1_6 := List.mem_of_getElem? (i := 78) rfl
theorem so_c64 : so_cw 64 ∈ tables_1_6 := List.mem_of_getElem? (i := 62) rfl
theorem so_c65 : so_cw 65 ∈ tables_1_6 := List.mem_of_getElem? (i := 82) rfl
theorem so_c66 : so_cw 66 ∈ tables_1_6 := List.mem_of_getElem? (i := 94) rfl
theorem so_c67 : so_cw 67 ∈ tables_1_6 := List.mem_of_getElem? (i := 125) rfl
theorem so_c68 : so_cw 68 ∈ tables_1_6 := List.mem_of_getElem? (i := 129) rfl
theorem so_c69 : so_cw 69 ∈ tables_1_6 := List.mem_of_getElem? (i := 105) rfl
theorem so_c70 : so_cw 70 ∈ tables_1_6 := List.mem_of_getElem? (i := 121) rfl
theorem so_c71 : so_cw 71 ∈ tables_1_6 := List.mem_of_getElem? (i := 109) rfl
theorem so_c72 : so_cw 72 ∈ tables_1_6 := List.mem_of_getElem? (i := 101) rfl
theorem so_c73 : so_cw 73 ∈ tables_1_6 := List.mem_of_getElem? (i := 133) rfl
theorem so_c74 : so_cw 74 ∈ tables_1_6 := List.mem_of_getElem? (i := 98) rfl
theorem so_c75 : so_cw 75 ∈ tables_1_6 := List.mem_of_getElem? (i := 137) rfl
theorem so_c76 : so_cw 76 ∈ tables_1_6 := List.mem_of_getElem? (i := 141) rfl
theorem so_c77 : so_cw 77 ∈ tables_1_6 := List.mem_of_getElem? (i := 157) rfl
theorem so_c78 : so_cw 78 ∈ tables_1_6 := List.mem_of_getElem? (i := 145) rfl
theorem so_c79 : so_cw 79 ∈ tables_1_6 := List.mem_of_getElem? (i := 153) rfl
theorem so_c80 : so_cw 80 ∈ tables_1_6 := List.mem_of_getElem? (i := 149) rfl
theorem so_c81 : so_cw 81 ∈ tables_1_6 := List.mem_of_getElem? (i := 161) rfl
theorem so_c82 : so_cw 82 ∈ tables_1_6 := List.mem_of_getElem? (i := 173) rfl
theorem so_c83 : so_cw 83 ∈ tables_1_6 := List.mem_of_getElem? (i := 169) rfl
theorem so_c84 : so_cw 84 ∈ tables_1_6 := List.mem_of_getElem? (i := 165) rfl
theorem so_c85 : so_cw 85 ∈ tables_1_6 := List.mem_of_getElem? (i := 177) rfl
theorem so_c86 : so_cw 86 ∈ tables_1_6 := List.mem_of_getElem? (i := 181) rfl
theorem so_c87 : so_cw 87 ∈ tables_1_6 := List.mem_of_getElem? (i := 185) rfl
theorem so_c88 : so_cw 88 ∈ tables_1_6 := List.mem_of_getElem? (i := 197) rfl
theorem so_c89 : so_cw 89 ∈ tables_1_6 := List.mem_of_getElem? (i := 214) rfl
theorem so_c90 : so_cw 90 ∈ tables_1_6 := List.mem_of_getElem? (i := 206) rfl
theorem so_c91 : so_cw 91 ∈ tables_1_6 := List.mem_of_getElem? (i := 210) rfl
theorem so_c92 : so_cw 92 ∈ tables_1_6 := List.mem_of_getElem? (i := 202) rfl
theorem so_c93 : so_cw 93 ∈ tables_1_6 := List.mem_of_getElem? (i := 218) rfl
theorem so_c94 : so_cw 94 ∈ tables_1_6 := List.mem_of_getElem? (i := 222) rfl
theorem so_c95 : so_cw 95 ∈ tables_1_6 := List.mem_of_getElem? (i := 193) rfl
theorem so_c96 : so_cw 96 ∈ tables_1_6 := List.mem_of_getElem? (i := 189) rfl
theorem so_c97 : so_cw 97 ∈ tables_1_6 := List.mem_of_getElem? (i := 226) rfl
theorem so_c98 : so_cw 98 ∈ tables_1_6 := List.mem_of_getElem? (i := 230) rfl
theorem so_c99 : so_cw 99 ∈ tables_1_7 := List.mem_of_getElem? (i := 10) rfl
theorem so_c100 : so_cw 100 ∈ tables_1_6 := List.mem_of_getElem? (i := 238) rfl
theorem so_c101 : so_cw 101 ∈ tables_1_7 := List.mem_of_getElem? (i := 2) rfl
theorem so_c102 : so_cw 102 ∈ tables_1_7 := List.mem_of_getElem? (i := 6) rfl
theorem so_c103 : so_cw 103 ∈ tables_1_7 := List.mem_of_getElem? (i := 14) rfl
theorem so_c104 : so_cw 104 ∈ tables_1_6 := List.mem_of_getElem? (i := 234) rfl
theorem so_c105 : so_cw 105 ∈ tables_1_7 := List.mem_of_getElem? (i := 18) rfl
theorem so_c106 : so_cw 106 ∈ tables_1_7 := List.mem_of_getElem? (i := 22) rfl
theorem so_c107 : so_cw 107 ∈ tables_1_7 := List.mem_of_getElem? (i := 26) rfl
theorem so_c108 : so_cw 108 ∈ tables_1_7 := List.mem_of_getElem? (i := 34) rfl
theorem so_c109 : so_cw 109 ∈ tables_1_7 := List.mem_of_getElem? (i := 30) rfl
theorem so_c110 : so_cw 110 ∈ tables_1_7 := List.mem_of_getElem? (i := 38) rfl
theorem so_c111 : so_cw 111 ∈ tables_1_4 := List.mem_of_getElem? (i := 98) rfl
theorem so_c112 : so_cw 112 ∈ tables_1_4 := List.mem_of_getElem? (i := 106) rfl
theorem so_c113 : so_cw 113 ∈ tables_1_4 := List.mem_of_getElem? (i := 115) rfl
theorem so_c114 : so_cw 114 ∈ tables_1_4 := List.mem_of_getElem? (i := 133) rfl
theorem so_c115 : so_cw 115 ∈ tables_1_4 := List.mem_of_getElem? (i := 139) rfl
theorem so_c116 : so_cw 116 ∈ tables_1_4 := List.mem_of_getElem? (i := 156) rfl
theorem so_c117 : so_cw 117 ∈ tables_1_4 := List.mem_of_getElem? (i := 160) rfl
theorem so_c118 : so_cw 118 ∈ tables_1_4 := List.mem_of_getElem? (i := 119) rfl
theorem so_c119 : so_cw 119 ∈ tables_1_4 := List.mem_of_getElem? (i := 124) rfl
theorem so_c120 : so_cw 120 ∈ tables_1_4 := List.mem_of_getElem? (i := 164) rfl
theorem so_c121 : so_cw 121 ∈ tables_1_2 := List.mem_of_getElem? (i := 37) rfl
theorem so_c122 : so_cw 122 ∈ tables_1_2 := List.mem_of_getElem? (i := 212) rfl
theorem so_c123 : so_cw 123 ∈ tables_1_2 := List.mem_of_getElem? (i := 61) rfl
theorem so_c124 : so_cw 124 ∈ tables_1_2 := List.mem_of_getElem? (i := 57) rfl
theorem so_c125 : so_cw 125 ∈ tables_1_3 := List.mem_of_getElem? (i := 136) rfl
theorem so_c126 : so_cw 126 ∈ tables_1_3 := List.mem_of_getElem? (i := 64) rfl
theorem so_c127 : so_cw 127 ∈ tables_1_3 := List.mem_of_getElem? (i := 68) rfl
theorem so_c128 : so_cw 128 ∈ tables_1_3 := List.mem_of_getElem? (i := 72) rfl
theorem so_c129 : so_cw 129 ∈ tables_1_2 := List.mem_of_getElem? (i := 53) rfl
theorem so_c130 : so_cw 130 ∈ tables_1_2 := List.mem_of_getElem? (i := 168) rfl
theorem so_c131 : so_cw 131 ∈ tables_1_2 := List.mem_of_getElem? (i := 65) rfl
theorem so_c132 : so_cw 132 ∈ tables_1_4 := List.mem_of_getElem? (i := 143) rfl
theorem so_c133 : so_cw 133 ∈ tables_1_4 := List.mem_of_getElem? (i := 172) rfl
theorem so_c134 : so_cw 134 ∈ tables_1_4 := List.mem_of_getElem? (i := 146) rfl
theorem so_c135 : so_cw 135 ∈ tables_1_4 := List.mem_of_getElem? (i := 151) rfl
theorem so_c136 : so_cw 136 ∈ tables_1_3 := List.mem_of_getElem? (i := 236) rfl
theorem so_c137 : so_cw 137 ∈ tables_1_3 := List.mem_of_getElem? (i := 196) rfl
theorem so_c138 : so_cw 138 ∈ tables_1_3 := List.mem_of_getElem? (i := 183) rfl
theorem so_c139 : so_cw 139 ∈ tables_1_3 := List.mem_of_getElem? (i := 191) rfl
theorem so_c140 : so_cw 140 ∈ tables_1_4 := List.mem_of_getElem? (i := 208) rfl
theorem so_c141 : so_cw 141 ∈ tables_1_4 := List.mem_of_getElem? (i := 212) rfl
theorem so_c142 : so_cw 142 ∈ tables_1_4 := List.mem_of_getElem? (i := 197) rfl
theorem so_c143 : so_cw 143 ∈ tables_1_5 := List.mem_of_getElem? (i := 17) rfl
theorem so_c144 : so_cw 144 ∈ tables_1_4 := List.mem_of_getElem? (i := 193) rfl
theorem so_c145 : so_cw 145 ∈ tables_1_3 := List.mem_of_getElem? (i := 161) rfl
theorem so_c146 : so_cw 146 ∈ tables_1_3 := List.mem_of_getElem? (i := 165) rfl
theorem so_c147 : so_cw 147 ∈ tables_1_3 := List.mem_of_getElem? (i := 171) rfl
theorem so_c148 : so_cw 148 ∈ tables_1_3 := List.mem_of_getElem? (i := 215) rfl
theorem so_c149 : so_cw 149 ∈ tables_1_3 := List.mem_of_getElem? (i := 228) rfl
theorem so_c150 : so_cw 150 ∈ tables_1_3 := List.mem_of_getElem? (i := 224) rfl
theorem so_c151 : so_cw 151 ∈ tables_1_3 := List.mem_of_getElem? (i := 219) rfl
theorem so_c152 : so_cw 152 ∈ tables_1_5 := List.mem_of_getElem? (i := 5) rfl
theorem so_c153 : so_cw 153 ∈ tables_1_3 := List.mem_of_getElem? (i := 175) rfl
theorem so_c154 : so_cw 154 ∈ tables_1_2 := List.mem_of_getElem? (i := 25) rfl
theorem so_c155 : so_cw 155 ∈ tables_1_2 := List.mem_of_getElem? (i := 33) rfl
theorem so_c156 : so_cw 156 ∈ tables_1_2 := List.mem_of_getElem? (i := 41) rfl
theorem so_c157 : so_cw 157 ∈ tables_1_2 := List.mem_of_getElem? (i := 156) rfl
theorem so_c158 : so_cw 158 ∈ tables_1_2 := List.mem_of_getElem? (i := 160) rfl
theorem so_c159 : so_cw 159 ∈ tables_1_2 := List.mem_of_getElem? (i := 45) rfl
theorem so_c160 : so_cw 160 ∈ tables_1_2 := List.mem_of_getElem? (i := 49) rfl
theorem so_c161 : so_cw 161 ∈ tables_1_2 := List.mem_of_getElem? (i := 163) rfl
theorem so_c162 : so_cw 162 ∈ tables_1_3 := List.mem_of_getElem? (i := 132) rfl
theorem so_c163 : so_cw 163 ∈ tables_1_2 := List.mem_of_getElem? (i := 184) rfl
theorem so_c164 : so_cw 164 ∈ tables_1_3 := List.mem_of_getElem? (i := 179) rfl
theorem so_c165 : so_cw 165 ∈ tables_1_3 := List.mem_of_getElem? (i := 142) rfl
theorem so_c166 : so_cw 166 ∈ tables_1_4 := List.mem_of_getElem? (i := 72) rfl
theorem so_c167 : so_cw 167 ∈ tables_1_2 := List.mem_of_getElem? (i := 188) rfl
theorem so_c168 : so_cw 168 ∈ tables_1_4 := List.mem_of_getElem? (i := 168) rfl
theorem so_c169 : so_cw 169 ∈ tables_1_4 := List.mem_of_getElem? (i := 235) rfl
theorem so_c170 : so_cw 170 ∈ tables_1_4 := List.mem_of_getElem? (i := 111) rfl
theorem so_c171 : so_cw 171 ∈ tables_1_3 := List.mem_of_getElem? (i := 232) rfl
theorem so_c172 : so_cw 172 ∈ tables_1_4 := List.mem_of_getElem? (i := 39) rfl
theorem so_c173 : so_cw 173 ∈ tables_1_4 := List.mem_of_getElem? (i := 61) rfl
theorem so_c174 : so_cw 174 ∈ tables_1_4 := List.mem_of_getElem? (i := 184) rfl
theorem so_c175 : so_cw 175 ∈ tables_1_5 := List.mem_of_getElem? (i := 13) rfl
theorem so_c176 : so_cw 176 ∈ tables_1_4 := List.mem_of_getElem? (i := 189) rfl
theorem so_c177 : so_cw 177 ∈ tables_1_4 := List.mem_of_getElem? (i := 203) rfl
theorem so_c178 : so_cw 178 ∈ tables_1_4 := List.mem_of_getElem? (i := 217) rfl
theorem so_c179 : so_cw 179 ∈ tables_1_4 := List.mem_of_getElem? (i := 231) rfl
theorem so_c180 : so_cw 180 ∈ tables_1_4 := List.mem_of_getElem? (i := 239) rfl
theorem so_c181 : so_cw 181 ∈ tables_1_4 := List.mem_of_getElem? (i := 223) rfl
theorem so_c182 : so_cw 182 ∈ tables_1_3 := List.mem_of_getElem? (i := 83) rfl
theorem so_c183 : so_cw 183 ∈ tables_1_3 := List.mem_of_getElem? (i := 87) rfl
theorem so_c184 : so_cw 184 ∈ tables_1_3 := List.mem_of_getElem? (i := 121) rfl
theorem so_c185 : so_cw 185 ∈ tables_1_3 := List.mem_of_getElem? (i := 92) rfl
theorem so_c186 : so_cw 186 ∈ tables_1_2 := List.mem_of_getElem? (i := 198) rfl
theorem so_c187 : so_cw 187 ∈ tables_1_3 := List.mem_of_getElem? (i := 55) rfl
theorem so_c188 : so_cw 188 ∈ tables_1_3 := List.mem_of_getElem? (i := 75) rfl
theorem so_c189 : so_cw 189 ∈ tables_1_3 := List.mem_of_getElem? (i := 124) rfl
theorem so_c190 : so_cw 190 ∈ tables_1_3 := List.mem_of_getElem? (i := 145) rfl
theorem so_c191 : so_cw 191 ∈ tables_1_3 := List.mem_of_getElem? (i := 239) rfl
theorem so_c192 : so_cw 192 ∈ tables_1_4 := List.mem_of_getElem? (i := 6) rfl
theorem so_c193 : so_cw 193 ∈ tables_1_4 := List.mem_of_getElem? (i := 15) rfl
theorem so_c194 : so_cw 194 ∈ tables_1_4 := List.mem_of_getElem? (i := 27) rfl
theorem so_c195 : so_cw 195 ∈ tables_1_4 := List.mem_of_getElem? (i := 42) rfl
theorem so_c196 : so_cw 196 ∈ tables_1_4 := List.mem_of_getElem? (i := 49) rfl
theorem so_c197 : so_cw 197 ∈ tables_1_4 := List.mem_of_getElem? (i := 64) rfl
theorem so_c198 : so_cw 198 ∈ tables_1_4 := List.mem_of_getElem? (i := 76) rfl
theorem so_c199 : so_cw 199 ∈ tables_1_4 := List.mem_of_getElem? (i := 83) rfl
theorem so_c200 : so_cw 200 ∈ tables_1_4 := List.mem_of_getElem? (i := 90) rfl
theorem so_c201 : so_cw 201 ∈ tables_1_4 := List.mem_of_getElem? (i := 176) rfl
theorem so_c202 : so_cw 202 ∈ tables_1_5 := List.mem_of_getElem? (i := 20) rfl
theorem so_c203 : so_cw 203 ∈ tables_1_5 := List.mem_of_getElem? (i := 27) rfl
theorem so_c204 : so_cw 204 ∈ tables_1_5 := List.mem_of_getElem? (i := 34) rfl
theorem so_c205 : so_cw 205 ∈ tables_1_5 := List.mem_of_getElem? (i := 41) rfl
theorem so_c206 : so_cw 206 ∈ tables_1_5 := List.mem_of_getElem? (i := 68) rfl
theorem so_cc0 : ∀ w ∈ [so_cw 0, so_cw 1, so_cw 2, so_cw 3, so_cw 4, so_cw 5, so_cw 6, so_cw 7, so_cw 8, so_cw 9, so_cw 10, so_cw 11, so_cw 12, so_cw 13, so_cw 14, so_cw 15], w ∈ lw_tbl := List.forall_mem_cons.mpr ⟨so_runs_in tables_1_2 (by simp [so_runs]) _ so_c0, List.forall_mem_cons.mpr ⟨so_runs_in tables_1_2 (by simp [so_runs]) _ so_c1, List.forall_mem_cons.mpr ⟨so_runs_in tables_1_2 (by simp [so_runs]) _ so_c2, List.forall_mem_cons.mpr ⟨so_runs_in tables_1_2 (by simp [so_runs]) _ so_c3, List.forall_mem_cons.mpr ⟨so_runs_in tables_1_3 (by simp [so_runs]) _ so_c4, List.forall_mem_cons.mpr ⟨so_runs_in tables_1_3 (by simp [so_runs]) _ so_c5, List.forall_mem_cons.mpr ⟨so_runs_in tables_1_3 (by simp [so_runs]) _ so_c6, List.forall_mem_cons.mpr ⟨so_runs_in tables_1_2 (by simp [so_runs]) _ so_c7, List.forall_mem_cons.mpr ⟨so_runs_in tables_1_2 (by simp [so_runs]) _ so_c8, List.forall_mem_cons.mpr ⟨so_runs_in tables_1_3 (by simp [so_runs]) _ so_c9, List.forall_mem_cons.mpr ⟨so_runs_in tables_1_4 (by simp [so_runs]) _ so_c10, List.forall_mem_cons.mpr ⟨so_runs_in tables_1_4 (by simp [so_runs]) _ so_c11, List.forall_mem_cons.mpr ⟨so_runs_in tables_1_4 (by simp [so_runs]) _ so_c12, List.forall_mem_cons.mpr ⟨so_runs_in tables_1_4 (by simp [so_runs]) _ so_c13, List.forall_mem_cons.mpr ⟨so_runs_in tables_1_4 (by simp [so_runs]) _ so_c14, List.forall_mem_cons.mpr ⟨so_runs_in tables_1_4 (by simp [so_runs]) _ so_c15, fun _ h => absurd h List.not_mem_nil⟩⟩⟩⟩⟩⟩⟩⟩⟩⟩⟩⟩⟩⟩⟩⟩
theorem so_cc1 : ∀ w ∈ [so_cw 16, so_cw 17, so_cw 18, so_cw 19, so_cw 20, so_cw 21, so_cw 22, so_cw 23, so_cw 24, so_cw 25, so_cw 26, so_cw 27, so_cw 28, so_cw 29, so_cw 30, so_cw 31], w ∈ lw_tbl := List.forall_mem_cons.mpr ⟨so_runs_in tables_1_4 (by simp [so_runs]) _ so_c16, List.forall_mem_cons.mpr ⟨so_runs_in tables_1_4 (by simp [so_runs]) _ so_c17, List.forall_mem_cons.mpr ⟨so_runs_in tables_1_4 (by simp [so_runs]) _ so_c18, List.forall_mem_cons.mpr ⟨so_runs_in tables_1_4 (by simp [so_runs]) _ so_c19, List.forall_mem_cons.mpr ⟨so_runs_in tables_1_4 (by simp [so_runs]) _ so_c20, List.forall_mem_cons.mpr ⟨so_runs_in tables_1_5 (by simp [so_runs]) _ so_c21, List.forall_mem_cons.mpr ⟨so_runs_in tables_1_5 (by simp [so_runs]) _ so_c22, List.forall_mem_cons.mpr ⟨so_runs_in tables_1_5 (by simp [so_runs]) _ so_c23, List.forall_mem_cons.mpr ⟨so_runs_in tables_1_5 (by simp [so_runs]) _ so_c24, List.forall_mem_cons.mpr ⟨so_runs_in tables_1_5 (by simp [so_runs]) _ so_c25, List.forall_mem_cons.mpr ⟨so_runs_in tables_1_3 (by simp [so_runs]) _ so_c26, List.forall_mem_cons.mpr ⟨so_runs_in tables_1_2 (by simp [so_runs]) _ so_c27, List.forall_mem_cons.mpr ⟨so_runs_in tables_1_4 (by simp [so_runs]) _ so_c28, List.forall_mem_cons.mpr ⟨so_runs_in tables_1_4 (by simp [so_runs]) _ so_c29, List.forall_mem_cons.mpr ⟨so_runs_in tables_1_5 (by simp [so_runs]) _ so_c30, List.forall_mem_cons.mpr ⟨so_runs_in tables_1_3 (by simp [so_runs]) _ so_c31, fun _ h => absurd h List.not_mem_nil⟩⟩⟩⟩⟩⟩⟩⟩⟩⟩⟩⟩⟩⟩⟩⟩
theorem so_cc2 : ∀ w ∈ [so_cw 32, so_cw 33, so_cw 34, so_cw 35, so_cw 36, so_cw 37, so_cw 38, so_cw 39, so_cw 40, so_cw 41, so_cw 42, so_cw 43, so_cw 44, so_cw 45, so_cw 46, so_cw 47], w ∈ lw_tbl := List.forall_mem_cons.mpr ⟨so_runs_in tables_1_4 (by simp [so_runs]) _ so_c32, List.forall_mem_cons.mpr ⟨so_runs_in tables_1_3 (by simp [so_runs]) _ so_c33, List.forall_mem_cons.mpr ⟨so_runs_in tables_1_5 (by simp [so_runs]) _ so_c34, List.forall_mem_cons.mpr ⟨so_runs_in tables_1_5 (by simp [so_runs]) _ so_c35, List.forall_mem_cons.mpr ⟨so_runs_in tables_1_5 (by simp [so_runs]) _ so_c36, List.forall_mem_cons.mpr ⟨so_runs_in tables_1_5 (by simp [so_runs]) _ so_c37, List.forall_mem_cons.mpr ⟨so_runs_in tables_1_6 (by simp [so_runs]) _ so_c38, List.forall_mem_cons.mpr ⟨so_runs_in tables_1_6 (by simp [so_runs]) _ so_c39, List.forall_mem_cons.mpr ⟨so_runs_in tables_1_5 (by simp [so_runs]) _ so_c40, List.forall_mem_cons.mpr ⟨so_runs_in tables_1_6 (by simp [so_runs]) _ so_c41, List.forall_mem_cons.mpr ⟨so_runs_in tables_1_6 (by simp [so_runs]) _ so_c42, List.forall_mem_cons.mpr ⟨so_runs_in tables_1_5 (by simp [so_runs]) _ so_c43, List.forall_mem_cons.mpr ⟨so_runs_in tables_1_5 (by simp [so_runs]) _ so_c44, List.forall_mem_cons.mpr ⟨so_runs_in tables_1_6 (by simp [so_runs]) _ so_c45, List.forall_mem_cons.mpr ⟨so_runs_in tables_1_6 (by simp [so_runs]) _ so_c46, List.forall_mem_cons.mpr ⟨so_runs_in tables_1_6 (by simp [so_runs]) _ so_c47, fun _ h => absurd h List.not_mem_nil⟩⟩⟩⟩⟩⟩⟩⟩⟩⟩⟩⟩⟩⟩⟩⟩
theorem so_cc3 : ∀ w ∈ [so_cw 48, so_cw 49, so_cw 50, so_cw 51, so_cw 52, so_cw 53, so_cw 54, so_cw 55, so_cw 56, so_cw 57, so_cw 58, so_cw 59, so_cw 60, so_cw 61, so_cw 62, so_cw 63], w ∈ lw_tbl := List.forall_mem_cons.mpr ⟨so_runs_in tables_1_6 (by simp [so_runs]) _ so_c48, List.forall_mem_cons.mpr ⟨so_runs_in tables_1_6 (by simp [so_runs]) _ so_c49, List.forall_mem_cons.mpr ⟨so_runs_in tables_1_6 (by simp [so_runs]) _ so_c50, List.forall_mem_cons.mpr ⟨so_runs_in tables_1_6 (by simp [so_runs]) _ so_c51, List.forall_mem_cons.mpr ⟨so_runs_in tables_1_6 (by simp [so_runs]) _ so_c52, List.forall_mem_cons.mpr ⟨so_runs_in tables_1_6 (by simp [so_runs]) _ so_c53, List.forall_mem_cons.mpr ⟨so_runs_in tables_1_6 (by simp [so_runs]) _ so_c54, List.forall_mem_cons.mpr ⟨so_runs_in tables_1_6 (by simp [so_runs]) _ so_c55, List.forall_mem_cons.mpr ⟨so_runs_in tables_1_6 (by simp [so_runs]) _ so_c56, List.forall_mem_cons.mpr ⟨so_runs_in tables_1_6 (by simp [so_runs]) _ so_c57, List.forall_mem_cons.mpr ⟨so_runs_in tables_1_6 (by simp [so_runs]) _ so_c58, List.forall_mem_cons.mpr ⟨so_runs_in tables_1_6 (by simp [so_runs]) _ so_c59, List.forall_mem_cons.mpr ⟨so_runs_in tables_1_6 (by simp [so_runs]) _ so_c60, List.forall_mem_cons.mpr ⟨so_runs_in tables_1_6 (by simp [so_runs]) _ so_c61, List.forall_mem_cons.mpr ⟨so_runs_in tables_1_6 (by simp [so_runs]) _ so_c62, List.forall_mem_cons.mpr ⟨so_runs_in tables_1_6 (by simp [so_runs]) _ so_c63, fun _ h => absurd h List.not_mem_nil⟩⟩⟩⟩⟩⟩⟩⟩⟩⟩⟩⟩⟩⟩⟩⟩
theorem so_cc4 : ∀ w ∈ [so_cw 64, so_cw 65, so_cw 66, so_cw 67, so_cw 68, so_cw 69, so_cw 70, so_cw 71, so_cw 72, so_cw 73, so_cw 74, so_cw 75, so_cw 76, so_cw 77, so_cw 78, so_cw 79], w ∈ lw_tbl := List.forall_mem_cons.mpr ⟨so_runs_in tables_1_6 (by simp [so_runs]) _ so_c64, List.forall_mem_cons.mpr ⟨so_runs_in tables_1_6 (by simp [so_runs]) _ so_c65, List.forall_mem_cons.mpr ⟨so_runs_in tables_1_6 (by simp [so_runs]) _ so_c66, List.forall_mem_cons.mpr ⟨so_runs_in tables_1_6 (by simp [so_runs]) _ so_c67, List.forall_mem_cons.mpr ⟨so_runs_in tables_1_6 (by simp [so_runs]) _ so_c68, List.forall_mem_cons.mpr ⟨so_runs_in tables_1_6 (by simp [so_runs]) _ so_c69, List.forall_mem_cons.mpr ⟨so_runs_in tables_1_6 (by simp [so_runs]) _ so_c70, List.forall_mem_cons.mpr ⟨so_runs_in tables_1_6 (by simp [so_runs]) _ so_c71, List.forall_mem_cons.mpr ⟨so_runs_in tables_1_6 (by simp [so_runs]) _ so_c72, List.forall_mem_cons.mpr ⟨so_runs_in tables_1_6 (by simp [so_runs]) _ so_c73, List.forall_mem_cons.mpr ⟨so_runs_in tables_1_6 (by simp [so_runs]) _ so_c74, List.forall_mem_cons.mpr ⟨so_runs_in tables_1_6 (by simp [so_runs]) _ so_c75, List.forall_mem_cons.mpr ⟨so_runs_in tables_1_6 (by simp [so_runs]) _ so_c76, List.forall_mem_cons.mpr ⟨so_runs_in tables_1_6 (by simp [so_runs]) _ so_c77, List.forall_mem_cons.mpr ⟨so_runs_in tables_1_6 (by simp [so_runs]) _ so_c78, List.forall_mem_cons.mpr ⟨so_runs_in tables_1_6 (by simp [so_runs]) _ so_c79, fun _ h => absurd h List.not_mem_nil⟩⟩⟩⟩⟩⟩⟩⟩⟩⟩⟩⟩⟩⟩⟩⟩
theorem so_cc5 : ∀ w ∈ [so_cw 80, so_cw 81, so_cw 82, so_cw 83, so_cw 84, so_cw 85, so_cw 86, so_cw 87, so_cw 88, so_cw 89, so_cw 90, so_cw 91, so_cw 92, so_cw 93, so_cw 94, so_cw 95], w ∈ lw_tbl := List.forall_mem_cons.mpr ⟨so_runs_in tables_1_6 (by simp [so_runs]) _ so_c80, List.forall_mem_cons.mpr ⟨so_runs_in tables_1_6 (by simp [so_runs]) _ so_c81, List.forall_mem_cons.mpr ⟨so_runs_in tables_1_6 (by simp [so_runs]) _ so_c82, List.forall_mem_cons.mpr ⟨so_runs_in tables_1_6 (by simp [so_runs]) _ so_c83, List.forall_mem_cons.mpr ⟨so_runs_in tables_1_6 (by simp [so_runs]) _ so_c84, List.forall_mem_cons.mpr ⟨so_runs_in tables_1_6 (by simp [so_runs]) _ so_c85, List.forall_mem_cons.mpr ⟨so_runs_in tables_1_6 (by simp [so_runs]) _ so_c86, List.forall_mem_cons.mpr ⟨so_runs_in tables_1_6 (by simp [so_runs]) _ so_c87, List.forall_mem_cons.mpr ⟨so_runs_in tables_1_6 (by simp [so_runs]) _ so_c88, List.forall_mem_cons.mpr ⟨so_runs_in tables_1_6 (by simp [so_runs]) _ so_c89, List.forall_mem_cons.mpr ⟨so_runs_in tables_1_6 (by simp [so_runs]) _ so_c90, List.forall_mem_cons.mpr ⟨so_runs_in tables_1_6 (by simp [so_runs]) _ so_c91, List.forall_mem_cons.mpr ⟨so_runs_in tables_1_6 (by simp [so_runs]) _ so_c92, List.forall_mem_cons.mpr ⟨so_runs_in tables_1_6 (by simp [so_runs]) _ so_c93, List.forall_mem_cons.mpr ⟨so_runs_in tables_1_6 (by simp [so_runs]) _ so_c94, List.forall_mem_cons.mpr ⟨so_runs_in tables_1_6 (by simp [so_runs]) _ so_c95, fun _ h => absurd h List.not_mem_nil⟩⟩⟩⟩⟩⟩⟩⟩⟩⟩⟩⟩⟩⟩⟩⟩
theorem so_cc6 : ∀ w ∈ [so_cw 96, so_cw 97, so_cw 98, so_cw 99, so_cw 100, so_cw 101, so_cw 102, so_cw 103, so_cw 104, so_cw 105, so_cw 106, so_cw 107, so_cw 108, so_cw 109, so_cw 110, so_cw 111], w ∈ lw_tbl := List.forall_mem_cons.mpr ⟨so_runs_in tables_1_6 (by simp [so_runs]) _ so_c96, List.forall_mem_cons.mpr ⟨so_runs_in tables_1_6 (by simp [so_runs]) _ so_c97, List.forall_mem_cons.mpr ⟨so_runs_in tables_1_6 (by simp [so_runs]) _ so_c98, List.forall_mem_cons.mpr ⟨so_runs_in tables_1_7 (by simp [so_runs]) _ so_c99, List.forall_mem_cons.mpr ⟨so_runs_in tables_1_6 (by simp [so_runs]) _ so_c100, List.forall_mem_cons.mpr ⟨so_runs_in tables_1_7 (by simp [so_runs]) _ so_c101, List.forall_mem_cons.mpr ⟨so_runs_in tables_1_7 (by simp [so_runs]) _ so_c102, List.forall_mem_cons.mpr ⟨so_runs_in tables_1_7 (by simp [so_runs]) _ so_c103, List.forall_mem_cons.mpr ⟨so_runs_in tables_1_6 (by simp [so_runs]) _ so_c104, List.forall_mem_cons.mpr ⟨so_runs_in tables_1_7 (by simp [so_runs]) _ so_c105, List.forall_mem_cons.mpr ⟨so_runs_in tables_1_7 (by simp [so_runs]) _ so_c106, List.forall_mem_cons.mpr ⟨so_runs_in tables_1_7 (by simp [so_runs]) _ so_c107, List.forall_mem_cons.mpr ⟨so_runs_in tables_1_7 (by simp [so_runs]) _ so_c108, List.forall_mem_cons.mpr ⟨so_runs_in tables_1_7 (by simp [so_runs]) _ so_c109, List.forall_mem_cons.mpr ⟨so_runs_in tables_1_7 (by simp [so_runs]) _ so_c110, List.forall_mem_cons.mpr ⟨so_runs_in tables_1_4 (by simp [so_runs]) _ so_c111, fun _ h => absurd h List.not_mem_nil⟩⟩⟩⟩⟩⟩⟩⟩⟩⟩⟩⟩⟩⟩⟩⟩
theorem so_cc7 : ∀ w ∈ [so_cw 112, so_cw 113, so_cw 114, so_cw 115, so_cw 116, so_cw 117, so_cw 118, so_cw 119, so_cw 120, so_cw 121, so_cw 122, so_cw 123, so_cw 124, so_cw 125, so_cw 126, so_cw 127], w ∈ lw_tbl := List.forall_mem_cons.mpr ⟨so_runs_in tables_1_4 (by simp [so_runs]) _ so_c112, List.forall_mem_cons.mpr ⟨so_runs_in tables_1_4 (by simp [so_runs]) _ so_c113, List.forall_mem_cons.mpr ⟨so_runs_in tables_1_4 (by simp [so_runs]) _ so_c114, List.forall_mem_cons.mpr ⟨so_runs_in tables_1_4 (by simp [so_runs]) _ so_c115, List.forall_mem_cons.mpr ⟨so_runs_in tables_1_4 (by simp [so_runs]) _ so_c116, List.forall_mem_cons.mpr ⟨so_runs_in tables_1_4 (by simp [so_runs]) _ so_c117, List.forall_mem_cons.mpr ⟨so_runs_in tables_1_4 (by simp [so_runs]) _ so_c118, List.forall_mem_cons.mpr ⟨so_runs_in tables_1_4 (by simp [so_runs]) _ so_c119, List.forall_mem_cons.mpr ⟨so_runs_in tables_1_4 (by simp [so_runs]) _ so_c120, List.forall_mem_cons.mpr ⟨so_runs_in tables_1_2 (by simp [so_runs]) _ so_c121, List.forall_mem_cons.mpr ⟨so_runs_in tables_1_2 (by simp [so_runs]) _ so_c122, List.forall_mem_cons.mpr ⟨so_runs_in tables_1_2 (by simp [so_runs]) _ so_c123, List.forall_mem_cons.mpr ⟨so_runs_in tables_1_2 (by simp [so_runs]) _ so_c124, List.forall_mem_cons.mpr ⟨so_runs_in tables_1_3 (by simp [so_runs]) _ so_c125, List.forall_mem_cons.mpr ⟨so_runs_in tables_1_3 (by simp [so_runs]) _ so_c126, List.forall_mem_cons.mpr ⟨so_runs_in tables_1_3 (by simp [so_runs]) _ so_c127, fun _ h => absurd h List.not_mem_nil⟩⟩⟩⟩⟩⟩⟩⟩⟩⟩⟩⟩⟩⟩⟩⟩
theorem so_cc8 : ∀ w ∈ [so_cw 128, so_cw 129, so_cw 130, so_cw 131, so_cw 132, so_cw 133, so_cw 134, so_cw 135, so_cw 136, so_cw 137, so_cw 138, so_cw 139, so_cw 140, so_cw 141, so_cw 142, so_cw 143], w ∈ lw_tbl := List.forall_mem_cons.mpr ⟨so_runs_in tables_1_3 (by simp [so_runs]) _ so_c128, List.forall_mem_cons.mpr ⟨so_runs_in tables_1_2 (by simp [so_runs]) _ so_c129, List.forall_mem_cons.mpr ⟨so_runs_in tables_1_2 (by simp [so_runs]) _ so_c130, List.forall_mem_cons.mpr ⟨so_runs_in tables_1_2 (by simp [so_runs]) _ so_c131, List.forall_mem_cons.mpr ⟨so_runs_in tables_1_4 (by simp [so_runs]) _ so_c132, List.forall_mem_cons.mpr ⟨so_runs_in tables_1_4 (by simp [so_runs]) _ so_c133, List.forall_mem_cons.mpr ⟨so_runs_in tables_1_4 (by simp [so_runs]) _ so_c134, List.forall_mem_cons.mpr ⟨so_runs_in tables_1_4 (by simp [so_runs]) _ so_c135, List.forall_mem_cons.mpr ⟨so_runs_in tables_1_3 (by simp [so_runs]) _ so_c136, List.forall_mem_cons.mpr ⟨so_runs_in tables_1_3 (by simp [so_runs]) _ so_c137, List.forall_mem_cons.mpr ⟨so_runs_in tables_1_3 (by simp [so_runs]) _ so_c138, List.forall_mem_cons.mpr ⟨so_runs_in tables_1_3 (by simp [so_runs]) _ so_c139, List.forall_mem_cons.mpr ⟨so_runs_in tables_1_4 (by simp [so_runs]) _ so_c140, List.forall_mem_cons.mpr ⟨so_runs_in tables_1_4 (by simp [so_runs]) _ so_c141, List.forall_mem_cons.mpr ⟨so_runs_in tables_1_4 (by simp [so_runs]) _ so_c142, List.forall_mem_cons.mpr ⟨so_runs_in tables_1_5 (by simp [so_runs]) _ so_c143, fun _ h => absurd h List.not_mem_nil⟩⟩⟩⟩⟩⟩⟩⟩⟩⟩⟩⟩⟩⟩⟩⟩
theorem so_cc9 : ∀ w ∈ [so_cw 144, so_cw 145, so_cw 146, so_cw 147, so_cw 148, so_cw 149, so_cw 150, so_cw 151, so_cw 152, so_cw 153, so_cw 154, so_cw 155, so_cw 156, so_cw 157, so_cw 158, so_cw 159], w ∈ lw_tbl := List.forall_mem_cons.mpr ⟨so_runs_in tables_1_4 (by simp [so_runs]) _ so_c144, List.forall_mem_cons.mpr ⟨so_runs_in tables_1_3 (by simp [so_runs]) _ so_c145, List.forall_mem_cons.mpr ⟨so_runs_in tables_1_3 (by simp [so_runs]) _ so_c146, List.forall_mem_cons.mpr ⟨so_runs_in tables_1_3 (by simp [so_runs]) _ so_c147, List.forall_mem_cons.mpr ⟨so_runs_in tables_1_3 (by simp [so_runs]) _ so_c148, List.forall_mem_cons.mpr ⟨so_runs_in tables_1_3 (by simp [so_runs]) _ so_c149, List.forall_mem_cons.mpr ⟨so_runs_in tables_1_3 (by simp [so_runs]) _ so_c150, List.forall_mem_cons.mpr ⟨so_runs_in tables_1_3 (by simp [so_runs]) _ so_c151, List.forall_mem_cons.mpr ⟨so_runs_in tables_1_5 (by simp [so_runs]) _ so_c152, List.forall_mem_cons.mpr ⟨so_runs_in tables_1_3 (by simp [so_runs]) _ so_c153, List.forall_mem_cons.mpr ⟨so_runs_in tables_1_2 (by simp [so_runs]) _ so_c154, List.forall_mem_cons.mpr ⟨so_runs_in tables_1_2 (by simp [so_runs]) _ so_c155, List.forall_mem_cons.mpr ⟨so_runs_in tables_1_2 (by simp [so_runs]) _ so_c156, List.forall_mem_cons.mpr ⟨so_runs_in tables_1_2 (by simp [so_runs]) _ so_c157, List.forall_mem_cons.mpr ⟨so_runs_in tables_1_2 (by simp [so_runs]) _ so_c158, List.forall_mem_cons.mpr ⟨so_runs_in tables_1_2 (by simp [so_runs]) _ so_c159, fun _ h => absurd h List.not_mem_nil⟩⟩⟩⟩⟩⟩⟩⟩⟩⟩⟩⟩⟩⟩⟩⟩
theorem so_cc10 : ∀ w ∈ [so_cw 160, so_cw 161, so_cw 162, so_cw 163, so_cw 164, so_cw 165, so_cw 166, so_cw 167, so_cw 168, so_cw 169, so_cw 170, so_cw 171, so_cw 172, so_cw 173, so_cw 174, so_cw 175], w ∈ lw_tbl := List.forall_mem_cons.mpr ⟨so_runs_in tables_1_2 (by simp [so_runs]) _ so_c160, List.forall_mem_cons.mpr ⟨so_runs_in tables_1_2 (by simp [so_runs]) _ so_c161, List.forall_mem_cons.mpr ⟨so_runs_in tables_1_3 (by simp [so_runs]) _ so_c162, List.forall_mem_cons.mpr ⟨so_runs_in tables_1_2 (by simp [so_runs]) _ so_c163, List.forall_mem_cons.mpr ⟨so_runs_in tables_1_3 (by simp [so_runs]) _ so_c164, List.forall_mem_cons.mpr ⟨so_runs_in tables_1_3 (by simp [so_runs]) _ so_c165, List.forall_mem_cons.mpr ⟨so_runs_in tables_1_4 (by simp [so_runs]) _ so_c166, List.forall_mem_cons.mpr ⟨so_runs_in tables_1_2 (by simp [so_runs]) _ so_c167, List.forall_mem_cons.mpr ⟨so_runs_in tables_1_4 (by simp [so_runs]) _ so_c168, List.forall_mem_cons.mpr ⟨so_runs_in tables_1_4 (by simp [so_runs]) _ so_c169, List.forall_mem_cons.mpr ⟨so_runs_in tables_1_4 (by simp [so_runs]) _ so_c170, List.forall_mem_cons.mpr ⟨so_runs_in tables_1_3 (by simp [so_runs]) _ so_c171, List.forall_mem_cons.mpr ⟨so_runs_in tables_1_4 (by simp [so_runs]) _ so_c172, List.forall_mem_cons.mpr ⟨so_runs_in tables_1_4 (by simp [so_runs]) _ so_c173, List.forall_mem_cons.mpr ⟨so_runs_in tables_1_4 (by simp [so_runs]) _ so_c174, List.forall_mem_cons.mpr ⟨so_runs_in tables_1_5 (by simp [so_runs]) _ so_c175, fun _ h => absurd h List.not_mem_nil⟩⟩⟩⟩⟩⟩⟩⟩⟩⟩⟩⟩⟩⟩⟩⟩
theorem so_cc11 : ∀ w ∈ [so_cw 176, so_cw 177, so_cw 178, so_cw 179, so_cw 180, so_cw 181, so_cw 182, so_cw 183, so_cw 184, so_cw 185, so_cw 186, so_cw 187, so_cw 188, so_cw 189, so_cw 190, so_cw 191], w ∈ lw_tbl := List.forall_mem_cons.mpr ⟨so_runs_in tables_1_4 (by simp [so_runs]) _ so_c176, List.forall_mem_cons.mpr ⟨so_runs_in tables_1_4 (by simp [so_runs]) _ so_c177, List.forall_mem_cons.mpr ⟨so_runs_in tables_1_4 (by simp [so_runs]) _ so_c178, List.forall_mem_cons.mpr ⟨so_runs_in tables_1_4 (by simp [so_runs]) _ so_c179, List.forall_mem_cons.mpr ⟨so_runs_in tables_1_4 (by simp [so_runs]) _ so_c180, List.forall_mem_cons.mpr ⟨so_runs_in tables_1_4 (by simp [so_runs]) _ so_c181, List.forall_mem_cons.mpr ⟨so_runs_in tables_1_3 (by simp [so_runs]) _ so_c182, List.forall_mem_cons.mpr ⟨so_runs_in tables_1_3 (by simp [so_runs]) _ so_c183, List.forall_mem_cons.mpr ⟨so_runs_in tables_1_3 (by simp [so_runs]) _ so_c184, List.forall_mem_cons.mpr ⟨so_runs_in tables_1_3 (by simp [so_runs]) _ so_c185, List.forall_mem_cons.mpr ⟨so_runs_in tables_1_2 (by simp [so_runs]) _ so_c186, List.forall_mem_cons.mpr ⟨so_runs_in tables_1_3 (by simp [so_runs]) _ so_c187, List.forall_mem_cons.mpr ⟨so_runs_in tables_1_3 (by simp [so_runs]) _ so_c188, List.forall_mem_cons.mpr ⟨so_runs_in tables_1_3 (by simp [so_runs]) _ so_c189, List.forall_mem_cons.mpr ⟨so_runs_in tables_1_3 (by simp [so_runs]) _ so_c190, List.forall_mem_cons.mpr ⟨so_runs_in tables_1_3 (by simp [so_runs]) _ so_c191, fun _ h => absurd h List.not_mem_nil⟩⟩⟩⟩⟩⟩⟩⟩⟩⟩⟩⟩⟩⟩⟩⟩
theorem so_cc12 : ∀ w ∈ [so_cw 192, so_cw 193, so_cw 194, so_cw 195, so_cw 196, so_cw 197, so_cw 198, so_cw 199, so_cw 200, so_cw 201, so_cw 202, so_cw 203, so_cw 204, so_cw 205, so_cw 206], w ∈ lw_tbl := List.forall_mem_cons.mpr ⟨so_runs_in tables_1_4 (by simp [so_runs]) _ so_c192, List.forall_mem_cons.mpr ⟨so_runs_in tables_1_4 (by simp [so_runs]) _ so_c193, List.forall_mem_cons.mpr ⟨so_runs_in tables_1_4 (by simp [so_runs]) _ so_c194, List.forall_mem_cons.mpr ⟨so_runs_in tables_1_4 (by simp [so_runs]) _ so_c195, List.forall_mem_cons.mpr ⟨so_runs_in tables_1_4 (by simp [so_runs]) _ so_c196, List.forall_mem_cons.mpr ⟨so_runs_in tables_1_4 (by simp [so_runs]) _ so_c197, List.forall_mem_cons.mpr ⟨so_runs_in tables_1_4 (by simp [so_runs]) _ so_c198, List.forall_mem_cons.mpr ⟨so_runs_in tables_1_4 (by simp [so_runs]) _ so_c199, List.forall_mem_cons.mpr ⟨so_runs_in tables_1_4 (by simp [so_runs]) _ so_c200, List.forall_mem_cons.mpr ⟨so_runs_in tables_1_4 (by simp [so_runs]) _ so_c201, List.forall_mem_cons.mpr ⟨so_runs_in tables_1_5 (by simp [so_runs]) _ so_c202, List.forall_mem_cons.mpr ⟨so_runs_in tables_1_5 (by simp [so_runs]) _ so_c203, List.forall_mem_cons.mpr ⟨so_runs_in tables_1_5 (by simp [so_runs]) _ so_c204, List.forall_mem_cons.mpr ⟨so_runs_in tables_1_5 (by simp [so_runs]) _ so_c205, List.forall_mem_cons.mpr ⟨so_runs_in tables_1_5 (by simp [so_runs]) _ so_c206, fun _ h => absurd h List.not_mem_nil⟩⟩⟩⟩⟩⟩⟩⟩⟩⟩⟩⟩⟩⟩⟩
set_option maxRecDepth 100000 in
theorem so_cl0 : (List.range 207).map so_cw = [so_cw 0, so_cw 1, so_cw 2, so_cw 3, so_cw 4, so_cw 5, so_cw 6, so_cw 7, so_cw 8, so_cw 9, so_cw 10, so_cw 11, so_cw 12, so_cw 13, so_cw 14, so_cw 15] ++ ([so_cw 16, so_cw 17, so_cw 18, so_cw 19, so_cw 20, so_cw 21, so_cw 22, so_cw 23, so_cw 24, so_cw 25, so_cw 26, so_cw 27, so_cw 28, so_cw 29, so_cw 30, so_cw 31] ++ ([so_cw 32, so_cw 33, so_cw 34, so_cw 35, so_cw 36, so_cw 37, so_cw 38, so_cw 39, so_cw 40, so_cw 41, so_cw 42, so_cw 43, so_cw 44, so_cw 45, so_cw 46, so_cw 47] ++ ([so_cw 48, so_cw 49, so_cw 50, so_cw 51, so_cw 52, so_cw 53, so_cw 54, so_cw 55, so_cw 56, so_cw 57, so_cw 58, so_cw 59, so_cw 60, so_cw 61, so_cw 62, so_cw 63] ++ ([so_cw 64, so_cw 65, so_cw 66, so_cw 67, so_cw 68, so_cw 69, so_cw 70, so_cw 71, so_cw 72, so_cw 73, so_cw 74, so_cw 75, so_cw 76, so_cw 77, so_cw 78, so_cw 79] ++ ([so_cw 80, so_cw 81, so_cw 82, so_cw 83, so_cw 84, so_cw 85, so_cw 86, so_cw 87, so_cw 88, so_cw 89, so_cw 90, so_cw 91, so_cw 92, so_cw 93, so_cw 94, so_cw 95] ++ ([so_cw 96, so_cw 97, so_cw 98, so_cw 99, so_cw 100, so_cw 101, so_cw 102, so_cw 103, so_cw 104, so_cw 105, so_cw 106, so_cw 107, so_cw 108, so_cw 109, so_cw 110, so_cw 111] ++ ([so_cw 112, so_cw 113, so_cw 114, so_cw 115, so_cw 116, so_cw 117, so_cw 118, so_cw 119, so_cw 120, so_cw 121, so_cw 122, so_cw 123, so_cw 124, so_cw 125, so_cw 126, so_cw 127] ++ ([so_cw 128, so_cw 129, so_cw 130, so_cw 131, so_cw 132, so_cw 133, so_cw 134, so_cw 135, so_cw 136, so_cw 137, so_cw 138, so_cw 139, so_cw 140, so_cw 141, so_cw 142, so_cw 143] ++ ([so_cw 144, so_cw 145, so_cw 146, so_cw 147, so_cw 148, so_cw 149, so_cw 150, so_cw 151, so_cw 152, so_cw 153, so_cw 154, so_cw 155, so_cw 156, so_cw 157, so_cw 158, so_cw 159] ++ ([so_cw 160, so_cw 161, so_cw 162, so_cw 163, so_cw 164, so_cw 165, so_cw 166, so_cw 167, so_cw 168, so_cw 169, so_cw 170, so_cw 171, so_cw 172, so_cw 173, so_cw 174, so_cw 175] ++ ([so_cw 176, so_cw 177, so_cw 178, so_cw 179, so_cw 180, so_cw 181, so_cw 182, so_cw 183, so_cw 184, so_cw 185, so_cw 186, so_cw 187, so_cw 188, so_cw 189, so_cw 190, so_cw 191] ++ ([so_cw 192, so_cw 193, so_cw 194, so_cw 195, so_cw 196, so_cw 197, so_cw 198, so_cw 199, so_cw 200, so_cw 201, so_cw 202, so_cw 203, so_cw 204, so_cw 205, so_cw 206])))))))))))) := rfl
theorem so_cl1 : ∀ w ∈ (List.range 207).map so_cw, w ∈ lw_tbl := by
  rw [so_cl0]
  exact List.forall_mem_append.mpr ⟨so_cc0, List.forall_mem_append.mpr ⟨so_cc1, List.forall_mem_append.mpr ⟨so_cc2, List.forall_mem_append.mpr ⟨so_cc3, List.forall_mem_append.mpr ⟨so_cc4, List.forall_mem_append.mpr ⟨so_cc5, List.forall_mem_append.mpr ⟨so_cc6, List.forall_mem_append.mpr ⟨so_cc7, List.forall_mem_append.mpr ⟨so_cc8, List.forall_mem_append.mpr ⟨so_cc9, List.forall_mem_append.mpr ⟨so_cc10, List.forall_mem_append.mpr ⟨so_cc11, so_cc12⟩⟩⟩⟩⟩⟩⟩⟩⟩⟩⟩⟩
theorem so_f4 (i : Nat) (hi : i < 207) : so_cw i ∈ so_tb := by
  refine List.mem_filter.mpr ⟨so_cl1 _ (List.mem_map.mpr ⟨i, List.mem_range.mpr hi, rfl⟩), ?_⟩
  unfold so_cw
  split <;> rfl
