/-! .. and that it finds all in order -/
def so_cf (mi : Nat) (r : Nat × List am_I) : Bool := so_chw mi r.1 ((so_by mi).data.toList.drop r.1) r.2
theorem so_allc {α : Type} (l : List α) (f : α → Bool) (n : Nat) (hn : 0 < n) (h : ∀ j, j ≤ l.length / n → ((l.drop (n * j)).take n).all f = true) : l.all f = true := by
  rw [List.all_eq_true]
  intro x hx
  obtain ⟨i, hi⟩ := List.getElem?_of_mem hx
  have hlt := (List.getElem?_eq_some_iff.mp hi).1
  have h1 := List.all_eq_true.mp (h (i / n) (Nat.div_le_div_right (Nat.le_of_lt hlt)))
  refine h1 x (List.mem_of_getElem? (i := i % n) ?_)
  rw [List.getElem?_take, if_pos (Nat.mod_lt _ hn), List.getElem?_drop, Nat.div_add_mod]
  exact hi
theorem so_kw0 : am_m0.all (so_cf 0) = true := by decide +kernel
theorem so_kw1 : am_m1.all (so_cf 1) = true := by decide +kernel
theorem so_kw2 : am_m2.all (so_cf 2) = true := by decide +kernel
theorem so_kw3 : am_m3.all (so_cf 3) = true := by decide +kernel
theorem so_kw4 : am_m4.all (so_cf 4) = true := by decide +kernel
theorem so_kw5 : am_m5.all (so_cf 5) = true := by decide +kernel
theorem so_kw6 : am_m6.all (so_cf 6) = true := by decide +kernel
theorem so_kw7 : am_m7.all (so_cf 7) = true := by decide +kernel
theorem so_kw8 : am_m8.all (so_cf 8) = true := by decide +kernel
theorem so_kw9 : am_m9.all (so_cf 9) = true := by decide +kernel
theorem so_kw10 : am_m10.all (so_cf 10) = true := by decide +kernel
theorem so_kw11 : am_m11.all (so_cf 11) = true := by decide +kernel
theorem so_kw12 : am_m12.all (so_cf 12) = true := by decide +kernel
theorem so_kw13 : am_m13.all (so_cf 13) = true := by decide +kernel
theorem so_kw14 : am_m14.all (so_cf 14) = true := by decide +kernel
theorem so_kw15 : am_m15.all (so_cf 15) = true := by decide +kernel
theorem so_kw16 : am_m16.all (so_cf 16) = true := by decide +kernel
theorem so_kw17 : am_m17.all (so_cf 17) = true := by decide +kernel
theorem so_kw18 : am_m18.all (so_cf 18) = true := by decide +kernel
theorem so_kw19 : am_m19.all (so_cf 19) = true := by decide +kernel
theorem so_kw20 : am_m20.all (so_cf 20) = true := by decide +kernel
theorem so_kw21 : am_m21.all (so_cf 21) = true := by decide +kernel
theorem so_kw22 : am_m22.all (so_cf 22) = true := by decide +kernel
theorem so_kw23 : am_m23.all (so_cf 23) = true := by decide +kernel
theorem so_kw24 : am_m24.all (so_cf 24) = true := by decide +kernel
theorem so_kw25 : am_m25.all (so_cf 25) = true := by decide +kernel
theorem so_kw26 : am_m26.all (so_cf 26) = true := by decide +kernel
theorem so_kw27 : am_m27.all (so_cf 27) = true := by decide +kernel
theorem so_kw28 : am_m28.all (so_cf 28) = true := by decide +kernel
theorem so_kw29 : am_m29.all (so_cf 29) = true := by decide +kernel
theorem so_kw30 : am_m30.all (so_cf 30) = true := by decide +kernel
theorem so_kw31 : am_m31.all (so_cf 31) = true := by decide +kernel
theorem so_kw32 : am_m32.all (so_cf 32) = true := by decide +kernel
theorem so_kw33 : am_m33.all (so_cf 33) = true := by decide +kernel
theorem so_kw34 : am_m34.all (so_cf 34) = true := by decide +kernel
theorem so_kw35 : am_m35.all (so_cf 35) = true := by decide +kernel
theorem so_kw36 : am_m36.all (so_cf 36) = true := by decide +kernel
theorem so_kw37 : am_m37.all (so_cf 37) = true := by decide +kernel
theorem so_kw38 : am_m38.all (so_cf 38) = true := by decide +kernel
theorem so_kw39 : am_m39.all (so_cf 39) = true := by decide +kernel
theorem so_kw40 : am_m40.all (so_cf 40) = true := by decide +kernel
theorem so_kw41 : am_m41.all (so_cf 41) = true := by decide +kernel
theorem so_kw42 : am_m42.all (so_cf 42) = true := by decide +kernel
theorem so_kw43 : am_m43.all (so_cf 43) = true := by decide +kernel
theorem so_kw44 : am_m44.all (so_cf 44) = true := by decide +kernel
theorem so_kw45 : am_m45.all (so_cf 45) = true := by decide +kernel
theorem so_kw46 : am_m46.all (so_cf 46) = true := by decide +kernel
theorem so_kw47 : am_m47.all (so_cf 47) = true := by decide +kernel
theorem so_kw48 : am_m48.all (so_cf 48) = true := by decide +kernel
theorem so_kw49 : am_m49.all (so_cf 49) = true := by decide +kernel
theorem so_kw50 : am_m50.all (so_cf 50) = true := by decide +kernel
theorem so_kw51 : am_m51.all (so_cf 51) = true := by decide +kernel
theorem so_kw52 : am_m52.all (so_cf 52) = true := by decide +kernel
theorem so_kw53 : am_m53.all (so_cf 53) = true := by decide +kernel
theorem so_kw54 : am_m54.all (so_cf 54) = true := by decide +kernel
theorem so_kw55 : am_m55.all (so_cf 55) = true := by decide +kernel
theorem so_kw56 : am_m56.all (so_cf 56) = true := by decide +kernel
theorem so_kw57 : am_m57.all (so_cf 57) = true := by decide +kernel
theorem so_kw58 : am_m58.all (so_cf 58) = true := by decide +kernel
theorem so_kw59 : am_m59.all (so_cf 59) = true := by decide +kernel
theorem so_kw60 : am_m60.all (so_cf 60) = true := by decide +kernel
theorem so_kw61 : am_m61.all (so_cf 61) = true := by decide +kernel
theorem so_kw62 : am_m62.all (so_cf 62) = true := by decide +kernel
theorem so_kw63 : am_m63.all (so_cf 63) = true := by decide +kernel
theorem so_kw64 : am_m64.all (so_cf 64) = true := by decide +kernel
theorem so_kw65 : am_m65.all (so_cf 65) = true := by decide +kernel
theorem so_kw66 : am_m66.all (so_cf 66) = true := by decide +kernel
theorem so_kw67 : am_m67.all (so_cf 67) = true := by decide +kernel
theorem so_kw68 : am_m68.all (so_cf 68) = true := by decide +kernel
theorem so_kw69 : am_m69.all (so_cf 69) = true := by decide +kernel
theorem so_kw70 : am_m70.all (so_cf 70) = true := by decide +kernel
theorem so_kw71 : am_m71.all (so_cf 71) = true := by decide +kernel
theorem so_kw72 : am_m72.all (so_cf 72) = true := by decide +kernel
theorem so_kw73 : am_m73.all (so_cf 73) = true := by decide +kernel
theorem so_kw74 : am_m74.all (so_cf 74) = true := by decide +kernel
theorem so_kw75 : am_m75.all (so_cf 75) = true := by decide +kernel
theorem so_kw76 : am_m76.all (so_cf 76) = true := by decide +kernel
theorem so_kw77 : am_m77.all (so_cf 77) = true := by decide +kernel
theorem so_kw78 : am_m78.all (so_cf 78) = true := by decide +kernel
theorem so_kw79 : am_m79.all (so_cf 79) = true := by decide +kernel
theorem so_kw80 : am_m80.all (so_cf 80) = true := by decide +kernel
theorem so_kw81 : am_m81.all (so_cf 81) = true := by decide +kernel
theorem so_kw82 : am_m82.all (so_cf 82) = true := by decide +kernel
theorem so_kw83 : am_m83.all (so_cf 83) = true := by decide +kernel
theorem so_kw84 : am_m84.all (so_cf 84) = true := by decide +kernel
theorem so_kw85 : am_m85.all (so_cf 85) = true := by decide +kernel
theorem so_kw86 : am_m86.all (so_cf 86) = true := by decide +kernel
theorem so_kw87 : am_m87.all (so_cf 87) = true := by decide +kernel
theorem so_kw88 : am_m88.all (so_cf 88) = true := by decide +kernel
theorem so_kw89 : am_m89.all (so_cf 89) = true := by decide +kernel
theorem so_kw90 : am_m90.all (so_cf 90) = true := by decide +kernel
theorem so_kw91 : am_m91.all (so_cf 91) = true := by decide +kernel
theorem so_kw92 : am_m92.all (so_cf 92) = true := by decide +kernel
theorem so_kw93 : am_m93.all (so_cf 93) = true := by decide +kernel
theorem so_kw94 : am_m94.all (so_cf 94) = true := by decide +kernel
theorem so_kw95 : am_m95.all (so_cf 95) = true := by decide +kernel
theorem so_kw96 : am_m96.all (so_cf 96) = true := by decide +kernel
theorem so_kw97 : am_m97.all (so_cf 97) = true := by decide +kernel
theorem so_kw98 : am_m98.all (so_cf 98) = true := by decide +kernel
theorem so_kw99 : am_m99.all (so_cf 99) = true := by decide +kernel
theorem so_kw100 : am_m100.all (so_cf 100) = true := by decide +kernel
theorem so_kw101 : am_m101.all (so_cf 101) = true := by decide +kernel
theorem so_kw102 : am_m102.all (so_cf 102) = true := by decide +kernel
theorem so_kw103 : am_m103.all (so_cf 103) = true := by decide +kernel
theorem so_kw104 : am_m104.all (so_cf 104) = true := by decide +kernel
theorem so_kw105 : am_m105.all (so_cf 105) = true := by decide +kernel
theorem so_kw106 : am_m106.all (so_cf 106) = true := by decide +kernel
theorem so_kw107 : am_m107.all (so_cf 107) = true := by decide +kernel
theorem so_kw108 : am_m108.all (so_cf 108) = true := by decide +kernel
theorem so_kw109 : am_m109.all (so_cf 109) = true := by decide +kernel
theorem so_kw110 : am_m110.all (so_cf 110) = true := by decide +kernel
theorem so_kw111 : am_m111.all (so_cf 111) = true := by decide +kernel
theorem so_kw112 : am_m112.all (so_cf 112) = true := by decide +kernel
theorem so_kw113 : am_m113.all (so_cf 113) = true := by decide +kernel
theorem so_kw114 : am_m114.all (so_cf 114) = true := by decide +kernel
theorem so_kw115 : am_m115.all (so_cf 115) = true := by decide +kernel
theorem so_kw116 : am_m116.all (so_cf 116) = true := by decide +kernel
theorem so_kw117 : am_m117.all (so_cf 117) = true := by decide +kernel
theorem so_kw118 : am_m118.all (so_cf 118) = true := by decide +kernel
theorem so_kw119 : am_m119.all (so_cf 119) = true := by decide +kernel
theorem so_kw120 : am_m120.all (so_cf 120) = true := by decide +kernel
theorem so_kw121 : am_m121.all (so_cf 121) = true := by decide +kernel
theorem so_kw122 : am_m122.all (so_cf 122) = true := by decide +kernel
theorem so_kw123 : am_m123.all (so_cf 123) = true := by decide +kernel
theorem so_kw124 : am_m124.all (so_cf 124) = true := by decide +kernel
theorem so_kw125 : am_m125.all (so_cf 125) = true := by decide +kernel
theorem so_kw126 : am_m126.all (so_cf 126) = true := by decide +kernel
theorem so_kw127 : am_m127.all (so_cf 127) = true := by decide +kernel
theorem so_kw128 : am_m128.all (so_cf 128) = true := by decide +kernel
theorem so_kw129 : am_m129.all (so_cf 129) = true := by decide +kernel
theorem so_kw130 : am_m130.all (so_cf 130) = true := by decide +kernel
theorem so_kw131 : am_m131.all (so_cf 131) = true := by decide +kernel
theorem so_kw132 : am_m132.all (so_cf 132) = true := by decide +kernel
theorem so_kw133 : am_m133.all (so_cf 133) = true := by decide +kernel
theorem so_kw134 : am_m134.all (so_cf 134) = true := by decide +kernel
theorem so_kw135 : am_m135.all (so_cf 135) = true := by decide +kernel
theorem so_kw136 : am_m136.all (so_cf 136) = true := by decide +kernel
theorem so_kw137 : am_m137.all (so_cf 137) = true := by decide +kernel
theorem so_kw138 : am_m138.all (so_cf 138) = true := by decide +kernel
theorem so_kw139 : am_m139.all (so_cf 139) = true := by decide +kernel
theorem so_kw140 : am_m140.all (so_cf 140) = true := by decide +kernel
theorem so_kw141 : am_m141.all (so_cf 141) = true := by decide +kernel
theorem so_kw142 : am_m142.all (so_cf 142) = true := by decide +kernel
theorem so_kw143 : am_m143.all (so_cf 143) = true := by decide +kernel
theorem so_kw144 : am_m144.all (so_cf 144) = true := by decide +kernel
theorem so_kw145 : am_m145.all (so_cf 145) = true := by decide +kernel
theorem so_kw146 : am_m146.all (so_cf 146) = true := by decide +kernel
theorem so_kw147 : am_m147.all (so_cf 147) = true := by decide +kernel
theorem so_kw148 : am_m148.all (so_cf 148) = true := by decide +kernel
theorem so_kw149 : am_m149.all (so_cf 149) = true := by decide +kernel
theorem so_kw150 : am_m150.all (so_cf 150) = true := by decide +kernel
theorem so_kw151 : am_m151.all (so_cf 151) = true := by decide +kernel
theorem so_kw152 : am_m152.all (so_cf 152) = true := by decide +kernel
theorem so_kw153 : am_m153.all (so_cf 153) = true := by decide +kernel
theorem so_kw154 : am_m154.all (so_cf 154) = true := by decide +kernel
theorem so_kw155 : am_m155.all (so_cf 155) = true := by decide +kernel
theorem so_kw156 : am_m156.all (so_cf 156) = true := by decide +kernel
theorem so_kw157 : am_m157.all (so_cf 157) = true := by decide +kernel
theorem so_kw158 : am_m158.all (so_cf 158) = true := by decide +kernel
theorem so_kw159 : am_m159.all (so_cf 159) = true := by decide +kernel
theorem so_kw160 : am_m160.all (so_cf 160) = true := by decide +kernel
theorem so_kw161 : am_m161.all (so_cf 161) = true := by decide +kernel
theorem so_kw162 : am_m162.all (so_cf 162) = true := by decide +kernel
theorem so_kw163 : am_m163.all (so_cf 163) = true := by decide +kernel
theorem so_kw164 : am_m164.all (so_cf 164) = true := by decide +kernel
theorem so_kw165 : am_m165.all (so_cf 165) = true := by decide +kernel
theorem so_kw166 : am_m166.all (so_cf 166) = true := by decide +kernel
theorem so_kw167 : am_m167.all (so_cf 167) = true := by decide +kernel
theorem so_kw168 : am_m168.all (so_cf 168) = true := by decide +kernel
theorem so_kw169 : am_m169.all (so_cf 169) = true := by decide +kernel
theorem so_kw170 : am_m170.all (so_cf 170) = true := by decide +kernel
theorem so_kw171 : am_m171.all (so_cf 171) = true := by decide +kernel
theorem so_kw172 : am_m172.all (so_cf 172) = true := by decide +kernel
theorem so_kw173 : am_m173.all (so_cf 173) = true := by decide +kernel
theorem so_kw174 : am_m174.all (so_cf 174) = true := by decide +kernel
theorem so_kw175 : am_m175.all (so_cf 175) = true := by decide +kernel
theorem so_kw176 : am_m176.all (so_cf 176) = true := by decide +kernel
theorem so_kw177 : am_m177.all (so_cf 177) = true := by decide +kernel
theorem so_kw178 : am_m178.all (so_cf 178) = true := by decide +kernel
theorem so_kw179 : am_m179.all (so_cf 179) = true := by decide +kernel
theorem so_kw180 : am_m180.all (so_cf 180) = true := by decide +kernel
theorem so_kw181 : am_m181.all (so_cf 181) = true := by decide +kernel
theorem so_kw182 : am_m182.all (so_cf 182) = true := by decide +kernel
theorem so_kw183 : am_m183.all (so_cf 183) = true := by decide +kernel
theorem so_kw184 : am_m184.all (so_cf 184) = true := by decide +kernel
theorem so_kw185 : am_m185.all (so_cf 185) = true := by decide +kernel
theorem so_kw186 : am_m186.all (so_cf 186) = true := by decide +kernel
theorem so_kw187 : am_m187.all (so_cf 187) = true := by decide +kernel
theorem so_kw188 : am_m188.all (so_cf 188) = true := by decide +kernel
theorem so_kw189 : am_m189.all (so_cf 189) = true := by decide +kernel
theorem so_kw190 : am_m190.all (so_cf 190) = true := by decide +kernel
theorem so_kw191 : am_m191.all (so_cf 191) = true := by decide +kernel
theorem so_kw192 : am_m192.all (so_cf 192) = true := by decide +kernel
theorem so_kw193 : am_m193.all (so_cf 193) = true := by decide +kernel
theorem so_kw194 : am_m194.all (so_cf 194) = true := by decide +kernel
theorem so_kw195 : am_m195.all (so_cf 195) = true := by decide +kernel
theorem so_kw196 : am_m196.all (so_cf 196) = true := by decide +kernel
theorem so_kw197 : am_m197.all (so_cf 197) = true := by decide +kernel
theorem so_kw198 : am_m198.all (so_cf 198) = true := by decide +kernel
theorem so_kw199 : am_m199.all (so_cf 199) = true := by decide +kernel
theorem so_kw200 : am_m200.all (so_cf 200) = true := by decide +kernel
theorem so_kw201 : am_m201.all (so_cf 201) = true := by decide +kernel
theorem so_kw202 : am_m202.all (so_cf 202) = true := by decide +kernel
theorem so_kw203 : am_m203.all (so_cf 203) = true := by decide +kernel
theorem so_kw204 : am_m204.all (so_cf 204) = true := by decide +kernel
theorem so_kw205 : am_m205.all (so_cf 205) = true := by decide +kernel
theorem so_kw206 : am_m206.all (so_cf 206) = true := by decide +kernel
theorem so_kw207_0 : ((am_m207.drop (6 * 0)).take 6).all (so_cf 207) = true := by decide +kernel
theorem so_kw207_1 : ((am_m207.drop (6 * 1)).take 6).all (so_cf 207) = true := by decide +kernel
theorem so_kw207_2 : ((am_m207.drop (6 * 2)).take 6).all (so_cf 207) = true := by decide +kernel
theorem so_kw207_3 : ((am_m207.drop (6 * 3)).take 6).all (so_cf 207) = true := by decide +kernel
theorem so_kw207_4 : ((am_m207.drop (6 * 4)).take 6).all (so_cf 207) = true := by decide +kernel
theorem so_kw207_5 : ((am_m207.drop (6 * 5)).take 6).all (so_cf 207) = true := by decide +kernel
theorem so_kw207_6 : ((am_m207.drop (6 * 6)).take 6).all (so_cf 207) = true := by decide +kernel
theorem so_kw207_7 : ((am_m207.drop (6 * 7)).take 6).all (so_cf 207) = true := by decide +kernel
theorem so_kw207_8 : ((am_m207.drop (6 * 8)).take 6).all (so_cf 207) = true := by decide +kernel
theorem so_kw207_9 : ((am_m207.drop (6 * 9)).take 6).all (so_cf 207) = true := by decide +kernel
theorem so_kw207_10 : ((am_m207.drop (6 * 10)).take 6).all (so_cf 207) = true := by decide +kernel
theorem so_kw207_11 : ((am_m207.drop (6 * 11)).take 6).all (so_cf 207) = true := by decide +kernel
theorem so_kw207_12 : ((am_m207.drop (6 * 12)).take 6).all (so_cf 207) = true := by decide +kernel
theorem so_kw207_13 : ((am_m207.drop (6 * 13)).take 6).all (so_cf 207) = true := by decide +kernel
theorem so_kw207_l : ∀ j ∈ [0, 1, 2, 3, 4, 5, 6, 7, 8, 9, 10, 11, 12, 13], ((am_m207.drop (6 * j)).take 6).all (so_cf 207) = true := List.forall_mem_cons.mpr ⟨so_kw207_0, List.forall_mem_cons.mpr ⟨so_kw207_1, List.forall_mem_cons.mpr ⟨so_kw207_2, List.forall_mem_cons.mpr ⟨so_kw207_3, List.forall_mem_cons.mpr ⟨so_kw207_4, List.forall_mem_cons.mpr ⟨so_kw207_5, List.forall_mem_cons.mpr ⟨so_kw207_6, List.forall_mem_cons.mpr ⟨so_kw207_7, List.forall_mem_cons.mpr ⟨so_kw207_8, List.forall_mem_cons.mpr ⟨so_kw207_9, List.forall_mem_cons.mpr ⟨so_kw207_10, List.forall_mem_cons.mpr ⟨so_kw207_11, List.forall_mem_cons.mpr ⟨so_kw207_12, List.forall_mem_cons.mpr ⟨so_kw207_13, fun _ h => absurd h List.not_mem_nil⟩⟩⟩⟩⟩⟩⟩⟩⟩⟩⟩⟩⟩⟩
theorem so_kw207 : am_m207.all (so_cf 207) = true := by
  refine so_allc _ _ 6 (by decide) (fun j hj => so_kw207_l j ?_)
  have hl : am_m207.length / 6 = 13 := rfl
  rw [hl] at hj
  have h : List.range 14 = [0, 1, 2, 3, 4, 5, 6, 7, 8, 9, 10, 11, 12, 13] := by decide
  rw [← h]
  exact List.mem_range.mpr (by omega)
theorem so_kc0 : ∀ i ∈ [0, 1, 2, 3, 4, 5, 6, 7, 8, 9, 10, 11, 12, 13, 14, 15], ∀ q, am_tb[i]? = some q → q.2.all (so_cf i) = true := List.forall_mem_cons.mpr ⟨fun q h => by cases h; exact so_kw0, List.forall_mem_cons.mpr ⟨fun q h => by cases h; exact so_kw1, List.forall_mem_cons.mpr ⟨fun q h => by cases h; exact so_kw2, List.forall_mem_cons.mpr ⟨fun q h => by cases h; exact so_kw3, List.forall_mem_cons.mpr ⟨fun q h => by cases h; exact so_kw4, List.forall_mem_cons.mpr ⟨fun q h => by cases h; exact so_kw5, List.forall_mem_cons.mpr ⟨fun q h => by cases h; exact so_kw6, List.forall_mem_cons.mpr ⟨fun q h => by cases h; exact so_kw7, List.forall_mem_cons.mpr ⟨fun q h => by cases h; exact so_kw8, List.forall_mem_cons.mpr ⟨fun q h => by cases h; exact so_kw9, List.forall_mem_cons.mpr ⟨fun q h => by cases h; exact so_kw10, List.forall_mem_cons.mpr ⟨fun q h => by cases h; exact so_kw11, List.forall_mem_cons.mpr ⟨fun q h => by cases h; exact so_kw12, List.forall_mem_cons.mpr ⟨fun q h => by cases h; exact so_kw13, List.forall_mem_cons.mpr ⟨fun q h => by cases h; exact so_kw14, List.forall_mem_cons.mpr ⟨fun q h => by cases h; exact so_kw15, fun _ h => absurd h List.not_mem_nil⟩⟩⟩⟩⟩⟩⟩⟩⟩⟩⟩⟩⟩⟩⟩⟩
theorem so_kc1 : ∀ i ∈ [16, 17, 18, 19, 20, 21, 22, 23, 24, 25, 26, 27, 28, 29, 30, 31], ∀ q, am_tb[i]? = some q → q.2.all (so_cf i) = true := List.forall_mem_cons.mpr ⟨fun q h => by cases h; exact so_kw16, List.forall_mem_cons.mpr ⟨fun q h => by cases h; exact so_kw17, List.forall_mem_cons.mpr ⟨fun q h => by cases h; exact so_kw18, List.forall_mem_cons.mpr ⟨fun q h => by cases h; exact so_kw19, List.forall_mem_cons.mpr ⟨fun q h => by cases h; exact so_kw20, List.forall_mem_cons.mpr ⟨fun q h => by cases h; exact so_kw21, List.forall_mem_cons.mpr ⟨fun q h => by cases h; exact so_kw22, List.forall_mem_cons.mpr ⟨fun q h => by cases h; exact so_kw23, List.forall_mem_cons.mpr ⟨fun q h => by cases h; exact so_kw24, List.forall_mem_cons.mpr ⟨fun q h => by cases h; exact so_kw25, List.forall_mem_cons.mpr ⟨fun q h => by cases h; exact so_kw26, List.forall_mem_cons.mpr ⟨fun q h => by cases h; exact so_kw27, List.forall_mem_cons.mpr ⟨fun q h => by cases h; exact so_kw28, List.forall_mem_cons.mpr ⟨fun q h => by cases h; exact so_kw29, List.forall_mem_cons.mpr ⟨fun q h => by cases h; exact so_kw30, List.forall_mem_cons.mpr ⟨fun q h => by cases h; exact so_kw31, fun _ h => absurd h List.not_mem_nil⟩⟩⟩⟩⟩⟩⟩⟩⟩⟩⟩⟩⟩⟩⟩⟩
theorem so_kc2 : ∀ i ∈ [32, 33, 34, 35, 36, 37, 38, 39, 40, 41, 42, 43, 44, 45, 46, 47], ∀ q, am_tb[i]? = some q → q.2.all (so_cf i) = true := List.forall_mem_cons.mpr ⟨fun q h => by cases h; exact so_kw32, List.forall_mem_cons.mpr ⟨fun q h => by cases h; exact so_kw33, List.forall_mem_cons.mpr ⟨fun q h => by cases h; exact so_kw34, List.forall_mem_cons.mpr ⟨fun q h => by cases h; exact so_kw35, List.forall_mem_cons.mpr ⟨fun q h => by cases h; exact so_kw36, List.forall_mem_cons.mpr ⟨fun q h => by cases h; exact so_kw37, List.forall_mem_cons.mpr ⟨fun q h => by cases h; exact so_kw38, List.forall_mem_cons.mpr ⟨fun q h => by cases h; exact so_kw39, List.forall_mem_cons.mpr ⟨fun q h => by cases h; exact so_kw40, List.forall_mem_cons.mpr ⟨fun q h => by cases h; exact so_kw41, List.forall_mem_cons.mpr ⟨fun q h => by cases h; exact so_kw42, List.forall_mem_cons.mpr ⟨fun q h => by cases h; exact so_kw43, List.forall_mem_cons.mpr ⟨fun q h => by cases h; exact so_kw44, List.forall_mem_cons.mpr ⟨fun q h => by cases h; exact so_kw45, List.forall_mem_cons.mpr ⟨fun q h => by cases h; exact so_kw46, List.forall_mem_cons.mpr ⟨fun q h => by cases h; exact so_kw47, fun _ h => absurd h List.not_mem_nil⟩⟩⟩⟩⟩⟩⟩⟩⟩⟩⟩⟩⟩⟩⟩⟩
theorem so_kc3 : ∀ i ∈ [48, 49, 50, 51, 52, 53, 54, 55, 56, 57, 58, 59, 60, 61, 62, 63], ∀ q, am_tb[i]? = some q → q.2.all (so_cf i) = true := List.forall_mem_cons.mpr ⟨fun q h => by cases h; exact so_kw48, List.forall_mem_cons.mpr ⟨fun q h => by cases h; exact so_kw49, List.forall_mem_cons.mpr ⟨fun q h => by cases h; exact so_kw50, List.forall_mem_cons.mpr ⟨fun q h => by cases h; exact so_kw51, List.forall_mem_cons.mpr ⟨fun q h => by cases h; exact so_kw52, List.forall_mem_cons.mpr ⟨fun q h => by cases h; exact so_kw53, List.forall_mem_cons.mpr ⟨fun q h => by cases h; exact so_kw54, List.forall_mem_cons.mpr ⟨fun q h => by cases h; exact so_kw55, List.forall_mem_cons.mpr ⟨fun q h => by cases h; exact so_kw56, List.forall_mem_cons.mpr ⟨fun q h => by cases h; exact so_kw57, List.forall_mem_cons.mpr ⟨fun q h => by cases h; exact so_kw58, List.forall_mem_cons.mpr ⟨fun q h => by cases h; exact so_kw59, List.forall_mem_cons.mpr ⟨fun q h => by cases h; exact so_kw60, List.forall_mem_cons.mpr ⟨fun q h => by cases h; exact so_kw61, List.forall_mem_cons.mpr ⟨fun q h => by cases h; exact so_kw62, List.forall_mem_cons.mpr ⟨fun q h => by cases h; exact so_kw63, fun _ h => absurd h List.not_mem_nil⟩⟩⟩⟩⟩⟩⟩⟩⟩⟩⟩⟩⟩⟩⟩⟩
theorem so_kc4 : ∀ i ∈ [64, 65, 66, 67, 68, 69, 70, 71, 72, 73, 74, 75, 76, 77, 78, 79], ∀ q, am_tb[i]? = some q → q.2.all (so_cf i) = true := List.forall_mem_cons.mpr ⟨fun q h => by cases h; exact so_kw64, List.forall_mem_cons.mpr ⟨fun q h => by cases h; exact so_kw65, List.forall_mem_cons.mpr ⟨fun q h => by cases h; exact so_kw66, List.forall_mem_cons.mpr ⟨fun q h => by cases h; exact so_kw67, List.forall_mem_cons.mpr ⟨fun q h => by cases h; exact so_kw68, List.forall_mem_cons.mpr ⟨fun q h => by cases h; exact so_kw69, List.forall_mem_cons.mpr ⟨fun q h => by cases h; exact so_kw70, List.forall_mem_cons.mpr ⟨fun q h => by cases h; exact so_kw71, List.forall_mem_cons.mpr ⟨fun q h => by cases h; exact so_kw72, List.forall_mem_cons.mpr ⟨fun q h => by cases h; exact so_kw73, List.forall_mem_cons.mpr ⟨fun q h => by cases h; exact so_kw74, List.forall_mem_cons.mpr ⟨fun q h => by cases h; exact so_kw75, List.forall_mem_cons.mpr ⟨fun q h => by cases h; exact so_kw76, List.forall_mem_cons.mpr ⟨fun q h => by cases h; exact so_kw77, List.forall_mem_cons.mpr ⟨fun q h => by cases h; exact so_kw78, List.forall_mem_cons.mpr ⟨fun q h => by cases h; exact so_kw79, fun _ h => absurd h List.not_mem_nil⟩⟩⟩⟩⟩⟩⟩⟩⟩⟩⟩⟩⟩⟩⟩⟩
theorem so_kc5 : ∀ i ∈ [80, 81, 82, 83, 84, 85, 86, 87, 88, 89, 90, 91, 92, 93, 94, 95], ∀ q, am_tb[i]? = some q → q.2.all (so_cf i) = true := List.forall_mem_cons.mpr ⟨fun q h => by cases h; exact so_kw80, List.forall_mem_cons.mpr ⟨fun q h => by cases h; exact so_kw81, List.forall_mem_cons.mpr ⟨fun q h => by cases h; exact so_kw82, List.forall_mem_cons.mpr ⟨fun q h => by cases h; exact so_kw83, List.forall_mem_cons.mpr ⟨fun q h => by cases h; exact so_kw84, List.forall_mem_cons.mpr ⟨fun q h => by cases h; exact so_kw85, List.forall_mem_cons.mpr ⟨fun q h => by cases h; exact so_kw86, List.forall_mem_cons.mpr ⟨fun q h => by cases h; exact so_kw87, List.forall_mem_cons.mpr ⟨fun q h => by cases h; exact so_kw88, List.forall_mem_cons.mpr ⟨fun q h => by cases h; exact so_kw89, List.forall_mem_cons.mpr ⟨fun q h => by cases h; exact so_kw90, List.forall_mem_cons.mpr ⟨fun q h => by cases h; exact so_kw91, List.forall_mem_cons.mpr ⟨fun q h => by cases h; exact so_kw92, List.forall_mem_cons.mpr ⟨fun q h => by cases h; exact so_kw93, List.forall_mem_cons.mpr ⟨fun q h => by cases h; exact so_kw94, List.forall_mem_cons.mpr ⟨fun q h => by cases h; exact so_kw95, fun _ h => absurd h List.not_mem_nil⟩⟩⟩⟩⟩⟩⟩⟩⟩⟩⟩⟩⟩⟩⟩⟩
theorem so_kc6 : ∀ i ∈ [96, 97, 98, 99, 100, 101, 102, 103, 104, 105, 106, 107, 108, 109, 110, 111], ∀ q, am_tb[i]? = some q → q.2.all (so_cf i) = true := List.forall_mem_cons.mpr ⟨fun q h => by cases h; exact so_kw96, List.forall_mem_cons.mpr ⟨fun q h => by cases h; exact so_kw97, List.forall_mem_cons.mpr ⟨fun q h => by cases h; exact so_kw98, List.forall_mem_cons.mpr ⟨fun q h => by cases h; exact so_kw99, List.forall_mem_cons.mpr ⟨fun q h => by cases h; exact so_kw100, List.forall_mem_cons.mpr ⟨fun q h => by cases h; exact so_kw101, List.forall_mem_cons.mpr ⟨fun q h => by cases h; exact so_kw102, List.forall_mem_cons.mpr ⟨fun q h => by cases h; exact so_kw103, List.forall_mem_cons.mpr ⟨fun q h => by cases h; exact so_kw104, List.forall_mem_cons.mpr ⟨fun q h => by cases h; exact so_kw105, List.forall_mem_cons.mpr ⟨fun q h => by cases h; exact so_kw106, List.forall_mem_cons.mpr ⟨fun q h => by cases h; exact so_kw107, List.forall_mem_cons.mpr ⟨fun q h => by cases h; exact so_kw108, List.forall_mem_cons.mpr ⟨fun q h => by cases h; exact so_kw109, List.forall_mem_cons.mpr ⟨fun q h => by cases h; exact so_kw110, List.forall_mem_cons.mpr ⟨fun q h => by cases h; exact so_kw111, fun _ h => absurd h List.not_mem_nil⟩⟩⟩⟩⟩⟩⟩⟩⟩⟩⟩⟩⟩⟩⟩⟩
theorem so_kc7 : ∀ i ∈ [112, 113, 114, 115, 116, 117, 118, 119, 120, 121, 122, 123, 124, 125, 126, 127], ∀ q, am_tb[i]? = some q → q.2.all (so_cf i) = true := List.forall_mem_cons.mpr ⟨fun q h => by cases h; exact so_kw112, List.forall_mem_cons.mpr ⟨fun q h => by cases h; exact so_kw113, List.forall_mem_cons.mpr ⟨fun q h => by cases h; exact so_kw114, List.forall_mem_cons.mpr ⟨fun q h => by cases h; exact so_kw115, List.forall_mem_cons.mpr ⟨fun q h => by cases h; exact so_kw116, List.forall_mem_cons.mpr ⟨fun q h => by cases h; exact so_kw117, List.forall_mem_cons.mpr ⟨fun q h => by cases h; exact so_kw118, List.forall_mem_cons.mpr ⟨fun q h => by cases h; exact so_kw119, List.forall_mem_cons.mpr ⟨fun q h => by cases h; exact so_kw120, List.forall_mem_cons.mpr ⟨fun q h => by cases h; exact so_kw121, List.forall_mem_cons.mpr ⟨fun q h => by cases h; exact so_kw122, List.forall_mem_cons.mpr ⟨fun q h => by cases h; exact so_kw123, List.forall_mem_cons.mpr ⟨fun q h => by cases h; exact so_kw124, List.forall_mem_cons.mpr ⟨fun q h => by cases h; exact so_kw125, List.forall_mem_cons.mpr ⟨fun q h => by cases h; exact so_kw126, List.forall_mem_cons.mpr ⟨fun q h => by cases h; exact so_kw127, fun _ h => absurd h List.not_mem_nil⟩⟩⟩⟩⟩⟩⟩⟩⟩⟩⟩⟩⟩⟩⟩⟩
theorem so_kc8 : ∀ i ∈ [128, 129, 130, 131, 132, 133, 134, 135, 136, 137, 138, 139, 140, 141, 142, 143], ∀ q, am_tb[i]? = some q → q.2.all (so_cf i) = true := List.forall_mem_cons.mpr ⟨fun q h => by cases h; exact so_kw128, List.forall_mem_cons.mpr ⟨fun q h => by cases h; exact so_kw129, List.forall_mem_cons.mpr ⟨fun q h => by cases h; exact so_kw130, List.forall_mem_cons.mpr ⟨fun q h => by cases h; exact so_kw131, List.forall_mem_cons.mpr ⟨fun q h => by cases h; exact so_kw132, List.forall_mem_cons.mpr ⟨fun q h => by cases h; exact so_kw133, List.forall_mem_cons.mpr ⟨fun q h => by cases h; exact so_kw134, List.forall_mem_cons.mpr ⟨fun q h => by cases h; exact so_kw135, List.forall_mem_cons.mpr ⟨fun q h => by cases h; exact so_kw136, List.forall_mem_cons.mpr ⟨fun q h => by cases h; exact so_kw137, List.forall_mem_cons.mpr ⟨fun q h => by cases h; exact so_kw138, List.forall_mem_cons.mpr ⟨fun q h => by cases h; exact so_kw139, List.forall_mem_cons.mpr ⟨fun q h => by cases h; exact so_kw140, List.forall_mem_cons.mpr ⟨fun q h => by cases h; exact so_kw141, List.forall_mem_cons.mpr ⟨fun q h => by cases h; exact so_kw142, List.forall_mem_cons.mpr ⟨fun q h => by cases h; exact so_kw143, fun _ h => absurd h List.not_mem_nil⟩⟩⟩⟩⟩⟩⟩⟩⟩⟩⟩⟩⟩⟩⟩⟩
theorem so_kc9 : ∀ i ∈ [144, 145, 146, 147, 148, 149, 150, 151, 152, 153, 154, 155, 156, 157, 158, 159], ∀ q, am_tb[i]? = some q → q.2.all (so_cf i) = true := List.forall_mem_cons.mpr ⟨fun q h => by cases h; exact so_kw144, List.forall_mem_cons.mpr ⟨fun q h => by cases h; exact so_kw145, List.forall_mem_cons.mpr ⟨fun q h => by cases h; exact so_kw146, List.forall_mem_cons.mpr ⟨fun q h => by cases h; exact so_kw147, List.forall_mem_cons.mpr ⟨fun q h => by cases h; exact so_kw148, List.forall_mem_cons.mpr ⟨fun q h => by cases h; exact so_kw149, List.forall_mem_cons.mpr ⟨fun q h => by cases h; exact so_kw150, List.forall_mem_cons.mpr ⟨fun q h => by cases h; exact so_kw151, List.forall_mem_cons.mpr ⟨fun q h => by cases h; exact so_kw152, List.forall_mem_cons.mpr ⟨fun q h => by cases h; exact so_kw153, List.forall_mem_cons.mpr ⟨fun q h => by cases h; exact so_kw154, List.forall_mem_cons.mpr ⟨fun q h => by cases h; exact so_kw155, List.forall_mem_cons.mpr ⟨fun q h => by cases h; exact so_kw156, List.forall_mem_cons.mpr ⟨fun q h => by cases h; exact so_kw157, List.forall_mem_cons.mpr ⟨fun q h => by cases h; exact so_kw158, List.forall_mem_cons.mpr ⟨fun q h => by cases h; exact so_kw159, fun _ h => absurd h List.not_mem_nil⟩⟩⟩⟩⟩⟩⟩⟩⟩⟩⟩⟩⟩⟩⟩⟩
theorem so_kc10 : ∀ i ∈ [160, 161, 162, 163, 164, 165, 166, 167, 168, 169, 170, 171, 172, 173, 174, 175], ∀ q, am_tb[i]? = some q → q.2.all (so_cf i) = true := List.forall_mem_cons.mpr ⟨fun q h => by cases h; exact so_kw160, List.forall_mem_cons.mpr ⟨fun q h => by cases h; exact so_kw161, List.forall_mem_cons.mpr ⟨fun q h => by cases h; exact so_kw162, List.forall_mem_cons.mpr ⟨fun q h => by cases h; exact so_kw163, List.forall_mem_cons.mpr ⟨fun q h => by cases h; exact so_kw164, List.forall_mem_cons.mpr ⟨fun q h => by cases h; exact so_kw165, List.forall_mem_cons.mpr ⟨fun q h => by cases h; exact so_kw166, List.forall_mem_cons.mpr ⟨fun q h => by cases h; exact so_kw167, List.forall_mem_cons.mpr ⟨fun q h => by cases h; exact so_kw168, List.forall_mem_cons.mpr ⟨fun q h => by cases h; exact so_kw169, List.forall_mem_cons.mpr ⟨fun q h => by cases h; exact so_kw170, List.forall_mem_cons.mpr ⟨fun q h => by cases h; exact so_kw171, List.forall_mem_cons.mpr ⟨fun q h => by cases h; exact so_kw172, List.forall_mem_cons.mpr ⟨fun q h => by cases h; exact so_kw173, List.forall_mem_cons.mpr ⟨fun q h => by cases h; exact so_kw174, List.forall_mem_cons.mpr ⟨fun q h => by cases h; exact so_kw175, fun _ h => absurd h List.not_mem_nil⟩⟩⟩⟩⟩⟩⟩⟩⟩⟩⟩⟩⟩⟩⟩⟩
theorem so_kc11 : ∀ i ∈ [176, 177, 178, 179, 180, 181, 182, 183, 184, 185, 186, 187, 188, 189, 190, 191], ∀ q, am_tb[i]? = some q → q.2.all (so_cf i) = true := List.forall_mem_cons.mpr ⟨fun q h => by cases h; exact so_kw176, List.forall_mem_cons.mpr ⟨fun q h => by cases h; exact so_kw177, List.forall_mem_cons.mpr ⟨fun q h => by cases h; exact so_kw178, List.forall_mem_cons.mpr ⟨fun q h => by cases h; exact so_kw179, List.forall_mem_cons.mpr ⟨fun q h => by cases h; exact so_kw180, List.forall_mem_cons.mpr ⟨fun q h => by cases h; exact so_kw181, List.forall_mem_cons.mpr ⟨fun q h => by cases h; exact so_kw182, List.forall_mem_cons.mpr ⟨fun q h => by cases h; exact so_kw183, List.forall_mem_cons.mpr ⟨fun q h => by cases h; exact so_kw184, List.forall_mem_cons.mpr ⟨fun q h => by cases h; exact so_kw185, List.forall_mem_cons.mpr ⟨fun q h => by cases h; exact so_kw186, List.forall_mem_cons.mpr ⟨fun q h => by cases h; exact so_kw187, List.forall_mem_cons.mpr ⟨fun q h => by cases h; exact so_kw188, List.forall_mem_cons.mpr ⟨fun q h => by cases h; exact so_kw189, List.forall_mem_cons.mpr ⟨fun q h => by cases h; exact so_kw190, List.forall_mem_cons.mpr ⟨fun q h => by cases h; exact so_kw191, fun _ h => absurd h List.not_mem_nil⟩⟩⟩⟩⟩⟩⟩⟩⟩⟩⟩⟩⟩⟩⟩⟩
theorem so_kc12 : ∀ i ∈ [192, 193, 194, 195, 196, 197, 198, 199, 200, 201, 202, 203, 204, 205, 206, 207], ∀ q, am_tb[i]? = some q → q.2.all (so_cf i) = true := List.forall_mem_cons.mpr ⟨fun q h => by cases h; exact so_kw192, List.forall_mem_cons.mpr ⟨fun q h => by cases h; exact so_kw193, List.forall_mem_cons.mpr ⟨fun q h => by cases h; exact so_kw194, List.forall_mem_cons.mpr ⟨fun q h => by cases h; exact so_kw195, List.forall_mem_cons.mpr ⟨fun q h => by cases h; exact so_kw196, List.forall_mem_cons.mpr ⟨fun q h => by cases h; exact so_kw197, List.forall_mem_cons.mpr ⟨fun q h => by cases h; exact so_kw198, List.forall_mem_cons.mpr ⟨fun q h => by cases h; exact so_kw199, List.forall_mem_cons.mpr ⟨fun q h => by cases h; exact so_kw200, List.forall_mem_cons.mpr ⟨fun q h => by cases h; exact so_kw201, List.forall_mem_cons.mpr ⟨fun q h => by cases h; exact so_kw202, List.forall_mem_cons.mpr ⟨fun q h => by cases h; exact so_kw203, List.forall_mem_cons.mpr ⟨fun q h => by cases h; exact so_kw204, List.forall_mem_cons.mpr ⟨fun q h => by cases h; exact so_kw205, List.forall_mem_cons.mpr ⟨fun q h => by cases h; exact so_kw206, List.forall_mem_cons.mpr ⟨fun q h => by cases h; exact so_kw207, fun _ h => absurd h List.not_mem_nil⟩⟩⟩⟩⟩⟩⟩⟩⟩⟩⟩⟩⟩⟩⟩⟩
theorem so_kd : ∀ i, i < 208 → (am_tb[i]?).isSome = true ∧ ((am_tb[i]?).map (fun q => decide (q.1 / 16384 = i ∧ q.1 / 32 % 32 = (so_mlL[i]?).getD 0 ∧ so_gs[i]? = some q.1))) = some true := by decide +kernel
theorem so_kall (i : Nat) (hi : i < 208) : so_mok i = true := by
  have h : List.range 208 = [0, 1, 2, 3, 4, 5, 6, 7, 8, 9, 10, 11, 12, 13, 14, 15] ++ ([16, 17, 18, 19, 20, 21, 22, 23, 24, 25, 26, 27, 28, 29, 30, 31] ++ ([32, 33, 34, 35, 36, 37, 38, 39, 40, 41, 42, 43, 44, 45, 46, 47] ++ ([48, 49, 50, 51, 52, 53, 54, 55, 56, 57, 58, 59, 60, 61, 62, 63] ++ ([64, 65, 66, 67, 68, 69, 70, 71, 72, 73, 74, 75, 76, 77, 78, 79] ++ ([80, 81, 82, 83, 84, 85, 86, 87, 88, 89, 90, 91, 92, 93, 94, 95] ++ ([96, 97, 98, 99, 100, 101, 102, 103, 104, 105, 106, 107, 108, 109, 110, 111] ++ ([112, 113, 114, 115, 116, 117, 118, 119, 120, 121, 122, 123, 124, 125, 126, 127] ++ ([128, 129, 130, 131, 132, 133, 134, 135, 136, 137, 138, 139, 140, 141, 142, 143] ++ ([144, 145, 146, 147, 148, 149, 150, 151, 152, 153, 154, 155, 156, 157, 158, 159] ++ ([160, 161, 162, 163, 164, 165, 166, 167, 168, 169, 170, 171, 172, 173, 174, 175] ++ ([176, 177, 178, 179, 180, 181, 182, 183, 184, 185, 186, 187, 188, 189, 190, 191] ++ ([192, 193, 194, 195, 196, 197, 198, 199, 200, 201, 202, 203, 204, 205, 206, 207])))))))))))) := by decide +kernel
  have h2 : i ∈ List.range 208 := List.mem_range.mpr hi
  rw [h] at h2
  have h3 := (List.forall_mem_append.mpr ⟨so_kc0, List.forall_mem_append.mpr ⟨so_kc1, List.forall_mem_append.mpr ⟨so_kc2, List.forall_mem_append.mpr ⟨so_kc3, List.forall_mem_append.mpr ⟨so_kc4, List.forall_mem_append.mpr ⟨so_kc5, List.forall_mem_append.mpr ⟨so_kc6, List.forall_mem_append.mpr ⟨so_kc7, List.forall_mem_append.mpr ⟨so_kc8, List.forall_mem_append.mpr ⟨so_kc9, List.forall_mem_append.mpr ⟨so_kc10, List.forall_mem_append.mpr ⟨so_kc11, so_kc12⟩⟩⟩⟩⟩⟩⟩⟩⟩⟩⟩⟩) i h2
  obtain ⟨h4, h5⟩ := so_kd i hi
  unfold so_mok
  cases ht : am_tb[i]? with
  | none => rw [ht] at h4; cases h4
  | some q =>
    rw [ht] at h5
    have h6 := h3 q ht
    show (decide _ && q.2.all _) = true
    rw [Bool.and_eq_true]
    refine ⟨Option.some.inj h5, ?_⟩
    rw [List.all_eq_true] at h6 ⊢
    exact fun r hr => so_chw_ok r.2 r.1 _ rfl (h6 r hr)
