set_option maxRecDepth 1000000 in
theorem zck0 : (zPR 0).all (zchk 0) = true := by decide +kernel
set_option maxRecDepth 1000000 in
theorem zck1 : (zPR 1).all (zchk 1) = true := by decide +kernel
set_option maxRecDepth 1000000 in
theorem zck2 : (zPR 2).all (zchk 2) = true := by decide +kernel
set_option maxRecDepth 1000000 in
theorem zck3 : (zPR 3).all (zchk 3) = true := by decide +kernel
set_option maxRecDepth 1000000 in
theorem zck4 : (zPR 4).all (zchk 4) = true := by decide +kernel
set_option maxRecDepth 1000000 in
theorem zck5 : (zPR 5).all (zchk 5) = true := by decide +kernel
set_option maxRecDepth 1000000 in
theorem zck6 : (zPR 6).all (zchk 6) = true := by decide +kernel
set_option maxRecDepth 1000000 in
theorem zck7 : (zPR 7).all (zchk 7) = true := by decide +kernel
set_option maxRecDepth 1000000 in
theorem zck8 : (zPR 8).all (zchk 8) = true := by decide +kernel
set_option maxRecDepth 1000000 in
theorem zck9 : (zPR 9).all (zchk 9) = true := by decide +kernel
set_option maxRecDepth 1000000 in
theorem zck10 : (zPR 10).all (zchk 10) = true := by decide +kernel
set_option maxRecDepth 1000000 in
theorem zck11 : (zPR 11).all (zchk 11) = true := by decide +kernel
set_option maxRecDepth 1000000 in
theorem zck12 : (zPR 12).all (zchk 12) = true := by decide +kernel
set_option maxRecDepth 1000000 in
theorem zck13 : (zPR 13).all (zchk 13) = true := by decide +kernel
set_option maxRecDepth 1000000 in
theorem zck14 : (zPR 14).all (zchk 14) = true := by decide +kernel
set_option maxRecDepth 1000000 in
theorem zck15 : (zPR 15).all (zchk 15) = true := by decide +kernel
set_option maxRecDepth 1000000 in
theorem zck16 : (zPR 16).all (zchk 16) = true := by decide +kernel
set_option maxRecDepth 1000000 in
theorem zck17 : (zPR 17).all (zchk 17) = true := by decide +kernel
set_option maxRecDepth 1000000 in
theorem zck18 : (zPR 18).all (zchk 18) = true := by decide +kernel
set_option maxRecDepth 1000000 in
theorem zck19 : (zPR 19).all (zchk 19) = true := by decide +kernel
set_option maxRecDepth 1000000 in
theorem zck20 : (zPR 20).all (zchk 20) = true := by decide +kernel
set_option maxRecDepth 1000000 in
theorem zck21 : (zPR 21).all (zchk 21) = true := by decide +kernel
set_option maxRecDepth 1000000 in
theorem zck22 : (zPR 22).all (zchk 22) = true := by decide +kernel
set_option maxRecDepth 1000000 in
theorem zck23 : (zPR 23).all (zchk 23) = true := by decide +kernel
set_option maxRecDepth 1000000 in
theorem zck24 : (zPR 24).all (zchk 24) = true := by decide +kernel
set_option maxRecDepth 1000000 in
theorem zck25 : (zPR 25).all (zchk 25) = true := by decide +kernel
set_option maxRecDepth 1000000 in
theorem zck26 : (zPR 26).all (zchk 26) = true := by decide +kernel
set_option maxRecDepth 1000000 in
theorem zck27 : (zPR 27).all (zchk 27) = true := by decide +kernel
set_option maxRecDepth 1000000 in
theorem zck28 : (zPR 28).all (zchk 28) = true := by decide +kernel
set_option maxRecDepth 1000000 in
theorem zck29 : (zPR 29).all (zchk 29) = true := by decide +kernel
set_option maxRecDepth 1000000 in
theorem zck30 : (zPR 30).all (zchk 30) = true := by decide +kernel
set_option maxRecDepth 1000000 in
theorem zck31 : (zPR 31).all (zchk 31) = true := by decide +kernel
set_option maxRecDepth 1000000 in
theorem zck32 : (zPR 32).all (zchk 32) = true := by decide +kernel
set_option maxRecDepth 1000000 in
theorem zck33 : (zPR 33).all (zchk 33) = true := by decide +kernel
set_option maxRecDepth 1000000 in
theorem zck34 : (zPR 34).all (zchk 34) = true := by decide +kernel
set_option maxRecDepth 1000000 in
theorem zck35 : (zPR 35).all (zchk 35) = true := by decide +kernel
set_option maxRecDepth 1000000 in
theorem zck36 : (zPR 36).all (zchk 36) = true := by decide +kernel
set_option maxRecDepth 1000000 in
theorem zck37 : (zPR 37).all (zchk 37) = true := by decide +kernel
set_option maxRecDepth 1000000 in
theorem zck38 : (zPR 38).all (zchk 38) = true := by decide +kernel
set_option maxRecDepth 1000000 in
theorem zck39 : (zPR 39).all (zchk 39) = true := by decide +kernel
set_option maxRecDepth 1000000 in
theorem zck40 : (zPR 40).all (zchk 40) = true := by decide +kernel
set_option maxRecDepth 1000000 in
theorem zck41 : (zPR 41).all (zchk 41) = true := by decide +kernel
set_option maxRecDepth 1000000 in
theorem zck42 : (zPR 42).all (zchk 42) = true := by decide +kernel
set_option maxRecDepth 1000000 in
theorem zck43 : (zPR 43).all (zchk 43) = true := by decide +kernel
set_option maxRecDepth 1000000 in
theorem zck44 : (zPR 44).all (zchk 44) = true := by decide +kernel
set_option maxRecDepth 1000000 in
theorem zck45 : (zPR 45).all (zchk 45) = true := by decide +kernel
set_option maxRecDepth 1000000 in
theorem zck46 : (zPR 46).all (zchk 46) = true := by decide +kernel
set_option maxRecDepth 1000000 in
theorem zck47 : (zPR 47).all (zchk 47) = true := by decide +kernel
set_option maxRecDepth 1000000 in
theorem zck48 : (zPR 48).all (zchk 48) = true := by decide +kernel
set_option maxRecDepth 1000000 in
theorem zck49 : (zPR 49).all (zchk 49) = true := by decide +kernel
set_option maxRecDepth 1000000 in
theorem zck50 : (zPR 50).all (zchk 50) = true := by decide +kernel
set_option maxRecDepth 1000000 in
theorem zck51 : (zPR 51).all (zchk 51) = true := by decide +kernel
set_option maxRecDepth 1000000 in
theorem zck52 : (zPR 52).all (zchk 52) = true := by decide +kernel
set_option maxRecDepth 1000000 in
theorem zck53 : (zPR 53).all (zchk 53) = true := by decide +kernel
set_option maxRecDepth 1000000 in
theorem zck54 : (zPR 54).all (zchk 54) = true := by decide +kernel
set_option maxRecDepth 1000000 in
theorem zck55 : (zPR 55).all (zchk 55) = true := by decide +kernel
set_option maxRecDepth 1000000 in
theorem zck56 : (zPR 56).all (zchk 56) = true := by decide +kernel
set_option maxRecDepth 1000000 in
theorem zck57 : (zPR 57).all (zchk 57) = true := by decide +kernel
set_option maxRecDepth 1000000 in
theorem zck58 : (zPR 58).all (zchk 58) = true := by decide +kernel
set_option maxRecDepth 1000000 in
theorem zck59 : (zPR 59).all (zchk 59) = true := by decide +kernel
set_option maxRecDepth 1000000 in
theorem zck60 : (zPR 60).all (zchk 60) = true := by decide +kernel
set_option maxRecDepth 1000000 in
theorem zck61 : (zPR 61).all (zchk 61) = true := by decide +kernel
set_option maxRecDepth 1000000 in
theorem zck62 : (zPR 62).all (zchk 62) = true := by decide +kernel
set_option maxRecDepth 1000000 in
theorem zck63 : (zPR 63).all (zchk 63) = true := by decide +kernel
set_option maxRecDepth 1000000 in
theorem zck64 : (zPR 64).all (zchk 64) = true := by decide +kernel
set_option maxRecDepth 1000000 in
theorem zck65 : (zPR 65).all (zchk 65) = true := by decide +kernel
set_option maxRecDepth 1000000 in
theorem zck66 : (zPR 66).all (zchk 66) = true := by decide +kernel
set_option maxRecDepth 1000000 in
theorem zck67 : (zPR 67).all (zchk 67) = true := by decide +kernel
set_option maxRecDepth 1000000 in
theorem zck68 : (zPR 68).all (zchk 68) = true := by decide +kernel
set_option maxRecDepth 1000000 in
theorem zck69 : (zPR 69).all (zchk 69) = true := by decide +kernel
set_option maxRecDepth 1000000 in
theorem zck70 : (zPR 70).all (zchk 70) = true := by decide +kernel
set_option maxRecDepth 1000000 in
theorem zck71 : (zPR 71).all (zchk 71) = true := by decide +kernel
set_option maxRecDepth 1000000 in
theorem zck72 : (zPR 72).all (zchk 72) = true := by decide +kernel
set_option maxRecDepth 1000000 in
theorem zck73 : (zPR 73).all (zchk 73) = true := by decide +kernel
set_option maxRecDepth 1000000 in
theorem zck74 : (zPR 74).all (zchk 74) = true := by decide +kernel
set_option maxRecDepth 1000000 in
theorem zck75 : (zPR 75).all (zchk 75) = true := by decide +kernel
set_option maxRecDepth 1000000 in
theorem zck76 : (zPR 76).all (zchk 76) = true := by decide +kernel
set_option maxRecDepth 1000000 in
theorem zck77 : (zPR 77).all (zchk 77) = true := by decide +kernel
set_option maxRecDepth 1000000 in
theorem zck78 : (zPR 78).all (zchk 78) = true := by decide +kernel
set_option maxRecDepth 1000000 in
theorem zck79 : (zPR 79).all (zchk 79) = true := by decide +kernel
set_option maxRecDepth 1000000 in
theorem zck80 : (zPR 80).all (zchk 80) = true := by decide +kernel
set_option maxRecDepth 1000000 in
theorem zck81 : (zPR 81).all (zchk 81) = true := by decide +kernel
set_option maxRecDepth 1000000 in
theorem zck82 : (zPR 82).all (zchk 82) = true := by decide +kernel
set_option maxRecDepth 1000000 in
theorem zck83 : (zPR 83).all (zchk 83) = true := by decide +kernel
set_option maxRecDepth 1000000 in
theorem zck84 : (zPR 84).all (zchk 84) = true := by decide +kernel
set_option maxRecDepth 1000000 in
theorem zck85 : (zPR 85).all (zchk 85) = true := by decide +kernel
set_option maxRecDepth 1000000 in
theorem zck86 : (zPR 86).all (zchk 86) = true := by decide +kernel
set_option maxRecDepth 1000000 in
theorem zck87 : (zPR 87).all (zchk 87) = true := by decide +kernel
set_option maxRecDepth 1000000 in
theorem zck88 : (zPR 88).all (zchk 88) = true := by decide +kernel
set_option maxRecDepth 1000000 in
theorem zck89 : (zPR 89).all (zchk 89) = true := by decide +kernel
set_option maxRecDepth 1000000 in
theorem zck90 : (zPR 90).all (zchk 90) = true := by decide +kernel
set_option maxRecDepth 1000000 in
theorem zck91 : (zPR 91).all (zchk 91) = true := by decide +kernel
set_option maxRecDepth 1000000 in
theorem zck92 : (zPR 92).all (zchk 92) = true := by decide +kernel
set_option maxRecDepth 1000000 in
theorem zck93 : (zPR 93).all (zchk 93) = true := by decide +kernel
set_option maxRecDepth 1000000 in
theorem zck94 : (zPR 94).all (zchk 94) = true := by decide +kernel
set_option maxRecDepth 1000000 in
theorem zck95 : (zPR 95).all (zchk 95) = true := by decide +kernel
set_option maxRecDepth 1000000 in
theorem zck96 : (zPR 96).all (zchk 96) = true := by decide +kernel
set_option maxRecDepth 1000000 in
theorem zck97 : (zPR 97).all (zchk 97) = true := by decide +kernel
set_option maxRecDepth 1000000 in
theorem zck98 : (zPR 98).all (zchk 98) = true := by decide +kernel
set_option maxRecDepth 1000000 in
theorem zck99 : (zPR 99).all (zchk 99) = true := by decide +kernel
set_option maxRecDepth 1000000 in
theorem zck100 : (zPR 100).all (zchk 100) = true := by decide +kernel
set_option maxRecDepth 1000000 in
theorem zck101 : (zPR 101).all (zchk 101) = true := by decide +kernel
set_option maxRecDepth 1000000 in
theorem zck102 : (zPR 102).all (zchk 102) = true := by decide +kernel
set_option maxRecDepth 1000000 in
theorem zck103 : (zPR 103).all (zchk 103) = true := by decide +kernel
set_option maxRecDepth 1000000 in
theorem zck104 : (zPR 104).all (zchk 104) = true := by decide +kernel
set_option maxRecDepth 1000000 in
theorem zck105 : (zPR 105).all (zchk 105) = true := by decide +kernel
set_option maxRecDepth 1000000 in
theorem zck106 : (zPR 106).all (zchk 106) = true := by decide +kernel
set_option maxRecDepth 1000000 in
theorem zck107 : (zPR 107).all (zchk 107) = true := by decide +kernel
set_option maxRecDepth 1000000 in
theorem zck108 : (zPR 108).all (zchk 108) = true := by decide +kernel
set_option maxRecDepth 1000000 in
theorem zck109 : (zPR 109).all (zchk 109) = true := by decide +kernel
set_option maxRecDepth 1000000 in
theorem zck110 : (zPR 110).all (zchk 110) = true := by decide +kernel
set_option maxRecDepth 1000000 in
theorem zck111 : (zPR 111).all (zchk 111) = true := by decide +kernel
set_option maxRecDepth 1000000 in
theorem zck112 : (zPR 112).all (zchk 112) = true := by decide +kernel
set_option maxRecDepth 1000000 in
theorem zck113 : (zPR 113).all (zchk 113) = true := by decide +kernel
set_option maxRecDepth 1000000 in
theorem zck114 : (zPR 114).all (zchk 114) = true := by decide +kernel
set_option maxRecDepth 1000000 in
theorem zck115 : (zPR 115).all (zchk 115) = true := by decide +kernel
set_option maxRecDepth 1000000 in
theorem zck116 : (zPR 116).all (zchk 116) = true := by decide +kernel
set_option maxRecDepth 1000000 in
theorem zck117 : (zPR 117).all (zchk 117) = true := by decide +kernel
set_option maxRecDepth 1000000 in
theorem zck118 : (zPR 118).all (zchk 118) = true := by decide +kernel
set_option maxRecDepth 1000000 in
theorem zck119 : (zPR 119).all (zchk 119) = true := by decide +kernel
set_option maxRecDepth 1000000 in
theorem zck120 : (zPR 120).all (zchk 120) = true := by decide +kernel
set_option maxRecDepth 1000000 in
theorem zck121 : (zPR 121).all (zchk 121) = true := by decide +kernel
set_option maxRecDepth 1000000 in
theorem zck122 : (zPR 122).all (zchk 122) = true := by decide +kernel
set_option maxRecDepth 1000000 in
theorem zck123 : (zPR 123).all (zchk 123) = true := by decide +kernel
set_option maxRecDepth 1000000 in
theorem zck124 : (zPR 124).all (zchk 124) = true := by decide +kernel
set_option maxRecDepth 1000000 in
theorem zck125 : (zPR 125).all (zchk 125) = true := by decide +kernel
set_option maxRecDepth 1000000 in
theorem zck126 : (zPR 126).all (zchk 126) = true := by decide +kernel
set_option maxRecDepth 1000000 in
theorem zck127 : (zPR 127).all (zchk 127) = true := by decide +kernel
set_option maxRecDepth 1000000 in
theorem zck128 : (zPR 128).all (zchk 128) = true := by decide +kernel
set_option maxRecDepth 1000000 in
theorem zck129 : (zPR 129).all (zchk 129) = true := by decide +kernel
set_option maxRecDepth 1000000 in
theorem zck130 : (zPR 130).all (zchk 130) = true := by decide +kernel
set_option maxRecDepth 1000000 in
theorem zck131 : (zPR 131).all (zchk 131) = true := by decide +kernel
set_option maxRecDepth 1000000 in
theorem zck132 : (zPR 132).all (zchk 132) = true := by decide +kernel
set_option maxRecDepth 1000000 in
theorem zck133 : (zPR 133).all (zchk 133) = true := by decide +kernel
set_option maxRecDepth 1000000 in
theorem zck134 : (zPR 134).all (zchk 134) = true := by decide +kernel
set_option maxRecDepth 1000000 in
theorem zck135 : (zPR 135).all (zchk 135) = true := by decide +kernel
set_option maxRecDepth 1000000 in
theorem zck136 : (zPR 136).all (zchk 136) = true := by decide +kernel
set_option maxRecDepth 1000000 in
theorem zck137 : (zPR 137).all (zchk 137) = true := by decide +kernel
set_option maxRecDepth 1000000 in
theorem zck138 : (zPR 138).all (zchk 138) = true := by decide +kernel
set_option maxRecDepth 1000000 in
theorem zck139 : (zPR 139).all (zchk 139) = true := by decide +kernel
set_option maxRecDepth 1000000 in
theorem zck140 : (zPR 140).all (zchk 140) = true := by decide +kernel
set_option maxRecDepth 1000000 in
theorem zck141 : (zPR 141).all (zchk 141) = true := by decide +kernel
set_option maxRecDepth 1000000 in
theorem zck142 : (zPR 142).all (zchk 142) = true := by decide +kernel
set_option maxRecDepth 1000000 in
theorem zck143 : (zPR 143).all (zchk 143) = true := by decide +kernel
set_option maxRecDepth 1000000 in
theorem zck144 : (zPR 144).all (zchk 144) = true := by decide +kernel
set_option maxRecDepth 1000000 in
theorem zck145 : (zPR 145).all (zchk 145) = true := by decide +kernel
set_option maxRecDepth 1000000 in
theorem zck146 : (zPR 146).all (zchk 146) = true := by decide +kernel
set_option maxRecDepth 1000000 in
theorem zck147 : (zPR 147).all (zchk 147) = true := by decide +kernel
set_option maxRecDepth 1000000 in
theorem zck148 : (zPR 148).all (zchk 148) = true := by decide +kernel
set_option maxRecDepth 1000000 in
theorem zck149 : (zPR 149).all (zchk 149) = true := by decide +kernel
set_option maxRecDepth 1000000 in
theorem zck150 : (zPR 150).all (zchk 150) = true := by decide +kernel
set_option maxRecDepth 1000000 in
theorem zck151 : (zPR 151).all (zchk 151) = true := by decide +kernel
set_option maxRecDepth 1000000 in
theorem zck152 : (zPR 152).all (zchk 152) = true := by decide +kernel
set_option maxRecDepth 1000000 in
theorem zck153 : (zPR 153).all (zchk 153) = true := by decide +kernel
set_option maxRecDepth 1000000 in
theorem zck154 : (zPR 154).all (zchk 154) = true := by decide +kernel
set_option maxRecDepth 1000000 in
theorem zck155 : (zPR 155).all (zchk 155) = true := by decide +kernel
set_option maxRecDepth 1000000 in
theorem zck156 : (zPR 156).all (zchk 156) = true := by decide +kernel
set_option maxRecDepth 1000000 in
theorem zck157 : (zPR 157).all (zchk 157) = true := by decide +kernel
set_option maxRecDepth 1000000 in
theorem zck158 : (zPR 158).all (zchk 158) = true := by decide +kernel
set_option maxRecDepth 1000000 in
theorem zck159 : (zPR 159).all (zchk 159) = true := by decide +kernel
set_option maxRecDepth 1000000 in
theorem zck160 : (zPR 160).all (zchk 160) = true := by decide +kernel
set_option maxRecDepth 1000000 in
theorem zck161 : (zPR 161).all (zchk 161) = true := by decide +kernel
set_option maxRecDepth 1000000 in
theorem zck162 : (zPR 162).all (zchk 162) = true := by decide +kernel
set_option maxRecDepth 1000000 in
theorem zck163 : (zPR 163).all (zchk 163) = true := by decide +kernel
set_option maxRecDepth 1000000 in
theorem zck164 : (zPR 164).all (zchk 164) = true := by decide +kernel
set_option maxRecDepth 1000000 in
theorem zck165 : (zPR 165).all (zchk 165) = true := by decide +kernel
set_option maxRecDepth 1000000 in
theorem zck166 : (zPR 166).all (zchk 166) = true := by decide +kernel
set_option maxRecDepth 1000000 in
theorem zck167 : (zPR 167).all (zchk 167) = true := by decide +kernel
set_option maxRecDepth 1000000 in
theorem zck168 : (zPR 168).all (zchk 168) = true := by decide +kernel
set_option maxRecDepth 1000000 in
theorem zck169 : (zPR 169).all (zchk 169) = true := by decide +kernel
set_option maxRecDepth 1000000 in
theorem zck170 : (zPR 170).all (zchk 170) = true := by decide +kernel
set_option maxRecDepth 1000000 in
theorem zck171 : (zPR 171).all (zchk 171) = true := by decide +kernel
set_option maxRecDepth 1000000 in
theorem zck172 : (zPR 172).all (zchk 172) = true := by decide +kernel
set_option maxRecDepth 1000000 in
theorem zck173 : (zPR 173).all (zchk 173) = true := by decide +kernel
set_option maxRecDepth 1000000 in
theorem zck174 : (zPR 174).all (zchk 174) = true := by decide +kernel
set_option maxRecDepth 1000000 in
theorem zck175 : (zPR 175).all (zchk 175) = true := by decide +kernel
set_option maxRecDepth 1000000 in
theorem zck176 : (zPR 176).all (zchk 176) = true := by decide +kernel
set_option maxRecDepth 1000000 in
theorem zck177 : (zPR 177).all (zchk 177) = true := by decide +kernel
set_option maxRecDepth 1000000 in
theorem zck178 : (zPR 178).all (zchk 178) = true := by decide +kernel
set_option maxRecDepth 1000000 in
theorem zck179 : (zPR 179).all (zchk 179) = true := by decide +kernel
set_option maxRecDepth 1000000 in
theorem zck180 : (zPR 180).all (zchk 180) = true := by decide +kernel
set_option maxRecDepth 1000000 in
theorem zck181 : (zPR 181).all (zchk 181) = true := by decide +kernel
set_option maxRecDepth 1000000 in
theorem zck182 : (zPR 182).all (zchk 182) = true := by decide +kernel
set_option maxRecDepth 1000000 in
theorem zck183 : (zPR 183).all (zchk 183) = true := by decide +kernel
set_option maxRecDepth 1000000 in
theorem zck184 : (zPR 184).all (zchk 184) = true := by decide +kernel
set_option maxRecDepth 1000000 in
theorem zck185 : (zPR 185).all (zchk 185) = true := by decide +kernel
set_option maxRecDepth 1000000 in
theorem zck186 : (zPR 186).all (zchk 186) = true := by decide +kernel
set_option maxRecDepth 1000000 in
theorem zck187 : (zPR 187).all (zchk 187) = true := by decide +kernel
set_option maxRecDepth 1000000 in
theorem zck188 : (zPR 188).all (zchk 188) = true := by decide +kernel
set_option maxRecDepth 1000000 in
theorem zck189 : (zPR 189).all (zchk 189) = true := by decide +kernel
set_option maxRecDepth 1000000 in
theorem zck190 : (zPR 190).all (zchk 190) = true := by decide +kernel
set_option maxRecDepth 1000000 in
theorem zck191 : (zPR 191).all (zchk 191) = true := by decide +kernel
set_option maxRecDepth 1000000 in
theorem zck192 : (zPR 192).all (zchk 192) = true := by decide +kernel
set_option maxRecDepth 1000000 in
theorem zck193 : (zPR 193).all (zchk 193) = true := by decide +kernel
set_option maxRecDepth 1000000 in
theorem zck194 : (zPR 194).all (zchk 194) = true := by decide +kernel
set_option maxRecDepth 1000000 in
theorem zck195 : (zPR 195).all (zchk 195) = true := by decide +kernel
set_option maxRecDepth 1000000 in
theorem zck196 : (zPR 196).all (zchk 196) = true := by decide +kernel
set_option maxRecDepth 1000000 in
theorem zck197 : (zPR 197).all (zchk 197) = true := by decide +kernel
set_option maxRecDepth 1000000 in
theorem zck198 : (zPR 198).all (zchk 198) = true := by decide +kernel
set_option maxRecDepth 1000000 in
theorem zck199 : (zPR 199).all (zchk 199) = true := by decide +kernel
set_option maxRecDepth 1000000 in
theorem zck200 : (zPR 200).all (zchk 200) = true := by decide +kernel
set_option maxRecDepth 1000000 in
theorem zck201 : (zPR 201).all (zchk 201) = true := by decide +kernel
set_option maxRecDepth 1000000 in
theorem zck202 : (zPR 202).all (zchk 202) = true := by decide +kernel
set_option maxRecDepth 1000000 in
theorem zck203 : (zPR 203).all (zchk 203) = true := by decide +kernel
set_option maxRecDepth 1000000 in
theorem zck204 : (zPR 204).all (zchk 204) = true := by decide +kernel
set_option maxRecDepth 1000000 in
theorem zck205 : (zPR 205).all (zchk 205) = true := by decide +kernel
set_option maxRecDepth 1000000 in
theorem zck206 : (zPR 206).all (zchk 206) = true := by decide +kernel
set_option maxRecDepth 1000000 in
theorem zck207 : (zPR 207).all (zchk 207) = true := by decide +kernel
set_option maxRecDepth 1000000 in
theorem zck208 : (zPR 208).all (zchk 208) = true := by decide +kernel
set_option maxRecDepth 1000000 in
theorem zck209 : (zPR 209).all (zchk 209) = true := by decide +kernel
set_option maxRecDepth 1000000 in
theorem zck210 : (zPR 210).all (zchk 210) = true := by decide +kernel
set_option maxRecDepth 1000000 in
theorem zck211 : (zPR 211).all (zchk 211) = true := by decide +kernel
set_option maxRecDepth 1000000 in
theorem zck212 : (zPR 212).all (zchk 212) = true := by decide +kernel
set_option maxRecDepth 1000000 in
theorem zck213 : (zPR 213).all (zchk 213) = true := by decide +kernel
set_option maxRecDepth 1000000 in
theorem zck214 : (zPR 214).all (zchk 214) = true := by decide +kernel
set_option maxRecDepth 1000000 in
theorem zck215 : (zPR 215).all (zchk 215) = true := by decide +kernel
set_option maxRecDepth 1000000 in
theorem zck216 : (zPR 216).all (zchk 216) = true := by decide +kernel
set_option maxRecDepth 1000000 in
theorem zck217 : (zPR 217).all (zchk 217) = true := by decide +kernel
set_option maxRecDepth 1000000 in
theorem zck218 : (zPR 218).all (zchk 218) = true := by decide +kernel
set_option maxRecDepth 1000000 in
theorem zck219 : (zPR 219).all (zchk 219) = true := by decide +kernel
set_option maxRecDepth 1000000 in
theorem zck220 : (zPR 220).all (zchk 220) = true := by decide +kernel
set_option maxRecDepth 1000000 in
theorem zck221 : (zPR 221).all (zchk 221) = true := by decide +kernel
set_option maxRecDepth 1000000 in
theorem zck222 : (zPR 222).all (zchk 222) = true := by decide +kernel
set_option maxRecDepth 1000000 in
theorem zck223 : (zPR 223).all (zchk 223) = true := by decide +kernel
set_option maxRecDepth 1000000 in
theorem zck224 : (zPR 224).all (zchk 224) = true := by decide +kernel
set_option maxRecDepth 1000000 in
theorem zck225 : (zPR 225).all (zchk 225) = true := by decide +kernel
set_option maxRecDepth 1000000 in
theorem zck226 : (zPR 226).all (zchk 226) = true := by decide +kernel
set_option maxRecDepth 1000000 in
theorem zck227 : (zPR 227).all (zchk 227) = true := by decide +kernel
set_option maxRecDepth 1000000 in
theorem zck228 : (zPR 228).all (zchk 228) = true := by decide +kernel
set_option maxRecDepth 1000000 in
theorem zck229 : (zPR 229).all (zchk 229) = true := by decide +kernel
set_option maxRecDepth 1000000 in
theorem zck230 : (zPR 230).all (zchk 230) = true := by decide +kernel
set_option maxRecDepth 1000000 in
theorem zck231 : (zPR 231).all (zchk 231) = true := by decide +kernel
set_option maxRecDepth 1000000 in
theorem zck232 : (zPR 232).all (zchk 232) = true := by decide +kernel
set_option maxRecDepth 1000000 in
theorem zck233 : (zPR 233).all (zchk 233) = true := by decide +kernel
set_option maxRecDepth 1000000 in
theorem zck234 : (zPR 234).all (zchk 234) = true := by decide +kernel
set_option maxRecDepth 1000000 in
theorem zck235 : (zPR 235).all (zchk 235) = true := by decide +kernel
set_option maxRecDepth 1000000 in
theorem zck236 : (zPR 236).all (zchk 236) = true := by decide +kernel
set_option maxRecDepth 1000000 in
theorem zck237 : (zPR 237).all (zchk 237) = true := by decide +kernel
set_option maxRecDepth 1000000 in
theorem zck238 : (zPR 238).all (zchk 238) = true := by decide +kernel
set_option maxRecDepth 1000000 in
theorem zck239 : (zPR 239).all (zchk 239) = true := by decide +kernel
set_option maxRecDepth 1000000 in
theorem zck240 : (zPR 240).all (zchk 240) = true := by decide +kernel
set_option maxRecDepth 1000000 in
theorem zck241 : (zPR 241).all (zchk 241) = true := by decide +kernel
set_option maxRecDepth 1000000 in
theorem zck242 : (zPR 242).all (zchk 242) = true := by decide +kernel
set_option maxRecDepth 1000000 in
theorem zck243 : (zPR 243).all (zchk 243) = true := by decide +kernel
set_option maxRecDepth 1000000 in
theorem zck244 : (zPR 244).all (zchk 244) = true := by decide +kernel
set_option maxRecDepth 1000000 in
theorem zck245 : (zPR 245).all (zchk 245) = true := by decide +kernel
set_option maxRecDepth 1000000 in
theorem zck246 : (zPR 246).all (zchk 246) = true := by decide +kernel
set_option maxRecDepth 1000000 in
theorem zck247 : (zPR 247).all (zchk 247) = true := by decide +kernel
set_option maxRecDepth 1000000 in
theorem zck248 : (zPR 248).all (zchk 248) = true := by decide +kernel
set_option maxRecDepth 1000000 in
theorem zck249 : (zPR 249).all (zchk 249) = true := by decide +kernel
set_option maxRecDepth 1000000 in
theorem zck250 : (zPR 250).all (zchk 250) = true := by decide +kernel
set_option maxRecDepth 1000000 in
theorem zck251 : (zPR 251).all (zchk 251) = true := by decide +kernel
set_option maxRecDepth 1000000 in
theorem zck252 : (zPR 252).all (zchk 252) = true := by decide +kernel
set_option maxRecDepth 1000000 in
theorem zck253 : (zPR 253).all (zchk 253) = true := by decide +kernel
set_option maxRecDepth 1000000 in
theorem zck254 : (zPR 254).all (zchk 254) = true := by decide +kernel
set_option maxRecDepth 1000000 in
theorem zck255 : (zPR 255).all (zchk 255) = true := by decide +kernel
set_option maxRecDepth 1000000 in
theorem zck256 : (zPR 256).all (zchk 256) = true := by decide +kernel
set_option maxRecDepth 1000000 in
theorem zck257 : (zPR 257).all (zchk 257) = true := by decide +kernel
set_option maxRecDepth 1000000 in
theorem zck258 : (zPR 258).all (zchk 258) = true := by decide +kernel
set_option maxRecDepth 1000000 in
theorem zck263 : (zPR 263).all (zchk 263) = true := by decide +kernel
theorem zcg0 : ∀ y ∈ zcal0, (zPR y).all (zchk y) = true := List.forall_mem_cons.mpr ⟨zck0, List.forall_mem_cons.mpr ⟨zck1, List.forall_mem_cons.mpr ⟨zck2, List.forall_mem_cons.mpr ⟨zck3, List.forall_mem_cons.mpr ⟨zck4, List.forall_mem_cons.mpr ⟨zck5, List.forall_mem_cons.mpr ⟨zck6, List.forall_mem_cons.mpr ⟨zck7, List.forall_mem_cons.mpr ⟨zck8, List.forall_mem_cons.mpr ⟨zck9, List.forall_mem_cons.mpr ⟨zck10, List.forall_mem_cons.mpr ⟨zck11, List.forall_mem_cons.mpr ⟨zck12, List.forall_mem_cons.mpr ⟨zck13, List.forall_mem_cons.mpr ⟨zck14, List.forall_mem_cons.mpr ⟨zck15, List.forall_mem_cons.mpr ⟨zck16, List.forall_mem_cons.mpr ⟨zck17, List.forall_mem_cons.mpr ⟨zck18, List.forall_mem_cons.mpr ⟨zck19, fun _ h => absurd h List.not_mem_nil⟩⟩⟩⟩⟩⟩⟩⟩⟩⟩⟩⟩⟩⟩⟩⟩⟩⟩⟩⟩
theorem zcg1 : ∀ y ∈ zcal1, (zPR y).all (zchk y) = true := List.forall_mem_cons.mpr ⟨zck20, List.forall_mem_cons.mpr ⟨zck21, List.forall_mem_cons.mpr ⟨zck22, List.forall_mem_cons.mpr ⟨zck23, List.forall_mem_cons.mpr ⟨zck24, List.forall_mem_cons.mpr ⟨zck25, List.forall_mem_cons.mpr ⟨zck26, List.forall_mem_cons.mpr ⟨zck27, List.forall_mem_cons.mpr ⟨zck28, List.forall_mem_cons.mpr ⟨zck29, List.forall_mem_cons.mpr ⟨zck30, List.forall_mem_cons.mpr ⟨zck31, List.forall_mem_cons.mpr ⟨zck32, List.forall_mem_cons.mpr ⟨zck33, List.forall_mem_cons.mpr ⟨zck34, List.forall_mem_cons.mpr ⟨zck35, List.forall_mem_cons.mpr ⟨zck36, List.forall_mem_cons.mpr ⟨zck37, List.forall_mem_cons.mpr ⟨zck38, List.forall_mem_cons.mpr ⟨zck39, fun _ h => absurd h List.not_mem_nil⟩⟩⟩⟩⟩⟩⟩⟩⟩⟩⟩⟩⟩⟩⟩⟩⟩⟩⟩⟩
theorem zcg2 : ∀ y ∈ zcal2, (zPR y).all (zchk y) = true := List.forall_mem_cons.mpr ⟨zck40, List.forall_mem_cons.mpr ⟨zck41, List.forall_mem_cons.mpr ⟨zck42, List.forall_mem_cons.mpr ⟨zck43, List.forall_mem_cons.mpr ⟨zck44, List.forall_mem_cons.mpr ⟨zck45, List.forall_mem_cons.mpr ⟨zck46, List.forall_mem_cons.mpr ⟨zck47, List.forall_mem_cons.mpr ⟨zck48, List.forall_mem_cons.mpr ⟨zck49, List.forall_mem_cons.mpr ⟨zck50, List.forall_mem_cons.mpr ⟨zck51, List.forall_mem_cons.mpr ⟨zck52, List.forall_mem_cons.mpr ⟨zck53, List.forall_mem_cons.mpr ⟨zck54, List.forall_mem_cons.mpr ⟨zck55, List.forall_mem_cons.mpr ⟨zck56, List.forall_mem_cons.mpr ⟨zck57, List.forall_mem_cons.mpr ⟨zck58, List.forall_mem_cons.mpr ⟨zck59, fun _ h => absurd h List.not_mem_nil⟩⟩⟩⟩⟩⟩⟩⟩⟩⟩⟩⟩⟩⟩⟩⟩⟩⟩⟩⟩
theorem zcg3 : ∀ y ∈ zcal3, (zPR y).all (zchk y) = true := List.forall_mem_cons.mpr ⟨zck60, List.forall_mem_cons.mpr ⟨zck61, List.forall_mem_cons.mpr ⟨zck62, List.forall_mem_cons.mpr ⟨zck63, List.forall_mem_cons.mpr ⟨zck64, List.forall_mem_cons.mpr ⟨zck65, List.forall_mem_cons.mpr ⟨zck66, List.forall_mem_cons.mpr ⟨zck67, List.forall_mem_cons.mpr ⟨zck68, List.forall_mem_cons.mpr ⟨zck69, List.forall_mem_cons.mpr ⟨zck70, List.forall_mem_cons.mpr ⟨zck71, List.forall_mem_cons.mpr ⟨zck72, List.forall_mem_cons.mpr ⟨zck73, List.forall_mem_cons.mpr ⟨zck74, List.forall_mem_cons.mpr ⟨zck75, List.forall_mem_cons.mpr ⟨zck76, List.forall_mem_cons.mpr ⟨zck77, List.forall_mem_cons.mpr ⟨zck78, List.forall_mem_cons.mpr ⟨zck79, fun _ h => absurd h List.not_mem_nil⟩⟩⟩⟩⟩⟩⟩⟩⟩⟩⟩⟩⟩⟩⟩⟩⟩⟩⟩⟩
theorem zcg4 : ∀ y ∈ zcal4, (zPR y).all (zchk y) = true := List.forall_mem_cons.mpr ⟨zck80, List.forall_mem_cons.mpr ⟨zck81, List.forall_mem_cons.mpr ⟨zck82, List.forall_mem_cons.mpr ⟨zck83, List.forall_mem_cons.mpr ⟨zck84, List.forall_mem_cons.mpr ⟨zck85, List.forall_mem_cons.mpr ⟨zck86, List.forall_mem_cons.mpr ⟨zck87, List.forall_mem_cons.mpr ⟨zck88, List.forall_mem_cons.mpr ⟨zck89, List.forall_mem_cons.mpr ⟨zck90, List.forall_mem_cons.mpr ⟨zck91, List.forall_mem_cons.mpr ⟨zck92, List.forall_mem_cons.mpr ⟨zck93, List.forall_mem_cons.mpr ⟨zck94, List.forall_mem_cons.mpr ⟨zck95, List.forall_mem_cons.mpr ⟨zck96, List.forall_mem_cons.mpr ⟨zck97, List.forall_mem_cons.mpr ⟨zck98, List.forall_mem_cons.mpr ⟨zck99, fun _ h => absurd h List.not_mem_nil⟩⟩⟩⟩⟩⟩⟩⟩⟩⟩⟩⟩⟩⟩⟩⟩⟩⟩⟩⟩
theorem zcg5 : ∀ y ∈ zcal5, (zPR y).all (zchk y) = true := List.forall_mem_cons.mpr ⟨zck100, List.forall_mem_cons.mpr ⟨zck101, List.forall_mem_cons.mpr ⟨zck102, List.forall_mem_cons.mpr ⟨zck103, List.forall_mem_cons.mpr ⟨zck104, List.forall_mem_cons.mpr ⟨zck105, List.forall_mem_cons.mpr ⟨zck106, List.forall_mem_cons.mpr ⟨zck107, List.forall_mem_cons.mpr ⟨zck108, List.forall_mem_cons.mpr ⟨zck109, List.forall_mem_cons.mpr ⟨zck110, List.forall_mem_cons.mpr ⟨zck111, List.forall_mem_cons.mpr ⟨zck112, List.forall_mem_cons.mpr ⟨zck113, List.forall_mem_cons.mpr ⟨zck114, List.forall_mem_cons.mpr ⟨zck115, List.forall_mem_cons.mpr ⟨zck116, List.forall_mem_cons.mpr ⟨zck117, List.forall_mem_cons.mpr ⟨zck118, List.forall_mem_cons.mpr ⟨zck119, fun _ h => absurd h List.not_mem_nil⟩⟩⟩⟩⟩⟩⟩⟩⟩⟩⟩⟩⟩⟩⟩⟩⟩⟩⟩⟩
theorem zcg6 : ∀ y ∈ zcal6, (zPR y).all (zchk y) = true := List.forall_mem_cons.mpr ⟨zck120, List.forall_mem_cons.mpr ⟨zck121, List.forall_mem_cons.mpr ⟨zck122, List.forall_mem_cons.mpr ⟨zck123, List.forall_mem_cons.mpr ⟨zck124, List.forall_mem_cons.mpr ⟨zck125, List.forall_mem_cons.mpr ⟨zck126, List.forall_mem_cons.mpr ⟨zck127, List.forall_mem_cons.mpr ⟨zck128, List.forall_mem_cons.mpr ⟨zck129, List.forall_mem_cons.mpr ⟨zck130, List.forall_mem_cons.mpr ⟨zck131, List.forall_mem_cons.mpr ⟨zck132, List.forall_mem_cons.mpr ⟨zck133, List.forall_mem_cons.mpr ⟨zck134, List.forall_mem_cons.mpr ⟨zck135, List.forall_mem_cons.mpr ⟨zck136, List.forall_mem_cons.mpr ⟨zck137, List.forall_mem_cons.mpr ⟨zck138, List.forall_mem_cons.mpr ⟨zck139, fun _ h => absurd h List.not_mem_nil⟩⟩⟩⟩⟩⟩⟩⟩⟩⟩⟩⟩⟩⟩⟩⟩⟩⟩⟩⟩
theorem zcg7 : ∀ y ∈ zcal7, (zPR y).all (zchk y) = true := List.forall_mem_cons.mpr ⟨zck140, List.forall_mem_cons.mpr ⟨zck141, List.forall_mem_cons.mpr ⟨zck142, List.forall_mem_cons.mpr ⟨zck143, List.forall_mem_cons.mpr ⟨zck144, List.forall_mem_cons.mpr ⟨zck145, List.forall_mem_cons.mpr ⟨zck146, List.forall_mem_cons.mpr ⟨zck147, List.forall_mem_cons.mpr ⟨zck148, List.forall_mem_cons.mpr ⟨zck149, List.forall_mem_cons.mpr ⟨zck150, List.forall_mem_cons.mpr ⟨zck151, List.forall_mem_cons.mpr ⟨zck152, List.forall_mem_cons.mpr ⟨zck153, List.forall_mem_cons.mpr ⟨zck154, List.forall_mem_cons.mpr ⟨zck155, List.forall_mem_cons.mpr ⟨zck156, List.forall_mem_cons.mpr ⟨zck157, List.forall_mem_cons.mpr ⟨zck158, List.forall_mem_cons.mpr ⟨zck159, fun _ h => absurd h List.not_mem_nil⟩⟩⟩⟩⟩⟩⟩⟩⟩⟩⟩⟩⟩⟩⟩⟩⟩⟩⟩⟩
theorem zcg8 : ∀ y ∈ zcal8, (zPR y).all (zchk y) = true := List.forall_mem_cons.mpr ⟨zck160, List.forall_mem_cons.mpr ⟨zck161, List.forall_mem_cons.mpr ⟨zck162, List.forall_mem_cons.mpr ⟨zck163, List.forall_mem_cons.mpr ⟨zck164, List.forall_mem_cons.mpr ⟨zck165, List.forall_mem_cons.mpr ⟨zck166, List.forall_mem_cons.mpr ⟨zck167, List.forall_mem_cons.mpr ⟨zck168, List.forall_mem_cons.mpr ⟨zck169, List.forall_mem_cons.mpr ⟨zck170, List.forall_mem_cons.mpr ⟨zck171, List.forall_mem_cons.mpr ⟨zck172, List.forall_mem_cons.mpr ⟨zck173, List.forall_mem_cons.mpr ⟨zck174, List.forall_mem_cons.mpr ⟨zck175, List.forall_mem_cons.mpr ⟨zck176, List.forall_mem_cons.mpr ⟨zck177, List.forall_mem_cons.mpr ⟨zck178, List.forall_mem_cons.mpr ⟨zck179, fun _ h => absurd h List.not_mem_nil⟩⟩⟩⟩⟩⟩⟩⟩⟩⟩⟩⟩⟩⟩⟩⟩⟩⟩⟩⟩
theorem zcg9 : ∀ y ∈ zcal9, (zPR y).all (zchk y) = true := List.forall_mem_cons.mpr ⟨zck180, List.forall_mem_cons.mpr ⟨zck181, List.forall_mem_cons.mpr ⟨zck182, List.forall_mem_cons.mpr ⟨zck183, List.forall_mem_cons.mpr ⟨zck184, List.forall_mem_cons.mpr ⟨zck185, List.forall_mem_cons.mpr ⟨zck186, List.forall_mem_cons.mpr ⟨zck187, List.forall_mem_cons.mpr ⟨zck188, List.forall_mem_cons.mpr ⟨zck189, List.forall_mem_cons.mpr ⟨zck190, List.forall_mem_cons.mpr ⟨zck191, List.forall_mem_cons.mpr ⟨zck192, List.forall_mem_cons.mpr ⟨zck193, List.forall_mem_cons.mpr ⟨zck194, List.forall_mem_cons.mpr ⟨zck195, List.forall_mem_cons.mpr ⟨zck196, List.forall_mem_cons.mpr ⟨zck197, List.forall_mem_cons.mpr ⟨zck198, List.forall_mem_cons.mpr ⟨zck199, fun _ h => absurd h List.not_mem_nil⟩⟩⟩⟩⟩⟩⟩⟩⟩⟩⟩⟩⟩⟩⟩⟩⟩⟩⟩⟩
theorem zcg10 : ∀ y ∈ zcal10, (zPR y).all (zchk y) = true := List.forall_mem_cons.mpr ⟨zck200, List.forall_mem_cons.mpr ⟨zck201, List.forall_mem_cons.mpr ⟨zck202, List.forall_mem_cons.mpr ⟨zck203, List.forall_mem_cons.mpr ⟨zck204, List.forall_mem_cons.mpr ⟨zck205, List.forall_mem_cons.mpr ⟨zck206, List.forall_mem_cons.mpr ⟨zck207, List.forall_mem_cons.mpr ⟨zck208, List.forall_mem_cons.mpr ⟨zck209, List.forall_mem_cons.mpr ⟨zck210, List.forall_mem_cons.mpr ⟨zck211, List.forall_mem_cons.mpr ⟨zck212, List.forall_mem_cons.mpr ⟨zck213, List.forall_mem_cons.mpr ⟨zck214, List.forall_mem_cons.mpr ⟨zck215, List.forall_mem_cons.mpr ⟨zck216, List.forall_mem_cons.mpr ⟨zck217, List.forall_mem_cons.mpr ⟨zck218, List.forall_mem_cons.mpr ⟨zck219, fun _ h => absurd h List.not_mem_nil⟩⟩⟩⟩⟩⟩⟩⟩⟩⟩⟩⟩⟩⟩⟩⟩⟩⟩⟩⟩
theorem zcg11 : ∀ y ∈ zcal11, (zPR y).all (zchk y) = true := List.forall_mem_cons.mpr ⟨zck220, List.forall_mem_cons.mpr ⟨zck221, List.forall_mem_cons.mpr ⟨zck222, List.forall_mem_cons.mpr ⟨zck223, List.forall_mem_cons.mpr ⟨zck224, List.forall_mem_cons.mpr ⟨zck225, List.forall_mem_cons.mpr ⟨zck226, List.forall_mem_cons.mpr ⟨zck227, List.forall_mem_cons.mpr ⟨zck228, List.forall_mem_cons.mpr ⟨zck229, List.forall_mem_cons.mpr ⟨zck230, List.forall_mem_cons.mpr ⟨zck231, List.forall_mem_cons.mpr ⟨zck232, List.forall_mem_cons.mpr ⟨zck233, List.forall_mem_cons.mpr ⟨zck234, List.forall_mem_cons.mpr ⟨zck235, List.forall_mem_cons.mpr ⟨zck236, List.forall_mem_cons.mpr ⟨zck237, List.forall_mem_cons.mpr ⟨zck238, List.forall_mem_cons.mpr ⟨zck239, fun _ h => absurd h List.not_mem_nil⟩⟩⟩⟩⟩⟩⟩⟩⟩⟩⟩⟩⟩⟩⟩⟩⟩⟩⟩⟩
theorem zcg12 : ∀ y ∈ zcal12, (zPR y).all (zchk y) = true := List.forall_mem_cons.mpr ⟨zck240, List.forall_mem_cons.mpr ⟨zck241, List.forall_mem_cons.mpr ⟨zck242, List.forall_mem_cons.mpr ⟨zck243, List.forall_mem_cons.mpr ⟨zck244, List.forall_mem_cons.mpr ⟨zck245, List.forall_mem_cons.mpr ⟨zck246, List.forall_mem_cons.mpr ⟨zck247, List.forall_mem_cons.mpr ⟨zck248, List.forall_mem_cons.mpr ⟨zck249, List.forall_mem_cons.mpr ⟨zck250, List.forall_mem_cons.mpr ⟨zck251, List.forall_mem_cons.mpr ⟨zck252, List.forall_mem_cons.mpr ⟨zck253, List.forall_mem_cons.mpr ⟨zck254, List.forall_mem_cons.mpr ⟨zck255, List.forall_mem_cons.mpr ⟨zck256, List.forall_mem_cons.mpr ⟨zck257, List.forall_mem_cons.mpr ⟨zck258, List.forall_mem_cons.mpr ⟨zck263, fun _ h => absurd h List.not_mem_nil⟩⟩⟩⟩⟩⟩⟩⟩⟩⟩⟩⟩⟩⟩⟩⟩⟩⟩⟩⟩
theorem zchk_ok : ∀ y ∈ zcal, ∀ e ∈ zPR y, zchk y e = true := by
  intro y h
  have h2 : (zPR y).all (zchk y) = true := by
    rw [zcal_e] at h
    simp only [List.mem_append] at h
    rcases h with (((((((((((h | h) | h) | h) | h) | h) | h) | h) | h) | h) | h) | h) | h
    · exact zcg0 y h
    · exact zcg1 y h
    · exact zcg2 y h
    · exact zcg3 y h
    · exact zcg4 y h
    · exact zcg5 y h
    · exact zcg6 y h
    · exact zcg7 y h
    · exact zcg8 y h
    · exact zcg9 y h
    · exact zcg10 y h
    · exact zcg11 y h
    · exact zcg12 y h
  exact fun e he => List.all_eq_true.mp h2 e he
