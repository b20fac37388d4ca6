-- 139 SyntaxRulesModel.<init>()V
set_option maxRecDepth 100000 in
set_option maxHeartbeats 4000000 in
theorem k139_0 (a0 : Nat) (h : zH) (Q : Option zV → zH → Prop) (k :
  (¬ (a0 : Nat) = 0) ∧ (0 ≤ (2709 : Int) ∧ (2709 : Int) ≤ 10000) ∧ ∀ h88 : zH, h88 = nw h 40 ((2709 : Int)).toNat →
  (zty 131 a0 h88) ∧ ∀ h89 : zH, h89 = sR h88 a0 1 (nx h) →
  (0 ≤ (5418 : Int) ∧ (5418 : Int) ≤ 10000) ∧ ∀ h90 : zH, h90 = nw h89 40 ((5418 : Int)).toNat →
  (zty 131 a0 h90) ∧ ∀ h91 : zH, h91 = sR h90 a0 2 (nx h89) →
  (0 ≤ (2 : Int) ∧ (2 : Int) ≤ 10000) ∧ ∀ h92 : zH, h92 = nw h91 41 ((2 : Int)).toNat →
  (zty 131 a0 h92) ∧ ∀ h93 : zH, h93 = sR h92 a0 3 (nx h91) →
  (0 ≤ (2408 : Int) ∧ (2408 : Int) ≤ 10000) ∧ ∀ h94 : zH, h94 = nw h93 40 ((2408 : Int)).toNat →
  (zty 131 a0 h94) ∧ ∀ h95 : zH, h95 = sR h94 a0 4 (nx h93) →
  (0 ≤ (300 : Int) ∧ (300 : Int) ≤ 10000) ∧ ∀ h96 : zH, h96 = nw h95 42 ((300 : Int)).toNat →
  (zty 131 a0 h96) ∧ ∀ h97 : zH, h97 = sR h96 a0 6 (nx h95) →
  (0 ≤ (302 : Int) ∧ (302 : Int) ≤ 10000) ∧ ∀ h98 : zH, h98 = nw h97 40 ((302 : Int)).toNat →
  (zty 131 a0 h98) ∧ ∀ h99 : zH, h99 = sR h98 a0 8 (nx h97) →
  (0 ≤ (600 : Int) ∧ (600 : Int) ≤ 10000) ∧ ∀ h100 : zH, h100 = nw h99 40 ((600 : Int)).toNat →
  (zty 131 a0 h100) ∧ ∀ h101 : zH, h101 = sR h100 a0 10 (nx h99) →
  (0 ≤ (450 : Int) ∧ (450 : Int) ≤ 10000) ∧ ∀ h102 : zH, h102 = nw h101 40 ((450 : Int)).toNat →
  (zty 131 a0 h102) ∧ ∀ h103 : zH, h103 = sR h102 a0 12 (nx h101) →
  (0 ≤ (16 : Int) ∧ (16 : Int) ≤ 10000) ∧ ∀ h104 : zH, h104 = nw h103 40 ((16 : Int)).toNat →
  (zty 131 a0 h104) ∧ ∀ h105 : zH, h105 = sR h104 a0 14 (nx h103) →
  (0 ≤ (600 : Int) ∧ (600 : Int) ≤ 10000) ∧ ∀ h106 : zH, h106 = nw h105 40 ((600 : Int)).toNat →
  (zty 131 a0 h106) ∧ ∀ h107 : zH, h107 = sR h106 a0 19 (nx h105) →
  (0 ≤ (450 : Int) ∧ (450 : Int) ≤ 10000) ∧ ∀ h108 : zH, h108 = nw h107 40 ((450 : Int)).toNat →
  (zty 131 a0 h108) ∧ ∀ h109 : zH, h109 = sR h108 a0 21 (nx h107) →
  (0 ≤ (3936 : Int) ∧ (3936 : Int) ≤ 10000) ∧ ∀ h110 : zH, h110 = nw h109 40 ((3936 : Int)).toNat →
  (zty 131 a0 h110) ∧ ∀ h111 : zH, h111 = sR h110 a0 23 (nx h109) →
  (0 ≤ (16 : Int) ∧ (16 : Int) ≤ 10000) ∧ ∀ h112 : zH, h112 = nw h111 40 ((16 : Int)).toNat →
  (zty 131 a0 h112) ∧ ∀ h113 : zH, h113 = sR h112 a0 24 (nx h111) →
  (0 ≤ (492 : Int) ∧ (492 : Int) ≤ 10000) ∧ ∀ h114 : zH, h114 = nw h113 40 ((492 : Int)).toNat →
  (zty 131 a0 h114) ∧ ∀ h115 : zH, h115 = sR h114 a0 25 (nx h113) →
  (0 ≤ (2 : Int) ∧ (2 : Int) ≤ 10000) ∧ ∀ h116 : zH, h116 = nw h115 40 ((2 : Int)).toNat →
  (zty 131 a0 h116) ∧ ∀ h117 : zH, h117 = sR h116 a0 26 (nx h115) →
  (0 ≤ (26 : Int) ∧ (26 : Int) ≤ 10000) ∧ ∀ h118 : zH, h118 = nw h117 40 ((26 : Int)).toNat →
  (zty 131 a0 h118) ∧ ∀ h119 : zH, h119 = sR h118 a0 30 (nx h117) →
  (0 ≤ (21 : Int) ∧ (21 : Int) ≤ 10000) ∧ ∀ h120 : zH, h120 = nw h119 40 ((21 : Int)).toNat →
  (zty 131 a0 h120) ∧ ∀ h121 : zH, h121 = sR h120 a0 31 (nx h119) →
  (0 ≤ (3 : Int) ∧ (3 : Int) ≤ 10000) ∧ ∀ h122 : zH, h122 = nw h121 40 ((3 : Int)).toNat →
  (zty 131 a0 h122) ∧ ∀ h123 : zH, h123 = sR h122 a0 34 (nx h121) →
  (0 ≤ (26 : Int) ∧ (26 : Int) ≤ 10000) ∧ ∀ h124 : zH, h124 = nw h123 40 ((26 : Int)).toNat →
  (zty 131 a0 h124) ∧ ∀ h125 : zH, h125 = sR h124 a0 37 (nx h123) →
  (0 ≤ (26 : Int) ∧ (26 : Int) ≤ 10000) ∧ ∀ h126 : zH, h126 = nw h125 40 ((26 : Int)).toNat →
  (zty 131 a0 h126) ∧ ∀ h127 : zH, h127 = sR h126 a0 38 (nx h125) →
  (0 ≤ (21 : Int) ∧ (21 : Int) ≤ 10000) ∧ ∀ h128 : zH, h128 = nw h127 40 ((21 : Int)).toNat →
  (zty 131 a0 h128) ∧ ∀ h129 : zH, h129 = sR h128 a0 39 (nx h127) →
  (0 ≤ (21 : Int) ∧ (21 : Int) ≤ 10000) ∧ ∀ h130 : zH, h130 = nw h129 40 ((21 : Int)).toNat →
  (zty 131 a0 h130) ∧ ∀ h131 : zH, h131 = sR h130 a0 40 (nx h129) →
  (0 ≤ (8 : Int) ∧ (8 : Int) ≤ 10000) ∧ ∀ h132 : zH, h132 = nw h131 40 ((8 : Int)).toNat →
  (zty 131 a0 h132) ∧ ∀ h133 : zH, h133 = sR h132 a0 41 (nx h131) →
  (0 ≤ (320 : Int) ∧ (320 : Int) ≤ 10000) ∧ ∀ h134 : zH, h134 = nw h133 40 ((320 : Int)).toNat →
  (zty 131 a0 h134) ∧ ∀ h135 : zH, h135 = sR h134 a0 42 (nx h133) →
  (0 ≤ (320 : Int) ∧ (320 : Int) ≤ 10000) ∧ ∀ h136 : zH, h136 = nw h135 40 ((320 : Int)).toNat →
  (zty 131 a0 h136) ∧ ∀ h137 : zH, h137 = sR h136 a0 43 (nx h135) →
  (0 ≤ (320 : Int) ∧ (320 : Int) ≤ 10000) ∧ ∀ h138 : zH, h138 = nw h137 40 ((320 : Int)).toNat →
  (zty 131 a0 h138) ∧ ∀ h139 : zH, h139 = sR h138 a0 44 (nx h137) →
  (0 ≤ (6720 : Int) ∧ (6720 : Int) ≤ 10000) ∧ ∀ h140 : zH, h140 = nw h139 40 ((6720 : Int)).toNat →
  (zty 131 a0 h140) ∧ ∀ h141 : zH, h141 = sR h140 a0 45 (nx h139) →
  (0 ≤ (320 : Int) ∧ (320 : Int) ≤ 10000) ∧ ∀ h142 : zH, h142 = nw h141 40 ((320 : Int)).toNat →
  (zty 131 a0 h142) ∧ ∀ h143 : zH, h143 = sR h142 a0 46 (nx h141) →
  (0 ≤ (6720 : Int) ∧ (6720 : Int) ≤ 10000) ∧ ∀ h144 : zH, h144 = nw h143 40 ((6720 : Int)).toNat →
  (zty 131 a0 h144) ∧ ∀ h145 : zH, h145 = sR h144 a0 47 (nx h143) →
  (0 ≤ (21 : Int) ∧ (21 : Int) ≤ 10000) ∧ ∀ h146 : zH, h146 = nw h145 40 ((21 : Int)).toNat →
  (zty 131 a0 h146) ∧ ∀ h147 : zH, h147 = sR h146 a0 48 (nx h145) →
  (0 ≤ (26 : Int) ∧ (26 : Int) ≤ 10000) ∧ ∀ h148 : zH, h148 = nw h147 40 ((26 : Int)).toNat →
  (zty 131 a0 h148) ∧ ∀ h149 : zH, h149 = sR h148 a0 50 (nx h147) →
  (0 ≤ (546 : Int) ∧ (546 : Int) ≤ 10000) ∧ ∀ h150 : zH, h150 = nw h149 40 ((546 : Int)).toNat →
  (zty 131 a0 h150) ∧ ∀ h151 : zH, h151 = sR h150 a0 51 (nx h149) →
  (0 ≤ (320 : Int) ∧ (320 : Int) ≤ 10000) ∧ ∀ h152 : zH, h152 = nw h151 40 ((320 : Int)).toNat →
  (zty 131 a0 h152) ∧ ∀ h153 : zH, h153 = sR h152 a0 52 (nx h151) →
  (0 ≤ (320 : Int) ∧ (320 : Int) ≤ 10000) ∧ ∀ h154 : zH, h154 = nw h153 40 ((320 : Int)).toNat →
  (zty 131 a0 h154) ∧ ∀ h155 : zH, h155 = sR h154 a0 53 (nx h153) →
  (0 ≤ (320 : Int) ∧ (320 : Int) ≤ 10000) ∧ ∀ h156 : zH, h156 = nw h155 41 ((320 : Int)).toNat →
  (zty 131 a0 h156) ∧ ∀ h157 : zH, h157 = sR h156 a0 56 (nx h155) →
  (0 ≤ (60 : Int) ∧ (60 : Int) ≤ 10000) ∧ ∀ h158 : zH, h158 = nw h157 40 ((60 : Int)).toNat →
  (zty 131 a0 h158) ∧ ∀ h159 : zH, h159 = sR h158 a0 57 (nx h157) →
  (0 ≤ (60 : Int) ∧ (60 : Int) ≤ 10000) ∧ ∀ h160 : zH, h160 = nw h159 40 ((60 : Int)).toNat →
  (zty 131 a0 h160) ∧ ∀ h161 : zH, h161 = sR h160 a0 58 (nx h159) →
  (0 ≤ (60 : Int) ∧ (60 : Int) ≤ 10000) ∧ ∀ h162 : zH, h162 = nw h161 40 ((60 : Int)).toNat →
  (zty 131 a0 h162) ∧ ∀ h163 : zH, h163 = sR h162 a0 60 (nx h161) →
  (0 ≤ (7000 : Int) ∧ (7000 : Int) ≤ 10000) ∧ ∀ h164 : zH, h164 = nw h163 42 ((7000 : Int)).toNat →
  (zty 131 a0 h164) ∧ ∀ h165 : zH, h165 = sR h164 a0 61 (nx h163) →
  (0 ≤ (26 : Int) ∧ (26 : Int) ≤ 10000) ∧ ∀ h166 : zH, h166 = nw h165 40 ((26 : Int)).toNat →
  (zty 131 a0 h166) ∧ ∀ h167 : zH, h167 = sR h166 a0 64 (nx h165) →
  (0 ≤ (26 : Int) ∧ (26 : Int) ≤ 10000) ∧ ∀ h168 : zH, h168 = nw h167 40 ((26 : Int)).toNat →
  (zty 131 a0 h168) ∧ ∀ h169 : zH, h169 = sR h168 a0 65 (nx h167) →
  (0 ≤ (2107 : Int) ∧ (2107 : Int) ≤ 10000) ∧ ∀ h170 : zH, h170 = nw h169 40 ((2107 : Int)).toNat →
  (zty 131 a0 h170) ∧ (gR (sR h170 a0 67 (nx h169)) a0 1 = a0 + 1) ∧ (zty 271040 (a0 + 1) (sR h170 a0 67 (nx h169))) ∧ (gR (sR h170 a0 67 (nx h169)) a0 2 = a0 + 2) ∧ (zty 541940 (a0 + 2) (sR h170 a0 67 (nx h169))) ∧ (gR (sR h170 a0 67 (nx h169)) a0 3 = a0 + 3) ∧ (zty 341 (a0 + 3) (sR h170 a0 67 (nx h169))) ∧ (gR (sR h170 a0 67 (nx h169)) a0 4 = a0 + 4) ∧ (zty 240940 (a0 + 4) (sR h170 a0 67 (nx h169))) ∧ (gR (sR h170 a0 67 (nx h169)) a0 6 = a0 + 5) ∧ (zty 30142 (a0 + 5) (sR h170 a0 67 (nx h169))) ∧ (gR (sR h170 a0 67 (nx h169)) a0 8 = a0 + 6) ∧ (zty 30340 (a0 + 6) (sR h170 a0 67 (nx h169))) ∧ (gR (sR h170 a0 67 (nx h169)) a0 10 = a0 + 7) ∧ (zty 60140 (a0 + 7) (sR h170 a0 67 (nx h169))) ∧ (gR (sR h170 a0 67 (nx h169)) a0 12 = a0 + 8) ∧ (zty 45140 (a0 + 8) (sR h170 a0 67 (nx h169))) ∧ (gR (sR h170 a0 67 (nx h169)) a0 14 = a0 + 9) ∧ (zty 1740 (a0 + 9) (sR h170 a0 67 (nx h169))) ∧ (gR (sR h170 a0 67 (nx h169)) a0 19 = a0 + 10) ∧ (zty 60140 (a0 + 10) (sR h170 a0 67 (nx h169))) ∧ (gR (sR h170 a0 67 (nx h169)) a0 21 = a0 + 11) ∧ (zty 45140 (a0 + 11) (sR h170 a0 67 (nx h169))) ∧ (gR (sR h170 a0 67 (nx h169)) a0 23 = a0 + 12) ∧ (zty 393740 (a0 + 12) (sR h170 a0 67 (nx h169))) ∧ (gR (sR h170 a0 67 (nx h169)) a0 24 = a0 + 13) ∧ (zty 1740 (a0 + 13) (sR h170 a0 67 (nx h169))) ∧ (gR (sR h170 a0 67 (nx h169)) a0 25 = a0 + 14) ∧ (zty 49340 (a0 + 14) (sR h170 a0 67 (nx h169))) ∧ (gR (sR h170 a0 67 (nx h169)) a0 26 = a0 + 15) ∧ (zty 340 (a0 + 15) (sR h170 a0 67 (nx h169))) ∧ (gR (sR h170 a0 67 (nx h169)) a0 30 = a0 + 16) ∧ (zty 2740 (a0 + 16) (sR h170 a0 67 (nx h169))) ∧ (gR (sR h170 a0 67 (nx h169)) a0 31 = a0 + 17) ∧ (zty 2240 (a0 + 17) (sR h170 a0 67 (nx h169))) ∧ (gR (sR h170 a0 67 (nx h169)) a0 34 = a0 + 18) ∧ (zty 440 (a0 + 18) (sR h170 a0 67 (nx h169))) ∧ (gR (sR h170 a0 67 (nx h169)) a0 37 = a0 + 19) ∧ (zty 2740 (a0 + 19) (sR h170 a0 67 (nx h169))) ∧ (gR (sR h170 a0 67 (nx h169)) a0 38 = a0 + 20) ∧ (zty 2740 (a0 + 20) (sR h170 a0 67 (nx h169))) ∧ (gR (sR h170 a0 67 (nx h169)) a0 39 = a0 + 21) ∧ (zty 2240 (a0 + 21) (sR h170 a0 67 (nx h169))) ∧ (gR (sR h170 a0 67 (nx h169)) a0 40 = a0 + 22) ∧ (zty 2240 (a0 + 22) (sR h170 a0 67 (nx h169))) ∧ (gR (sR h170 a0 67 (nx h169)) a0 41 = a0 + 23) ∧ (zty 940 (a0 + 23) (sR h170 a0 67 (nx h169))) ∧ (gR (sR h170 a0 67 (nx h169)) a0 42 = a0 + 24) ∧ (zty 32140 (a0 + 24) (sR h170 a0 67 (nx h169))) ∧ (gR (sR h170 a0 67 (nx h169)) a0 43 = a0 + 25) ∧ (zty 32140 (a0 + 25) (sR h170 a0 67 (nx h169))) ∧ (gR (sR h170 a0 67 (nx h169)) a0 44 = a0 + 26) ∧ (zty 32140 (a0 + 26) (sR h170 a0 67 (nx h169))) ∧ (gR (sR h170 a0 67 (nx h169)) a0 45 = a0 + 27) ∧ (zty 672140 (a0 + 27) (sR h170 a0 67 (nx h169))) ∧ (gR (sR h170 a0 67 (nx h169)) a0 46 = a0 + 28) ∧ (zty 32140 (a0 + 28) (sR h170 a0 67 (nx h169))) ∧ (gR (sR h170 a0 67 (nx h169)) a0 47 = a0 + 29) ∧ (zty 672140 (a0 + 29) (sR h170 a0 67 (nx h169))) ∧ (gR (sR h170 a0 67 (nx h169)) a0 48 = a0 + 30) ∧ (zty 2240 (a0 + 30) (sR h170 a0 67 (nx h169))) ∧ (gR (sR h170 a0 67 (nx h169)) a0 50 = a0 + 31) ∧ (zty 2740 (a0 + 31) (sR h170 a0 67 (nx h169))) ∧ (gR (sR h170 a0 67 (nx h169)) a0 51 = a0 + 32) ∧ (zty 54740 (a0 + 32) (sR h170 a0 67 (nx h169))) ∧ (gR (sR h170 a0 67 (nx h169)) a0 52 = a0 + 33) ∧ (zty 32140 (a0 + 33) (sR h170 a0 67 (nx h169))) ∧ (gR (sR h170 a0 67 (nx h169)) a0 53 = a0 + 34) ∧ (zty 32140 (a0 + 34) (sR h170 a0 67 (nx h169))) ∧ (gR (sR h170 a0 67 (nx h169)) a0 56 = a0 + 35) ∧ (zty 32141 (a0 + 35) (sR h170 a0 67 (nx h169))) ∧ (gR (sR h170 a0 67 (nx h169)) a0 57 = a0 + 36) ∧ (zty 6140 (a0 + 36) (sR h170 a0 67 (nx h169))) ∧ (gR (sR h170 a0 67 (nx h169)) a0 58 = a0 + 37) ∧ (zty 6140 (a0 + 37) (sR h170 a0 67 (nx h169))) ∧ (gR (sR h170 a0 67 (nx h169)) a0 60 = a0 + 38) ∧ (zty 6140 (a0 + 38) (sR h170 a0 67 (nx h169))) ∧ (gR (sR h170 a0 67 (nx h169)) a0 61 = a0 + 39) ∧ (zty 700142 (a0 + 39) (sR h170 a0 67 (nx h169))) ∧ (gR (sR h170 a0 67 (nx h169)) a0 64 = a0 + 40) ∧ (zty 2740 (a0 + 40) (sR h170 a0 67 (nx h169))) ∧ (gR (sR h170 a0 67 (nx h169)) a0 65 = a0 + 41) ∧ (zty 2740 (a0 + 41) (sR h170 a0 67 (nx h169))) ∧ (gR (sR h170 a0 67 (nx h169)) a0 67 = a0 + 42) ∧ (zty 210840 (a0 + 42) (sR h170 a0 67 (nx h169))) ∧ ∀ h171 : zH, h171 = sT (sR h170 a0 67 (nx h169)) a0 11 →
  (zty 111 a0 h171) ∧ (0 ≤ (0 : Int)) ∧ ((0 : Int) < 2709) ∧ ∀ h172 : zH, h172 = sI h171 (a0 + 1) 0 97 →
  (zty 111 a0 h172) ∧ (0 ≤ (300 : Int)) ∧ ((300 : Int) < 2709) ∧ ∀ h173 : zH, h173 = sI h172 (a0 + 1) 300 1 →
  (zty 111 a0 h173) ∧ zC0 156 [vR a0 111] h173 (fun h174 =>
  Q none h174)) : zK 139 0 [vR a0 0] [] h Q :=
  zwpe_W (cd := c139) rfl [] 400 0 _ _ _ _ k
-- 140 SyntaxRulesModel.thrown()I
set_option maxRecDepth 100000 in
set_option maxHeartbeats 4000000 in
theorem k140_0 (h : zH) (Q : Option zV → zH → Prop) (k :
  Q (some (vI (gI h 127 0))) h) : zK 140 0 [vR 127 111] [] h Q :=
  zwpe_W (cd := c140) rfl [] 400 0 _ _ _ _ k
-- 141 SyntaxRulesModel.in(JJJ)Z
set_option maxRecDepth 100000 in
set_option maxHeartbeats 4000000 in
theorem k141_0 (p0 : Int) (p1 : Int) (p2 : Int) (h : zH) (Q : Option zV → zH → Prop) (k :
  ((iCmp p0 p1) < 0 →
    ((0 : Int) = 0 ∨ (0 : Int) = 1) ∧ Q (some (vI 0)) h) ∧
    (¬ ((iCmp p0 p1) < 0) →
    (0 < (iCmp p0 p2) →
      ((0 : Int) = 0 ∨ (0 : Int) = 1) ∧ Q (some (vI 0)) h) ∧
      (¬ (0 < (iCmp p0 p2)) →
      ((1 : Int) = 0 ∨ (1 : Int) = 1) ∧ Q (some (vI 1)) h))) : zK 141 0 [vL p0, vU, vL p1, vU, vL p2, vU] [] h Q :=
  zwpe_W (cd := c141) rfl [] 400 0 _ _ _ _ k
-- 142 SyntaxRulesModel.ruleAt(I)I
set_option maxRecDepth 100000 in
set_option maxHeartbeats 4000000 in
theorem k142_0 (p0 : Int) (h : zH) (Q : Option zV → zH → Prop) (k :
  (inR (301 * p0)) ∧ (inR (301 + (301 * p0))) ∧ Q (some (vI (301 + (301 * p0)))) h) : zK 142 0 [vI p0] [] h Q :=
  zwpe_W (cd := c142) rfl [] 400 0 _ _ _ _ k
-- 143 SyntaxRulesModel.isRule(I)Z
set_option maxRecDepth 100000 in
set_option maxHeartbeats 4000000 in
theorem k143_0 (p1 : Int) (h : zH) (Q : Option zV → zH → Prop) (k :
  zC1 141 [vL p1, vL 0, vL 7] h (fun v3 h3 =>
  (v3 = 0 →
    ((0 : Int) = 0 ∨ (0 : Int) = 1) ∧ Q (some (vI 0)) h3) ∧
    (¬ (v3 = 0) →
    zC1 142 [vI p1] h3 (fun v4 h4 =>
    (inR (v4 + 300)) ∧ (0 ≤ (v4 + 300 : Int)) ∧ ((v4 + 300 : Int) < 2709) ∧ ((gI h4 128 (v4 + 300)) ≤ 0 →
      ((0 : Int) = 0 ∨ (0 : Int) = 1) ∧ Q (some (vI 0)) h4) ∧
      (¬ ((gI h4 128 (v4 + 300)) ≤ 0) →
      ((1 : Int) = 0 ∨ (1 : Int) = 1) ∧ Q (some (vI 1)) h4))))) : zK 143 0 [vR 127 111, vI p1] [] h Q :=
  zwpe_W (cd := c143) rfl [] 400 0 _ _ _ _ k
-- 144 SyntaxRulesModel.isLetter(I)Z
set_option maxRecDepth 100000 in
set_option maxHeartbeats 4000000 in
theorem k144_0 (p0 : Int) (h : zH) (Q : Option zV → zH → Prop) (k :
  zC1 141 [vL p0, vL 97, vL 122] h (fun v2 h2 =>
  ((v2 : Int) = 0 ∨ (v2 : Int) = 1) ∧ Q (some (vI v2)) h2)) : zK 144 0 [vI p0] [] h Q :=
  zwpe_W (cd := c144) rfl [] 400 0 _ _ _ _ k
-- 145 SyntaxRulesModel.isDigit(I)Z
set_option maxRecDepth 100000 in
set_option maxHeartbeats 4000000 in
theorem k145_0 (p0 : Int) (h : zH) (Q : Option zV → zH → Prop) (k :
  zC1 141 [vL p0, vL 48, vL 57] h (fun v2 h2 =>
  ((v2 : Int) = 0 ∨ (v2 : Int) = 1) ∧ Q (some (vI v2)) h2)) : zK 145 0 [vI p0] [] h Q :=
  zwpe_W (cd := c145) rfl [] 400 0 _ _ _ _ k
-- 146 SyntaxRulesModel.sign(I)I
set_option maxRecDepth 100000 in
set_option maxHeartbeats 4000000 in
theorem k146_0 (p1 : Int) (h : zH) (Q : Option zV → zH → Prop) (k :
  ∀ h4 : zH, h4 = sI h 127 0 0 →
  (inR ((gI h4 127 7) + 4)) ∧ (((gI h4 127 7) + 4) ≤ 300 →
    zK 146 22 [vR 127 111, vI p1, vI 24] [] h4 Q) ∧
    (¬ (((gI h4 127 7) + 4) ≤ 300) →
    Q (some (vI ((-1)))) h4)) : zK 146 0 [vR 127 111, vI p1, vU] [] h Q :=
  zwpe_W (cd := c146) rfl [22] 400 0 _ _ _ _ k
set_option maxRecDepth 100000 in
set_option maxHeartbeats 4000000 in
theorem k146_22 (l1 : Int) (l2 : Int) (h : zH) (Q : Option zV → zH → Prop) (k :
  (l2 < 0 →
    Q (some (vI (gI h 127 7))) h) ∧
    (¬ (l2 < 0) →
    (0 ≤ (gI h 127 7 : Int)) ∧ ((gI h 127 7 : Int) < 300) ∧ (-128 ≤ (iByte (iUshr l1 l2) : Int) ∧ (iByte (iUshr l1 l2) : Int) ≤ 127) ∧ ∀ h5 : zH, h5 = sI h 132 (gI h 127 7) (iByte (iUshr l1 l2)) →
    (inR ((gI h5 127 7) + 1)) ∧ ∀ h6 : zH, h6 = sI h5 127 7 ((gI h5 127 7) + 1) →
    (inR (l2 + (-8))) ∧ zK 146 22 [vR 127 111, vI l1, vI (l2 + (-8))] [] h6 Q)) : zK 146 22 [vR 127 111, vI l1, vI l2] [] h Q :=
  zwpe_W (cd := c146) rfl [22] 400 22 _ _ _ _ k
-- 147 SyntaxRulesModel.end(I)Z
set_option maxRecDepth 100000 in
set_option maxHeartbeats 4000000 in
theorem k147_0 (p1 : Int) (h : zH) (Q : Option zV → zH → Prop) (k :
  ∀ h4 : zH, h4 = sI h 127 0 0 →
  zC1 141 [vL p1, vL 0, vL (gI h4 127 7)] h4 (fun v5 h5 =>
  (¬ v5 = 0 →
    ∀ h6 : zH, h6 = sI h5 127 7 p1 →
    ((1 : Int) = 0 ∨ (1 : Int) = 1) ∧ Q (some (vI 1)) h6) ∧
    (¬ (¬ v5 = 0) →
    ((0 : Int) = 0 ∨ (0 : Int) = 1) ∧ Q (some (vI 0)) h5))) : zK 147 0 [vR 127 111, vI p1] [] h Q :=
  zwpe_W (cd := c147) rfl [] 400 0 _ _ _ _ k
-- 148 SyntaxRulesModel.wrong()V
set_option maxRecDepth 100000 in
set_option maxHeartbeats 4000000 in
theorem k148_0 (h : zH) (Q : Option zV → zH → Prop) (k :
  ((gI h 127 18) = 0 →
    ∀ h5 : zH, h5 = sI h 127 17 (gI h 127 17) →
    ((0 : Int) = 0 ∨ (0 : Int) = 1) ∧ ∀ h6 : zH, h6 = sI h5 127 18 0 →
    Q none h6) ∧
    (¬ ((gI h 127 18) = 0) →
    ∀ h7 : zH, h7 = sI h 127 17 (gI h 127 16) →
    ((0 : Int) = 0 ∨ (0 : Int) = 1) ∧ ∀ h8 : zH, h8 = sI h7 127 18 0 →
    Q none h8)) : zK 148 0 [vR 127 111] [] h Q :=
  zwpe_W (cd := c148) rfl [] 400 0 _ _ _ _ k
-- 149 SyntaxRulesModel.here()I
set_option maxRecDepth 100000 in
set_option maxHeartbeats 4000000 in
theorem k149_0 (h : zH) (Q : Option zV → zH → Prop) (k :
  ((gI h 127 9) ≤ (gI h 127 16) →
    Q (some (vI ((-1)))) h) ∧
    (¬ ((gI h 127 9) ≤ (gI h 127 16)) →
    (0 ≤ (gI h 127 16 : Int)) ∧ ((gI h 127 16 : Int) < 302) ∧ Q (some (vI (gI h 133 (gI h 127 16)))) h)) : zK 149 0 [vR 127 111] [] h Q :=
  zwpe_W (cd := c149) rfl [] 400 0 _ _ _ _ k
-- 150 SyntaxRulesModel.readNote()V
set_option maxRecDepth 100000 in
set_option maxHeartbeats 4000000 in
theorem k150_0 (h : zH) (Q : Option zV → zH → Prop) (k :
  (inR ((gI h 127 16) + 1)) ∧ ∀ h16 : zH, h16 = sI h 127 16 ((gI h 127 16) + 1) →
  zK 150 15 [vR 127 111, vI (gI h 127 16), vU] [] h16 Q) : zK 150 0 [vR 127 111, vU, vU] [] h Q :=
  zwpe_W (cd := c150) rfl [15, 77, 94] 400 0 _ _ _ _ k
set_option maxRecDepth 100000 in
set_option maxHeartbeats 4000000 in
theorem k150_15 (l1 : Int) (u2 : zV) (h : zH) (Q : Option zV → zH → Prop) (k :
  ((gI h 127 18) = 0 →
    zK 150 77 [vR 127 111, vI l1, u2] [] h Q) ∧
    (¬ ((gI h 127 18) = 0) →
    zC1 149 [vR 127 111] h (fun v17 h17 =>
    (v17 = 93 →
      zK 150 77 [vR 127 111, vI l1, u2] [] h17 Q) ∧
      (¬ (v17 = 93) →
      zC1 149 [vR 127 111] h17 (fun v18 h18 =>
      (v18 = 10 →
        (inR ((gI h18 127 16) + 1)) ∧ ∀ h19 : zH, h19 = sI h18 127 16 ((gI h18 127 16) + 1) →
        zK 150 15 [vR 127 111, vI l1, u2] [] h19 Q) ∧
        (¬ (v18 = 10) →
        zC1 149 [vR 127 111] h18 (fun v20 h20 =>
        zC1 141 [vL v20, vL 32, vL 126] h20 (fun v21 h21 =>
        (v21 = 0 →
          zC0 148 [vR 127 111] h21 (fun h22 =>
          zK 150 15 [vR 127 111, vI l1, u2] [] h22 Q)) ∧
          (¬ (v21 = 0) →
          (inR ((gI h21 127 16) + 1)) ∧ ∀ h23 : zH, h23 = sI h21 127 16 ((gI h21 127 16) + 1) →
          zK 150 15 [vR 127 111, vI l1, u2] [] h23 Q))))))))) : zK 150 15 [vR 127 111, vI l1, u2] [] h Q :=
  zwpe_W (cd := c150) rfl [15, 77, 94] 400 15 _ _ _ _ k
set_option maxRecDepth 100000 in
set_option maxHeartbeats 4000000 in
theorem k150_77 (l1 : Int) (u2 : zV) (h : zH) (Q : Option zV → zH → Prop) (k :
  ((gI h 127 18) = 0 →
    zK 150 94 [vR 127 111, vI l1, u2] [vI 0, vI (gI h 127 16), vR 127 111] h Q) ∧
    (¬ ((gI h 127 18) = 0) →
    zK 150 94 [vR 127 111, vI l1, u2] [vI 1, vI (gI h 127 16), vR 127 111] h Q)) : zK 150 77 [vR 127 111, vI l1, u2] [] h Q :=
  zwpe_W (cd := c150) rfl [15, 77, 94] 400 77 _ _ _ _ k
set_option maxRecDepth 100000 in
set_option maxHeartbeats 4000000 in
theorem k150_94 (l1 : Int) (u2 : zV) (s0 : Int) (s1 : Int) (h : zH) (Q : Option zV → zH → Prop) (k :
  (inR (s1 + s0)) ∧ ∀ h24 : zH, h24 = sI h 127 16 (s1 + s0) →
  ((gI h24 127 18) = 0 →
    Q none h24) ∧
    (¬ ((gI h24 127 18) = 0) →
    (inR (3 * (gI h24 127 13))) ∧ (0 ≤ (3 * (gI h24 127 13) : Int)) ∧ ((3 * (gI h24 127 13) : Int) < 450) ∧ ∀ h25 : zH, h25 = sI h24 135 (3 * (gI h24 127 13)) l1 →
    (inR ((3 * (gI h24 127 13)) + 1)) ∧ (inR ((gI h25 127 16) - l1)) ∧ (0 ≤ ((3 * (gI h24 127 13)) + 1 : Int)) ∧ (((3 * (gI h24 127 13)) + 1 : Int) < 450) ∧ ∀ h26 : zH, h26 = sI h25 135 ((3 * (gI h24 127 13)) + 1) ((gI h25 127 16) - l1) →
    (inR ((3 * (gI h24 127 13)) + 2)) ∧ (¬ (gI h26 127 15) = 0 →
      (inR ((gI h26 127 15) - 1)) ∧ (0 ≤ ((gI h26 127 15) - 1 : Int)) ∧ (((gI h26 127 15) - 1 : Int) < 16) ∧ (0 ≤ ((3 * (gI h24 127 13)) + 2 : Int)) ∧ (((3 * (gI h24 127 13)) + 2 : Int) < 450) ∧ ∀ h27 : zH, h27 = sI h26 135 ((3 * (gI h24 127 13)) + 2) (gI h26 136 ((gI h26 127 15) - 1)) →
      (inR ((gI h27 127 13) + 1)) ∧ ∀ h28 : zH, h28 = sI h27 127 13 ((gI h27 127 13) + 1) →
      Q none h28) ∧
      (¬ (¬ (gI h26 127 15) = 0) →
      (0 ≤ ((3 * (gI h24 127 13)) + 2 : Int)) ∧ (((3 * (gI h24 127 13)) + 2 : Int) < 450) ∧ ∀ h29 : zH, h29 = sI h26 135 ((3 * (gI h24 127 13)) + 2) (-1) →
      (inR ((gI h29 127 13) + 1)) ∧ ∀ h30 : zH, h30 = sI h29 127 13 ((gI h29 127 13) + 1) →
      Q none h30))) : zK 150 94 [vR 127 111, vI l1, u2] [vI s0, vI s1, vR 127 111] h Q :=
  zwpe_W (cd := c150) rfl [15, 77, 94] 400 94 _ _ _ _ k
-- 151 SyntaxRulesModel.skipLayout()V
set_option maxRecDepth 100000 in
set_option maxHeartbeats 4000000 in
theorem k151_0 (h : zH) (Q : Option zV → zH → Prop) (k :
  ((gI h 127 18) = 0 →
    Q none h) ∧
    (¬ ((gI h 127 18) = 0) →
    zC1 149 [vR 127 111] h (fun v7 h7 =>
    (v7 = 32 →
      zK 151 34 [vR 127 111] [] h7 Q) ∧
      (¬ (v7 = 32) →
      zC1 149 [vR 127 111] h7 (fun v8 h8 =>
      (v8 = 10 →
        zK 151 34 [vR 127 111] [] h8 Q) ∧
        (¬ (v8 = 10) →
        zC1 149 [vR 127 111] h8 (fun v9 h9 =>
        (¬ v9 = 91 →
          Q none h9) ∧
          (¬ (¬ v9 = 91) →
          zK 151 34 [vR 127 111] [] h9 Q)))))))) : zK 151 0 [vR 127 111] [] h Q :=
  zwpe_W (cd := c151) rfl [0, 34] 400 0 _ _ _ _ k
set_option maxRecDepth 100000 in
set_option maxHeartbeats 4000000 in
theorem k151_34 (h : zH) (Q : Option zV → zH → Prop) (k :
  zC1 149 [vR 127 111] h (fun v10 h10 =>
  (¬ v10 = 91 →
    (inR ((gI h10 127 16) + 1)) ∧ ∀ h11 : zH, h11 = sI h10 127 16 ((gI h10 127 16) + 1) →
    zK 151 0 [vR 127 111] [] h11 Q) ∧
    (¬ (¬ v10 = 91) →
    zC0 150 [vR 127 111] h10 (fun h12 =>
    zK 151 0 [vR 127 111] [] h12 Q)))) : zK 151 34 [vR 127 111] [] h Q :=
  zwpe_W (cd := c151) rfl [0, 34] 400 34 _ _ _ _ k
-- 152 SyntaxRulesModel.readRow(ZI)I
set_option maxRecDepth 100000 in
set_option maxHeartbeats 4000000 in
theorem k152_0 (p1 : Int) (p2 : Int) (h : zH) (Q : Option zV → zH → Prop) (k :
  zK 152 5 [vR 127 111, vI p1, vI p2, vI (gI h 127 16)] [] h Q) : zK 152 0 [vR 127 111, vI p1, vI p2, vU] [] h Q :=
  zwpe_W (cd := c152) rfl [5, 39] 400 0 _ _ _ _ k
set_option maxRecDepth 100000 in
set_option maxHeartbeats 4000000 in
theorem k152_5 (l1 : Int) (l2 : Int) (l3 : Int) (h : zH) (Q : Option zV → zH → Prop) (k :
  ((gI h 127 18) = 0 →
    (inR ((gI h 127 16) - l3)) ∧ Q (some (vI ((gI h 127 16) - l3))) h) ∧
    (¬ ((gI h 127 18) = 0) →
    (l1 = 0 →
      zC1 149 [vR 127 111] h (fun v7 h7 =>
      zC1 145 [vI v7] h7 (fun v8 h8 =>
      (v8 = 0 →
        (inR ((gI h8 127 16) - l3)) ∧ Q (some (vI ((gI h8 127 16) - l3))) h8) ∧
        (¬ (v8 = 0) →
        zK 152 39 [vR 127 111, vI l1, vI l2, vI l3] [] h8 Q)))) ∧
      (¬ (l1 = 0) →
      zC1 149 [vR 127 111] h (fun v9 h9 =>
      zC1 144 [vI v9] h9 (fun v10 h10 =>
      (v10 = 0 →
        (inR ((gI h10 127 16) - l3)) ∧ Q (some (vI ((gI h10 127 16) - l3))) h10) ∧
        (¬ (v10 = 0) →
        zK 152 39 [vR 127 111, vI l1, vI l2, vI l3] [] h10 Q)))))) : zK 152 5 [vR 127 111, vI l1, vI l2, vI l3] [] h Q :=
  zwpe_W (cd := c152) rfl [5, 39] 400 5 _ _ _ _ k
set_option maxRecDepth 100000 in
set_option maxHeartbeats 4000000 in
theorem k152_39 (l1 : Int) (l2 : Int) (l3 : Int) (h : zH) (Q : Option zV → zH → Prop) (k :
  (inR ((gI h 127 16) - l3)) ∧ (¬ ((gI h 127 16) - l3) = l2 →
    (inR ((gI h 127 16) + 1)) ∧ ∀ h11 : zH, h11 = sI h 127 16 ((gI h 127 16) + 1) →
    zK 152 5 [vR 127 111, vI l1, vI l2, vI l3] [] h11 Q) ∧
    (¬ (¬ ((gI h 127 16) - l3) = l2) →
    zC0 148 [vR 127 111] h (fun h12 =>
    zK 152 5 [vR 127 111, vI l1, vI l2, vI l3] [] h12 Q))) : zK 152 39 [vR 127 111, vI l1, vI l2, vI l3] [] h Q :=
  zwpe_W (cd := c152) rfl [5, 39] 400 39 _ _ _ _ k
-- 153 SyntaxRulesModel.readNode()V
set_option maxRecDepth 100000 in
set_option maxHeartbeats 4000000 in
theorem k153_0 (h : zH) (Q : Option zV → zH → Prop) (k :
  zC1 149 [vR 127 111] h (fun v32 h32 =>
  zC1 144 [vI v32] h32 (fun v33 h33 =>
  (¬ v33 = 0 →
    zK 153 25 [vR 127 111, vI v32, vU, vU, vU] [] h33 Q) ∧
    (¬ (¬ v33 = 0) →
    zC1 145 [vI v32] h33 (fun v34 h34 =>
    (¬ v34 = 0 →
      zK 153 25 [vR 127 111, vI v32, vU, vU, vU] [] h34 Q) ∧
      (¬ (¬ v34 = 0) →
      (¬ v32 = 40 →
        zK 153 30 [vR 127 111, vI v32, vU, vU, vU] [vI 0] h34 Q) ∧
        (¬ (¬ v32 = 40) →
        zK 153 25 [vR 127 111, vI v32, vU, vU, vU] [] h34 Q))))))) : zK 153 0 [vR 127 111, vU, vU, vU, vU] [] h Q :=
  zwpe_W (cd := c153) rfl [25, 30, 77, 97, 127, 159, 199, 266, 342, 376, 389] 400 0 _ _ _ _ k
set_option maxRecDepth 100000 in
set_option maxHeartbeats 4000000 in
theorem k153_25 (l1 : Int) (u2 : zV) (u3 : zV) (u4 : zV) (h : zH) (Q : Option zV → zH → Prop) (k :
  zK 153 30 [vR 127 111, vI l1, u2, u3, u4] [vI 1] h Q) : zK 153 25 [vR 127 111, vI l1, u2, u3, u4] [] h Q :=
  zwpe_W (cd := c153) rfl [25, 30, 77, 97, 127, 159, 199, 266, 342, 376, 389] 400 25 _ _ _ _ k
set_option maxRecDepth 100000 in
set_option maxHeartbeats 4000000 in
theorem k153_30 (l1 : Int) (u2 : zV) (u3 : zV) (u4 : zV) (s0 : Int) (h : zH) (Q : Option zV → zH → Prop) (k :
  (s0 = 0 →
    zC0 148 [vR 127 111] h (fun h35 =>
    Q none h35)) ∧
    (¬ (s0 = 0) →
    ((gI h 127 11) = 60 →
      zC0 148 [vR 127 111] h (fun h36 =>
      Q none h36)) ∧
      (¬ ((gI h 127 11) = 60) →
      ((gI h 127 15) ≤ 0 →
        zK 153 77 [vR 127 111, vI l1, vI s0, u3, u4] [] h Q) ∧
        (¬ ((gI h 127 15) ≤ 0) →
        (inR ((gI h 127 15) - 1)) ∧ (0 ≤ ((gI h 127 15) - 1 : Int)) ∧ (((gI h 127 15) - 1 : Int) < 16) ∧ (inR (10 * (gI h 136 ((gI h 127 15) - 1)))) ∧ (inR ((10 * (gI h 136 ((gI h 127 15) - 1))) + 3)) ∧ (0 ≤ ((10 * (gI h 136 ((gI h 127 15) - 1))) + 3 : Int)) ∧ (((10 * (gI h 136 ((gI h 127 15) - 1))) + 3 : Int) < 600) ∧ ((gI h 134 ((10 * (gI h 136 ((gI h 127 15) - 1))) + 3)) = 12 →
          zC0 148 [vR 127 111] h (fun h37 =>
          Q none h37)) ∧
          (¬ ((gI h 134 ((10 * (gI h 136 ((gI h 127 15) - 1))) + 3)) = 12) →
          zK 153 77 [vR 127 111, vI l1, vI s0, u3, u4] [] h Q))))) : zK 153 30 [vR 127 111, vI l1, u2, u3, u4] [vI s0] h Q :=
  zwpe_W (cd := c153) rfl [25, 30, 77, 97, 127, 159, 199, 266, 342, 376, 389] 400 30 _ _ _ _ k
set_option maxRecDepth 100000 in
set_option maxHeartbeats 4000000 in
theorem k153_77 (l1 : Int) (u2 : zV) (u3 : zV) (u4 : zV) (h : zH) (Q : Option zV → zH → Prop) (k :
  (¬ l1 = 40 →
    zK 153 97 [vR 127 111, vI l1, u2, u3, u4] [] h Q) ∧
    (¬ (¬ l1 = 40) →
    (¬ (gI h 127 15) = 16 →
      zK 153 97 [vR 127 111, vI l1, u2, u3, u4] [] h Q) ∧
      (¬ (¬ (gI h 127 15) = 16) →
      zC0 148 [vR 127 111] h (fun h38 =>
      Q none h38)))) : zK 153 77 [vR 127 111, vI l1, u2, u3, u4] [] h Q :=
  zwpe_W (cd := c153) rfl [25, 30, 77, 97, 127, 159, 199, 266, 342, 376, 389] 400 77 _ _ _ _ k
set_option maxRecDepth 100000 in
set_option maxHeartbeats 4000000 in
theorem k153_97 (l1 : Int) (u2 : zV) (u3 : zV) (u4 : zV) (h : zH) (Q : Option zV → zH → Prop) (k :
  (inR (10 * (gI h 127 11))) ∧ (¬ (gI h 127 15) = 0 →
    (inR ((gI h 127 15) - 1)) ∧ (0 ≤ ((gI h 127 15) - 1 : Int)) ∧ (((gI h 127 15) - 1 : Int) < 16) ∧ zK 153 127 [vR 127 111, vI l1, u2, vI (10 * (gI h 127 11)), u4] [vI (gI h 136 ((gI h 127 15) - 1))] h Q) ∧
    (¬ (¬ (gI h 127 15) = 0) →
    zK 153 127 [vR 127 111, vI l1, u2, vI (10 * (gI h 127 11)), u4] [vI ((-1))] h Q)) : zK 153 97 [vR 127 111, vI l1, u2, u3, u4] [] h Q :=
  zwpe_W (cd := c153) rfl [25, 30, 77, 97, 127, 159, 199, 266, 342, 376, 389] 400 97 _ _ _ _ k
set_option maxRecDepth 100000 in
set_option maxHeartbeats 4000000 in
theorem k153_127 (l1 : Int) (u2 : zV) (l3 : Int) (u4 : zV) (s0 : Int) (h : zH) (Q : Option zV → zH → Prop) (k :
  (inR (l3 + 0)) ∧ zC1 145 [vI l1] h (fun v39 h39 =>
  (v39 = 0 →
    zC1 144 [vI l1] h39 (fun v40 h40 =>
    (v40 = 0 →
      zK 153 159 [vR 127 111, vI l1, u2, vI l3, vI s0] [vI 2, vI (l3 + 0), vR 134 60140] h40 Q) ∧
      (¬ (v40 = 0) →
      zK 153 159 [vR 127 111, vI l1, u2, vI l3, vI s0] [vI 1, vI (l3 + 0), vR 134 60140] h40 Q))) ∧
    (¬ (v39 = 0) →
    zK 153 159 [vR 127 111, vI l1, u2, vI l3, vI s0] [vI 0, vI (l3 + 0), vR 134 60140] h39 Q))) : zK 153 127 [vR 127 111, vI l1, u2, vI l3, u4] [vI s0] h Q :=
  zwpe_W (cd := c153) rfl [25, 30, 77, 97, 127, 159, 199, 266, 342, 376, 389] 400 127 _ _ _ _ k
set_option maxRecDepth 100000 in
set_option maxHeartbeats 4000000 in
theorem k153_159 (l1 : Int) (u2 : zV) (l3 : Int) (l4 : Int) (s0 : Int) (s1 : Int) (h : zH) (Q : Option zV → zH → Prop) (k :
  (0 ≤ (s1 : Int)) ∧ ((s1 : Int) < 600) ∧ ∀ h41 : zH, h41 = sI h 134 s1 s0 →
  (inR (l3 + 1)) ∧ (0 ≤ (l3 + 1 : Int)) ∧ ((l3 + 1 : Int) < 600) ∧ ∀ h42 : zH, h42 = sI h41 134 (l3 + 1) l4 →
  (inR (l3 + 2)) ∧ (¬ l4 = (-1) →
    (inR (10 * l4)) ∧ (inR ((10 * l4) + 3)) ∧ (0 ≤ ((10 * l4) + 3 : Int)) ∧ (((10 * l4) + 3 : Int) < 600) ∧ zK 153 199 [vR 127 111, vI l1, u2, vI l3, vI l4] [vI (gI h42 134 ((10 * l4) + 3)), vI (l3 + 2), vR 134 60140] h42 Q) ∧
    (¬ (¬ l4 = (-1)) →
    zK 153 199 [vR 127 111, vI l1, u2, vI l3, vI l4] [vI ((-1)), vI (l3 + 2), vR 134 60140] h42 Q)) : zK 153 159 [vR 127 111, vI l1, u2, vI l3, vI l4] [vI s0, vI s1, vR 134 60140] h Q :=
  zwpe_W (cd := c153) rfl [25, 30, 77, 97, 127, 159, 199, 266, 342, 376, 389] 400 159 _ _ _ _ k
set_option maxRecDepth 100000 in
set_option maxHeartbeats 4000000 in
theorem k153_199 (l1 : Int) (u2 : zV) (l3 : Int) (l4 : Int) (s0 : Int) (s1 : Int) (h : zH) (Q : Option zV → zH → Prop) (k :
  (0 ≤ (s1 : Int)) ∧ ((s1 : Int) < 600) ∧ ∀ h43 : zH, h43 = sI h 134 s1 s0 →
  (inR (l3 + 3)) ∧ (0 ≤ (l3 + 3 : Int)) ∧ ((l3 + 3 : Int) < 600) ∧ ∀ h44 : zH, h44 = sI h43 134 (l3 + 3) 0 →
  (inR (l3 + 4)) ∧ (0 ≤ (l3 + 4 : Int)) ∧ ((l3 + 4 : Int) < 600) ∧ ∀ h45 : zH, h45 = sI h44 134 (l3 + 4) (gI h44 127 16) →
  (inR (l3 + 6)) ∧ (0 ≤ (l3 + 6 : Int)) ∧ ((l3 + 6 : Int) < 600) ∧ ∀ h46 : zH, h46 = sI h45 134 (l3 + 6) 1 →
  (inR (l3 + 7)) ∧ (0 ≤ (l3 + 7 : Int)) ∧ ((l3 + 7 : Int) < 600) ∧ ∀ h47 : zH, h47 = sI h46 134 (l3 + 7) (gI h46 127 15) →
  (l4 = (-1) →
    zK 153 266 [vR 127 111, vI l1, u2, vI l3, vI l4] [] h47 Q) ∧
    (¬ (l4 = (-1)) →
    (inR (10 * l4)) ∧ (inR ((10 * l4) + 3)) ∧ (0 ≤ ((10 * l4) + 3 : Int)) ∧ (((10 * l4) + 3 : Int) < 600) ∧ (inR ((gI h47 134 ((10 * l4) + 3)) + 1)) ∧ (0 ≤ ((10 * l4) + 3 : Int)) ∧ (((10 * l4) + 3 : Int) < 600) ∧ ∀ h48 : zH, h48 = sI h47 134 ((10 * l4) + 3) ((gI h47 134 ((10 * l4) + 3)) + 1) →
    zK 153 266 [vR 127 111, vI l1, u2, vI l3, vI l4] [] h48 Q)) : zK 153 199 [vR 127 111, vI l1, u2, vI l3, vI l4] [vI s0, vI s1, vR 134 60140] h Q :=
  zwpe_W (cd := c153) rfl [25, 30, 77, 97, 127, 159, 199, 266, 342, 376, 389] 400 199 _ _ _ _ k
set_option maxRecDepth 100000 in
set_option maxHeartbeats 4000000 in
theorem k153_266 (l1 : Int) (u2 : zV) (l3 : Int) (u4 : zV) (h : zH) (Q : Option zV → zH → Prop) (k :
  (inR ((gI h 127 11) + 1)) ∧ ∀ h49 : zH, h49 = sI h 127 11 ((gI h 127 11) + 1) →
  (¬ l1 = 40 →
    zK 153 342 [vR 127 111, vI l1, u2, vI l3, u4] [] h49 Q) ∧
    (¬ (¬ l1 = 40) →
    (inR ((gI h49 127 11) - 1)) ∧ (0 ≤ (gI h49 127 15 : Int)) ∧ ((gI h49 127 15 : Int) < 16) ∧ ∀ h50 : zH, h50 = sI h49 136 (gI h49 127 15) ((gI h49 127 11) - 1) →
    (inR ((gI h50 127 15) + 1)) ∧ ∀ h51 : zH, h51 = sI h50 127 15 ((gI h50 127 15) + 1) →
    (inR ((gI h51 127 16) + 1)) ∧ ∀ h52 : zH, h52 = sI h51 127 16 ((gI h51 127 16) + 1) →
    zC0 151 [vR 127 111] h52 (fun h53 =>
    ((gI h53 127 18) = 0 →
      zK 153 342 [vR 127 111, vI l1, u2, vI l3, u4] [] h53 Q) ∧
      (¬ ((gI h53 127 18) = 0) →
      zC1 149 [vR 127 111] h53 (fun v54 h54 =>
      zC1 144 [vI v54] h54 (fun v55 h55 =>
      (¬ v55 = 0 →
        zK 153 342 [vR 127 111, vI l1, u2, vI l3, u4] [] h55 Q) ∧
        (¬ (¬ v55 = 0) →
        zC0 148 [vR 127 111] h55 (fun h56 =>
        zK 153 342 [vR 127 111, vI l1, u2, vI l3, u4] [] h56 Q)))))))) : zK 153 266 [vR 127 111, vI l1, u2, vI l3, u4] [] h Q :=
  zwpe_W (cd := c153) rfl [25, 30, 77, 97, 127, 159, 199, 266, 342, 376, 389] 400 266 _ _ _ _ k
set_option maxRecDepth 100000 in
set_option maxHeartbeats 4000000 in
theorem k153_342 (l1 : Int) (u2 : zV) (l3 : Int) (u4 : zV) (h : zH) (Q : Option zV → zH → Prop) (k :
  (inR (l3 + 8)) ∧ (0 ≤ (l3 + 8 : Int)) ∧ ((l3 + 8 : Int) < 600) ∧ ∀ h57 : zH, h57 = sI h 134 (l3 + 8) (gI h 127 16) →
  (inR (l3 + 9)) ∧ zC1 145 [vI l1] h57 (fun v58 h58 =>
  (¬ v58 = 0 →
    zK 153 376 [vR 127 111, vI l1, u2, vI l3, u4] [vI 0, vR 127 111, vI (l3 + 9), vR 134 60140] h58 Q) ∧
    (¬ (¬ v58 = 0) →
    zK 153 376 [vR 127 111, vI l1, u2, vI l3, u4] [vI 1, vR 127 111, vI (l3 + 9), vR 134 60140] h58 Q))) : zK 153 342 [vR 127 111, vI l1, u2, vI l3, u4] [] h Q :=
  zwpe_W (cd := c153) rfl [25, 30, 77, 97, 127, 159, 199, 266, 342, 376, 389] 400 342 _ _ _ _ k
set_option maxRecDepth 100000 in
set_option maxHeartbeats 4000000 in
theorem k153_376 (l1 : Int) (u2 : zV) (l3 : Int) (u4 : zV) (s0 : Int) (s2 : Int) (h : zH) (Q : Option zV → zH → Prop) (k :
  zC1 145 [vI l1] h (fun v59 h59 =>
  (v59 = 0 →
    zK 153 389 [vR 127 111, vI l1, u2, vI l3, u4] [vI 8, vI s0, vR 127 111, vI s2, vR 134 60140] h59 Q) ∧
    (¬ (v59 = 0) →
    zK 153 389 [vR 127 111, vI l1, u2, vI l3, u4] [vI 4, vI s0, vR 127 111, vI s2, vR 134 60140] h59 Q))) : zK 153 376 [vR 127 111, vI l1, u2, vI l3, u4] [vI s0, vR 127 111, vI s2, vR 134 60140] h Q :=
  zwpe_W (cd := c153) rfl [25, 30, 77, 97, 127, 159, 199, 266, 342, 376, 389] 400 376 _ _ _ _ k
set_option maxRecDepth 100000 in
set_option maxHeartbeats 4000000 in
theorem k153_389 (u1 : zV) (u2 : zV) (l3 : Int) (u4 : zV) (s0 : Int) (s1 : Int) (s3 : Int) (h : zH) (Q : Option zV → zH → Prop) (k :
  zC1 152 [vR 127 111, vI s1, vI s0] h (fun v60 h60 =>
  (0 ≤ (s3 : Int)) ∧ ((s3 : Int) < 600) ∧ ∀ h61 : zH, h61 = sI h60 134 s3 v60 →
  (inR (l3 + 5)) ∧ (0 ≤ (l3 + 5 : Int)) ∧ ((l3 + 5 : Int) < 600) ∧ ∀ h62 : zH, h62 = sI h61 134 (l3 + 5) (gI h61 127 16) →
  Q none h62)) : zK 153 389 [vR 127 111, u1, u2, vI l3, u4] [vI s0, vI s1, vR 127 111, vI s3, vR 134 60140] h Q :=
  zwpe_W (cd := c153) rfl [25, 30, 77, 97, 127, 159, 199, 266, 342, 376, 389] 400 389 _ _ _ _ k
-- 154 SyntaxRulesModel.close()V
set_option maxRecDepth 100000 in
set_option maxHeartbeats 4000000 in
theorem k154_0 (h : zH) (Q : Option zV → zH → Prop) (k :
  (inR ((gI h 127 15) - 1)) ∧ ∀ h5 : zH, h5 = sI h 127 15 ((gI h 127 15) - 1) →
  (0 ≤ (gI h5 127 15 : Int)) ∧ ((gI h5 127 15 : Int) < 16) ∧ (inR (10 * (gI h5 136 (gI h5 127 15)))) ∧ (inR ((gI h5 127 16) + 1)) ∧ ∀ h6 : zH, h6 = sI h5 127 16 ((gI h5 127 16) + 1) →
  (inR ((10 * (gI h5 136 (gI h5 127 15))) + 5)) ∧ (0 ≤ ((10 * (gI h5 136 (gI h5 127 15))) + 5 : Int)) ∧ (((10 * (gI h5 136 (gI h5 127 15))) + 5 : Int) < 600) ∧ ∀ h7 : zH, h7 = sI h6 134 ((10 * (gI h5 136 (gI h5 127 15))) + 5) (gI h6 127 16) →
  (inR ((10 * (gI h5 136 (gI h5 127 15))) + 6)) ∧ (0 ≤ (gI h7 127 15 : Int)) ∧ ((gI h7 127 15 : Int) < 16) ∧ (inR ((gI h7 127 11) - (gI h7 136 (gI h7 127 15)))) ∧ (0 ≤ ((10 * (gI h5 136 (gI h5 127 15))) + 6 : Int)) ∧ (((10 * (gI h5 136 (gI h5 127 15))) + 6 : Int) < 600) ∧ ∀ h8 : zH, h8 = sI h7 134 ((10 * (gI h5 136 (gI h5 127 15))) + 6) ((gI h7 127 11) - (gI h7 136 (gI h7 127 15))) →
  Q none h8) : zK 154 0 [vR 127 111, vU] [] h Q :=
  zwpe_W (cd := c154) rfl [] 400 0 _ _ _ _ k
-- 155 SyntaxRulesModel.parses()Z
set_option maxRecDepth 100000 in
set_option maxHeartbeats 4000000 in
theorem k155_0 (h : zH) (Q : Option zV → zH → Prop) (k :
  ∀ h18 : zH, h18 = sI h 127 16 0 →
  ((1 : Int) = 0 ∨ (1 : Int) = 1) ∧ ∀ h19 : zH, h19 = sI h18 127 18 1 →
  ∀ h20 : zH, h20 = sI h19 127 11 0 →
  ∀ h21 : zH, h21 = sI h20 127 13 0 →
  ∀ h22 : zH, h22 = sI h21 127 15 0 →
  zC0 151 [vR 127 111] h22 (fun h23 =>
  zK 155 29 [vR 127 111] [] h23 Q)) : zK 155 0 [vR 127 111] [] h Q :=
  zwpe_W (cd := c155) rfl [29, 70, 102] 400 0 _ _ _ _ k
set_option maxRecDepth 100000 in
set_option maxHeartbeats 4000000 in
theorem k155_29 (h : zH) (Q : Option zV → zH → Prop) (k :
  ((gI h 127 18) = 0 →
    zK 155 102 [vR 127 111] [] h Q) ∧
    (¬ ((gI h 127 18) = 0) →
    ((gI h 127 9) ≤ (gI h 127 16) →
      zK 155 102 [vR 127 111] [] h Q) ∧
      (¬ ((gI h 127 9) ≤ (gI h 127 16)) →
      ((gI h 127 15) ≤ 0 →
        zK 155 70 [vR 127 111] [] h Q) ∧
        (¬ ((gI h 127 15) ≤ 0) →
        zC1 149 [vR 127 111] h (fun v24 h24 =>
        (¬ v24 = 41 →
          zK 155 70 [vR 127 111] [] h24 Q) ∧
          (¬ (¬ v24 = 41) →
          zC0 154 [vR 127 111] h24 (fun h25 =>
          zC0 151 [vR 127 111] h25 (fun h26 =>
          zK 155 29 [vR 127 111] [] h26 Q)))))))) : zK 155 29 [vR 127 111] [] h Q :=
  zwpe_W (cd := c155) rfl [29, 70, 102] 400 29 _ _ _ _ k
set_option maxRecDepth 100000 in
set_option maxHeartbeats 4000000 in
theorem k155_70 (h : zH) (Q : Option zV → zH → Prop) (k :
  (¬ (gI h 127 15) = 0 →
    zC0 153 [vR 127 111] h (fun h27 =>
    zC0 151 [vR 127 111] h27 (fun h28 =>
    zK 155 29 [vR 127 111] [] h28 Q))) ∧
    (¬ (¬ (gI h 127 15) = 0) →
    ((gI h 127 11) ≤ 0 →
      zC0 153 [vR 127 111] h (fun h29 =>
      zC0 151 [vR 127 111] h29 (fun h30 =>
      zK 155 29 [vR 127 111] [] h30 Q))) ∧
      (¬ ((gI h 127 11) ≤ 0) →
      zC0 148 [vR 127 111] h (fun h31 =>
      zC0 151 [vR 127 111] h31 (fun h32 =>
      zK 155 29 [vR 127 111] [] h32 Q))))) : zK 155 70 [vR 127 111] [] h Q :=
  zwpe_W (cd := c155) rfl [29, 70, 102] 400 70 _ _ _ _ k
set_option maxRecDepth 100000 in
set_option maxHeartbeats 4000000 in
theorem k155_102 (h : zH) (Q : Option zV → zH → Prop) (k :
  ((gI h 127 18) = 0 →
    ((gI h 127 18 : Int) = 0 ∨ (gI h 127 18 : Int) = 1) ∧ Q (some (vI (gI h 127 18))) h) ∧
    (¬ ((gI h 127 18) = 0) →
    (0 < (gI h 127 15) →
      zC0 148 [vR 127 111] h (fun h33 =>
      ((gI h33 127 18 : Int) = 0 ∨ (gI h33 127 18 : Int) = 1) ∧ Q (some (vI (gI h33 127 18))) h33)) ∧
      (¬ (0 < (gI h 127 15)) →
      (¬ (gI h 127 11) = 0 →
        ((gI h 127 18 : Int) = 0 ∨ (gI h 127 18 : Int) = 1) ∧ Q (some (vI (gI h 127 18))) h) ∧
        (¬ (¬ (gI h 127 11) = 0) →
        zC0 148 [vR 127 111] h (fun h34 =>
        ((gI h34 127 18 : Int) = 0 ∨ (gI h34 127 18 : Int) = 1) ∧ Q (some (vI (gI h34 127 18))) h34))))) : zK 155 102 [vR 127 111] [] h Q :=
  zwpe_W (cd := c155) rfl [29, 70, 102] 400 102 _ _ _ _ k
-- 156 SyntaxRulesModel.parseRow()V
set_option maxRecDepth 100000 in
set_option maxHeartbeats 4000000 in
theorem k156_0 (h : zH) (Q : Option zV → zH → Prop) (k :
  (0 ≤ (300 : Int)) ∧ ((300 : Int) < 2709) ∧ ∀ h8 : zH, h8 = sI h 127 9 (gI h 128 300) →
  zK 156 14 [vR 127 111, vI 0] [] h8 Q) : zK 156 0 [vR 127 111, vU] [] h Q :=
  zwpe_W (cd := c156) rfl [14, 63, 94] 400 0 _ _ _ _ k
set_option maxRecDepth 100000 in
set_option maxHeartbeats 4000000 in
theorem k156_14 (l1 : Int) (h : zH) (Q : Option zV → zH → Prop) (k :
  ((gI h 127 9) ≤ l1 →
    zC1 155 [vR 127 111] h (fun v9 h9 =>
    ∀ h10 : zH, h10 = sI h9 127 20 (gI h9 127 11) →
    ∀ h11 : zH, h11 = sI h10 127 22 (gI h10 127 13) →
    zK 156 63 [vR 127 111, vI 0] [] h11 Q)) ∧
    (¬ ((gI h 127 9) ≤ l1) →
    (0 ≤ (l1 : Int)) ∧ ((l1 : Int) < 2709) ∧ (0 ≤ (l1 : Int)) ∧ ((l1 : Int) < 302) ∧ ∀ h12 : zH, h12 = sI h 133 l1 (gI h 128 l1) →
    (inR (l1 + 1)) ∧ zK 156 14 [vR 127 111, vI (l1 + 1)] [] h12 Q)) : zK 156 14 [vR 127 111, vI l1] [] h Q :=
  zwpe_W (cd := c156) rfl [14, 63, 94] 400 14 _ _ _ _ k
set_option maxRecDepth 100000 in
set_option maxHeartbeats 4000000 in
theorem k156_63 (l1 : Int) (h : zH) (Q : Option zV → zH → Prop) (k :
  (inR (10 * (gI h 127 20))) ∧ ((10 * (gI h 127 20)) ≤ l1 →
    zK 156 94 [vR 127 111, vI 0] [] h Q) ∧
    (¬ ((10 * (gI h 127 20)) ≤ l1) →
    (0 ≤ (l1 : Int)) ∧ ((l1 : Int) < 600) ∧ (0 ≤ (l1 : Int)) ∧ ((l1 : Int) < 600) ∧ ∀ h13 : zH, h13 = sI h 137 l1 (gI h 134 l1) →
    (inR (l1 + 1)) ∧ zK 156 63 [vR 127 111, vI (l1 + 1)] [] h13 Q)) : zK 156 63 [vR 127 111, vI l1] [] h Q :=
  zwpe_W (cd := c156) rfl [14, 63, 94] 400 63 _ _ _ _ k
set_option maxRecDepth 100000 in
set_option maxHeartbeats 4000000 in
theorem k156_94 (l1 : Int) (h : zH) (Q : Option zV → zH → Prop) (k :
  (inR (3 * (gI h 127 22))) ∧ ((3 * (gI h 127 22)) ≤ l1 →
    Q none h) ∧
    (¬ ((3 * (gI h 127 22)) ≤ l1) →
    (0 ≤ (l1 : Int)) ∧ ((l1 : Int) < 450) ∧ (0 ≤ (l1 : Int)) ∧ ((l1 : Int) < 450) ∧ ∀ h14 : zH, h14 = sI h 138 l1 (gI h 135 l1) →
    (inR (l1 + 1)) ∧ zK 156 94 [vR 127 111, vI (l1 + 1)] [] h14 Q)) : zK 156 94 [vR 127 111, vI l1] [] h Q :=
  zwpe_W (cd := c156) rfl [14, 63, 94] 400 94 _ _ _ _ k
-- 157 SyntaxRulesModel.isNode(I)Z
set_option maxRecDepth 100000 in
set_option maxHeartbeats 4000000 in
theorem k157_0 (p1 : Int) (h : zH) (Q : Option zV → zH → Prop) (k :
  (inL ((gI h 127 20) - 1)) ∧ zC1 141 [vL p1, vL 0, vL ((gI h 127 20) - 1)] h (fun v2 h2 =>
  ((v2 : Int) = 0 ∨ (v2 : Int) = 1) ∧ Q (some (vI v2)) h2)) : zK 157 0 [vR 127 111, vI p1] [] h Q :=
  zwpe_W (cd := c157) rfl [] 400 0 _ _ _ _ k
-- 158 SyntaxRulesModel.of(II)I
set_option maxRecDepth 100000 in
set_option maxHeartbeats 4000000 in
theorem k158_0 (p1 : Int) (p2 : Int) (h : zH) (Q : Option zV → zH → Prop) (k :
  (inR (10 * p1)) ∧ (inR ((10 * p1) + p2)) ∧ (0 ≤ ((10 * p1) + p2 : Int)) ∧ (((10 * p1) + p2 : Int) < 600) ∧ Q (some (vI (gI h 137 ((10 * p1) + p2)))) h) : zK 158 0 [vR 127 111, vI p1, vI p2] [] h Q :=
  zwpe_W (cd := c158) rfl [] 400 0 _ _ _ _ k
-- 159 SyntaxRulesModel.remember([I)V
set_option maxRecDepth 100000 in
set_option maxHeartbeats 4000000 in
theorem k159_0 (p1 : Nat) (h : zH) (Q : Option zV → zH → Prop) (k :
  (¬ (gI h 127 5) = 8 →
    zK 159 57 [vR 127 111, vR p1 140, vI 0] [] h Q) ∧
    (¬ (¬ (gI h 127 5) = 8) →
    (inR ((gI h 127 5) - 1)) ∧ ∀ h5 : zH, h5 = sI h 127 5 ((gI h 127 5) - 1) →
    zK 159 21 [vR 127 111, vR p1 140, vI 0] [] h5 Q)) : zK 159 0 [vR 127 111, vR p1 140, vU] [] h Q :=
  zwpe_W (cd := c159) rfl [21, 57] 400 0 _ _ _ _ k
set_option maxRecDepth 100000 in
set_option maxHeartbeats 4000000 in
theorem k159_21 (a1 : Nat) (l2 : Int) (h : zH) (Q : Option zV → zH → Prop) (k :
  (inR (301 * (gI h 127 5))) ∧ ((301 * (gI h 127 5)) ≤ l2 →
    zK 159 57 [vR 127 111, vR a1 140, vI 0] [] h Q) ∧
    (¬ ((301 * (gI h 127 5)) ≤ l2) →
    (inR (l2 + 301)) ∧ (0 ≤ (l2 + 301 : Int)) ∧ ((l2 + 301 : Int) < 2408) ∧ (0 ≤ (l2 : Int)) ∧ ((l2 : Int) < 2408) ∧ ∀ h6 : zH, h6 = sI h 131 l2 (gI h 131 (l2 + 301)) →
    (inR (l2 + 1)) ∧ zK 159 21 [vR 127 111, vR a1 140, vI (l2 + 1)] [] h6 Q)) : zK 159 21 [vR 127 111, vR a1 140, vI l2] [] h Q :=
  zwpe_W (cd := c159) rfl [21, 57] 400 21 _ _ _ _ k
set_option maxRecDepth 100000 in
set_option maxHeartbeats 4000000 in
theorem k159_57 (a1 : Nat) (l2 : Int) (h : zH) (Q : Option zV → zH → Prop) (k :
  (301 ≤ l2 →
    (inR ((gI h 127 5) + 1)) ∧ ∀ h7 : zH, h7 = sI h 127 5 ((gI h 127 5) + 1) →
    Q none h7) ∧
    (¬ (301 ≤ l2) →
    (inR (301 * (gI h 127 5))) ∧ (inR ((301 * (gI h 127 5)) + l2)) ∧ (0 ≤ (l2 : Int)) ∧ ((l2 : Int) < Int.ofNat (ln h a1)) ∧ (0 ≤ ((301 * (gI h 127 5)) + l2 : Int)) ∧ (((301 * (gI h 127 5)) + l2 : Int) < 2408) ∧ ∀ h8 : zH, h8 = sI h 131 ((301 * (gI h 127 5)) + l2) (gI h a1 l2) →
    (inR (l2 + 1)) ∧ zK 159 57 [vR 127 111, vR a1 140, vI (l2 + 1)] [] h8 Q)) : zK 159 57 [vR 127 111, vR a1 140, vI l2] [] h Q :=
  zwpe_W (cd := c159) rfl [21, 57] 400 57 _ _ _ _ k
-- 160 SyntaxRulesModel.become()V
set_option maxRecDepth 100000 in
set_option maxHeartbeats 4000000 in
theorem k160_0 (h : zH) (Q : Option zV → zH → Prop) (k :
  zK 160 2 [vR 127 111, vI 0] [] h Q) : zK 160 0 [vR 127 111, vU] [] h Q :=
  zwpe_W (cd := c160) rfl [2] 400 0 _ _ _ _ k
set_option maxRecDepth 100000 in
set_option maxHeartbeats 4000000 in
theorem k160_2 (l1 : Int) (h : zH) (Q : Option zV → zH → Prop) (k :
  (300 ≤ l1 →
    (0 ≤ (300 : Int)) ∧ ((300 : Int) < 2709) ∧ ∀ h5 : zH, h5 = sI h 128 300 (gI h 127 9) →
    zC0 156 [vR 127 111] h5 (fun h6 =>
    Q none h6)) ∧
    (¬ (300 ≤ l1) →
    ((gI h 127 9) ≤ l1 →
      (0 ≤ (l1 : Int)) ∧ ((l1 : Int) < 2709) ∧ ∀ h7 : zH, h7 = sI h 128 l1 0 →
      (inR (l1 + 1)) ∧ zK 160 2 [vR 127 111, vI (l1 + 1)] [] h7 Q) ∧
      (¬ ((gI h 127 9) ≤ l1) →
      (0 ≤ (l1 : Int)) ∧ ((l1 : Int) < 302) ∧ (0 ≤ (l1 : Int)) ∧ ((l1 : Int) < 2709) ∧ ∀ h8 : zH, h8 = sI h 128 l1 (gI h 133 l1) →
      (inR (l1 + 1)) ∧ zK 160 2 [vR 127 111, vI (l1 + 1)] [] h8 Q))) : zK 160 2 [vR 127 111, vI l1] [] h Q :=
  zwpe_W (cd := c160) rfl [2] 400 2 _ _ _ _ k
-- 161 SyntaxRulesModel.takeText()V
set_option maxRecDepth 100000 in
set_option maxHeartbeats 4000000 in
theorem k161_0 (h : zH) (Q : Option zV → zH → Prop) (k :
  ∀ h4 : zH, h4 = sI h 127 9 (gI h 127 7) →
  zK 161 10 [vR 127 111, vI 0] [] h4 Q) : zK 161 0 [vR 127 111, vU] [] h Q :=
  zwpe_W (cd := c161) rfl [10] 400 0 _ _ _ _ k
set_option maxRecDepth 100000 in
set_option maxHeartbeats 4000000 in
theorem k161_10 (l1 : Int) (h : zH) (Q : Option zV → zH → Prop) (k :
  ((gI h 127 7) ≤ l1 →
    ∀ h5 : zH, h5 = sI h 127 7 0 →
    Q none h5) ∧
    (¬ ((gI h 127 7) ≤ l1) →
    (0 ≤ (l1 : Int)) ∧ ((l1 : Int) < 300) ∧ (0 ≤ (l1 : Int)) ∧ ((l1 : Int) < 302) ∧ ∀ h6 : zH, h6 = sI h 133 l1 (iAnd (gI h 132 l1) 255) →
    (inR (l1 + 1)) ∧ zK 161 10 [vR 127 111, vI (l1 + 1)] [] h6 Q)) : zK 161 10 [vR 127 111, vI l1] [] h Q :=
  zwpe_W (cd := c161) rfl [10] 400 10 _ _ _ _ k
-- 162 SyntaxRulesModel.source()I
set_option maxRecDepth 100000 in
set_option maxHeartbeats 4000000 in
theorem k162_0 (h : zH) (Q : Option zV → zH → Prop) (k :
  ∀ h6 : zH, h6 = sI h 127 0 0 →
  zC0 161 [vR 127 111] h6 (fun h7 =>
  zC1 155 [vR 127 111] h7 (fun v8 h8 =>
  (¬ v8 = 0 →
    zC0 159 [vR 127 111, vR 128 140] h8 (fun h9 =>
    zC0 160 [vR 127 111] h9 (fun h10 =>
    Q (some (vI (gI h10 127 20))) h10))) ∧
    (¬ (¬ v8 = 0) →
    (inR ((-1000) - (gI h8 127 17))) ∧ Q (some (vI ((-1000) - (gI h8 127 17)))) h8)))) : zK 162 0 [vR 127 111] [] h Q :=
  zwpe_W (cd := c162) rfl [] 400 0 _ _ _ _ k
-- 163 SyntaxRulesModel.peek()I
set_option maxRecDepth 100000 in
set_option maxHeartbeats 4000000 in
theorem k163_0 (h : zH) (Q : Option zV → zH → Prop) (k :
  zC1 149 [vR 127 111] h (fun v4 h4 =>
  (¬ v4 = 32 →
    zC1 149 [vR 127 111] h4 (fun v5 h5 =>
    Q (some (vI v5)) h5)) ∧
    (¬ (¬ v4 = 32) →
    (inR ((gI h4 127 16) + 1)) ∧ ∀ h6 : zH, h6 = sI h4 127 16 ((gI h4 127 16) + 1) →
    zK 163 0 [vR 127 111] [] h6 Q))) : zK 163 0 [vR 127 111] [] h Q :=
  zwpe_W (cd := c163) rfl [0] 400 0 _ _ _ _ k
-- 164 SyntaxRulesModel.put(III)I
set_option maxRecDepth 100000 in
set_option maxHeartbeats 4000000 in
theorem k164_0 (p1 : Int) (p2 : Int) (p3 : Int) (h : zH) (Q : Option zV → zH → Prop) (k :
  (inR (246 * (gI h 127 32))) ∧ (0 ≤ (gI h 127 32 : Int)) ∧ ((gI h 127 32 : Int) < 2) ∧ (inR (6 * (gI h 142 (gI h 127 32)))) ∧ (inR ((246 * (gI h 127 32)) + (6 * (gI h 142 (gI h 127 32))))) ∧ (0 ≤ ((246 * (gI h 127 32)) + (6 * (gI h 142 (gI h 127 32))) : Int)) ∧ (((246 * (gI h 127 32)) + (6 * (gI h 142 (gI h 127 32))) : Int) < 492) ∧ ∀ h8 : zH, h8 = sI h 141 ((246 * (gI h 127 32)) + (6 * (gI h 142 (gI h 127 32)))) p1 →
  (inR (((246 * (gI h 127 32)) + (6 * (gI h 142 (gI h 127 32)))) + 1)) ∧ (0 ≤ (((246 * (gI h 127 32)) + (6 * (gI h 142 (gI h 127 32)))) + 1 : Int)) ∧ ((((246 * (gI h 127 32)) + (6 * (gI h 142 (gI h 127 32)))) + 1 : Int) < 492) ∧ ∀ h9 : zH, h9 = sI h8 141 (((246 * (gI h 127 32)) + (6 * (gI h 142 (gI h 127 32)))) + 1) p2 →
  (inR (((246 * (gI h 127 32)) + (6 * (gI h 142 (gI h 127 32)))) + 2)) ∧ (0 ≤ (((246 * (gI h 127 32)) + (6 * (gI h 142 (gI h 127 32)))) + 2 : Int)) ∧ ((((246 * (gI h 127 32)) + (6 * (gI h 142 (gI h 127 32)))) + 2 : Int) < 492) ∧ ∀ h10 : zH, h10 = sI h9 141 (((246 * (gI h 127 32)) + (6 * (gI h 142 (gI h 127 32)))) + 2) p3 →
  (inR (((246 * (gI h 127 32)) + (6 * (gI h 142 (gI h 127 32)))) + 3)) ∧ (0 ≤ (((246 * (gI h 127 32)) + (6 * (gI h 142 (gI h 127 32)))) + 3 : Int)) ∧ ((((246 * (gI h 127 32)) + (6 * (gI h 142 (gI h 127 32)))) + 3 : Int) < 492) ∧ ∀ h11 : zH, h11 = sI h10 141 (((246 * (gI h 127 32)) + (6 * (gI h 142 (gI h 127 32)))) + 3) 0 →
  (inR (((246 * (gI h 127 32)) + (6 * (gI h 142 (gI h 127 32)))) + 4)) ∧ (0 ≤ (((246 * (gI h 127 32)) + (6 * (gI h 142 (gI h 127 32)))) + 4 : Int)) ∧ ((((246 * (gI h 127 32)) + (6 * (gI h 142 (gI h 127 32)))) + 4 : Int) < 492) ∧ ∀ h12 : zH, h12 = sI h11 141 (((246 * (gI h 127 32)) + (6 * (gI h 142 (gI h 127 32)))) + 4) 0 →
  (inR (((246 * (gI h 127 32)) + (6 * (gI h 142 (gI h 127 32)))) + 5)) ∧ (0 ≤ (((246 * (gI h 127 32)) + (6 * (gI h 142 (gI h 127 32)))) + 5 : Int)) ∧ ((((246 * (gI h 127 32)) + (6 * (gI h 142 (gI h 127 32)))) + 5 : Int) < 492) ∧ ∀ h13 : zH, h13 = sI h12 141 (((246 * (gI h 127 32)) + (6 * (gI h 142 (gI h 127 32)))) + 5) 0 →
  (0 ≤ (gI h13 127 32 : Int)) ∧ ((gI h13 127 32 : Int) < 2) ∧ (inR ((gI h13 142 (gI h13 127 32)) + 1)) ∧ (0 ≤ (gI h13 127 32 : Int)) ∧ ((gI h13 127 32 : Int) < 2) ∧ ∀ h14 : zH, h14 = sI h13 142 (gI h13 127 32) ((gI h13 142 (gI h13 127 32)) + 1) →
  Q (some (vI ((246 * (gI h 127 32)) + (6 * (gI h 142 (gI h 127 32)))))) h14) : zK 164 0 [vR 127 111, vI p1, vI p2, vI p3, vU] [] h Q :=
  zwpe_W (cd := c164) rfl [] 400 0 _ _ _ _ k
-- 165 SyntaxRulesModel.readName(II)V
set_option maxRecDepth 100000 in
set_option maxHeartbeats 4000000 in
theorem k165_0 (p1 : Int) (p2 : Int) (h : zH) (Q : Option zV → zH → Prop) (k :
  zC1 164 [vR 127 111, vI p1, vI p2, vI 0] h (fun v11 h11 =>
  (inR (v11 + 3)) ∧ (0 ≤ (v11 + 3 : Int)) ∧ ((v11 + 3 : Int) < 492) ∧ ∀ h12 : zH, h12 = sI h11 141 (v11 + 3) (gI h11 127 16) →
  (inR (v11 + 4)) ∧ (p1 = 4 →
    (¬ p1 = 4 →
      zC1 152 [vR 127 111, vI 0, vI 8] h12 (fun v13 h13 =>
      (0 ≤ (v11 + 4 : Int)) ∧ ((v11 + 4 : Int) < 492) ∧ ∀ h14 : zH, h14 = sI h13 141 (v11 + 4) v13 →
      Q none h14)) ∧
      (¬ (¬ p1 = 4) →
      zC1 152 [vR 127 111, vI 0, vI 4] h12 (fun v15 h15 =>
      (0 ≤ (v11 + 4 : Int)) ∧ ((v11 + 4 : Int) < 492) ∧ ∀ h16 : zH, h16 = sI h15 141 (v11 + 4) v15 →
      Q none h16))) ∧
    (¬ (p1 = 4) →
    (¬ p1 = 4 →
      zC1 152 [vR 127 111, vI 1, vI 8] h12 (fun v17 h17 =>
      (0 ≤ (v11 + 4 : Int)) ∧ ((v11 + 4 : Int) < 492) ∧ ∀ h18 : zH, h18 = sI h17 141 (v11 + 4) v17 →
      Q none h18)) ∧
      (¬ (¬ p1 = 4) →
      zC1 152 [vR 127 111, vI 1, vI 4] h12 (fun v19 h19 =>
      (0 ≤ (v11 + 4 : Int)) ∧ ((v11 + 4 : Int) < 492) ∧ ∀ h20 : zH, h20 = sI h19 141 (v11 + 4) v19 →
      Q none h20))))) : zK 165 0 [vR 127 111, vI p1, vI p2, vU] [] h Q :=
  zwpe_W (cd := c165) rfl [] 400 0 _ _ _ _ k
-- 166 SyntaxRulesModel.readHole(I)I
set_option maxRecDepth 100000 in
set_option maxHeartbeats 4000000 in
theorem k166_0 (p1 : Int) (h : zH) (Q : Option zV → zH → Prop) (k :
  (inR ((gI h 127 16) + 1)) ∧ ∀ h9 : zH, h9 = sI h 127 16 ((gI h 127 16) + 1) →
  zC1 149 [vR 127 111] h9 (fun v10 h10 =>
  zC1 141 [vL v10, vL 65, vL 90] h10 (fun v11 h11 =>
  (v11 = 0 →
    zC0 148 [vR 127 111] h11 (fun h12 =>
    Q (some (vI 0)) h12)) ∧
    (¬ (v11 = 0) →
    (inR (v10 - 65)) ∧ (0 ≤ (v10 - 65 : Int)) ∧ ((v10 - 65 : Int) < 26) ∧ ((gI h11 143 (v10 - 65)) = p1 →
      zK 166 68 [vR 127 111, vI p1, vI v10] [] h11 Q) ∧
      (¬ ((gI h11 143 (v10 - 65)) = p1) →
      ((gI h11 127 32) = 1 →
        zC0 148 [vR 127 111] h11 (fun h13 =>
        Q (some (vI 0)) h13)) ∧
        (¬ ((gI h11 127 32) = 1) →
        (inR (v10 - 65)) ∧ (0 ≤ (v10 - 65 : Int)) ∧ ((v10 - 65 : Int) < 26) ∧ ((gI h11 143 (v10 - 65)) = 0 →
          zK 166 68 [vR 127 111, vI p1, vI v10] [] h11 Q) ∧
          (¬ ((gI h11 143 (v10 - 65)) = 0) →
          zC0 148 [vR 127 111] h11 (fun h14 =>
          Q (some (vI 0)) h14)))))))) : zK 166 0 [vR 127 111, vI p1, vU] [] h Q :=
  zwpe_W (cd := c166) rfl [68] 400 0 _ _ _ _ k
set_option maxRecDepth 100000 in
set_option maxHeartbeats 4000000 in
theorem k166_68 (l1 : Int) (l2 : Int) (h : zH) (Q : Option zV → zH → Prop) (k :
  (inR (l2 - 65)) ∧ (0 ≤ (l2 - 65 : Int)) ∧ ((l2 - 65 : Int) < 26) ∧ ∀ h15 : zH, h15 = sI h 143 (l2 - 65) l1 →
  (inR ((gI h15 127 16) + 1)) ∧ ∀ h16 : zH, h16 = sI h15 127 16 ((gI h15 127 16) + 1) →
  (inR (l2 - 65)) ∧ Q (some (vI (l2 - 65))) h16) : zK 166 68 [vR 127 111, vI l1, vI l2] [] h Q :=
  zwpe_W (cd := c166) rfl [68] 400 68 _ _ _ _ k
-- 167 SyntaxRulesModel.readKind(I)V
set_option maxRecDepth 100000 in
set_option maxHeartbeats 4000000 in
theorem k167_0 (p1 : Int) (h : zH) (Q : Option zV → zH → Prop) (k :
  (inR (p1 + 2)) ∧ (0 ≤ (p1 + 2 : Int)) ∧ ((p1 + 2 : Int) < 492) ∧ ∀ h10 : zH, h10 = sI h 141 (p1 + 2) (-1) →
  (¬ (gI h10 127 32) = 0 →
    Q none h10) ∧
    (¬ (¬ (gI h10 127 32) = 0) →
    ((gI h10 127 18) = 0 →
      Q none h10) ∧
      (¬ ((gI h10 127 18) = 0) →
      zC1 149 [vR 127 111] h10 (fun v11 h11 =>
      (¬ v11 = 58 →
        Q none h11) ∧
        (¬ (¬ v11 = 58) →
        (inR ((gI h11 127 16) + 1)) ∧ ∀ h12 : zH, h12 = sI h11 127 16 ((gI h11 127 16) + 1) →
        zC1 149 [vR 127 111] h12 (fun v13 h13 =>
        (inR (p1 + 2)) ∧ (¬ v13 = 110 →
          (¬ v13 = 119 →
            zK 167 75 [vR 127 111, vI p1, vI v13] [vI 2, vI (p1 + 2), vR 141 49340] h13 Q) ∧
            (¬ (¬ v13 = 119) →
            zK 167 75 [vR 127 111, vI p1, vI v13] [vI 1, vI (p1 + 2), vR 141 49340] h13 Q)) ∧
          (¬ (¬ v13 = 110) →
          zK 167 75 [vR 127 111, vI p1, vI v13] [vI 0, vI (p1 + 2), vR 141 49340] h13 Q))))))) : zK 167 0 [vR 127 111, vI p1, vU] [] h Q :=
  zwpe_W (cd := c167) rfl [75] 400 0 _ _ _ _ k
set_option maxRecDepth 100000 in
set_option maxHeartbeats 4000000 in
theorem k167_75 (u1 : zV) (l2 : Int) (s0 : Int) (s1 : Int) (h : zH) (Q : Option zV → zH → Prop) (k :
  (0 ≤ (s1 : Int)) ∧ ((s1 : Int) < 492) ∧ ∀ h14 : zH, h14 = sI h 141 s1 s0 →
  (l2 = 110 →
    (inR ((gI h14 127 16) + 1)) ∧ ∀ h15 : zH, h15 = sI h14 127 16 ((gI h14 127 16) + 1) →
    Q none h15) ∧
    (¬ (l2 = 110) →
    (l2 = 119 →
      (inR ((gI h14 127 16) + 1)) ∧ ∀ h16 : zH, h16 = sI h14 127 16 ((gI h14 127 16) + 1) →
      Q none h16) ∧
      (¬ (l2 = 119) →
      (¬ l2 = 99 →
        zC0 148 [vR 127 111] h14 (fun h17 =>
        Q none h17)) ∧
        (¬ (¬ l2 = 99) →
        (inR ((gI h14 127 16) + 1)) ∧ ∀ h18 : zH, h18 = sI h14 127 16 ((gI h14 127 16) + 1) →
        Q none h18)))) : zK 167 75 [vR 127 111, u1, vI l2] [vI s0, vI s1, vR 141 49340] h Q :=
  zwpe_W (cd := c167) rfl [75] 400 75 _ _ _ _ k
-- 168 SyntaxRulesModel.readOpen()V
set_option maxRecDepth 100000 in
set_option maxHeartbeats 4000000 in
theorem k168_0 (h : zH) (Q : Option zV → zH → Prop) (k :
  (inR ((gI h 127 16) + 1)) ∧ ∀ h8 : zH, h8 = sI h 127 16 ((gI h 127 16) + 1) →
  zC1 163 [vR 127 111] h8 (fun v9 h9 =>
  zC1 144 [vI v9] h9 (fun v10 h10 =>
  (¬ v10 = 0 →
    (inR (246 * (gI h10 127 32))) ∧ (0 ≤ (gI h10 127 32 : Int)) ∧ ((gI h10 127 32 : Int) < 2) ∧ (inR (6 * (gI h10 142 (gI h10 127 32)))) ∧ (inR ((246 * (gI h10 127 32)) + (6 * (gI h10 142 (gI h10 127 32))))) ∧ (0 ≤ (gI h10 127 15 : Int)) ∧ ((gI h10 127 15 : Int) < 21) ∧ ∀ h11 : zH, h11 = sI h10 144 (gI h10 127 15) ((246 * (gI h10 127 32)) + (6 * (gI h10 142 (gI h10 127 32)))) →
    (inR ((gI h11 127 15) + 1)) ∧ ∀ h12 : zH, h12 = sI h11 127 15 ((gI h11 127 15) + 1) →
    zC0 165 [vR 127 111, vI 5, vI 0] h12 (fun h13 =>
    Q none h13)) ∧
    (¬ (¬ v10 = 0) →
    zC0 148 [vR 127 111] h10 (fun h14 =>
    Q none h14))))) : zK 168 0 [vR 127 111] [] h Q :=
  zwpe_W (cd := c168) rfl [] 400 0 _ _ _ _ k
-- 169 SyntaxRulesModel.countItem(Z)V
set_option maxRecDepth 100000 in
set_option maxHeartbeats 4000000 in
theorem k169_0 (p1 : Int) (h : zH) (Q : Option zV → zH → Prop) (k :
  (¬ (gI h 127 33) = 0 →
    zK 169 80 [vR 127 111, vI p1] [] h Q) ∧
    (¬ (¬ (gI h 127 33) = 0) →
    ((gI h 127 15) ≤ 0 →
      zK 169 80 [vR 127 111, vI p1] [] h Q) ∧
      (¬ ((gI h 127 15) ≤ 0) →
      (inR ((gI h 127 15) - 1)) ∧ (0 ≤ ((gI h 127 15) - 1 : Int)) ∧ (((gI h 127 15) - 1 : Int) < 21) ∧ (inR ((gI h 144 ((gI h 127 15) - 1)) + 1)) ∧ (0 ≤ ((gI h 144 ((gI h 127 15) - 1)) + 1 : Int)) ∧ (((gI h 144 ((gI h 127 15) - 1)) + 1 : Int) < 492) ∧ (inR ((gI h 141 ((gI h 144 ((gI h 127 15) - 1)) + 1)) + 1)) ∧ (0 ≤ ((gI h 144 ((gI h 127 15) - 1)) + 1 : Int)) ∧ (((gI h 144 ((gI h 127 15) - 1)) + 1 : Int) < 492) ∧ ∀ h5 : zH, h5 = sI h 141 ((gI h 144 ((gI h 127 15) - 1)) + 1) ((gI h 141 ((gI h 144 ((gI h 127 15) - 1)) + 1)) + 1) →
      (inR ((gI h5 127 15) - 1)) ∧ (0 ≤ ((gI h5 127 15) - 1 : Int)) ∧ (((gI h5 127 15) - 1 : Int) < 21) ∧ (inR ((gI h5 144 ((gI h5 127 15) - 1)) + 5)) ∧ (p1 = 0 →
        (inR ((gI h5 127 15) - 1)) ∧ (0 ≤ ((gI h5 127 15) - 1 : Int)) ∧ (((gI h5 127 15) - 1 : Int) < 21) ∧ (inR ((gI h5 144 ((gI h5 127 15) - 1)) + 5)) ∧ (0 ≤ ((gI h5 144 ((gI h5 127 15) - 1)) + 5 : Int)) ∧ (((gI h5 144 ((gI h5 127 15) - 1)) + 5 : Int) < 492) ∧ zK 169 79 [vR 127 111, vI p1] [vI (gI h5 141 ((gI h5 144 ((gI h5 127 15) - 1)) + 5)), vI ((gI h5 144 ((gI h5 127 15) - 1)) + 5), vR 141 49340] h5 Q) ∧
        (¬ (p1 = 0) →
        zK 169 79 [vR 127 111, vI p1] [vI 1, vI ((gI h5 144 ((gI h5 127 15) - 1)) + 5), vR 141 49340] h5 Q)))) : zK 169 0 [vR 127 111, vI p1] [] h Q :=
  zwpe_W (cd := c169) rfl [79, 80] 400 0 _ _ _ _ k
set_option maxRecDepth 100000 in
set_option maxHeartbeats 4000000 in
theorem k169_79 (u1 : zV) (s0 : Int) (s1 : Int) (h : zH) (Q : Option zV → zH → Prop) (k :
  (0 ≤ (s1 : Int)) ∧ ((s1 : Int) < 492) ∧ ∀ h6 : zH, h6 = sI h 141 s1 s0 →
  zK 169 80 [vR 127 111, u1] [] h6 Q) : zK 169 79 [vR 127 111, u1] [vI s0, vI s1, vR 141 49340] h Q :=
  zwpe_W (cd := c169) rfl [79, 80] 400 79 _ _ _ _ k
set_option maxRecDepth 100000 in
set_option maxHeartbeats 4000000 in
theorem k169_80 (u1 : zV) (h : zH) (Q : Option zV → zH → Prop) (k :
  ((0 : Int) = 0 ∨ (0 : Int) = 1) ∧ ∀ h7 : zH, h7 = sI h 127 33 0 →
  (inR ((gI h7 127 27) + 1)) ∧ ∀ h8 : zH, h8 = sI h7 127 27 ((gI h7 127 27) + 1) →
  Q none h8) : zK 169 80 [vR 127 111, u1] [] h Q :=
  zwpe_W (cd := c169) rfl [79, 80] 400 80 _ _ _ _ k
-- 170 SyntaxRulesModel.canBegin(I)Z
set_option maxRecDepth 100000 in
set_option maxHeartbeats 4000000 in
theorem k170_0 (p1 : Int) (h : zH) (Q : Option zV → zH → Prop) (k :
  (p1 = 63 →
    ((1 : Int) = 0 ∨ (1 : Int) = 1) ∧ Q (some (vI 1)) h) ∧
    (¬ (p1 = 63) →
    (p1 = 40 →
      ((1 : Int) = 0 ∨ (1 : Int) = 1) ∧ Q (some (vI 1)) h) ∧
      (¬ (p1 = 40) →
      zC1 144 [vI p1] h (fun v3 h3 =>
      (¬ v3 = 0 →
        ((1 : Int) = 0 ∨ (1 : Int) = 1) ∧ Q (some (vI 1)) h3) ∧
        (¬ (¬ v3 = 0) →
        zC1 145 [vI p1] h3 (fun v4 h4 =>
        (v4 = 0 →
          (¬ p1 = 42 →
            (¬ (gI h4 127 32) = 0 →
              ((0 : Int) = 0 ∨ (0 : Int) = 1) ∧ Q (some (vI 0)) h4) ∧
              (¬ (¬ (gI h4 127 32) = 0) →
              (p1 = 95 →
                ((1 : Int) = 0 ∨ (1 : Int) = 1) ∧ Q (some (vI 1)) h4) ∧
                (¬ (p1 = 95) →
                (¬ p1 = 94 →
                  ((0 : Int) = 0 ∨ (0 : Int) = 1) ∧ Q (some (vI 0)) h4) ∧
                  (¬ (¬ p1 = 94) →
                  (¬ (gI h4 127 29) = 0 →
                    ((0 : Int) = 0 ∨ (0 : Int) = 1) ∧ Q (some (vI 0)) h4) ∧
                    (¬ (¬ (gI h4 127 29) = 0) →
                    ((1 : Int) = 0 ∨ (1 : Int) = 1) ∧ Q (some (vI 1)) h4))))) ∧
            (¬ (¬ p1 = 42) →
            ((gI h4 127 15) ≤ 0 →
              ((0 : Int) = 0 ∨ (0 : Int) = 1) ∧ Q (some (vI 0)) h4) ∧
              (¬ ((gI h4 127 15) ≤ 0) →
              (¬ (gI h4 127 33) = 0 →
                ((0 : Int) = 0 ∨ (0 : Int) = 1) ∧ Q (some (vI 0)) h4) ∧
                (¬ (¬ (gI h4 127 33) = 0) →
                ((gI h4 127 32) = 1 →
                  ((1 : Int) = 0 ∨ (1 : Int) = 1) ∧ Q (some (vI 1)) h4) ∧
                  (¬ ((gI h4 127 32) = 1) →
                  (2 ≤ (gI h4 127 28) →
                    ((0 : Int) = 0 ∨ (0 : Int) = 1) ∧ Q (some (vI 0)) h4) ∧
                    (¬ (2 ≤ (gI h4 127 28)) →
                    ((1 : Int) = 0 ∨ (1 : Int) = 1) ∧ Q (some (vI 1)) h4)))))) ∧
          (¬ (v4 = 0) →
          ((1 : Int) = 0 ∨ (1 : Int) = 1) ∧ Q (some (vI 1)) h4))))))) : zK 170 0 [vR 127 111, vI p1] [] h Q :=
  zwpe_W (cd := c170) rfl [] 400 0 _ _ _ _ k
-- 171 SyntaxRulesModel.readItem()V
set_option maxRecDepth 100000 in
set_option maxHeartbeats 4000000 in
theorem k171_0 (h : zH) (Q : Option zV → zH → Prop) (k :
  zC1 163 [vR 127 111] h (fun v22 h22 =>
  zC1 170 [vR 127 111, vI v22] h22 (fun v23 h23 =>
  (v23 = 0 →
    zC0 148 [vR 127 111] h23 (fun h24 =>
    Q none h24)) ∧
    (¬ (v23 = 0) →
    (¬ (gI h23 127 27) = 20 →
      (¬ v22 = 42 →
        zK 171 39 [vR 127 111, vI v22] [vI 0, vR 127 111] h23 Q) ∧
        (¬ (¬ v22 = 42) →
        zK 171 39 [vR 127 111, vI v22] [vI 1, vR 127 111] h23 Q)) ∧
      (¬ (¬ (gI h23 127 27) = 20) →
      zC0 148 [vR 127 111] h23 (fun h25 =>
      Q none h25)))))) : zK 171 0 [vR 127 111, vU] [] h Q :=
  zwpe_W (cd := c171) rfl [39] 400 0 _ _ _ _ k
set_option maxRecDepth 100000 in
set_option maxHeartbeats 4000000 in
theorem k171_39 (l1 : Int) (s0 : Int) (h : zH) (Q : Option zV → zH → Prop) (k :
  zC0 169 [vR 127 111, vI s0] h (fun h26 =>
  (¬ l1 = 95 →
    (¬ l1 = 94 →
      (¬ l1 = 63 →
        (¬ l1 = 42 →
          (¬ l1 = 40 →
            zC1 145 [vI l1] h26 (fun v27 h27 =>
            (v27 = 0 →
              zC0 165 [vR 127 111, vI 3, vI 0] h27 (fun h28 =>
              Q none h28)) ∧
              (¬ (v27 = 0) →
              zC0 165 [vR 127 111, vI 4, vI 0] h27 (fun h29 =>
              Q none h29)))) ∧
            (¬ (¬ l1 = 40) →
            zC0 168 [vR 127 111] h26 (fun h30 =>
            Q none h30))) ∧
          (¬ (¬ l1 = 42) →
          (inR ((gI h26 127 28) + 1)) ∧ ∀ h31 : zH, h31 = sI h26 127 28 ((gI h26 127 28) + 1) →
          zC1 166 [vR 127 111, vI 2] h31 (fun v32 h32 =>
          zC1 164 [vR 127 111, vI 6, vI v32, vI 0] h32 (fun v33 h33 =>
          Q none h33)))) ∧
        (¬ (¬ l1 = 63) →
        zC1 166 [vR 127 111, vI 1] h26 (fun v34 h34 =>
        zC1 164 [vR 127 111, vI 1, vI v34, vI 0] h34 (fun v35 h35 =>
        zC0 167 [vR 127 111, vI v35] h35 (fun h36 =>
        Q none h36))))) ∧
      (¬ (¬ l1 = 94) →
      (inR ((gI h26 127 16) + 1)) ∧ ∀ h37 : zH, h37 = sI h26 127 16 ((gI h26 127 16) + 1) →
      (inR ((gI h37 127 29) + 1)) ∧ ∀ h38 : zH, h38 = sI h37 127 29 ((gI h37 127 29) + 1) →
      zC1 164 [vR 127 111, vI 2, vI 0, vI 0] h38 (fun v39 h39 =>
      ((1 : Int) = 0 ∨ (1 : Int) = 1) ∧ ∀ h40 : zH, h40 = sI h39 127 33 1 →
      Q none h40))) ∧
    (¬ (¬ l1 = 95) →
    (inR ((gI h26 127 16) + 1)) ∧ ∀ h41 : zH, h41 = sI h26 127 16 ((gI h26 127 16) + 1) →
    zC1 164 [vR 127 111, vI 0, vI 0, vI 0] h41 (fun v42 h42 =>
    Q none h42)))) : zK 171 39 [vR 127 111, vI l1] [vI s0, vR 127 111] h Q :=
  zwpe_W (cd := c171) rfl [39] 400 39 _ _ _ _ k
-- 172 SyntaxRulesModel.readSide(I)V
set_option maxRecDepth 100000 in
set_option maxHeartbeats 4000000 in
theorem k172_0 (p1 : Int) (h : zH) (Q : Option zV → zH → Prop) (k :
  ∀ h14 : zH, h14 = sI h 127 32 p1 →
  ∀ h15 : zH, h15 = sI h14 127 27 0 →
  ∀ h16 : zH, h16 = sI h15 127 28 0 →
  ∀ h17 : zH, h17 = sI h16 127 29 0 →
  ((0 : Int) = 0 ∨ (0 : Int) = 1) ∧ ∀ h18 : zH, h18 = sI h17 127 33 0 →
  (0 ≤ (gI h18 127 32 : Int)) ∧ ((gI h18 127 32 : Int) < 2) ∧ ∀ h19 : zH, h19 = sI h18 142 (gI h18 127 32) 0 →
  ∀ h20 : zH, h20 = sI h19 127 15 0 →
  zK 172 42 [vR 127 111, vI p1, vI 1] [] h20 Q) : zK 172 0 [vR 127 111, vI p1, vU] [] h Q :=
  zwpe_W (cd := c172) rfl [42, 133, 137] 400 0 _ _ _ _ k
set_option maxRecDepth 100000 in
set_option maxHeartbeats 4000000 in
theorem k172_42 (u1 : zV) (l2 : Int) (h : zH) (Q : Option zV → zH → Prop) (k :
  (l2 = 0 →
    Q none h) ∧
    (¬ (l2 = 0) →
    ((gI h 127 18) = 0 →
      Q none h) ∧
      (¬ ((gI h 127 18) = 0) →
      ((gI h 127 15) ≤ 0 →
        zK 172 133 [vR 127 111, u1, vI l2] [] h Q) ∧
        (¬ ((gI h 127 15) ≤ 0) →
        (¬ (gI h 127 33) = 0 →
          zK 172 133 [vR 127 111, u1, vI l2] [] h Q) ∧
          (¬ (¬ (gI h 127 33) = 0) →
          zC1 163 [vR 127 111] h (fun v21 h21 =>
          (¬ v21 = 41 →
            zK 172 133 [vR 127 111, u1, vI l2] [] h21 Q) ∧
            (¬ (¬ v21 = 41) →
            (inR ((gI h21 127 16) + 1)) ∧ ∀ h22 : zH, h22 = sI h21 127 16 ((gI h21 127 16) + 1) →
            (inR ((gI h22 127 15) - 1)) ∧ ∀ h23 : zH, h23 = sI h22 127 15 ((gI h22 127 15) - 1) →
            (0 ≤ (gI h23 127 15 : Int)) ∧ ((gI h23 127 15 : Int) < 21) ∧ (inR ((gI h23 144 (gI h23 127 15)) + 2)) ∧ (0 ≤ (gI h23 127 32 : Int)) ∧ ((gI h23 127 32 : Int) < 2) ∧ (0 ≤ ((gI h23 144 (gI h23 127 15)) + 2 : Int)) ∧ (((gI h23 144 (gI h23 127 15)) + 2 : Int) < 492) ∧ ∀ h24 : zH, h24 = sI h23 141 ((gI h23 144 (gI h23 127 15)) + 2) (gI h23 142 (gI h23 127 32)) →
            zC1 164 [vR 127 111, vI 7, vI 0, vI 0] h24 (fun v25 h25 =>
            zK 172 137 [vR 127 111, u1, vI l2] [] h25 Q)))))))) : zK 172 42 [vR 127 111, u1, vI l2] [] h Q :=
  zwpe_W (cd := c172) rfl [42, 133, 137] 400 42 _ _ _ _ k
set_option maxRecDepth 100000 in
set_option maxHeartbeats 4000000 in
theorem k172_133 (u1 : zV) (u2 : zV) (h : zH) (Q : Option zV → zH → Prop) (k :
  zC0 171 [vR 127 111] h (fun h26 =>
  zK 172 137 [vR 127 111, u1, u2] [] h26 Q)) : zK 172 133 [vR 127 111, u1, u2] [] h Q :=
  zwpe_W (cd := c172) rfl [42, 133, 137] 400 133 _ _ _ _ k
set_option maxRecDepth 100000 in
set_option maxHeartbeats 4000000 in
theorem k172_137 (u1 : zV) (u2 : zV) (h : zH) (Q : Option zV → zH → Prop) (k :
  (0 < (gI h 127 15) →
    zK 172 42 [vR 127 111, u1, vI 1] [] h Q) ∧
    (¬ (0 < (gI h 127 15)) →
    ((gI h 127 33) = 0 →
      zK 172 42 [vR 127 111, u1, vI 0] [] h Q) ∧
      (¬ ((gI h 127 33) = 0) →
      zK 172 42 [vR 127 111, u1, vI 1] [] h Q))) : zK 172 137 [vR 127 111, u1, u2] [] h Q :=
  zwpe_W (cd := c172) rfl [42, 133, 137] 400 137 _ _ _ _ k
-- 173 SyntaxRulesModel.readsRule()Z
set_option maxRecDepth 100000 in
set_option maxHeartbeats 4000000 in
theorem k173_0 (h : zH) (Q : Option zV → zH → Prop) (k :
  ∀ h11 : zH, h11 = sI h 127 16 0 →
  ((1 : Int) = 0 ∨ (1 : Int) = 1) ∧ ∀ h12 : zH, h12 = sI h11 127 18 1 →
  zK 173 12 [vR 127 111, vI 0] [] h12 Q) : zK 173 0 [vR 127 111, vU] [] h Q :=
  zwpe_W (cd := c173) rfl [12, 56, 73, 89] 400 0 _ _ _ _ k
set_option maxRecDepth 100000 in
set_option maxHeartbeats 4000000 in
theorem k173_12 (l1 : Int) (h : zH) (Q : Option zV → zH → Prop) (k :
  (26 ≤ l1 →
    zC0 172 [vR 127 111, vI 0] h (fun h13 =>
    ((gI h13 127 18) = 0 →
      zK 173 56 [vR 127 111, vI l1] [] h13 Q) ∧
      (¬ ((gI h13 127 18) = 0) →
      zC1 163 [vR 127 111] h13 (fun v14 h14 =>
      (v14 = 61 →
        zK 173 56 [vR 127 111, vI l1] [] h14 Q) ∧
        (¬ (v14 = 61) →
        zC0 148 [vR 127 111] h14 (fun h15 =>
        zK 173 56 [vR 127 111, vI l1] [] h15 Q)))))) ∧
    (¬ (26 ≤ l1) →
    (0 ≤ (l1 : Int)) ∧ ((l1 : Int) < 26) ∧ ∀ h16 : zH, h16 = sI h 143 l1 0 →
    (inR (l1 + 1)) ∧ zK 173 12 [vR 127 111, vI (l1 + 1)] [] h16 Q)) : zK 173 12 [vR 127 111, vI l1] [] h Q :=
  zwpe_W (cd := c173) rfl [12, 56, 73, 89] 400 12 _ _ _ _ k
set_option maxRecDepth 100000 in
set_option maxHeartbeats 4000000 in
theorem k173_56 (u1 : zV) (h : zH) (Q : Option zV → zH → Prop) (k :
  ((gI h 127 18) = 0 →
    zK 173 73 [vR 127 111, u1] [vI 0, vI (gI h 127 16), vR 127 111] h Q) ∧
    (¬ ((gI h 127 18) = 0) →
    zK 173 73 [vR 127 111, u1] [vI 1, vI (gI h 127 16), vR 127 111] h Q)) : zK 173 56 [vR 127 111, u1] [] h Q :=
  zwpe_W (cd := c173) rfl [12, 56, 73, 89] 400 56 _ _ _ _ k
set_option maxRecDepth 100000 in
set_option maxHeartbeats 4000000 in
theorem k173_73 (u1 : zV) (s0 : Int) (s1 : Int) (h : zH) (Q : Option zV → zH → Prop) (k :
  (inR (s1 + s0)) ∧ ∀ h17 : zH, h17 = sI h 127 16 (s1 + s0) →
  ((gI h17 127 18) = 0 →
    zK 173 89 [vR 127 111, u1] [] h17 Q) ∧
    (¬ ((gI h17 127 18) = 0) →
    zC0 172 [vR 127 111, vI 1] h17 (fun h18 =>
    zK 173 89 [vR 127 111, u1] [] h18 Q))) : zK 173 73 [vR 127 111, u1] [vI s0, vI s1, vR 127 111] h Q :=
  zwpe_W (cd := c173) rfl [12, 56, 73, 89] 400 73 _ _ _ _ k
set_option maxRecDepth 100000 in
set_option maxHeartbeats 4000000 in
theorem k173_89 (u1 : zV) (h : zH) (Q : Option zV → zH → Prop) (k :
  ((gI h 127 18) = 0 →
    ((gI h 127 18 : Int) = 0 ∨ (gI h 127 18 : Int) = 1) ∧ Q (some (vI (gI h 127 18))) h) ∧
    (¬ ((gI h 127 18) = 0) →
    zC1 163 [vR 127 111] h (fun v19 h19 =>
    (v19 = (-1) →
      ((gI h19 127 18 : Int) = 0 ∨ (gI h19 127 18 : Int) = 1) ∧ Q (some (vI (gI h19 127 18))) h19) ∧
      (¬ (v19 = (-1)) →
      zC0 148 [vR 127 111] h19 (fun h20 =>
      ((gI h20 127 18 : Int) = 0 ∨ (gI h20 127 18 : Int) = 1) ∧ Q (some (vI (gI h20 127 18))) h20))))) : zK 173 89 [vR 127 111, u1] [] h Q :=
  zwpe_W (cd := c173) rfl [12, 56, 73, 89] 400 89 _ _ _ _ k
-- 174 SyntaxRulesModel.takeRule(I)V
set_option maxRecDepth 100000 in
set_option maxHeartbeats 4000000 in
theorem k174_0 (p1 : Int) (h : zH) (Q : Option zV → zH → Prop) (k :
  zK 174 2 [vR 127 111, vI p1, vI 0, vU] [] h Q) : zK 174 0 [vR 127 111, vI p1, vU, vU] [] h Q :=
  zwpe_W (cd := c174) rfl [2, 25] 400 0 _ _ _ _ k
set_option maxRecDepth 100000 in
set_option maxHeartbeats 4000000 in
theorem k174_2 (l1 : Int) (l2 : Int) (u3 : zV) (h : zH) (Q : Option zV → zH → Prop) (k :
  (2 ≤ l2 →
    Q none h) ∧
    (¬ (2 ≤ l2) →
    (inR (2 * l1)) ∧ (inR ((2 * l1) + l2)) ∧ (0 ≤ (l2 : Int)) ∧ ((l2 : Int) < 2) ∧ (0 ≤ ((2 * l1) + l2 : Int)) ∧ (((2 * l1) + l2 : Int) < 16) ∧ ∀ h3 : zH, h3 = sI h 140 ((2 * l1) + l2) (gI h 142 l2) →
    zK 174 25 [vR 127 111, vI l1, vI l2, vI 0] [] h3 Q)) : zK 174 2 [vR 127 111, vI l1, vI l2, u3] [] h Q :=
  zwpe_W (cd := c174) rfl [2, 25] 400 2 _ _ _ _ k
set_option maxRecDepth 100000 in
set_option maxHeartbeats 4000000 in
theorem k174_25 (l1 : Int) (l2 : Int) (l3 : Int) (h : zH) (Q : Option zV → zH → Prop) (k :
  (246 ≤ l3 →
    (inR (l2 + 1)) ∧ zK 174 2 [vR 127 111, vI l1, vI (l2 + 1), vI l3] [] h Q) ∧
    (¬ (246 ≤ l3) →
    (inR (2 * l1)) ∧ (inR ((2 * l1) + l2)) ∧ (inR (246 * ((2 * l1) + l2))) ∧ (inR ((246 * ((2 * l1) + l2)) + l3)) ∧ (inR (246 * l2)) ∧ (inR ((246 * l2) + l3)) ∧ (0 ≤ ((246 * l2) + l3 : Int)) ∧ (((246 * l2) + l3 : Int) < 492) ∧ (0 ≤ ((246 * ((2 * l1) + l2)) + l3 : Int)) ∧ (((246 * ((2 * l1) + l2)) + l3 : Int) < 3936) ∧ ∀ h4 : zH, h4 = sI h 139 ((246 * ((2 * l1) + l2)) + l3) (gI h 141 ((246 * l2) + l3)) →
    (inR (l3 + 1)) ∧ zK 174 25 [vR 127 111, vI l1, vI l2, vI (l3 + 1)] [] h4 Q)) : zK 174 25 [vR 127 111, vI l1, vI l2, vI l3] [] h Q :=
  zwpe_W (cd := c174) rfl [2, 25] 400 25 _ _ _ _ k
-- 175 SyntaxRulesModel.rule()I
set_option maxRecDepth 100000 in
set_option maxHeartbeats 4000000 in
theorem k175_0 (h : zH) (Q : Option zV → zH → Prop) (k :
  ∀ h11 : zH, h11 = sI h 127 0 0 →
  zC0 161 [vR 127 111] h11 (fun h12 =>
  zC1 173 [vR 127 111] h12 (fun v13 h13 =>
  (¬ v13 = 0 →
    zK 175 27 [vR 127 111, vI 0, vU] [] h13 Q) ∧
    (¬ (¬ v13 = 0) →
    (inR ((-1000) - (gI h13 127 17))) ∧ Q (some (vI ((-1000) - (gI h13 127 17)))) h13)))) : zK 175 0 [vR 127 111, vU, vU] [] h Q :=
  zwpe_W (cd := c175) rfl [27, 58] 400 0 _ _ _ _ k
set_option maxRecDepth 100000 in
set_option maxHeartbeats 4000000 in
theorem k175_27 (l1 : Int) (u2 : zV) (h : zH) (Q : Option zV → zH → Prop) (k :
  (8 ≤ l1 →
    (¬ l1 = 8 →
      zK 175 58 [vR 127 111, vI l1, vI 0] [] h Q) ∧
      (¬ (¬ l1 = 8) →
      Q (some (vI ((-3)))) h)) ∧
    (¬ (8 ≤ l1) →
    zC1 143 [vR 127 111, vI l1] h (fun v14 h14 =>
    (v14 = 0 →
      (¬ l1 = 8 →
        zK 175 58 [vR 127 111, vI l1, vI 0] [] h14 Q) ∧
        (¬ (¬ l1 = 8) →
        Q (some (vI ((-3)))) h14)) ∧
      (¬ (v14 = 0) →
      (inR (l1 + 1)) ∧ zK 175 27 [vR 127 111, vI (l1 + 1), u2] [] h14 Q)))) : zK 175 27 [vR 127 111, vI l1, u2] [] h Q :=
  zwpe_W (cd := c175) rfl [27, 58] 400 27 _ _ _ _ k
set_option maxRecDepth 100000 in
set_option maxHeartbeats 4000000 in
theorem k175_58 (l1 : Int) (l2 : Int) (h : zH) (Q : Option zV → zH → Prop) (k :
  ((gI h 127 9) ≤ l2 →
    zC1 142 [vI l1] h (fun v15 h15 =>
    (inR (v15 + 300)) ∧ (0 ≤ (v15 + 300 : Int)) ∧ ((v15 + 300 : Int) < 2709) ∧ ∀ h16 : zH, h16 = sI h15 128 (v15 + 300) (gI h15 127 9) →
    zC0 174 [vR 127 111, vI l1] h16 (fun h17 =>
    zC0 218 [vR 127 111] h17 (fun h18 =>
    Q (some (vI l1)) h18)))) ∧
    (¬ ((gI h 127 9) ≤ l2) →
    zC1 142 [vI l1] h (fun v19 h19 =>
    (inR (v19 + l2)) ∧ (0 ≤ (l2 : Int)) ∧ ((l2 : Int) < 302) ∧ (0 ≤ (v19 + l2 : Int)) ∧ ((v19 + l2 : Int) < 2709) ∧ ∀ h20 : zH, h20 = sI h19 128 (v19 + l2) (gI h19 133 l2) →
    (inR (l2 + 1)) ∧ zK 175 58 [vR 127 111, vI l1, vI (l2 + 1)] [] h20 Q))) : zK 175 58 [vR 127 111, vI l1, vI l2] [] h Q :=
  zwpe_W (cd := c175) rfl [27, 58] 400 58 _ _ _ _ k
-- 176 SyntaxRulesModel.readRules()V
set_option maxRecDepth 100000 in
set_option maxHeartbeats 4000000 in
theorem k176_0 (h : zH) (Q : Option zV → zH → Prop) (k :
  zK 176 2 [vR 127 111, vI 0, vU] [] h Q) : zK 176 0 [vR 127 111, vU, vU] [] h Q :=
  zwpe_W (cd := c176) rfl [2, 35] 400 0 _ _ _ _ k
set_option maxRecDepth 100000 in
set_option maxHeartbeats 4000000 in
theorem k176_2 (l1 : Int) (u2 : zV) (h : zH) (Q : Option zV → zH → Prop) (k :
  (8 ≤ l1 →
    zC0 218 [vR 127 111] h (fun h9 =>
    Q none h9)) ∧
    (¬ (8 ≤ l1) →
    zC1 143 [vR 127 111, vI l1] h (fun v10 h10 =>
    (v10 = 0 →
      (inR (l1 + 1)) ∧ zK 176 2 [vR 127 111, vI (l1 + 1), u2] [] h10 Q) ∧
      (¬ (v10 = 0) →
      zC1 142 [vI l1] h10 (fun v11 h11 =>
      (inR (v11 + 300)) ∧ (0 ≤ (v11 + 300 : Int)) ∧ ((v11 + 300 : Int) < 2709) ∧ ∀ h12 : zH, h12 = sI h11 127 9 (gI h11 128 (v11 + 300)) →
      zK 176 35 [vR 127 111, vI l1, vI 0] [] h12 Q))))) : zK 176 2 [vR 127 111, vI l1, u2] [] h Q :=
  zwpe_W (cd := c176) rfl [2, 35] 400 2 _ _ _ _ k
set_option maxRecDepth 100000 in
set_option maxHeartbeats 4000000 in
theorem k176_35 (l1 : Int) (l2 : Int) (h : zH) (Q : Option zV → zH → Prop) (k :
  ((gI h 127 9) ≤ l2 →
    zC1 173 [vR 127 111] h (fun v13 h13 =>
    zC0 174 [vR 127 111, vI l1] h13 (fun h14 =>
    (inR (l1 + 1)) ∧ zK 176 2 [vR 127 111, vI (l1 + 1), vI l2] [] h14 Q))) ∧
    (¬ ((gI h 127 9) ≤ l2) →
    zC1 142 [vI l1] h (fun v15 h15 =>
    (inR (v15 + l2)) ∧ (0 ≤ (v15 + l2 : Int)) ∧ ((v15 + l2 : Int) < 2709) ∧ (0 ≤ (l2 : Int)) ∧ ((l2 : Int) < 302) ∧ ∀ h16 : zH, h16 = sI h15 133 l2 (gI h15 128 (v15 + l2)) →
    (inR (l2 + 1)) ∧ zK 176 35 [vR 127 111, vI l1, vI (l2 + 1)] [] h16 Q))) : zK 176 35 [vR 127 111, vI l1, vI l2] [] h Q :=
  zwpe_W (cd := c176) rfl [2, 35] 400 35 _ _ _ _ k
-- 177 SyntaxRulesModel.rulesMany()I
set_option maxRecDepth 100000 in
set_option maxHeartbeats 4000000 in
theorem k177_0 (h : zH) (Q : Option zV → zH → Prop) (k :
  zK 177 4 [vR 127 111, vI 0, vI 0] [] h Q) : zK 177 0 [vR 127 111, vU, vU] [] h Q :=
  zwpe_W (cd := c177) rfl [4] 400 0 _ _ _ _ k
set_option maxRecDepth 100000 in
set_option maxHeartbeats 4000000 in
theorem k177_4 (l1 : Int) (l2 : Int) (h : zH) (Q : Option zV → zH → Prop) (k :
  (8 ≤ l2 →
    Q (some (vI l1)) h) ∧
    (¬ (8 ≤ l2) →
    zC1 143 [vR 127 111, vI l2] h (fun v2 h2 =>
    (v2 = 0 →
      (inR (l1 + 0)) ∧ (inR (l2 + 1)) ∧ zK 177 4 [vR 127 111, vI (l1 + 0), vI (l2 + 1)] [] h2 Q) ∧
      (¬ (v2 = 0) →
      (inR (l1 + 1)) ∧ (inR (l2 + 1)) ∧ zK 177 4 [vR 127 111, vI (l1 + 1), vI (l2 + 1)] [] h2 Q)))) : zK 177 4 [vR 127 111, vI l1, vI l2] [] h Q :=
  zwpe_W (cd := c177) rfl [4] 400 4 _ _ _ _ k
-- 178 SyntaxRulesModel.drop(I)I
set_option maxRecDepth 100000 in
set_option maxHeartbeats 4000000 in
theorem k178_0 (p1 : Int) (h : zH) (Q : Option zV → zH → Prop) (k :
  ∀ h7 : zH, h7 = sI h 127 0 0 →
  zC1 143 [vR 127 111, vI p1] h7 (fun v8 h8 =>
  (¬ v8 = 0 →
    zC1 142 [vI p1] h8 (fun v9 h9 =>
    (inR (v9 + 300)) ∧ (0 ≤ (v9 + 300 : Int)) ∧ ((v9 + 300 : Int) < 2709) ∧ ∀ h10 : zH, h10 = sI h9 128 (v9 + 300) 0 →
    zC0 218 [vR 127 111] h10 (fun h11 =>
    zC1 177 [vR 127 111] h11 (fun v12 h12 =>
    Q (some (vI v12)) h12)))) ∧
    (¬ (¬ v8 = 0) →
    Q (some (vI ((-2)))) h8))) : zK 178 0 [vR 127 111, vI p1] [] h Q :=
  zwpe_W (cd := c178) rfl [] 400 0 _ _ _ _ k
-- 179 SyntaxRulesModel.token(IIII)I
set_option maxRecDepth 100000 in
set_option maxHeartbeats 4000000 in
theorem k179_0 (p1 : Int) (p2 : Int) (p3 : Int) (p4 : Int) (h : zH) (Q : Option zV → zH → Prop) (k :
  (inR (2 * p1)) ∧ (inR ((2 * p1) + p2)) ∧ (inR (246 * ((2 * p1) + p2))) ∧ (inR (6 * p3)) ∧ (inR ((246 * ((2 * p1) + p2)) + (6 * p3))) ∧ (inR (((246 * ((2 * p1) + p2)) + (6 * p3)) + p4)) ∧ (0 ≤ (((246 * ((2 * p1) + p2)) + (6 * p3)) + p4 : Int)) ∧ ((((246 * ((2 * p1) + p2)) + (6 * p3)) + p4 : Int) < 3936) ∧ Q (some (vI (gI h 139 (((246 * ((2 * p1) + p2)) + (6 * p3)) + p4)))) h) : zK 179 0 [vR 127 111, vI p1, vI p2, vI p3, vI p4] [] h Q :=
  zwpe_W (cd := c179) rfl [] 400 0 _ _ _ _ k
-- 180 SyntaxRulesModel.isSame(II)Z
set_option maxRecDepth 100000 in
set_option maxHeartbeats 4000000 in
theorem k180_0 (p1 : Int) (p2 : Int) (h : zH) (Q : Option zV → zH → Prop) (k :
  zC1 158 [vR 127 111, vI p1, vI 0] h (fun v10 h10 =>
  zC1 158 [vR 127 111, vI p2, vI 0] h10 (fun v11 h11 =>
  (¬ v10 = v11 →
    zK 180 56 [vR 127 111, vI p1, vI p2, vI 0, vI 0] [] h11 Q) ∧
    (¬ (¬ v10 = v11) →
    zC1 158 [vR 127 111, vI p1, vI 9] h11 (fun v12 h12 =>
    zC1 158 [vR 127 111, vI p2, vI 9] h12 (fun v13 h13 =>
    (¬ v12 = v13 →
      zK 180 56 [vR 127 111, vI p1, vI p2, vI 0, vI 0] [] h13 Q) ∧
      (¬ (¬ v12 = v13) →
      zC1 158 [vR 127 111, vI p1, vI 3] h13 (fun v14 h14 =>
      zC1 158 [vR 127 111, vI p2, vI 3] h14 (fun v15 h15 =>
      (¬ v14 = v15 →
        zK 180 56 [vR 127 111, vI p1, vI p2, vI 0, vI 0] [] h15 Q) ∧
        (¬ (¬ v14 = v15) →
        zK 180 56 [vR 127 111, vI p1, vI p2, vI 1, vI 0] [] h15 Q)))))))))) : zK 180 0 [vR 127 111, vI p1, vI p2, vU, vU] [] h Q :=
  zwpe_W (cd := c180) rfl [56] 400 0 _ _ _ _ k
set_option maxRecDepth 100000 in
set_option maxHeartbeats 4000000 in
theorem k180_56 (l1 : Int) (l2 : Int) (l3 : Int) (l4 : Int) (h : zH) (Q : Option zV → zH → Prop) (k :
  (l3 = 0 →
    ((l3 : Int) = 0 ∨ (l3 : Int) = 1) ∧ Q (some (vI l3)) h) ∧
    (¬ (l3 = 0) →
    zC1 158 [vR 127 111, vI l1, vI 9] h (fun v16 h16 =>
    (v16 ≤ l4 →
      ((l3 : Int) = 0 ∨ (l3 : Int) = 1) ∧ Q (some (vI l3)) h16) ∧
      (¬ (v16 ≤ l4) →
      zC1 158 [vR 127 111, vI l1, vI 8] h16 (fun v17 h17 =>
      (inR (v17 + l4)) ∧ (0 ≤ (v17 + l4 : Int)) ∧ ((v17 + l4 : Int) < 2709) ∧ zC1 158 [vR 127 111, vI l2, vI 8] h17 (fun v18 h18 =>
      (inR (v18 + l4)) ∧ (0 ≤ (v18 + l4 : Int)) ∧ ((v18 + l4 : Int) < 2709) ∧ (¬ (gI h17 128 (v17 + l4)) = (gI h18 128 (v18 + l4)) →
        (inR (l4 + 1)) ∧ zK 180 56 [vR 127 111, vI l1, vI l2, vI 0, vI (l4 + 1)] [] h18 Q) ∧
        (¬ (¬ (gI h17 128 (v17 + l4)) = (gI h18 128 (v18 + l4))) →
        (inR (l4 + 1)) ∧ zK 180 56 [vR 127 111, vI l1, vI l2, vI 1, vI (l4 + 1)] [] h18 Q))))))) : zK 180 56 [vR 127 111, vI l1, vI l2, vI l3, vI l4] [] h Q :=
  zwpe_W (cd := c180) rfl [56] 400 56 _ _ _ _ k
-- 181 SyntaxRulesModel.areAlike(II)Z
set_option maxRecDepth 100000 in
set_option maxHeartbeats 4000000 in
theorem k181_0 (p1 : Int) (p2 : Int) (h : zH) (Q : Option zV → zH → Prop) (k :
  zC1 158 [vR 127 111, vI p1, vI 6] h (fun v5 h5 =>
  zC1 158 [vR 127 111, vI p2, vI 6] h5 (fun v6 h6 =>
  (¬ v5 = v6 →
    zK 181 26 [vR 127 111, vI p1, vI p2, vI 0, vI 0] [] h6 Q) ∧
    (¬ (¬ v5 = v6) →
    zK 181 26 [vR 127 111, vI p1, vI p2, vI 1, vI 0] [] h6 Q)))) : zK 181 0 [vR 127 111, vI p1, vI p2, vU, vU] [] h Q :=
  zwpe_W (cd := c181) rfl [26] 400 0 _ _ _ _ k
set_option maxRecDepth 100000 in
set_option maxHeartbeats 4000000 in
theorem k181_26 (l1 : Int) (l2 : Int) (l3 : Int) (l4 : Int) (h : zH) (Q : Option zV → zH → Prop) (k :
  (l3 = 0 →
    ((l3 : Int) = 0 ∨ (l3 : Int) = 1) ∧ Q (some (vI l3)) h) ∧
    (¬ (l3 = 0) →
    zC1 158 [vR 127 111, vI l1, vI 6] h (fun v7 h7 =>
    (v7 ≤ l4 →
      ((l3 : Int) = 0 ∨ (l3 : Int) = 1) ∧ Q (some (vI l3)) h7) ∧
      (¬ (v7 ≤ l4) →
      (inR (l1 + l4)) ∧ (inR (l2 + l4)) ∧ zC1 180 [vR 127 111, vI (l1 + l4), vI (l2 + l4)] h7 (fun v8 h8 =>
      (inR (l4 + 1)) ∧ zK 181 26 [vR 127 111, vI l1, vI l2, vI v8, vI (l4 + 1)] [] h8 Q))))) : zK 181 26 [vR 127 111, vI l1, vI l2, vI l3, vI l4] [] h Q :=
  zwpe_W (cd := c181) rfl [26] 400 26 _ _ _ _ k
-- 182 SyntaxRulesModel.areRowsAlike(III)Z
set_option maxRecDepth 100000 in
set_option maxHeartbeats 4000000 in
theorem k182_0 (p1 : Int) (p2 : Int) (p3 : Int) (h : zH) (Q : Option zV → zH → Prop) (k :
  zK 182 12 [vR 127 111, vI p1, vI p2, vI p3, vI p1, vI p2, vI 1, vI 0] [] h Q) : zK 182 0 [vR 127 111, vI p1, vI p2, vI p3, vU, vU, vU, vU] [] h Q :=
  zwpe_W (cd := c182) rfl [12] 400 0 _ _ _ _ k
set_option maxRecDepth 100000 in
set_option maxHeartbeats 4000000 in
theorem k182_12 (u1 : zV) (u2 : zV) (l3 : Int) (l4 : Int) (l5 : Int) (l6 : Int) (l7 : Int) (h : zH) (Q : Option zV → zH → Prop) (k :
  (l6 = 0 →
    ((l6 : Int) = 0 ∨ (l6 : Int) = 1) ∧ Q (some (vI l6)) h) ∧
    (¬ (l6 = 0) →
    (l3 ≤ l7 →
      ((l6 : Int) = 0 ∨ (l6 : Int) = 1) ∧ Q (some (vI l6)) h) ∧
      (¬ (l3 ≤ l7) →
      zC1 181 [vR 127 111, vI l4, vI l5] h (fun v4 h4 =>
      zC1 158 [vR 127 111, vI l4, vI 6] h4 (fun v5 h5 =>
      (inR (l4 + v5)) ∧ zC1 158 [vR 127 111, vI l5, vI 6] h5 (fun v6 h6 =>
      (inR (l5 + v6)) ∧ (inR (l7 + 1)) ∧ zK 182 12 [vR 127 111, u1, u2, vI l3, vI (l4 + v5), vI (l5 + v6), vI v4, vI (l7 + 1)] [] h6 Q)))))) : zK 182 12 [vR 127 111, u1, u2, vI l3, vI l4, vI l5, vI l6, vI l7] [] h Q :=
  zwpe_W (cd := c182) rfl [12] 400 12 _ _ _ _ k
-- 183 SyntaxRulesModel.isName(IIII)Z
set_option maxRecDepth 100000 in
set_option maxHeartbeats 4000000 in
theorem k183_0 (p1 : Int) (p2 : Int) (p3 : Int) (p4 : Int) (h : zH) (Q : Option zV → zH → Prop) (k :
  zC1 179 [vR 127 111, vI p1, vI 0, vI p2, vI 4] h (fun v7 h7 =>
  zC1 158 [vR 127 111, vI p4, vI 0] h7 (fun v8 h8 =>
  (¬ v8 = p3 →
    zK 183 44 [vR 127 111, vI p1, vI p2, vI p3, vI p4, vI v7, vI 0, vI 0] [] h8 Q) ∧
    (¬ (¬ v8 = p3) →
    zC1 158 [vR 127 111, vI p4, vI 9] h8 (fun v9 h9 =>
    (¬ v9 = v7 →
      zK 183 44 [vR 127 111, vI p1, vI p2, vI p3, vI p4, vI v7, vI 0, vI 0] [] h9 Q) ∧
      (¬ (¬ v9 = v7) →
      zK 183 44 [vR 127 111, vI p1, vI p2, vI p3, vI p4, vI v7, vI 1, vI 0] [] h9 Q)))))) : zK 183 0 [vR 127 111, vI p1, vI p2, vI p3, vI p4, vU, vU, vU] [] h Q :=
  zwpe_W (cd := c183) rfl [44] 400 0 _ _ _ _ k
set_option maxRecDepth 100000 in
set_option maxHeartbeats 4000000 in
theorem k183_44 (l1 : Int) (l2 : Int) (u3 : zV) (l4 : Int) (l5 : Int) (l6 : Int) (l7 : Int) (h : zH) (Q : Option zV → zH → Prop) (k :
  (l6 = 0 →
    ((l6 : Int) = 0 ∨ (l6 : Int) = 1) ∧ Q (some (vI l6)) h) ∧
    (¬ (l6 = 0) →
    (l5 ≤ l7 →
      ((l6 : Int) = 0 ∨ (l6 : Int) = 1) ∧ Q (some (vI l6)) h) ∧
      (¬ (l5 ≤ l7) →
      zC1 158 [vR 127 111, vI l4, vI 8] h (fun v10 h10 =>
      (inR (v10 + l7)) ∧ (0 ≤ (v10 + l7 : Int)) ∧ ((v10 + l7 : Int) < 2709) ∧ zC1 142 [vI l1] h10 (fun v11 h11 =>
      zC1 179 [vR 127 111, vI l1, vI 0, vI l2, vI 3] h11 (fun v12 h12 =>
      (inR (v11 + v12)) ∧ (inR ((v11 + v12) + l7)) ∧ (0 ≤ ((v11 + v12) + l7 : Int)) ∧ (((v11 + v12) + l7 : Int) < 2709) ∧ (¬ (gI h10 128 (v10 + l7)) = (gI h12 128 ((v11 + v12) + l7)) →
        (inR (l7 + 1)) ∧ zK 183 44 [vR 127 111, vI l1, vI l2, u3, vI l4, vI l5, vI 0, vI (l7 + 1)] [] h12 Q) ∧
        (¬ (¬ (gI h10 128 (v10 + l7)) = (gI h12 128 ((v11 + v12) + l7))) →
        (inR (l7 + 1)) ∧ zK 183 44 [vR 127 111, vI l1, vI l2, u3, vI l4, vI l5, vI 1, vI (l7 + 1)] [] h12 Q))))))) : zK 183 44 [vR 127 111, vI l1, vI l2, u3, vI l4, vI l5, vI l6, vI l7] [] h Q :=
  zwpe_W (cd := c183) rfl [44] 400 44 _ _ _ _ k
-- 184 SyntaxRulesModel.fitsHole(III)Z
set_option maxRecDepth 100000 in
set_option maxHeartbeats 4000000 in
theorem k184_0 (p1 : Int) (p2 : Int) (p3 : Int) (h : zH) (Q : Option zV → zH → Prop) (k :
  zC1 179 [vR 127 111, vI p1, vI 0, vI p2, vI 1] h (fun v7 h7 =>
  zC1 179 [vR 127 111, vI p1, vI 0, vI p2, vI 2] h7 (fun v8 h8 =>
  (v8 = (-1) →
    zK 184 39 [vR 127 111, vI p1, vI p2, vI p3, vI v7, vI v8] [] h8 Q) ∧
    (¬ (v8 = (-1)) →
    zC1 158 [vR 127 111, vI p3, vI 0] h8 (fun v9 h9 =>
    (v9 = v8 →
      zK 184 39 [vR 127 111, vI p1, vI p2, vI p3, vI v7, vI v8] [] h9 Q) ∧
      (¬ (v9 = v8) →
      ((0 : Int) = 0 ∨ (0 : Int) = 1) ∧ Q (some (vI 0)) h9)))))) : zK 184 0 [vR 127 111, vI p1, vI p2, vI p3, vU, vU] [] h Q :=
  zwpe_W (cd := c184) rfl [39] 400 0 _ _ _ _ k
set_option maxRecDepth 100000 in
set_option maxHeartbeats 4000000 in
theorem k184_39 (u1 : zV) (u2 : zV) (l3 : Int) (l4 : Int) (u5 : zV) (h : zH) (Q : Option zV → zH → Prop) (k :
  (0 ≤ (l4 : Int)) ∧ ((l4 : Int) < 26) ∧ ((gI h 147 l4) = (-1) →
    (0 ≤ (l4 : Int)) ∧ ((l4 : Int) < 26) ∧ ∀ h10 : zH, h10 = sI h 146 l4 l3 →
    (0 ≤ (l4 : Int)) ∧ ((l4 : Int) < 26) ∧ ∀ h11 : zH, h11 = sI h10 147 l4 1 →
    ((1 : Int) = 0 ∨ (1 : Int) = 1) ∧ Q (some (vI 1)) h11) ∧
    (¬ ((gI h 147 l4) = (-1)) →
    (0 ≤ (l4 : Int)) ∧ ((l4 : Int) < 26) ∧ zC1 181 [vR 127 111, vI (gI h 146 l4), vI l3] h (fun v12 h12 =>
    ((v12 : Int) = 0 ∨ (v12 : Int) = 1) ∧ Q (some (vI v12)) h12))) : zK 184 39 [vR 127 111, u1, u2, vI l3, vI l4, u5] [] h Q :=
  zwpe_W (cd := c184) rfl [39] 400 39 _ _ _ _ k
-- 185 SyntaxRulesModel.fitsRow(III)Z
set_option maxRecDepth 100000 in
set_option maxHeartbeats 4000000 in
theorem k185_0 (p1 : Int) (p2 : Int) (p3 : Int) (h : zH) (Q : Option zV → zH → Prop) (k :
  zC1 179 [vR 127 111, vI p1, vI 0, vI p2, vI 1] h (fun v10 h10 =>
  (0 ≤ (gI h10 127 35 : Int)) ∧ ((gI h10 127 35 : Int) < 3) ∧ (inR ((gI h10 127 35) + 1)) ∧ ∀ h11 : zH, h11 = sI h10 127 35 ((gI h10 127 35) + 1) →
  (0 ≤ (p3 : Int)) ∧ ((p3 : Int) < 21) ∧ ((gI h10 145 (gI h10 127 35)) ≤ (gI h11 149 p3) →
    (0 ≤ (p3 : Int)) ∧ ((p3 : Int) < 21) ∧ zK 185 60 [vR 127 111, vI p1, vI p2, vI p3, vI v10, vI (gI h10 145 (gI h10 127 35)), vI (gI h11 148 p3), vI 0] [] h11 Q) ∧
    (¬ ((gI h10 145 (gI h10 127 35)) ≤ (gI h11 149 p3)) →
    ((1 : Int) = 0 ∨ (1 : Int) = 1) ∧ ∀ h12 : zH, h12 = sI h11 127 36 1 →
    ((0 : Int) = 0 ∨ (0 : Int) = 1) ∧ Q (some (vI 0)) h12))) : zK 185 0 [vR 127 111, vI p1, vI p2, vI p3, vU, vU, vU, vU] [] h Q :=
  zwpe_W (cd := c185) rfl [60] 400 0 _ _ _ _ k
set_option maxRecDepth 100000 in
set_option maxHeartbeats 4000000 in
theorem k185_60 (u1 : zV) (u2 : zV) (l3 : Int) (l4 : Int) (l5 : Int) (l6 : Int) (l7 : Int) (h : zH) (Q : Option zV → zH → Prop) (k :
  (l5 ≤ l7 →
    (0 ≤ (l3 : Int)) ∧ ((l3 : Int) < 21) ∧ (inR ((gI h 149 l3) - l5)) ∧ (0 ≤ (l3 : Int)) ∧ ((l3 : Int) < 21) ∧ ∀ h13 : zH, h13 = sI h 149 l3 ((gI h 149 l3) - l5) →
    (0 ≤ (l4 : Int)) ∧ ((l4 : Int) < 26) ∧ ((gI h13 147 l4) = (-1) →
      (0 ≤ (l4 : Int)) ∧ ((l4 : Int) < 26) ∧ ∀ h14 : zH, h14 = sI h13 146 l4 l6 →
      (0 ≤ (l4 : Int)) ∧ ((l4 : Int) < 26) ∧ ∀ h15 : zH, h15 = sI h14 147 l4 l5 →
      ((1 : Int) = 0 ∨ (1 : Int) = 1) ∧ Q (some (vI 1)) h15) ∧
      (¬ ((gI h13 147 l4) = (-1)) →
      (0 ≤ (l4 : Int)) ∧ ((l4 : Int) < 26) ∧ (¬ (gI h13 147 l4) = l5 →
        ((0 : Int) = 0 ∨ (0 : Int) = 1) ∧ Q (some (vI 0)) h13) ∧
        (¬ (¬ (gI h13 147 l4) = l5) →
        (0 ≤ (l4 : Int)) ∧ ((l4 : Int) < 26) ∧ zC1 182 [vR 127 111, vI (gI h13 146 l4), vI l6, vI l5] h13 (fun v16 h16 =>
        (v16 = 0 →
          ((0 : Int) = 0 ∨ (0 : Int) = 1) ∧ Q (some (vI 0)) h16) ∧
          (¬ (v16 = 0) →
          ((1 : Int) = 0 ∨ (1 : Int) = 1) ∧ Q (some (vI 1)) h16))))) ∧
    (¬ (l5 ≤ l7) →
    (0 ≤ (l3 : Int)) ∧ ((l3 : Int) < 21) ∧ (0 ≤ (l3 : Int)) ∧ ((l3 : Int) < 21) ∧ zC1 158 [vR 127 111, vI (gI h 148 l3), vI 6] h (fun v17 h17 =>
    (inR ((gI h 148 l3) + v17)) ∧ (0 ≤ (l3 : Int)) ∧ ((l3 : Int) < 21) ∧ ∀ h18 : zH, h18 = sI h17 148 l3 ((gI h 148 l3) + v17) →
    (inR (l7 + 1)) ∧ zK 185 60 [vR 127 111, u1, u2, vI l3, vI l4, vI l5, vI l6, vI (l7 + 1)] [] h18 Q))) : zK 185 60 [vR 127 111, u1, u2, vI l3, vI l4, vI l5, vI l6, vI l7] [] h Q :=
  zwpe_W (cd := c185) rfl [60] 400 60 _ _ _ _ k
-- 186 SyntaxRulesModel.fitsLeaf(III)Z
set_option maxRecDepth 100000 in
set_option maxHeartbeats 4000000 in
theorem k186_0 (p1 : Int) (p2 : Int) (p3 : Int) (h : zH) (Q : Option zV → zH → Prop) (k :
  zC1 179 [vR 127 111, vI p1, vI 0, vI p2, vI 0] h (fun v6 h6 =>
  (v6 = (0 : Int) →
    ((1 : Int) = 0 ∨ (1 : Int) = 1) ∧ Q (some (vI 1)) h6) ∧
    (¬ (v6 = (0 : Int)) →
    (v6 = ((0 : Int) + 1) →
    zC1 184 [vR 127 111, vI p1, vI p2, vI p3] h6 (fun v10 h10 =>
    ((v10 : Int) = 0 ∨ (v10 : Int) = 1) ∧ Q (some (vI v10)) h10)) ∧
    (¬ (v6 = ((0 : Int) + 1)) →
    (v6 = ((0 : Int) + 1 + 1) →
    zC1 183 [vR 127 111, vI p1, vI p2, vI 0, vI p3] h6 (fun v9 h9 =>
    ((v9 : Int) = 0 ∨ (v9 : Int) = 1) ∧ Q (some (vI v9)) h9)) ∧
    (¬ (v6 = ((0 : Int) + 1 + 1)) →
    (v6 = ((0 : Int) + 1 + 1 + 1) →
    zC1 183 [vR 127 111, vI p1, vI p2, vI 1, vI p3] h6 (fun v8 h8 =>
    ((v8 : Int) = 0 ∨ (v8 : Int) = 1) ∧ Q (some (vI v8)) h8)) ∧
    (¬ (v6 = ((0 : Int) + 1 + 1 + 1)) →
    zC1 183 [vR 127 111, vI p1, vI p2, vI 0, vI p3] h6 (fun v7 h7 =>
    ((v7 : Int) = 0 ∨ (v7 : Int) = 1) ∧ Q (some (vI v7)) h7))))))) : zK 186 0 [vR 127 111, vI p1, vI p2, vI p3] [] h Q :=
  zwpe_W (cd := c186) rfl [] 400 0 _ _ _ _ k
-- 187 SyntaxRulesModel.goesAlong(III)Z
set_option maxRecDepth 100000 in
set_option maxHeartbeats 4000000 in
theorem k187_0 (p1 : Int) (p2 : Int) (p3 : Int) (h : zH) (Q : Option zV → zH → Prop) (k :
  ∀ h17 : zH, h17 = sI h 127 35 0 →
  ((0 : Int) = 0 ∨ (0 : Int) = 1) ∧ ∀ h18 : zH, h18 = sI h17 127 36 0 →
  zK 187 13 [vR 127 111, vI p1, vI p2, vI p3, vI 0, vU, vU, vU, vU] [] h18 Q) : zK 187 0 [vR 127 111, vI p1, vI p2, vI p3, vU, vU, vU, vU, vU] [] h Q :=
  zwpe_W (cd := c187) rfl [13, 43, 61, 178] 400 0 _ _ _ _ k
set_option maxRecDepth 100000 in
set_option maxHeartbeats 4000000 in
theorem k187_13 (l1 : Int) (l2 : Int) (l3 : Int) (l4 : Int) (u5 : zV) (u6 : zV) (u7 : zV) (u8 : zV) (h : zH) (Q : Option zV → zH → Prop) (k :
  (26 ≤ l4 →
    zK 187 43 [vR 127 111, vI l1, vI l2, vI l3, vI ((-1)), vI l3, vI l2, u7, u8] [] h Q) ∧
    (¬ (26 ≤ l4) →
    (0 ≤ (l4 : Int)) ∧ ((l4 : Int) < 26) ∧ ∀ h19 : zH, h19 = sI h 147 l4 (-1) →
    (inR (l4 + 1)) ∧ zK 187 13 [vR 127 111, vI l1, vI l2, vI l3, vI (l4 + 1), u5, u6, u7, u8] [] h19 Q)) : zK 187 13 [vR 127 111, vI l1, vI l2, vI l3, vI l4, u5, u6, u7, u8] [] h Q :=
  zwpe_W (cd := c187) rfl [13, 43, 61, 178] 400 13 _ _ _ _ k
set_option maxRecDepth 100000 in
set_option maxHeartbeats 4000000 in
theorem k187_43 (l1 : Int) (l2 : Int) (u3 : zV) (l4 : Int) (l5 : Int) (l6 : Int) (u7 : zV) (u8 : zV) (h : zH) (Q : Option zV → zH → Prop) (k :
  (l6 = l2 →
    zK 187 61 [vR 127 111, vI l1, vI l2, u3, vI l4, vI l5, vI l6, u7, u8] [] h Q) ∧
    (¬ (l6 = l2) →
    (¬ l4 = (-1) →
      zK 187 61 [vR 127 111, vI l1, vI l2, u3, vI l4, vI l5, vI l6, u7, u8] [] h Q) ∧
      (¬ (¬ l4 = (-1)) →
      (l5 = (-1) →
        ((1 : Int) = 0 ∨ (1 : Int) = 1) ∧ Q (some (vI 1)) h) ∧
        (¬ (l5 = (-1)) →
        zK 187 61 [vR 127 111, vI l1, vI l2, u3, vI l4, vI l5, vI l6, u7, u8] [] h Q)))) : zK 187 43 [vR 127 111, vI l1, vI l2, u3, vI l4, vI l5, vI l6, u7, u8] [] h Q :=
  zwpe_W (cd := c187) rfl [13, 43, 61, 178] 400 43 _ _ _ _ k
set_option maxRecDepth 100000 in
set_option maxHeartbeats 4000000 in
theorem k187_61 (l1 : Int) (l2 : Int) (u3 : zV) (l4 : Int) (l5 : Int) (l6 : Int) (u7 : zV) (u8 : zV) (h : zH) (Q : Option zV → zH → Prop) (k :
  zC1 179 [vR 127 111, vI l1, vI 0, vI l6, vI 0] h (fun v20 h20 =>
  (¬ v20 = 7 →
    (¬ v20 = 6 →
      (¬ l5 = (-1) →
        zK 187 178 [vR 127 111, vI l1, vI l2, u3, vI l4, vI l5, vI l6, vI v20, vI l5] [] h20 Q) ∧
        (¬ (¬ l5 = (-1)) →
        (0 ≤ (l4 : Int)) ∧ ((l4 : Int) < 21) ∧ (¬ (gI h20 149 l4) = 0 →
          (0 ≤ (l4 : Int)) ∧ ((l4 : Int) < 21) ∧ (0 ≤ (l4 : Int)) ∧ ((l4 : Int) < 21) ∧ zC1 158 [vR 127 111, vI (gI h20 148 l4), vI 6] h20 (fun v21 h21 =>
          (inR ((gI h20 148 l4) + v21)) ∧ (0 ≤ (l4 : Int)) ∧ ((l4 : Int) < 21) ∧ ∀ h22 : zH, h22 = sI h21 148 l4 ((gI h20 148 l4) + v21) →
          (0 ≤ (l4 : Int)) ∧ ((l4 : Int) < 21) ∧ (inR ((gI h22 149 l4) - 1)) ∧ (0 ≤ (l4 : Int)) ∧ ((l4 : Int) < 21) ∧ ∀ h23 : zH, h23 = sI h22 149 l4 ((gI h22 149 l4) - 1) →
          zK 187 178 [vR 127 111, vI l1, vI l2, u3, vI l4, vI l5, vI l6, vI v20, vI (gI h20 148 l4)] [] h23 Q)) ∧
          (¬ (¬ (gI h20 149 l4) = 0) →
          ((0 : Int) = 0 ∨ (0 : Int) = 1) ∧ Q (some (vI 0)) h20))) ∧
      (¬ (¬ v20 = 6) →
      zC1 185 [vR 127 111, vI l1, vI l6, vI l4] h20 (fun v24 h24 =>
      (¬ v24 = 0 →
        (inR (l6 + 1)) ∧ zK 187 43 [vR 127 111, vI l1, vI l2, u3, vI l4, vI l5, vI (l6 + 1), vI v20, u8] [] h24 Q) ∧
        (¬ (¬ v24 = 0) →
        ((0 : Int) = 0 ∨ (0 : Int) = 1) ∧ Q (some (vI 0)) h24)))) ∧
    (¬ (¬ v20 = 7) →
    (0 ≤ (l4 : Int)) ∧ ((l4 : Int) < 21) ∧ ((gI h20 149 l4) ≤ 0 →
      (inR (l4 + (-1))) ∧ (inR (l6 + 1)) ∧ zK 187 43 [vR 127 111, vI l1, vI l2, u3, vI (l4 + (-1)), vI l5, vI (l6 + 1), vI v20, u8] [] h20 Q) ∧
      (¬ ((gI h20 149 l4) ≤ 0) →
      ((0 : Int) = 0 ∨ (0 : Int) = 1) ∧ Q (some (vI 0)) h20)))) : zK 187 61 [vR 127 111, vI l1, vI l2, u3, vI l4, vI l5, vI l6, u7, u8] [] h Q :=
  zwpe_W (cd := c187) rfl [13, 43, 61, 178] 400 61 _ _ _ _ k
set_option maxRecDepth 100000 in
set_option maxHeartbeats 4000000 in
theorem k187_178 (l1 : Int) (l2 : Int) (u3 : zV) (l4 : Int) (u5 : zV) (l6 : Int) (l7 : Int) (l8 : Int) (h : zH) (Q : Option zV → zH → Prop) (k :
  (¬ l7 = 2 →
    (¬ l7 = 5 →
      zC1 186 [vR 127 111, vI l1, vI l6, vI l8] h (fun v25 h25 =>
      (¬ v25 = 0 →
        (inR (l6 + 1)) ∧ zK 187 43 [vR 127 111, vI l1, vI l2, u3, vI l4, vI ((-1)), vI (l6 + 1), vI l7, vI l8] [] h25 Q) ∧
        (¬ (¬ v25 = 0) →
        ((0 : Int) = 0 ∨ (0 : Int) = 1) ∧ Q (some (vI 0)) h25))) ∧
      (¬ (¬ l7 = 5) →
      zC1 183 [vR 127 111, vI l1, vI l6, vI 2, vI l8] h (fun v26 h26 =>
      (¬ v26 = 0 →
        (inR (l4 + 1)) ∧ (inR (l8 + 1)) ∧ (0 ≤ (l4 + 1 : Int)) ∧ ((l4 + 1 : Int) < 21) ∧ ∀ h27 : zH, h27 = sI h26 148 (l4 + 1) (l8 + 1) →
        zC1 158 [vR 127 111, vI l8, vI 3] h27 (fun v28 h28 =>
        (0 ≤ (l4 + 1 : Int)) ∧ ((l4 + 1 : Int) < 21) ∧ ∀ h29 : zH, h29 = sI h28 149 (l4 + 1) v28 →
        (inR (l6 + 1)) ∧ zK 187 43 [vR 127 111, vI l1, vI l2, u3, vI (l4 + 1), vI ((-1)), vI (l6 + 1), vI l7, vI l8] [] h29 Q)) ∧
        (¬ (¬ v26 = 0) →
        ((0 : Int) = 0 ∨ (0 : Int) = 1) ∧ Q (some (vI 0)) h26)))) ∧
    (¬ (¬ l7 = 2) →
    (0 ≤ (gI h 127 35 : Int)) ∧ ((gI h 127 35 : Int) < 3) ∧ (inR (l8 + (gI h 145 (gI h 127 35)))) ∧ (inR ((gI h 127 35) + 1)) ∧ ∀ h30 : zH, h30 = sI h 127 35 ((gI h 127 35) + 1) →
    zC1 158 [vR 127 111, vI l8, vI 6] h30 (fun v31 h31 =>
    (inR (l8 + v31)) ∧ ((l8 + (gI h 145 (gI h 127 35))) < (l8 + v31) →
      (inR (l6 + 1)) ∧ zK 187 43 [vR 127 111, vI l1, vI l2, u3, vI l4, vI (l8 + (gI h 145 (gI h 127 35))), vI (l6 + 1), vI l7, vI l8] [] h31 Q) ∧
      (¬ ((l8 + (gI h 145 (gI h 127 35))) < (l8 + v31)) →
      ((1 : Int) = 0 ∨ (1 : Int) = 1) ∧ ∀ h32 : zH, h32 = sI h31 127 36 1 →
      ((0 : Int) = 0 ∨ (0 : Int) = 1) ∧ Q (some (vI 0)) h32)))) : zK 187 178 [vR 127 111, vI l1, vI l2, u3, vI l4, u5, vI l6, vI l7, vI l8] [] h Q :=
  zwpe_W (cd := c187) rfl [13, 43, 61, 178] 400 178 _ _ _ _ k
-- 188 SyntaxRulesModel.goesOn()Z
set_option maxRecDepth 100000 in
set_option maxHeartbeats 4000000 in
theorem k188_0 (h : zH) (Q : Option zV → zH → Prop) (k :
  ((gI h 127 36) = 0 →
    (inR ((gI h 127 35) - 1)) ∧ zK 188 22 [vR 127 111, vU, vU] [vI ((gI h 127 35) - 1)] h Q) ∧
    (¬ ((gI h 127 36) = 0) →
    (inR ((gI h 127 35) - 2)) ∧ zK 188 22 [vR 127 111, vU, vU] [vI ((gI h 127 35) - 2)] h Q)) : zK 188 0 [vR 127 111, vU, vU] [] h Q :=
  zwpe_W (cd := c188) rfl [22, 43] 400 0 _ _ _ _ k
set_option maxRecDepth 100000 in
set_option maxHeartbeats 4000000 in
theorem k188_22 (u1 : zV) (u2 : zV) (s0 : Int) (h : zH) (Q : Option zV → zH → Prop) (k :
  (0 ≤ s0 →
    (0 ≤ (s0 : Int)) ∧ ((s0 : Int) < 3) ∧ (inR ((gI h 145 s0) + 1)) ∧ (0 ≤ (s0 : Int)) ∧ ((s0 : Int) < 3) ∧ ∀ h3 : zH, h3 = sI h 145 s0 ((gI h 145 s0) + 1) →
    (inR (s0 + 1)) ∧ zK 188 43 [vR 127 111, vI s0, vI (s0 + 1)] [] h3 Q) ∧
    (¬ (0 ≤ s0) →
    ((0 : Int) = 0 ∨ (0 : Int) = 1) ∧ Q (some (vI 0)) h)) : zK 188 22 [vR 127 111, u1, u2] [vI s0] h Q :=
  zwpe_W (cd := c188) rfl [22, 43] 400 22 _ _ _ _ k
set_option maxRecDepth 100000 in
set_option maxHeartbeats 4000000 in
theorem k188_43 (u1 : zV) (l2 : Int) (h : zH) (Q : Option zV → zH → Prop) (k :
  (3 ≤ l2 →
    ((1 : Int) = 0 ∨ (1 : Int) = 1) ∧ Q (some (vI 1)) h) ∧
    (¬ (3 ≤ l2) →
    (0 ≤ (l2 : Int)) ∧ ((l2 : Int) < 3) ∧ ∀ h4 : zH, h4 = sI h 145 l2 0 →
    (inR (l2 + 1)) ∧ zK 188 43 [vR 127 111, u1, vI (l2 + 1)] [] h4 Q)) : zK 188 43 [vR 127 111, u1, vI l2] [] h Q :=
  zwpe_W (cd := c188) rfl [22, 43] 400 43 _ _ _ _ k
-- 189 SyntaxRulesModel.startChoices()V
set_option maxRecDepth 100000 in
set_option maxHeartbeats 4000000 in
theorem k189_0 (h : zH) (Q : Option zV → zH → Prop) (k :
  zK 189 2 [vR 127 111, vI 0] [] h Q) : zK 189 0 [vR 127 111, vU] [] h Q :=
  zwpe_W (cd := c189) rfl [2] 400 0 _ _ _ _ k
set_option maxRecDepth 100000 in
set_option maxHeartbeats 4000000 in
theorem k189_2 (l1 : Int) (h : zH) (Q : Option zV → zH → Prop) (k :
  (3 ≤ l1 →
    Q none h) ∧
    (¬ (3 ≤ l1) →
    (0 ≤ (l1 : Int)) ∧ ((l1 : Int) < 3) ∧ ∀ h2 : zH, h2 = sI h 145 l1 0 →
    (inR (l1 + 1)) ∧ zK 189 2 [vR 127 111, vI (l1 + 1)] [] h2 Q)) : zK 189 2 [vR 127 111, vI l1] [] h Q :=
  zwpe_W (cd := c189) rfl [2] 400 2 _ _ _ _ k
-- 190 SyntaxRulesModel.fits(III)Z
set_option maxRecDepth 100000 in
set_option maxHeartbeats 4000000 in
theorem k190_0 (p1 : Int) (p2 : Int) (p3 : Int) (h : zH) (Q : Option zV → zH → Prop) (k :
  zC0 189 [vR 127 111] h (fun h5 =>
  zC1 187 [vR 127 111, vI p1, vI p2, vI p3] h5 (fun v6 h6 =>
  zK 190 13 [vR 127 111, vI p1, vI p2, vI p3, vI v6] [] h6 Q))) : zK 190 0 [vR 127 111, vI p1, vI p2, vI p3, vU] [] h Q :=
  zwpe_W (cd := c190) rfl [13] 400 0 _ _ _ _ k
set_option maxRecDepth 100000 in
set_option maxHeartbeats 4000000 in
theorem k190_13 (l1 : Int) (l2 : Int) (l3 : Int) (l4 : Int) (h : zH) (Q : Option zV → zH → Prop) (k :
  (¬ l4 = 0 →
    ((l4 : Int) = 0 ∨ (l4 : Int) = 1) ∧ Q (some (vI l4)) h) ∧
    (¬ (¬ l4 = 0) →
    zC1 188 [vR 127 111] h (fun v7 h7 =>
    (v7 = 0 →
      ((l4 : Int) = 0 ∨ (l4 : Int) = 1) ∧ Q (some (vI l4)) h7) ∧
      (¬ (v7 = 0) →
      zC1 187 [vR 127 111, vI l1, vI l2, vI l3] h7 (fun v8 h8 =>
      zK 190 13 [vR 127 111, vI l1, vI l2, vI l3, vI v8] [] h8 Q))))) : zK 190 13 [vR 127 111, vI l1, vI l2, vI l3, vI l4] [] h Q :=
  zwpe_W (cd := c190) rfl [13] 400 13 _ _ _ _ k
-- 191 SyntaxRulesModel.fits(II)Z
set_option maxRecDepth 100000 in
set_option maxHeartbeats 4000000 in
theorem k191_0 (p1 : Int) (p2 : Int) (h : zH) (Q : Option zV → zH → Prop) (k :
  zC1 143 [vR 127 111, vI p1] h (fun v3 h3 =>
  (v3 = 0 →
    ((0 : Int) = 0 ∨ (0 : Int) = 1) ∧ Q (some (vI 0)) h3) ∧
    (¬ (v3 = 0) →
    zC1 190 [vR 127 111, vI p1, vI 0, vI p2] h3 (fun v4 h4 =>
    (v4 = 0 →
      ((0 : Int) = 0 ∨ (0 : Int) = 1) ∧ Q (some (vI 0)) h4) ∧
      (¬ (v4 = 0) →
      ((1 : Int) = 0 ∨ (1 : Int) = 1) ∧ Q (some (vI 1)) h4))))) : zK 191 0 [vR 127 111, vI p1, vI p2] [] h Q :=
  zwpe_W (cd := c191) rfl [] 400 0 _ _ _ _ k
-- 192 SyntaxRulesModel.ways(II)I
set_option maxRecDepth 100000 in
set_option maxHeartbeats 4000000 in
theorem k192_0 (p1 : Int) (p2 : Int) (h : zH) (Q : Option zV → zH → Prop) (k :
  ∀ h8 : zH, h8 = sI h 127 0 0 →
  zC1 143 [vR 127 111, vI p1] h8 (fun v9 h9 =>
  (v9 = 0 →
    Q (some (vI ((-1)))) h9) ∧
    (¬ (v9 = 0) →
    zC1 157 [vR 127 111, vI p2] h9 (fun v10 h10 =>
    (¬ v10 = 0 →
      zC0 189 [vR 127 111] h10 (fun h11 =>
      zK 192 32 [vR 127 111, vI p1, vI p2, vI 0, vI 1] [] h11 Q)) ∧
      (¬ (¬ v10 = 0) →
      Q (some (vI ((-1)))) h10))))) : zK 192 0 [vR 127 111, vI p1, vI p2, vU, vU] [] h Q :=
  zwpe_W (cd := c192) rfl [32] 400 0 _ _ _ _ k
set_option maxRecDepth 100000 in
set_option maxHeartbeats 4000000 in
theorem k192_32 (l1 : Int) (l2 : Int) (l3 : Int) (l4 : Int) (h : zH) (Q : Option zV → zH → Prop) (k :
  (l4 = 0 →
    Q (some (vI l3)) h) ∧
    (¬ (l4 = 0) →
    (500 ≤ l3 →
      Q (some (vI l3)) h) ∧
      (¬ (500 ≤ l3) →
      zC1 187 [vR 127 111, vI l1, vI 0, vI l2] h (fun v12 h12 =>
      (v12 = 0 →
        (inR (l3 + 0)) ∧ zC1 188 [vR 127 111] h12 (fun v13 h13 =>
        zK 192 32 [vR 127 111, vI l1, vI l2, vI (l3 + 0), vI v13] [] h13 Q)) ∧
        (¬ (v12 = 0) →
        (inR (l3 + 1)) ∧ zC1 188 [vR 127 111] h12 (fun v14 h14 =>
        zK 192 32 [vR 127 111, vI l1, vI l2, vI (l3 + 1), vI v14] [] h14 Q)))))) : zK 192 32 [vR 127 111, vI l1, vI l2, vI l3, vI l4] [] h Q :=
  zwpe_W (cd := c192) rfl [32] 400 32 _ _ _ _ k
-- 193 SyntaxRulesModel.held(IIII)I
set_option maxRecDepth 100000 in
set_option maxHeartbeats 4000000 in
theorem k193_0 (p1 : Int) (p2 : Int) (p3 : Int) (p4 : Int) (h : zH) (Q : Option zV → zH → Prop) (k :
  ∀ h6 : zH, h6 = sI h 127 0 0 →
  zC1 157 [vR 127 111, vI p2] h6 (fun v7 h7 =>
  (v7 = 0 →
    Q (some (vI ((-1)))) h7) ∧
    (¬ (v7 = 0) →
    zC1 141 [vL p3, vL 0, vL 25] h7 (fun v8 h8 =>
    (v8 = 0 →
      Q (some (vI ((-1)))) h8) ∧
      (¬ (v8 = 0) →
      zC1 141 [vL p4, vL 0, vL 1] h8 (fun v9 h9 =>
      (v9 = 0 →
        Q (some (vI ((-1)))) h9) ∧
        (¬ (v9 = 0) →
        zC1 191 [vR 127 111, vI p1, vI p2] h9 (fun v10 h10 =>
        (v10 = 0 →
          Q (some (vI ((-1)))) h10) ∧
          (¬ (v10 = 0) →
          (0 ≤ (p3 : Int)) ∧ ((p3 : Int) < 26) ∧ (¬ (gI h10 147 p3) = (-1) →
            (¬ p4 = 1 →
              (0 ≤ (p3 : Int)) ∧ ((p3 : Int) < 26) ∧ (¬ (gI h10 147 p3) = 0 →
                (0 ≤ (p3 : Int)) ∧ ((p3 : Int) < 26) ∧ Q (some (vI (gI h10 146 p3))) h10) ∧
                (¬ (¬ (gI h10 147 p3) = 0) →
                Q (some (vI ((-1)))) h10)) ∧
              (¬ (¬ p4 = 1) →
              (0 ≤ (p3 : Int)) ∧ ((p3 : Int) < 26) ∧ Q (some (vI (gI h10 147 p3))) h10)) ∧
            (¬ (¬ (gI h10 147 p3) = (-1)) →
            Q (some (vI ((-1)))) h10)))))))))) : zK 193 0 [vR 127 111, vI p1, vI p2, vI p3, vI p4] [] h Q :=
  zwpe_W (cd := c193) rfl [] 400 0 _ _ _ _ k
-- 194 SyntaxRulesModel.found(II)I
set_option maxRecDepth 100000 in
set_option maxHeartbeats 4000000 in
theorem k194_0 (p1 : Int) (p2 : Int) (h : zH) (Q : Option zV → zH → Prop) (k :
  ∀ h4 : zH, h4 = sI h 127 0 0 →
  zC1 143 [vR 127 111, vI p1] h4 (fun v5 h5 =>
  (v5 = 0 →
    Q (some (vI ((-1)))) h5) ∧
    (¬ (v5 = 0) →
    ((-1) ≤ p2 →
      zK 194 25 [vR 127 111, vI p1, vI p2, vI 0, vI 0] [] h5 Q) ∧
      (¬ ((-1) ≤ p2) →
      Q (some (vI ((-1)))) h5)))) : zK 194 0 [vR 127 111, vI p1, vI p2, vU, vU] [] h Q :=
  zwpe_W (cd := c194) rfl [25] 400 0 _ _ _ _ k
set_option maxRecDepth 100000 in
set_option maxHeartbeats 4000000 in
theorem k194_25 (l1 : Int) (l2 : Int) (l3 : Int) (l4 : Int) (h : zH) (Q : Option zV → zH → Prop) (k :
  ((gI h 127 20) ≤ l4 →
    (¬ l2 = (-1) →
      Q (some (vI ((-1)))) h) ∧
      (¬ (¬ l2 = (-1)) →
      Q (some (vI l3)) h)) ∧
    (¬ ((gI h 127 20) ≤ l4) →
    zC1 191 [vR 127 111, vI l1, vI l4] h (fun v6 h6 =>
    (v6 = 0 →
      (inR (l4 + 1)) ∧ zK 194 25 [vR 127 111, vI l1, vI l2, vI l3, vI (l4 + 1)] [] h6 Q) ∧
      (¬ (v6 = 0) →
      (¬ l3 = l2 →
        (inR (l3 + 1)) ∧ (inR (l4 + 1)) ∧ zK 194 25 [vR 127 111, vI l1, vI l2, vI (l3 + 1), vI (l4 + 1)] [] h6 Q) ∧
        (¬ (¬ l3 = l2) →
        Q (some (vI l4)) h6))))) : zK 194 25 [vR 127 111, vI l1, vI l2, vI l3, vI l4] [] h Q :=
  zwpe_W (cd := c194) rfl [25] 400 25 _ _ _ _ k
-- 195 SyntaxRulesModel.fitting(I)I
set_option maxRecDepth 100000 in
set_option maxHeartbeats 4000000 in
theorem k195_0 (p1 : Int) (h : zH) (Q : Option zV → zH → Prop) (k :
  zK 195 4 [vR 127 111, vI p1, vI 0, vI 0] [] h Q) : zK 195 0 [vR 127 111, vI p1, vU, vU] [] h Q :=
  zwpe_W (cd := c195) rfl [4] 400 0 _ _ _ _ k
set_option maxRecDepth 100000 in
set_option maxHeartbeats 4000000 in
theorem k195_4 (l1 : Int) (l2 : Int) (l3 : Int) (h : zH) (Q : Option zV → zH → Prop) (k :
  (8 ≤ l3 →
    Q (some (vI l2)) h) ∧
    (¬ (8 ≤ l3) →
    zC1 191 [vR 127 111, vI l3, vI l1] h (fun v2 h2 =>
    (v2 = 0 →
      (inR (l3 + 1)) ∧ zK 195 4 [vR 127 111, vI l1, vI (iOr l2 0), vI (l3 + 1)] [] h2 Q) ∧
      (¬ (v2 = 0) →
      (inR (l3 + 1)) ∧ zK 195 4 [vR 127 111, vI l1, vI (iOr l2 (iShl 1 l3)), vI (l3 + 1)] [] h2 Q)))) : zK 195 4 [vR 127 111, vI l1, vI l2, vI l3] [] h Q :=
  zwpe_W (cd := c195) rfl [4] 400 4 _ _ _ _ k
-- 196 SyntaxRulesModel.rulesOf(I)I
set_option maxRecDepth 100000 in
set_option maxHeartbeats 4000000 in
theorem k196_0 (p1 : Int) (h : zH) (Q : Option zV → zH → Prop) (k :
  ∀ h4 : zH, h4 = sI h 127 0 0 →
  zC1 157 [vR 127 111, vI p1] h4 (fun v5 h5 =>
  (v5 = 0 →
    Q (some (vI ((-1)))) h5) ∧
    (¬ (v5 = 0) →
    zC1 195 [vR 127 111, vI p1] h5 (fun v6 h6 =>
    Q (some (vI v6)) h6)))) : zK 196 0 [vR 127 111, vI p1] [] h Q :=
  zwpe_W (cd := c196) rfl [] 400 0 _ _ _ _ k
-- 197 SyntaxRulesModel.node(II)I
set_option maxRecDepth 100000 in
set_option maxHeartbeats 4000000 in
theorem k197_0 (p1 : Int) (p2 : Int) (h : zH) (Q : Option zV → zH → Prop) (k :
  zC1 157 [vR 127 111, vI p1] h (fun v12 h12 =>
  (v12 = 0 →
    zK 197 14 [vR 127 111, vI p1, vI p2] [vI 1, vR 127 111] h12 Q) ∧
    (¬ (v12 = 0) →
    zK 197 14 [vR 127 111, vI p1, vI p2] [vI 0, vR 127 111] h12 Q))) : zK 197 0 [vR 127 111, vI p1, vI p2] [] h Q :=
  zwpe_W (cd := c197) rfl [14] 400 0 _ _ _ _ k
set_option maxRecDepth 100000 in
set_option maxHeartbeats 4000000 in
theorem k197_14 (l1 : Int) (l2 : Int) (s0 : Int) (h : zH) (Q : Option zV → zH → Prop) (k :
  ∀ h13 : zH, h13 = sI h 127 0 s0 →
  (¬ (gI h13 127 0) = 1 →
    (l2 = (0 : Int) →
      zC1 158 [vR 127 111, vI l1, vI 0] h13 (fun v22 h22 =>
      Q (some (vI v22)) h22)) ∧
      (¬ (l2 = (0 : Int)) →
      (l2 = ((0 : Int) + 1) →
      zC1 158 [vR 127 111, vI l1, vI 1] h13 (fun v21 h21 =>
      Q (some (vI v21)) h21)) ∧
      (¬ (l2 = ((0 : Int) + 1)) →
      (l2 = ((0 : Int) + 1 + 1) →
      zC1 158 [vR 127 111, vI l1, vI 2] h13 (fun v20 h20 =>
      Q (some (vI v20)) h20)) ∧
      (¬ (l2 = ((0 : Int) + 1 + 1)) →
      (l2 = ((0 : Int) + 1 + 1 + 1) →
      zC1 158 [vR 127 111, vI l1, vI 3] h13 (fun v19 h19 =>
      Q (some (vI v19)) h19)) ∧
      (¬ (l2 = ((0 : Int) + 1 + 1 + 1)) →
      (l2 = ((0 : Int) + 1 + 1 + 1 + 1) →
      zC1 158 [vR 127 111, vI l1, vI 4] h13 (fun v18 h18 =>
      Q (some (vI v18)) h18)) ∧
      (¬ (l2 = ((0 : Int) + 1 + 1 + 1 + 1)) →
      (l2 = ((0 : Int) + 1 + 1 + 1 + 1 + 1) →
      zC1 158 [vR 127 111, vI l1, vI 5] h13 (fun v16 h16 =>
      zC1 158 [vR 127 111, vI l1, vI 4] h16 (fun v17 h17 =>
      (inR (v16 - v17)) ∧ Q (some (vI (v16 - v17))) h17))) ∧
      (¬ (l2 = ((0 : Int) + 1 + 1 + 1 + 1 + 1)) →
      (l2 = ((0 : Int) + 1 + 1 + 1 + 1 + 1 + 1) →
      zC1 158 [vR 127 111, vI l1, vI 6] h13 (fun v15 h15 =>
      Q (some (vI v15)) h15)) ∧
      (¬ (l2 = ((0 : Int) + 1 + 1 + 1 + 1 + 1 + 1)) →
      (l2 = ((0 : Int) + 1 + 1 + 1 + 1 + 1 + 1 + 1) →
      zC1 158 [vR 127 111, vI l1, vI 7] h13 (fun v14 h14 =>
      Q (some (vI v14)) h14)) ∧
      (¬ (l2 = ((0 : Int) + 1 + 1 + 1 + 1 + 1 + 1 + 1)) →
      Q (some (vI ((-1)))) h13))))))))) ∧
    (¬ (¬ (gI h13 127 0) = 1) →
    Q (some (vI 0)) h13)) : zK 197 14 [vR 127 111, vI l1, vI l2] [vI s0, vR 127 111] h Q :=
  zwpe_W (cd := c197) rfl [14] 400 14 _ _ _ _ k
-- 198 SyntaxRulesModel.name(II)I
set_option maxRecDepth 100000 in
set_option maxHeartbeats 4000000 in
theorem k198_0 (p1 : Int) (p2 : Int) (h : zH) (Q : Option zV → zH → Prop) (k :
  ∀ h6 : zH, h6 = sI h 127 0 0 →
  zC1 157 [vR 127 111, vI p1] h6 (fun v7 h7 =>
  (v7 = 0 →
    Q (some (vI ((-1)))) h7) ∧
    (¬ (v7 = 0) →
    zC1 158 [vR 127 111, vI p1, vI 9] h7 (fun v8 h8 =>
    (inL (v8 - 1)) ∧ zC1 141 [vL p2, vL 0, vL (v8 - 1)] h8 (fun v9 h9 =>
    (v9 = 0 →
      Q (some (vI ((-1)))) h9) ∧
      (¬ (v9 = 0) →
      zC1 158 [vR 127 111, vI p1, vI 8] h9 (fun v10 h10 =>
      (inR (v10 + p2)) ∧ (0 ≤ (v10 + p2 : Int)) ∧ ((v10 + p2 : Int) < 2709) ∧ Q (some (vI (gI h10 128 (v10 + p2)))) h10))))))) : zK 198 0 [vR 127 111, vI p1, vI p2] [] h Q :=
  zwpe_W (cd := c198) rfl [] 400 0 _ _ _ _ k
-- 199 SyntaxRulesModel.comment(II)I
set_option maxRecDepth 100000 in
set_option maxHeartbeats 4000000 in
theorem k199_0 (p1 : Int) (p2 : Int) (h : zH) (Q : Option zV → zH → Prop) (k :
  ∀ h4 : zH, h4 = sI h 127 0 0 →
  (¬ p1 = (-1) →
    (inL ((gI h4 127 22) - 1)) ∧ zC1 141 [vL p1, vL 0, vL ((gI h4 127 22) - 1)] h4 (fun v5 h5 =>
    (v5 = 0 →
      Q (some (vI ((-1)))) h5) ∧
      (¬ (v5 = 0) →
      zC1 141 [vL p2, vL 0, vL 2] h5 (fun v6 h6 =>
      (v6 = 0 →
        Q (some (vI ((-1)))) h6) ∧
        (¬ (v6 = 0) →
        (inR (3 * p1)) ∧ (inR ((3 * p1) + p2)) ∧ (0 ≤ ((3 * p1) + p2 : Int)) ∧ (((3 * p1) + p2 : Int) < 450) ∧ Q (some (vI (gI h6 138 ((3 * p1) + p2)))) h6))))) ∧
    (¬ (¬ p1 = (-1)) →
    (¬ p2 = 0 →
      Q (some (vI ((-1)))) h4) ∧
      (¬ (¬ p2 = 0) →
      Q (some (vI (gI h4 127 22))) h4))) : zK 199 0 [vR 127 111, vI p1, vI p2] [] h Q :=
  zwpe_W (cd := c199) rfl [] 400 0 _ _ _ _ k
-- 200 SyntaxRulesModel.letter(I)I
set_option maxRecDepth 100000 in
set_option maxHeartbeats 4000000 in
theorem k200_0 (p1 : Int) (h : zH) (Q : Option zV → zH → Prop) (k :
  ∀ h3 : zH, h3 = sI h 127 0 0 →
  (0 ≤ (300 : Int)) ∧ ((300 : Int) < 2709) ∧ (inL ((gI h3 128 300) - 1)) ∧ zC1 141 [vL p1, vL 0, vL ((gI h3 128 300) - 1)] h3 (fun v4 h4 =>
  (v4 = 0 →
    Q (some (vI ((-1)))) h4) ∧
    (¬ (v4 = 0) →
    (0 ≤ (p1 : Int)) ∧ ((p1 : Int) < 2709) ∧ Q (some (vI (gI h4 128 p1))) h4))) : zK 200 0 [vR 127 111, vI p1] [] h Q :=
  zwpe_W (cd := c200) rfl [] 400 0 _ _ _ _ k
-- 201 SyntaxRulesModel.alike(II)I
set_option maxRecDepth 100000 in
set_option maxHeartbeats 4000000 in
theorem k201_0 (p1 : Int) (p2 : Int) (h : zH) (Q : Option zV → zH → Prop) (k :
  ∀ h5 : zH, h5 = sI h 127 0 0 →
  zC1 157 [vR 127 111, vI p1] h5 (fun v6 h6 =>
  (v6 = 0 →
    Q (some (vI ((-1)))) h6) ∧
    (¬ (v6 = 0) →
    zC1 157 [vR 127 111, vI p2] h6 (fun v7 h7 =>
    (¬ v7 = 0 →
      zC1 181 [vR 127 111, vI p1, vI p2] h7 (fun v8 h8 =>
      (v8 = 0 →
        Q (some (vI 0)) h8) ∧
        (¬ (v8 = 0) →
        Q (some (vI 1)) h8))) ∧
      (¬ (¬ v7 = 0) →
      Q (some (vI ((-1)))) h7))))) : zK 201 0 [vR 127 111, vI p1, vI p2] [] h Q :=
  zwpe_W (cd := c201) rfl [] 400 0 _ _ _ _ k
-- 202 SyntaxRulesModel.twins(II)I
set_option maxRecDepth 100000 in
set_option maxHeartbeats 4000000 in
theorem k202_0 (p1 : Int) (p2 : Int) (h : zH) (Q : Option zV → zH → Prop) (k :
  ∀ h5 : zH, h5 = sI h 127 0 0 →
  zC1 157 [vR 127 111, vI p1] h5 (fun v6 h6 =>
  (v6 = 0 →
    Q (some (vI ((-1)))) h6) ∧
    (¬ (v6 = 0) →
    zC1 141 [vL p2, vL 0, vL 1] h6 (fun v7 h7 =>
    (¬ v7 = 0 →
      zK 202 33 [vR 127 111, vI p1, vI p2, vI 0, vI ((-1)), vI 0] [] h7 Q) ∧
      (¬ (¬ v7 = 0) →
      Q (some (vI ((-1)))) h7))))) : zK 202 0 [vR 127 111, vI p1, vI p2, vU, vU, vU] [] h Q :=
  zwpe_W (cd := c202) rfl [33] 400 0 _ _ _ _ k
set_option maxRecDepth 100000 in
set_option maxHeartbeats 4000000 in
theorem k202_33 (l1 : Int) (l2 : Int) (l3 : Int) (l4 : Int) (l5 : Int) (h : zH) (Q : Option zV → zH → Prop) (k :
  ((gI h 127 20) ≤ l5 →
    (¬ l2 = 0 →
      Q (some (vI l4)) h) ∧
      (¬ (¬ l2 = 0) →
      Q (some (vI l3)) h)) ∧
    (¬ ((gI h 127 20) ≤ l5) →
    zC1 181 [vR 127 111, vI l1, vI l5] h (fun v8 h8 =>
    (v8 = 0 →
      (inR (l5 + 1)) ∧ zK 202 33 [vR 127 111, vI l1, vI l2, vI l3, vI l4, vI (l5 + 1)] [] h8 Q) ∧
      (¬ (v8 = 0) →
      (inR (l3 + 1)) ∧ (¬ l4 = (-1) →
        (inR (l5 + 1)) ∧ zK 202 33 [vR 127 111, vI l1, vI l2, vI (l3 + 1), vI l4, vI (l5 + 1)] [] h8 Q) ∧
        (¬ (¬ l4 = (-1)) →
        (inR (l5 + 1)) ∧ zK 202 33 [vR 127 111, vI l1, vI l2, vI (l3 + 1), vI l5, vI (l5 + 1)] [] h8 Q))))) : zK 202 33 [vR 127 111, vI l1, vI l2, vI l3, vI l4, vI l5] [] h Q :=
  zwpe_W (cd := c202) rfl [33] 400 33 _ _ _ _ k
-- 203 SyntaxRulesModel.tokensOf(III)I
set_option maxRecDepth 100000 in
set_option maxHeartbeats 4000000 in
theorem k203_0 (p1 : Int) (p2 : Int) (p3 : Int) (h : zH) (Q : Option zV → zH → Prop) (k :
  zK 203 6 [vR 127 111, vI p1, vI p2, vI p3, vI 0, vI 0] [] h Q) : zK 203 0 [vR 127 111, vI p1, vI p2, vI p3, vU, vU] [] h Q :=
  zwpe_W (cd := c203) rfl [6] 400 0 _ _ _ _ k
set_option maxRecDepth 100000 in
set_option maxHeartbeats 4000000 in
theorem k203_6 (l1 : Int) (l2 : Int) (l3 : Int) (l4 : Int) (l5 : Int) (h : zH) (Q : Option zV → zH → Prop) (k :
  (inR (2 * l1)) ∧ (inR ((2 * l1) + l2)) ∧ (0 ≤ ((2 * l1) + l2 : Int)) ∧ (((2 * l1) + l2 : Int) < 16) ∧ ((gI h 140 ((2 * l1) + l2)) ≤ l5 →
    Q (some (vI l4)) h) ∧
    (¬ ((gI h 140 ((2 * l1) + l2)) ≤ l5) →
    zC1 179 [vR 127 111, vI l1, vI l2, vI l5, vI 0] h (fun v2 h2 =>
    (¬ v2 = l3 →
      (inR (l4 + 0)) ∧ (inR (l5 + 1)) ∧ zK 203 6 [vR 127 111, vI l1, vI l2, vI l3, vI (l4 + 0), vI (l5 + 1)] [] h2 Q) ∧
      (¬ (¬ v2 = l3) →
      (inR (l4 + 1)) ∧ (inR (l5 + 1)) ∧ zK 203 6 [vR 127 111, vI l1, vI l2, vI l3, vI (l4 + 1), vI (l5 + 1)] [] h2 Q)))) : zK 203 6 [vR 127 111, vI l1, vI l2, vI l3, vI l4, vI l5] [] h Q :=
  zwpe_W (cd := c203) rfl [6] 400 6 _ _ _ _ k
-- 204 SyntaxRulesModel.lettersOf(I)I
set_option maxRecDepth 100000 in
set_option maxHeartbeats 4000000 in
theorem k204_0 (p1 : Int) (h : zH) (Q : Option zV → zH → Prop) (k :
  zK 204 4 [vR 127 111, vI p1, vI 0, vI 0, vU] [] h Q) : zK 204 0 [vR 127 111, vI p1, vU, vU, vU] [] h Q :=
  zwpe_W (cd := c204) rfl [4, 40, 67] 400 0 _ _ _ _ k
set_option maxRecDepth 100000 in
set_option maxHeartbeats 4000000 in
theorem k204_4 (l1 : Int) (l2 : Int) (l3 : Int) (u4 : zV) (h : zH) (Q : Option zV → zH → Prop) (k :
  (inR (2 * l1)) ∧ (0 ≤ (2 * l1 : Int)) ∧ ((2 * l1 : Int) < 16) ∧ ((gI h 140 (2 * l1)) ≤ l3 →
    zK 204 67 [vR 127 111, vI l1, vI l2, vI 0, vI l2] [] h Q) ∧
    (¬ ((gI h 140 (2 * l1)) ≤ l3) →
    zC1 179 [vR 127 111, vI l1, vI 0, vI l3, vI 0] h (fun v3 h3 =>
    (v3 = 1 →
      zK 204 40 [vR 127 111, vI l1, vI l2, vI l3, vI v3] [vI l2] h3 Q) ∧
      (¬ (v3 = 1) →
      (¬ v3 = 6 →
        (inR (l3 + 1)) ∧ zK 204 4 [vR 127 111, vI l1, vI (iOr l2 0), vI (l3 + 1), vI v3] [] h3 Q) ∧
        (¬ (¬ v3 = 6) →
        zK 204 40 [vR 127 111, vI l1, vI l2, vI l3, vI v3] [vI l2] h3 Q))))) : zK 204 4 [vR 127 111, vI l1, vI l2, vI l3, u4] [] h Q :=
  zwpe_W (cd := c204) rfl [4, 40, 67] 400 4 _ _ _ _ k
set_option maxRecDepth 100000 in
set_option maxHeartbeats 4000000 in
theorem k204_40 (l1 : Int) (u2 : zV) (l3 : Int) (u4 : zV) (s0 : Int) (h : zH) (Q : Option zV → zH → Prop) (k :
  zC1 179 [vR 127 111, vI l1, vI 0, vI l3, vI 1] h (fun v4 h4 =>
  (inR (l3 + 1)) ∧ zK 204 4 [vR 127 111, vI l1, vI (iOr s0 (iShl 1 v4)), vI (l3 + 1), u4] [] h4 Q)) : zK 204 40 [vR 127 111, vI l1, u2, vI l3, u4] [vI s0] h Q :=
  zwpe_W (cd := c204) rfl [4, 40, 67] 400 40 _ _ _ _ k
set_option maxRecDepth 100000 in
set_option maxHeartbeats 4000000 in
theorem k204_67 (u0 : zV) (u1 : zV) (u2 : zV) (l3 : Int) (l4 : Int) (h : zH) (Q : Option zV → zH → Prop) (k :
  (l4 = 0 →
    Q (some (vI l3)) h) ∧
    (¬ (l4 = 0) →
    (inR (l3 + 1)) ∧ (inR (l4 - 1)) ∧ zK 204 67 [u0, u1, u2, vI (l3 + 1), vI (iAnd l4 (l4 - 1))] [] h Q)) : zK 204 67 [u0, u1, u2, vI l3, vI l4] [] h Q :=
  zwpe_W (cd := c204) rfl [4, 40, 67] 400 67 _ _ _ _ k
-- 205 SyntaxRulesModel.told(II)I
set_option maxRecDepth 100000 in
set_option maxHeartbeats 4000000 in
theorem k205_0 (p1 : Int) (p2 : Int) (h : zH) (Q : Option zV → zH → Prop) (k :
  ∀ h7 : zH, h7 = sI h 127 0 0 →
  zC1 143 [vR 127 111, vI p1] h7 (fun v8 h8 =>
  (¬ v8 = 0 →
    (p2 = (0 : Int) →
      (0 ≤ (p1 : Int)) ∧ ((p1 : Int) < 8) ∧ Q (some (vI (gI h8 150 p1))) h8) ∧
      (¬ (p2 = (0 : Int)) →
      (p2 = ((0 : Int) + 1) →
      zC1 203 [vR 127 111, vI p1, vI 0, vI 6] h8 (fun v12 h12 =>
      Q (some (vI v12)) h12)) ∧
      (¬ (p2 = ((0 : Int) + 1)) →
      (p2 = ((0 : Int) + 1 + 1) →
      zC1 203 [vR 127 111, vI p1, vI 0, vI 2] h8 (fun v11 h11 =>
      Q (some (vI v11)) h11)) ∧
      (¬ (p2 = ((0 : Int) + 1 + 1)) →
      (p2 = ((0 : Int) + 1 + 1 + 1) →
      zC1 204 [vR 127 111, vI p1] h8 (fun v10 h10 =>
      Q (some (vI v10)) h10)) ∧
      (¬ (p2 = ((0 : Int) + 1 + 1 + 1)) →
      (p2 = ((0 : Int) + 1 + 1 + 1 + 1) →
      zC1 203 [vR 127 111, vI p1, vI 1, vI 5] h8 (fun v9 h9 =>
      Q (some (vI v9)) h9)) ∧
      (¬ (p2 = ((0 : Int) + 1 + 1 + 1 + 1)) →
      Q (some (vI ((-1)))) h8)))))) ∧
    (¬ (¬ v8 = 0) →
    Q (some (vI ((-1)))) h8))) : zK 205 0 [vR 127 111, vI p1, vI p2] [] h Q :=
  zwpe_W (cd := c205) rfl [] 400 0 _ _ _ _ k
-- 206 SyntaxRulesModel.behind(II)I
set_option maxRecDepth 100000 in
set_option maxHeartbeats 4000000 in
theorem k206_0 (p1 : Int) (p2 : Int) (h : zH) (Q : Option zV → zH → Prop) (k :
  zK 206 2 [vR 127 111, vI p1, vI p2, vI p2] [] h Q) : zK 206 0 [vR 127 111, vI p1, vI p2, vU] [] h Q :=
  zwpe_W (cd := c206) rfl [2] 400 0 _ _ _ _ k
set_option maxRecDepth 100000 in
set_option maxHeartbeats 4000000 in
theorem k206_2 (l1 : Int) (u2 : zV) (l3 : Int) (h : zH) (Q : Option zV → zH → Prop) (k :
  zC1 179 [vR 127 111, vI l1, vI 0, vI l3, vI 0] h (fun v4 h4 =>
  (¬ v4 = 2 →
    zC1 179 [vR 127 111, vI l1, vI 0, vI l3, vI 0] h4 (fun v5 h5 =>
    (¬ v5 = 5 →
      (inR (l3 + 1)) ∧ Q (some (vI (l3 + 1))) h5) ∧
      (¬ (¬ v5 = 5) →
      zC1 179 [vR 127 111, vI l1, vI 0, vI l3, vI 2] h5 (fun v6 h6 =>
      (inR (v6 + 1)) ∧ Q (some (vI (v6 + 1))) h6)))) ∧
    (¬ (¬ v4 = 2) →
    (inR (l3 + 1)) ∧ zK 206 2 [vR 127 111, vI l1, u2, vI (l3 + 1)] [] h4 Q))) : zK 206 2 [vR 127 111, vI l1, u2, vI l3] [] h Q :=
  zwpe_W (cd := c206) rfl [2] 400 2 _ _ _ _ k
-- 207 SyntaxRulesModel.addTest(III)I
set_option maxRecDepth 100000 in
set_option maxHeartbeats 4000000 in
theorem k207_0 (p1 : Int) (p2 : Int) (p3 : Int) (h : zH) (Q : Option zV → zH → Prop) (k :
  (inR (40 * p1)) ∧ (0 ≤ (p1 : Int)) ∧ ((p1 : Int) < 8) ∧ (inR ((40 * p1) + (gI h 150 p1))) ∧ (0 ≤ (p1 : Int)) ∧ ((p1 : Int) < 8) ∧ (inR ((gI h 150 p1) + 1)) ∧ (0 ≤ (p1 : Int)) ∧ ((p1 : Int) < 8) ∧ ∀ h7 : zH, h7 = sI h 150 p1 ((gI h 150 p1) + 1) →
  (0 ≤ ((40 * p1) + (gI h 150 p1) : Int)) ∧ (((40 * p1) + (gI h 150 p1) : Int) < 320) ∧ ∀ h8 : zH, h8 = sI h7 151 ((40 * p1) + (gI h 150 p1)) p2 →
  (0 ≤ ((40 * p1) + (gI h 150 p1) : Int)) ∧ (((40 * p1) + (gI h 150 p1) : Int) < 320) ∧ ∀ h9 : zH, h9 = sI h8 152 ((40 * p1) + (gI h 150 p1)) p3 →
  (0 ≤ ((40 * p1) + (gI h 150 p1) : Int)) ∧ (((40 * p1) + (gI h 150 p1) : Int) < 320) ∧ ∀ h10 : zH, h10 = sI h9 153 ((40 * p1) + (gI h 150 p1)) (gI h9 127 49) →
  (0 ≤ ((40 * p1) + (gI h 150 p1) : Int)) ∧ (((40 * p1) + (gI h 150 p1) : Int) < 320) ∧ ∀ h11 : zH, h11 = sI h10 155 ((40 * p1) + (gI h 150 p1)) 0 →
  zK 207 61 [vR 127 111, vI p1, vI p2, vI p3, vI ((40 * p1) + (gI h 150 p1)), vI 0] [] h11 Q) : zK 207 0 [vR 127 111, vI p1, vI p2, vI p3, vU, vU] [] h Q :=
  zwpe_W (cd := c207) rfl [61] 400 0 _ _ _ _ k
set_option maxRecDepth 100000 in
set_option maxHeartbeats 4000000 in
theorem k207_61 (u1 : zV) (u2 : zV) (u3 : zV) (l4 : Int) (l5 : Int) (h : zH) (Q : Option zV → zH → Prop) (k :
  ((gI h 127 49) ≤ l5 →
    Q (some (vI l4)) h) ∧
    (¬ ((gI h 127 49) ≤ l5) →
    (inR (21 * l4)) ∧ (inR ((21 * l4) + l5)) ∧ (0 ≤ (l5 : Int)) ∧ ((l5 : Int) < 21) ∧ (0 ≤ ((21 * l4) + l5 : Int)) ∧ (((21 * l4) + l5 : Int) < 6720) ∧ ∀ h12 : zH, h12 = sI h 154 ((21 * l4) + l5) (gI h 157 l5) →
    (inR (l5 + 1)) ∧ zK 207 61 [vR 127 111, u1, u2, u3, vI l4, vI (l5 + 1)] [] h12 Q)) : zK 207 61 [vR 127 111, u1, u2, u3, vI l4, vI l5] [] h Q :=
  zwpe_W (cd := c207) rfl [61] 400 61 _ _ _ _ k
-- 208 SyntaxRulesModel.testHole(II)V
set_option maxRecDepth 100000 in
set_option maxHeartbeats 4000000 in
theorem k208_0 (p1 : Int) (p2 : Int) (h : zH) (Q : Option zV → zH → Prop) (k :
  zC1 179 [vR 127 111, vI p1, vI 0, vI p2, vI 1] h (fun v9 h9 =>
  zC1 179 [vR 127 111, vI p1, vI 0, vI p2, vI 2] h9 (fun v10 h10 =>
  (v10 = (-1) →
    zK 208 29 [vR 127 111, vI p1, vI p2, vI v9, vU, vU] [] h10 Q) ∧
    (¬ (v10 = (-1)) →
    zC1 207 [vR 127 111, vI p1, vI 3, vI p2] h10 (fun v11 h11 =>
    zK 208 29 [vR 127 111, vI p1, vI p2, vI v9, vU, vU] [] h11 Q))))) : zK 208 0 [vR 127 111, vI p1, vI p2, vU, vU, vU] [] h Q :=
  zwpe_W (cd := c208) rfl [29, 64, 120] 400 0 _ _ _ _ k
set_option maxRecDepth 100000 in
set_option maxHeartbeats 4000000 in
theorem k208_29 (l1 : Int) (l2 : Int) (l3 : Int) (u4 : zV) (u5 : zV) (h : zH) (Q : Option zV → zH → Prop) (k :
  (0 ≤ (l3 : Int)) ∧ ((l3 : Int) < 26) ∧ ((gI h 158 l3) = (-1) →
    (0 ≤ (l3 : Int)) ∧ ((l3 : Int) < 26) ∧ ∀ h12 : zH, h12 = sI h 158 l3 (gI h 127 49) →
    zK 208 120 [vR 127 111, vI l1, vI l2, vI l3, vI 0, u5] [] h12 Q) ∧
    (¬ ((gI h 158 l3) = (-1)) →
    zC1 207 [vR 127 111, vI l1, vI 4, vI l2] h (fun v13 h13 =>
    (0 ≤ (l3 : Int)) ∧ ((l3 : Int) < 26) ∧ (0 ≤ (v13 : Int)) ∧ ((v13 : Int) < 320) ∧ ∀ h14 : zH, h14 = sI h13 155 v13 (gI h13 158 l3) →
    zK 208 64 [vR 127 111, vI l1, vI l2, vI l3, vI v13, vI 0] [] h14 Q))) : zK 208 29 [vR 127 111, vI l1, vI l2, vI l3, u4, u5] [] h Q :=
  zwpe_W (cd := c208) rfl [29, 64, 120] 400 29 _ _ _ _ k
set_option maxRecDepth 100000 in
set_option maxHeartbeats 4000000 in
theorem k208_64 (u1 : zV) (u2 : zV) (l3 : Int) (l4 : Int) (l5 : Int) (h : zH) (Q : Option zV → zH → Prop) (k :
  (0 ≤ (l3 : Int)) ∧ ((l3 : Int) < 26) ∧ ((gI h 158 l3) ≤ l5 →
    Q none h) ∧
    (¬ ((gI h 158 l3) ≤ l5) →
    (inR (21 * l4)) ∧ (inR ((21 * l4) + l5)) ∧ (inR (21 * l3)) ∧ (inR ((21 * l3) + l5)) ∧ (0 ≤ ((21 * l3) + l5 : Int)) ∧ (((21 * l3) + l5 : Int) < 546) ∧ (0 ≤ ((21 * l4) + l5 : Int)) ∧ (((21 * l4) + l5 : Int) < 6720) ∧ ∀ h15 : zH, h15 = sI h 156 ((21 * l4) + l5) (gI h 159 ((21 * l3) + l5)) →
    (inR (l5 + 1)) ∧ zK 208 64 [vR 127 111, u1, u2, vI l3, vI l4, vI (l5 + 1)] [] h15 Q)) : zK 208 64 [vR 127 111, u1, u2, vI l3, vI l4, vI l5] [] h Q :=
  zwpe_W (cd := c208) rfl [29, 64, 120] 400 64 _ _ _ _ k
set_option maxRecDepth 100000 in
set_option maxHeartbeats 4000000 in
theorem k208_120 (u1 : zV) (u2 : zV) (l3 : Int) (l4 : Int) (u5 : zV) (h : zH) (Q : Option zV → zH → Prop) (k :
  ((gI h 127 49) ≤ l4 →
    Q none h) ∧
    (¬ ((gI h 127 49) ≤ l4) →
    (inR (21 * l3)) ∧ (inR ((21 * l3) + l4)) ∧ (0 ≤ (l4 : Int)) ∧ ((l4 : Int) < 21) ∧ (0 ≤ ((21 * l3) + l4 : Int)) ∧ (((21 * l3) + l4 : Int) < 546) ∧ ∀ h16 : zH, h16 = sI h 159 ((21 * l3) + l4) (gI h 157 l4) →
    (inR (l4 + 1)) ∧ zK 208 120 [vR 127 111, u1, u2, vI l3, vI (l4 + 1), u5] [] h16 Q)) : zK 208 120 [vR 127 111, u1, u2, vI l3, vI l4, u5] [] h Q :=
  zwpe_W (cd := c208) rfl [29, 64, 120] 400 120 _ _ _ _ k
-- 209 SyntaxRulesModel.testItem(II)I
set_option maxRecDepth 100000 in
set_option maxHeartbeats 4000000 in
theorem k209_0 (p1 : Int) (p2 : Int) (h : zH) (Q : Option zV → zH → Prop) (k :
  zC1 179 [vR 127 111, vI p1, vI 0, vI p2, vI 0] h (fun v11 h11 =>
  (v11 = 2 →
    zK 209 31 [vR 127 111, vI p1, vI p2, vI v11] [] h11 Q) ∧
    (¬ (v11 = 2) →
    (¬ v11 = 5 →
      zK 209 46 [vR 127 111, vI p1, vI p2, vI v11] [] h11 Q) ∧
      (¬ (¬ v11 = 5) →
      zC1 179 [vR 127 111, vI p1, vI 0, vI p2, vI 5] h11 (fun v12 h12 =>
      (¬ v12 = 1 →
        zK 209 46 [vR 127 111, vI p1, vI p2, vI v11] [] h12 Q) ∧
        (¬ (¬ v12 = 1) →
        zK 209 31 [vR 127 111, vI p1, vI p2, vI v11] [] h12 Q)))))) : zK 209 0 [vR 127 111, vI p1, vI p2, vU] [] h Q :=
  zwpe_W (cd := c209) rfl [31, 46] 400 0 _ _ _ _ k
set_option maxRecDepth 100000 in
set_option maxHeartbeats 4000000 in
theorem k209_31 (l1 : Int) (l2 : Int) (u3 : zV) (h : zH) (Q : Option zV → zH → Prop) (k :
  zC1 207 [vR 127 111, vI l1, vI 5, vI l2] h (fun v13 h13 =>
  zC1 206 [vR 127 111, vI l1, vI l2] h13 (fun v14 h14 =>
  Q (some (vI v14)) h14))) : zK 209 31 [vR 127 111, vI l1, vI l2, u3] [] h Q :=
  zwpe_W (cd := c209) rfl [31, 46] 400 31 _ _ _ _ k
set_option maxRecDepth 100000 in
set_option maxHeartbeats 4000000 in
theorem k209_46 (l1 : Int) (l2 : Int) (l3 : Int) (h : zH) (Q : Option zV → zH → Prop) (k :
  (¬ l3 = 5 →
    (¬ l3 = 1 →
      (l3 = 0 →
        (inR (l2 + 1)) ∧ Q (some (vI (l2 + 1))) h) ∧
        (¬ (l3 = 0) →
        zC1 207 [vR 127 111, vI l1, vI 0, vI l2] h (fun v15 h15 =>
        (inR (l2 + 1)) ∧ Q (some (vI (l2 + 1))) h15))) ∧
      (¬ (¬ l3 = 1) →
      zC0 208 [vR 127 111, vI l1, vI l2] h (fun h16 =>
      (inR (l2 + 1)) ∧ Q (some (vI (l2 + 1))) h16))) ∧
    (¬ (¬ l3 = 5) →
    zC1 207 [vR 127 111, vI l1, vI 1, vI l2] h (fun v17 h17 =>
    zC1 207 [vR 127 111, vI l1, vI 2, vI l2] h17 (fun v18 h18 =>
    (0 ≤ (gI h18 127 49 : Int)) ∧ ((gI h18 127 49 : Int) < 21) ∧ ∀ h19 : zH, h19 = sI h18 157 (gI h18 127 49) 0 →
    (inR ((gI h19 127 49) + 1)) ∧ ∀ h20 : zH, h20 = sI h19 127 49 ((gI h19 127 49) + 1) →
    (inR (l2 + 1)) ∧ Q (some (vI (l2 + 1))) h20)))) : zK 209 46 [vR 127 111, vI l1, vI l2, vI l3] [] h Q :=
  zwpe_W (cd := c209) rfl [31, 46] 400 46 _ _ _ _ k
-- 210 SyntaxRulesModel.layTestsOf(I)V
set_option maxRecDepth 100000 in
set_option maxHeartbeats 4000000 in
theorem k210_0 (p1 : Int) (h : zH) (Q : Option zV → zH → Prop) (k :
  (0 ≤ (p1 : Int)) ∧ ((p1 : Int) < 8) ∧ ∀ h8 : zH, h8 = sI h 150 p1 0 →
  ∀ h9 : zH, h9 = sI h8 127 49 0 →
  zK 210 14 [vR 127 111, vI p1, vI 0, vU, vU] [] h9 Q) : zK 210 0 [vR 127 111, vI p1, vU, vU, vU] [] h Q :=
  zwpe_W (cd := c210) rfl [14, 35, 65, 99] 400 0 _ _ _ _ k
set_option maxRecDepth 100000 in
set_option maxHeartbeats 4000000 in
theorem k210_14 (l1 : Int) (l2 : Int) (u3 : zV) (u4 : zV) (h : zH) (Q : Option zV → zH → Prop) (k :
  (26 ≤ l2 →
    zK 210 35 [vR 127 111, vI l1, vI 0, u3, u4] [] h Q) ∧
    (¬ (26 ≤ l2) →
    (0 ≤ (l2 : Int)) ∧ ((l2 : Int) < 26) ∧ ∀ h10 : zH, h10 = sI h 158 l2 (-1) →
    (inR (l2 + 1)) ∧ zK 210 14 [vR 127 111, vI l1, vI (l2 + 1), u3, u4] [] h10 Q)) : zK 210 14 [vR 127 111, vI l1, vI l2, u3, u4] [] h Q :=
  zwpe_W (cd := c210) rfl [14, 35, 65, 99] 400 14 _ _ _ _ k
set_option maxRecDepth 100000 in
set_option maxHeartbeats 4000000 in
theorem k210_35 (l1 : Int) (l2 : Int) (u3 : zV) (u4 : zV) (h : zH) (Q : Option zV → zH → Prop) (k :
  (inR (2 * l1)) ∧ (0 ≤ (2 * l1 : Int)) ∧ ((2 * l1 : Int) < 16) ∧ ((gI h 140 (2 * l1)) ≤ l2 →
    Q none h) ∧
    (¬ ((gI h 140 (2 * l1)) ≤ l2) →
    zC1 179 [vR 127 111, vI l1, vI 0, vI l2, vI 0] h (fun v11 h11 =>
    (¬ v11 = 7 →
      zK 210 65 [vR 127 111, vI l1, vI l2, u3, u4] [vI 0] h11 Q) ∧
      (¬ (¬ v11 = 7) →
      zK 210 65 [vR 127 111, vI l1, vI l2, u3, u4] [vI 1] h11 Q)))) : zK 210 35 [vR 127 111, vI l1, vI l2, u3, u4] [] h Q :=
  zwpe_W (cd := c210) rfl [14, 35, 65, 99] 400 35 _ _ _ _ k
set_option maxRecDepth 100000 in
set_option maxHeartbeats 4000000 in
theorem k210_65 (l1 : Int) (l2 : Int) (u3 : zV) (u4 : zV) (s0 : Int) (h : zH) (Q : Option zV → zH → Prop) (k :
  (s0 = 0 →
    zC1 209 [vR 127 111, vI l1, vI l2] h (fun v12 h12 =>
    zK 210 99 [vR 127 111, vI l1, vI v12, vI s0, vI (gI h 127 49)] [] h12 Q)) ∧
    (¬ (s0 = 0) →
    (inR ((gI h 127 49) - 1)) ∧ ∀ h13 : zH, h13 = sI h 127 49 ((gI h 127 49) - 1) →
    (inR (l2 + 1)) ∧ zK 210 99 [vR 127 111, vI l1, vI (l2 + 1), vI s0, vI (gI h 127 49)] [] h13 Q)) : zK 210 65 [vR 127 111, vI l1, vI l2, u3, u4] [vI s0] h Q :=
  zwpe_W (cd := c210) rfl [14, 35, 65, 99] 400 65 _ _ _ _ k
set_option maxRecDepth 100000 in
set_option maxHeartbeats 4000000 in
theorem k210_99 (l1 : Int) (l2 : Int) (u3 : zV) (l4 : Int) (h : zH) (Q : Option zV → zH → Prop) (k :
  ((gI h 127 49) ≤ 0 →
    zK 210 35 [vR 127 111, vI l1, vI l2, u3, vI l4] [] h Q) ∧
    (¬ ((gI h 127 49) ≤ 0) →
    (l4 < (gI h 127 49) →
      zK 210 35 [vR 127 111, vI l1, vI l2, u3, vI l4] [] h Q) ∧
      (¬ (l4 < (gI h 127 49)) →
      (inR ((gI h 127 49) - 1)) ∧ (0 ≤ ((gI h 127 49) - 1 : Int)) ∧ (((gI h 127 49) - 1 : Int) < 21) ∧ (inR ((gI h 157 ((gI h 127 49) - 1)) + 1)) ∧ (0 ≤ ((gI h 127 49) - 1 : Int)) ∧ (((gI h 127 49) - 1 : Int) < 21) ∧ ∀ h14 : zH, h14 = sI h 157 ((gI h 127 49) - 1) ((gI h 157 ((gI h 127 49) - 1)) + 1) →
      zK 210 35 [vR 127 111, vI l1, vI l2, u3, vI l4] [] h14 Q))) : zK 210 99 [vR 127 111, vI l1, vI l2, u3, vI l4] [] h Q :=
  zwpe_W (cd := c210) rfl [14, 35, 65, 99] 400 99 _ _ _ _ k
-- 211 SyntaxRulesModel.isSameWord(IIII)Z
set_option maxRecDepth 100000 in
set_option maxHeartbeats 4000000 in
theorem k211_0 (p1 : Int) (p2 : Int) (p3 : Int) (p4 : Int) (h : zH) (Q : Option zV → zH → Prop) (k :
  zC1 179 [vR 127 111, vI p1, vI 0, vI p2, vI 4] h (fun v8 h8 =>
  zC1 179 [vR 127 111, vI p3, vI 0, vI p4, vI 4] h8 (fun v9 h9 =>
  (¬ v8 = v9 →
    zK 211 30 [vR 127 111, vI p1, vI p2, vI p3, vI p4, vI 0, vI 0] [] h9 Q) ∧
    (¬ (¬ v8 = v9) →
    zK 211 30 [vR 127 111, vI p1, vI p2, vI p3, vI p4, vI 1, vI 0] [] h9 Q)))) : zK 211 0 [vR 127 111, vI p1, vI p2, vI p3, vI p4, vU, vU] [] h Q :=
  zwpe_W (cd := c211) rfl [30] 400 0 _ _ _ _ k
set_option maxRecDepth 100000 in
set_option maxHeartbeats 4000000 in
theorem k211_30 (l1 : Int) (l2 : Int) (l3 : Int) (l4 : Int) (l5 : Int) (l6 : Int) (h : zH) (Q : Option zV → zH → Prop) (k :
  (l5 = 0 →
    ((l5 : Int) = 0 ∨ (l5 : Int) = 1) ∧ Q (some (vI l5)) h) ∧
    (¬ (l5 = 0) →
    zC1 179 [vR 127 111, vI l1, vI 0, vI l2, vI 4] h (fun v10 h10 =>
    (v10 ≤ l6 →
      ((l5 : Int) = 0 ∨ (l5 : Int) = 1) ∧ Q (some (vI l5)) h10) ∧
      (¬ (v10 ≤ l6) →
      zC1 142 [vI l1] h10 (fun v11 h11 =>
      zC1 179 [vR 127 111, vI l1, vI 0, vI l2, vI 3] h11 (fun v12 h12 =>
      (inR (v11 + v12)) ∧ (inR ((v11 + v12) + l6)) ∧ (0 ≤ ((v11 + v12) + l6 : Int)) ∧ (((v11 + v12) + l6 : Int) < 2709) ∧ zC1 142 [vI l3] h12 (fun v13 h13 =>
      zC1 179 [vR 127 111, vI l3, vI 0, vI l4, vI 3] h13 (fun v14 h14 =>
      (inR (v13 + v14)) ∧ (inR ((v13 + v14) + l6)) ∧ (0 ≤ ((v13 + v14) + l6 : Int)) ∧ (((v13 + v14) + l6 : Int) < 2709) ∧ (¬ (gI h12 128 ((v11 + v12) + l6)) = (gI h14 128 ((v13 + v14) + l6)) →
        (inR (l6 + 1)) ∧ zK 211 30 [vR 127 111, vI l1, vI l2, vI l3, vI l4, vI 0, vI (l6 + 1)] [] h14 Q) ∧
        (¬ (¬ (gI h12 128 ((v11 + v12) + l6)) = (gI h14 128 ((v13 + v14) + l6))) →
        (inR (l6 + 1)) ∧ zK 211 30 [vR 127 111, vI l1, vI l2, vI l3, vI l4, vI 1, vI (l6 + 1)] [] h14 Q))))))))) : zK 211 30 [vR 127 111, vI l1, vI l2, vI l3, vI l4, vI l5, vI l6] [] h Q :=
  zwpe_W (cd := c211) rfl [30] 400 30 _ _ _ _ k
-- 212 SyntaxRulesModel.isSameToken(IIII)Z
set_option maxRecDepth 100000 in
set_option maxHeartbeats 4000000 in
theorem k212_0 (p1 : Int) (p2 : Int) (p3 : Int) (p4 : Int) (h : zH) (Q : Option zV → zH → Prop) (k :
  zC1 179 [vR 127 111, vI p1, vI 0, vI p2, vI 0] h (fun v12 h12 =>
  zC1 179 [vR 127 111, vI p3, vI 0, vI p4, vI 0] h12 (fun v13 h13 =>
  (v12 = v13 →
    (v12 = (1 : Int) →
      zC1 179 [vR 127 111, vI p1, vI 0, vI p2, vI 1] h13 (fun v19 h19 =>
      zC1 179 [vR 127 111, vI p3, vI 0, vI p4, vI 1] h19 (fun v20 h20 =>
      (¬ v19 = v20 →
        ((0 : Int) = 0 ∨ (0 : Int) = 1) ∧ Q (some (vI 0)) h20) ∧
        (¬ (¬ v19 = v20) →
        zC1 179 [vR 127 111, vI p1, vI 0, vI p2, vI 2] h20 (fun v21 h21 =>
        zC1 179 [vR 127 111, vI p3, vI 0, vI p4, vI 2] h21 (fun v22 h22 =>
        (¬ v21 = v22 →
          ((0 : Int) = 0 ∨ (0 : Int) = 1) ∧ Q (some (vI 0)) h22) ∧
          (¬ (¬ v21 = v22) →
          ((1 : Int) = 0 ∨ (1 : Int) = 1) ∧ Q (some (vI 1)) h22))))))) ∧
      (¬ (v12 = (1 : Int)) →
      (v12 = ((1 : Int) + 1) →
      ((1 : Int) = 0 ∨ (1 : Int) = 1) ∧ Q (some (vI 1)) h13) ∧
      (¬ (v12 = ((1 : Int) + 1)) →
      (v12 = ((1 : Int) + 1 + 1) →
      zC1 211 [vR 127 111, vI p1, vI p2, vI p3, vI p4] h13 (fun v18 h18 =>
      ((v18 : Int) = 0 ∨ (v18 : Int) = 1) ∧ Q (some (vI v18)) h18)) ∧
      (¬ (v12 = ((1 : Int) + 1 + 1)) →
      (v12 = ((1 : Int) + 1 + 1 + 1) →
      zC1 211 [vR 127 111, vI p1, vI p2, vI p3, vI p4] h13 (fun v17 h17 =>
      ((v17 : Int) = 0 ∨ (v17 : Int) = 1) ∧ Q (some (vI v17)) h17)) ∧
      (¬ (v12 = ((1 : Int) + 1 + 1 + 1)) →
      (v12 = ((1 : Int) + 1 + 1 + 1 + 1) →
      zC1 211 [vR 127 111, vI p1, vI p2, vI p3, vI p4] h13 (fun v16 h16 =>
      ((v16 : Int) = 0 ∨ (v16 : Int) = 1) ∧ Q (some (vI v16)) h16)) ∧
      (¬ (v12 = ((1 : Int) + 1 + 1 + 1 + 1)) →
      (v12 = ((1 : Int) + 1 + 1 + 1 + 1 + 1) →
      zC1 179 [vR 127 111, vI p1, vI 0, vI p2, vI 1] h13 (fun v14 h14 =>
      zC1 179 [vR 127 111, vI p3, vI 0, vI p4, vI 1] h14 (fun v15 h15 =>
      (¬ v14 = v15 →
        ((0 : Int) = 0 ∨ (0 : Int) = 1) ∧ Q (some (vI 0)) h15) ∧
        (¬ (¬ v14 = v15) →
        ((1 : Int) = 0 ∨ (1 : Int) = 1) ∧ Q (some (vI 1)) h15)))) ∧
      (¬ (v12 = ((1 : Int) + 1 + 1 + 1 + 1 + 1)) →
      ((1 : Int) = 0 ∨ (1 : Int) = 1) ∧ Q (some (vI 1)) h13))))))) ∧
    (¬ (v12 = v13) →
    ((0 : Int) = 0 ∨ (0 : Int) = 1) ∧ Q (some (vI 0)) h13)))) : zK 212 0 [vR 127 111, vI p1, vI p2, vI p3, vI p4, vU] [] h Q :=
  zwpe_W (cd := c212) rfl [] 400 0 _ _ _ _ k
-- 213 SyntaxRulesModel.areSameTokens(IIII)Z
set_option maxRecDepth 100000 in
set_option maxHeartbeats 4000000 in
theorem k213_0 (p1 : Int) (p2 : Int) (p3 : Int) (p4 : Int) (h : zH) (Q : Option zV → zH → Prop) (k :
  zC1 206 [vR 127 111, vI p1, vI p2] h (fun v4 h4 =>
  (inR (v4 - p2)) ∧ zC1 206 [vR 127 111, vI p3, vI p4] h4 (fun v5 h5 =>
  (inR (v5 - p4)) ∧ (¬ (v5 - p4) = (v4 - p2) →
    zK 213 35 [vR 127 111, vI p1, vI p2, vI p3, vI p4, vI (v4 - p2), vI 0, vI 0] [] h5 Q) ∧
    (¬ (¬ (v5 - p4) = (v4 - p2)) →
    zK 213 35 [vR 127 111, vI p1, vI p2, vI p3, vI p4, vI (v4 - p2), vI 1, vI 0] [] h5 Q)))) : zK 213 0 [vR 127 111, vI p1, vI p2, vI p3, vI p4, vU, vU, vU] [] h Q :=
  zwpe_W (cd := c213) rfl [35] 400 0 _ _ _ _ k
set_option maxRecDepth 100000 in
set_option maxHeartbeats 4000000 in
theorem k213_35 (l1 : Int) (l2 : Int) (l3 : Int) (l4 : Int) (l5 : Int) (l6 : Int) (l7 : Int) (h : zH) (Q : Option zV → zH → Prop) (k :
  (l6 = 0 →
    ((l6 : Int) = 0 ∨ (l6 : Int) = 1) ∧ Q (some (vI l6)) h) ∧
    (¬ (l6 = 0) →
    (l5 ≤ l7 →
      ((l6 : Int) = 0 ∨ (l6 : Int) = 1) ∧ Q (some (vI l6)) h) ∧
      (¬ (l5 ≤ l7) →
      (inR (l2 + l7)) ∧ (inR (l4 + l7)) ∧ zC1 212 [vR 127 111, vI l1, vI (l2 + l7), vI l3, vI (l4 + l7)] h (fun v6 h6 =>
      (inR (l7 + 1)) ∧ zK 213 35 [vR 127 111, vI l1, vI l2, vI l3, vI l4, vI l5, vI v6, vI (l7 + 1)] [] h6 Q)))) : zK 213 35 [vR 127 111, vI l1, vI l2, vI l3, vI l4, vI l5, vI l6, vI l7] [] h Q :=
  zwpe_W (cd := c213) rfl [35] 400 35 _ _ _ _ k
-- 214 SyntaxRulesModel.isSameAsked(II)Z
set_option maxRecDepth 100000 in
set_option maxHeartbeats 4000000 in
theorem k214_0 (p1 : Int) (p2 : Int) (h : zH) (Q : Option zV → zH → Prop) (k :
  (¬ (40 : Int) = 0) ∧ (¬ (40 : Int) = 0) ∧ (0 ≤ (p1 : Int)) ∧ ((p1 : Int) < 320) ∧ (0 ≤ (p2 : Int)) ∧ ((p2 : Int) < 320) ∧ (0 ≤ (p1 : Int)) ∧ ((p1 : Int) < 320) ∧ ((gI h 151 p1) = (0 : Int) →
    zC1 179 [vR 127 111, vI (iDiv p1 40), vI 0, vI (gI h 152 p1), vI 0] h (fun v18 h18 =>
    zC1 179 [vR 127 111, vI (iDiv p2 40), vI 0, vI (gI h 152 p2), vI 0] h18 (fun v19 h19 =>
    (¬ v18 = v19 →
      ((0 : Int) = 0 ∨ (0 : Int) = 1) ∧ Q (some (vI 0)) h19) ∧
      (¬ (¬ v18 = v19) →
      zC1 211 [vR 127 111, vI (iDiv p1 40), vI (gI h 152 p1), vI (iDiv p2 40), vI (gI h 152 p2)] h19 (fun v20 h20 =>
      (v20 = 0 →
        ((0 : Int) = 0 ∨ (0 : Int) = 1) ∧ Q (some (vI 0)) h20) ∧
        (¬ (v20 = 0) →
        ((1 : Int) = 0 ∨ (1 : Int) = 1) ∧ Q (some (vI 1)) h20)))))) ∧
    (¬ ((gI h 151 p1) = (0 : Int)) →
    ((gI h 151 p1) = ((0 : Int) + 1) →
    zC1 211 [vR 127 111, vI (iDiv p1 40), vI (gI h 152 p1), vI (iDiv p2 40), vI (gI h 152 p2)] h (fun v17 h17 =>
    ((v17 : Int) = 0 ∨ (v17 : Int) = 1) ∧ Q (some (vI v17)) h17)) ∧
    (¬ ((gI h 151 p1) = ((0 : Int) + 1)) →
    ((gI h 151 p1) = ((0 : Int) + 1 + 1) →
    zC1 179 [vR 127 111, vI (iDiv p1 40), vI 0, vI (gI h 152 p1), vI 1] h (fun v15 h15 =>
    zC1 179 [vR 127 111, vI (iDiv p2 40), vI 0, vI (gI h 152 p2), vI 1] h15 (fun v16 h16 =>
    (¬ v15 = v16 →
      ((0 : Int) = 0 ∨ (0 : Int) = 1) ∧ Q (some (vI 0)) h16) ∧
      (¬ (¬ v15 = v16) →
      ((1 : Int) = 0 ∨ (1 : Int) = 1) ∧ Q (some (vI 1)) h16)))) ∧
    (¬ ((gI h 151 p1) = ((0 : Int) + 1 + 1)) →
    ((gI h 151 p1) = ((0 : Int) + 1 + 1 + 1) →
    zC1 179 [vR 127 111, vI (iDiv p1 40), vI 0, vI (gI h 152 p1), vI 2] h (fun v13 h13 =>
    zC1 179 [vR 127 111, vI (iDiv p2 40), vI 0, vI (gI h 152 p2), vI 2] h13 (fun v14 h14 =>
    (¬ v13 = v14 →
      ((0 : Int) = 0 ∨ (0 : Int) = 1) ∧ Q (some (vI 0)) h14) ∧
      (¬ (¬ v13 = v14) →
      ((1 : Int) = 0 ∨ (1 : Int) = 1) ∧ Q (some (vI 1)) h14)))) ∧
    (¬ ((gI h 151 p1) = ((0 : Int) + 1 + 1 + 1)) →
    ((gI h 151 p1) = ((0 : Int) + 1 + 1 + 1 + 1) →
    zC1 215 [vR 127 111, vI p1, vI p2] h (fun v12 h12 =>
    ((v12 : Int) = 0 ∨ (v12 : Int) = 1) ∧ Q (some (vI v12)) h12)) ∧
    (¬ ((gI h 151 p1) = ((0 : Int) + 1 + 1 + 1 + 1)) →
    zC1 213 [vR 127 111, vI (iDiv p1 40), vI (gI h 152 p1), vI (iDiv p2 40), vI (gI h 152 p2)] h (fun v11 h11 =>
    ((v11 : Int) = 0 ∨ (v11 : Int) = 1) ∧ Q (some (vI v11)) h11))))))) : zK 214 0 [vR 127 111, vI p1, vI p2, vU, vU, vU, vU] [] h Q :=
  zwpe_W (cd := c214) rfl [] 400 0 _ _ _ _ k
-- 215 SyntaxRulesModel.isSameOther(II)Z
set_option maxRecDepth 100000 in
set_option maxHeartbeats 4000000 in
theorem k215_0 (p1 : Int) (p2 : Int) (h : zH) (Q : Option zV → zH → Prop) (k :
  (0 ≤ (p1 : Int)) ∧ ((p1 : Int) < 320) ∧ (0 ≤ (p2 : Int)) ∧ ((p2 : Int) < 320) ∧ (¬ (gI h 155 p1) = (gI h 155 p2) →
    zK 215 24 [vR 127 111, vI p1, vI p2, vI 0, vI 0] [] h Q) ∧
    (¬ (¬ (gI h 155 p1) = (gI h 155 p2)) →
    zK 215 24 [vR 127 111, vI p1, vI p2, vI 1, vI 0] [] h Q)) : zK 215 0 [vR 127 111, vI p1, vI p2, vU, vU] [] h Q :=
  zwpe_W (cd := c215) rfl [24] 400 0 _ _ _ _ k
set_option maxRecDepth 100000 in
set_option maxHeartbeats 4000000 in
theorem k215_24 (l1 : Int) (l2 : Int) (l3 : Int) (l4 : Int) (h : zH) (Q : Option zV → zH → Prop) (k :
  (l3 = 0 →
    ((l3 : Int) = 0 ∨ (l3 : Int) = 1) ∧ Q (some (vI l3)) h) ∧
    (¬ (l3 = 0) →
    (0 ≤ (l1 : Int)) ∧ ((l1 : Int) < 320) ∧ ((gI h 155 l1) ≤ l4 →
      ((l3 : Int) = 0 ∨ (l3 : Int) = 1) ∧ Q (some (vI l3)) h) ∧
      (¬ ((gI h 155 l1) ≤ l4) →
      (inR (21 * l1)) ∧ (inR ((21 * l1) + l4)) ∧ (0 ≤ ((21 * l1) + l4 : Int)) ∧ (((21 * l1) + l4 : Int) < 6720) ∧ (inR (21 * l2)) ∧ (inR ((21 * l2) + l4)) ∧ (0 ≤ ((21 * l2) + l4 : Int)) ∧ (((21 * l2) + l4 : Int) < 6720) ∧ (¬ (gI h 156 ((21 * l1) + l4)) = (gI h 156 ((21 * l2) + l4)) →
        (inR (l4 + 1)) ∧ zK 215 24 [vR 127 111, vI l1, vI l2, vI 0, vI (l4 + 1)] [] h Q) ∧
        (¬ (¬ (gI h 156 ((21 * l1) + l4)) = (gI h 156 ((21 * l2) + l4))) →
        (inR (l4 + 1)) ∧ zK 215 24 [vR 127 111, vI l1, vI l2, vI 1, vI (l4 + 1)] [] h Q)))) : zK 215 24 [vR 127 111, vI l1, vI l2, vI l3, vI l4] [] h Q :=
  zwpe_W (cd := c215) rfl [24] 400 24 _ _ _ _ k
-- 216 SyntaxRulesModel.isSameTest(II)Z
set_option maxRecDepth 100000 in
set_option maxHeartbeats 4000000 in
theorem k216_0 (p1 : Int) (p2 : Int) (h : zH) (Q : Option zV → zH → Prop) (k :
  (0 ≤ (p1 : Int)) ∧ ((p1 : Int) < 320) ∧ (0 ≤ (p2 : Int)) ∧ ((p2 : Int) < 320) ∧ (¬ (gI h 151 p1) = (gI h 151 p2) →
    zK 216 39 [vR 127 111, vI p1, vI p2, vI 0, vI 0] [] h Q) ∧
    (¬ (¬ (gI h 151 p1) = (gI h 151 p2)) →
    (0 ≤ (p1 : Int)) ∧ ((p1 : Int) < 320) ∧ (0 ≤ (p2 : Int)) ∧ ((p2 : Int) < 320) ∧ (¬ (gI h 153 p1) = (gI h 153 p2) →
      zK 216 39 [vR 127 111, vI p1, vI p2, vI 0, vI 0] [] h Q) ∧
      (¬ (¬ (gI h 153 p1) = (gI h 153 p2)) →
      zK 216 39 [vR 127 111, vI p1, vI p2, vI 1, vI 0] [] h Q))) : zK 216 0 [vR 127 111, vI p1, vI p2, vU, vU] [] h Q :=
  zwpe_W (cd := c216) rfl [39, 93] 400 0 _ _ _ _ k
set_option maxRecDepth 100000 in
set_option maxHeartbeats 4000000 in
theorem k216_39 (l1 : Int) (l2 : Int) (l3 : Int) (l4 : Int) (h : zH) (Q : Option zV → zH → Prop) (k :
  (l3 = 0 →
    zK 216 93 [vR 127 111, vI l1, vI l2, vI l3, vI l4] [] h Q) ∧
    (¬ (l3 = 0) →
    (0 ≤ (l1 : Int)) ∧ ((l1 : Int) < 320) ∧ ((gI h 153 l1) ≤ l4 →
      zK 216 93 [vR 127 111, vI l1, vI l2, vI l3, vI l4] [] h Q) ∧
      (¬ ((gI h 153 l1) ≤ l4) →
      (inR (21 * l1)) ∧ (inR ((21 * l1) + l4)) ∧ (0 ≤ ((21 * l1) + l4 : Int)) ∧ (((21 * l1) + l4 : Int) < 6720) ∧ (inR (21 * l2)) ∧ (inR ((21 * l2) + l4)) ∧ (0 ≤ ((21 * l2) + l4 : Int)) ∧ (((21 * l2) + l4 : Int) < 6720) ∧ (¬ (gI h 154 ((21 * l1) + l4)) = (gI h 154 ((21 * l2) + l4)) →
        (inR (l4 + 1)) ∧ zK 216 39 [vR 127 111, vI l1, vI l2, vI 0, vI (l4 + 1)] [] h Q) ∧
        (¬ (¬ (gI h 154 ((21 * l1) + l4)) = (gI h 154 ((21 * l2) + l4))) →
        (inR (l4 + 1)) ∧ zK 216 39 [vR 127 111, vI l1, vI l2, vI 1, vI (l4 + 1)] [] h Q)))) : zK 216 39 [vR 127 111, vI l1, vI l2, vI l3, vI l4] [] h Q :=
  zwpe_W (cd := c216) rfl [39, 93] 400 39 _ _ _ _ k
set_option maxRecDepth 100000 in
set_option maxHeartbeats 4000000 in
theorem k216_93 (l1 : Int) (l2 : Int) (l3 : Int) (u4 : zV) (h : zH) (Q : Option zV → zH → Prop) (k :
  (l3 = 0 →
    ((0 : Int) = 0 ∨ (0 : Int) = 1) ∧ Q (some (vI 0)) h) ∧
    (¬ (l3 = 0) →
    zC1 214 [vR 127 111, vI l1, vI l2] h (fun v2 h2 =>
    (v2 = 0 →
      ((0 : Int) = 0 ∨ (0 : Int) = 1) ∧ Q (some (vI 0)) h2) ∧
      (¬ (v2 = 0) →
      ((1 : Int) = 0 ∨ (1 : Int) = 1) ∧ Q (some (vI 1)) h2)))) : zK 216 93 [vR 127 111, vI l1, vI l2, vI l3, u4] [] h Q :=
  zwpe_W (cd := c216) rfl [39, 93] 400 93 _ _ _ _ k
-- 217 SyntaxRulesModel.childOf(II)I
set_option maxRecDepth 100000 in
set_option maxHeartbeats 4000000 in
theorem k217_0 (p1 : Int) (p2 : Int) (h : zH) (Q : Option zV → zH → Prop) (k :
  zK 217 2 [vR 127 111, vI p1, vI p2, vI 0] [] h Q) : zK 217 0 [vR 127 111, vI p1, vI p2, vU] [] h Q :=
  zwpe_W (cd := c217) rfl [2] 400 0 _ _ _ _ k
set_option maxRecDepth 100000 in
set_option maxHeartbeats 4000000 in
theorem k217_2 (l1 : Int) (l2 : Int) (l3 : Int) (h : zH) (Q : Option zV → zH → Prop) (k :
  ((gI h 127 54) ≤ l3 →
    (0 ≤ (gI h 127 54 : Int)) ∧ ((gI h 127 54 : Int) < 320) ∧ ∀ h5 : zH, h5 = sI h 160 (gI h 127 54) l2 →
    (0 ≤ (gI h5 127 54 : Int)) ∧ ((gI h5 127 54 : Int) < 320) ∧ ∀ h6 : zH, h6 = sI h5 161 (gI h5 127 54) l1 →
    (inR ((gI h6 127 54) + 1)) ∧ ∀ h7 : zH, h7 = sI h6 127 54 ((gI h6 127 54) + 1) →
    (inR ((gI h7 127 54) - 1)) ∧ Q (some (vI ((gI h7 127 54) - 1))) h7) ∧
    (¬ ((gI h 127 54) ≤ l3) →
    (0 ≤ (l3 : Int)) ∧ ((l3 : Int) < 320) ∧ (¬ (gI h 161 l3) = l1 →
      (inR (l3 + 1)) ∧ zK 217 2 [vR 127 111, vI l1, vI l2, vI (l3 + 1)] [] h Q) ∧
      (¬ (¬ (gI h 161 l3) = l1) →
      (0 ≤ (l3 : Int)) ∧ ((l3 : Int) < 320) ∧ zC1 216 [vR 127 111, vI (gI h 160 l3), vI l2] h (fun v8 h8 =>
      (v8 = 0 →
        (inR (l3 + 1)) ∧ zK 217 2 [vR 127 111, vI l1, vI l2, vI (l3 + 1)] [] h8 Q) ∧
        (¬ (v8 = 0) →
        Q (some (vI l3)) h8))))) : zK 217 2 [vR 127 111, vI l1, vI l2, vI l3] [] h Q :=
  zwpe_W (cd := c217) rfl [2] 400 2 _ _ _ _ k
-- 218 SyntaxRulesModel.layTests()V
set_option maxRecDepth 100000 in
set_option maxHeartbeats 4000000 in
theorem k218_0 (h : zH) (Q : Option zV → zH → Prop) (k :
  ∀ h7 : zH, h7 = sI h 127 54 0 →
  ∀ h8 : zH, h8 = sI h7 127 55 0 →
  zK 218 12 [vR 127 111, vI 0, vU, vU] [] h8 Q) : zK 218 0 [vR 127 111, vU, vU, vU] [] h Q :=
  zwpe_W (cd := c218) rfl [12, 50] 400 0 _ _ _ _ k
set_option maxRecDepth 100000 in
set_option maxHeartbeats 4000000 in
theorem k218_12 (l1 : Int) (u2 : zV) (u3 : zV) (h : zH) (Q : Option zV → zH → Prop) (k :
  (8 ≤ l1 →
    Q none h) ∧
    (¬ (8 ≤ l1) →
    zC1 143 [vR 127 111, vI l1] h (fun v9 h9 =>
    (v9 = 0 →
      (inR (l1 + 1)) ∧ zK 218 12 [vR 127 111, vI (l1 + 1), u2, u3] [] h9 Q) ∧
      (¬ (v9 = 0) →
      zC0 210 [vR 127 111, vI l1] h9 (fun h10 =>
      (0 ≤ (l1 : Int)) ∧ ((l1 : Int) < 8) ∧ (inR ((gI h10 127 55) + (gI h10 150 l1))) ∧ ∀ h11 : zH, h11 = sI h10 127 55 ((gI h10 127 55) + (gI h10 150 l1)) →
      zK 218 50 [vR 127 111, vI l1, vI ((-1)), vI 0] [] h11 Q))))) : zK 218 12 [vR 127 111, vI l1, u2, u3] [] h Q :=
  zwpe_W (cd := c218) rfl [12, 50] 400 12 _ _ _ _ k
set_option maxRecDepth 100000 in
set_option maxHeartbeats 4000000 in
theorem k218_50 (l1 : Int) (l2 : Int) (l3 : Int) (h : zH) (Q : Option zV → zH → Prop) (k :
  (0 ≤ (l1 : Int)) ∧ ((l1 : Int) < 8) ∧ ((gI h 150 l1) ≤ l3 →
    (inR (l1 + 1)) ∧ zK 218 12 [vR 127 111, vI (l1 + 1), vI l2, vI l3] [] h Q) ∧
    (¬ ((gI h 150 l1) ≤ l3) →
    (inR (40 * l1)) ∧ (inR ((40 * l1) + l3)) ∧ zC1 217 [vR 127 111, vI l2, vI ((40 * l1) + l3)] h (fun v12 h12 =>
    (inR (l3 + 1)) ∧ zK 218 50 [vR 127 111, vI l1, vI v12, vI (l3 + 1)] [] h12 Q))) : zK 218 50 [vR 127 111, vI l1, vI l2, vI l3] [] h Q :=
  zwpe_W (cd := c218) rfl [12, 50] 400 50 _ _ _ _ k
-- 219 SyntaxRulesModel.tests(I)I
set_option maxRecDepth 100000 in
set_option maxHeartbeats 4000000 in
theorem k219_0 (p1 : Int) (h : zH) (Q : Option zV → zH → Prop) (k :
  ∀ h2 : zH, h2 = sI h 127 0 0 →
  (¬ p1 = 0 →
    (¬ p1 = 1 →
      Q (some (vI ((-1)))) h2) ∧
      (¬ (¬ p1 = 1) →
      Q (some (vI (gI h2 127 54))) h2)) ∧
    (¬ (¬ p1 = 0) →
    Q (some (vI (gI h2 127 55))) h2)) : zK 219 0 [vR 127 111, vI p1] [] h Q :=
  zwpe_W (cd := c219) rfl [] 400 0 _ _ _ _ k
-- 220 SyntaxRulesModel.nodeAt(I[III)I
set_option maxRecDepth 100000 in
set_option maxHeartbeats 4000000 in
theorem k220_0 (p1 : Int) (p2 : Nat) (p3 : Int) (p4 : Int) (h : zH) (Q : Option zV → zH → Prop) (k :
  zK 220 6 [vR 127 111, vI p1, vR p2 672140, vI p3, vI p4, vI p1, vI 0, vU, vU] [] h Q) : zK 220 0 [vR 127 111, vI p1, vR p2 672140, vI p3, vI p4, vU, vU, vU, vU] [] h Q :=
  zwpe_W (cd := c220) rfl [6, 22] 400 0 _ _ _ _ k
set_option maxRecDepth 100000 in
set_option maxHeartbeats 4000000 in
theorem k220_6 (u1 : zV) (a2 : Nat) (l3 : Int) (l4 : Int) (l5 : Int) (l6 : Int) (u7 : zV) (u8 : zV) (h : zH) (Q : Option zV → zH → Prop) (k :
  (l4 ≤ l6 →
    Q (some (vI l5)) h) ∧
    (¬ (l4 ≤ l6) →
    (inR (l5 + 1)) ∧ zK 220 22 [vR 127 111, u1, vR a2 672140, vI l3, vI l4, vI l5, vI l6, vI (l5 + 1), vI 0] [] h Q)) : zK 220 6 [vR 127 111, u1, vR a2 672140, vI l3, vI l4, vI l5, vI l6, u7, u8] [] h Q :=
  zwpe_W (cd := c220) rfl [6, 22] 400 6 _ _ _ _ k
set_option maxRecDepth 100000 in
set_option maxHeartbeats 4000000 in
theorem k220_22 (u1 : zV) (a2 : Nat) (l3 : Int) (l4 : Int) (u5 : zV) (l6 : Int) (l7 : Int) (l8 : Int) (h : zH) (Q : Option zV → zH → Prop) (k :
  (inR (l3 + l6)) ∧ (0 ≤ (l3 + l6 : Int)) ∧ ((l3 + l6 : Int) < 6720) ∧ ((gI h a2 (l3 + l6)) ≤ l8 →
    (inR (l6 + 1)) ∧ zK 220 6 [vR 127 111, u1, vR a2 672140, vI l3, vI l4, vI l7, vI (l6 + 1), vI l7, vI l8] [] h Q) ∧
    (¬ ((gI h a2 (l3 + l6)) ≤ l8) →
    zC1 158 [vR 127 111, vI l7, vI 6] h (fun v2 h2 =>
    (inR (l7 + v2)) ∧ (inR (l8 + 1)) ∧ zK 220 22 [vR 127 111, u1, vR a2 672140, vI l3, vI l4, u5, vI l6, vI (l7 + v2), vI (l8 + 1)] [] h2 Q))) : zK 220 22 [vR 127 111, u1, vR a2 672140, vI l3, vI l4, u5, vI l6, vI l7, vI l8] [] h Q :=
  zwpe_W (cd := c220) rfl [6, 22] 400 22 _ _ _ _ k
-- 221 SyntaxRulesModel.isSo(II)Z
set_option maxRecDepth 100000 in
set_option maxHeartbeats 4000000 in
theorem k221_0 (p1 : Int) (p2 : Int) (h : zH) (Q : Option zV → zH → Prop) (k :
  (¬ (40 : Int) = 0) ∧ (0 ≤ (p1 : Int)) ∧ ((p1 : Int) < 320) ∧ (inR (21 * p1)) ∧ (0 ≤ (p1 : Int)) ∧ ((p1 : Int) < 320) ∧ zC1 220 [vR 127 111, vI p2, vR 154 672140, vI (21 * p1), vI (gI h 153 p1)] h (fun v13 h13 =>
  (0 ≤ (p1 : Int)) ∧ ((p1 : Int) < 320) ∧ ((gI h13 151 p1) = (0 : Int) →
    zC1 179 [vR 127 111, vI (iDiv p1 40), vI 0, vI (gI h 152 p1), vI 0] h13 (fun v22 h22 =>
    (¬ v22 = 4 →
      zC1 183 [vR 127 111, vI (iDiv p1 40), vI (gI h 152 p1), vI 1, vI v13] h22 (fun v23 h23 =>
      ((v23 : Int) = 0 ∨ (v23 : Int) = 1) ∧ Q (some (vI v23)) h23)) ∧
      (¬ (¬ v22 = 4) →
      zC1 183 [vR 127 111, vI (iDiv p1 40), vI (gI h 152 p1), vI 0, vI v13] h22 (fun v24 h24 =>
      ((v24 : Int) = 0 ∨ (v24 : Int) = 1) ∧ Q (some (vI v24)) h24)))) ∧
    (¬ ((gI h13 151 p1) = (0 : Int)) →
    ((gI h13 151 p1) = ((0 : Int) + 1) →
    zC1 183 [vR 127 111, vI (iDiv p1 40), vI (gI h 152 p1), vI 2, vI v13] h13 (fun v21 h21 =>
    ((v21 : Int) = 0 ∨ (v21 : Int) = 1) ∧ Q (some (vI v21)) h21)) ∧
    (¬ ((gI h13 151 p1) = ((0 : Int) + 1)) →
    ((gI h13 151 p1) = ((0 : Int) + 1 + 1) →
    zC1 158 [vR 127 111, vI v13, vI 3] h13 (fun v19 h19 =>
    zC1 179 [vR 127 111, vI (iDiv p1 40), vI 0, vI (gI h 152 p1), vI 1] h19 (fun v20 h20 =>
    (¬ v19 = v20 →
      ((0 : Int) = 0 ∨ (0 : Int) = 1) ∧ Q (some (vI 0)) h20) ∧
      (¬ (¬ v19 = v20) →
      ((1 : Int) = 0 ∨ (1 : Int) = 1) ∧ Q (some (vI 1)) h20)))) ∧
    (¬ ((gI h13 151 p1) = ((0 : Int) + 1 + 1)) →
    ((gI h13 151 p1) = ((0 : Int) + 1 + 1 + 1) →
    zC1 158 [vR 127 111, vI v13, vI 0] h13 (fun v17 h17 =>
    zC1 179 [vR 127 111, vI (iDiv p1 40), vI 0, vI (gI h 152 p1), vI 2] h17 (fun v18 h18 =>
    (¬ v17 = v18 →
      ((0 : Int) = 0 ∨ (0 : Int) = 1) ∧ Q (some (vI 0)) h18) ∧
      (¬ (¬ v17 = v18) →
      ((1 : Int) = 0 ∨ (1 : Int) = 1) ∧ Q (some (vI 1)) h18)))) ∧
    (¬ ((gI h13 151 p1) = ((0 : Int) + 1 + 1 + 1)) →
    ((gI h13 151 p1) = ((0 : Int) + 1 + 1 + 1 + 1) →
    (inR (21 * p1)) ∧ (0 ≤ (p1 : Int)) ∧ ((p1 : Int) < 320) ∧ zC1 220 [vR 127 111, vI p2, vR 156 672140, vI (21 * p1), vI (gI h13 155 p1)] h13 (fun v15 h15 =>
    zC1 181 [vR 127 111, vI v15, vI v13] h15 (fun v16 h16 =>
    ((v16 : Int) = 0 ∨ (v16 : Int) = 1) ∧ Q (some (vI v16)) h16))) ∧
    (¬ ((gI h13 151 p1) = ((0 : Int) + 1 + 1 + 1 + 1)) →
    zC1 190 [vR 127 111, vI (iDiv p1 40), vI (gI h 152 p1), vI v13] h13 (fun v14 h14 =>
    ((v14 : Int) = 0 ∨ (v14 : Int) = 1) ∧ Q (some (vI v14)) h14)))))))) : zK 221 0 [vR 127 111, vI p1, vI p2, vU, vU, vU] [] h Q :=
  zwpe_W (cd := c221) rfl [] 400 0 _ _ _ _ k
-- 222 SyntaxRulesModel.asked(I)I
set_option maxRecDepth 100000 in
set_option maxHeartbeats 4000000 in
theorem k222_0 (p1 : Int) (h : zH) (Q : Option zV → zH → Prop) (k :
  ∀ h5 : zH, h5 = sI h 127 0 0 →
  zC1 157 [vR 127 111, vI p1] h5 (fun v6 h6 =>
  (¬ v6 = 0 →
    zK 222 19 [vR 127 111, vI p1, vI 0, vI 0, vU] [] h6 Q) ∧
    (¬ (¬ v6 = 0) →
    Q (some (vI ((-1)))) h6))) : zK 222 0 [vR 127 111, vI p1, vU, vU, vU] [] h Q :=
  zwpe_W (cd := c222) rfl [19, 51, 56, 86, 87] 400 0 _ _ _ _ k
set_option maxRecDepth 100000 in
set_option maxHeartbeats 4000000 in
theorem k222_19 (l1 : Int) (l2 : Int) (l3 : Int) (u4 : zV) (h : zH) (Q : Option zV → zH → Prop) (k :
  ((gI h 127 54) ≤ l3 →
    Q (some (vI l2)) h) ∧
    (¬ ((gI h 127 54) ≤ l3) →
    (0 ≤ (l3 : Int)) ∧ ((l3 : Int) < 320) ∧ ((gI h 161 l3) = (-1) →
      zK 222 51 [vR 127 111, vI l1, vI l2, vI l3, u4] [] h Q) ∧
      (¬ ((gI h 161 l3) = (-1)) →
      (0 ≤ (l3 : Int)) ∧ ((l3 : Int) < 320) ∧ (0 ≤ (gI h 161 l3 : Int)) ∧ ((gI h 161 l3 : Int) < 320) ∧ ((gI h 162 (gI h 161 l3)) = 0 →
        zK 222 56 [vR 127 111, vI l1, vI l2, vI l3, u4] [vI 0] h Q) ∧
        (¬ ((gI h 162 (gI h 161 l3)) = 0) →
        zK 222 51 [vR 127 111, vI l1, vI l2, vI l3, u4] [] h Q)))) : zK 222 19 [vR 127 111, vI l1, vI l2, vI l3, u4] [] h Q :=
  zwpe_W (cd := c222) rfl [19, 51, 56, 86, 87] 400 19 _ _ _ _ k
set_option maxRecDepth 100000 in
set_option maxHeartbeats 4000000 in
theorem k222_51 (l1 : Int) (l2 : Int) (l3 : Int) (u4 : zV) (h : zH) (Q : Option zV → zH → Prop) (k :
  zK 222 56 [vR 127 111, vI l1, vI l2, vI l3, u4] [vI 1] h Q) : zK 222 51 [vR 127 111, vI l1, vI l2, vI l3, u4] [] h Q :=
  zwpe_W (cd := c222) rfl [19, 51, 56, 86, 87] 400 51 _ _ _ _ k
set_option maxRecDepth 100000 in
set_option maxHeartbeats 4000000 in
theorem k222_56 (l1 : Int) (l2 : Int) (l3 : Int) (u4 : zV) (s0 : Int) (h : zH) (Q : Option zV → zH → Prop) (k :
  (s0 = 0 →
    zK 222 86 [vR 127 111, vI l1, vI l2, vI l3, vI s0] [vI l3, vR 162 32141] h Q) ∧
    (¬ (s0 = 0) →
    (0 ≤ (l3 : Int)) ∧ ((l3 : Int) < 320) ∧ zC1 221 [vR 127 111, vI (gI h 160 l3), vI l1] h (fun v7 h7 =>
    (v7 = 0 →
      zK 222 86 [vR 127 111, vI l1, vI l2, vI l3, vI s0] [vI l3, vR 162 32141] h7 Q) ∧
      (¬ (v7 = 0) →
      zK 222 87 [vR 127 111, vI l1, vI l2, vI l3, vI s0] [vI 1, vI l3, vR 162 32141] h7 Q)))) : zK 222 56 [vR 127 111, vI l1, vI l2, vI l3, u4] [vI s0] h Q :=
  zwpe_W (cd := c222) rfl [19, 51, 56, 86, 87] 400 56 _ _ _ _ k
set_option maxRecDepth 100000 in
set_option maxHeartbeats 4000000 in
theorem k222_86 (l1 : Int) (l2 : Int) (l3 : Int) (l4 : Int) (s0 : Int) (h : zH) (Q : Option zV → zH → Prop) (k :
  zK 222 87 [vR 127 111, vI l1, vI l2, vI l3, vI l4] [vI 0, vI s0, vR 162 32141] h Q) : zK 222 86 [vR 127 111, vI l1, vI l2, vI l3, vI l4] [vI s0, vR 162 32141] h Q :=
  zwpe_W (cd := c222) rfl [19, 51, 56, 86, 87] 400 86 _ _ _ _ k
set_option maxRecDepth 100000 in
set_option maxHeartbeats 4000000 in
theorem k222_87 (l1 : Int) (l2 : Int) (l3 : Int) (l4 : Int) (s0 : Int) (s1 : Int) (h : zH) (Q : Option zV → zH → Prop) (k :
  (0 ≤ (s1 : Int)) ∧ ((s1 : Int) < 320) ∧ ((s0 : Int) = 0 ∨ (s0 : Int) = 1) ∧ ∀ h8 : zH, h8 = sI h 162 s1 s0 →
  (l4 = 0 →
    (inR (l2 + 0)) ∧ (inR (l3 + 1)) ∧ zK 222 19 [vR 127 111, vI l1, vI (l2 + 0), vI (l3 + 1), vI l4] [] h8 Q) ∧
    (¬ (l4 = 0) →
    (inR (l2 + 1)) ∧ (inR (l3 + 1)) ∧ zK 222 19 [vR 127 111, vI l1, vI (l2 + 1), vI (l3 + 1), vI l4] [] h8 Q)) : zK 222 87 [vR 127 111, vI l1, vI l2, vI l3, vI l4] [vI s0, vI s1, vR 162 32141] h Q :=
  zwpe_W (cd := c222) rfl [19, 51, 56, 86, 87] 400 87 _ _ _ _ k
-- 223 SyntaxRulesModel.leastRule(I)I
set_option maxRecDepth 100000 in
set_option maxHeartbeats 4000000 in
theorem k223_0 (p1 : Int) (h : zH) (Q : Option zV → zH → Prop) (k :
  zK 223 2 [vR 127 111, vI p1, vI 0] [] h Q) : zK 223 0 [vR 127 111, vI p1, vU] [] h Q :=
  zwpe_W (cd := c223) rfl [2] 400 0 _ _ _ _ k
set_option maxRecDepth 100000 in
set_option maxHeartbeats 4000000 in
theorem k223_2 (l1 : Int) (l2 : Int) (h : zH) (Q : Option zV → zH → Prop) (k :
  (8 ≤ l2 →
    Q (some (vI ((-1)))) h) ∧
    (¬ (8 ≤ l2) →
    zC1 191 [vR 127 111, vI l2, vI l1] h (fun v2 h2 =>
    (v2 = 0 →
      (inR (l2 + 1)) ∧ zK 223 2 [vR 127 111, vI l1, vI (l2 + 1)] [] h2 Q) ∧
      (¬ (v2 = 0) →
      Q (some (vI l2)) h2)))) : zK 223 2 [vR 127 111, vI l1, vI l2] [] h Q :=
  zwpe_W (cd := c223) rfl [2] 400 2 _ _ _ _ k
-- 224 SyntaxRulesModel.addEdit(II)V
set_option maxRecDepth 100000 in
set_option maxHeartbeats 4000000 in
theorem k224_0 (p1 : Int) (p2 : Int) (h : zH) (Q : Option zV → zH → Prop) (k :
  zK 224 5 [vR 127 111, vI p1, vI p2, vI (gI h 127 59)] [] h Q) : zK 224 0 [vR 127 111, vI p1, vI p2, vU] [] h Q :=
  zwpe_W (cd := c224) rfl [5, 55] 400 0 _ _ _ _ k
set_option maxRecDepth 100000 in
set_option maxHeartbeats 4000000 in
theorem k224_5 (l1 : Int) (l2 : Int) (l3 : Int) (h : zH) (Q : Option zV → zH → Prop) (k :
  (l3 ≤ 0 →
    zK 224 55 [vR 127 111, vI l1, vI l2, vI l3] [] h Q) ∧
    (¬ (l3 ≤ 0) →
    (inR (l3 - 1)) ∧ (0 ≤ (l3 - 1 : Int)) ∧ ((l3 - 1 : Int) < 60) ∧ ((gI h 163 (l3 - 1)) ≤ l1 →
      zK 224 55 [vR 127 111, vI l1, vI l2, vI l3] [] h Q) ∧
      (¬ ((gI h 163 (l3 - 1)) ≤ l1) →
      (inR (l3 - 1)) ∧ (0 ≤ (l3 - 1 : Int)) ∧ ((l3 - 1 : Int) < 60) ∧ (0 ≤ (l3 : Int)) ∧ ((l3 : Int) < 60) ∧ ∀ h6 : zH, h6 = sI h 163 l3 (gI h 163 (l3 - 1)) →
      (inR (l3 - 1)) ∧ (0 ≤ (l3 - 1 : Int)) ∧ ((l3 - 1 : Int) < 60) ∧ (0 ≤ (l3 : Int)) ∧ ((l3 : Int) < 60) ∧ ∀ h7 : zH, h7 = sI h6 164 l3 (gI h6 164 (l3 - 1)) →
      (inR (l3 + (-1))) ∧ zK 224 5 [vR 127 111, vI l1, vI l2, vI (l3 + (-1))] [] h7 Q))) : zK 224 5 [vR 127 111, vI l1, vI l2, vI l3] [] h Q :=
  zwpe_W (cd := c224) rfl [5, 55] 400 5 _ _ _ _ k
set_option maxRecDepth 100000 in
set_option maxHeartbeats 4000000 in
theorem k224_55 (l1 : Int) (l2 : Int) (l3 : Int) (h : zH) (Q : Option zV → zH → Prop) (k :
  (0 ≤ (l3 : Int)) ∧ ((l3 : Int) < 60) ∧ ∀ h8 : zH, h8 = sI h 163 l3 l1 →
  (0 ≤ (l3 : Int)) ∧ ((l3 : Int) < 60) ∧ ∀ h9 : zH, h9 = sI h8 164 l3 l2 →
  (inR ((gI h9 127 59) + 1)) ∧ ∀ h10 : zH, h10 = sI h9 127 59 ((gI h9 127 59) + 1) →
  Q none h10) : zK 224 55 [vR 127 111, vI l1, vI l2, vI l3] [] h Q :=
  zwpe_W (cd := c224) rfl [5, 55] 400 55 _ _ _ _ k
-- 225 SyntaxRulesModel.walkOutside()V
set_option maxRecDepth 100000 in
set_option maxHeartbeats 4000000 in
theorem k225_0 (h : zH) (Q : Option zV → zH → Prop) (k :
  zK 225 2 [vR 127 111, vI 0, vU] [] h Q) : zK 225 0 [vR 127 111, vU, vU] [] h Q :=
  zwpe_W (cd := c225) rfl [2] 400 0 _ _ _ _ k
set_option maxRecDepth 100000 in
set_option maxHeartbeats 4000000 in
theorem k225_2 (l1 : Int) (u2 : zV) (h : zH) (Q : Option zV → zH → Prop) (k :
  ((gI h 127 20) ≤ l1 →
    Q none h) ∧
    (¬ ((gI h 127 20) ≤ l1) →
    zC1 223 [vR 127 111, vI l1] h (fun v4 h4 =>
    (¬ v4 = (-1) →
      zC0 224 [vR 127 111, vI l1, vI v4] h4 (fun h5 =>
      zC1 158 [vR 127 111, vI l1, vI 6] h5 (fun v6 h6 =>
      (inR (l1 + v6)) ∧ zK 225 2 [vR 127 111, vI (l1 + v6), vI v4] [] h6 Q))) ∧
      (¬ (¬ v4 = (-1)) →
      (inR (l1 + 1)) ∧ zK 225 2 [vR 127 111, vI (l1 + 1), vI v4] [] h4 Q)))) : zK 225 2 [vR 127 111, vI l1, u2] [] h Q :=
  zwpe_W (cd := c225) rfl [2] 400 2 _ _ _ _ k
-- 226 SyntaxRulesModel.hasEdit(I)Z
set_option maxRecDepth 100000 in
set_option maxHeartbeats 4000000 in
theorem k226_0 (p1 : Int) (h : zH) (Q : Option zV → zH → Prop) (k :
  zK 226 4 [vR 127 111, vI p1, vI 0, vI 0] [] h Q) : zK 226 0 [vR 127 111, vI p1, vU, vU] [] h Q :=
  zwpe_W (cd := c226) rfl [4] 400 0 _ _ _ _ k
set_option maxRecDepth 100000 in
set_option maxHeartbeats 4000000 in
theorem k226_4 (l1 : Int) (l2 : Int) (l3 : Int) (h : zH) (Q : Option zV → zH → Prop) (k :
  ((gI h 127 59) ≤ l3 →
    ((l2 : Int) = 0 ∨ (l2 : Int) = 1) ∧ Q (some (vI l2)) h) ∧
    (¬ ((gI h 127 59) ≤ l3) →
    (¬ l2 = 0 →
      (inR (l3 + 1)) ∧ zK 226 4 [vR 127 111, vI l1, vI 1, vI (l3 + 1)] [] h Q) ∧
      (¬ (¬ l2 = 0) →
      (0 ≤ (l3 : Int)) ∧ ((l3 : Int) < 60) ∧ ((gI h 163 l3) < l1 →
        (inR (l3 + 1)) ∧ zK 226 4 [vR 127 111, vI l1, vI 0, vI (l3 + 1)] [] h Q) ∧
        (¬ ((gI h 163 l3) < l1) →
        (0 ≤ (l3 : Int)) ∧ ((l3 : Int) < 60) ∧ zC1 158 [vR 127 111, vI l1, vI 6] h (fun v2 h2 =>
        (inR (l1 + v2)) ∧ ((l1 + v2) ≤ (gI h 163 l3) →
          (inR (l3 + 1)) ∧ zK 226 4 [vR 127 111, vI l1, vI 0, vI (l3 + 1)] [] h2 Q) ∧
          (¬ ((l1 + v2) ≤ (gI h 163 l3)) →
          (inR (l3 + 1)) ∧ zK 226 4 [vR 127 111, vI l1, vI 1, vI (l3 + 1)] [] h2 Q)))))) : zK 226 4 [vR 127 111, vI l1, vI l2, vI l3] [] h Q :=
  zwpe_W (cd := c226) rfl [4] 400 4 _ _ _ _ k
-- 227 SyntaxRulesModel.walkInside()V
set_option maxRecDepth 100000 in
set_option maxHeartbeats 4000000 in
theorem k227_0 (h : zH) (Q : Option zV → zH → Prop) (k :
  zK 227 2 [vR 127 111, vI 0, vU] [] h Q) : zK 227 0 [vR 127 111, vU, vU] [] h Q :=
  zwpe_W (cd := c227) rfl [2, 12, 73, 108] 400 0 _ _ _ _ k
set_option maxRecDepth 100000 in
set_option maxHeartbeats 4000000 in
theorem k227_2 (l1 : Int) (u2 : zV) (h : zH) (Q : Option zV → zH → Prop) (k :
  ((gI h 127 20) ≤ l1 →
    zK 227 73 [vR 127 111, vI 0, u2] [] h Q) ∧
    (¬ ((gI h 127 20) ≤ l1) →
    zK 227 12 [vR 127 111, vI l1, vI l1] [] h Q)) : zK 227 2 [vR 127 111, vI l1, u2] [] h Q :=
  zwpe_W (cd := c227) rfl [2, 12, 73, 108] 400 2 _ _ _ _ k
set_option maxRecDepth 100000 in
set_option maxHeartbeats 4000000 in
theorem k227_12 (l1 : Int) (l2 : Int) (h : zH) (Q : Option zV → zH → Prop) (k :
  (l2 ≤ 0 →
    (0 ≤ (l2 : Int)) ∧ ((l2 : Int) < 60) ∧ ∀ h9 : zH, h9 = sI h 165 l2 l1 →
    (inR (l1 + 1)) ∧ zK 227 2 [vR 127 111, vI (l1 + 1), vI l2] [] h9 Q) ∧
    (¬ (l2 ≤ 0) →
    (inR (l2 - 1)) ∧ (0 ≤ (l2 - 1 : Int)) ∧ ((l2 - 1 : Int) < 60) ∧ zC1 158 [vR 127 111, vI (gI h 165 (l2 - 1)), vI 5] h (fun v10 h10 =>
    zC1 158 [vR 127 111, vI l1, vI 5] h10 (fun v11 h11 =>
    (v10 ≤ v11 →
      (0 ≤ (l2 : Int)) ∧ ((l2 : Int) < 60) ∧ ∀ h12 : zH, h12 = sI h11 165 l2 l1 →
      (inR (l1 + 1)) ∧ zK 227 2 [vR 127 111, vI (l1 + 1), vI l2] [] h12 Q) ∧
      (¬ (v10 ≤ v11) →
      (inR (l2 - 1)) ∧ (0 ≤ (l2 - 1 : Int)) ∧ ((l2 - 1 : Int) < 60) ∧ (0 ≤ (l2 : Int)) ∧ ((l2 : Int) < 60) ∧ ∀ h13 : zH, h13 = sI h11 165 l2 (gI h11 165 (l2 - 1)) →
      (inR (l2 + (-1))) ∧ zK 227 12 [vR 127 111, vI l1, vI (l2 + (-1))] [] h13 Q))))) : zK 227 12 [vR 127 111, vI l1, vI l2] [] h Q :=
  zwpe_W (cd := c227) rfl [2, 12, 73, 108] 400 12 _ _ _ _ k
set_option maxRecDepth 100000 in
set_option maxHeartbeats 4000000 in
theorem k227_73 (l1 : Int) (u2 : zV) (h : zH) (Q : Option zV → zH → Prop) (k :
  ((gI h 127 20) ≤ l1 →
    Q none h) ∧
    (¬ ((gI h 127 20) ≤ l1) →
    (0 ≤ (l1 : Int)) ∧ ((l1 : Int) < 60) ∧ zC1 226 [vR 127 111, vI (gI h 165 l1)] h (fun v14 h14 =>
    (v14 = 0 →
      (0 ≤ (l1 : Int)) ∧ ((l1 : Int) < 60) ∧ zC1 223 [vR 127 111, vI (gI h14 165 l1)] h14 (fun v15 h15 =>
      zK 227 108 [vR 127 111, vI l1, u2] [vI v15] h15 Q)) ∧
      (¬ (v14 = 0) →
      zK 227 108 [vR 127 111, vI l1, u2] [vI ((-1))] h14 Q)))) : zK 227 73 [vR 127 111, vI l1, u2] [] h Q :=
  zwpe_W (cd := c227) rfl [2, 12, 73, 108] 400 73 _ _ _ _ k
set_option maxRecDepth 100000 in
set_option maxHeartbeats 4000000 in
theorem k227_108 (l1 : Int) (u2 : zV) (s0 : Int) (h : zH) (Q : Option zV → zH → Prop) (k :
  (s0 = (-1) →
    (inR (l1 + 1)) ∧ zK 227 73 [vR 127 111, vI (l1 + 1), vI s0] [] h Q) ∧
    (¬ (s0 = (-1)) →
    (0 ≤ (l1 : Int)) ∧ ((l1 : Int) < 60) ∧ zC0 224 [vR 127 111, vI (gI h 165 l1), vI s0] h (fun h16 =>
    (inR (l1 + 1)) ∧ zK 227 73 [vR 127 111, vI (l1 + 1), vI s0] [] h16 Q))) : zK 227 108 [vR 127 111, vI l1, u2] [vI s0] h Q :=
  zwpe_W (cd := c227) rfl [2, 12, 73, 108] 400 108 _ _ _ _ k
-- 228 SyntaxRulesModel.isWay(I)Z
set_option maxRecDepth 100000 in
set_option maxHeartbeats 4000000 in
theorem k228_0 (p0 : Int) (h : zH) (Q : Option zV → zH → Prop) (k :
  zC1 141 [vL p0, vL 0, vL 1] h (fun v2 h2 =>
  ((v2 : Int) = 0 ∨ (v2 : Int) = 1) ∧ Q (some (vI v2)) h2)) : zK 228 0 [vI p0] [] h Q :=
  zwpe_W (cd := c228) rfl [] 400 0 _ _ _ _ k
-- 229 SyntaxRulesModel.walk(I)V
set_option maxRecDepth 100000 in
set_option maxHeartbeats 4000000 in
theorem k229_0 (p1 : Int) (h : zH) (Q : Option zV → zH → Prop) (k :
  ∀ h4 : zH, h4 = sI h 127 59 0 →
  (¬ p1 = 0 →
    zC0 227 [vR 127 111] h4 (fun h5 =>
    Q none h5)) ∧
    (¬ (¬ p1 = 0) →
    zC0 225 [vR 127 111] h4 (fun h6 =>
    Q none h6))) : zK 229 0 [vR 127 111, vI p1] [] h Q :=
  zwpe_W (cd := c229) rfl [] 400 0 _ _ _ _ k
-- 230 SyntaxRulesModel.puts(I)V
set_option maxRecDepth 100000 in
set_option maxHeartbeats 4000000 in
theorem k230_0 (p1 : Int) (h : zH) (Q : Option zV → zH → Prop) (k :
  (0 ≤ (gI h 127 62 : Int)) ∧ ((gI h 127 62 : Int) < 7000) ∧ (-128 ≤ (iByte p1 : Int) ∧ (iByte p1 : Int) ≤ 127) ∧ ∀ h3 : zH, h3 = sI h 166 (gI h 127 62) (iByte p1) →
  (inR ((gI h3 127 62) + 1)) ∧ ∀ h4 : zH, h4 = sI h3 127 62 ((gI h3 127 62) + 1) →
  Q none h4) : zK 230 0 [vR 127 111, vI p1] [] h Q :=
  zwpe_W (cd := c230) rfl [] 400 0 _ _ _ _ k
-- 231 SyntaxRulesModel.putsRow(II)V
set_option maxRecDepth 100000 in
set_option maxHeartbeats 4000000 in
theorem k231_0 (p1 : Int) (p2 : Int) (h : zH) (Q : Option zV → zH → Prop) (k :
  zK 231 2 [vR 127 111, vI p1, vI p2, vI p1] [] h Q) : zK 231 0 [vR 127 111, vI p1, vI p2, vU] [] h Q :=
  zwpe_W (cd := c231) rfl [2] 400 0 _ _ _ _ k
set_option maxRecDepth 100000 in
set_option maxHeartbeats 4000000 in
theorem k231_2 (u1 : zV) (l2 : Int) (l3 : Int) (h : zH) (Q : Option zV → zH → Prop) (k :
  (l2 ≤ l3 →
    Q none h) ∧
    (¬ (l2 ≤ l3) →
    (0 ≤ (l3 : Int)) ∧ ((l3 : Int) < 2709) ∧ zC0 230 [vR 127 111, vI (gI h 128 l3)] h (fun h2 =>
    (inR (l3 + 1)) ∧ zK 231 2 [vR 127 111, u1, vI l2, vI (l3 + 1)] [] h2 Q))) : zK 231 2 [vR 127 111, u1, vI l2, vI l3] [] h Q :=
  zwpe_W (cd := c231) rfl [2] 400 2 _ _ _ _ k
-- 232 SyntaxRulesModel.layHeld()V
set_option maxRecDepth 100000 in
set_option maxHeartbeats 4000000 in
theorem k232_0 (h : zH) (Q : Option zV → zH → Prop) (k :
  zK 232 2 [vR 127 111, vI 0, vU, vU] [] h Q) : zK 232 0 [vR 127 111, vU, vU, vU] [] h Q :=
  zwpe_W (cd := c232) rfl [2, 40] 400 0 _ _ _ _ k
set_option maxRecDepth 100000 in
set_option maxHeartbeats 4000000 in
theorem k232_2 (l1 : Int) (u2 : zV) (u3 : zV) (h : zH) (Q : Option zV → zH → Prop) (k :
  (26 ≤ l1 →
    Q none h) ∧
    (¬ (26 ≤ l1) →
    (0 ≤ (l1 : Int)) ∧ ((l1 : Int) < 26) ∧ ∀ h8 : zH, h8 = sI h 167 l1 0 →
    (0 ≤ (l1 : Int)) ∧ ((l1 : Int) < 26) ∧ ∀ h9 : zH, h9 = sI h8 168 l1 0 →
    (0 ≤ (l1 : Int)) ∧ ((l1 : Int) < 26) ∧ ((gI h9 147 l1) ≤ 0 →
      (inR (l1 + 1)) ∧ zK 232 2 [vR 127 111, vI (l1 + 1), u2, u3] [] h9 Q) ∧
      (¬ ((gI h9 147 l1) ≤ 0) →
      (0 ≤ (l1 : Int)) ∧ ((l1 : Int) < 26) ∧ zK 232 40 [vR 127 111, vI l1, vI (gI h9 146 l1), vI 1] [] h9 Q))) : zK 232 2 [vR 127 111, vI l1, u2, u3] [] h Q :=
  zwpe_W (cd := c232) rfl [2, 40] 400 2 _ _ _ _ k
set_option maxRecDepth 100000 in
set_option maxHeartbeats 4000000 in
theorem k232_40 (l1 : Int) (l2 : Int) (l3 : Int) (h : zH) (Q : Option zV → zH → Prop) (k :
  (0 ≤ (l1 : Int)) ∧ ((l1 : Int) < 26) ∧ ((gI h 147 l1) ≤ l3 →
    (0 ≤ (l1 : Int)) ∧ ((l1 : Int) < 26) ∧ zC1 158 [vR 127 111, vI (gI h 146 l1), vI 4] h (fun v10 h10 =>
    (0 ≤ (l1 : Int)) ∧ ((l1 : Int) < 26) ∧ ∀ h11 : zH, h11 = sI h10 167 l1 v10 →
    zC1 158 [vR 127 111, vI l2, vI 5] h11 (fun v12 h12 =>
    (0 ≤ (l1 : Int)) ∧ ((l1 : Int) < 26) ∧ ∀ h13 : zH, h13 = sI h12 168 l1 v12 →
    (inR (l1 + 1)) ∧ zK 232 2 [vR 127 111, vI (l1 + 1), vI l2, vI l3] [] h13 Q))) ∧
    (¬ ((gI h 147 l1) ≤ l3) →
    zC1 158 [vR 127 111, vI l2, vI 6] h (fun v14 h14 =>
    (inR (l2 + v14)) ∧ (inR (l3 + 1)) ∧ zK 232 40 [vR 127 111, vI l1, vI (l2 + v14), vI (l3 + 1)] [] h14 Q))) : zK 232 40 [vR 127 111, vI l1, vI l2, vI l3] [] h Q :=
  zwpe_W (cd := c232) rfl [2, 40] 400 40 _ _ _ _ k
-- 233 SyntaxRulesModel.isHeld(II)Z
set_option maxRecDepth 100000 in
set_option maxHeartbeats 4000000 in
theorem k233_0 (p1 : Int) (p2 : Int) (h : zH) (Q : Option zV → zH → Prop) (k :
  zK 233 5 [vR 127 111, vI p1, vI p2, vI 0, vI 0, vU, vU] [] h Q) : zK 233 0 [vR 127 111, vI p1, vI p2, vU, vU, vU, vU] [] h Q :=
  zwpe_W (cd := c233) rfl [5, 59] 400 0 _ _ _ _ k
set_option maxRecDepth 100000 in
set_option maxHeartbeats 4000000 in
theorem k233_5 (l1 : Int) (l2 : Int) (l3 : Int) (l4 : Int) (u5 : zV) (u6 : zV) (h : zH) (Q : Option zV → zH → Prop) (k :
  (inR (2 * l1)) ∧ (inR ((2 * l1) + 1)) ∧ (0 ≤ ((2 * l1) + 1 : Int)) ∧ (((2 * l1) + 1 : Int) < 16) ∧ ((gI h 140 ((2 * l1) + 1)) ≤ l4 →
    ((l3 : Int) = 0 ∨ (l3 : Int) = 1) ∧ Q (some (vI l3)) h) ∧
    (¬ ((gI h 140 ((2 * l1) + 1)) ≤ l4) →
    zC1 179 [vR 127 111, vI l1, vI 1, vI l4, vI 0] h (fun v3 h3 =>
    zC1 179 [vR 127 111, vI l1, vI 1, vI l4, vI 1] h3 (fun v4 h4 =>
    (¬ l3 = 0 →
      (inR (l4 + 1)) ∧ zK 233 5 [vR 127 111, vI l1, vI l2, vI 1, vI (l4 + 1), vI v3, vI v4] [] h4 Q) ∧
      (¬ (¬ l3 = 0) →
      (v3 = 1 →
        zK 233 59 [vR 127 111, vI l1, vI l2, vI l3, vI l4, vI v3, vI v4] [] h4 Q) ∧
        (¬ (v3 = 1) →
        (¬ v3 = 6 →
          (inR (l4 + 1)) ∧ zK 233 5 [vR 127 111, vI l1, vI l2, vI 0, vI (l4 + 1), vI v3, vI v4] [] h4 Q) ∧
          (¬ (¬ v3 = 6) →
          zK 233 59 [vR 127 111, vI l1, vI l2, vI l3, vI l4, vI v3, vI v4] [] h4 Q))))))) : zK 233 5 [vR 127 111, vI l1, vI l2, vI l3, vI l4, u5, u6] [] h Q :=
  zwpe_W (cd := c233) rfl [5, 59] 400 5 _ _ _ _ k
set_option maxRecDepth 100000 in
set_option maxHeartbeats 4000000 in
theorem k233_59 (l1 : Int) (l2 : Int) (u3 : zV) (l4 : Int) (u5 : zV) (l6 : Int) (h : zH) (Q : Option zV → zH → Prop) (k :
  (inR (3 * l2)) ∧ (0 ≤ (3 * l2 : Int)) ∧ ((3 * l2 : Int) < 450) ∧ (0 ≤ (l6 : Int)) ∧ ((l6 : Int) < 26) ∧ ((gI h 138 (3 * l2)) < (gI h 167 l6) →
    (inR (l4 + 1)) ∧ zK 233 5 [vR 127 111, vI l1, vI l2, vI 0, vI (l4 + 1), u5, vI l6] [] h Q) ∧
    (¬ ((gI h 138 (3 * l2)) < (gI h 167 l6)) →
    (inR (3 * l2)) ∧ (0 ≤ (3 * l2 : Int)) ∧ ((3 * l2 : Int) < 450) ∧ (0 ≤ (l6 : Int)) ∧ ((l6 : Int) < 26) ∧ ((gI h 168 l6) ≤ (gI h 138 (3 * l2)) →
      (inR (l4 + 1)) ∧ zK 233 5 [vR 127 111, vI l1, vI l2, vI 0, vI (l4 + 1), u5, vI l6] [] h Q) ∧
      (¬ ((gI h 168 l6) ≤ (gI h 138 (3 * l2))) →
      (inR (l4 + 1)) ∧ zK 233 5 [vR 127 111, vI l1, vI l2, vI 1, vI (l4 + 1), u5, vI l6] [] h Q))) : zK 233 59 [vR 127 111, vI l1, vI l2, u3, vI l4, u5, vI l6] [] h Q :=
  zwpe_W (cd := c233) rfl [5, 59] 400 59 _ _ _ _ k
-- 234 SyntaxRulesModel.putsToken(IIZ)V
set_option maxRecDepth 100000 in
set_option maxHeartbeats 4000000 in
theorem k234_0 (p1 : Int) (p2 : Int) (p3 : Int) (h : zH) (Q : Option zV → zH → Prop) (k :
  zC1 179 [vR 127 111, vI p1, vI 1, vI p2, vI 0] h (fun v11 h11 =>
  zC1 179 [vR 127 111, vI p1, vI 1, vI p2, vI 1] h11 (fun v12 h12 =>
  (v11 = 1 →
    zK 234 33 [vR 127 111, vI p1, vI p2, vI p3, vI v11, vI v12, vU, vU] [] h12 Q) ∧
    (¬ (v11 = 1) →
    (¬ v11 = 6 →
      zK 234 38 [vR 127 111, vI p1, vI p2, vI p3, vI v11, vI v12, vU, vU] [vI 0] h12 Q) ∧
      (¬ (¬ v11 = 6) →
      zK 234 33 [vR 127 111, vI p1, vI p2, vI p3, vI v11, vI v12, vU, vU] [] h12 Q))))) : zK 234 0 [vR 127 111, vI p1, vI p2, vI p3, vU, vU, vU, vU] [] h Q :=
  zwpe_W (cd := c234) rfl [33, 38, 66, 72, 126] 400 0 _ _ _ _ k
set_option maxRecDepth 100000 in
set_option maxHeartbeats 4000000 in
theorem k234_33 (l1 : Int) (l2 : Int) (l3 : Int) (l4 : Int) (l5 : Int) (u6 : zV) (u7 : zV) (h : zH) (Q : Option zV → zH → Prop) (k :
  zK 234 38 [vR 127 111, vI l1, vI l2, vI l3, vI l4, vI l5, u6, u7] [vI 1] h Q) : zK 234 33 [vR 127 111, vI l1, vI l2, vI l3, vI l4, vI l5, u6, u7] [] h Q :=
  zwpe_W (cd := c234) rfl [33, 38, 66, 72, 126] 400 33 _ _ _ _ k
set_option maxRecDepth 100000 in
set_option maxHeartbeats 4000000 in
theorem k234_38 (l1 : Int) (l2 : Int) (l3 : Int) (l4 : Int) (l5 : Int) (u6 : zV) (u7 : zV) (s0 : Int) (h : zH) (Q : Option zV → zH → Prop) (k :
  (¬ l3 = 0 →
    zK 234 72 [vR 127 111, vI l1, vI l2, vI l3, vI l4, vI l5, vI s0, u7] [] h Q) ∧
    (¬ (¬ l3 = 0) →
    (l4 = 7 →
      zK 234 72 [vR 127 111, vI l1, vI l2, vI l3, vI l4, vI l5, vI s0, u7] [] h Q) ∧
      (¬ (l4 = 7) →
      (s0 = 0 →
        zK 234 66 [vR 127 111, vI l1, vI l2, vI l3, vI l4, vI l5, vI s0, u7] [] h Q) ∧
        (¬ (s0 = 0) →
        (0 ≤ (l5 : Int)) ∧ ((l5 : Int) < 26) ∧ ((gI h 168 l5) = 0 →
          zK 234 72 [vR 127 111, vI l1, vI l2, vI l3, vI l4, vI l5, vI s0, u7] [] h Q) ∧
          (¬ ((gI h 168 l5) = 0) →
          zK 234 66 [vR 127 111, vI l1, vI l2, vI l3, vI l4, vI l5, vI s0, u7] [] h Q))))) : zK 234 38 [vR 127 111, vI l1, vI l2, vI l3, vI l4, vI l5, u6, u7] [vI s0] h Q :=
  zwpe_W (cd := c234) rfl [33, 38, 66, 72, 126] 400 38 _ _ _ _ k
set_option maxRecDepth 100000 in
set_option maxHeartbeats 4000000 in
theorem k234_66 (l1 : Int) (l2 : Int) (u3 : zV) (l4 : Int) (l5 : Int) (l6 : Int) (u7 : zV) (h : zH) (Q : Option zV → zH → Prop) (k :
  zC0 230 [vR 127 111, vI 32] h (fun h13 =>
  zK 234 72 [vR 127 111, vI l1, vI l2, u3, vI l4, vI l5, vI l6, u7] [] h13 Q)) : zK 234 66 [vR 127 111, vI l1, vI l2, u3, vI l4, vI l5, vI l6, u7] [] h Q :=
  zwpe_W (cd := c234) rfl [33, 38, 66, 72, 126] 400 66 _ _ _ _ k
set_option maxRecDepth 100000 in
set_option maxHeartbeats 4000000 in
theorem k234_72 (l1 : Int) (l2 : Int) (u3 : zV) (l4 : Int) (l5 : Int) (l6 : Int) (u7 : zV) (h : zH) (Q : Option zV → zH → Prop) (k :
  (¬ l4 = 7 →
    (l6 = 0 →
      (¬ l4 = 5 →
        zK 234 126 [vR 127 111, vI l1, vI l2, u3, vI l4, vI l5, vI l6, u7] [] h Q) ∧
        (¬ (¬ l4 = 5) →
        zC0 230 [vR 127 111, vI 40] h (fun h14 =>
        zK 234 126 [vR 127 111, vI l1, vI l2, u3, vI l4, vI l5, vI l6, u7] [] h14 Q))) ∧
      (¬ (l6 = 0) →
      (0 ≤ (l5 : Int)) ∧ ((l5 : Int) < 26) ∧ (0 ≤ (l5 : Int)) ∧ ((l5 : Int) < 26) ∧ zC0 231 [vR 127 111, vI (gI h 167 l5), vI (gI h 168 l5)] h (fun h15 =>
      Q none h15))) ∧
    (¬ (¬ l4 = 7) →
    zC0 230 [vR 127 111, vI 41] h (fun h16 =>
    Q none h16))) : zK 234 72 [vR 127 111, vI l1, vI l2, u3, vI l4, vI l5, vI l6, u7] [] h Q :=
  zwpe_W (cd := c234) rfl [33, 38, 66, 72, 126] 400 72 _ _ _ _ k
set_option maxRecDepth 100000 in
set_option maxHeartbeats 4000000 in
theorem k234_126 (l1 : Int) (l2 : Int) (u3 : zV) (u4 : zV) (u5 : zV) (u6 : zV) (u7 : zV) (h : zH) (Q : Option zV → zH → Prop) (k :
  zC1 142 [vI l1] h (fun v17 h17 =>
  zC1 179 [vR 127 111, vI l1, vI 1, vI l2, vI 3] h17 (fun v18 h18 =>
  (inR (v17 + v18)) ∧ zC1 179 [vR 127 111, vI l1, vI 1, vI l2, vI 4] h18 (fun v19 h19 =>
  (inR ((v17 + v18) + v19)) ∧ zC0 231 [vR 127 111, vI (v17 + v18), vI ((v17 + v18) + v19)] h19 (fun h20 =>
  Q none h20))))) : zK 234 126 [vR 127 111, vI l1, vI l2, u3, u4, u5, u6, u7] [] h Q :=
  zwpe_W (cd := c234) rfl [33, 38, 66, 72, 126] 400 126 _ _ _ _ k
-- 235 SyntaxRulesModel.layComing(I)V
set_option maxRecDepth 100000 in
set_option maxHeartbeats 4000000 in
theorem k235_0 (p1 : Int) (h : zH) (Q : Option zV → zH → Prop) (k :
  (0 ≤ (p1 : Int)) ∧ ((p1 : Int) < 60) ∧ (0 ≤ (p1 : Int)) ∧ ((p1 : Int) < 60) ∧ zC1 191 [vR 127 111, vI (gI h 164 p1), vI (gI h 163 p1)] h (fun v13 h13 =>
  zC0 232 [vR 127 111] h13 (fun h14 =>
  ∀ h15 : zH, h15 = sI h14 127 62 0 →
  ∀ h16 : zH, h16 = sI h15 127 63 0 →
  zK 235 38 [vR 127 111, vI p1, vI (gI h 164 p1), vI (gI h 163 p1), vI 0, vU] [] h16 Q))) : zK 235 0 [vR 127 111, vI p1, vU, vU, vU, vU] [] h Q :=
  zwpe_W (cd := c235) rfl [38, 87, 88, 164] 400 0 _ _ _ _ k
set_option maxRecDepth 100000 in
set_option maxHeartbeats 4000000 in
theorem k235_38 (u1 : zV) (l2 : Int) (l3 : Int) (l4 : Int) (u5 : zV) (h : zH) (Q : Option zV → zH → Prop) (k :
  ((gI h 127 22) ≤ l4 →
    zK 235 164 [vR 127 111, u1, vI l2, vI l3, vI 0, u5] [] h Q) ∧
    (¬ ((gI h 127 22) ≤ l4) →
    (inR (3 * l4)) ∧ (0 ≤ (3 * l4 : Int)) ∧ ((3 * l4 : Int) < 450) ∧ zC1 158 [vR 127 111, vI l3, vI 4] h (fun v17 h17 =>
    ((gI h 138 (3 * l4)) < v17 →
      zK 235 87 [vR 127 111, u1, vI l2, vI l3, vI l4, u5] [] h17 Q) ∧
      (¬ ((gI h 138 (3 * l4)) < v17) →
      (inR (3 * l4)) ∧ (0 ≤ (3 * l4 : Int)) ∧ ((3 * l4 : Int) < 450) ∧ zC1 158 [vR 127 111, vI l3, vI 5] h17 (fun v18 h18 =>
      (v18 ≤ (gI h17 138 (3 * l4)) →
        zK 235 87 [vR 127 111, u1, vI l2, vI l3, vI l4, u5] [] h18 Q) ∧
        (¬ (v18 ≤ (gI h17 138 (3 * l4))) →
        zK 235 88 [vR 127 111, u1, vI l2, vI l3, vI l4, u5] [vI 1] h18 Q)))))) : zK 235 38 [vR 127 111, u1, vI l2, vI l3, vI l4, u5] [] h Q :=
  zwpe_W (cd := c235) rfl [38, 87, 88, 164] 400 38 _ _ _ _ k
set_option maxRecDepth 100000 in
set_option maxHeartbeats 4000000 in
theorem k235_87 (u1 : zV) (l2 : Int) (l3 : Int) (l4 : Int) (u5 : zV) (h : zH) (Q : Option zV → zH → Prop) (k :
  zK 235 88 [vR 127 111, u1, vI l2, vI l3, vI l4, u5] [vI 0] h Q) : zK 235 87 [vR 127 111, u1, vI l2, vI l3, vI l4, u5] [] h Q :=
  zwpe_W (cd := c235) rfl [38, 87, 88, 164] 400 87 _ _ _ _ k
set_option maxRecDepth 100000 in
set_option maxHeartbeats 4000000 in
theorem k235_88 (u1 : zV) (l2 : Int) (l3 : Int) (l4 : Int) (u5 : zV) (s0 : Int) (h : zH) (Q : Option zV → zH → Prop) (k :
  (s0 = 0 →
    (inR (l4 + 1)) ∧ zK 235 38 [vR 127 111, u1, vI l2, vI l3, vI (l4 + 1), vI s0] [] h Q) ∧
    (¬ (s0 = 0) →
    zC1 233 [vR 127 111, vI l2, vI l4] h (fun v19 h19 =>
    (¬ v19 = 0 →
      (inR (l4 + 1)) ∧ zK 235 38 [vR 127 111, u1, vI l2, vI l3, vI (l4 + 1), vI s0] [] h19 Q) ∧
      (¬ (¬ v19 = 0) →
      (inR (3 * l4)) ∧ (0 ≤ (3 * l4 : Int)) ∧ ((3 * l4 : Int) < 450) ∧ (inR (3 * l4)) ∧ (0 ≤ (3 * l4 : Int)) ∧ ((3 * l4 : Int) < 450) ∧ (inR (3 * l4)) ∧ (inR ((3 * l4) + 1)) ∧ (0 ≤ ((3 * l4) + 1 : Int)) ∧ (((3 * l4) + 1 : Int) < 450) ∧ (inR ((gI h19 138 (3 * l4)) + (gI h19 138 ((3 * l4) + 1)))) ∧ zC0 231 [vR 127 111, vI (gI h19 138 (3 * l4)), vI ((gI h19 138 (3 * l4)) + (gI h19 138 ((3 * l4) + 1)))] h19 (fun h20 =>
      zC0 230 [vR 127 111, vI 32] h20 (fun h21 =>
      (inR ((gI h21 127 63) + 1)) ∧ ∀ h22 : zH, h22 = sI h21 127 63 ((gI h21 127 63) + 1) →
      (inR (l4 + 1)) ∧ zK 235 38 [vR 127 111, u1, vI l2, vI l3, vI (l4 + 1), vI s0] [] h22 Q)))))) : zK 235 88 [vR 127 111, u1, vI l2, vI l3, vI l4, u5] [vI s0] h Q :=
  zwpe_W (cd := c235) rfl [38, 87, 88, 164] 400 88 _ _ _ _ k
set_option maxRecDepth 100000 in
set_option maxHeartbeats 4000000 in
theorem k235_164 (u1 : zV) (l2 : Int) (u3 : zV) (l4 : Int) (u5 : zV) (h : zH) (Q : Option zV → zH → Prop) (k :
  (inR (2 * l2)) ∧ (inR ((2 * l2) + 1)) ∧ (0 ≤ ((2 * l2) + 1 : Int)) ∧ (((2 * l2) + 1 : Int) < 16) ∧ ((gI h 140 ((2 * l2) + 1)) ≤ l4 →
    Q none h) ∧
    (¬ ((gI h 140 ((2 * l2) + 1)) ≤ l4) →
    (¬ l4 = 0 →
      zC0 234 [vR 127 111, vI l2, vI l4, vI 0] h (fun h23 =>
      (inR (l4 + 1)) ∧ zK 235 164 [vR 127 111, u1, vI l2, u3, vI (l4 + 1), u5] [] h23 Q)) ∧
      (¬ (¬ l4 = 0) →
      zC0 234 [vR 127 111, vI l2, vI l4, vI 1] h (fun h24 =>
      (inR (l4 + 1)) ∧ zK 235 164 [vR 127 111, u1, vI l2, u3, vI (l4 + 1), u5] [] h24 Q)))) : zK 235 164 [vR 127 111, u1, vI l2, u3, vI l4, u5] [] h Q :=
  zwpe_W (cd := c235) rfl [38, 87, 88, 164] 400 164 _ _ _ _ k
-- 236 SyntaxRulesModel.edit(III)I
set_option maxRecDepth 100000 in
set_option maxHeartbeats 4000000 in
theorem k236_0 (p1 : Int) (p2 : Int) (p3 : Int) (h : zH) (Q : Option zV → zH → Prop) (k :
  ∀ h7 : zH, h7 = sI h 127 0 0 →
  zC1 228 [vI p1] h7 (fun v8 h8 =>
  (¬ v8 = 0 →
    zC0 229 [vR 127 111, vI p1] h8 (fun h9 =>
    (¬ p2 = (-1) →
      (inL ((gI h9 127 59) - 1)) ∧ zC1 141 [vL p2, vL 0, vL ((gI h9 127 59) - 1)] h9 (fun v10 h10 =>
      (v10 = 0 →
        Q (some (vI ((-1)))) h10) ∧
        (¬ (v10 = 0) →
        zC1 141 [vL p3, vL 0, vL 3] h10 (fun v11 h11 =>
        (¬ v11 = 0 →
          (2 ≤ p3 →
            zC0 235 [vR 127 111, vI p2] h11 (fun h12 =>
            (¬ p3 = 2 →
              Q (some (vI (gI h12 127 63))) h12) ∧
              (¬ (¬ p3 = 2) →
              Q (some (vI (gI h12 127 62))) h12))) ∧
            (¬ (2 ≤ p3) →
            (¬ p3 = 0 →
              (0 ≤ (p2 : Int)) ∧ ((p2 : Int) < 60) ∧ Q (some (vI (gI h11 163 p2))) h11) ∧
              (¬ (¬ p3 = 0) →
              (0 ≤ (p2 : Int)) ∧ ((p2 : Int) < 60) ∧ Q (some (vI (gI h11 164 p2))) h11))) ∧
          (¬ (¬ v11 = 0) →
          Q (some (vI ((-1)))) h11))))) ∧
      (¬ (¬ p2 = (-1)) →
      (¬ p3 = 0 →
        Q (some (vI ((-1)))) h9) ∧
        (¬ (¬ p3 = 0) →
        Q (some (vI (gI h9 127 59))) h9)))) ∧
    (¬ (¬ v8 = 0) →
    Q (some (vI ((-1)))) h8))) : zK 236 0 [vR 127 111, vI p1, vI p2, vI p3] [] h Q :=
  zwpe_W (cd := c236) rfl [] 400 0 _ _ _ _ k
-- 237 SyntaxRulesModel.comes(III)I
set_option maxRecDepth 100000 in
set_option maxHeartbeats 4000000 in
theorem k237_0 (p1 : Int) (p2 : Int) (p3 : Int) (h : zH) (Q : Option zV → zH → Prop) (k :
  ∀ h7 : zH, h7 = sI h 127 0 0 →
  zC1 228 [vI p1] h7 (fun v8 h8 =>
  (¬ v8 = 0 →
    zC0 229 [vR 127 111, vI p1] h8 (fun h9 =>
    (inL ((gI h9 127 59) - 1)) ∧ zC1 141 [vL p2, vL 0, vL ((gI h9 127 59) - 1)] h9 (fun v10 h10 =>
    (¬ v10 = 0 →
      zC0 235 [vR 127 111, vI p2] h10 (fun h11 =>
      (inL ((gI h11 127 62) - 1)) ∧ zC1 141 [vL p3, vL 0, vL ((gI h11 127 62) - 1)] h11 (fun v12 h12 =>
      (v12 = 0 →
        Q (some (vI ((-1)))) h12) ∧
        (¬ (v12 = 0) →
        (0 ≤ (p3 : Int)) ∧ ((p3 : Int) < 7000) ∧ Q (some (vI (gI h12 166 p3))) h12)))) ∧
      (¬ (¬ v10 = 0) →
      Q (some (vI ((-1)))) h10)))) ∧
    (¬ (¬ v8 = 0) →
    Q (some (vI ((-1)))) h8))) : zK 237 0 [vR 127 111, vI p1, vI p2, vI p3] [] h Q :=
  zwpe_W (cd := c237) rfl [] 400 0 _ _ _ _ k
-- 238 SyntaxRulesModel.rulesIn(I)I
set_option maxRecDepth 100000 in
set_option maxHeartbeats 4000000 in
theorem k238_0 (p1 : Int) (h : zH) (Q : Option zV → zH → Prop) (k :
  zK 238 4 [vR 127 111, vI p1, vI 0, vI p1] [] h Q) : zK 238 0 [vR 127 111, vI p1, vU, vU] [] h Q :=
  zwpe_W (cd := c238) rfl [4] 400 0 _ _ _ _ k
set_option maxRecDepth 100000 in
set_option maxHeartbeats 4000000 in
theorem k238_4 (u0 : zV) (u1 : zV) (l2 : Int) (l3 : Int) (h : zH) (Q : Option zV → zH → Prop) (k :
  (l3 = 0 →
    Q (some (vI l2)) h) ∧
    (¬ (l3 = 0) →
    (inR (l2 + 1)) ∧ (inR (l3 - 1)) ∧ zK 238 4 [u0, u1, vI (l2 + 1), vI (iAnd l3 (l3 - 1))] [] h Q)) : zK 238 4 [u0, u1, vI l2, vI l3] [] h Q :=
  zwpe_W (cd := c238) rfl [4] 400 4 _ _ _ _ k
-- 239 SyntaxRulesModel.isEdit(I)Z
set_option maxRecDepth 100000 in
set_option maxHeartbeats 4000000 in
theorem k239_0 (p1 : Int) (h : zH) (Q : Option zV → zH → Prop) (k :
  zK 239 4 [vR 127 111, vI p1, vI 0, vI 0] [] h Q) : zK 239 0 [vR 127 111, vI p1, vU, vU] [] h Q :=
  zwpe_W (cd := c239) rfl [4] 400 0 _ _ _ _ k
set_option maxRecDepth 100000 in
set_option maxHeartbeats 4000000 in
theorem k239_4 (l1 : Int) (l2 : Int) (l3 : Int) (h : zH) (Q : Option zV → zH → Prop) (k :
  ((gI h 127 59) ≤ l3 →
    ((l2 : Int) = 0 ∨ (l2 : Int) = 1) ∧ Q (some (vI l2)) h) ∧
    (¬ ((gI h 127 59) ≤ l3) →
    (¬ l2 = 0 →
      (inR (l3 + 1)) ∧ zK 239 4 [vR 127 111, vI l1, vI 1, vI (l3 + 1)] [] h Q) ∧
      (¬ (¬ l2 = 0) →
      (0 ≤ (l3 : Int)) ∧ ((l3 : Int) < 60) ∧ (¬ (gI h 163 l3) = l1 →
        (inR (l3 + 1)) ∧ zK 239 4 [vR 127 111, vI l1, vI 0, vI (l3 + 1)] [] h Q) ∧
        (¬ (¬ (gI h 163 l3) = l1) →
        (inR (l3 + 1)) ∧ zK 239 4 [vR 127 111, vI l1, vI 1, vI (l3 + 1)] [] h Q)))) : zK 239 4 [vR 127 111, vI l1, vI l2, vI l3] [] h Q :=
  zwpe_W (cd := c239) rfl [4] 400 4 _ _ _ _ k
-- 240 SyntaxRulesModel.conflicts(II)I
set_option maxRecDepth 100000 in
set_option maxHeartbeats 4000000 in
theorem k240_0 (p1 : Int) (p2 : Int) (h : zH) (Q : Option zV → zH → Prop) (k :
  ∀ h9 : zH, h9 = sI h 127 0 0 →
  zC1 228 [vI p1] h9 (fun v10 h10 =>
  (v10 = 0 →
    Q (some (vI ((-1)))) h10) ∧
    (¬ (v10 = 0) →
    zC1 141 [vL p2, vL 0, vL 2] h10 (fun v11 h11 =>
    (¬ v11 = 0 →
      zC0 229 [vR 127 111, vI p1] h11 (fun h12 =>
      zK 240 42 [vR 127 111, vI p1, vI p2, vI 0, vI 0, vI 0, vI 0, vU] [] h12 Q)) ∧
      (¬ (¬ v11 = 0) →
      Q (some (vI ((-1)))) h11))))) : zK 240 0 [vR 127 111, vI p1, vI p2, vU, vU, vU, vU, vU] [] h Q :=
  zwpe_W (cd := c240) rfl [42, 85, 86, 126] 400 0 _ _ _ _ k
set_option maxRecDepth 100000 in
set_option maxHeartbeats 4000000 in
theorem k240_42 (u1 : zV) (l2 : Int) (l3 : Int) (l4 : Int) (l5 : Int) (l6 : Int) (u7 : zV) (h : zH) (Q : Option zV → zH → Prop) (k :
  ((gI h 127 20) ≤ l6 →
    zK 240 126 [vR 127 111, u1, vI l2, vI l3, vI l4, vI l5, vI 0, u7] [] h Q) ∧
    (¬ ((gI h 127 20) ≤ l6) →
    zC1 195 [vR 127 111, vI l6] h (fun v13 h13 =>
    (v13 = 0 →
      zK 240 85 [vR 127 111, u1, vI l2, vI l3, vI l4, vI (iOr l5 v13), vI l6, vI v13] [vI l3] h13 Q) ∧
      (¬ (v13 = 0) →
      zC1 239 [vR 127 111, vI l6] h13 (fun v14 h14 =>
      (¬ v14 = 0 →
        zK 240 85 [vR 127 111, u1, vI l2, vI l3, vI l4, vI (iOr l5 v13), vI l6, vI v13] [vI l3] h14 Q) ∧
        (¬ (¬ v14 = 0) →
        zK 240 86 [vR 127 111, u1, vI l2, vI l3, vI l4, vI (iOr l5 v13), vI l6, vI v13] [vI 1, vI l3] h14 Q)))))) : zK 240 42 [vR 127 111, u1, vI l2, vI l3, vI l4, vI l5, vI l6, u7] [] h Q :=
  zwpe_W (cd := c240) rfl [42, 85, 86, 126] 400 42 _ _ _ _ k
set_option maxRecDepth 100000 in
set_option maxHeartbeats 4000000 in
theorem k240_85 (u1 : zV) (l2 : Int) (u3 : zV) (l4 : Int) (l5 : Int) (l6 : Int) (l7 : Int) (s0 : Int) (h : zH) (Q : Option zV → zH → Prop) (k :
  zK 240 86 [vR 127 111, u1, vI l2, u3, vI l4, vI l5, vI l6, vI l7] [vI 0, vI s0] h Q) : zK 240 85 [vR 127 111, u1, vI l2, u3, vI l4, vI l5, vI l6, vI l7] [vI s0] h Q :=
  zwpe_W (cd := c240) rfl [42, 85, 86, 126] 400 85 _ _ _ _ k
set_option maxRecDepth 100000 in
set_option maxHeartbeats 4000000 in
theorem k240_86 (u1 : zV) (l2 : Int) (u3 : zV) (l4 : Int) (l5 : Int) (l6 : Int) (l7 : Int) (s0 : Int) (s1 : Int) (h : zH) (Q : Option zV → zH → Prop) (k :
  (inR (s1 + s0)) ∧ zC1 238 [vR 127 111, vI l7] h (fun v15 h15 =>
  (v15 ≤ 1 →
    (inR (l4 + 0)) ∧ (inR (l6 + 1)) ∧ zK 240 42 [vR 127 111, u1, vI l2, vI (s1 + s0), vI (l4 + 0), vI l5, vI (l6 + 1), vI l7] [] h15 Q) ∧
    (¬ (v15 ≤ 1) →
    zC1 239 [vR 127 111, vI l6] h15 (fun v16 h16 =>
    (v16 = 0 →
      (inR (l4 + 0)) ∧ (inR (l6 + 1)) ∧ zK 240 42 [vR 127 111, u1, vI l2, vI (s1 + s0), vI (l4 + 0), vI l5, vI (l6 + 1), vI l7] [] h16 Q) ∧
      (¬ (v16 = 0) →
      (inR (l4 + 1)) ∧ (inR (l6 + 1)) ∧ zK 240 42 [vR 127 111, u1, vI l2, vI (s1 + s0), vI (l4 + 1), vI l5, vI (l6 + 1), vI l7] [] h16 Q))))) : zK 240 86 [vR 127 111, u1, vI l2, u3, vI l4, vI l5, vI l6, vI l7] [vI s0, vI s1] h Q :=
  zwpe_W (cd := c240) rfl [42, 85, 86, 126] 400 86 _ _ _ _ k
set_option maxRecDepth 100000 in
set_option maxHeartbeats 4000000 in
theorem k240_126 (u1 : zV) (l2 : Int) (l3 : Int) (l4 : Int) (l5 : Int) (l6 : Int) (u7 : zV) (h : zH) (Q : Option zV → zH → Prop) (k :
  ((gI h 127 59) ≤ l6 →
    (¬ l2 = 0 →
      (¬ l2 = 1 →
        Q (some (vI l5)) h) ∧
        (¬ (¬ l2 = 1) →
        Q (some (vI l4)) h)) ∧
      (¬ (¬ l2 = 0) →
      Q (some (vI l3)) h)) ∧
    (¬ ((gI h 127 59) ≤ l6) →
    (0 ≤ (l6 : Int)) ∧ ((l6 : Int) < 60) ∧ (inR (l6 + 1)) ∧ zK 240 126 [vR 127 111, u1, vI l2, vI l3, vI l4, vI (iAnd l5 (iXor (iShl 1 (gI h 164 l6)) (-1))), vI (l6 + 1), u7] [] h Q)) : zK 240 126 [vR 127 111, u1, vI l2, vI l3, vI l4, vI l5, vI l6, u7] [] h Q :=
  zwpe_W (cd := c240) rfl [42, 85, 86, 126] 400 126 _ _ _ _ k
-- 241 SyntaxRulesModel.areBeside(II)Z
set_option maxRecDepth 100000 in
set_option maxHeartbeats 4000000 in
theorem k241_0 (p0 : Int) (p1 : Int) (h : zH) (Q : Option zV → zH → Prop) (k :
  zC1 144 [vI p0] h (fun v5 h5 =>
  (v5 = 0 →
    zK 241 14 [vI p0, vI p1] [] h5 Q) ∧
    (¬ (v5 = 0) →
    zC1 144 [vI p1] h5 (fun v6 h6 =>
    (¬ v6 = 0 →
      ((1 : Int) = 0 ∨ (1 : Int) = 1) ∧ Q (some (vI 1)) h6) ∧
      (¬ (¬ v6 = 0) →
      zK 241 14 [vI p0, vI p1] [] h6 Q))))) : zK 241 0 [vI p0, vI p1] [] h Q :=
  zwpe_W (cd := c241) rfl [14] 400 0 _ _ _ _ k
set_option maxRecDepth 100000 in
set_option maxHeartbeats 4000000 in
theorem k241_14 (l0 : Int) (l1 : Int) (h : zH) (Q : Option zV → zH → Prop) (k :
  zC1 145 [vI l0] h (fun v7 h7 =>
  (v7 = 0 →
    ((0 : Int) = 0 ∨ (0 : Int) = 1) ∧ Q (some (vI 0)) h7) ∧
    (¬ (v7 = 0) →
    zC1 145 [vI l1] h7 (fun v8 h8 =>
    (v8 = 0 →
      ((0 : Int) = 0 ∨ (0 : Int) = 1) ∧ Q (some (vI 0)) h8) ∧
      (¬ (v8 = 0) →
      ((1 : Int) = 0 ∨ (1 : Int) = 1) ∧ Q (some (vI 1)) h8))))) : zK 241 14 [vI l0, vI l1] [] h Q :=
  zwpe_W (cd := c241) rfl [14] 400 14 _ _ _ _ k
-- 242 SyntaxRulesModel.brings(IZ)V
set_option maxRecDepth 100000 in
set_option maxHeartbeats 4000000 in
theorem k242_0 (p1 : Int) (p2 : Int) (h : zH) (Q : Option zV → zH → Prop) (k :
  (p2 = 0 →
    zK 242 33 [vR 127 111, vI p1, vI p2, vU] [] h Q) ∧
    (¬ (p2 = 0) →
    ((gI h 127 9) ≤ 0 →
      zK 242 33 [vR 127 111, vI p1, vI p2, vU] [] h Q) ∧
      (¬ ((gI h 127 9) ≤ 0) →
      (inR ((gI h 127 9) - 1)) ∧ (0 ≤ ((gI h 127 9) - 1 : Int)) ∧ (((gI h 127 9) - 1 : Int) < 302) ∧ zC1 241 [vI (gI h 133 ((gI h 127 9) - 1)), vI p1] h (fun v7 h7 =>
      (v7 = 0 →
        zK 242 33 [vR 127 111, vI p1, vI p2, vU] [] h7 Q) ∧
        (¬ (v7 = 0) →
        zK 242 34 [vR 127 111, vI p1, vI p2, vU] [vI 1] h7 Q))))) : zK 242 0 [vR 127 111, vI p1, vI p2, vU] [] h Q :=
  zwpe_W (cd := c242) rfl [33, 34, 48, 86] 400 0 _ _ _ _ k
set_option maxRecDepth 100000 in
set_option maxHeartbeats 4000000 in
theorem k242_33 (l1 : Int) (u2 : zV) (u3 : zV) (h : zH) (Q : Option zV → zH → Prop) (k :
  zK 242 34 [vR 127 111, vI l1, u2, u3] [vI 0] h Q) : zK 242 33 [vR 127 111, vI l1, u2, u3] [] h Q :=
  zwpe_W (cd := c242) rfl [33, 34, 48, 86] 400 33 _ _ _ _ k
set_option maxRecDepth 100000 in
set_option maxHeartbeats 4000000 in
theorem k242_34 (l1 : Int) (u2 : zV) (u3 : zV) (s0 : Int) (h : zH) (Q : Option zV → zH → Prop) (k :
  (s0 = 0 →
    zK 242 48 [vR 127 111, vI l1, u2, vI s0] [vI 1, vI (gI h 127 9)] h Q) ∧
    (¬ (s0 = 0) →
    zK 242 48 [vR 127 111, vI l1, u2, vI s0] [vI 2, vI (gI h 127 9)] h Q)) : zK 242 34 [vR 127 111, vI l1, u2, u3] [vI s0] h Q :=
  zwpe_W (cd := c242) rfl [33, 34, 48, 86] 400 34 _ _ _ _ k
set_option maxRecDepth 100000 in
set_option maxHeartbeats 4000000 in
theorem k242_48 (l1 : Int) (u2 : zV) (l3 : Int) (s0 : Int) (s1 : Int) (h : zH) (Q : Option zV → zH → Prop) (k :
  (inR (s1 + s0)) ∧ ((s1 + s0) ≤ 300 →
    (l3 = 0 →
      zK 242 86 [vR 127 111, vI l1, u2, vI l3] [] h Q) ∧
      (¬ (l3 = 0) →
      (0 ≤ (gI h 127 9 : Int)) ∧ ((gI h 127 9 : Int) < 302) ∧ ∀ h8 : zH, h8 = sI h 133 (gI h 127 9) 32 →
      (inR ((gI h8 127 9) + 1)) ∧ ∀ h9 : zH, h9 = sI h8 127 9 ((gI h8 127 9) + 1) →
      zK 242 86 [vR 127 111, vI l1, u2, vI l3] [] h9 Q)) ∧
    (¬ ((s1 + s0) ≤ 300) →
    ((1 : Int) = 0 ∨ (1 : Int) = 1) ∧ ∀ h10 : zH, h10 = sI h 127 66 1 →
    Q none h10)) : zK 242 48 [vR 127 111, vI l1, u2, vI l3] [vI s0, vI s1] h Q :=
  zwpe_W (cd := c242) rfl [33, 34, 48, 86] 400 48 _ _ _ _ k
set_option maxRecDepth 100000 in
set_option maxHeartbeats 4000000 in
theorem k242_86 (l1 : Int) (u2 : zV) (u3 : zV) (h : zH) (Q : Option zV → zH → Prop) (k :
  (0 ≤ (gI h 127 9 : Int)) ∧ ((gI h 127 9 : Int) < 302) ∧ ∀ h11 : zH, h11 = sI h 133 (gI h 127 9) l1 →
  (inR ((gI h11 127 9) + 1)) ∧ ∀ h12 : zH, h12 = sI h11 127 9 ((gI h11 127 9) + 1) →
  Q none h12) : zK 242 86 [vR 127 111, vI l1, u2, u3] [] h Q :=
  zwpe_W (cd := c242) rfl [33, 34, 48, 86] 400 86 _ _ _ _ k
-- 243 SyntaxRulesModel.layApplied(I)Z
set_option maxRecDepth 100000 in
set_option maxHeartbeats 4000000 in
theorem k243_0 (p1 : Int) (h : zH) (Q : Option zV → zH → Prop) (k :
  zC0 229 [vR 127 111, vI p1] h (fun h13 =>
  ∀ h14 : zH, h14 = sI h13 127 9 0 →
  ((0 : Int) = 0 ∨ (0 : Int) = 1) ∧ ∀ h15 : zH, h15 = sI h14 127 66 0 →
  zK 243 19 [vR 127 111, vI p1, vI 0, vI 0, vU, vU] [] h15 Q)) : zK 243 0 [vR 127 111, vI p1, vU, vU, vU, vU] [] h Q :=
  zwpe_W (cd := c243) rfl [19, 69, 115, 131, 174, 192] 400 0 _ _ _ _ k
set_option maxRecDepth 100000 in
set_option maxHeartbeats 4000000 in
theorem k243_19 (u1 : zV) (l2 : Int) (l3 : Int) (u4 : zV) (u5 : zV) (h : zH) (Q : Option zV → zH → Prop) (k :
  ((gI h 127 59) < l3 →
    zK 243 192 [vR 127 111, u1, vI l2, vI l3, u4, u5] [] h Q) ∧
    (¬ ((gI h 127 59) < l3) →
    (¬ (gI h 127 66) = 0 →
      zK 243 192 [vR 127 111, u1, vI l2, vI l3, u4, u5] [] h Q) ∧
      (¬ (¬ (gI h 127 66) = 0) →
      (¬ l3 = (gI h 127 59) →
        (0 ≤ (l3 : Int)) ∧ ((l3 : Int) < 60) ∧ zC1 158 [vR 127 111, vI (gI h 163 l3), vI 4] h (fun v16 h16 =>
        zK 243 69 [vR 127 111, u1, vI l2, vI l3, vI v16, vI l2] [] h16 Q)) ∧
        (¬ (¬ l3 = (gI h 127 59)) →
        (0 ≤ (300 : Int)) ∧ ((300 : Int) < 2709) ∧ zK 243 69 [vR 127 111, u1, vI l2, vI l3, vI (gI h 128 300), vI l2] [] h Q)))) : zK 243 19 [vR 127 111, u1, vI l2, vI l3, u4, u5] [] h Q :=
  zwpe_W (cd := c243) rfl [19, 69, 115, 131, 174, 192] 400 19 _ _ _ _ k
set_option maxRecDepth 100000 in
set_option maxHeartbeats 4000000 in
theorem k243_69 (u1 : zV) (l2 : Int) (l3 : Int) (l4 : Int) (l5 : Int) (h : zH) (Q : Option zV → zH → Prop) (k :
  (l4 ≤ l5 →
    zK 243 115 [vR 127 111, u1, vI l2, vI l3, vI l4, vI l5] [] h Q) ∧
    (¬ (l4 ≤ l5) →
    (¬ (gI h 127 66) = 0 →
      zK 243 115 [vR 127 111, u1, vI l2, vI l3, vI l4, vI l5] [] h Q) ∧
      (¬ (¬ (gI h 127 66) = 0) →
      (0 ≤ (l5 : Int)) ∧ ((l5 : Int) < 2709) ∧ (¬ l5 = l2 →
        zC0 242 [vR 127 111, vI (gI h 128 l5), vI 0] h (fun h17 =>
        (inR (l5 + 1)) ∧ zK 243 69 [vR 127 111, u1, vI l2, vI l3, vI l4, vI (l5 + 1)] [] h17 Q)) ∧
        (¬ (¬ l5 = l2) →
        (l3 ≤ 0 →
          zC0 242 [vR 127 111, vI (gI h 128 l5), vI 0] h (fun h18 =>
          (inR (l5 + 1)) ∧ zK 243 69 [vR 127 111, u1, vI l2, vI l3, vI l4, vI (l5 + 1)] [] h18 Q)) ∧
          (¬ (l3 ≤ 0) →
          zC0 242 [vR 127 111, vI (gI h 128 l5), vI 1] h (fun h19 =>
          (inR (l5 + 1)) ∧ zK 243 69 [vR 127 111, u1, vI l2, vI l3, vI l4, vI (l5 + 1)] [] h19 Q)))))) : zK 243 69 [vR 127 111, u1, vI l2, vI l3, vI l4, vI l5] [] h Q :=
  zwpe_W (cd := c243) rfl [19, 69, 115, 131, 174, 192] 400 69 _ _ _ _ k
set_option maxRecDepth 100000 in
set_option maxHeartbeats 4000000 in
theorem k243_115 (u1 : zV) (l2 : Int) (l3 : Int) (u4 : zV) (u5 : zV) (h : zH) (Q : Option zV → zH → Prop) (k :
  ((gI h 127 59) ≤ l3 →
    (inR (l3 + 1)) ∧ zK 243 19 [vR 127 111, u1, vI l2, vI (l3 + 1), u4, u5] [] h Q) ∧
    (¬ ((gI h 127 59) ≤ l3) →
    zC0 235 [vR 127 111, vI l3] h (fun h20 =>
    zK 243 131 [vR 127 111, u1, vI l2, vI l3, u4, vI 0] [] h20 Q))) : zK 243 115 [vR 127 111, u1, vI l2, vI l3, u4, u5] [] h Q :=
  zwpe_W (cd := c243) rfl [19, 69, 115, 131, 174, 192] 400 115 _ _ _ _ k
set_option maxRecDepth 100000 in
set_option maxHeartbeats 4000000 in
theorem k243_131 (u1 : zV) (u2 : zV) (l3 : Int) (u4 : zV) (l5 : Int) (h : zH) (Q : Option zV → zH → Prop) (k :
  ((gI h 127 62) ≤ l5 →
    zK 243 174 [vR 127 111, u1, u2, vI l3, u4, vI l5] [] h Q) ∧
    (¬ ((gI h 127 62) ≤ l5) →
    (¬ (gI h 127 66) = 0 →
      zK 243 174 [vR 127 111, u1, u2, vI l3, u4, vI l5] [] h Q) ∧
      (¬ (¬ (gI h 127 66) = 0) →
      (0 ≤ (l5 : Int)) ∧ ((l5 : Int) < 7000) ∧ (¬ l5 = 0 →
        zC0 242 [vR 127 111, vI (gI h 166 l5), vI 0] h (fun h21 =>
        (inR (l5 + 1)) ∧ zK 243 131 [vR 127 111, u1, u2, vI l3, u4, vI (l5 + 1)] [] h21 Q)) ∧
        (¬ (¬ l5 = 0) →
        zC0 242 [vR 127 111, vI (gI h 166 l5), vI 1] h (fun h22 =>
        (inR (l5 + 1)) ∧ zK 243 131 [vR 127 111, u1, u2, vI l3, u4, vI (l5 + 1)] [] h22 Q))))) : zK 243 131 [vR 127 111, u1, u2, vI l3, u4, vI l5] [] h Q :=
  zwpe_W (cd := c243) rfl [19, 69, 115, 131, 174, 192] 400 131 _ _ _ _ k
set_option maxRecDepth 100000 in
set_option maxHeartbeats 4000000 in
theorem k243_174 (u1 : zV) (u2 : zV) (l3 : Int) (u4 : zV) (u5 : zV) (h : zH) (Q : Option zV → zH → Prop) (k :
  (0 ≤ (l3 : Int)) ∧ ((l3 : Int) < 60) ∧ zC1 158 [vR 127 111, vI (gI h 163 l3), vI 5] h (fun v23 h23 =>
  (inR (l3 + 1)) ∧ zK 243 19 [vR 127 111, u1, vI v23, vI (l3 + 1), u4, u5] [] h23 Q)) : zK 243 174 [vR 127 111, u1, u2, vI l3, u4, u5] [] h Q :=
  zwpe_W (cd := c243) rfl [19, 69, 115, 131, 174, 192] 400 174 _ _ _ _ k
set_option maxRecDepth 100000 in
set_option maxHeartbeats 4000000 in
theorem k243_192 (u1 : zV) (u2 : zV) (u3 : zV) (u4 : zV) (u5 : zV) (h : zH) (Q : Option zV → zH → Prop) (k :
  (¬ (gI h 127 66) = 0 →
    ((0 : Int) = 0 ∨ (0 : Int) = 1) ∧ Q (some (vI 0)) h) ∧
    (¬ (¬ (gI h 127 66) = 0) →
    zC1 155 [vR 127 111] h (fun v24 h24 =>
    (v24 = 0 →
      ((0 : Int) = 0 ∨ (0 : Int) = 1) ∧ Q (some (vI 0)) h24) ∧
      (¬ (v24 = 0) →
      ((1 : Int) = 0 ∨ (1 : Int) = 1) ∧ Q (some (vI 1)) h24)))) : zK 243 192 [vR 127 111, u1, u2, u3, u4, u5] [] h Q :=
  zwpe_W (cd := c243) rfl [19, 69, 115, 131, 174, 192] 400 192 _ _ _ _ k
-- 244 SyntaxRulesModel.bytesThen()I
set_option maxRecDepth 100000 in
set_option maxHeartbeats 4000000 in
theorem k244_0 (h : zH) (Q : Option zV → zH → Prop) (k :
  Q (some (vI (gI h 127 9))) h) : zK 244 0 [vR 127 111] [] h Q :=
  zwpe_W (cd := c244) rfl [] 400 0 _ _ _ _ k
-- 245 SyntaxRulesModel.would(II)I
set_option maxRecDepth 100000 in
set_option maxHeartbeats 4000000 in
theorem k245_0 (p1 : Int) (p2 : Int) (h : zH) (Q : Option zV → zH → Prop) (k :
  ∀ h6 : zH, h6 = sI h 127 0 0 →
  zC1 228 [vI p1] h6 (fun v7 h7 =>
  (v7 = 0 →
    Q (some (vI ((-1)))) h7) ∧
    (¬ (v7 = 0) →
    zC1 141 [vL p2, vL 0, vL 2] h7 (fun v8 h8 =>
    (¬ v8 = 0 →
      zC1 243 [vR 127 111, vI p1] h8 (fun v9 h9 =>
      (¬ v9 = 0 →
        (¬ p2 = 0 →
          (¬ p2 = 1 →
            Q (some (vI (gI h9 127 13))) h9) ∧
            (¬ (¬ p2 = 1) →
            Q (some (vI (gI h9 127 11))) h9)) ∧
          (¬ (¬ p2 = 0) →
          zC1 244 [vR 127 111] h9 (fun v10 h10 =>
          Q (some (vI v10)) h10))) ∧
        (¬ (¬ v9 = 0) →
        Q (some (vI ((-3)))) h9))) ∧
      (¬ (¬ v8 = 0) →
      Q (some (vI ((-1)))) h8))))) : zK 245 0 [vR 127 111, vI p1, vI p2] [] h Q :=
  zwpe_W (cd := c245) rfl [] 400 0 _ _ _ _ k
-- 246 SyntaxRulesModel.apply(I)I
set_option maxRecDepth 100000 in
set_option maxHeartbeats 4000000 in
theorem k246_0 (p1 : Int) (h : zH) (Q : Option zV → zH → Prop) (k :
  ∀ h6 : zH, h6 = sI h 127 0 0 →
  zC1 228 [vI p1] h6 (fun v7 h7 =>
  (¬ v7 = 0 →
    zC1 243 [vR 127 111, vI p1] h7 (fun v8 h8 =>
    (¬ (gI h8 127 59) = 0 →
      (¬ v8 = 0 →
        zC0 159 [vR 127 111, vR 128 140] h8 (fun h9 =>
        zC0 160 [vR 127 111] h9 (fun h10 =>
        Q (some (vI (gI h8 127 59))) h10))) ∧
        (¬ (¬ v8 = 0) →
        Q (some (vI ((-3)))) h8)) ∧
      (¬ (¬ (gI h8 127 59) = 0) →
      Q (some (vI 0)) h8))) ∧
    (¬ (¬ v7 = 0) →
    Q (some (vI ((-1)))) h7))) : zK 246 0 [vR 127 111, vI p1, vU, vU] [] h Q :=
  zwpe_W (cd := c246) rfl [] 400 0 _ _ _ _ k
-- 247 SyntaxRulesModel.cameAhead(I)Z
set_option maxRecDepth 100000 in
set_option maxHeartbeats 4000000 in
theorem k247_0 (p1 : Int) (h : zH) (Q : Option zV → zH → Prop) (k :
  zK 247 4 [vR 127 111, vI p1, vI 0, vI 0, vU] [] h Q) : zK 247 0 [vR 127 111, vI p1, vU, vU, vU] [] h Q :=
  zwpe_W (cd := c247) rfl [4, 12, 55] 400 0 _ _ _ _ k
set_option maxRecDepth 100000 in
set_option maxHeartbeats 4000000 in
theorem k247_4 (l1 : Int) (l2 : Int) (l3 : Int) (u4 : zV) (h : zH) (Q : Option zV → zH → Prop) (k :
  (l1 ≤ l3 →
    ((l2 : Int) = 0 ∨ (l2 : Int) = 1) ∧ Q (some (vI l2)) h) ∧
    (¬ (l1 ≤ l3) →
    zK 247 12 [vR 127 111, vI l1, vI l2, vI l3, vI 0] [] h Q)) : zK 247 4 [vR 127 111, vI l1, vI l2, vI l3, u4] [] h Q :=
  zwpe_W (cd := c247) rfl [4, 12, 55] 400 4 _ _ _ _ k
set_option maxRecDepth 100000 in
set_option maxHeartbeats 4000000 in
theorem k247_12 (l1 : Int) (l2 : Int) (l3 : Int) (l4 : Int) (h : zH) (Q : Option zV → zH → Prop) (k :
  (301 ≤ l4 →
    zK 247 55 [vR 127 111, vI l1, vI l2, vI l3, vI l4] [] h Q) ∧
    (¬ (301 ≤ l4) →
    (inR (301 * l3)) ∧ (inR ((301 * l3) + l4)) ∧ (0 ≤ ((301 * l3) + l4 : Int)) ∧ (((301 * l3) + l4 : Int) < 2107) ∧ (inR (301 * l1)) ∧ (inR ((301 * l1) + l4)) ∧ (0 ≤ ((301 * l1) + l4 : Int)) ∧ (((301 * l1) + l4 : Int) < 2107) ∧ (¬ (gI h 169 ((301 * l3) + l4)) = (gI h 169 ((301 * l1) + l4)) →
      zK 247 55 [vR 127 111, vI l1, vI l2, vI l3, vI l4] [] h Q) ∧
      (¬ (¬ (gI h 169 ((301 * l3) + l4)) = (gI h 169 ((301 * l1) + l4))) →
      (inR (l4 + 1)) ∧ zK 247 12 [vR 127 111, vI l1, vI l2, vI l3, vI (l4 + 1)] [] h Q))) : zK 247 12 [vR 127 111, vI l1, vI l2, vI l3, vI l4] [] h Q :=
  zwpe_W (cd := c247) rfl [4, 12, 55] 400 12 _ _ _ _ k
set_option maxRecDepth 100000 in
set_option maxHeartbeats 4000000 in
theorem k247_55 (l1 : Int) (l2 : Int) (l3 : Int) (l4 : Int) (h : zH) (Q : Option zV → zH → Prop) (k :
  (¬ l2 = 0 →
    (inR (l3 + 1)) ∧ zK 247 4 [vR 127 111, vI l1, vI 1, vI (l3 + 1), vI l4] [] h Q) ∧
    (¬ (¬ l2 = 0) →
    (¬ l4 = 301 →
      (inR (l3 + 1)) ∧ zK 247 4 [vR 127 111, vI l1, vI 0, vI (l3 + 1), vI l4] [] h Q) ∧
      (¬ (¬ l4 = 301) →
      (inR (l3 + 1)) ∧ zK 247 4 [vR 127 111, vI l1, vI 1, vI (l3 + 1), vI l4] [] h Q))) : zK 247 55 [vR 127 111, vI l1, vI l2, vI l3, vI l4] [] h Q :=
  zwpe_W (cd := c247) rfl [4, 12, 55] 400 55 _ _ _ _ k
-- 248 SyntaxRulesModel.keepCame(I)V
set_option maxRecDepth 100000 in
set_option maxHeartbeats 4000000 in
theorem k248_0 (p1 : Int) (h : zH) (Q : Option zV → zH → Prop) (k :
  zK 248 2 [vR 127 111, vI p1, vI 0] [] h Q) : zK 248 0 [vR 127 111, vI p1, vU] [] h Q :=
  zwpe_W (cd := c248) rfl [2] 400 0 _ _ _ _ k
set_option maxRecDepth 100000 in
set_option maxHeartbeats 4000000 in
theorem k248_2 (l1 : Int) (l2 : Int) (h : zH) (Q : Option zV → zH → Prop) (k :
  (301 ≤ l2 →
    Q none h) ∧
    (¬ (301 ≤ l2) →
    (inR (301 * l1)) ∧ (inR ((301 * l1) + l2)) ∧ (0 ≤ (l2 : Int)) ∧ ((l2 : Int) < 2709) ∧ (0 ≤ ((301 * l1) + l2 : Int)) ∧ (((301 * l1) + l2 : Int) < 2107) ∧ ∀ h2 : zH, h2 = sI h 169 ((301 * l1) + l2) (gI h 128 l2) →
    (inR (l2 + 1)) ∧ zK 248 2 [vR 127 111, vI l1, vI (l2 + 1)] [] h2 Q)) : zK 248 2 [vR 127 111, vI l1, vI l2] [] h Q :=
  zwpe_W (cd := c248) rfl [2] 400 2 _ _ _ _ k
-- 249 SyntaxRulesModel.goRounds(II)I
set_option maxRecDepth 100000 in
set_option maxHeartbeats 4000000 in
theorem k249_0 (p1 : Int) (p2 : Int) (h : zH) (Q : Option zV → zH → Prop) (k :
  zC0 248 [vR 127 111, vI 0] h (fun h5 =>
  zK 249 10 [vR 127 111, vI p1, vI p2, vI 0, vI 1] [] h5 Q)) : zK 249 0 [vR 127 111, vI p1, vI p2, vU, vU] [] h Q :=
  zwpe_W (cd := c249) rfl [10, 39, 40] 400 0 _ _ _ _ k
set_option maxRecDepth 100000 in
set_option maxHeartbeats 4000000 in
theorem k249_10 (l1 : Int) (l2 : Int) (l3 : Int) (l4 : Int) (h : zH) (Q : Option zV → zH → Prop) (k :
  (l2 ≤ l3 →
    Q (some (vI l3)) h) ∧
    (¬ (l2 ≤ l3) →
    (l4 = 0 →
      Q (some (vI l3)) h) ∧
      (¬ (l4 = 0) →
      zC1 243 [vR 127 111, vI l1] h (fun v6 h6 =>
      (v6 = 0 →
        zK 249 39 [vR 127 111, vI l1, vI l2, vI l3, vI l4] [] h6 Q) ∧
        (¬ (v6 = 0) →
        ((gI h6 127 59) ≤ 0 →
          zK 249 39 [vR 127 111, vI l1, vI l2, vI l3, vI l4] [] h6 Q) ∧
          (¬ ((gI h6 127 59) ≤ 0) →
          zK 249 40 [vR 127 111, vI l1, vI l2, vI l3, vI l4] [vI 1] h6 Q)))))) : zK 249 10 [vR 127 111, vI l1, vI l2, vI l3, vI l4] [] h Q :=
  zwpe_W (cd := c249) rfl [10, 39, 40] 400 10 _ _ _ _ k
set_option maxRecDepth 100000 in
set_option maxHeartbeats 4000000 in
theorem k249_39 (l1 : Int) (l2 : Int) (l3 : Int) (u4 : zV) (h : zH) (Q : Option zV → zH → Prop) (k :
  zK 249 40 [vR 127 111, vI l1, vI l2, vI l3, u4] [vI 0] h Q) : zK 249 39 [vR 127 111, vI l1, vI l2, vI l3, u4] [] h Q :=
  zwpe_W (cd := c249) rfl [10, 39, 40] 400 39 _ _ _ _ k
set_option maxRecDepth 100000 in
set_option maxHeartbeats 4000000 in
theorem k249_40 (l1 : Int) (l2 : Int) (l3 : Int) (u4 : zV) (s0 : Int) (h : zH) (Q : Option zV → zH → Prop) (k :
  (s0 = 0 →
    zK 249 10 [vR 127 111, vI l1, vI l2, vI l3, vI s0] [] h Q) ∧
    (¬ (s0 = 0) →
    zC0 160 [vR 127 111] h (fun h7 =>
    (inR (l3 + 1)) ∧ zC0 248 [vR 127 111, vI (l3 + 1)] h7 (fun h8 =>
    zK 249 10 [vR 127 111, vI l1, vI l2, vI (l3 + 1), vI s0] [] h8 Q)))) : zK 249 40 [vR 127 111, vI l1, vI l2, vI l3, u4] [vI s0] h Q :=
  zwpe_W (cd := c249) rfl [10, 39, 40] 400 40 _ _ _ _ k
-- 250 SyntaxRulesModel.rounds(II)I
set_option maxRecDepth 100000 in
set_option maxHeartbeats 4000000 in
theorem k250_0 (p1 : Int) (p2 : Int) (h : zH) (Q : Option zV → zH → Prop) (k :
  ∀ h6 : zH, h6 = sI h 127 0 0 →
  zC1 228 [vI p1] h6 (fun v7 h7 =>
  (v7 = 0 →
    Q (some (vI ((-1)))) h7) ∧
    (¬ (v7 = 0) →
    zC1 141 [vL p2, vL 1, vL 6] h7 (fun v8 h8 =>
    (¬ v8 = 0 →
      zC1 249 [vR 127 111, vI p1, vI p2] h8 (fun v9 h9 =>
      (v9 ≤ 0 →
        Q (some (vI v9)) h9) ∧
        (¬ (v9 ≤ 0) →
        zC0 159 [vR 127 111, vR 169 140] h9 (fun h10 =>
        Q (some (vI v9)) h10)))) ∧
      (¬ (¬ v8 = 0) →
      Q (some (vI ((-1)))) h8))))) : zK 250 0 [vR 127 111, vI p1, vI p2, vU] [] h Q :=
  zwpe_W (cd := c250) rfl [] 400 0 _ _ _ _ k
-- 251 SyntaxRulesModel.after(III)I
set_option maxRecDepth 100000 in
set_option maxHeartbeats 4000000 in
theorem k251_0 (p1 : Int) (p2 : Int) (p3 : Int) (h : zH) (Q : Option zV → zH → Prop) (k :
  ∀ h10 : zH, h10 = sI h 127 0 0 →
  zC1 228 [vI p1] h10 (fun v11 h11 =>
  (v11 = 0 →
    Q (some (vI ((-1)))) h11) ∧
    (¬ (v11 = 0) →
    zC1 141 [vL p2, vL 1, vL 6] h11 (fun v12 h12 =>
    (v12 = 0 →
      Q (some (vI ((-1)))) h12) ∧
      (¬ (v12 = 0) →
      zC1 141 [vL p3, vL 0, vL 2] h12 (fun v13 h13 =>
      (¬ v13 = 0 →
        zC1 249 [vR 127 111, vI p1, vI p2] h13 (fun v14 h14 =>
        (0 ≤ (300 : Int)) ∧ ((300 : Int) < 2709) ∧ (¬ p3 = 1 →
          (¬ p3 = 2 →
            zK 251 116 [vR 127 111, vI p1, vI p2, vI p3, vI v14, vI (gI h14 128 300), vI 0] [] h14 Q) ∧
            (¬ (¬ p3 = 2) →
            zK 251 83 [vR 127 111, vI p1, vI p2, vI p3, vI v14, vI 0, vI 1] [] h14 Q)) ∧
          (¬ (¬ p3 = 1) →
          zC0 229 [vR 127 111, vI p1] h14 (fun h15 =>
          (¬ p3 = 2 →
            zK 251 116 [vR 127 111, vI p1, vI p2, vI p3, vI v14, vI (gI h15 127 59), vI 0] [] h15 Q) ∧
            (¬ (¬ p3 = 2) →
            zK 251 83 [vR 127 111, vI p1, vI p2, vI p3, vI v14, vI 0, vI 1] [] h15 Q))))) ∧
        (¬ (¬ v13 = 0) →
        Q (some (vI ((-1)))) h13))))))) : zK 251 0 [vR 127 111, vI p1, vI p2, vI p3, vU, vU, vU] [] h Q :=
  zwpe_W (cd := c251) rfl [83, 116] 400 0 _ _ _ _ k
set_option maxRecDepth 100000 in
set_option maxHeartbeats 4000000 in
theorem k251_83 (u1 : zV) (u2 : zV) (u3 : zV) (l4 : Int) (l5 : Int) (l6 : Int) (h : zH) (Q : Option zV → zH → Prop) (k :
  (l4 < l6 →
    zK 251 116 [vR 127 111, u1, u2, u3, vI l4, vI l5, vI 0] [] h Q) ∧
    (¬ (l4 < l6) →
    zC1 247 [vR 127 111, vI l6] h (fun v16 h16 =>
    (v16 = 0 →
      (inR (l6 + 1)) ∧ zK 251 83 [vR 127 111, u1, u2, u3, vI l4, vI l5, vI (l6 + 1)] [] h16 Q) ∧
      (¬ (v16 = 0) →
      (inR (l6 + 1)) ∧ zK 251 83 [vR 127 111, u1, u2, u3, vI l4, vI 1, vI (l6 + 1)] [] h16 Q)))) : zK 251 83 [vR 127 111, u1, u2, u3, vI l4, vI l5, vI l6] [] h Q :=
  zwpe_W (cd := c251) rfl [83, 116] 400 83 _ _ _ _ k
set_option maxRecDepth 100000 in
set_option maxHeartbeats 4000000 in
theorem k251_116 (u1 : zV) (u2 : zV) (u3 : zV) (u4 : zV) (l5 : Int) (l6 : Int) (h : zH) (Q : Option zV → zH → Prop) (k :
  (301 ≤ l6 →
    zC0 156 [vR 127 111] h (fun h17 =>
    Q (some (vI l5)) h17)) ∧
    (¬ (301 ≤ l6) →
    (0 ≤ (l6 : Int)) ∧ ((l6 : Int) < 2107) ∧ (0 ≤ (l6 : Int)) ∧ ((l6 : Int) < 2709) ∧ ∀ h18 : zH, h18 = sI h 128 l6 (gI h 169 l6) →
    (inR (l6 + 1)) ∧ zK 251 116 [vR 127 111, u1, u2, u3, u4, vI l5, vI (l6 + 1)] [] h18 Q)) : zK 251 116 [vR 127 111, u1, u2, u3, u4, vI l5, vI l6] [] h Q :=
  zwpe_W (cd := c251) rfl [83, 116] 400 116 _ _ _ _ k
-- 252 SyntaxRulesModel.undo()I
set_option maxRecDepth 100000 in
set_option maxHeartbeats 4000000 in
theorem k252_0 (h : zH) (Q : Option zV → zH → Prop) (k :
  ∀ h5 : zH, h5 = sI h 127 0 0 →
  (¬ (gI h5 127 5) = 0 →
    (inR ((gI h5 127 5) - 1)) ∧ ∀ h6 : zH, h6 = sI h5 127 5 ((gI h5 127 5) - 1) →
    zK 252 27 [vR 127 111, vI 0] [] h6 Q) ∧
    (¬ (¬ (gI h5 127 5) = 0) →
    Q (some (vI ((-3)))) h5)) : zK 252 0 [vR 127 111, vU] [] h Q :=
  zwpe_W (cd := c252) rfl [27] 400 0 _ _ _ _ k
set_option maxRecDepth 100000 in
set_option maxHeartbeats 4000000 in
theorem k252_27 (l1 : Int) (h : zH) (Q : Option zV → zH → Prop) (k :
  (301 ≤ l1 →
    zC0 156 [vR 127 111] h (fun h7 =>
    Q (some (vI (gI h7 127 5))) h7)) ∧
    (¬ (301 ≤ l1) →
    (inR (301 * (gI h 127 5))) ∧ (inR ((301 * (gI h 127 5)) + l1)) ∧ (0 ≤ ((301 * (gI h 127 5)) + l1 : Int)) ∧ (((301 * (gI h 127 5)) + l1 : Int) < 2408) ∧ (0 ≤ (l1 : Int)) ∧ ((l1 : Int) < 2709) ∧ ∀ h8 : zH, h8 = sI h 128 l1 (gI h 131 ((301 * (gI h 127 5)) + l1)) →
    (inR (l1 + 1)) ∧ zK 252 27 [vR 127 111, vI (l1 + 1)] [] h8 Q)) : zK 252 27 [vR 127 111, vI l1] [] h Q :=
  zwpe_W (cd := c252) rfl [27] 400 27 _ _ _ _ k
-- 253 SyntaxRulesModel.keep(I)Z
set_option maxRecDepth 100000 in
set_option maxHeartbeats 4000000 in
theorem k253_0 (p1 : Int) (h : zH) (Q : Option zV → zH → Prop) (k :
  ∀ h5 : zH, h5 = sI h 127 0 0 →
  zC1 141 [vL p1, vL 0, vL 1] h5 (fun v6 h6 =>
  (¬ v6 = 0 →
    zK 253 19 [vR 127 111, vI p1, vI 0] [] h6 Q) ∧
    (¬ (¬ v6 = 0) →
    ((0 : Int) = 0 ∨ (0 : Int) = 1) ∧ Q (some (vI 0)) h6))) : zK 253 0 [vR 127 111, vI p1, vU] [] h Q :=
  zwpe_W (cd := c253) rfl [19] 400 0 _ _ _ _ k
set_option maxRecDepth 100000 in
set_option maxHeartbeats 4000000 in
theorem k253_19 (l1 : Int) (l2 : Int) (h : zH) (Q : Option zV → zH → Prop) (k :
  (2709 ≤ l2 →
    (0 ≤ (l1 : Int)) ∧ ((l1 : Int) < 2) ∧ ((1 : Int) = 0 ∨ (1 : Int) = 1) ∧ ∀ h7 : zH, h7 = sI h 130 l1 1 →
    ((1 : Int) = 0 ∨ (1 : Int) = 1) ∧ Q (some (vI 1)) h7) ∧
    (¬ (2709 ≤ l2) →
    (inR (2709 * l1)) ∧ (inR ((2709 * l1) + l2)) ∧ (0 ≤ (l2 : Int)) ∧ ((l2 : Int) < 2709) ∧ (0 ≤ ((2709 * l1) + l2 : Int)) ∧ (((2709 * l1) + l2 : Int) < 5418) ∧ ∀ h8 : zH, h8 = sI h 129 ((2709 * l1) + l2) (gI h 128 l2) →
    (inR (l2 + 1)) ∧ zK 253 19 [vR 127 111, vI l1, vI (l2 + 1)] [] h8 Q)) : zK 253 19 [vR 127 111, vI l1, vI l2] [] h Q :=
  zwpe_W (cd := c253) rfl [19] 400 19 _ _ _ _ k
-- 254 SyntaxRulesModel.again(I)Z
set_option maxRecDepth 100000 in
set_option maxHeartbeats 4000000 in
theorem k254_0 (p1 : Int) (h : zH) (Q : Option zV → zH → Prop) (k :
  ∀ h7 : zH, h7 = sI h 127 0 0 →
  zC1 141 [vL p1, vL 0, vL 1] h7 (fun v8 h8 =>
  (v8 = 0 →
    ((0 : Int) = 0 ∨ (0 : Int) = 1) ∧ Q (some (vI 0)) h8) ∧
    (¬ (v8 = 0) →
    (0 ≤ (p1 : Int)) ∧ ((p1 : Int) < 2) ∧ (¬ (gI h8 130 p1) = 0 →
      zK 254 28 [vR 127 111, vI p1, vI 0] [] h8 Q) ∧
      (¬ (¬ (gI h8 130 p1) = 0) →
      ((0 : Int) = 0 ∨ (0 : Int) = 1) ∧ Q (some (vI 0)) h8)))) : zK 254 0 [vR 127 111, vI p1, vU] [] h Q :=
  zwpe_W (cd := c254) rfl [28] 400 0 _ _ _ _ k
set_option maxRecDepth 100000 in
set_option maxHeartbeats 4000000 in
theorem k254_28 (l1 : Int) (l2 : Int) (h : zH) (Q : Option zV → zH → Prop) (k :
  (2709 ≤ l2 →
    ∀ h9 : zH, h9 = sI h 127 5 0 →
    zC0 176 [vR 127 111] h9 (fun h10 =>
    zC0 156 [vR 127 111] h10 (fun h11 =>
    ((1 : Int) = 0 ∨ (1 : Int) = 1) ∧ Q (some (vI 1)) h11))) ∧
    (¬ (2709 ≤ l2) →
    (inR (2709 * l1)) ∧ (inR ((2709 * l1) + l2)) ∧ (0 ≤ ((2709 * l1) + l2 : Int)) ∧ (((2709 * l1) + l2 : Int) < 5418) ∧ (0 ≤ (l2 : Int)) ∧ ((l2 : Int) < 2709) ∧ ∀ h12 : zH, h12 = sI h 128 l2 (gI h 129 ((2709 * l1) + l2)) →
    (inR (l2 + 1)) ∧ zK 254 28 [vR 127 111, vI l1, vI (l2 + 1)] [] h12 Q)) : zK 254 28 [vR 127 111, vI l1, vI l2] [] h Q :=
  zwpe_W (cd := c254) rfl [28] 400 28 _ _ _ _ k
-- 255 SyntaxRulesModel.deepest()I
set_option maxRecDepth 100000 in
set_option maxHeartbeats 4000000 in
theorem k255_0 (h : zH) (Q : Option zV → zH → Prop) (k :
  zK 255 4 [vR 127 111, vI 0, vI 0] [] h Q) : zK 255 0 [vR 127 111, vU, vU] [] h Q :=
  zwpe_W (cd := c255) rfl [4] 400 0 _ _ _ _ k
set_option maxRecDepth 100000 in
set_option maxHeartbeats 4000000 in
theorem k255_4 (l1 : Int) (l2 : Int) (h : zH) (Q : Option zV → zH → Prop) (k :
  ((gI h 127 20) ≤ l2 →
    Q (some (vI l1)) h) ∧
    (¬ ((gI h 127 20) ≤ l2) →
    zC1 158 [vR 127 111, vI l2, vI 7] h (fun v3 h3 =>
    (inR (v3 + 1)) ∧ ((v3 + 1) ≤ l1 →
      (inR (l2 + 1)) ∧ zK 255 4 [vR 127 111, vI l1, vI (l2 + 1)] [] h3 Q) ∧
      (¬ ((v3 + 1) ≤ l1) →
      zC1 158 [vR 127 111, vI l2, vI 7] h3 (fun v4 h4 =>
      (inR (v4 + 1)) ∧ (inR (l2 + 1)) ∧ zK 255 4 [vR 127 111, vI (v4 + 1), vI (l2 + 1)] [] h4 Q))))) : zK 255 4 [vR 127 111, vI l1, vI l2] [] h Q :=
  zwpe_W (cd := c255) rfl [4] 400 4 _ _ _ _ k
-- 256 SyntaxRulesModel.count(I)I
set_option maxRecDepth 100000 in
set_option maxHeartbeats 4000000 in
theorem k256_0 (p1 : Int) (h : zH) (Q : Option zV → zH → Prop) (k :
  ∀ h4 : zH, h4 = sI h 127 0 0 →
  (p1 = (0 : Int) →
    Q (some (vI (gI h4 127 20))) h4) ∧
    (¬ (p1 = (0 : Int)) →
    (p1 = ((0 : Int) + 1) →
    (0 ≤ (300 : Int)) ∧ ((300 : Int) < 2709) ∧ Q (some (vI (gI h4 128 300))) h4) ∧
    (¬ (p1 = ((0 : Int) + 1)) →
    (p1 = ((0 : Int) + 1 + 1) →
    Q (some (vI (gI h4 127 22))) h4) ∧
    (¬ (p1 = ((0 : Int) + 1 + 1)) →
    (p1 = ((0 : Int) + 1 + 1 + 1) →
    zC1 177 [vR 127 111] h4 (fun v6 h6 =>
    Q (some (vI v6)) h6)) ∧
    (¬ (p1 = ((0 : Int) + 1 + 1 + 1)) →
    (p1 = ((0 : Int) + 1 + 1 + 1 + 1) →
    Q (some (vI (gI h4 127 7))) h4) ∧
    (¬ (p1 = ((0 : Int) + 1 + 1 + 1 + 1)) →
    (p1 = ((0 : Int) + 1 + 1 + 1 + 1 + 1) →
    Q (some (vI (gI h4 127 5))) h4) ∧
    (¬ (p1 = ((0 : Int) + 1 + 1 + 1 + 1 + 1)) →
    (p1 = ((0 : Int) + 1 + 1 + 1 + 1 + 1 + 1) →
    zC1 255 [vR 127 111] h4 (fun v5 h5 =>
    Q (some (vI v5)) h5)) ∧
    (¬ (p1 = ((0 : Int) + 1 + 1 + 1 + 1 + 1 + 1)) →
    Q (some (vI ((-1)))) h4)))))))) : zK 256 0 [vR 127 111, vI p1] [] h Q :=
  zwpe_W (cd := c256) rfl [] 400 0 _ _ _ _ k
