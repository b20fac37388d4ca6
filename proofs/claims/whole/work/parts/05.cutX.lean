-- 0 SyntaxRules.<init>()V
set_option maxRecDepth 100000 in
set_option maxHeartbeats 4000000 in
theorem k0_0 (a0 : Nat) (h : zH) (Q : Option zV → zH → Prop) (k :
  (¬ (a0 : Nat) = 0) ∧ ∀ h47 : zH, h47 = nw h 21 2 →
  (¬ (nx h : Nat) = 0) ∧ zC0 43 [vR (nx h) 0] h47 (fun h48 =>
  (zty 120 a0 h48) ∧ ∀ h49 : zH, h49 = sR h48 a0 0 (nx h) →
  ∀ h50 : zH, h50 = nw h49 22 18 →
  (¬ (nx h49 : Nat) = 0) ∧ zC0 49 [vR (nx h49) 0] h50 (fun h51 =>
  (zty 120 a0 h51) ∧ ∀ h52 : zH, h52 = sR h51 a0 1 (nx h49) →
  ∀ h53 : zH, h53 = nw h52 22 18 →
  (¬ (nx h52 : Nat) = 0) ∧ zC0 49 [vR (nx h52) 0] h53 (fun h54 =>
  (zty 120 a0 h54) ∧ ∀ h55 : zH, h55 = sR h54 a0 2 (nx h52) →
  ∀ h56 : zH, h56 = nw h55 22 18 →
  (¬ (nx h55 : Nat) = 0) ∧ zC0 49 [vR (nx h55) 0] h56 (fun h57 =>
  (zty 120 a0 h57) ∧ ∀ h58 : zH, h58 = sR h57 a0 3 (nx h55) →
  (0 ≤ (8 : Int) ∧ (8 : Int) ≤ 10000) ∧ ∀ h59 : zH, h59 = nw h58 44 ((8 : Int)).toNat →
  (zty 120 a0 h59) ∧ ∀ h60 : zH, h60 = sR h59 a0 4 (nx h58) →
  ∀ h61 : zH, h61 = nw h60 24 11 →
  (¬ (nx h60 : Nat) = 0) ∧ zC0 74 [vR (nx h60) 0] h61 (fun h62 =>
  (zty 120 a0 h62) ∧ ∀ h63 : zH, h63 = sR h62 a0 5 (nx h60) →
  ∀ h64 : zH, h64 = nw h63 25 12 →
  (¬ (nx h63 : Nat) = 0) ∧ zC0 90 [vR (nx h63) 0] h64 (fun h65 =>
  (zty 120 a0 h65) ∧ ∀ h66 : zH, h66 = sR h65 a0 6 (nx h63) →
  ∀ h67 : zH, h67 = nw h66 26 16 →
  (¬ (nx h66 : Nat) = 0) ∧ zC0 104 [vR (nx h66) 0] h67 (fun h68 =>
  (zty 120 a0 h68) ∧ ∀ h69 : zH, h69 = sR h68 a0 7 (nx h66) →
  ∀ h70 : zH, h70 = nw h69 27 5 →
  (¬ (nx h69 : Nat) = 0) ∧ zC0 117 [vR (nx h69) 0] h70 (fun h71 =>
  (zty 120 a0 h71) ∧ ∀ h72 : zH, h72 = sR h71 a0 8 (nx h69) →
  ∀ h73 : zH, h73 = nw h72 28 9 →
  (¬ (nx h72 : Nat) = 0) ∧ zC0 122 [vR (nx h72) 0] h73 (fun h74 =>
  (zty 120 a0 h74) ∧ ∀ h75 : zH, h75 = sR h74 a0 9 (nx h72) →
  ∀ h76 : zH, h76 = nw h75 29 3 →
  (¬ (nx h75 : Nat) = 0) ∧ zC0 134 [vR (nx h75) 0] h76 (fun h77 =>
  (zty 120 a0 h77) ∧ ∀ h78 : zH, h78 = sR h77 a0 10 (nx h75) →
  (0 ≤ (2 : Int) ∧ (2 : Int) ≤ 10000) ∧ ∀ h79 : zH, h79 = nw h78 46 ((2 : Int)).toNat →
  (zty 120 a0 h79) ∧ ∀ h80 : zH, h80 = sR h79 a0 11 (nx h78) →
  (0 ≤ (6 : Int) ∧ (6 : Int) ≤ 10000) ∧ ∀ h81 : zH, h81 = nw h80 45 ((6 : Int)).toNat →
  (zty 120 a0 h81) ∧ (gR (sR h81 a0 12 (nx h80)) a0 0 = a0 + 1) ∧ (zty 101 (a0 + 1) (sR h81 a0 12 (nx h80))) ∧ (gR (sR h81 a0 12 (nx h80)) a0 3 = a0 + 35) ∧ (zty 102 (a0 + 35) (sR h81 a0 12 (nx h80))) ∧ (gR (sR h81 a0 12 (nx h80)) a0 4 = a0 + 51) ∧ (zty 944 (a0 + 51) (sR h81 a0 12 (nx h80))) ∧ (gR (sR h81 a0 12 (nx h80)) a0 5 = a0 + 52) ∧ (zty 104 (a0 + 52) (sR h81 a0 12 (nx h80))) ∧ (gR (sR h81 a0 12 (nx h80)) a0 6 = a0 + 54) ∧ (zty 105 (a0 + 54) (sR h81 a0 12 (nx h80))) ∧ (gR (sR h81 a0 12 (nx h80)) a0 7 = a0 + 61) ∧ (zty 106 (a0 + 61) (sR h81 a0 12 (nx h80))) ∧ (gR (sR h81 a0 12 (nx h80)) a0 8 = a0 + 75) ∧ (zty 107 (a0 + 75) (sR h81 a0 12 (nx h80))) ∧ (gR (sR h81 a0 12 (nx h80)) a0 9 = a0 + 80) ∧ (zty 108 (a0 + 80) (sR h81 a0 12 (nx h80))) ∧ (gR (sR h81 a0 12 (nx h80)) a0 10 = a0 + 85) ∧ (zty 109 (a0 + 85) (sR h81 a0 12 (nx h80))) ∧ (gR (sR h81 a0 12 (nx h80)) a0 11 = a0 + 103) ∧ (zty 346 (a0 + 103) (sR h81 a0 12 (nx h80))) ∧ (gR (sR h81 a0 12 (nx h80)) a0 12 = a0 + 104) ∧ (zty 745 (a0 + 104) (sR h81 a0 12 (nx h80))) ∧ ∀ h82 : zH, h82 = sT (sR h81 a0 12 (nx h80)) a0 0 →
  zK 0 142 [vR a0 0, vI 0] [] h82 Q))))))))))) : zK 0 0 [vR a0 0, vU] [] h Q :=
  zwpe_W (cd := c0) rfl [142, 168] 400 0 _ _ _ _ k
set_option maxRecDepth 100000 in
set_option maxHeartbeats 4000000 in
theorem k0_142 (a0 : Nat) (l1 : Int) (h : zH) (Q : Option zV → zH → Prop) (k :
  (2 ≤ l1 →
    zK 0 168 [vR a0 0, vI 0] [] h Q) ∧
    (¬ (2 ≤ l1) →
    (zty 100 a0 h) ∧ ∀ h83 : zH, h83 = nw h 30 3 →
    (¬ (nx h : Nat) = 0) ∧ zC0 138 [vR (nx h) 0] h83 (fun h84 =>
    (0 ≤ (l1 : Int)) ∧ ((l1 : Int) < 2) ∧ ((nx h : Nat) = 0 ∨ zty 110 (nx h) h84) ∧ ∀ h85 : zH, h85 = sR h84 (a0 + 103) l1 (nx h) →
    (inR (l1 + 1)) ∧ zK 0 142 [vR a0 0, vI (l1 + 1)] [] h85 Q))) : zK 0 142 [vR a0 0, vI l1] [] h Q :=
  zwpe_W (cd := c0) rfl [142, 168] 400 142 _ _ _ _ k
set_option maxRecDepth 100000 in
set_option maxHeartbeats 4000000 in
theorem k0_168 (a0 : Nat) (l1 : Int) (h : zH) (Q : Option zV → zH → Prop) (k :
  (6 ≤ l1 →
    (zty 100 a0 h) ∧ (0 ≤ (0 : Int)) ∧ ((0 : Int) < 300) ∧ ∀ h86 : zH, h86 = sI h (a0 + 1 + 1) 0 97 →
    (zty 100 a0 h86) ∧ ∀ h87 : zH, h87 = sI h86 (a0 + 1) 1 1 →
    (zty 100 a0 h87) ∧ (zty 102 (gR h87 a0 1) h87) ∧ (zty 100 a0 h87) ∧ zC1 50 [vR (gR h87 a0 1) 102, vR (a0 + 1) 101] h87 (fun v88 h88 =>
    (zty 100 a0 h88) ∧ ∀ h89 : zH, h89 = sI h88 (a0 + 1) 1 0 →
    Q none h89)) ∧
    (¬ (6 ≤ l1) →
    (zty 100 a0 h) ∧ ∀ h90 : zH, h90 = nw h 21 2 →
    (¬ (nx h : Nat) = 0) ∧ zC0 43 [vR (nx h) 0] h90 (fun h91 =>
    (0 ≤ (l1 : Int)) ∧ ((l1 : Int) < 6) ∧ ((nx h : Nat) = 0 ∨ zty 101 (nx h) h91) ∧ ∀ h92 : zH, h92 = sR h91 (a0 + 104) l1 (nx h) →
    (inR (l1 + 1)) ∧ zK 0 168 [vR a0 0, vI (l1 + 1)] [] h92 Q))) : zK 0 168 [vR a0 0, vI l1] [] h Q :=
  zwpe_W (cd := c0) rfl [142, 168] 400 168 _ _ _ _ k
-- 1 SyntaxRules.sign(I)I
set_option maxRecDepth 100000 in
set_option maxHeartbeats 4000000 in
theorem k1_0 (p1 : Int) (h : zH) (Q : Option zV → zH → Prop) (k :
  (inR ((gI h 3 1) + 4)) ∧ (((gI h 3 1) + 4) ≤ 300 →
    zK 1 20 [vR 2 100, vI p1, vI 24] [] h Q) ∧
    (¬ (((gI h 3 1) + 4) ≤ 300) →
    Q (some (vI ((-1)))) h)) : zK 1 0 [vR 2 100, vI p1, vU] [] h Q :=
  zwpe_W (cd := c1) rfl [20] 400 0 _ _ _ _ k
set_option maxRecDepth 100000 in
set_option maxHeartbeats 4000000 in
theorem k1_20 (l1 : Int) (l2 : Int) (h : zH) (Q : Option zV → zH → Prop) (k :
  (l2 < 0 →
    Q (some (vI (gI h 3 1))) h) ∧
    (¬ (l2 < 0) →
    (0 ≤ (gI h 3 1 : Int)) ∧ ((gI h 3 1 : Int) < 300) ∧ ∀ h3 : zH, h3 = sI h 4 (gI h 3 1) (iAnd (iUshr l1 l2) 255) →
    (inR ((gI h3 3 1) + 1)) ∧ ∀ h4 : zH, h4 = sI h3 3 1 ((gI h3 3 1) + 1) →
    (inR (l2 + (-8))) ∧ zK 1 20 [vR 2 100, vI l1, vI (l2 + (-8))] [] h4 Q)) : zK 1 20 [vR 2 100, vI l1, vI l2] [] h Q :=
  zwpe_W (cd := c1) rfl [20] 400 20 _ _ _ _ k
-- 2 SyntaxRules.end(I)Z
set_option maxRecDepth 100000 in
set_option maxHeartbeats 4000000 in
theorem k2_0 (p1 : Int) (h : zH) (Q : Option zV → zH → Prop) (k :
  (p1 < 0 →
    ((0 : Int) = 0 ∨ (0 : Int) = 1) ∧ Q (some (vI 0)) h) ∧
    (¬ (p1 < 0) →
    (p1 ≤ (gI h 3 1) →
      ∀ h2 : zH, h2 = sI h 3 1 p1 →
      ((1 : Int) = 0 ∨ (1 : Int) = 1) ∧ Q (some (vI 1)) h2) ∧
      (¬ (p1 ≤ (gI h 3 1)) →
      ((0 : Int) = 0 ∨ (0 : Int) = 1) ∧ Q (some (vI 0)) h))) : zK 2 0 [vR 2 100, vI p1] [] h Q :=
  zwpe_W (cd := c2) rfl [] 400 0 _ _ _ _ k
-- 3 SyntaxRules.source()I
set_option maxRecDepth 100000 in
set_option maxHeartbeats 4000000 in
theorem k3_0 (h : zH) (Q : Option zV → zH → Prop) (k :
  (zty 102 (gR h 2 2) h) ∧ zC1 50 [vR (gR h 2 2) 102, vR 3 101] h (fun v5 h5 =>
  ∀ h6 : zH, h6 = sI h5 3 1 0 →
  (¬ v5 = 0 →
    (zty 102 (gR h6 2 1) h6) ∧ zC0 135 [vR 87 109, vR (gR h6 2 1 + 1) 101] h6 (fun h7 =>
    zC0 37 [vR 2 100] h7 (fun h8 =>
    (zty 102 (gR h8 2 1) h8) ∧ Q (some (vI (gI h8 (gR h8 2 1) 14))) h8))) ∧
    (¬ (¬ v5 = 0) →
    (zty 102 (gR h6 2 2) h6) ∧ (inR ((-1000) - (gI h6 (gR h6 2 2) 16))) ∧ Q (some (vI ((-1000) - (gI h6 (gR h6 2 2) 16)))) h6))) : zK 3 0 [vR 2 100, vU] [] h Q :=
  zwpe_W (cd := c3) rfl [] 400 0 _ _ _ _ k
-- 4 SyntaxRules.rule()I
set_option maxRecDepth 100000 in
set_option maxHeartbeats 4000000 in
theorem k4_0 (h : zH) (Q : Option zV → zH → Prop) (k :
  zCr 75 0 [vR 54 104, vR 3 101] h (fun v4 h4 =>
  ∀ h5 : zH, h5 = sI h4 3 1 0 →
  (¬ (v4 : Nat) = 0 →
    zK 4 38 [vR 2 100, vR v4 0, vI 0] [] h5 Q) ∧
    (¬ (¬ (v4 : Nat) = 0) →
    (inR ((-1000) - (gI h5 54 0))) ∧ Q (some (vI ((-1000) - (gI h5 54 0)))) h5))) : zK 4 0 [vR 2 100, vU, vU] [] h Q :=
  zwpe_W (cd := c4) rfl [38] 400 0 _ _ _ _ k
set_option maxRecDepth 100000 in
set_option maxHeartbeats 4000000 in
theorem k4_38 (a1 : Nat) (l2 : Int) (h : zH) (Q : Option zV → zH → Prop) (k :
  (8 ≤ l2 →
    Q (some (vI ((-3)))) h) ∧
    (¬ (8 ≤ l2) →
    (0 ≤ (l2 : Int)) ∧ ((l2 : Int) < 8) ∧ (¬ ((gR h 53 l2) : Nat) = 0 →
      (inR (l2 + 1)) ∧ zK 4 38 [vR 2 100, vR a1 0, vI (l2 + 1)] [] h Q) ∧
      (¬ (¬ ((gR h 53 l2) : Nat) = 0) →
      (0 ≤ (l2 : Int)) ∧ ((l2 : Int) < 8) ∧ ((a1 : Nat) = 0 ∨ zty 103 a1 h) ∧ ∀ h6 : zH, h6 = sR h 53 l2 a1 →
      Q (some (vI l2)) h6))) : zK 4 38 [vR 2 100, vR a1 0, vI l2] [] h Q :=
  zwpe_W (cd := c4) rfl [38] 400 38 _ _ _ _ k
-- 5 SyntaxRules.drop(I)I
set_option maxRecDepth 100000 in
set_option maxHeartbeats 4000000 in
theorem k5_0 (p1 : Int) (h : zH) (Q : Option zV → zH → Prop) (k :
  zC1 31 [vR 2 100, vI p1] h (fun v4 h4 =>
  (¬ v4 = 0 →
    (0 ≤ (p1 : Int)) ∧ ((p1 : Int) < 8) ∧ ((0 : Nat) = 0 ∨ zty 103 0 h4) ∧ ∀ h5 : zH, h5 = sR h4 53 p1 0 →
    zC1 35 [vR 2 100] h5 (fun v6 h6 =>
    Q (some (vI v6)) h6)) ∧
    (¬ (¬ v4 = 0) →
    Q (some (vI ((-2)))) h4))) : zK 5 0 [vR 2 100, vI p1] [] h Q :=
  zwpe_W (cd := c5) rfl [] 400 0 _ _ _ _ k
-- 6 SyntaxRules.node(II)I
set_option maxRecDepth 100000 in
set_option maxHeartbeats 4000000 in
theorem k6_0 (p1 : Int) (p2 : Int) (h : zH) (Q : Option zV → zH → Prop) (k :
  zC1 30 [vR 2 100, vI p1] h (fun v2 h2 =>
  (¬ v2 = 0 →
    (p2 = (0 : Int) →
      (zty 102 (gR h2 2 1) h2) ∧ (0 ≤ (p1 : Int)) ∧ ((p1 : Int) < 60) ∧ Q (some (vI (gI h2 (gR h2 2 1 + 3) p1))) h2) ∧
      (¬ (p2 = (0 : Int)) →
      (p2 = ((0 : Int) + 1) →
      (zty 102 (gR h2 2 1) h2) ∧ (0 ≤ (p1 : Int)) ∧ ((p1 : Int) < 60) ∧ Q (some (vI (gI h2 (gR h2 2 1 + 4) p1))) h2) ∧
      (¬ (p2 = ((0 : Int) + 1)) →
      (p2 = ((0 : Int) + 1 + 1) →
      (zty 102 (gR h2 2 1) h2) ∧ (0 ≤ (p1 : Int)) ∧ ((p1 : Int) < 60) ∧ Q (some (vI (gI h2 (gR h2 2 1 + 5) p1))) h2) ∧
      (¬ (p2 = ((0 : Int) + 1 + 1)) →
      (p2 = ((0 : Int) + 1 + 1 + 1) →
      (zty 102 (gR h2 2 1) h2) ∧ (0 ≤ (p1 : Int)) ∧ ((p1 : Int) < 60) ∧ Q (some (vI (gI h2 (gR h2 2 1 + 6) p1))) h2) ∧
      (¬ (p2 = ((0 : Int) + 1 + 1 + 1)) →
      (p2 = ((0 : Int) + 1 + 1 + 1 + 1) →
      (zty 102 (gR h2 2 1) h2) ∧ (0 ≤ (p1 : Int)) ∧ ((p1 : Int) < 60) ∧ Q (some (vI (gI h2 (gR h2 2 1 + 7) p1))) h2) ∧
      (¬ (p2 = ((0 : Int) + 1 + 1 + 1 + 1)) →
      (p2 = ((0 : Int) + 1 + 1 + 1 + 1 + 1) →
      (zty 102 (gR h2 2 1) h2) ∧ (0 ≤ (p1 : Int)) ∧ ((p1 : Int) < 60) ∧ (zty 102 (gR h2 2 1) h2) ∧ (0 ≤ (p1 : Int)) ∧ ((p1 : Int) < 60) ∧ (inR ((gI h2 (gR h2 2 1 + 8) p1) - (gI h2 (gR h2 2 1 + 7) p1))) ∧ Q (some (vI ((gI h2 (gR h2 2 1 + 8) p1) - (gI h2 (gR h2 2 1 + 7) p1)))) h2) ∧
      (¬ (p2 = ((0 : Int) + 1 + 1 + 1 + 1 + 1)) →
      (p2 = ((0 : Int) + 1 + 1 + 1 + 1 + 1 + 1) →
      (zty 102 (gR h2 2 1) h2) ∧ (0 ≤ (p1 : Int)) ∧ ((p1 : Int) < 60) ∧ Q (some (vI (gI h2 (gR h2 2 1 + 9) p1))) h2) ∧
      (¬ (p2 = ((0 : Int) + 1 + 1 + 1 + 1 + 1 + 1)) →
      (p2 = ((0 : Int) + 1 + 1 + 1 + 1 + 1 + 1 + 1) →
      (zty 102 (gR h2 2 1) h2) ∧ (0 ≤ (p1 : Int)) ∧ ((p1 : Int) < 60) ∧ Q (some (vI (gI h2 (gR h2 2 1 + 10) p1))) h2) ∧
      (¬ (p2 = ((0 : Int) + 1 + 1 + 1 + 1 + 1 + 1 + 1)) →
      Q (some (vI ((-1)))) h2))))))))) ∧
    (¬ (¬ v2 = 0) →
    False))) : zK 6 0 [vR 2 100, vI p1, vI p2] [] h Q :=
  zwpe_W (cd := c6) rfl [] 400 0 _ _ _ _ k
-- 7 SyntaxRules.name(II)I
set_option maxRecDepth 100000 in
set_option maxHeartbeats 4000000 in
theorem k7_0 (p1 : Int) (p2 : Int) (h : zH) (Q : Option zV → zH → Prop) (k :
  zC1 30 [vR 2 100, vI p1] h (fun v3 h3 =>
  (v3 = 0 →
    Q (some (vI ((-1)))) h3) ∧
    (¬ (v3 = 0) →
    (p2 < 0 →
      Q (some (vI ((-1)))) h3) ∧
      (¬ (p2 < 0) →
      (zty 102 (gR h3 2 1) h3) ∧ (0 ≤ (p1 : Int)) ∧ ((p1 : Int) < 60) ∧ (p2 < (gI h3 (gR h3 2 1 + 12) p1) →
        (zty 102 (gR h3 2 1) h3) ∧ (zty 102 (gR h3 2 1) h3) ∧ (0 ≤ (p1 : Int)) ∧ ((p1 : Int) < 60) ∧ (inR ((gI h3 (gR h3 2 1 + 11) p1) + p2)) ∧ zC1 44 [vR (gR h3 2 1 + 1) 101, vI ((gI h3 (gR h3 2 1 + 11) p1) + p2)] h3 (fun v4 h4 =>
        Q (some (vI v4)) h4)) ∧
        (¬ (p2 < (gI h3 (gR h3 2 1 + 12) p1)) →
        Q (some (vI ((-1)))) h3))))) : zK 7 0 [vR 2 100, vI p1, vI p2] [] h Q :=
  zwpe_W (cd := c7) rfl [] 400 0 _ _ _ _ k
-- 8 SyntaxRules.comment(II)I
set_option maxRecDepth 100000 in
set_option maxHeartbeats 4000000 in
theorem k8_0 (p1 : Int) (p2 : Int) (h : zH) (Q : Option zV → zH → Prop) (k :
  (¬ p1 = (-1) →
    zK 8 17 [vR 2 100, vI p1, vI p2] [] h Q) ∧
    (¬ (¬ p1 = (-1)) →
    (¬ p2 = 0 →
      zK 8 17 [vR 2 100, vI p1, vI p2] [] h Q) ∧
      (¬ (¬ p2 = 0) →
      (zty 102 (gR h 2 1) h) ∧ Q (some (vI (gI h (gR h 2 1) 15))) h))) : zK 8 0 [vR 2 100, vI p1, vI p2] [] h Q :=
  zwpe_W (cd := c8) rfl [17] 400 0 _ _ _ _ k
set_option maxRecDepth 100000 in
set_option maxHeartbeats 4000000 in
theorem k8_17 (l1 : Int) (l2 : Int) (h : zH) (Q : Option zV → zH → Prop) (k :
  (l1 < 0 →
    Q (some (vI ((-1)))) h) ∧
    (¬ (l1 < 0) →
    (zty 102 (gR h 2 1) h) ∧ (l1 < (gI h (gR h 2 1) 15) →
      (l2 = (0 : Int) →
        (zty 102 (gR h 2 1) h) ∧ (0 ≤ (l1 : Int)) ∧ ((l1 : Int) < 150) ∧ Q (some (vI (gI h (gR h 2 1 + 13) l1))) h) ∧
        (¬ (l2 = (0 : Int)) →
        (l2 = ((0 : Int) + 1) →
        (zty 102 (gR h 2 1) h) ∧ (0 ≤ (l1 : Int)) ∧ ((l1 : Int) < 150) ∧ Q (some (vI (gI h (gR h 2 1 + 14) l1))) h) ∧
        (¬ (l2 = ((0 : Int) + 1)) →
        (l2 = ((0 : Int) + 1 + 1) →
        (zty 102 (gR h 2 1) h) ∧ (0 ≤ (l1 : Int)) ∧ ((l1 : Int) < 150) ∧ Q (some (vI (gI h (gR h 2 1 + 15) l1))) h) ∧
        (¬ (l2 = ((0 : Int) + 1 + 1)) →
        Q (some (vI ((-1)))) h)))) ∧
      (¬ (l1 < (gI h (gR h 2 1) 15)) →
      Q (some (vI ((-1)))) h))) : zK 8 17 [vR 2 100, vI l1, vI l2] [] h Q :=
  zwpe_W (cd := c8) rfl [17] 400 17 _ _ _ _ k
-- 9 SyntaxRules.letter(I)I
set_option maxRecDepth 100000 in
set_option maxHeartbeats 4000000 in
theorem k9_0 (p1 : Int) (h : zH) (Q : Option zV → zH → Prop) (k :
  (zty 102 (gR h 2 1) h) ∧ zC1 44 [vR (gR h 2 1 + 1) 101, vI p1] h (fun v2 h2 =>
  Q (some (vI v2)) h2)) : zK 9 0 [vR 2 100, vI p1] [] h Q :=
  zwpe_W (cd := c9) rfl [] 400 0 _ _ _ _ k
-- 10 SyntaxRules.alike(II)I
set_option maxRecDepth 100000 in
set_option maxHeartbeats 4000000 in
theorem k10_0 (p1 : Int) (p2 : Int) (h : zH) (Q : Option zV → zH → Prop) (k :
  zC1 30 [vR 2 100, vI p1] h (fun v4 h4 =>
  (v4 = 0 →
    Q (some (vI ((-1)))) h4) ∧
    (¬ (v4 = 0) →
    zC1 30 [vR 2 100, vI p2] h4 (fun v5 h5 =>
    (¬ v5 = 0 →
      (zty 102 (gR h5 2 1) h5) ∧ zC1 61 [vR (gR h5 2 1) 102, vI p1, vI p2] h5 (fun v6 h6 =>
      (v6 = 0 →
        Q (some (vI 0)) h6) ∧
        (¬ (v6 = 0) →
        Q (some (vI 1)) h6))) ∧
      (¬ (¬ v5 = 0) →
      Q (some (vI ((-1)))) h5))))) : zK 10 0 [vR 2 100, vI p1, vI p2] [] h Q :=
  zwpe_W (cd := c10) rfl [] 400 0 _ _ _ _ k
-- 11 SyntaxRules.twins(II)I
set_option maxRecDepth 100000 in
set_option maxHeartbeats 4000000 in
theorem k11_0 (p1 : Int) (p2 : Int) (h : zH) (Q : Option zV → zH → Prop) (k :
  zC1 30 [vR 2 100, vI p1] h (fun v3 h3 =>
  (v3 = 0 →
    Q (some (vI ((-1)))) h3) ∧
    (¬ (v3 = 0) →
    (p2 < 0 →
      Q (some (vI ((-1)))) h3) ∧
      (¬ (p2 < 0) →
      (p2 ≤ 1 →
        zK 11 24 [vR 2 100, vI p1, vI p2, vI 0, vI 0] [] h3 Q) ∧
        (¬ (p2 ≤ 1) →
        Q (some (vI ((-1)))) h3))))) : zK 11 0 [vR 2 100, vI p1, vI p2, vU, vU] [] h Q :=
  zwpe_W (cd := c11) rfl [24] 400 0 _ _ _ _ k
set_option maxRecDepth 100000 in
set_option maxHeartbeats 4000000 in
theorem k11_24 (l1 : Int) (l2 : Int) (l3 : Int) (l4 : Int) (h : zH) (Q : Option zV → zH → Prop) (k :
  (zty 102 (gR h 2 1) h) ∧ ((gI h (gR h 2 1) 14) ≤ l4 →
    Q (some (vI l3)) h) ∧
    (¬ ((gI h (gR h 2 1) 14) ≤ l4) →
    (zty 102 (gR h 2 1) h) ∧ zC1 61 [vR (gR h 2 1) 102, vI l1, vI l4] h (fun v4 h4 =>
    (v4 = 0 →
      (inR (l4 + 1)) ∧ zK 11 24 [vR 2 100, vI l1, vI l2, vI l3, vI (l4 + 1)] [] h4 Q) ∧
      (¬ (v4 = 0) →
      (¬ l2 = 1 →
        (inR (l3 + 1)) ∧ (inR (l4 + 1)) ∧ zK 11 24 [vR 2 100, vI l1, vI l2, vI (l3 + 1), vI (l4 + 1)] [] h4 Q) ∧
        (¬ (¬ l2 = 1) →
        Q (some (vI l4)) h4))))) : zK 11 24 [vR 2 100, vI l1, vI l2, vI l3, vI l4] [] h Q :=
  zwpe_W (cd := c11) rfl [24] 400 24 _ _ _ _ k
-- 12 SyntaxRules.told(II)I
set_option maxRecDepth 100000 in
set_option maxHeartbeats 4000000 in
theorem k12_0 (p1 : Int) (p2 : Int) (h : zH) (Q : Option zV → zH → Prop) (k :
  zC1 31 [vR 2 100, vI p1] h (fun v7 h7 =>
  (¬ v7 = 0 →
    (0 ≤ (p1 : Int)) ∧ ((p1 : Int) < 8) ∧ (p2 = (0 : Int) →
      (zty 103 (gR h7 53 p1) h7) ∧ zC1 105 [vR 63 106, vR (gR h7 53 p1) 103] h7 (fun v12 h12 =>
      Q (some (vI v12)) h12)) ∧
      (¬ (p2 = (0 : Int)) →
      (p2 = ((0 : Int) + 1) →
      (zty 103 (gR h7 53 p1) h7) ∧ (zty 103 (gR h7 53 p1) h7) ∧ zC1 67 [vR (gR h7 53 p1) 103, vI 5, vI 0, vI (gI h7 (gR h7 53 p1) 14)] h7 (fun v11 h11 =>
      Q (some (vI v11)) h11)) ∧
      (¬ (p2 = ((0 : Int) + 1)) →
      (p2 = ((0 : Int) + 1 + 1) →
      (zty 103 (gR h7 53 p1) h7) ∧ (zty 103 (gR h7 53 p1) h7) ∧ zC1 67 [vR (gR h7 53 p1) 103, vI 2, vI 0, vI (gI h7 (gR h7 53 p1) 14)] h7 (fun v10 h10 =>
      Q (some (vI v10)) h10)) ∧
      (¬ (p2 = ((0 : Int) + 1 + 1)) →
      (p2 = ((0 : Int) + 1 + 1 + 1) →
      (zty 103 (gR h7 53 p1) h7) ∧ zC1 258 [vI (gI h7 (gR h7 53 p1) 15)] h7 (fun v9 h9 =>
      Q (some (vI v9)) h9)) ∧
      (¬ (p2 = ((0 : Int) + 1 + 1 + 1)) →
      (p2 = ((0 : Int) + 1 + 1 + 1 + 1) →
      (zty 103 (gR h7 53 p1) h7) ∧ (zty 103 (gR h7 53 p1) h7) ∧ (zty 103 (gR h7 53 p1) h7) ∧ zC1 67 [vR (gR h7 53 p1) 103, vI 4, vI (gI h7 (gR h7 53 p1) 14), vI (gI h7 (gR h7 53 p1) 13)] h7 (fun v8 h8 =>
      Q (some (vI v8)) h8)) ∧
      (¬ (p2 = ((0 : Int) + 1 + 1 + 1 + 1)) →
      Q (some (vI ((-1)))) h7)))))) ∧
    (¬ (¬ v7 = 0) →
    Q (some (vI ((-1)))) h7))) : zK 12 0 [vR 2 100, vI p1, vI p2, vU] [] h Q :=
  zwpe_W (cd := c12) rfl [] 400 0 _ _ _ _ k
-- 13 SyntaxRules.ways(II)I
set_option maxRecDepth 100000 in
set_option maxHeartbeats 4000000 in
theorem k13_0 (p1 : Int) (p2 : Int) (h : zH) (Q : Option zV → zH → Prop) (k :
  zC1 31 [vR 2 100, vI p1] h (fun v4 h4 =>
  (v4 = 0 →
    Q (some (vI ((-1)))) h4) ∧
    (¬ (v4 = 0) →
    zC1 30 [vR 2 100, vI p2] h4 (fun v5 h5 =>
    (¬ v5 = 0 →
      (zty 102 (gR h5 2 1) h5) ∧ (0 ≤ (p1 : Int)) ∧ ((p1 : Int) < 8) ∧ (zty 103 (gR h5 53 p1) h5) ∧ zC1 94 [vR 56 105, vR (gR h5 2 1) 102, vR (gR h5 53 p1) 103, vI 0, vI p2, vI 500] h5 (fun v6 h6 =>
      Q (some (vI v6)) h6)) ∧
      (¬ (¬ v5 = 0) →
      Q (some (vI ((-1)))) h5))))) : zK 13 0 [vR 2 100, vI p1, vI p2] [] h Q :=
  zwpe_W (cd := c13) rfl [] 400 0 _ _ _ _ k
-- 14 SyntaxRules.held(IIII)I
set_option maxRecDepth 100000 in
set_option maxHeartbeats 4000000 in
theorem k14_0 (p1 : Int) (p2 : Int) (p3 : Int) (p4 : Int) (h : zH) (Q : Option zV → zH → Prop) (k :
  zC1 31 [vR 2 100, vI p1] h (fun v6 h6 =>
  (v6 = 0 →
    Q (some (vI ((-1)))) h6) ∧
    (¬ (v6 = 0) →
    zC1 30 [vR 2 100, vI p2] h6 (fun v7 h7 =>
    (v7 = 0 →
      Q (some (vI ((-1)))) h7) ∧
      (¬ (v7 = 0) →
      (p3 < 0 →
        Q (some (vI ((-1)))) h7) ∧
        (¬ (p3 < 0) →
        (26 ≤ p3 →
          Q (some (vI ((-1)))) h7) ∧
          (¬ (26 ≤ p3) →
          (p4 < 0 →
            Q (some (vI ((-1)))) h7) ∧
            (¬ (p4 < 0) →
            (p4 ≤ 1 →
              (0 ≤ (p1 : Int)) ∧ ((p1 : Int) < 8) ∧ (zty 103 (gR h7 53 p1) h7) ∧ zC1 68 [vR (gR h7 53 p1) 103, vI 0, vI p3] h7 (fun v8 h8 =>
              (v8 = (-1) →
                Q (some (vI ((-1)))) h8) ∧
                (¬ (v8 = (-1)) →
                (zty 102 (gR h8 2 1) h8) ∧ (0 ≤ (p1 : Int)) ∧ ((p1 : Int) < 8) ∧ (zty 103 (gR h8 53 p1) h8) ∧ zC1 91 [vR 56 105, vR (gR h8 2 1) 102, vR (gR h8 53 p1) 103, vI p2] h8 (fun v9 h9 =>
                (¬ v9 = 0 →
                  (¬ p4 = 0 →
                    (0 ≤ (v8 : Int)) ∧ ((v8 : Int) < 20) ∧ Q (some (vI (gI h9 59 v8))) h9) ∧
                    (¬ (¬ p4 = 0) →
                    zC1 93 [vR 56 105, vI v8] h9 (fun v10 h10 =>
                    Q (some (vI v10)) h10))) ∧
                  (¬ (¬ v9 = 0) →
                  Q (some (vI ((-1)))) h9))))) ∧
              (¬ (p4 ≤ 1) →
              Q (some (vI ((-1)))) h7))))))))) : zK 14 0 [vR 2 100, vI p1, vI p2, vI p3, vI p4, vU] [] h Q :=
  zwpe_W (cd := c14) rfl [] 400 0 _ _ _ _ k
-- 15 SyntaxRules.found(II)I
set_option maxRecDepth 100000 in
set_option maxHeartbeats 4000000 in
theorem k15_0 (p1 : Int) (p2 : Int) (h : zH) (Q : Option zV → zH → Prop) (k :
  zC1 31 [vR 2 100, vI p1] h (fun v3 h3 =>
  (v3 = 0 →
    Q (some (vI ((-1)))) h3) ∧
    (¬ (v3 = 0) →
    ((-1) ≤ p2 →
      zK 15 20 [vR 2 100, vI p1, vI p2, vI 0, vI 0] [] h3 Q) ∧
      (¬ ((-1) ≤ p2) →
      Q (some (vI ((-1)))) h3)))) : zK 15 0 [vR 2 100, vI p1, vI p2, vU, vU] [] h Q :=
  zwpe_W (cd := c15) rfl [20] 400 0 _ _ _ _ k
set_option maxRecDepth 100000 in
set_option maxHeartbeats 4000000 in
theorem k15_20 (l1 : Int) (l2 : Int) (l3 : Int) (l4 : Int) (h : zH) (Q : Option zV → zH → Prop) (k :
  (zty 102 (gR h 2 1) h) ∧ ((gI h (gR h 2 1) 14) ≤ l4 →
    (¬ l2 = (-1) →
      Q (some (vI ((-1)))) h) ∧
      (¬ (¬ l2 = (-1)) →
      Q (some (vI l3)) h)) ∧
    (¬ ((gI h (gR h 2 1) 14) ≤ l4) →
    (zty 102 (gR h 2 1) h) ∧ (0 ≤ (l1 : Int)) ∧ ((l1 : Int) < 8) ∧ (zty 103 (gR h 53 l1) h) ∧ zC1 91 [vR 56 105, vR (gR h 2 1) 102, vR (gR h 53 l1) 103, vI l4] h (fun v4 h4 =>
    (v4 = 0 →
      (inR (l4 + 1)) ∧ zK 15 20 [vR 2 100, vI l1, vI l2, vI l3, vI (l4 + 1)] [] h4 Q) ∧
      (¬ (v4 = 0) →
      (¬ l3 = l2 →
        (inR (l3 + 1)) ∧ (inR (l4 + 1)) ∧ zK 15 20 [vR 2 100, vI l1, vI l2, vI (l3 + 1), vI (l4 + 1)] [] h4 Q) ∧
        (¬ (¬ l3 = l2) →
        Q (some (vI l4)) h4))))) : zK 15 20 [vR 2 100, vI l1, vI l2, vI l3, vI l4] [] h Q :=
  zwpe_W (cd := c15) rfl [20] 400 20 _ _ _ _ k
-- 16 SyntaxRules.rulesOf(I)I
set_option maxRecDepth 100000 in
set_option maxHeartbeats 4000000 in
theorem k16_0 (p1 : Int) (h : zH) (Q : Option zV → zH → Prop) (k :
  zC1 30 [vR 2 100, vI p1] h (fun v3 h3 =>
  (v3 = 0 →
    Q (some (vI ((-1)))) h3) ∧
    (¬ (v3 = 0) →
    (zty 102 (gR h3 2 1) h3) ∧ zC1 92 [vR 56 105, vR (gR h3 2 1) 102, vR 53 944, vI p1] h3 (fun v4 h4 =>
    Q (some (vI v4)) h4)))) : zK 16 0 [vR 2 100, vI p1] [] h Q :=
  zwpe_W (cd := c16) rfl [] 400 0 _ _ _ _ k
-- 17 SyntaxRules.tests(I)I
set_option maxRecDepth 100000 in
set_option maxHeartbeats 4000000 in
theorem k17_0 (p1 : Int) (h : zH) (Q : Option zV → zH → Prop) (k :
  (p1 = 0 →
    zC1 36 [vR 2 100] h (fun v4 h4 =>
    Q (some (vI v4)) h4)) ∧
    (¬ (p1 = 0) →
    (p1 = 1 →
    zC1 108 [vR 63 106, vR 53 944] h (fun v3 h3 =>
    Q (some (vI v3)) h3)) ∧
    (¬ (p1 = 1) →
    Q (some (vI ((-1)))) h))) : zK 17 0 [vR 2 100, vI p1] [] h Q :=
  zwpe_W (cd := c17) rfl [] 400 0 _ _ _ _ k
-- 18 SyntaxRules.asked(I)I
set_option maxRecDepth 100000 in
set_option maxHeartbeats 4000000 in
theorem k18_0 (p1 : Int) (h : zH) (Q : Option zV → zH → Prop) (k :
  zC1 30 [vR 2 100, vI p1] h (fun v4 h4 =>
  (¬ v4 = 0 →
    zC1 108 [vR 63 106, vR 53 944] h4 (fun v5 h5 =>
    (zty 102 (gR h5 2 1) h5) ∧ zC1 113 [vR 63 106, vR (gR h5 2 1) 102, vI p1, vR 56 105] h5 (fun v6 h6 =>
    Q (some (vI v6)) h6))) ∧
    (¬ (¬ v4 = 0) →
    Q (some (vI ((-1)))) h4))) : zK 18 0 [vR 2 100, vI p1] [] h Q :=
  zwpe_W (cd := c18) rfl [] 400 0 _ _ _ _ k
-- 19 SyntaxRules.edit(III)I
set_option maxRecDepth 100000 in
set_option maxHeartbeats 4000000 in
theorem k19_0 (p1 : Int) (p2 : Int) (p3 : Int) (h : zH) (Q : Option zV → zH → Prop) (k :
  zC1 32 [vI p1] h (fun v6 h6 =>
  (¬ v6 = 0 →
    (zty 102 (gR h6 2 1) h6) ∧ zC0 118 [vR 77 107, vR (gR h6 2 1) 102, vR 53 944, vI p1, vR 56 105] h6 (fun h7 =>
    (¬ p2 = (-1) →
      zK 19 46 [vR 2 100, vI p1, vI p2, vI p3] [] h7 Q) ∧
      (¬ (¬ p2 = (-1)) →
      (¬ p3 = 0 →
        zK 19 46 [vR 2 100, vI p1, vI p2, vI p3] [] h7 Q) ∧
        (¬ (¬ p3 = 0) →
        Q (some (vI (gI h7 77 0))) h7)))) ∧
    (¬ (¬ v6 = 0) →
    Q (some (vI ((-1)))) h6))) : zK 19 0 [vR 2 100, vI p1, vI p2, vI p3] [] h Q :=
  zwpe_W (cd := c19) rfl [46] 400 0 _ _ _ _ k
set_option maxRecDepth 100000 in
set_option maxHeartbeats 4000000 in
theorem k19_46 (u1 : zV) (l2 : Int) (l3 : Int) (h : zH) (Q : Option zV → zH → Prop) (k :
  (l2 < 0 →
    Q (some (vI ((-1)))) h) ∧
    (¬ (l2 < 0) →
    (l2 < (gI h 77 0) →
      (l3 = (0 : Int) →
        zC1 121 [vR 77 107, vI l2] h (fun v10 h10 =>
        Q (some (vI v10)) h10)) ∧
        (¬ (l3 = (0 : Int)) →
        (l3 = ((0 : Int) + 1) →
        (0 ≤ (l2 : Int)) ∧ ((l2 : Int) < 60) ∧ Q (some (vI (gI h 78 l2))) h) ∧
        (¬ (l3 = ((0 : Int) + 1)) →
        (l3 = ((0 : Int) + 1 + 1) →
        zCr 38 108 [vR 2 100, vI l2, vI ((-1))] h (fun v9 h9 =>
        Q (some (vI (gI h9 v9 0))) h9)) ∧
        (¬ (l3 = ((0 : Int) + 1 + 1)) →
        (l3 = ((0 : Int) + 1 + 1 + 1) →
        zCr 38 108 [vR 2 100, vI l2, vI ((-1))] h (fun v8 h8 =>
        Q (some (vI (gI h8 v8 1))) h8)) ∧
        (¬ (l3 = ((0 : Int) + 1 + 1 + 1)) →
        Q (some (vI ((-1)))) h))))) ∧
      (¬ (l2 < (gI h 77 0)) →
      Q (some (vI ((-1)))) h))) : zK 19 46 [vR 2 100, u1, vI l2, vI l3] [] h Q :=
  zwpe_W (cd := c19) rfl [46] 400 46 _ _ _ _ k
-- 20 SyntaxRules.comes(III)I
set_option maxRecDepth 100000 in
set_option maxHeartbeats 4000000 in
theorem k20_0 (p1 : Int) (p2 : Int) (p3 : Int) (h : zH) (Q : Option zV → zH → Prop) (k :
  zC1 32 [vI p1] h (fun v4 h4 =>
  (v4 = 0 →
    Q (some (vI ((-1)))) h4) ∧
    (¬ (v4 = 0) →
    (0 ≤ p3 →
      (zty 102 (gR h4 2 1) h4) ∧ zC0 118 [vR 77 107, vR (gR h4 2 1) 102, vR 53 944, vI p1, vR 56 105] h4 (fun h5 =>
      (p2 < 0 →
        Q (some (vI ((-1)))) h5) ∧
        (¬ (p2 < 0) →
        (p2 < (gI h5 77 0) →
          zCr 38 108 [vR 2 100, vI p2, vI p3] h5 (fun v6 h6 =>
          Q (some (vI (gI h6 v6 2))) h6)) ∧
          (¬ (p2 < (gI h5 77 0)) →
          Q (some (vI ((-1)))) h5)))) ∧
      (¬ (0 ≤ p3) →
      Q (some (vI ((-1)))) h4)))) : zK 20 0 [vR 2 100, vI p1, vI p2, vI p3] [] h Q :=
  zwpe_W (cd := c20) rfl [] 400 0 _ _ _ _ k
-- 21 SyntaxRules.conflicts(II)I
set_option maxRecDepth 100000 in
set_option maxHeartbeats 4000000 in
theorem k21_0 (p1 : Int) (p2 : Int) (h : zH) (Q : Option zV → zH → Prop) (k :
  zC1 32 [vI p1] h (fun v4 h4 =>
  (v4 = 0 →
    Q (some (vI ((-1)))) h4) ∧
    (¬ (v4 = 0) →
    (p2 < 0 →
      Q (some (vI ((-1)))) h4) ∧
      (¬ (p2 < 0) →
      (p2 ≤ 2 →
        (zty 102 (gR h4 2 1) h4) ∧ zC0 118 [vR 77 107, vR (gR h4 2 1) 102, vR 53 944, vI p1, vR 56 105] h4 (fun h5 =>
        zK 21 52 [vR 2 100, vI p1, vI p2, vI 0, vI 0, vI 0, vI 0, vI 0, vU] [] h5 Q)) ∧
        (¬ (p2 ≤ 2) →
        Q (some (vI ((-1)))) h4))))) : zK 21 0 [vR 2 100, vI p1, vI p2, vU, vU, vU, vU, vU, vU] [] h Q :=
  zwpe_W (cd := c21) rfl [52] 400 0 _ _ _ _ k
set_option maxRecDepth 100000 in
set_option maxHeartbeats 4000000 in
theorem k21_52 (u1 : zV) (l2 : Int) (l3 : Int) (l4 : Int) (l5 : Int) (l6 : Int) (l7 : Int) (u8 : zV) (h : zH) (Q : Option zV → zH → Prop) (k :
  (zty 102 (gR h 2 1) h) ∧ ((gI h (gR h 2 1) 14) ≤ l7 →
    (¬ l2 = 0 →
      (¬ l2 = 1 →
        Q (some (vI (iAnd l5 (iXor l6 (-1))))) h) ∧
        (¬ (¬ l2 = 1) →
        Q (some (vI l4)) h)) ∧
      (¬ (¬ l2 = 0) →
      Q (some (vI l3)) h)) ∧
    (¬ ((gI h (gR h 2 1) 14) ≤ l7) →
    (0 ≤ (l7 : Int)) ∧ ((l7 : Int) < 60) ∧ (0 ≤ (l7 : Int)) ∧ ((l7 : Int) < 60) ∧ ((gI h 79 l7) = (-1) →
      ((gI h 80 l7) = 0 →
        (inR (l7 + 1)) ∧ zK 21 52 [vR 2 100, u1, vI l2, vI l3, vI l4, vI (iOr l5 (gI h 80 l7)), vI l6, vI (l7 + 1), vI (gI h 80 l7)] [] h Q) ∧
        (¬ ((gI h 80 l7) = 0) →
        (inR (l3 + 1)) ∧ (inR (l7 + 1)) ∧ zK 21 52 [vR 2 100, u1, vI l2, vI (l3 + 1), vI l4, vI (iOr l5 (gI h 80 l7)), vI l6, vI (l7 + 1), vI (gI h 80 l7)] [] h Q)) ∧
      (¬ ((gI h 79 l7) = (-1)) →
      (0 ≤ (l7 : Int)) ∧ ((l7 : Int) < 60) ∧ zC1 258 [vI (gI h 80 l7)] h (fun v6 h6 =>
      (v6 ≤ 1 →
        (inR (l4 + 0)) ∧ (inR (l7 + 1)) ∧ zK 21 52 [vR 2 100, u1, vI l2, vI l3, vI (l4 + 0), vI (iOr l5 (gI h 80 l7)), vI (iOr l6 (iShl 1 (gI h 79 l7))), vI (l7 + 1), vI (gI h 80 l7)] [] h6 Q) ∧
        (¬ (v6 ≤ 1) →
        (inR (l4 + 1)) ∧ (inR (l7 + 1)) ∧ zK 21 52 [vR 2 100, u1, vI l2, vI l3, vI (l4 + 1), vI (iOr l5 (gI h 80 l7)), vI (iOr l6 (iShl 1 (gI h 79 l7))), vI (l7 + 1), vI (gI h 80 l7)] [] h6 Q))))) : zK 21 52 [vR 2 100, u1, vI l2, vI l3, vI l4, vI l5, vI l6, vI l7, u8] [] h Q :=
  zwpe_W (cd := c21) rfl [52] 400 52 _ _ _ _ k
-- 22 SyntaxRules.would(II)I
set_option maxRecDepth 100000 in
set_option maxHeartbeats 4000000 in
theorem k22_0 (p1 : Int) (p2 : Int) (h : zH) (Q : Option zV → zH → Prop) (k :
  zC1 32 [vI p1] h (fun v3 h3 =>
  (v3 = 0 →
    Q (some (vI ((-1)))) h3) ∧
    (¬ (v3 = 0) →
    (p2 < 0 →
      Q (some (vI ((-1)))) h3) ∧
      (¬ (p2 < 0) →
      (p2 ≤ 2 →
        (zty 102 (gR h3 2 1) h3) ∧ (zty 102 (gR h3 2 2) h3) ∧ zC1 40 [vR 2 100, vR (gR h3 2 1) 102, vR (gR h3 2 2) 102, vI p1] h3 (fun v4 h4 =>
        (¬ v4 = (-3) →
          (¬ v4 = 0 →
            (zty 102 (gR h4 2 2) h4) ∧ zK 22 56 [vR 2 100, vI p1, vI p2, vI v4, vU] [vR (gR h4 2 2) 102] h4 Q) ∧
            (¬ (¬ v4 = 0) →
            (zty 102 (gR h4 2 1) h4) ∧ zK 22 56 [vR 2 100, vI p1, vI p2, vI v4, vU] [vR (gR h4 2 1) 102] h4 Q)) ∧
          (¬ (¬ v4 = (-3)) →
          Q (some (vI ((-3)))) h4))) ∧
        (¬ (p2 ≤ 2) →
        Q (some (vI ((-1)))) h3))))) : zK 22 0 [vR 2 100, vI p1, vI p2, vU, vU] [] h Q :=
  zwpe_W (cd := c22) rfl [56] 400 0 _ _ _ _ k
set_option maxRecDepth 100000 in
set_option maxHeartbeats 4000000 in
theorem k22_56 (u0 : zV) (u1 : zV) (l2 : Int) (u3 : zV) (u4 : zV) (b0 : Nat) (h : zH) (Q : Option zV → zH → Prop) (k :
  (¬ l2 = 0 →
    (¬ l2 = 1 →
      Q (some (vI (gI h b0 15))) h) ∧
      (¬ (¬ l2 = 1) →
      Q (some (vI (gI h b0 14))) h)) ∧
    (¬ (¬ l2 = 0) →
    Q (some (vI (gI h (b0 + 1) 1))) h)) : zK 22 56 [u0, u1, vI l2, u3, u4] [vR b0 102] h Q :=
  zwpe_W (cd := c22) rfl [56] 400 56 _ _ _ _ k
-- 23 SyntaxRules.apply(I)I
set_option maxRecDepth 100000 in
set_option maxHeartbeats 4000000 in
theorem k23_0 (p1 : Int) (h : zH) (Q : Option zV → zH → Prop) (k :
  zC1 32 [vI p1] h (fun v5 h5 =>
  (¬ v5 = 0 →
    (zty 102 (gR h5 2 1) h5) ∧ (zty 102 (gR h5 2 2) h5) ∧ zC1 40 [vR 2 100, vR (gR h5 2 1) 102, vR (gR h5 2 2) 102, vI p1] h5 (fun v6 h6 =>
    (v6 ≤ 0 →
      Q (some (vI v6)) h6) ∧
      (¬ (v6 ≤ 0) →
      (zty 102 (gR h6 2 1) h6) ∧ zC0 135 [vR 87 109, vR (gR h6 2 1 + 1) 101] h6 (fun h7 =>
      zC0 37 [vR 2 100] h7 (fun h8 =>
      Q (some (vI v6)) h8))))) ∧
    (¬ (¬ v5 = 0) →
    Q (some (vI ((-1)))) h5))) : zK 23 0 [vR 2 100, vI p1, vU] [] h Q :=
  zwpe_W (cd := c23) rfl [] 400 0 _ _ _ _ k
-- 24 SyntaxRules.rounds(II)I
set_option maxRecDepth 100000 in
set_option maxHeartbeats 4000000 in
theorem k24_0 (p1 : Int) (p2 : Int) (h : zH) (Q : Option zV → zH → Prop) (k :
  zC1 32 [vI p1] h (fun v6 h6 =>
  (v6 = 0 →
    Q (some (vI ((-1)))) h6) ∧
    (¬ (v6 = 0) →
    (p2 < 1 →
      Q (some (vI ((-1)))) h6) ∧
      (¬ (p2 < 1) →
      (p2 ≤ 6 →
        zK 24 22 [vR 2 100, vI p1, vI p2, vI 0] [] h6 Q) ∧
        (¬ (p2 ≤ 6) →
        Q (some (vI ((-1)))) h6))))) : zK 24 0 [vR 2 100, vI p1, vI p2, vU] [] h Q :=
  zwpe_W (cd := c24) rfl [22] 400 0 _ _ _ _ k
set_option maxRecDepth 100000 in
set_option maxHeartbeats 4000000 in
theorem k24_22 (l1 : Int) (l2 : Int) (l3 : Int) (h : zH) (Q : Option zV → zH → Prop) (k :
  (l2 ≤ l3 →
    Q (some (vI l2)) h) ∧
    (¬ (l2 ≤ l3) →
    (zty 102 (gR h 2 1) h) ∧ (zty 102 (gR h 2 2) h) ∧ zC1 40 [vR 2 100, vR (gR h 2 1) 102, vR (gR h 2 2) 102, vI l1] h (fun v7 h7 =>
    (0 < v7 →
      (¬ l3 = 0 →
        zC0 37 [vR 2 100] h7 (fun h8 =>
        (inR (l3 + 1)) ∧ zK 24 22 [vR 2 100, vI l1, vI l2, vI (l3 + 1)] [] h8 Q)) ∧
        (¬ (¬ l3 = 0) →
        (zty 102 (gR h7 2 1) h7) ∧ zC0 135 [vR 87 109, vR (gR h7 2 1 + 1) 101] h7 (fun h9 =>
        zC0 37 [vR 2 100] h9 (fun h10 =>
        (inR (l3 + 1)) ∧ zK 24 22 [vR 2 100, vI l1, vI l2, vI (l3 + 1)] [] h10 Q)))) ∧
      (¬ (0 < v7) →
      Q (some (vI l3)) h7)))) : zK 24 22 [vR 2 100, vI l1, vI l2, vI l3] [] h Q :=
  zwpe_W (cd := c24) rfl [22] 400 22 _ _ _ _ k
-- 25 SyntaxRules.after(III)I
set_option maxRecDepth 100000 in
set_option maxHeartbeats 4000000 in
theorem k25_0 (p1 : Int) (p2 : Int) (p3 : Int) (h : zH) (Q : Option zV → zH → Prop) (k :
  zC1 32 [vI p1] h (fun v6 h6 =>
  (v6 = 0 →
    Q (some (vI ((-1)))) h6) ∧
    (¬ (v6 = 0) →
    (p2 < 1 →
      Q (some (vI ((-1)))) h6) ∧
      (¬ (p2 < 1) →
      (6 < p2 →
        Q (some (vI ((-1)))) h6) ∧
        (¬ (6 < p2) →
        (p3 < 0 →
          Q (some (vI ((-1)))) h6) ∧
          (¬ (p3 < 0) →
          (p3 ≤ 2 →
            (zty 102 (gR h6 2 1) h6) ∧ zK 25 41 [vR 2 100, vI p1, vI p2, vI p3, vR (gR h6 2 1) 102, vI 0, vI 0, vU] [] h6 Q) ∧
            (¬ (p3 ≤ 2) →
            Q (some (vI ((-1)))) h6))))))) : zK 25 0 [vR 2 100, vI p1, vI p2, vI p3, vU, vU, vU, vU] [] h Q :=
  zwpe_W (cd := c25) rfl [41, 67, 135] 400 0 _ _ _ _ k
set_option maxRecDepth 100000 in
set_option maxHeartbeats 4000000 in
theorem k25_41 (l1 : Int) (l2 : Int) (l3 : Int) (a4 : Nat) (l5 : Int) (l6 : Int) (u7 : zV) (h : zH) (Q : Option zV → zH → Prop) (k :
  (l2 ≤ l6 →
    zK 25 135 [vR 2 100, vI l1, vI l2, vI l3, vR a4 102, vI l5, vI l6, u7] [] h Q) ∧
    (¬ (l2 ≤ l6) →
    (zty 102 (gR h 2 2) h) ∧ (¬ (a4 : Nat) = (gR h 2 2) →
      (zty 102 (gR h 2 2) h) ∧ zK 25 67 [vR 2 100, vI l1, vI l2, vI l3, vR a4 102, vI l5, vI l6, u7] [vR (gR h 2 2) 102] h Q) ∧
      (¬ (¬ (a4 : Nat) = (gR h 2 2)) →
      zK 25 67 [vR 2 100, vI l1, vI l2, vI l3, vR a4 102, vI l5, vI l6, u7] [vR 37 102] h Q))) : zK 25 41 [vR 2 100, vI l1, vI l2, vI l3, vR a4 102, vI l5, vI l6, u7] [] h Q :=
  zwpe_W (cd := c25) rfl [41, 67, 135] 400 41 _ _ _ _ k
set_option maxRecDepth 100000 in
set_option maxHeartbeats 4000000 in
theorem k25_67 (l1 : Int) (l2 : Int) (l3 : Int) (a4 : Nat) (l5 : Int) (l6 : Int) (u7 : zV) (b0 : Nat) (h : zH) (Q : Option zV → zH → Prop) (k :
  zC1 40 [vR 2 100, vR a4 102, vR b0 102, vI l1] h (fun v7 h7 =>
  (0 < v7 →
    (0 ≤ (l6 : Int)) ∧ ((l6 : Int) < 6) ∧ (zty 101 (gR h7 106 l6) h7) ∧ zC0 45 [vR (gR h7 106 l6) 101, vR (a4 + 1) 101] h7 (fun h8 =>
    (¬ l5 = 0 →
      (inR (l6 + 1)) ∧ zK 25 41 [vR 2 100, vI l1, vI l2, vI l3, vR b0 102, vI 1, vI (l6 + 1), vR b0 102] [] h8 Q) ∧
      (¬ (¬ l5 = 0) →
      zC1 41 [vR 2 100, vR (b0 + 1) 101, vI l6] h8 (fun v9 h9 =>
      (v9 = 0 →
        (inR (l6 + 1)) ∧ zK 25 41 [vR 2 100, vI l1, vI l2, vI l3, vR b0 102, vI 0, vI (l6 + 1), vR b0 102] [] h9 Q) ∧
        (¬ (v9 = 0) →
        (inR (l6 + 1)) ∧ zK 25 41 [vR 2 100, vI l1, vI l2, vI l3, vR b0 102, vI 1, vI (l6 + 1), vR b0 102] [] h9 Q))))) ∧
    (¬ (0 < v7) →
    zK 25 135 [vR 2 100, vI l1, vI l2, vI l3, vR a4 102, vI l5, vI l6, vR b0 102] [] h7 Q))) : zK 25 67 [vR 2 100, vI l1, vI l2, vI l3, vR a4 102, vI l5, vI l6, u7] [vR b0 102] h Q :=
  zwpe_W (cd := c25) rfl [41, 67, 135] 400 67 _ _ _ _ k
set_option maxRecDepth 100000 in
set_option maxHeartbeats 4000000 in
theorem k25_135 (l1 : Int) (u2 : zV) (l3 : Int) (a4 : Nat) (l5 : Int) (u6 : zV) (u7 : zV) (h : zH) (Q : Option zV → zH → Prop) (k :
  (¬ l3 = 0 →
    (¬ l3 = 2 →
      zC0 118 [vR 77 107, vR a4 102, vR 53 944, vI l1, vR 56 105] h (fun h10 =>
      Q (some (vI (gI h10 77 0))) h10)) ∧
      (¬ (¬ l3 = 2) →
      (l5 = 0 →
        Q (some (vI 0)) h) ∧
        (¬ (l5 = 0) →
        Q (some (vI 1)) h))) ∧
    (¬ (¬ l3 = 0) →
    Q (some (vI (gI h (a4 + 1) 1))) h)) : zK 25 135 [vR 2 100, vI l1, u2, vI l3, vR a4 102, vI l5, u6, u7] [] h Q :=
  zwpe_W (cd := c25) rfl [41, 67, 135] 400 135 _ _ _ _ k
-- 26 SyntaxRules.undo()I
set_option maxRecDepth 100000 in
set_option maxHeartbeats 4000000 in
theorem k26_0 (h : zH) (Q : Option zV → zH → Prop) (k :
  zCr 136 0 [vR 87 109] h (fun v3 h3 =>
  (¬ (v3 : Nat) = 0 →
    (zty 102 (gR h3 2 1) h3) ∧ (zty 101 v3 h3) ∧ zC1 50 [vR (gR h3 2 1) 102, vR v3 101] h3 (fun v4 h4 =>
    Q (some (vI (gI h4 87 0))) h4)) ∧
    (¬ (¬ (v3 : Nat) = 0) →
    Q (some (vI ((-3)))) h3))) : zK 26 0 [vR 2 100, vU] [] h Q :=
  zwpe_W (cd := c26) rfl [] 400 0 _ _ _ _ k
-- 27 SyntaxRules.keep(I)Z
set_option maxRecDepth 100000 in
set_option maxHeartbeats 4000000 in
theorem k27_0 (p1 : Int) (h : zH) (Q : Option zV → zH → Prop) (k :
  (p1 < 0 →
    ((0 : Int) = 0 ∨ (0 : Int) = 1) ∧ Q (some (vI 0)) h) ∧
    (¬ (p1 < 0) →
    (p1 < 2 →
      (0 ≤ (p1 : Int)) ∧ ((p1 : Int) < 2) ∧ (zty 110 (gR h 105 p1) h) ∧ (zty 102 (gR h 2 1) h) ∧ zC0 45 [vR (gR h 105 p1 + 1) 101, vR (gR h 2 1 + 1) 101] h (fun h4 =>
      (0 ≤ (p1 : Int)) ∧ ((p1 : Int) < 2) ∧ (zty 110 (gR h4 105 p1) h4) ∧ zC0 42 [vR 53 944, vR (gR h4 105 p1 + 3) 944] h4 (fun h5 =>
      (0 ≤ (p1 : Int)) ∧ ((p1 : Int) < 2) ∧ (zty 110 (gR h5 105 p1) h5) ∧ ((1 : Int) = 0 ∨ (1 : Int) = 1) ∧ ∀ h6 : zH, h6 = sI h5 (gR h5 105 p1) 0 1 →
      ((1 : Int) = 0 ∨ (1 : Int) = 1) ∧ Q (some (vI 1)) h6))) ∧
      (¬ (p1 < 2) →
      ((0 : Int) = 0 ∨ (0 : Int) = 1) ∧ Q (some (vI 0)) h))) : zK 27 0 [vR 2 100, vI p1] [] h Q :=
  zwpe_W (cd := c27) rfl [] 400 0 _ _ _ _ k
-- 28 SyntaxRules.again(I)Z
set_option maxRecDepth 100000 in
set_option maxHeartbeats 4000000 in
theorem k28_0 (p1 : Int) (h : zH) (Q : Option zV → zH → Prop) (k :
  (p1 < 0 →
    ((0 : Int) = 0 ∨ (0 : Int) = 1) ∧ Q (some (vI 0)) h) ∧
    (¬ (p1 < 0) →
    (2 ≤ p1 →
      ((0 : Int) = 0 ∨ (0 : Int) = 1) ∧ Q (some (vI 0)) h) ∧
      (¬ (2 ≤ p1) →
      (0 ≤ (p1 : Int)) ∧ ((p1 : Int) < 2) ∧ (zty 110 (gR h 105 p1) h) ∧ (¬ (gI h (gR h 105 p1) 0) = 0 →
        (zty 102 (gR h 2 1) h) ∧ (0 ≤ (p1 : Int)) ∧ ((p1 : Int) < 2) ∧ (zty 110 (gR h 105 p1) h) ∧ zC1 50 [vR (gR h 2 1) 102, vR (gR h 105 p1 + 1) 101] h (fun v4 h4 =>
        (0 ≤ (p1 : Int)) ∧ ((p1 : Int) < 2) ∧ (zty 110 (gR h4 105 p1) h4) ∧ zC0 42 [vR (gR h4 105 p1 + 3) 944, vR 53 944] h4 (fun h5 =>
        zC0 137 [vR 87 109] h5 (fun h6 =>
        ((1 : Int) = 0 ∨ (1 : Int) = 1) ∧ Q (some (vI 1)) h6)))) ∧
        (¬ (¬ (gI h (gR h 105 p1) 0) = 0) →
        ((0 : Int) = 0 ∨ (0 : Int) = 1) ∧ Q (some (vI 0)) h)))) : zK 28 0 [vR 2 100, vI p1] [] h Q :=
  zwpe_W (cd := c28) rfl [] 400 0 _ _ _ _ k
-- 29 SyntaxRules.count(I)I
set_option maxRecDepth 100000 in
set_option maxHeartbeats 4000000 in
theorem k29_0 (p1 : Int) (h : zH) (Q : Option zV → zH → Prop) (k :
  (p1 = (0 : Int) →
    (zty 102 (gR h 2 1) h) ∧ Q (some (vI (gI h (gR h 2 1) 14))) h) ∧
    (¬ (p1 = (0 : Int)) →
    (p1 = ((0 : Int) + 1) →
    (zty 102 (gR h 2 1) h) ∧ Q (some (vI (gI h (gR h 2 1 + 1) 1))) h) ∧
    (¬ (p1 = ((0 : Int) + 1)) →
    (p1 = ((0 : Int) + 1 + 1) →
    (zty 102 (gR h 2 1) h) ∧ Q (some (vI (gI h (gR h 2 1) 15))) h) ∧
    (¬ (p1 = ((0 : Int) + 1 + 1)) →
    (p1 = ((0 : Int) + 1 + 1 + 1) →
    zC1 35 [vR 2 100] h (fun v4 h4 =>
    Q (some (vI v4)) h4)) ∧
    (¬ (p1 = ((0 : Int) + 1 + 1 + 1)) →
    (p1 = ((0 : Int) + 1 + 1 + 1 + 1) →
    Q (some (vI (gI h 3 1))) h) ∧
    (¬ (p1 = ((0 : Int) + 1 + 1 + 1 + 1)) →
    (p1 = ((0 : Int) + 1 + 1 + 1 + 1 + 1) →
    Q (some (vI (gI h 87 0))) h) ∧
    (¬ (p1 = ((0 : Int) + 1 + 1 + 1 + 1 + 1)) →
    (p1 = ((0 : Int) + 1 + 1 + 1 + 1 + 1 + 1) →
    (zty 102 (gR h 2 1) h) ∧ zC1 65 [vR (gR h 2 1) 102] h (fun v3 h3 =>
    Q (some (vI v3)) h3)) ∧
    (¬ (p1 = ((0 : Int) + 1 + 1 + 1 + 1 + 1 + 1)) →
    Q (some (vI ((-1)))) h)))))))) : zK 29 0 [vR 2 100, vI p1] [] h Q :=
  zwpe_W (cd := c29) rfl [] 400 0 _ _ _ _ k
-- 30 SyntaxRules.isNode(I)Z
set_option maxRecDepth 100000 in
set_option maxHeartbeats 4000000 in
theorem k30_0 (p1 : Int) (h : zH) (Q : Option zV → zH → Prop) (k :
  (p1 < 0 →
    ((0 : Int) = 0 ∨ (0 : Int) = 1) ∧ Q (some (vI 0)) h) ∧
    (¬ (p1 < 0) →
    (zty 102 (gR h 2 1) h) ∧ ((gI h (gR h 2 1) 14) ≤ p1 →
      ((0 : Int) = 0 ∨ (0 : Int) = 1) ∧ Q (some (vI 0)) h) ∧
      (¬ ((gI h (gR h 2 1) 14) ≤ p1) →
      ((1 : Int) = 0 ∨ (1 : Int) = 1) ∧ Q (some (vI 1)) h))) : zK 30 0 [vR 2 100, vI p1] [] h Q :=
  zwpe_W (cd := c30) rfl [] 400 0 _ _ _ _ k
-- 31 SyntaxRules.isRule(I)Z
set_option maxRecDepth 100000 in
set_option maxHeartbeats 4000000 in
theorem k31_0 (p1 : Int) (h : zH) (Q : Option zV → zH → Prop) (k :
  (p1 < 0 →
    ((0 : Int) = 0 ∨ (0 : Int) = 1) ∧ Q (some (vI 0)) h) ∧
    (¬ (p1 < 0) →
    (8 ≤ p1 →
      ((0 : Int) = 0 ∨ (0 : Int) = 1) ∧ Q (some (vI 0)) h) ∧
      (¬ (8 ≤ p1) →
      (0 ≤ (p1 : Int)) ∧ ((p1 : Int) < 8) ∧ (((gR h 53 p1) : Nat) = 0 →
        ((0 : Int) = 0 ∨ (0 : Int) = 1) ∧ Q (some (vI 0)) h) ∧
        (¬ (((gR h 53 p1) : Nat) = 0) →
        ((1 : Int) = 0 ∨ (1 : Int) = 1) ∧ Q (some (vI 1)) h)))) : zK 31 0 [vR 2 100, vI p1] [] h Q :=
  zwpe_W (cd := c31) rfl [] 400 0 _ _ _ _ k
-- 32 SyntaxRules.isWay(I)Z
set_option maxRecDepth 100000 in
set_option maxHeartbeats 4000000 in
theorem k32_0 (p0 : Int) (h : zH) (Q : Option zV → zH → Prop) (k :
  (p0 = 0 →
    ((1 : Int) = 0 ∨ (1 : Int) = 1) ∧ Q (some (vI 1)) h) ∧
    (¬ (p0 = 0) →
    (¬ p0 = 1 →
      ((0 : Int) = 0 ∨ (0 : Int) = 1) ∧ Q (some (vI 0)) h) ∧
      (¬ (¬ p0 = 1) →
      ((1 : Int) = 0 ∨ (1 : Int) = 1) ∧ Q (some (vI 1)) h))) : zK 32 0 [vI p0] [] h Q :=
  zwpe_W (cd := c32) rfl [] 400 0 _ _ _ _ k
-- 33 SyntaxRules.isLetter(I)Z
set_option maxRecDepth 100000 in
set_option maxHeartbeats 4000000 in
theorem k33_0 (p0 : Int) (h : zH) (Q : Option zV → zH → Prop) (k :
  (p0 < 97 →
    ((0 : Int) = 0 ∨ (0 : Int) = 1) ∧ Q (some (vI 0)) h) ∧
    (¬ (p0 < 97) →
    (122 < p0 →
      ((0 : Int) = 0 ∨ (0 : Int) = 1) ∧ Q (some (vI 0)) h) ∧
      (¬ (122 < p0) →
      ((1 : Int) = 0 ∨ (1 : Int) = 1) ∧ Q (some (vI 1)) h))) : zK 33 0 [vI p0] [] h Q :=
  zwpe_W (cd := c33) rfl [] 400 0 _ _ _ _ k
-- 34 SyntaxRules.isDigit(I)Z
set_option maxRecDepth 100000 in
set_option maxHeartbeats 4000000 in
theorem k34_0 (p0 : Int) (h : zH) (Q : Option zV → zH → Prop) (k :
  (p0 < 48 →
    ((0 : Int) = 0 ∨ (0 : Int) = 1) ∧ Q (some (vI 0)) h) ∧
    (¬ (p0 < 48) →
    (57 < p0 →
      ((0 : Int) = 0 ∨ (0 : Int) = 1) ∧ Q (some (vI 0)) h) ∧
      (¬ (57 < p0) →
      ((1 : Int) = 0 ∨ (1 : Int) = 1) ∧ Q (some (vI 1)) h))) : zK 34 0 [vI p0] [] h Q :=
  zwpe_W (cd := c34) rfl [] 400 0 _ _ _ _ k
-- 35 SyntaxRules.ruleCount()I
set_option maxRecDepth 100000 in
set_option maxHeartbeats 4000000 in
theorem k35_0 (h : zH) (Q : Option zV → zH → Prop) (k :
  zK 35 4 [vR 2 100, vI 0, vI 0] [] h Q) : zK 35 0 [vR 2 100, vU, vU] [] h Q :=
  zwpe_W (cd := c35) rfl [4] 400 0 _ _ _ _ k
set_option maxRecDepth 100000 in
set_option maxHeartbeats 4000000 in
theorem k35_4 (l1 : Int) (l2 : Int) (h : zH) (Q : Option zV → zH → Prop) (k :
  (8 ≤ l2 →
    Q (some (vI l1)) h) ∧
    (¬ (8 ≤ l2) →
    (0 ≤ (l2 : Int)) ∧ ((l2 : Int) < 8) ∧ (¬ ((gR h 53 l2) : Nat) = 0 →
      (inR (l1 + 1)) ∧ (inR (l2 + 1)) ∧ zK 35 4 [vR 2 100, vI (l1 + 1), vI (l2 + 1)] [] h Q) ∧
      (¬ (¬ ((gR h 53 l2) : Nat) = 0) →
      (inR (l1 + 0)) ∧ (inR (l2 + 1)) ∧ zK 35 4 [vR 2 100, vI (l1 + 0), vI (l2 + 1)] [] h Q))) : zK 35 4 [vR 2 100, vI l1, vI l2] [] h Q :=
  zwpe_W (cd := c35) rfl [4] 400 4 _ _ _ _ k
-- 36 SyntaxRules.testsOfAll()I
set_option maxRecDepth 100000 in
set_option maxHeartbeats 4000000 in
theorem k36_0 (h : zH) (Q : Option zV → zH → Prop) (k :
  zK 36 4 [vR 2 100, vI 0, vI 0] [] h Q) : zK 36 0 [vR 2 100, vU, vU] [] h Q :=
  zwpe_W (cd := c36) rfl [4] 400 0 _ _ _ _ k
set_option maxRecDepth 100000 in
set_option maxHeartbeats 4000000 in
theorem k36_4 (l1 : Int) (l2 : Int) (h : zH) (Q : Option zV → zH → Prop) (k :
  (8 ≤ l2 →
    Q (some (vI l1)) h) ∧
    (¬ (8 ≤ l2) →
    (0 ≤ (l2 : Int)) ∧ ((l2 : Int) < 8) ∧ (¬ ((gR h 53 l2) : Nat) = 0 →
      (0 ≤ (l2 : Int)) ∧ ((l2 : Int) < 8) ∧ (zty 103 (gR h 53 l2) h) ∧ zC1 105 [vR 63 106, vR (gR h 53 l2) 103] h (fun v2 h2 =>
      (inR (l1 + v2)) ∧ (inR (l2 + 1)) ∧ zK 36 4 [vR 2 100, vI (l1 + v2), vI (l2 + 1)] [] h2 Q)) ∧
      (¬ (¬ ((gR h 53 l2) : Nat) = 0) →
      (inR (l1 + 0)) ∧ (inR (l2 + 1)) ∧ zK 36 4 [vR 2 100, vI (l1 + 0), vI (l2 + 1)] [] h Q))) : zK 36 4 [vR 2 100, vI l1, vI l2] [] h Q :=
  zwpe_W (cd := c36) rfl [4] 400 4 _ _ _ _ k
-- 37 SyntaxRules.turn()V
set_option maxRecDepth 100000 in
set_option maxHeartbeats 4000000 in
theorem k37_0 (h : zH) (Q : Option zV → zH → Prop) (k :
  (zty 102 (gR h 2 1) h) ∧ (zty 102 (gR h 2 2) h) ∧ ∀ h3 : zH, h3 = sR h 2 1 (gR h 2 2) →
  ∀ h4 : zH, h4 = sR h3 2 2 (gR h 2 1) →
  Q none h4) : zK 37 0 [vR 2 100, vU] [] h Q :=
  zwpe_W (cd := c37) rfl [] 400 0 _ _ _ _ k
-- 38 SyntaxRules.writtenAlone(II)LSyntaxRules$Writer;
set_option maxRecDepth 100000 in
set_option maxHeartbeats 4000000 in
theorem k38_0 (p1 : Int) (p2 : Int) (h : zH) (Q : Option zV → zH → Prop) (k :
  zC0 123 [vR 82 108, vI p2] h (fun h3 =>
  (zty 102 (gR h3 2 1) h3) ∧ zC0 39 [vR 2 100, vR (gR h3 2 1) 102, vI p1] h3 (fun h4 =>
  Q (some (vR 82 108)) h4))) : zK 38 0 [vR 2 100, vI p1, vI p2] [] h Q :=
  zwpe_W (cd := c38) rfl [] 400 0 _ _ _ _ k
-- 39 SyntaxRules.writeEdit(LSyntaxRules$Source;I)V
set_option maxRecDepth 100000 in
set_option maxHeartbeats 4000000 in
theorem k39_0 (p1 : Nat) (p2 : Int) (h : zH) (Q : Option zV → zH → Prop) (k :
  zC1 121 [vR 77 107, vI p2] h (fun v4 h4 =>
  (0 ≤ (v4 : Int)) ∧ ((v4 : Int) < 8) ∧ (((gR h4 53 v4) : Nat) = 0 →
    Q none h4) ∧
    (¬ (((gR h4 53 v4) : Nat) = 0) →
    (0 ≤ (p2 : Int)) ∧ ((p2 : Int) < 60) ∧ (zty 103 (gR h4 53 v4) h4) ∧ zC1 91 [vR 56 105, vR p1 102, vR (gR h4 53 v4) 103, vI (gI h4 78 p2)] h4 (fun v5 h5 =>
    (v5 = 0 →
      Q none h5) ∧
      (¬ (v5 = 0) →
      (0 ≤ (p2 : Int)) ∧ ((p2 : Int) < 60) ∧ (zty 103 (gR h4 53 v4) h5) ∧ zC0 126 [vR 82 108, vR p1 102, vR (gR h4 53 v4) 103, vI (gI h5 78 p2), vR 56 105] h5 (fun h6 =>
      Q none h6)))))) : zK 39 0 [vR 2 100, vR p1 102, vI p2, vU] [] h Q :=
  zwpe_W (cd := c39) rfl [] 400 0 _ _ _ _ k
-- 40 SyntaxRules.step(LSyntaxRules$Source;LSyntaxRules$Source;I)I
set_option maxRecDepth 100000 in
set_option maxHeartbeats 4000000 in
theorem k40_0 (p1 : Nat) (p2 : Nat) (p3 : Int) (h : zH) (Q : Option zV → zH → Prop) (k :
  zC0 118 [vR 77 107, vR p1 102, vR 53 944, vI p3, vR 56 105] h (fun h10 =>
  (¬ (gI h10 77 0) = 0 →
    zC0 123 [vR 82 108, vI ((-1))] h10 (fun h11 =>
    zK 40 43 [vR 2 100, vR p1 102, vR p2 102, vI p3, vI 0, vI 0] [] h11 Q)) ∧
    (¬ (¬ (gI h10 77 0) = 0) →
    Q (some (vI 0)) h10))) : zK 40 0 [vR 2 100, vR p1 102, vR p2 102, vI p3, vU, vU] [] h Q :=
  zwpe_W (cd := c40) rfl [43] 400 0 _ _ _ _ k
set_option maxRecDepth 100000 in
set_option maxHeartbeats 4000000 in
theorem k40_43 (a1 : Nat) (a2 : Nat) (u3 : zV) (l4 : Int) (l5 : Int) (h : zH) (Q : Option zV → zH → Prop) (k :
  ((gI h 77 0) ≤ l5 →
    zC0 131 [vR 82 108, vR (a1 + 1) 101, vI l4, vI (gI h (a1 + 1) 1)] h (fun h12 =>
    (300 < (gI h12 82 0) →
      Q (some (vI ((-3)))) h12) ∧
      (¬ (300 < (gI h12 82 0)) →
      zCr 124 101 [vR 82 108] h12 (fun v13 h13 =>
      zC1 50 [vR a2 102, vR v13 101] h13 (fun v14 h14 =>
      (¬ v14 = 0 →
        Q (some (vI (gI h14 77 0))) h14) ∧
        (¬ (¬ v14 = 0) →
        Q (some (vI ((-3)))) h14)))))) ∧
    (¬ ((gI h 77 0) ≤ l5) →
    (0 ≤ (l5 : Int)) ∧ ((l5 : Int) < 60) ∧ (0 ≤ (gI h 78 l5 : Int)) ∧ ((gI h 78 l5 : Int) < 60) ∧ zC0 131 [vR 82 108, vR (a1 + 1) 101, vI l4, vI (gI h (a1 + 7) (gI h 78 l5))] h (fun h15 =>
    zC0 125 [vR 82 108] h15 (fun h16 =>
    zC0 39 [vR 2 100, vR a1 102, vI l5] h16 (fun h17 =>
    zC0 125 [vR 82 108] h17 (fun h18 =>
    (0 ≤ (l5 : Int)) ∧ ((l5 : Int) < 60) ∧ (0 ≤ (gI h18 78 l5 : Int)) ∧ ((gI h18 78 l5 : Int) < 60) ∧ (inR (l5 + 1)) ∧ zK 40 43 [vR 2 100, vR a1 102, vR a2 102, u3, vI (gI h18 (a1 + 8) (gI h18 78 l5)), vI (l5 + 1)] [] h18 Q)))))) : zK 40 43 [vR 2 100, vR a1 102, vR a2 102, u3, vI l4, vI l5] [] h Q :=
  zwpe_W (cd := c40) rfl [43] 400 43 _ _ _ _ k
-- 41 SyntaxRules.wasSeen(LSyntaxRules$Text;I)Z
set_option maxRecDepth 100000 in
set_option maxHeartbeats 4000000 in
theorem k41_0 (p1 : Nat) (p2 : Int) (h : zH) (Q : Option zV → zH → Prop) (k :
  zK 41 2 [vR 2 100, vR p1 101, vI p2, vI 0] [] h Q) : zK 41 0 [vR 2 100, vR p1 101, vI p2, vU] [] h Q :=
  zwpe_W (cd := c41) rfl [2] 400 0 _ _ _ _ k
set_option maxRecDepth 100000 in
set_option maxHeartbeats 4000000 in
theorem k41_2 (a1 : Nat) (l2 : Int) (l3 : Int) (h : zH) (Q : Option zV → zH → Prop) (k :
  (l2 < l3 →
    ((0 : Int) = 0 ∨ (0 : Int) = 1) ∧ Q (some (vI 0)) h) ∧
    (¬ (l2 < l3) →
    (0 ≤ (l3 : Int)) ∧ ((l3 : Int) < 6) ∧ (zty 101 (gR h 106 l3) h) ∧ zC1 46 [vR (gR h 106 l3) 101, vR a1 101] h (fun v2 h2 =>
    (v2 = 0 →
      (inR (l3 + 1)) ∧ zK 41 2 [vR 2 100, vR a1 101, vI l2, vI (l3 + 1)] [] h2 Q) ∧
      (¬ (v2 = 0) →
      ((1 : Int) = 0 ∨ (1 : Int) = 1) ∧ Q (some (vI 1)) h2)))) : zK 41 2 [vR 2 100, vR a1 101, vI l2, vI l3] [] h Q :=
  zwpe_W (cd := c41) rfl [2] 400 2 _ _ _ _ k
-- 42 SyntaxRules.copyRules([LSyntaxRules$Rule;[LSyntaxRules$Rule;)V
set_option maxRecDepth 100000 in
set_option maxHeartbeats 4000000 in
theorem k42_0 (p0 : Nat) (p1 : Nat) (h : zH) (Q : Option zV → zH → Prop) (k :
  zK 42 2 [vR p0 944, vR p1 944, vI 0] [] h Q) : zK 42 0 [vR p0 944, vR p1 944, vU] [] h Q :=
  zwpe_W (cd := c42) rfl [2] 400 0 _ _ _ _ k
set_option maxRecDepth 100000 in
set_option maxHeartbeats 4000000 in
theorem k42_2 (a0 : Nat) (a1 : Nat) (l2 : Int) (h : zH) (Q : Option zV → zH → Prop) (k :
  (8 ≤ l2 →
    Q none h) ∧
    (¬ (8 ≤ l2) →
    (0 ≤ (l2 : Int)) ∧ ((l2 : Int) < 8) ∧ (0 ≤ (l2 : Int)) ∧ ((l2 : Int) < 8) ∧ ((gR h a0 l2 : Nat) = 0 ∨ zty 103 (gR h a0 l2) h) ∧ ∀ h2 : zH, h2 = sR h a1 l2 (gR h a0 l2) →
    (inR (l2 + 1)) ∧ zK 42 2 [vR a0 944, vR a1 944, vI (l2 + 1)] [] h2 Q)) : zK 42 2 [vR a0 944, vR a1 944, vI l2] [] h Q :=
  zwpe_W (cd := c42) rfl [2] 400 2 _ _ _ _ k
-- 43 SyntaxRules$Text.<init>()V
set_option maxRecDepth 100000 in
set_option maxHeartbeats 4000000 in
theorem k43_0 (a0 : Nat) (h : zH) (Q : Option zV → zH → Prop) (k :
  (¬ (a0 : Nat) = 0) ∧ (0 ≤ (300 : Int) ∧ (300 : Int) ≤ 10000) ∧ ∀ h3 : zH, h3 = nw h 40 ((300 : Int)).toNat →
  (zty 121 a0 h3) ∧ (gR (sR h3 a0 0 (nx h)) a0 0 = a0 + 1) ∧ (zty 30140 (a0 + 1) (sR h3 a0 0 (nx h))) ∧ ∀ h4 : zH, h4 = sT (sR h3 a0 0 (nx h)) a0 1 →
  Q none h4) : zK 43 0 [vR a0 0] [] h Q :=
  zwpe_W (cd := c43) rfl [] 400 0 _ _ _ _ k
-- 44 SyntaxRules$Text.at(I)I
set_option maxRecDepth 100000 in
set_option maxHeartbeats 4000000 in
theorem k44_0 (a0 : Nat) (p1 : Int) (h : zH) (Q : Option zV → zH → Prop) (k :
  (p1 < 0 →
    Q (some (vI ((-1)))) h) ∧
    (¬ (p1 < 0) →
    ((gI h a0 1) ≤ p1 →
      Q (some (vI ((-1)))) h) ∧
      (¬ ((gI h a0 1) ≤ p1) →
      (0 ≤ (p1 : Int)) ∧ ((p1 : Int) < 300) ∧ Q (some (vI (gI h (a0 + 1) p1))) h))) : zK 44 0 [vR a0 101, vI p1] [] h Q :=
  zwpe_W (cd := c44) rfl [] 400 0 _ _ _ _ k
-- 45 SyntaxRules$Text.take(LSyntaxRules$Text;)V
set_option maxRecDepth 100000 in
set_option maxHeartbeats 4000000 in
theorem k45_0 (a0 : Nat) (p1 : Nat) (h : zH) (Q : Option zV → zH → Prop) (k :
  (0 ≤ (0 : Int)) ∧ (0 ≤ (0 : Int)) ∧ (0 ≤ (gI h p1 1 : Int)) ∧ ((0 : Int) + (gI h p1 1) ≤ Int.ofNat (ln h (p1 + 1))) ∧ ((0 : Int) + (gI h p1 1) ≤ Int.ofNat (ln h (a0 + 1))) ∧ ∀ h3 : zH, h3 = cp h (p1 + 1) 0 (a0 + 1) 0 (gI h p1 1) →
  ∀ h4 : zH, h4 = sI h3 a0 1 (gI h3 p1 1) →
  Q none h4) : zK 45 0 [vR a0 101, vR p1 101] [] h Q :=
  zwpe_W (cd := c45) rfl [] 400 0 _ _ _ _ k
-- 46 SyntaxRules$Text.same(LSyntaxRules$Text;)Z
set_option maxRecDepth 100000 in
set_option maxHeartbeats 4000000 in
theorem k46_0 (a0 : Nat) (p1 : Nat) (h : zH) (Q : Option zV → zH → Prop) (k :
  (¬ (gI h a0 1) = (gI h p1 1) →
    ((0 : Int) = 0 ∨ (0 : Int) = 1) ∧ Q (some (vI 0)) h) ∧
    (¬ (¬ (gI h a0 1) = (gI h p1 1)) →
    zC1 47 [vR a0 101, vI 0, vR p1 101, vI 0, vI (gI h a0 1)] h (fun v2 h2 =>
    (v2 = 0 →
      ((0 : Int) = 0 ∨ (0 : Int) = 1) ∧ Q (some (vI 0)) h2) ∧
      (¬ (v2 = 0) →
      ((1 : Int) = 0 ∨ (1 : Int) = 1) ∧ Q (some (vI 1)) h2)))) : zK 46 0 [vR a0 101, vR p1 101] [] h Q :=
  zwpe_W (cd := c46) rfl [] 400 0 _ _ _ _ k
-- 47 SyntaxRules$Text.sameRow(ILSyntaxRules$Text;II)Z
set_option maxRecDepth 100000 in
set_option maxHeartbeats 4000000 in
theorem k47_0 (a0 : Nat) (p1 : Int) (p2 : Nat) (p3 : Int) (p4 : Int) (h : zH) (Q : Option zV → zH → Prop) (k :
  (p1 < 0 →
    ((0 : Int) = 0 ∨ (0 : Int) = 1) ∧ Q (some (vI 0)) h) ∧
    (¬ (p1 < 0) →
    (p3 < 0 →
      ((0 : Int) = 0 ∨ (0 : Int) = 1) ∧ Q (some (vI 0)) h) ∧
      (¬ (p3 < 0) →
      (inR (p1 + p4)) ∧ ((gI h a0 1) < (p1 + p4) →
        ((0 : Int) = 0 ∨ (0 : Int) = 1) ∧ Q (some (vI 0)) h) ∧
        (¬ ((gI h a0 1) < (p1 + p4)) →
        (inR (p3 + p4)) ∧ ((p3 + p4) ≤ (gI h p2 1) →
          zK 47 35 [vR a0 101, vI p1, vR p2 101, vI p3, vI p4, vI 0] [] h Q) ∧
          (¬ ((p3 + p4) ≤ (gI h p2 1)) →
          ((0 : Int) = 0 ∨ (0 : Int) = 1) ∧ Q (some (vI 0)) h))))) : zK 47 0 [vR a0 101, vI p1, vR p2 101, vI p3, vI p4, vU] [] h Q :=
  zwpe_W (cd := c47) rfl [35] 400 0 _ _ _ _ k
set_option maxRecDepth 100000 in
set_option maxHeartbeats 4000000 in
theorem k47_35 (a0 : Nat) (l1 : Int) (a2 : Nat) (l3 : Int) (l4 : Int) (l5 : Int) (h : zH) (Q : Option zV → zH → Prop) (k :
  (l4 ≤ l5 →
    ((1 : Int) = 0 ∨ (1 : Int) = 1) ∧ Q (some (vI 1)) h) ∧
    (¬ (l4 ≤ l5) →
    (inR (l1 + l5)) ∧ (0 ≤ (l1 + l5 : Int)) ∧ ((l1 + l5 : Int) < 300) ∧ (inR (l3 + l5)) ∧ (0 ≤ (l3 + l5 : Int)) ∧ ((l3 + l5 : Int) < 300) ∧ ((gI h (a0 + 1) (l1 + l5)) = (gI h (a2 + 1) (l3 + l5)) →
      (inR (l5 + 1)) ∧ zK 47 35 [vR a0 101, vI l1, vR a2 101, vI l3, vI l4, vI (l5 + 1)] [] h Q) ∧
      (¬ ((gI h (a0 + 1) (l1 + l5)) = (gI h (a2 + 1) (l3 + l5))) →
      ((0 : Int) = 0 ∨ (0 : Int) = 1) ∧ Q (some (vI 0)) h))) : zK 47 35 [vR a0 101, vI l1, vR a2 101, vI l3, vI l4, vI l5] [] h Q :=
  zwpe_W (cd := c47) rfl [35] 400 35 _ _ _ _ k
-- 48 SyntaxRules$Text.rowAt(IZI)I
set_option maxRecDepth 100000 in
set_option maxHeartbeats 4000000 in
theorem k48_0 (a0 : Nat) (p1 : Int) (p2 : Int) (p3 : Int) (h : zH) (Q : Option zV → zH → Prop) (k :
  zK 48 3 [vR a0 101, vI p1, vI p2, vI p3, vI 0, vU] [] h Q) : zK 48 0 [vR a0 101, vI p1, vI p2, vI p3, vU, vU] [] h Q :=
  zwpe_W (cd := c48) rfl [3] 400 0 _ _ _ _ k
set_option maxRecDepth 100000 in
set_option maxHeartbeats 4000000 in
theorem k48_3 (a0 : Nat) (l1 : Int) (l2 : Int) (l3 : Int) (l4 : Int) (u5 : zV) (h : zH) (Q : Option zV → zH → Prop) (k :
  (l3 < l4 →
    (inR (l3 + 1)) ∧ Q (some (vI (l3 + 1))) h) ∧
    (¬ (l3 < l4) →
    (inR (l1 + l4)) ∧ zC1 44 [vR a0 101, vI (l1 + l4)] h (fun v4 h4 =>
    (l2 = 0 →
      zC1 34 [vI v4] h4 (fun v5 h5 =>
      (¬ v5 = 0 →
        (inR (l4 + 1)) ∧ zK 48 3 [vR a0 101, vI l1, vI l2, vI l3, vI (l4 + 1), vI v4] [] h5 Q) ∧
        (¬ (¬ v5 = 0) →
        Q (some (vI l4)) h5))) ∧
      (¬ (l2 = 0) →
      zC1 33 [vI v4] h4 (fun v6 h6 =>
      (¬ v6 = 0 →
        (inR (l4 + 1)) ∧ zK 48 3 [vR a0 101, vI l1, vI l2, vI l3, vI (l4 + 1), vI v4] [] h6 Q) ∧
        (¬ (¬ v6 = 0) →
        Q (some (vI l4)) h6)))))) : zK 48 3 [vR a0 101, vI l1, vI l2, vI l3, vI l4, u5] [] h Q :=
  zwpe_W (cd := c48) rfl [3] 400 3 _ _ _ _ k
-- 49 SyntaxRules$Source.<init>()V
set_option maxRecDepth 100000 in
set_option maxHeartbeats 4000000 in
theorem k49_0 (a0 : Nat) (h : zH) (Q : Option zV → zH → Prop) (k :
  (¬ (a0 : Nat) = 0) ∧ ∀ h30 : zH, h30 = nw h 21 2 →
  (¬ (nx h : Nat) = 0) ∧ zC0 43 [vR (nx h) 0] h30 (fun h31 =>
  (zty 122 a0 h31) ∧ ∀ h32 : zH, h32 = sR h31 a0 0 (nx h) →
  (0 ≤ (60 : Int) ∧ (60 : Int) ≤ 10000) ∧ ∀ h33 : zH, h33 = nw h32 40 ((60 : Int)).toNat →
  (zty 122 a0 h33) ∧ ∀ h34 : zH, h34 = sR h33 a0 1 (nx h32) →
  (0 ≤ (60 : Int) ∧ (60 : Int) ≤ 10000) ∧ ∀ h35 : zH, h35 = nw h34 40 ((60 : Int)).toNat →
  (zty 122 a0 h35) ∧ ∀ h36 : zH, h36 = sR h35 a0 2 (nx h34) →
  (0 ≤ (60 : Int) ∧ (60 : Int) ≤ 10000) ∧ ∀ h37 : zH, h37 = nw h36 40 ((60 : Int)).toNat →
  (zty 122 a0 h37) ∧ ∀ h38 : zH, h38 = sR h37 a0 3 (nx h36) →
  (0 ≤ (60 : Int) ∧ (60 : Int) ≤ 10000) ∧ ∀ h39 : zH, h39 = nw h38 40 ((60 : Int)).toNat →
  (zty 122 a0 h39) ∧ ∀ h40 : zH, h40 = sR h39 a0 4 (nx h38) →
  (0 ≤ (60 : Int) ∧ (60 : Int) ≤ 10000) ∧ ∀ h41 : zH, h41 = nw h40 40 ((60 : Int)).toNat →
  (zty 122 a0 h41) ∧ ∀ h42 : zH, h42 = sR h41 a0 5 (nx h40) →
  (0 ≤ (60 : Int) ∧ (60 : Int) ≤ 10000) ∧ ∀ h43 : zH, h43 = nw h42 40 ((60 : Int)).toNat →
  (zty 122 a0 h43) ∧ ∀ h44 : zH, h44 = sR h43 a0 6 (nx h42) →
  (0 ≤ (60 : Int) ∧ (60 : Int) ≤ 10000) ∧ ∀ h45 : zH, h45 = nw h44 40 ((60 : Int)).toNat →
  (zty 122 a0 h45) ∧ ∀ h46 : zH, h46 = sR h45 a0 7 (nx h44) →
  (0 ≤ (60 : Int) ∧ (60 : Int) ≤ 10000) ∧ ∀ h47 : zH, h47 = nw h46 40 ((60 : Int)).toNat →
  (zty 122 a0 h47) ∧ ∀ h48 : zH, h48 = sR h47 a0 8 (nx h46) →
  (0 ≤ (60 : Int) ∧ (60 : Int) ≤ 10000) ∧ ∀ h49 : zH, h49 = nw h48 40 ((60 : Int)).toNat →
  (zty 122 a0 h49) ∧ ∀ h50 : zH, h50 = sR h49 a0 9 (nx h48) →
  (0 ≤ (60 : Int) ∧ (60 : Int) ≤ 10000) ∧ ∀ h51 : zH, h51 = nw h50 40 ((60 : Int)).toNat →
  (zty 122 a0 h51) ∧ ∀ h52 : zH, h52 = sR h51 a0 10 (nx h50) →
  (0 ≤ (150 : Int) ∧ (150 : Int) ≤ 10000) ∧ ∀ h53 : zH, h53 = nw h52 40 ((150 : Int)).toNat →
  (zty 122 a0 h53) ∧ ∀ h54 : zH, h54 = sR h53 a0 11 (nx h52) →
  (0 ≤ (150 : Int) ∧ (150 : Int) ≤ 10000) ∧ ∀ h55 : zH, h55 = nw h54 40 ((150 : Int)).toNat →
  (zty 122 a0 h55) ∧ ∀ h56 : zH, h56 = sR h55 a0 12 (nx h54) →
  (0 ≤ (150 : Int) ∧ (150 : Int) ≤ 10000) ∧ ∀ h57 : zH, h57 = nw h56 40 ((150 : Int)).toNat →
  (zty 122 a0 h57) ∧ (gR (sR h57 a0 13 (nx h56)) a0 0 = a0 + 1) ∧ (zty 101 (a0 + 1) (sR h57 a0 13 (nx h56))) ∧ (gR (sR h57 a0 13 (nx h56)) a0 1 = a0 + 3) ∧ (zty 6140 (a0 + 3) (sR h57 a0 13 (nx h56))) ∧ (gR (sR h57 a0 13 (nx h56)) a0 2 = a0 + 4) ∧ (zty 6140 (a0 + 4) (sR h57 a0 13 (nx h56))) ∧ (gR (sR h57 a0 13 (nx h56)) a0 3 = a0 + 5) ∧ (zty 6140 (a0 + 5) (sR h57 a0 13 (nx h56))) ∧ (gR (sR h57 a0 13 (nx h56)) a0 4 = a0 + 6) ∧ (zty 6140 (a0 + 6) (sR h57 a0 13 (nx h56))) ∧ (gR (sR h57 a0 13 (nx h56)) a0 5 = a0 + 7) ∧ (zty 6140 (a0 + 7) (sR h57 a0 13 (nx h56))) ∧ (gR (sR h57 a0 13 (nx h56)) a0 6 = a0 + 8) ∧ (zty 6140 (a0 + 8) (sR h57 a0 13 (nx h56))) ∧ (gR (sR h57 a0 13 (nx h56)) a0 7 = a0 + 9) ∧ (zty 6140 (a0 + 9) (sR h57 a0 13 (nx h56))) ∧ (gR (sR h57 a0 13 (nx h56)) a0 8 = a0 + 10) ∧ (zty 6140 (a0 + 10) (sR h57 a0 13 (nx h56))) ∧ (gR (sR h57 a0 13 (nx h56)) a0 9 = a0 + 11) ∧ (zty 6140 (a0 + 11) (sR h57 a0 13 (nx h56))) ∧ (gR (sR h57 a0 13 (nx h56)) a0 10 = a0 + 12) ∧ (zty 6140 (a0 + 12) (sR h57 a0 13 (nx h56))) ∧ (gR (sR h57 a0 13 (nx h56)) a0 11 = a0 + 13) ∧ (zty 15140 (a0 + 13) (sR h57 a0 13 (nx h56))) ∧ (gR (sR h57 a0 13 (nx h56)) a0 12 = a0 + 14) ∧ (zty 15140 (a0 + 14) (sR h57 a0 13 (nx h56))) ∧ (gR (sR h57 a0 13 (nx h56)) a0 13 = a0 + 15) ∧ (zty 15140 (a0 + 15) (sR h57 a0 13 (nx h56))) ∧ ∀ h58 : zH, h58 = sT (sR h57 a0 13 (nx h56)) a0 2 →
  Q none h58)) : zK 49 0 [vR a0 0] [] h Q :=
  zwpe_W (cd := c49) rfl [] 400 0 _ _ _ _ k
-- 50 SyntaxRules$Source.read(LSyntaxRules$Text;)Z
set_option maxRecDepth 100000 in
set_option maxHeartbeats 4000000 in
theorem k50_0 (a0 : Nat) (p1 : Nat) (h : zH) (Q : Option zV → zH → Prop) (k :
  zC0 45 [vR (a0 + 1) 101, vR p1 101] h (fun h8 =>
  ∀ h9 : zH, h9 = sI h8 a0 14 0 →
  ∀ h10 : zH, h10 = sI h9 a0 15 0 →
  ∀ h11 : zH, h11 = sI h10 a0 16 0 →
  ∀ h12 : zH, h12 = sI h11 a0 17 (-1) →
  zC1 51 [vR a0 102] h12 (fun v13 h13 =>
  (v13 = 0 →
    ((0 : Int) = 0 ∨ (0 : Int) = 1) ∧ Q (some (vI 0)) h13) ∧
    (¬ (v13 = 0) →
    zC1 58 [vR a0 102] h13 (fun v14 h14 =>
    (v14 = 0 →
      ((0 : Int) = 0 ∨ (0 : Int) = 1) ∧ Q (some (vI 0)) h14) ∧
      (¬ (v14 = 0) →
      (¬ (gI h14 a0 16) = (gI h14 (a0 + 1) 1) →
        ((0 : Int) = 0 ∨ (0 : Int) = 1) ∧ Q (some (vI 0)) h14) ∧
        (¬ (¬ (gI h14 a0 16) = (gI h14 (a0 + 1) 1)) →
        ((1 : Int) = 0 ∨ (1 : Int) = 1) ∧ Q (some (vI 1)) h14))))))) : zK 50 0 [vR a0 102, vR p1 101] [] h Q :=
  zwpe_W (cd := c50) rfl [] 400 0 _ _ _ _ k
-- 51 SyntaxRules$Source.readTerm()Z
set_option maxRecDepth 100000 in
set_option maxHeartbeats 4000000 in
theorem k51_0 (a0 : Nat) (h : zH) (Q : Option zV → zH → Prop) (k :
  zK 51 2 [vR a0 102, vI 0, vU] [] h Q) : zK 51 0 [vR a0 102, vU, vU] [] h Q :=
  zwpe_W (cd := c51) rfl [2, 51] 400 0 _ _ _ _ k
set_option maxRecDepth 100000 in
set_option maxHeartbeats 4000000 in
theorem k51_2 (a0 : Nat) (l1 : Int) (u2 : zV) (h : zH) (Q : Option zV → zH → Prop) (k :
  (300 < l1 →
    ((0 : Int) = 0 ∨ (0 : Int) = 1) ∧ Q (some (vI 0)) h) ∧
    (¬ (300 < l1) →
    zC1 58 [vR a0 102] h (fun v5 h5 =>
    (¬ v5 = 0 →
      zC1 44 [vR (a0 + 1) 101, vI (gI h5 a0 16)] h5 (fun v6 h6 =>
      (¬ v6 = 41 →
        zK 51 51 [vR a0 102, vI l1, vI v6] [] h6 Q) ∧
        (¬ (¬ v6 = 41) →
        ((gI h6 a0 17) = (-1) →
          zK 51 51 [vR a0 102, vI l1, vI v6] [] h6 Q) ∧
          (¬ ((gI h6 a0 17) = (-1)) →
          zC0 52 [vR a0 102] h6 (fun h7 =>
          (¬ (gI h7 a0 17) = (-1) →
            (inR (l1 + 1)) ∧ zK 51 2 [vR a0 102, vI (l1 + 1), vI v6] [] h7 Q) ∧
            (¬ (¬ (gI h7 a0 17) = (-1)) →
            ((1 : Int) = 0 ∨ (1 : Int) = 1) ∧ Q (some (vI 1)) h7)))))) ∧
      (¬ (¬ v5 = 0) →
      ((0 : Int) = 0 ∨ (0 : Int) = 1) ∧ Q (some (vI 0)) h5)))) : zK 51 2 [vR a0 102, vI l1, u2] [] h Q :=
  zwpe_W (cd := c51) rfl [2, 51] 400 2 _ _ _ _ k
set_option maxRecDepth 100000 in
set_option maxHeartbeats 4000000 in
theorem k51_51 (a0 : Nat) (l1 : Int) (l2 : Int) (h : zH) (Q : Option zV → zH → Prop) (k :
  zC1 53 [vR a0 102, vI l2] h (fun v8 h8 =>
  (¬ v8 = 0 →
    (¬ (gI h8 a0 17) = (-1) →
      (inR (l1 + 1)) ∧ zK 51 2 [vR a0 102, vI (l1 + 1), vI l2] [] h8 Q) ∧
      (¬ (¬ (gI h8 a0 17) = (-1)) →
      ((1 : Int) = 0 ∨ (1 : Int) = 1) ∧ Q (some (vI 1)) h8)) ∧
    (¬ (¬ v8 = 0) →
    ((0 : Int) = 0 ∨ (0 : Int) = 1) ∧ Q (some (vI 0)) h8))) : zK 51 51 [vR a0 102, vI l1, vI l2] [] h Q :=
  zwpe_W (cd := c51) rfl [2, 51] 400 51 _ _ _ _ k
-- 52 SyntaxRules$Source.closeTerm()V
set_option maxRecDepth 100000 in
set_option maxHeartbeats 4000000 in
theorem k52_0 (a0 : Nat) (h : zH) (Q : Option zV → zH → Prop) (k :
  (inR ((gI h a0 16) + 1)) ∧ ∀ h4 : zH, h4 = sI h a0 16 ((gI h a0 16) + 1) →
  zC1 57 [vR a0 102, vI (gI h4 a0 17)] h4 (fun v5 h5 =>
  (0 ≤ (gI h4 a0 17 : Int)) ∧ ((gI h4 a0 17 : Int) < 60) ∧ ∀ h6 : zH, h6 = sI h5 a0 17 (gI h5 (a0 + 4) (gI h4 a0 17)) →
  Q none h6)) : zK 52 0 [vR a0 102, vU] [] h Q :=
  zwpe_W (cd := c52) rfl [] 400 0 _ _ _ _ k
-- 53 SyntaxRules$Source.readNode(I)Z
set_option maxRecDepth 100000 in
set_option maxHeartbeats 4000000 in
theorem k53_0 (a0 : Nat) (p1 : Int) (h : zH) (Q : Option zV → zH → Prop) (k :
  (¬ p1 = 40 →
    zK 53 11 [vR a0 102, vI p1, vU, vU, vU] [vI 0] h Q) ∧
    (¬ (¬ p1 = 40) →
    zK 53 11 [vR a0 102, vI p1, vU, vU, vU] [vI 1] h Q)) : zK 53 0 [vR a0 102, vI p1, vU, vU, vU] [] h Q :=
  zwpe_W (cd := c53) rfl [11, 32, 60] 400 0 _ _ _ _ k
set_option maxRecDepth 100000 in
set_option maxHeartbeats 4000000 in
theorem k53_11 (a0 : Nat) (l1 : Int) (u2 : zV) (u3 : zV) (u4 : zV) (s0 : Int) (h : zH) (Q : Option zV → zH → Prop) (k :
  zC1 33 [vI l1] h (fun v13 h13 =>
  (¬ s0 = 0 →
    zK 53 32 [vR a0 102, vI l1, vI s0, vI v13, u4] [] h13 Q) ∧
    (¬ (¬ s0 = 0) →
    (¬ v13 = 0 →
      zK 53 32 [vR a0 102, vI l1, vI s0, vI v13, u4] [] h13 Q) ∧
      (¬ (¬ v13 = 0) →
      zC1 34 [vI l1] h13 (fun v14 h14 =>
      (v14 = 0 →
        ((0 : Int) = 0 ∨ (0 : Int) = 1) ∧ Q (some (vI 0)) h14) ∧
        (¬ (v14 = 0) →
        zK 53 32 [vR a0 102, vI l1, vI s0, vI v13, u4] [] h14 Q)))))) : zK 53 11 [vR a0 102, vI l1, u2, u3, u4] [vI s0] h Q :=
  zwpe_W (cd := c53) rfl [11, 32, 60] 400 11 _ _ _ _ k
set_option maxRecDepth 100000 in
set_option maxHeartbeats 4000000 in
theorem k53_32 (a0 : Nat) (u1 : zV) (l2 : Int) (l3 : Int) (u4 : zV) (h : zH) (Q : Option zV → zH → Prop) (k :
  zC1 54 [vR a0 102, vI l2] h (fun v15 h15 =>
  (¬ v15 = 0 →
    (l2 = 0 →
      (l3 = 0 →
        zK 53 60 [vR a0 102, u1, vI l2, vI l3, u4] [vI 0, vR a0 102] h15 Q) ∧
        (¬ (l3 = 0) →
        zK 53 60 [vR a0 102, u1, vI l2, vI l3, u4] [vI 1, vR a0 102] h15 Q)) ∧
      (¬ (l2 = 0) →
      zK 53 60 [vR a0 102, u1, vI l2, vI l3, u4] [vI 2, vR a0 102] h15 Q)) ∧
    (¬ (¬ v15 = 0) →
    ((0 : Int) = 0 ∨ (0 : Int) = 1) ∧ Q (some (vI 0)) h15))) : zK 53 32 [vR a0 102, u1, vI l2, vI l3, u4] [] h Q :=
  zwpe_W (cd := c53) rfl [11, 32, 60] 400 32 _ _ _ _ k
set_option maxRecDepth 100000 in
set_option maxHeartbeats 4000000 in
theorem k53_60 (a0 : Nat) (u1 : zV) (l2 : Int) (l3 : Int) (u4 : zV) (s0 : Int) (b1 : Nat) (h : zH) (Q : Option zV → zH → Prop) (k :
  zC1 55 [vR b1 102, vI s0] h (fun v16 h16 =>
  (¬ l2 = 0 →
    (inR ((gI h16 a0 16) + 1)) ∧ ∀ h17 : zH, h17 = sI h16 a0 16 ((gI h16 a0 16) + 1) →
    ∀ h18 : zH, h18 = sI h17 a0 17 v16 →
    zC1 58 [vR a0 102] h18 (fun v19 h19 =>
    (v19 = 0 →
      ((0 : Int) = 0 ∨ (0 : Int) = 1) ∧ Q (some (vI 0)) h19) ∧
      (¬ (v19 = 0) →
      zC1 44 [vR (a0 + 1) 101, vI (gI h19 a0 16)] h19 (fun v20 h20 =>
      zC1 33 [vI v20] h20 (fun v21 h21 =>
      (v21 = 0 →
        ((0 : Int) = 0 ∨ (0 : Int) = 1) ∧ Q (some (vI 0)) h21) ∧
        (¬ (v21 = 0) →
        zC1 56 [vR a0 102, vI v16, vI 1] h21 (fun v22 h22 =>
        (v22 = 0 →
          ((0 : Int) = 0 ∨ (0 : Int) = 1) ∧ Q (some (vI 0)) h22) ∧
          (¬ (v22 = 0) →
          ((1 : Int) = 0 ∨ (1 : Int) = 1) ∧ Q (some (vI 1)) h22)))))))) ∧
    (¬ (¬ l2 = 0) →
    zC1 56 [vR a0 102, vI v16, vI l3] h16 (fun v23 h23 =>
    (v23 = 0 →
      ((0 : Int) = 0 ∨ (0 : Int) = 1) ∧ Q (some (vI 0)) h23) ∧
      (¬ (v23 = 0) →
      zC1 57 [vR a0 102, vI v16] h23 (fun v24 h24 =>
      (v24 = 0 →
        ((0 : Int) = 0 ∨ (0 : Int) = 1) ∧ Q (some (vI 0)) h24) ∧
        (¬ (v24 = 0) →
        ((1 : Int) = 0 ∨ (1 : Int) = 1) ∧ Q (some (vI 1)) h24))))))) : zK 53 60 [vR a0 102, u1, vI l2, vI l3, u4] [vI s0, vR b1 102] h Q :=
  zwpe_W (cd := c53) rfl [11, 32, 60] 400 60 _ _ _ _ k
-- 54 SyntaxRules$Source.hasRoom(Z)Z
set_option maxRecDepth 100000 in
set_option maxHeartbeats 4000000 in
theorem k54_0 (a0 : Nat) (p1 : Int) (h : zH) (Q : Option zV → zH → Prop) (k :
  (¬ (gI h a0 14) = 60 →
    ((gI h a0 17) = (-1) →
      ((1 : Int) = 0 ∨ (1 : Int) = 1) ∧ Q (some (vI 1)) h) ∧
      (¬ ((gI h a0 17) = (-1)) →
      (0 ≤ (gI h a0 17 : Int)) ∧ ((gI h a0 17 : Int) < 60) ∧ (12 ≤ (gI h (a0 + 6) (gI h a0 17)) →
        ((0 : Int) = 0 ∨ (0 : Int) = 1) ∧ Q (some (vI 0)) h) ∧
        (¬ (12 ≤ (gI h (a0 + 6) (gI h a0 17))) →
        (p1 = 0 →
          ((1 : Int) = 0 ∨ (1 : Int) = 1) ∧ Q (some (vI 1)) h) ∧
          (¬ (p1 = 0) →
          (0 ≤ (gI h a0 17 : Int)) ∧ ((gI h a0 17 : Int) < 60) ∧ (inR ((gI h (a0 + 10) (gI h a0 17)) + 1)) ∧ (((gI h (a0 + 10) (gI h a0 17)) + 1) = 16 →
            ((0 : Int) = 0 ∨ (0 : Int) = 1) ∧ Q (some (vI 0)) h) ∧
            (¬ (((gI h (a0 + 10) (gI h a0 17)) + 1) = 16) →
            ((1 : Int) = 0 ∨ (1 : Int) = 1) ∧ Q (some (vI 1)) h))))) ∧
    (¬ (¬ (gI h a0 14) = 60) →
    ((0 : Int) = 0 ∨ (0 : Int) = 1) ∧ Q (some (vI 0)) h)) : zK 54 0 [vR a0 102, vI p1] [] h Q :=
  zwpe_W (cd := c54) rfl [] 400 0 _ _ _ _ k
-- 55 SyntaxRules$Source.addNode(I)I
set_option maxRecDepth 100000 in
set_option maxHeartbeats 4000000 in
theorem k55_0 (a0 : Nat) (p1 : Int) (h : zH) (Q : Option zV → zH → Prop) (k :
  (inR ((gI h a0 14) + 1)) ∧ ∀ h11 : zH, h11 = sI h a0 14 ((gI h a0 14) + 1) →
  (0 ≤ (gI h a0 14 : Int)) ∧ ((gI h a0 14 : Int) < 60) ∧ ∀ h12 : zH, h12 = sI h11 (a0 + 3) (gI h a0 14) p1 →
  (0 ≤ (gI h a0 14 : Int)) ∧ ((gI h a0 14 : Int) < 60) ∧ ∀ h13 : zH, h13 = sI h12 (a0 + 4) (gI h a0 14) (gI h12 a0 17) →
  (0 ≤ (gI h a0 14 : Int)) ∧ ((gI h a0 14 : Int) < 60) ∧ ∀ h14 : zH, h14 = sI h13 (a0 + 6) (gI h a0 14) 0 →
  (0 ≤ (gI h a0 14 : Int)) ∧ ((gI h a0 14 : Int) < 60) ∧ ∀ h15 : zH, h15 = sI h14 (a0 + 7) (gI h a0 14) (gI h14 a0 16) →
  (¬ (gI h15 a0 17) = (-1) →
    (0 ≤ (gI h15 a0 17 : Int)) ∧ ((gI h15 a0 17 : Int) < 60) ∧ (0 ≤ (gI h a0 14 : Int)) ∧ ((gI h a0 14 : Int) < 60) ∧ ∀ h16 : zH, h16 = sI h15 (a0 + 5) (gI h a0 14) (gI h15 (a0 + 6) (gI h15 a0 17)) →
    (0 ≤ (gI h16 a0 17 : Int)) ∧ ((gI h16 a0 17 : Int) < 60) ∧ (inR ((gI h16 (a0 + 10) (gI h16 a0 17)) + 1)) ∧ (0 ≤ (gI h a0 14 : Int)) ∧ ((gI h a0 14 : Int) < 60) ∧ ∀ h17 : zH, h17 = sI h16 (a0 + 10) (gI h a0 14) ((gI h16 (a0 + 10) (gI h16 a0 17)) + 1) →
    (0 ≤ (gI h17 a0 17 : Int)) ∧ ((gI h17 a0 17 : Int) < 60) ∧ (inR ((gI h17 (a0 + 6) (gI h17 a0 17)) + 1)) ∧ (0 ≤ (gI h17 a0 17 : Int)) ∧ ((gI h17 a0 17 : Int) < 60) ∧ ∀ h18 : zH, h18 = sI h17 (a0 + 6) (gI h17 a0 17) ((gI h17 (a0 + 6) (gI h17 a0 17)) + 1) →
    Q (some (vI (gI h a0 14))) h18) ∧
    (¬ (¬ (gI h15 a0 17) = (-1)) →
    (0 ≤ (gI h a0 14 : Int)) ∧ ((gI h a0 14 : Int) < 60) ∧ ∀ h19 : zH, h19 = sI h15 (a0 + 5) (gI h a0 14) (-1) →
    (0 ≤ (gI h a0 14 : Int)) ∧ ((gI h a0 14 : Int) < 60) ∧ ∀ h20 : zH, h20 = sI h19 (a0 + 10) (gI h a0 14) 0 →
    Q (some (vI (gI h a0 14))) h20)) : zK 55 0 [vR a0 102, vI p1, vU] [] h Q :=
  zwpe_W (cd := c55) rfl [] 400 0 _ _ _ _ k
-- 56 SyntaxRules$Source.readName(IZ)Z
set_option maxRecDepth 100000 in
set_option maxHeartbeats 4000000 in
theorem k56_0 (a0 : Nat) (p1 : Int) (p2 : Int) (h : zH) (Q : Option zV → zH → Prop) (k :
  (p2 = 0 →
    zK 56 10 [vR a0 102, vI p1, vI p2, vU, vU] [vI 4] h Q) ∧
    (¬ (p2 = 0) →
    zK 56 10 [vR a0 102, vI p1, vI p2, vU, vU] [vI 8] h Q)) : zK 56 0 [vR a0 102, vI p1, vI p2, vU, vU] [] h Q :=
  zwpe_W (cd := c56) rfl [10] 400 0 _ _ _ _ k
set_option maxRecDepth 100000 in
set_option maxHeartbeats 4000000 in
theorem k56_10 (a0 : Nat) (l1 : Int) (l2 : Int) (u3 : zV) (u4 : zV) (s0 : Int) (h : zH) (Q : Option zV → zH → Prop) (k :
  zC1 48 [vR (a0 + 1) 101, vI (gI h a0 16), vI l2, vI s0] h (fun v6 h6 =>
  (v6 ≤ s0 →
    (0 ≤ (l1 : Int)) ∧ ((l1 : Int) < 60) ∧ ∀ h7 : zH, h7 = sI h6 (a0 + 11) l1 (gI h6 a0 16) →
    (0 ≤ (l1 : Int)) ∧ ((l1 : Int) < 60) ∧ ∀ h8 : zH, h8 = sI h7 (a0 + 12) l1 v6 →
    (inR ((gI h8 a0 16) + v6)) ∧ ∀ h9 : zH, h9 = sI h8 a0 16 ((gI h8 a0 16) + v6) →
    ((1 : Int) = 0 ∨ (1 : Int) = 1) ∧ Q (some (vI 1)) h9) ∧
    (¬ (v6 ≤ s0) →
    (inR ((gI h6 a0 16) + s0)) ∧ ∀ h10 : zH, h10 = sI h6 a0 16 ((gI h6 a0 16) + s0) →
    ((0 : Int) = 0 ∨ (0 : Int) = 1) ∧ Q (some (vI 0)) h10))) : zK 56 10 [vR a0 102, vI l1, vI l2, u3, u4] [vI s0] h Q :=
  zwpe_W (cd := c56) rfl [10] 400 10 _ _ _ _ k
-- 57 SyntaxRules$Source.finishNode(I)Z
set_option maxRecDepth 100000 in
set_option maxHeartbeats 4000000 in
theorem k57_0 (a0 : Nat) (p1 : Int) (h : zH) (Q : Option zV → zH → Prop) (k :
  (0 ≤ (p1 : Int)) ∧ ((p1 : Int) < 60) ∧ ∀ h3 : zH, h3 = sI h (a0 + 8) p1 (gI h a0 16) →
  (inR ((gI h3 a0 14) - p1)) ∧ (0 ≤ (p1 : Int)) ∧ ((p1 : Int) < 60) ∧ ∀ h4 : zH, h4 = sI h3 (a0 + 9) p1 ((gI h3 a0 14) - p1) →
  ((1 : Int) = 0 ∨ (1 : Int) = 1) ∧ Q (some (vI 1)) h4) : zK 57 0 [vR a0 102, vI p1] [] h Q :=
  zwpe_W (cd := c57) rfl [] 400 0 _ _ _ _ k
-- 58 SyntaxRules$Source.passLayout()Z
set_option maxRecDepth 100000 in
set_option maxHeartbeats 4000000 in
theorem k58_0 (a0 : Nat) (h : zH) (Q : Option zV → zH → Prop) (k :
  zK 58 2 [vR a0 102, vI 0, vU] [] h Q) : zK 58 0 [vR a0 102, vU, vU] [] h Q :=
  zwpe_W (cd := c58) rfl [2] 400 0 _ _ _ _ k
set_option maxRecDepth 100000 in
set_option maxHeartbeats 4000000 in
theorem k58_2 (a0 : Nat) (l1 : Int) (u2 : zV) (h : zH) (Q : Option zV → zH → Prop) (k :
  (300 < l1 →
    ((1 : Int) = 0 ∨ (1 : Int) = 1) ∧ Q (some (vI 1)) h) ∧
    (¬ (300 < l1) →
    zC1 44 [vR (a0 + 1) 101, vI (gI h a0 16)] h (fun v5 h5 =>
    (v5 = 32 →
      (inR ((gI h5 a0 16) + 1)) ∧ ∀ h6 : zH, h6 = sI h5 a0 16 ((gI h5 a0 16) + 1) →
      (inR (l1 + 1)) ∧ zK 58 2 [vR a0 102, vI (l1 + 1), vI v5] [] h6 Q) ∧
      (¬ (v5 = 32) →
      (¬ v5 = 10 →
        (v5 = 91 →
          zC1 59 [vR a0 102] h5 (fun v7 h7 =>
          (¬ v7 = 0 →
            (inR (l1 + 1)) ∧ zK 58 2 [vR a0 102, vI (l1 + 1), vI v5] [] h7 Q) ∧
            (¬ (¬ v7 = 0) →
            ((0 : Int) = 0 ∨ (0 : Int) = 1) ∧ Q (some (vI 0)) h7))) ∧
          (¬ (v5 = 91) →
          ((1 : Int) = 0 ∨ (1 : Int) = 1) ∧ Q (some (vI 1)) h5)) ∧
        (¬ (¬ v5 = 10) →
        (inR ((gI h5 a0 16) + 1)) ∧ ∀ h8 : zH, h8 = sI h5 a0 16 ((gI h5 a0 16) + 1) →
        (inR (l1 + 1)) ∧ zK 58 2 [vR a0 102, vI (l1 + 1), vI v5] [] h8 Q))))) : zK 58 2 [vR a0 102, vI l1, u2] [] h Q :=
  zwpe_W (cd := c58) rfl [2] 400 2 _ _ _ _ k
-- 59 SyntaxRules$Source.passComment()Z
set_option maxRecDepth 100000 in
set_option maxHeartbeats 4000000 in
theorem k59_0 (a0 : Nat) (h : zH) (Q : Option zV → zH → Prop) (k :
  (inR ((gI h a0 16) + 1)) ∧ zK 59 7 [vR a0 102, vI ((gI h a0 16) + 1), vU] [] h Q) : zK 59 0 [vR a0 102, vU, vU] [] h Q :=
  zwpe_W (cd := c59) rfl [7] 400 0 _ _ _ _ k
set_option maxRecDepth 100000 in
set_option maxHeartbeats 4000000 in
theorem k59_7 (a0 : Nat) (l1 : Int) (u2 : zV) (h : zH) (Q : Option zV → zH → Prop) (k :
  ((gI h (a0 + 1) 1) ≤ l1 →
    ∀ h5 : zH, h5 = sI h a0 16 (gI h (a0 + 1) 1) →
    ((0 : Int) = 0 ∨ (0 : Int) = 1) ∧ Q (some (vI 0)) h5) ∧
    (¬ ((gI h (a0 + 1) 1) ≤ l1) →
    (0 ≤ (l1 : Int)) ∧ ((l1 : Int) < 300) ∧ (¬ (gI h (a0 + 1 + 1) l1) = 93 →
      ((gI h (a0 + 1 + 1) l1) = 10 →
        (inR (l1 + 1)) ∧ zK 59 7 [vR a0 102, vI (l1 + 1), vI (gI h (a0 + 1 + 1) l1)] [] h Q) ∧
        (¬ ((gI h (a0 + 1 + 1) l1) = 10) →
        ((gI h (a0 + 1 + 1) l1) < 32 →
          ∀ h6 : zH, h6 = sI h a0 16 l1 →
          ((0 : Int) = 0 ∨ (0 : Int) = 1) ∧ Q (some (vI 0)) h6) ∧
          (¬ ((gI h (a0 + 1 + 1) l1) < 32) →
          ((gI h (a0 + 1 + 1) l1) ≤ 126 →
            (inR (l1 + 1)) ∧ zK 59 7 [vR a0 102, vI (l1 + 1), vI (gI h (a0 + 1 + 1) l1)] [] h Q) ∧
            (¬ ((gI h (a0 + 1 + 1) l1) ≤ 126) →
            ∀ h7 : zH, h7 = sI h a0 16 l1 →
            ((0 : Int) = 0 ∨ (0 : Int) = 1) ∧ Q (some (vI 0)) h7)))) ∧
      (¬ (¬ (gI h (a0 + 1 + 1) l1) = 93) →
      (inR (l1 + 1)) ∧ zC0 60 [vR a0 102, vI (l1 + 1)] h (fun h8 =>
      ((1 : Int) = 0 ∨ (1 : Int) = 1) ∧ Q (some (vI 1)) h8)))) : zK 59 7 [vR a0 102, vI l1, u2] [] h Q :=
  zwpe_W (cd := c59) rfl [7] 400 7 _ _ _ _ k
-- 60 SyntaxRules$Source.addComment(I)V
set_option maxRecDepth 100000 in
set_option maxHeartbeats 4000000 in
theorem k60_0 (a0 : Nat) (p1 : Int) (h : zH) (Q : Option zV → zH → Prop) (k :
  (150 ≤ (gI h a0 15) →
    ∀ h7 : zH, h7 = sI h a0 16 p1 →
    Q none h7) ∧
    (¬ (150 ≤ (gI h a0 15)) →
    (0 ≤ (gI h a0 15 : Int)) ∧ ((gI h a0 15 : Int) < 150) ∧ ∀ h8 : zH, h8 = sI h (a0 + 13) (gI h a0 15) (gI h a0 16) →
    (inR (p1 - (gI h8 a0 16))) ∧ (0 ≤ (gI h8 a0 15 : Int)) ∧ ((gI h8 a0 15 : Int) < 150) ∧ ∀ h9 : zH, h9 = sI h8 (a0 + 14) (gI h8 a0 15) (p1 - (gI h8 a0 16)) →
    (0 ≤ (gI h9 a0 15 : Int)) ∧ ((gI h9 a0 15 : Int) < 150) ∧ ∀ h10 : zH, h10 = sI h9 (a0 + 15) (gI h9 a0 15) (gI h9 a0 17) →
    (inR ((gI h10 a0 15) + 1)) ∧ ∀ h11 : zH, h11 = sI h10 a0 15 ((gI h10 a0 15) + 1) →
    ∀ h12 : zH, h12 = sI h11 a0 16 p1 →
    Q none h12)) : zK 60 0 [vR a0 102, vI p1] [] h Q :=
  zwpe_W (cd := c60) rfl [] 400 0 _ _ _ _ k
-- 61 SyntaxRules$Source.sameNode(II)Z
set_option maxRecDepth 100000 in
set_option maxHeartbeats 4000000 in
theorem k61_0 (a0 : Nat) (p1 : Int) (p2 : Int) (h : zH) (Q : Option zV → zH → Prop) (k :
  (0 ≤ (p1 : Int)) ∧ ((p1 : Int) < 60) ∧ (0 ≤ (p2 : Int)) ∧ ((p2 : Int) < 60) ∧ (¬ (gI h (a0 + 9) p1) = (gI h (a0 + 9) p2) →
    ((0 : Int) = 0 ∨ (0 : Int) = 1) ∧ Q (some (vI 0)) h) ∧
    (¬ (¬ (gI h (a0 + 9) p1) = (gI h (a0 + 9) p2)) →
    (0 ≤ (p1 : Int)) ∧ ((p1 : Int) < 60) ∧ zC1 62 [vR a0 102, vI p1, vI p2, vI (gI h (a0 + 9) p1)] h (fun v2 h2 =>
    (v2 = 0 →
      ((0 : Int) = 0 ∨ (0 : Int) = 1) ∧ Q (some (vI 0)) h2) ∧
      (¬ (v2 = 0) →
      ((1 : Int) = 0 ∨ (1 : Int) = 1) ∧ Q (some (vI 1)) h2)))) : zK 61 0 [vR a0 102, vI p1, vI p2] [] h Q :=
  zwpe_W (cd := c61) rfl [] 400 0 _ _ _ _ k
-- 62 SyntaxRules$Source.sameRow(III)Z
set_option maxRecDepth 100000 in
set_option maxHeartbeats 4000000 in
theorem k62_0 (a0 : Nat) (p1 : Int) (p2 : Int) (p3 : Int) (h : zH) (Q : Option zV → zH → Prop) (k :
  zK 62 3 [vR a0 102, vI p1, vI p2, vI p3, vI 0, vU, vU] [] h Q) : zK 62 0 [vR a0 102, vI p1, vI p2, vI p3, vU, vU, vU] [] h Q :=
  zwpe_W (cd := c62) rfl [3] 400 0 _ _ _ _ k
set_option maxRecDepth 100000 in
set_option maxHeartbeats 4000000 in
theorem k62_3 (a0 : Nat) (l1 : Int) (l2 : Int) (l3 : Int) (l4 : Int) (u5 : zV) (u6 : zV) (h : zH) (Q : Option zV → zH → Prop) (k :
  (l3 ≤ l4 →
    ((1 : Int) = 0 ∨ (1 : Int) = 1) ∧ Q (some (vI 1)) h) ∧
    (¬ (l3 ≤ l4) →
    (l1 = l2 →
      ((1 : Int) = 0 ∨ (1 : Int) = 1) ∧ Q (some (vI 1)) h) ∧
      (¬ (l1 = l2) →
      (inR (l1 + l4)) ∧ (inR (l2 + l4)) ∧ (0 ≤ (l1 + l4 : Int)) ∧ ((l1 + l4 : Int) < 60) ∧ (0 ≤ (l2 + l4 : Int)) ∧ ((l2 + l4 : Int) < 60) ∧ (¬ (gI h (a0 + 3) (l1 + l4)) = (gI h (a0 + 3) (l2 + l4)) →
        ((0 : Int) = 0 ∨ (0 : Int) = 1) ∧ Q (some (vI 0)) h) ∧
        (¬ (¬ (gI h (a0 + 3) (l1 + l4)) = (gI h (a0 + 3) (l2 + l4))) →
        (0 ≤ (l1 + l4 : Int)) ∧ ((l1 + l4 : Int) < 60) ∧ (0 ≤ (l2 + l4 : Int)) ∧ ((l2 + l4 : Int) < 60) ∧ (¬ (gI h (a0 + 6) (l1 + l4)) = (gI h (a0 + 6) (l2 + l4)) →
          ((0 : Int) = 0 ∨ (0 : Int) = 1) ∧ Q (some (vI 0)) h) ∧
          (¬ (¬ (gI h (a0 + 6) (l1 + l4)) = (gI h (a0 + 6) (l2 + l4))) →
          (0 ≤ (l1 + l4 : Int)) ∧ ((l1 + l4 : Int) < 60) ∧ (0 ≤ (l2 + l4 : Int)) ∧ ((l2 + l4 : Int) < 60) ∧ (¬ (gI h (a0 + 12) (l1 + l4)) = (gI h (a0 + 12) (l2 + l4)) →
            ((0 : Int) = 0 ∨ (0 : Int) = 1) ∧ Q (some (vI 0)) h) ∧
            (¬ (¬ (gI h (a0 + 12) (l1 + l4)) = (gI h (a0 + 12) (l2 + l4))) →
            (0 ≤ (l1 + l4 : Int)) ∧ ((l1 + l4 : Int) < 60) ∧ (0 ≤ (l2 + l4 : Int)) ∧ ((l2 + l4 : Int) < 60) ∧ (0 ≤ (l1 + l4 : Int)) ∧ ((l1 + l4 : Int) < 60) ∧ zC1 47 [vR (a0 + 1) 101, vI (gI h (a0 + 11) (l1 + l4)), vR (a0 + 1) 101, vI (gI h (a0 + 11) (l2 + l4)), vI (gI h (a0 + 12) (l1 + l4))] h (fun v2 h2 =>
            (¬ v2 = 0 →
              (inR (l4 + 1)) ∧ zK 62 3 [vR a0 102, vI l1, vI l2, vI l3, vI (l4 + 1), vI (l1 + l4), vI (l2 + l4)] [] h2 Q) ∧
              (¬ (¬ v2 = 0) →
              ((0 : Int) = 0 ∨ (0 : Int) = 1) ∧ Q (some (vI 0)) h2)))))))) : zK 62 3 [vR a0 102, vI l1, vI l2, vI l3, vI l4, u5, u6] [] h Q :=
  zwpe_W (cd := c62) rfl [3] 400 3 _ _ _ _ k
-- 63 SyntaxRules$Source.isNamed(ILSyntaxRules$Rule;I)Z
set_option maxRecDepth 100000 in
set_option maxHeartbeats 4000000 in
theorem k63_0 (a0 : Nat) (p1 : Int) (p2 : Nat) (p3 : Int) (h : zH) (Q : Option zV → zH → Prop) (k :
  (0 ≤ (p1 : Int)) ∧ ((p1 : Int) < 60) ∧ (0 ≤ (p3 : Int)) ∧ ((p3 : Int) < 40) ∧ (¬ (gI h (a0 + 12) p1) = (gI h (p2 + 14) p3) →
    ((0 : Int) = 0 ∨ (0 : Int) = 1) ∧ Q (some (vI 0)) h) ∧
    (¬ (¬ (gI h (a0 + 12) p1) = (gI h (p2 + 14) p3)) →
    (0 ≤ (p1 : Int)) ∧ ((p1 : Int) < 60) ∧ (0 ≤ (p3 : Int)) ∧ ((p3 : Int) < 40) ∧ zC1 47 [vR (a0 + 1) 101, vI (gI h (a0 + 11) p1), vR (p2 + 1) 101, vI (gI h (p2 + 13) p3), vI (gI h (a0 + 12) p1)] h (fun v2 h2 =>
    (v2 = 0 →
      ((0 : Int) = 0 ∨ (0 : Int) = 1) ∧ Q (some (vI 0)) h2) ∧
      (¬ (v2 = 0) →
      ((1 : Int) = 0 ∨ (1 : Int) = 1) ∧ Q (some (vI 1)) h2)))) : zK 63 0 [vR a0 102, vI p1, vR p2 103, vI p3, vU] [] h Q :=
  zwpe_W (cd := c63) rfl [] 400 0 _ _ _ _ k
-- 64 SyntaxRules$Source.partOf(II)I
set_option maxRecDepth 100000 in
set_option maxHeartbeats 4000000 in
theorem k64_0 (a0 : Nat) (p1 : Int) (p2 : Int) (h : zH) (Q : Option zV → zH → Prop) (k :
  (p2 < 0 →
    Q (some (vI ((-1)))) h) ∧
    (¬ (p2 < 0) →
    (0 ≤ (p1 : Int)) ∧ ((p1 : Int) < 60) ∧ (p2 < (gI h (a0 + 6) p1) →
      (inR (p1 + 1)) ∧ zK 64 23 [vR a0 102, vI p1, vI p2, vI (p1 + 1), vI 0] [] h Q) ∧
      (¬ (p2 < (gI h (a0 + 6) p1)) →
      Q (some (vI ((-1)))) h))) : zK 64 0 [vR a0 102, vI p1, vI p2, vU, vU] [] h Q :=
  zwpe_W (cd := c64) rfl [23] 400 0 _ _ _ _ k
set_option maxRecDepth 100000 in
set_option maxHeartbeats 4000000 in
theorem k64_23 (a0 : Nat) (u1 : zV) (l2 : Int) (l3 : Int) (l4 : Int) (h : zH) (Q : Option zV → zH → Prop) (k :
  (l2 ≤ l4 →
    Q (some (vI l3)) h) ∧
    (¬ (l2 ≤ l4) →
    (0 ≤ (l3 : Int)) ∧ ((l3 : Int) < 60) ∧ (inR (l3 + (gI h (a0 + 9) l3))) ∧ (inR (l4 + 1)) ∧ zK 64 23 [vR a0 102, u1, vI l2, vI (l3 + (gI h (a0 + 9) l3)), vI (l4 + 1)] [] h Q)) : zK 64 23 [vR a0 102, u1, vI l2, vI l3, vI l4] [] h Q :=
  zwpe_W (cd := c64) rfl [23] 400 23 _ _ _ _ k
-- 65 SyntaxRules$Source.mostWithin()I
set_option maxRecDepth 100000 in
set_option maxHeartbeats 4000000 in
theorem k65_0 (a0 : Nat) (h : zH) (Q : Option zV → zH → Prop) (k :
  zK 65 4 [vR a0 102, vI 0, vI 0] [] h Q) : zK 65 0 [vR a0 102, vU, vU] [] h Q :=
  zwpe_W (cd := c65) rfl [4] 400 0 _ _ _ _ k
set_option maxRecDepth 100000 in
set_option maxHeartbeats 4000000 in
theorem k65_4 (a0 : Nat) (l1 : Int) (l2 : Int) (h : zH) (Q : Option zV → zH → Prop) (k :
  ((gI h a0 14) ≤ l2 →
    (inR (l1 + 1)) ∧ Q (some (vI (l1 + 1))) h) ∧
    (¬ ((gI h a0 14) ≤ l2) →
    (0 ≤ (l2 : Int)) ∧ ((l2 : Int) < 60) ∧ (inR (l2 + 1)) ∧ zK 65 4 [vR a0 102, vI (iMax l1 (gI h (a0 + 10) l2)), vI (l2 + 1)] [] h Q)) : zK 65 4 [vR a0 102, vI l1, vI l2] [] h Q :=
  zwpe_W (cd := c65) rfl [4] 400 4 _ _ _ _ k
-- 66 SyntaxRules$Rule.<init>()V
set_option maxRecDepth 100000 in
set_option maxHeartbeats 4000000 in
theorem k66_0 (a0 : Nat) (h : zH) (Q : Option zV → zH → Prop) (k :
  (¬ (a0 : Nat) = 0) ∧ ∀ h28 : zH, h28 = nw h 21 2 →
  (¬ (nx h : Nat) = 0) ∧ zC0 43 [vR (nx h) 0] h28 (fun h29 =>
  (zty 123 a0 h29) ∧ ∀ h30 : zH, h30 = sR h29 a0 0 (nx h) →
  (0 ≤ (40 : Int) ∧ (40 : Int) ≤ 10000) ∧ ∀ h31 : zH, h31 = nw h30 40 ((40 : Int)).toNat →
  (zty 123 a0 h31) ∧ ∀ h32 : zH, h32 = sR h31 a0 1 (nx h30) →
  (0 ≤ (40 : Int) ∧ (40 : Int) ≤ 10000) ∧ ∀ h33 : zH, h33 = nw h32 40 ((40 : Int)).toNat →
  (zty 123 a0 h33) ∧ ∀ h34 : zH, h34 = sR h33 a0 2 (nx h32) →
  (0 ≤ (40 : Int) ∧ (40 : Int) ≤ 10000) ∧ ∀ h35 : zH, h35 = nw h34 40 ((40 : Int)).toNat →
  (zty 123 a0 h35) ∧ ∀ h36 : zH, h36 = sR h35 a0 3 (nx h34) →
  (0 ≤ (40 : Int) ∧ (40 : Int) ≤ 10000) ∧ ∀ h37 : zH, h37 = nw h36 40 ((40 : Int)).toNat →
  (zty 123 a0 h37) ∧ ∀ h38 : zH, h38 = sR h37 a0 4 (nx h36) →
  (0 ≤ (40 : Int) ∧ (40 : Int) ≤ 10000) ∧ ∀ h39 : zH, h39 = nw h38 40 ((40 : Int)).toNat →
  (zty 123 a0 h39) ∧ ∀ h40 : zH, h40 = sR h39 a0 5 (nx h38) →
  (0 ≤ (40 : Int) ∧ (40 : Int) ≤ 10000) ∧ ∀ h41 : zH, h41 = nw h40 40 ((40 : Int)).toNat →
  (zty 123 a0 h41) ∧ ∀ h42 : zH, h42 = sR h41 a0 6 (nx h40) →
  (0 ≤ (40 : Int) ∧ (40 : Int) ≤ 10000) ∧ ∀ h43 : zH, h43 = nw h42 40 ((40 : Int)).toNat →
  (zty 123 a0 h43) ∧ ∀ h44 : zH, h44 = sR h43 a0 7 (nx h42) →
  (0 ≤ (40 : Int) ∧ (40 : Int) ≤ 10000) ∧ ∀ h45 : zH, h45 = nw h44 40 ((40 : Int)).toNat →
  (zty 123 a0 h45) ∧ ∀ h46 : zH, h46 = sR h45 a0 8 (nx h44) →
  (0 ≤ (40 : Int) ∧ (40 : Int) ≤ 10000) ∧ ∀ h47 : zH, h47 = nw h46 40 ((40 : Int)).toNat →
  (zty 123 a0 h47) ∧ ∀ h48 : zH, h48 = sR h47 a0 9 (nx h46) →
  (0 ≤ (40 : Int) ∧ (40 : Int) ≤ 10000) ∧ ∀ h49 : zH, h49 = nw h48 40 ((40 : Int)).toNat →
  (zty 123 a0 h49) ∧ ∀ h50 : zH, h50 = sR h49 a0 10 (nx h48) →
  (0 ≤ (40 : Int) ∧ (40 : Int) ≤ 10000) ∧ ∀ h51 : zH, h51 = nw h50 40 ((40 : Int)).toNat →
  (zty 123 a0 h51) ∧ ∀ h52 : zH, h52 = sR h51 a0 11 (nx h50) →
  (0 ≤ (40 : Int) ∧ (40 : Int) ≤ 10000) ∧ ∀ h53 : zH, h53 = nw h52 40 ((40 : Int)).toNat →
  (zty 123 a0 h53) ∧ (gR (sR h53 a0 12 (nx h52)) a0 0 = a0 + 1) ∧ (zty 101 (a0 + 1) (sR h53 a0 12 (nx h52))) ∧ (gR (sR h53 a0 12 (nx h52)) a0 1 = a0 + 3) ∧ (zty 4140 (a0 + 3) (sR h53 a0 12 (nx h52))) ∧ (gR (sR h53 a0 12 (nx h52)) a0 2 = a0 + 4) ∧ (zty 4140 (a0 + 4) (sR h53 a0 12 (nx h52))) ∧ (gR (sR h53 a0 12 (nx h52)) a0 3 = a0 + 5) ∧ (zty 4140 (a0 + 5) (sR h53 a0 12 (nx h52))) ∧ (gR (sR h53 a0 12 (nx h52)) a0 4 = a0 + 6) ∧ (zty 4140 (a0 + 6) (sR h53 a0 12 (nx h52))) ∧ (gR (sR h53 a0 12 (nx h52)) a0 5 = a0 + 7) ∧ (zty 4140 (a0 + 7) (sR h53 a0 12 (nx h52))) ∧ (gR (sR h53 a0 12 (nx h52)) a0 6 = a0 + 8) ∧ (zty 4140 (a0 + 8) (sR h53 a0 12 (nx h52))) ∧ (gR (sR h53 a0 12 (nx h52)) a0 7 = a0 + 9) ∧ (zty 4140 (a0 + 9) (sR h53 a0 12 (nx h52))) ∧ (gR (sR h53 a0 12 (nx h52)) a0 8 = a0 + 10) ∧ (zty 4140 (a0 + 10) (sR h53 a0 12 (nx h52))) ∧ (gR (sR h53 a0 12 (nx h52)) a0 9 = a0 + 11) ∧ (zty 4140 (a0 + 11) (sR h53 a0 12 (nx h52))) ∧ (gR (sR h53 a0 12 (nx h52)) a0 10 = a0 + 12) ∧ (zty 4140 (a0 + 12) (sR h53 a0 12 (nx h52))) ∧ (gR (sR h53 a0 12 (nx h52)) a0 11 = a0 + 13) ∧ (zty 4140 (a0 + 13) (sR h53 a0 12 (nx h52))) ∧ (gR (sR h53 a0 12 (nx h52)) a0 12 = a0 + 14) ∧ (zty 4140 (a0 + 14) (sR h53 a0 12 (nx h52))) ∧ ∀ h54 : zH, h54 = sT (sR h53 a0 12 (nx h52)) a0 3 →
  Q none h54)) : zK 66 0 [vR a0 0] [] h Q :=
  zwpe_W (cd := c66) rfl [] 400 0 _ _ _ _ k
-- 67 SyntaxRules$Rule.itemsOf(III)I
set_option maxRecDepth 100000 in
set_option maxHeartbeats 4000000 in
theorem k67_0 (a0 : Nat) (p1 : Int) (p2 : Int) (p3 : Int) (h : zH) (Q : Option zV → zH → Prop) (k :
  zK 67 6 [vR a0 103, vI p1, vI p2, vI p3, vI 0, vI p2] [] h Q) : zK 67 0 [vR a0 103, vI p1, vI p2, vI p3, vU, vU] [] h Q :=
  zwpe_W (cd := c67) rfl [6] 400 0 _ _ _ _ k
set_option maxRecDepth 100000 in
set_option maxHeartbeats 4000000 in
theorem k67_6 (a0 : Nat) (l1 : Int) (u2 : zV) (l3 : Int) (l4 : Int) (l5 : Int) (h : zH) (Q : Option zV → zH → Prop) (k :
  (l3 ≤ l5 →
    Q (some (vI l4)) h) ∧
    (¬ (l3 ≤ l5) →
    (0 ≤ (l5 : Int)) ∧ ((l5 : Int) < 40) ∧ (¬ (gI h (a0 + 3) l5) = l1 →
      (inR (l4 + 0)) ∧ (inR (l5 + 1)) ∧ zK 67 6 [vR a0 103, vI l1, u2, vI l3, vI (l4 + 0), vI (l5 + 1)] [] h Q) ∧
      (¬ (¬ (gI h (a0 + 3) l5) = l1) →
      (inR (l4 + 1)) ∧ (inR (l5 + 1)) ∧ zK 67 6 [vR a0 103, vI l1, u2, vI l3, vI (l4 + 1), vI (l5 + 1)] [] h Q))) : zK 67 6 [vR a0 103, vI l1, u2, vI l3, vI l4, vI l5] [] h Q :=
  zwpe_W (cd := c67) rfl [6] 400 6 _ _ _ _ k
-- 68 SyntaxRules$Rule.standing(II)I
set_option maxRecDepth 100000 in
set_option maxHeartbeats 4000000 in
theorem k68_0 (a0 : Nat) (p1 : Int) (p2 : Int) (h : zH) (Q : Option zV → zH → Prop) (k :
  zK 68 2 [vR a0 103, vI p1, vI p2, vI p1] [] h Q) : zK 68 0 [vR a0 103, vI p1, vI p2, vU] [] h Q :=
  zwpe_W (cd := c68) rfl [2] 400 0 _ _ _ _ k
set_option maxRecDepth 100000 in
set_option maxHeartbeats 4000000 in
theorem k68_2 (a0 : Nat) (u1 : zV) (l2 : Int) (l3 : Int) (h : zH) (Q : Option zV → zH → Prop) (k :
  ((gI h a0 14) ≤ l3 →
    Q (some (vI ((-1)))) h) ∧
    (¬ ((gI h a0 14) ≤ l3) →
    (0 ≤ (l3 : Int)) ∧ ((l3 : Int) < 40) ∧ (¬ (gI h (a0 + 4) l3) = l2 →
      (inR (l3 + 1)) ∧ zK 68 2 [vR a0 103, u1, vI l2, vI (l3 + 1)] [] h Q) ∧
      (¬ (¬ (gI h (a0 + 4) l3) = l2) →
      Q (some (vI l3)) h))) : zK 68 2 [vR a0 103, u1, vI l2, vI l3] [] h Q :=
  zwpe_W (cd := c68) rfl [2] 400 2 _ _ _ _ k
-- 69 SyntaxRules$Rule.rowsBehind(I)I
set_option maxRecDepth 100000 in
set_option maxHeartbeats 4000000 in
theorem k69_0 (a0 : Nat) (p1 : Int) (h : zH) (Q : Option zV → zH → Prop) (k :
  (0 ≤ (p1 : Int)) ∧ ((p1 : Int) < 40) ∧ (¬ (gI h (a0 + 6) p1) = (-1) →
    (0 ≤ (p1 : Int)) ∧ ((p1 : Int) < 40) ∧ (0 ≤ (gI h (a0 + 6) p1 : Int)) ∧ ((gI h (a0 + 6) p1 : Int) < 40) ∧ (0 ≤ (p1 : Int)) ∧ ((p1 : Int) < 40) ∧ (inR ((gI h (a0 + 10) (gI h (a0 + 6) p1)) - (gI h (a0 + 11) p1))) ∧ Q (some (vI ((gI h (a0 + 10) (gI h (a0 + 6) p1)) - (gI h (a0 + 11) p1)))) h) ∧
    (¬ (¬ (gI h (a0 + 6) p1) = (-1)) →
    Q (some (vI 0)) h)) : zK 69 0 [vR a0 103, vI p1] [] h Q :=
  zwpe_W (cd := c69) rfl [] 400 0 _ _ _ _ k
-- 70 SyntaxRules$Rule.singlesBehind(I)I
set_option maxRecDepth 100000 in
set_option maxHeartbeats 4000000 in
theorem k70_0 (a0 : Nat) (p1 : Int) (h : zH) (Q : Option zV → zH → Prop) (k :
  (0 ≤ (p1 : Int)) ∧ ((p1 : Int) < 40) ∧ (¬ (gI h (a0 + 6) p1) = (-1) →
    (0 ≤ (gI h (a0 + 6) p1 : Int)) ∧ ((gI h (a0 + 6) p1 : Int) < 40) ∧ (0 ≤ (p1 : Int)) ∧ ((p1 : Int) < 40) ∧ (inR ((gI h (a0 + 9) (gI h (a0 + 6) p1)) - (gI h (a0 + 8) p1))) ∧ (inR (((gI h (a0 + 9) (gI h (a0 + 6) p1)) - (gI h (a0 + 8) p1)) - 1)) ∧ (0 ≤ (gI h (a0 + 6) p1 : Int)) ∧ ((gI h (a0 + 6) p1 : Int) < 40) ∧ (0 ≤ (p1 : Int)) ∧ ((p1 : Int) < 40) ∧ (inR ((gI h (a0 + 10) (gI h (a0 + 6) p1)) - (gI h (a0 + 11) p1))) ∧ (inR ((((gI h (a0 + 9) (gI h (a0 + 6) p1)) - (gI h (a0 + 8) p1)) - 1) - ((gI h (a0 + 10) (gI h (a0 + 6) p1)) - (gI h (a0 + 11) p1)))) ∧ Q (some (vI ((((gI h (a0 + 9) (gI h (a0 + 6) p1)) - (gI h (a0 + 8) p1)) - 1) - ((gI h (a0 + 10) (gI h (a0 + 6) p1)) - (gI h (a0 + 11) p1))))) h) ∧
    (¬ (¬ (gI h (a0 + 6) p1) = (-1)) →
    Q (some (vI 0)) h)) : zK 70 0 [vR a0 103, vI p1, vU] [] h Q :=
  zwpe_W (cd := c70) rfl [] 400 0 _ _ _ _ k
-- 71 SyntaxRules$Rule.sameWord(ILSyntaxRules$Rule;I)Z
set_option maxRecDepth 100000 in
set_option maxHeartbeats 4000000 in
theorem k71_0 (a0 : Nat) (p1 : Int) (p2 : Nat) (p3 : Int) (h : zH) (Q : Option zV → zH → Prop) (k :
  (0 ≤ (p1 : Int)) ∧ ((p1 : Int) < 40) ∧ (0 ≤ (p3 : Int)) ∧ ((p3 : Int) < 40) ∧ (¬ (gI h (a0 + 14) p1) = (gI h (p2 + 14) p3) →
    ((0 : Int) = 0 ∨ (0 : Int) = 1) ∧ Q (some (vI 0)) h) ∧
    (¬ (¬ (gI h (a0 + 14) p1) = (gI h (p2 + 14) p3)) →
    (0 ≤ (p1 : Int)) ∧ ((p1 : Int) < 40) ∧ (0 ≤ (p3 : Int)) ∧ ((p3 : Int) < 40) ∧ zC1 47 [vR (a0 + 1) 101, vI (gI h (a0 + 13) p1), vR (p2 + 1) 101, vI (gI h (p2 + 13) p3), vI (gI h (a0 + 14) p1)] h (fun v2 h2 =>
    (v2 = 0 →
      ((0 : Int) = 0 ∨ (0 : Int) = 1) ∧ Q (some (vI 0)) h2) ∧
      (¬ (v2 = 0) →
      ((1 : Int) = 0 ∨ (1 : Int) = 1) ∧ Q (some (vI 1)) h2)))) : zK 71 0 [vR a0 103, vI p1, vR p2 103, vI p3, vU] [] h Q :=
  zwpe_W (cd := c71) rfl [] 400 0 _ _ _ _ k
-- 72 SyntaxRules$Rule.sameTokens(ILSyntaxRules$Rule;I)Z
set_option maxRecDepth 100000 in
set_option maxHeartbeats 4000000 in
theorem k72_0 (a0 : Nat) (p1 : Int) (p2 : Nat) (p3 : Int) (h : zH) (Q : Option zV → zH → Prop) (k :
  (0 ≤ (p1 : Int)) ∧ ((p1 : Int) < 40) ∧ (0 ≤ (p3 : Int)) ∧ ((p3 : Int) < 40) ∧ ((gI h (a0 + 12) p1) = (gI h (p2 + 12) p3) →
    zK 72 20 [vR a0 103, vI p1, vR p2 103, vI p3, vI 0, vU, vU] [] h Q) ∧
    (¬ ((gI h (a0 + 12) p1) = (gI h (p2 + 12) p3)) →
    ((0 : Int) = 0 ∨ (0 : Int) = 1) ∧ Q (some (vI 0)) h)) : zK 72 0 [vR a0 103, vI p1, vR p2 103, vI p3, vU, vU, vU] [] h Q :=
  zwpe_W (cd := c72) rfl [20] 400 0 _ _ _ _ k
set_option maxRecDepth 100000 in
set_option maxHeartbeats 4000000 in
theorem k72_20 (a0 : Nat) (l1 : Int) (a2 : Nat) (l3 : Int) (l4 : Int) (u5 : zV) (u6 : zV) (h : zH) (Q : Option zV → zH → Prop) (k :
  (0 ≤ (l1 : Int)) ∧ ((l1 : Int) < 40) ∧ ((gI h (a0 + 12) l1) ≤ l4 →
    ((1 : Int) = 0 ∨ (1 : Int) = 1) ∧ Q (some (vI 1)) h) ∧
    (¬ ((gI h (a0 + 12) l1) ≤ l4) →
    (inR (l1 + l4)) ∧ (inR (l3 + l4)) ∧ (0 ≤ (l1 + l4 : Int)) ∧ ((l1 + l4 : Int) < 40) ∧ (0 ≤ (l3 + l4 : Int)) ∧ ((l3 + l4 : Int) < 40) ∧ (¬ (gI h (a0 + 3) (l1 + l4)) = (gI h (a2 + 3) (l3 + l4)) →
      ((0 : Int) = 0 ∨ (0 : Int) = 1) ∧ Q (some (vI 0)) h) ∧
      (¬ (¬ (gI h (a0 + 3) (l1 + l4)) = (gI h (a2 + 3) (l3 + l4))) →
      (0 ≤ (l1 + l4 : Int)) ∧ ((l1 + l4 : Int) < 40) ∧ (0 ≤ (l3 + l4 : Int)) ∧ ((l3 + l4 : Int) < 40) ∧ (¬ (gI h (a0 + 4) (l1 + l4)) = (gI h (a2 + 4) (l3 + l4)) →
        ((0 : Int) = 0 ∨ (0 : Int) = 1) ∧ Q (some (vI 0)) h) ∧
        (¬ (¬ (gI h (a0 + 4) (l1 + l4)) = (gI h (a2 + 4) (l3 + l4))) →
        (0 ≤ (l1 + l4 : Int)) ∧ ((l1 + l4 : Int) < 40) ∧ (0 ≤ (l3 + l4 : Int)) ∧ ((l3 + l4 : Int) < 40) ∧ (¬ (gI h (a0 + 5) (l1 + l4)) = (gI h (a2 + 5) (l3 + l4)) →
          ((0 : Int) = 0 ∨ (0 : Int) = 1) ∧ Q (some (vI 0)) h) ∧
          (¬ (¬ (gI h (a0 + 5) (l1 + l4)) = (gI h (a2 + 5) (l3 + l4))) →
          (0 ≤ (l1 + l4 : Int)) ∧ ((l1 + l4 : Int) < 40) ∧ (0 ≤ (l3 + l4 : Int)) ∧ ((l3 + l4 : Int) < 40) ∧ (¬ (gI h (a0 + 9) (l1 + l4)) = (gI h (a2 + 9) (l3 + l4)) →
            ((0 : Int) = 0 ∨ (0 : Int) = 1) ∧ Q (some (vI 0)) h) ∧
            (¬ (¬ (gI h (a0 + 9) (l1 + l4)) = (gI h (a2 + 9) (l3 + l4))) →
            zC1 71 [vR a0 103, vI (l1 + l4), vR a2 103, vI (l3 + l4)] h (fun v2 h2 =>
            (¬ v2 = 0 →
              (inR (l4 + 1)) ∧ zK 72 20 [vR a0 103, vI l1, vR a2 103, vI l3, vI (l4 + 1), vI (l1 + l4), vI (l3 + l4)] [] h2 Q) ∧
              (¬ (¬ v2 = 0) →
              ((0 : Int) = 0 ∨ (0 : Int) = 1) ∧ Q (some (vI 0)) h2)))))))) : zK 72 20 [vR a0 103, vI l1, vR a2 103, vI l3, vI l4, u5, u6] [] h Q :=
  zwpe_W (cd := c72) rfl [20] 400 20 _ _ _ _ k
-- 73 SyntaxRules$Rule.samePath(ILSyntaxRules$Rule;I)Z
set_option maxRecDepth 100000 in
set_option maxHeartbeats 4000000 in
theorem k73_0 (a0 : Nat) (p1 : Int) (p2 : Nat) (p3 : Int) (h : zH) (Q : Option zV → zH → Prop) (k :
  zK 73 9 [vR a0 103, vI p1, vR p2 103, vI p3, vI p1, vI p3, vI 0] [] h Q) : zK 73 0 [vR a0 103, vI p1, vR p2 103, vI p3, vU, vU, vU] [] h Q :=
  zwpe_W (cd := c73) rfl [9] 400 0 _ _ _ _ k
set_option maxRecDepth 100000 in
set_option maxHeartbeats 4000000 in
theorem k73_9 (a0 : Nat) (u1 : zV) (a2 : Nat) (u3 : zV) (l4 : Int) (l5 : Int) (l6 : Int) (h : zH) (Q : Option zV → zH → Prop) (k :
  (20 ≤ l6 →
    (¬ l4 = l5 →
      ((0 : Int) = 0 ∨ (0 : Int) = 1) ∧ Q (some (vI 0)) h) ∧
      (¬ (¬ l4 = l5) →
      ((1 : Int) = 0 ∨ (1 : Int) = 1) ∧ Q (some (vI 1)) h)) ∧
    (¬ (20 ≤ l6) →
    (l4 = (-1) →
      (¬ l4 = l5 →
        ((0 : Int) = 0 ∨ (0 : Int) = 1) ∧ Q (some (vI 0)) h) ∧
        (¬ (¬ l4 = l5) →
        ((1 : Int) = 0 ∨ (1 : Int) = 1) ∧ Q (some (vI 1)) h)) ∧
      (¬ (l4 = (-1)) →
      (l5 = (-1) →
        (¬ l4 = l5 →
          ((0 : Int) = 0 ∨ (0 : Int) = 1) ∧ Q (some (vI 0)) h) ∧
          (¬ (¬ l4 = l5) →
          ((1 : Int) = 0 ∨ (1 : Int) = 1) ∧ Q (some (vI 1)) h)) ∧
        (¬ (l5 = (-1)) →
        (0 ≤ (l4 : Int)) ∧ ((l4 : Int) < 40) ∧ (0 ≤ (l5 : Int)) ∧ ((l5 : Int) < 40) ∧ ((gI h (a0 + 8) l4) = (gI h (a2 + 8) l5) →
          (0 ≤ (l4 : Int)) ∧ ((l4 : Int) < 40) ∧ (0 ≤ (l5 : Int)) ∧ ((l5 : Int) < 40) ∧ (inR (l6 + 1)) ∧ zK 73 9 [vR a0 103, u1, vR a2 103, u3, vI (gI h (a0 + 6) l4), vI (gI h (a2 + 6) l5), vI (l6 + 1)] [] h Q) ∧
          (¬ ((gI h (a0 + 8) l4) = (gI h (a2 + 8) l5)) →
          ((0 : Int) = 0 ∨ (0 : Int) = 1) ∧ Q (some (vI 0)) h))))) : zK 73 9 [vR a0 103, u1, vR a2 103, u3, vI l4, vI l5, vI l6] [] h Q :=
  zwpe_W (cd := c73) rfl [9] 400 9 _ _ _ _ k
-- 74 SyntaxRules$RuleReader.<init>()V
set_option maxRecDepth 100000 in
set_option maxHeartbeats 4000000 in
theorem k74_0 (a0 : Nat) (h : zH) (Q : Option zV → zH → Prop) (k :
  (¬ (a0 : Nat) = 0) ∧ (0 ≤ (40 : Int) ∧ (40 : Int) ≤ 10000) ∧ ∀ h3 : zH, h3 = nw h 40 ((40 : Int)).toNat →
  (zty 124 a0 h3) ∧ (gR (sR h3 a0 10 (nx h)) a0 10 = a0 + 1) ∧ (zty 4140 (a0 + 1) (sR h3 a0 10 (nx h))) ∧ ∀ h4 : zH, h4 = sT (sR h3 a0 10 (nx h)) a0 4 →
  Q none h4) : zK 74 0 [vR a0 0] [] h Q :=
  zwpe_W (cd := c74) rfl [] 400 0 _ _ _ _ k
-- 75 SyntaxRules$RuleReader.read(LSyntaxRules$Text;)LSyntaxRules$Rule;
set_option maxRecDepth 100000 in
set_option maxHeartbeats 4000000 in
theorem k75_0 (p1 : Nat) (h : zH) (Q : Option zV → zH → Prop) (k :
  ∀ h17 : zH, h17 = nw h 23 16 →
  (¬ (nx h : Nat) = 0) ∧ zC0 66 [vR (nx h) 0] h17 (fun h18 =>
  ∀ h19 : zH, h19 = sR h18 54 2 (nx h) →
  (zty 103 (gR h19 54 2) h19) ∧ zC0 45 [vR (gR h19 54 2 + 1) 101, vR p1 101] h19 (fun h20 =>
  (zty 103 (gR h20 54 2) h20) ∧ ∀ h21 : zH, h21 = sR h20 54 1 (gR h20 54 2 + 1) →
  ∀ h22 : zH, h22 = sI h21 54 0 0 →
  ∀ h23 : zH, h23 = sI h22 54 6 0 →
  ∀ h24 : zH, h24 = sI h23 54 7 0 →
  ∀ h25 : zH, h25 = sI h24 54 8 0 →
  ∀ h26 : zH, h26 = sI h25 54 9 0 →
  ((0 : Int) = 0 ∨ (0 : Int) = 1) ∧ ∀ h27 : zH, h27 = sI h26 54 5 0 →
  zC1 77 [vR 54 104] h27 (fun v28 h28 =>
  (v28 = 0 →
    Q (some (vR 0 0)) h28) ∧
    (¬ (v28 = 0) →
    zC1 76 [vR 54 104] h28 (fun v29 h29 =>
    (¬ v29 = 0 →
      ((1 : Int) = 0 ∨ (1 : Int) = 1) ∧ ∀ h30 : zH, h30 = sI h29 54 5 1 →
      zC1 77 [vR 54 104] h30 (fun v31 h31 =>
      (¬ v31 = 0 →
        zC0 78 [vR 54 104] h31 (fun h32 =>
        (zty 101 (gR h32 54 1) h32) ∧ (¬ (gI h32 54 0) = (gI h32 (gR h32 54 1) 1) →
          Q (some (vR 0 0)) h32) ∧
          (¬ (¬ (gI h32 54 0) = (gI h32 (gR h32 54 1) 1)) →
          (zty 103 (gR h32 54 2) h32) ∧ Q (some (vR (gR h32 54 2) 0)) h32))) ∧
        (¬ (¬ v31 = 0) →
        Q (some (vR 0 0)) h31))) ∧
      (¬ (¬ v29 = 0) →
      Q (some (vR 0 0)) h29))))))) : zK 75 0 [vR 54 104, vR p1 101] [] h Q :=
  zwpe_W (cd := c75) rfl [] 400 0 _ _ _ _ k
-- 76 SyntaxRules$RuleReader.passEquals()Z
set_option maxRecDepth 100000 in
set_option maxHeartbeats 4000000 in
theorem k76_0 (h : zH) (Q : Option zV → zH → Prop) (k :
  (zty 103 (gR h 54 2) h) ∧ (zty 103 (gR h 54 2) h) ∧ ∀ h6 : zH, h6 = sI h (gR h 54 2) 14 (gI h (gR h 54 2) 13) →
  (zty 103 (gR h6 54 2) h6) ∧ ∀ h7 : zH, h7 = sI h6 (gR h6 54 2) 15 (iOr (gI h6 54 8) (gI h6 54 9)) →
  zC0 78 [vR 54 104] h7 (fun h8 =>
  (zty 101 (gR h8 54 1) h8) ∧ zC1 44 [vR (gR h8 54 1) 101, vI (gI h8 54 0)] h8 (fun v9 h9 =>
  (v9 = 61 →
    (inR ((gI h9 54 0) + 1)) ∧ ∀ h10 : zH, h10 = sI h9 54 0 ((gI h9 54 0) + 1) →
    ((1 : Int) = 0 ∨ (1 : Int) = 1) ∧ Q (some (vI 1)) h10) ∧
    (¬ (v9 = 61) →
    ((0 : Int) = 0 ∨ (0 : Int) = 1) ∧ Q (some (vI 0)) h9)))) : zK 76 0 [vR 54 104] [] h Q :=
  zwpe_W (cd := c76) rfl [] 400 0 _ _ _ _ k
-- 77 SyntaxRules$RuleReader.readSide()Z
set_option maxRecDepth 100000 in
set_option maxHeartbeats 4000000 in
theorem k77_0 (h : zH) (Q : Option zV → zH → Prop) (k :
  ∀ h9 : zH, h9 = sI h 54 3 (-1) →
  (zty 103 (gR h9 54 2) h9) ∧ ∀ h10 : zH, h10 = sI h9 54 4 (gI h9 (gR h9 54 2) 13) →
  zK 77 18 [vR 54 104, vI 0, vU] [] h10 Q) : zK 77 0 [vR 54 104, vU, vU] [] h Q :=
  zwpe_W (cd := c77) rfl [18, 76] 400 0 _ _ _ _ k
set_option maxRecDepth 100000 in
set_option maxHeartbeats 4000000 in
theorem k77_18 (l1 : Int) (u2 : zV) (h : zH) (Q : Option zV → zH → Prop) (k :
  (300 < l1 →
    ((0 : Int) = 0 ∨ (0 : Int) = 1) ∧ Q (some (vI 0)) h) ∧
    (¬ (300 < l1) →
    zC0 78 [vR 54 104] h (fun h11 =>
    (zty 101 (gR h11 54 1) h11) ∧ zC1 44 [vR (gR h11 54 1) 101, vI (gI h11 54 0)] h11 (fun v12 h12 =>
    (¬ v12 = 41 →
      zK 77 76 [vR 54 104, vI l1, vI v12] [] h12 Q) ∧
      (¬ (¬ v12 = 41) →
      zC1 79 [vR 54 104] h12 (fun v13 h13 =>
      (v13 = 0 →
        zK 77 76 [vR 54 104, vI l1, vI v12] [] h13 Q) ∧
        (¬ (v13 = 0) →
        (inR ((gI h13 54 0) + 1)) ∧ ∀ h14 : zH, h14 = sI h13 54 0 ((gI h13 54 0) + 1) →
        zC1 89 [vR 54 104, vI (gI h14 54 3)] h14 (fun v15 h15 =>
        (¬ (gI h15 54 3) = (-1) →
          (inR (l1 + 1)) ∧ zK 77 18 [vR 54 104, vI (l1 + 1), vI v12] [] h15 Q) ∧
          (¬ (¬ (gI h15 54 3) = (-1)) →
          ((1 : Int) = 0 ∨ (1 : Int) = 1) ∧ Q (some (vI 1)) h15))))))))) : zK 77 18 [vR 54 104, vI l1, u2] [] h Q :=
  zwpe_W (cd := c77) rfl [18, 76] 400 18 _ _ _ _ k
set_option maxRecDepth 100000 in
set_option maxHeartbeats 4000000 in
theorem k77_76 (l1 : Int) (l2 : Int) (h : zH) (Q : Option zV → zH → Prop) (k :
  zC1 80 [vR 54 104, vI l2] h (fun v16 h16 =>
  (¬ v16 = 0 →
    (¬ (gI h16 54 3) = (-1) →
      (inR (l1 + 1)) ∧ zK 77 18 [vR 54 104, vI (l1 + 1), vI l2] [] h16 Q) ∧
      (¬ (¬ (gI h16 54 3) = (-1)) →
      ((1 : Int) = 0 ∨ (1 : Int) = 1) ∧ Q (some (vI 1)) h16)) ∧
    (¬ (¬ v16 = 0) →
    ((0 : Int) = 0 ∨ (0 : Int) = 1) ∧ Q (some (vI 0)) h16))) : zK 77 76 [vR 54 104, vI l1, vI l2] [] h Q :=
  zwpe_W (cd := c77) rfl [18, 76] 400 76 _ _ _ _ k
-- 78 SyntaxRules$RuleReader.passBlanks()V
set_option maxRecDepth 100000 in
set_option maxHeartbeats 4000000 in
theorem k78_0 (h : zH) (Q : Option zV → zH → Prop) (k :
  zK 78 2 [vR 54 104, vI 0] [] h Q) : zK 78 0 [vR 54 104, vU] [] h Q :=
  zwpe_W (cd := c78) rfl [2] 400 0 _ _ _ _ k
set_option maxRecDepth 100000 in
set_option maxHeartbeats 4000000 in
theorem k78_2 (l1 : Int) (h : zH) (Q : Option zV → zH → Prop) (k :
  (300 < l1 →
    Q none h) ∧
    (¬ (300 < l1) →
    (zty 101 (gR h 54 1) h) ∧ zC1 44 [vR (gR h 54 1) 101, vI (gI h 54 0)] h (fun v3 h3 =>
    (¬ v3 = 32 →
      Q none h3) ∧
      (¬ (¬ v3 = 32) →
      (inR ((gI h3 54 0) + 1)) ∧ ∀ h4 : zH, h4 = sI h3 54 0 ((gI h3 54 0) + 1) →
      (inR (l1 + 1)) ∧ zK 78 2 [vR 54 104, vI (l1 + 1)] [] h4 Q)))) : zK 78 2 [vR 54 104, vI l1] [] h Q :=
  zwpe_W (cd := c78) rfl [2] 400 2 _ _ _ _ k
-- 79 SyntaxRules$RuleReader.isInTerm()Z
set_option maxRecDepth 100000 in
set_option maxHeartbeats 4000000 in
theorem k79_0 (h : zH) (Q : Option zV → zH → Prop) (k :
  ((gI h 54 3) = (-1) →
    ((0 : Int) = 0 ∨ (0 : Int) = 1) ∧ Q (some (vI 0)) h) ∧
    (¬ ((gI h 54 3) = (-1)) →
    (zty 103 (gR h 54 2) h) ∧ (0 ≤ (gI h 54 3 : Int)) ∧ ((gI h 54 3 : Int) < 40) ∧ (¬ (gI h (gR h 54 2 + 3) (gI h 54 3)) = 4 →
      ((0 : Int) = 0 ∨ (0 : Int) = 1) ∧ Q (some (vI 0)) h) ∧
      (¬ (¬ (gI h (gR h 54 2 + 3) (gI h 54 3)) = 4) →
      ((1 : Int) = 0 ∨ (1 : Int) = 1) ∧ Q (some (vI 1)) h))) : zK 79 0 [vR 54 104] [] h Q :=
  zwpe_W (cd := c79) rfl [] 400 0 _ _ _ _ k
-- 80 SyntaxRules$RuleReader.readItem(I)Z
set_option maxRecDepth 100000 in
set_option maxHeartbeats 4000000 in
theorem k80_0 (p1 : Int) (h : zH) (Q : Option zV → zH → Prop) (k :
  zC1 81 [vI p1] h (fun v18 h18 =>
  (v18 = (-1) →
    ((0 : Int) = 0 ∨ (0 : Int) = 1) ∧ Q (some (vI 0)) h18) ∧
    (¬ (v18 = (-1)) →
    (zty 103 (gR h18 54 2) h18) ∧ (inR ((gI h18 (gR h18 54 2) 13) - (gI h18 54 4))) ∧ (((gI h18 (gR h18 54 2) 13) - (gI h18 54 4)) = 20 →
      ((0 : Int) = 0 ∨ (0 : Int) = 1) ∧ Q (some (vI 0)) h18) ∧
      (¬ (((gI h18 (gR h18 54 2) 13) - (gI h18 54 4)) = 20) →
      zC1 82 [vR 54 104, vI v18] h18 (fun v19 h19 =>
      (¬ v19 = 0 →
        zC1 83 [vR 54 104, vI v18] h19 (fun v20 h20 =>
        (¬ v18 = 3 →
          (inR ((gI h20 54 0) + 1)) ∧ ∀ h21 : zH, h21 = sI h20 54 0 ((gI h20 54 0) + 1) →
          (v18 = (1 : Int) →
            zK 80 120 [vR 54 104, vI p1, vI v18, vI v20] [] h21 Q) ∧
            (¬ (v18 = (1 : Int)) →
            (v18 = ((1 : Int) + 1) →
            ∀ h29 : zH, h29 = sI h21 54 3 v20 →
            ((1 : Int) = 0 ∨ (1 : Int) = 1) ∧ Q (some (vI 1)) h29) ∧
            (¬ (v18 = ((1 : Int) + 1)) →
            (v18 = ((1 : Int) + 1 + 1) →
            zC1 89 [vR 54 104, vI v20] h21 (fun v28 h28 =>
            ((v28 : Int) = 0 ∨ (v28 : Int) = 1) ∧ Q (some (vI v28)) h28)) ∧
            (¬ (v18 = ((1 : Int) + 1 + 1)) →
            (v18 = ((1 : Int) + 1 + 1 + 1) →
            ∀ h23 : zH, h23 = sI h21 54 3 v20 →
            zC0 78 [vR 54 104] h23 (fun h24 =>
            (zty 101 (gR h24 54 1) h24) ∧ zC1 44 [vR (gR h24 54 1) 101, vI (gI h24 54 0)] h24 (fun v25 h25 =>
            zC1 33 [vI v25] h25 (fun v26 h26 =>
            (v26 = 0 →
              ((0 : Int) = 0 ∨ (0 : Int) = 1) ∧ Q (some (vI 0)) h26) ∧
              (¬ (v26 = 0) →
              zC1 85 [vR 54 104, vI v20, vI 1] h26 (fun v27 h27 =>
              (v27 = 0 →
                ((0 : Int) = 0 ∨ (0 : Int) = 1) ∧ Q (some (vI 0)) h27) ∧
                (¬ (v27 = 0) →
                ((1 : Int) = 0 ∨ (1 : Int) = 1) ∧ Q (some (vI 1)) h27))))))) ∧
            (¬ (v18 = ((1 : Int) + 1 + 1 + 1)) →
            (v18 = ((1 : Int) + 1 + 1 + 1 + 1) →
            zK 80 120 [vR 54 104, vI p1, vI v18, vI v20] [] h21 Q) ∧
            (¬ (v18 = ((1 : Int) + 1 + 1 + 1 + 1)) →
            zC1 89 [vR 54 104, vI v20] h21 (fun v22 h22 =>
            ((v22 : Int) = 0 ∨ (v22 : Int) = 1) ∧ Q (some (vI v22)) h22))))))) ∧
          (¬ (¬ v18 = 3) →
          zC1 33 [vI p1] h20 (fun v30 h30 =>
          zC1 85 [vR 54 104, vI v20, vI v30] h30 (fun v31 h31 =>
          (v31 = 0 →
            ((0 : Int) = 0 ∨ (0 : Int) = 1) ∧ Q (some (vI 0)) h31) ∧
            (¬ (v31 = 0) →
            zC1 89 [vR 54 104, vI v20] h31 (fun v32 h32 =>
            (v32 = 0 →
              ((0 : Int) = 0 ∨ (0 : Int) = 1) ∧ Q (some (vI 0)) h32) ∧
              (¬ (v32 = 0) →
              ((1 : Int) = 0 ∨ (1 : Int) = 1) ∧ Q (some (vI 1)) h32)))))))) ∧
        (¬ (¬ v19 = 0) →
        ((0 : Int) = 0 ∨ (0 : Int) = 1) ∧ Q (some (vI 0)) h19)))))) : zK 80 0 [vR 54 104, vI p1, vU, vU] [] h Q :=
  zwpe_W (cd := c80) rfl [120] 400 0 _ _ _ _ k
set_option maxRecDepth 100000 in
set_option maxHeartbeats 4000000 in
theorem k80_120 (u1 : zV) (u2 : zV) (l3 : Int) (h : zH) (Q : Option zV → zH → Prop) (k :
  zC1 86 [vR 54 104, vI l3] h (fun v33 h33 =>
  (v33 = 0 →
    ((0 : Int) = 0 ∨ (0 : Int) = 1) ∧ Q (some (vI 0)) h33) ∧
    (¬ (v33 = 0) →
    zC1 89 [vR 54 104, vI l3] h33 (fun v34 h34 =>
    (v34 = 0 →
      ((0 : Int) = 0 ∨ (0 : Int) = 1) ∧ Q (some (vI 0)) h34) ∧
      (¬ (v34 = 0) →
      ((1 : Int) = 0 ∨ (1 : Int) = 1) ∧ Q (some (vI 1)) h34))))) : zK 80 120 [vR 54 104, u1, u2, vI l3] [] h Q :=
  zwpe_W (cd := c80) rfl [120] 400 120 _ _ _ _ k
-- 81 SyntaxRules$RuleReader.opOf(I)I
set_option maxRecDepth 100000 in
set_option maxHeartbeats 4000000 in
theorem k81_0 (p0 : Int) (h : zH) (Q : Option zV → zH → Prop) (k :
  (p0 = 40 →
    Q (some (vI 4)) h) ∧
    (¬ (p0 = 40) →
    (p0 = 42 →
    Q (some (vI 5)) h) ∧
    (¬ (p0 = 42) →
    (p0 = 63 →
    Q (some (vI 1)) h) ∧
    (¬ (p0 = 63) →
    (p0 = 94 →
    Q (some (vI 2)) h) ∧
    (¬ (p0 = 94) →
    (p0 = 95 →
    Q (some (vI 0)) h) ∧
    (¬ (p0 = 95) →
    zC1 33 [vI p0] h (fun v3 h3 =>
    (¬ v3 = 0 →
      Q (some (vI 3)) h3) ∧
      (¬ (¬ v3 = 0) →
      zC1 34 [vI p0] h3 (fun v4 h4 =>
      (v4 = 0 →
        Q (some (vI ((-1)))) h4) ∧
        (¬ (v4 = 0) →
        Q (some (vI 3)) h4)))))))))) : zK 81 0 [vI p0] [] h Q :=
  zwpe_W (cd := c81) rfl [] 400 0 _ _ _ _ k
-- 82 SyntaxRules$RuleReader.mayStand(I)Z
set_option maxRecDepth 100000 in
set_option maxHeartbeats 4000000 in
theorem k82_0 (p1 : Int) (h : zH) (Q : Option zV → zH → Prop) (k :
  (p1 = 0 →
    (¬ (gI h 54 5) = 0 →
      ((0 : Int) = 0 ∨ (0 : Int) = 1) ∧ Q (some (vI 0)) h) ∧
      (¬ (¬ (gI h 54 5) = 0) →
      ((1 : Int) = 0 ∨ (1 : Int) = 1) ∧ Q (some (vI 1)) h)) ∧
    (¬ (p1 = 0) →
    (p1 = 2 →
    (¬ (gI h 54 5) = 0 →
      ((0 : Int) = 0 ∨ (0 : Int) = 1) ∧ Q (some (vI 0)) h) ∧
      (¬ (¬ (gI h 54 5) = 0) →
      (¬ (gI h 54 7) = 0 →
        ((0 : Int) = 0 ∨ (0 : Int) = 1) ∧ Q (some (vI 0)) h) ∧
        (¬ (¬ (gI h 54 7) = 0) →
        ((1 : Int) = 0 ∨ (1 : Int) = 1) ∧ Q (some (vI 1)) h))) ∧
    (¬ (p1 = 2) →
    (p1 = 5 →
    zC1 79 [vR 54 104] h (fun v2 h2 =>
    (v2 = 0 →
      ((0 : Int) = 0 ∨ (0 : Int) = 1) ∧ Q (some (vI 0)) h2) ∧
      (¬ (v2 = 0) →
      (¬ (gI h2 54 5) = 0 →
        ((1 : Int) = 0 ∨ (1 : Int) = 1) ∧ Q (some (vI 1)) h2) ∧
        (¬ (¬ (gI h2 54 5) = 0) →
        (2 ≤ (gI h2 54 6) →
          ((0 : Int) = 0 ∨ (0 : Int) = 1) ∧ Q (some (vI 0)) h2) ∧
          (¬ (2 ≤ (gI h2 54 6)) →
          ((1 : Int) = 0 ∨ (1 : Int) = 1) ∧ Q (some (vI 1)) h2))))) ∧
    (¬ (p1 = 5) →
    ((1 : Int) = 0 ∨ (1 : Int) = 1) ∧ Q (some (vI 1)) h)))) : zK 82 0 [vR 54 104, vI p1] [] h Q :=
  zwpe_W (cd := c82) rfl [] 400 0 _ _ _ _ k
-- 83 SyntaxRules$RuleReader.addItem(I)I
set_option maxRecDepth 100000 in
set_option maxHeartbeats 4000000 in
theorem k83_0 (p1 : Int) (h : zH) (Q : Option zV → zH → Prop) (k :
  (zty 103 (gR h 54 2) h) ∧ (zty 103 (gR h 54 2) h) ∧ (inR ((gI h (gR h 54 2) 13) + 1)) ∧ ∀ h11 : zH, h11 = sI h (gR h 54 2) 13 ((gI h (gR h 54 2) 13) + 1) →
  (zty 103 (gR h11 54 2) h11) ∧ (0 ≤ (gI h (gR h 54 2) 13 : Int)) ∧ ((gI h (gR h 54 2) 13 : Int) < 40) ∧ ∀ h12 : zH, h12 = sI h11 (gR h11 54 2 + 3) (gI h (gR h 54 2) 13) p1 →
  (zty 103 (gR h12 54 2) h12) ∧ (0 ≤ (gI h (gR h 54 2) 13 : Int)) ∧ ((gI h (gR h 54 2) 13 : Int) < 40) ∧ ∀ h13 : zH, h13 = sI h12 (gR h12 54 2 + 4) (gI h (gR h 54 2) 13) (-1) →
  (zty 103 (gR h13 54 2) h13) ∧ (0 ≤ (gI h (gR h 54 2) 13 : Int)) ∧ ((gI h (gR h 54 2) 13 : Int) < 40) ∧ ∀ h14 : zH, h14 = sI h13 (gR h13 54 2 + 5) (gI h (gR h 54 2) 13) (-1) →
  (zty 103 (gR h14 54 2) h14) ∧ (0 ≤ (gI h (gR h 54 2) 13 : Int)) ∧ ((gI h (gR h 54 2) 13 : Int) < 40) ∧ ∀ h15 : zH, h15 = sI h14 (gR h14 54 2 + 6) (gI h (gR h 54 2) 13) (gI h14 54 3) →
  (zty 103 (gR h15 54 2) h15) ∧ (0 ≤ (gI h (gR h 54 2) 13 : Int)) ∧ ((gI h (gR h 54 2) 13 : Int) < 40) ∧ ∀ h16 : zH, h16 = sI h15 (gR h15 54 2 + 7) (gI h (gR h 54 2) 13) (-1) →
  (¬ (gI h16 54 5) = 0 →
    ((gI h16 54 3) = (-1) →
      Q (some (vI (gI h (gR h 54 2) 13))) h16) ∧
      (¬ ((gI h16 54 3) = (-1)) →
      zC0 84 [vR 54 104, vI (gI h (gR h 54 2) 13)] h16 (fun h17 =>
      Q (some (vI (gI h (gR h 54 2) 13))) h17))) ∧
    (¬ (¬ (gI h16 54 5) = 0) →
    (¬ p1 = 2 →
      zK 83 96 [vR 54 104, vI p1, vI (gI h (gR h 54 2) 13)] [vI 0, vI (gI h16 54 7), vR 54 104] h16 Q) ∧
      (¬ (¬ p1 = 2) →
      zK 83 96 [vR 54 104, vI p1, vI (gI h (gR h 54 2) 13)] [vI 1, vI (gI h16 54 7), vR 54 104] h16 Q))) : zK 83 0 [vR 54 104, vI p1, vU] [] h Q :=
  zwpe_W (cd := c83) rfl [96, 115] 400 0 _ _ _ _ k
set_option maxRecDepth 100000 in
set_option maxHeartbeats 4000000 in
theorem k83_96 (l1 : Int) (l2 : Int) (s0 : Int) (s1 : Int) (h : zH) (Q : Option zV → zH → Prop) (k :
  (inR (s1 + s0)) ∧ ∀ h18 : zH, h18 = sI h 54 7 (s1 + s0) →
  (¬ l1 = 5 →
    zK 83 115 [vR 54 104, vI l1, vI l2] [vI 0, vI (gI h18 54 6), vR 54 104] h18 Q) ∧
    (¬ (¬ l1 = 5) →
    zK 83 115 [vR 54 104, vI l1, vI l2] [vI 1, vI (gI h18 54 6), vR 54 104] h18 Q)) : zK 83 96 [vR 54 104, vI l1, vI l2] [vI s0, vI s1, vR 54 104] h Q :=
  zwpe_W (cd := c83) rfl [96, 115] 400 96 _ _ _ _ k
set_option maxRecDepth 100000 in
set_option maxHeartbeats 4000000 in
theorem k83_115 (u1 : zV) (l2 : Int) (s0 : Int) (s1 : Int) (h : zH) (Q : Option zV → zH → Prop) (k :
  (inR (s1 + s0)) ∧ ∀ h19 : zH, h19 = sI h 54 6 (s1 + s0) →
  ((gI h19 54 3) = (-1) →
    Q (some (vI l2)) h19) ∧
    (¬ ((gI h19 54 3) = (-1)) →
    zC0 84 [vR 54 104, vI l2] h19 (fun h20 =>
    Q (some (vI l2)) h20))) : zK 83 115 [vR 54 104, u1, vI l2] [vI s0, vI s1, vR 54 104] h Q :=
  zwpe_W (cd := c83) rfl [96, 115] 400 115 _ _ _ _ k
-- 84 SyntaxRules$RuleReader.hangItem(I)V
set_option maxRecDepth 100000 in
set_option maxHeartbeats 4000000 in
theorem k84_0 (p1 : Int) (h : zH) (Q : Option zV → zH → Prop) (k :
  (zty 103 (gR h 54 2) h) ∧ (zty 103 (gR h 54 2) h) ∧ (0 ≤ (gI h 54 3 : Int)) ∧ ((gI h 54 3 : Int) < 40) ∧ (0 ≤ (p1 : Int)) ∧ ((p1 : Int) < 40) ∧ ∀ h7 : zH, h7 = sI h (gR h 54 2 + 8) p1 (gI h (gR h 54 2 + 9) (gI h 54 3)) →
  (zty 103 (gR h7 54 2) h7) ∧ (zty 103 (gR h7 54 2) h7) ∧ (0 ≤ (gI h7 54 3 : Int)) ∧ ((gI h7 54 3 : Int) < 40) ∧ (¬ (gI h7 (gR h7 54 2 + 9) (gI h7 54 3)) = 0 →
    (0 ≤ (gI h7 54 3 : Int)) ∧ ((gI h7 54 3 : Int) < 40) ∧ zK 84 57 [vR 54 104, vI p1] [vI (gI h7 55 (gI h7 54 3)), vI p1, vR (gR h7 54 2 + 7) 4140] h7 Q) ∧
    (¬ (¬ (gI h7 (gR h7 54 2 + 9) (gI h7 54 3)) = 0) →
    zK 84 57 [vR 54 104, vI p1] [vI ((-1)), vI p1, vR (gR h7 54 2 + 7) 4140] h7 Q)) : zK 84 0 [vR 54 104, vI p1] [] h Q :=
  zwpe_W (cd := c84) rfl [57, 115] 400 0 _ _ _ _ k
set_option maxRecDepth 100000 in
set_option maxHeartbeats 4000000 in
theorem k84_57 (l1 : Int) (s0 : Int) (s1 : Int) (b2 : Nat) (h : zH) (Q : Option zV → zH → Prop) (k :
  (0 ≤ (s1 : Int)) ∧ ((s1 : Int) < 40) ∧ ∀ h8 : zH, h8 = sI h b2 s1 s0 →
  (0 ≤ (gI h8 54 3 : Int)) ∧ ((gI h8 54 3 : Int) < 40) ∧ ∀ h9 : zH, h9 = sI h8 55 (gI h8 54 3) l1 →
  (zty 103 (gR h9 54 2) h9) ∧ (0 ≤ (gI h9 54 3 : Int)) ∧ ((gI h9 54 3 : Int) < 40) ∧ (inR ((gI h9 (gR h9 54 2 + 9) (gI h9 54 3)) + 1)) ∧ (0 ≤ (gI h9 54 3 : Int)) ∧ ((gI h9 54 3 : Int) < 40) ∧ ∀ h10 : zH, h10 = sI h9 (gR h9 54 2 + 9) (gI h9 54 3) ((gI h9 (gR h9 54 2 + 9) (gI h9 54 3)) + 1) →
  (zty 103 (gR h10 54 2) h10) ∧ (0 ≤ (gI h10 54 3 : Int)) ∧ ((gI h10 54 3 : Int) < 40) ∧ (zty 103 (gR h10 54 2) h10) ∧ (0 ≤ (l1 : Int)) ∧ ((l1 : Int) < 40) ∧ (¬ (gI h10 (gR h10 54 2 + 3) l1) = 5 →
    zK 84 115 [vR 54 104, vI l1] [vI 0, vI (gI h10 (gR h10 54 2 + 10) (gI h10 54 3)), vI (gI h10 54 3), vR (gR h10 54 2 + 10) 4140] h10 Q) ∧
    (¬ (¬ (gI h10 (gR h10 54 2 + 3) l1) = 5) →
    zK 84 115 [vR 54 104, vI l1] [vI 1, vI (gI h10 (gR h10 54 2 + 10) (gI h10 54 3)), vI (gI h10 54 3), vR (gR h10 54 2 + 10) 4140] h10 Q)) : zK 84 57 [vR 54 104, vI l1] [vI s0, vI s1, vR b2 4140] h Q :=
  zwpe_W (cd := c84) rfl [57, 115] 400 57 _ _ _ _ k
set_option maxRecDepth 100000 in
set_option maxHeartbeats 4000000 in
theorem k84_115 (l1 : Int) (s0 : Int) (s1 : Int) (s2 : Int) (b3 : Nat) (h : zH) (Q : Option zV → zH → Prop) (k :
  (inR (s1 + s0)) ∧ (0 ≤ (s2 : Int)) ∧ ((s2 : Int) < 40) ∧ ∀ h11 : zH, h11 = sI h b3 s2 (s1 + s0) →
  (zty 103 (gR h11 54 2) h11) ∧ (zty 103 (gR h11 54 2) h11) ∧ (0 ≤ (gI h11 54 3 : Int)) ∧ ((gI h11 54 3 : Int) < 40) ∧ (0 ≤ (l1 : Int)) ∧ ((l1 : Int) < 40) ∧ ∀ h12 : zH, h12 = sI h11 (gR h11 54 2 + 11) l1 (gI h11 (gR h11 54 2 + 10) (gI h11 54 3)) →
  Q none h12) : zK 84 115 [vR 54 104, vI l1] [vI s0, vI s1, vI s2, vR b3 4140] h Q :=
  zwpe_W (cd := c84) rfl [57, 115] 400 115 _ _ _ _ k
-- 85 SyntaxRules$RuleReader.readWord(IZ)Z
set_option maxRecDepth 100000 in
set_option maxHeartbeats 4000000 in
theorem k85_0 (p1 : Int) (p2 : Int) (h : zH) (Q : Option zV → zH → Prop) (k :
  (p2 = 0 →
    zK 85 10 [vR 54 104, vI p1, vI p2, vU, vU] [vI 4] h Q) ∧
    (¬ (p2 = 0) →
    zK 85 10 [vR 54 104, vI p1, vI p2, vU, vU] [vI 8] h Q)) : zK 85 0 [vR 54 104, vI p1, vI p2, vU, vU] [] h Q :=
  zwpe_W (cd := c85) rfl [10] 400 0 _ _ _ _ k
set_option maxRecDepth 100000 in
set_option maxHeartbeats 4000000 in
theorem k85_10 (l1 : Int) (l2 : Int) (u3 : zV) (u4 : zV) (s0 : Int) (h : zH) (Q : Option zV → zH → Prop) (k :
  (zty 101 (gR h 54 1) h) ∧ zC1 48 [vR (gR h 54 1) 101, vI (gI h 54 0), vI l2, vI s0] h (fun v6 h6 =>
  (v6 ≤ s0 →
    (zty 103 (gR h6 54 2) h6) ∧ (0 ≤ (l1 : Int)) ∧ ((l1 : Int) < 40) ∧ ∀ h7 : zH, h7 = sI h6 (gR h6 54 2 + 13) l1 (gI h6 54 0) →
    (zty 103 (gR h7 54 2) h7) ∧ (0 ≤ (l1 : Int)) ∧ ((l1 : Int) < 40) ∧ ∀ h8 : zH, h8 = sI h7 (gR h7 54 2 + 14) l1 v6 →
    (inR ((gI h8 54 0) + v6)) ∧ ∀ h9 : zH, h9 = sI h8 54 0 ((gI h8 54 0) + v6) →
    ((1 : Int) = 0 ∨ (1 : Int) = 1) ∧ Q (some (vI 1)) h9) ∧
    (¬ (v6 ≤ s0) →
    (inR ((gI h6 54 0) + s0)) ∧ ∀ h10 : zH, h10 = sI h6 54 0 ((gI h6 54 0) + s0) →
    ((0 : Int) = 0 ∨ (0 : Int) = 1) ∧ Q (some (vI 0)) h10))) : zK 85 10 [vR 54 104, vI l1, vI l2, u3, u4] [vI s0] h Q :=
  zwpe_W (cd := c85) rfl [10] 400 10 _ _ _ _ k
-- 86 SyntaxRules$RuleReader.readHole(I)Z
set_option maxRecDepth 100000 in
set_option maxHeartbeats 4000000 in
theorem k86_0 (p1 : Int) (h : zH) (Q : Option zV → zH → Prop) (k :
  (zty 101 (gR h 54 1) h) ∧ zC1 44 [vR (gR h 54 1) 101, vI (gI h 54 0)] h (fun v7 h7 =>
  (inR (v7 - 65)) ∧ (zty 103 (gR h7 54 2) h7) ∧ (0 ≤ (p1 : Int)) ∧ ((p1 : Int) < 40) ∧ (¬ (gI h7 (gR h7 54 2 + 3) p1) = 5 →
    zK 86 33 [vR 54 104, vI p1, vI (v7 - 65), vU] [vI 0] h7 Q) ∧
    (¬ (¬ (gI h7 (gR h7 54 2 + 3) p1) = 5) →
    zK 86 33 [vR 54 104, vI p1, vI (v7 - 65), vU] [vI 1] h7 Q))) : zK 86 0 [vR 54 104, vI p1, vU, vU] [] h Q :=
  zwpe_W (cd := c86) rfl [33] 400 0 _ _ _ _ k
set_option maxRecDepth 100000 in
set_option maxHeartbeats 4000000 in
theorem k86_33 (l1 : Int) (l2 : Int) (u3 : zV) (s0 : Int) (h : zH) (Q : Option zV → zH → Prop) (k :
  (l2 < 0 →
    ((0 : Int) = 0 ∨ (0 : Int) = 1) ∧ Q (some (vI 0)) h) ∧
    (¬ (l2 < 0) →
    (26 ≤ l2 →
      ((0 : Int) = 0 ∨ (0 : Int) = 1) ∧ Q (some (vI 0)) h) ∧
      (¬ (26 ≤ l2) →
      zC1 87 [vR 54 104, vI (iShl 1 l2), vI s0] h (fun v8 h8 =>
      (¬ v8 = 0 →
        (inR ((gI h8 54 0) + 1)) ∧ ∀ h9 : zH, h9 = sI h8 54 0 ((gI h8 54 0) + 1) →
        (zty 103 (gR h9 54 2) h9) ∧ (0 ≤ (l1 : Int)) ∧ ((l1 : Int) < 40) ∧ ∀ h10 : zH, h10 = sI h9 (gR h9 54 2 + 4) l1 l2 →
        (¬ s0 = 0 →
          ((1 : Int) = 0 ∨ (1 : Int) = 1) ∧ Q (some (vI 1)) h10) ∧
          (¬ (¬ s0 = 0) →
          (¬ (gI h10 54 5) = 0 →
            ((1 : Int) = 0 ∨ (1 : Int) = 1) ∧ Q (some (vI 1)) h10) ∧
            (¬ (¬ (gI h10 54 5) = 0) →
            (zty 101 (gR h10 54 1) h10) ∧ zC1 44 [vR (gR h10 54 1) 101, vI (gI h10 54 0)] h10 (fun v11 h11 =>
            (¬ v11 = 58 →
              ((1 : Int) = 0 ∨ (1 : Int) = 1) ∧ Q (some (vI 1)) h11) ∧
              (¬ (¬ v11 = 58) →
              zC1 88 [vR 54 104, vI l1] h11 (fun v12 h12 =>
              (v12 = 0 →
                ((0 : Int) = 0 ∨ (0 : Int) = 1) ∧ Q (some (vI 0)) h12) ∧
                (¬ (v12 = 0) →
                ((1 : Int) = 0 ∨ (1 : Int) = 1) ∧ Q (some (vI 1)) h12))))))) ∧
        (¬ (¬ v8 = 0) →
        ((0 : Int) = 0 ∨ (0 : Int) = 1) ∧ Q (some (vI 0)) h8))))) : zK 86 33 [vR 54 104, vI l1, vI l2, u3] [vI s0] h Q :=
  zwpe_W (cd := c86) rfl [33] 400 33 _ _ _ _ k
-- 87 SyntaxRules$RuleReader.mayBear(IZ)Z
set_option maxRecDepth 100000 in
set_option maxHeartbeats 4000000 in
theorem k87_0 (p1 : Int) (p2 : Int) (h : zH) (Q : Option zV → zH → Prop) (k :
  (p2 = 0 →
    zK 87 15 [vR 54 104, vI p1, vI p2, vU, vU] [vI (gI h 54 9)] h Q) ∧
    (¬ (p2 = 0) →
    zK 87 15 [vR 54 104, vI p1, vI p2, vU, vU] [vI (gI h 54 8)] h Q)) : zK 87 0 [vR 54 104, vI p1, vI p2, vU, vU] [] h Q :=
  zwpe_W (cd := c87) rfl [15, 31, 55] 400 0 _ _ _ _ k
set_option maxRecDepth 100000 in
set_option maxHeartbeats 4000000 in
theorem k87_15 (l1 : Int) (l2 : Int) (u3 : zV) (u4 : zV) (s0 : Int) (h : zH) (Q : Option zV → zH → Prop) (k :
  (l2 = 0 →
    zK 87 31 [vR 54 104, vI l1, vI l2, vI s0, u4] [vI (gI h 54 8)] h Q) ∧
    (¬ (l2 = 0) →
    zK 87 31 [vR 54 104, vI l1, vI l2, vI s0, u4] [vI (gI h 54 9)] h Q)) : zK 87 15 [vR 54 104, vI l1, vI l2, u3, u4] [vI s0] h Q :=
  zwpe_W (cd := c87) rfl [15, 31, 55] 400 15 _ _ _ _ k
set_option maxRecDepth 100000 in
set_option maxHeartbeats 4000000 in
theorem k87_31 (l1 : Int) (l2 : Int) (l3 : Int) (u4 : zV) (s0 : Int) (h : zH) (Q : Option zV → zH → Prop) (k :
  (¬ (iAnd l3 l1) = 0 →
    ((0 : Int) = 0 ∨ (0 : Int) = 1) ∧ Q (some (vI 0)) h) ∧
    (¬ (¬ (iAnd l3 l1) = 0) →
    ((gI h 54 5) = 0 →
      zK 87 55 [vR 54 104, vI l1, vI l2, vI l3, vI s0] [] h Q) ∧
      (¬ ((gI h 54 5) = 0) →
      (¬ (iAnd s0 l1) = 0 →
        zK 87 55 [vR 54 104, vI l1, vI l2, vI l3, vI s0] [] h Q) ∧
        (¬ (¬ (iAnd s0 l1) = 0) →
        ((0 : Int) = 0 ∨ (0 : Int) = 1) ∧ Q (some (vI 0)) h)))) : zK 87 31 [vR 54 104, vI l1, vI l2, vI l3, u4] [vI s0] h Q :=
  zwpe_W (cd := c87) rfl [15, 31, 55] 400 31 _ _ _ _ k
set_option maxRecDepth 100000 in
set_option maxHeartbeats 4000000 in
theorem k87_55 (l1 : Int) (l2 : Int) (u3 : zV) (u4 : zV) (h : zH) (Q : Option zV → zH → Prop) (k :
  (l2 = 0 →
    ∀ h3 : zH, h3 = sI h 54 8 (iOr (gI h 54 8) l1) →
    ((1 : Int) = 0 ∨ (1 : Int) = 1) ∧ Q (some (vI 1)) h3) ∧
    (¬ (l2 = 0) →
    ∀ h4 : zH, h4 = sI h 54 9 (iOr (gI h 54 9) l1) →
    ((1 : Int) = 0 ∨ (1 : Int) = 1) ∧ Q (some (vI 1)) h4)) : zK 87 55 [vR 54 104, vI l1, vI l2, u3, u4] [] h Q :=
  zwpe_W (cd := c87) rfl [15, 31, 55] 400 55 _ _ _ _ k
-- 88 SyntaxRules$RuleReader.readKind(I)Z
set_option maxRecDepth 100000 in
set_option maxHeartbeats 4000000 in
theorem k88_0 (p1 : Int) (h : zH) (Q : Option zV → zH → Prop) (k :
  (inR ((gI h 54 0) + 1)) ∧ ∀ h9 : zH, h9 = sI h 54 0 ((gI h 54 0) + 1) →
  (zty 101 (gR h9 54 1) h9) ∧ zC1 44 [vR (gR h9 54 1) 101, vI (gI h9 54 0)] h9 (fun v10 h10 =>
  (v10 = 99 →
    (zty 103 (gR h10 54 2) h10) ∧ (0 ≤ (p1 : Int)) ∧ ((p1 : Int) < 40) ∧ ∀ h15 : zH, h15 = sI h10 (gR h10 54 2 + 5) p1 2 →
    (inR ((gI h15 54 0) + 1)) ∧ ∀ h16 : zH, h16 = sI h15 54 0 ((gI h15 54 0) + 1) →
    ((1 : Int) = 0 ∨ (1 : Int) = 1) ∧ Q (some (vI 1)) h16) ∧
    (¬ (v10 = 99) →
    (v10 = 110 →
    (zty 103 (gR h10 54 2) h10) ∧ (0 ≤ (p1 : Int)) ∧ ((p1 : Int) < 40) ∧ ∀ h13 : zH, h13 = sI h10 (gR h10 54 2 + 5) p1 0 →
    (inR ((gI h13 54 0) + 1)) ∧ ∀ h14 : zH, h14 = sI h13 54 0 ((gI h13 54 0) + 1) →
    ((1 : Int) = 0 ∨ (1 : Int) = 1) ∧ Q (some (vI 1)) h14) ∧
    (¬ (v10 = 110) →
    (v10 = 119 →
    (zty 103 (gR h10 54 2) h10) ∧ (0 ≤ (p1 : Int)) ∧ ((p1 : Int) < 40) ∧ ∀ h11 : zH, h11 = sI h10 (gR h10 54 2 + 5) p1 1 →
    (inR ((gI h11 54 0) + 1)) ∧ ∀ h12 : zH, h12 = sI h11 54 0 ((gI h11 54 0) + 1) →
    ((1 : Int) = 0 ∨ (1 : Int) = 1) ∧ Q (some (vI 1)) h12) ∧
    (¬ (v10 = 119) →
    ((0 : Int) = 0 ∨ (0 : Int) = 1) ∧ Q (some (vI 0)) h10))))) : zK 88 0 [vR 54 104, vI p1] [] h Q :=
  zwpe_W (cd := c88) rfl [] 400 0 _ _ _ _ k
-- 89 SyntaxRules$RuleReader.finishItem(I)Z
set_option maxRecDepth 100000 in
set_option maxHeartbeats 4000000 in
theorem k89_0 (p1 : Int) (h : zH) (Q : Option zV → zH → Prop) (k :
  (zty 103 (gR h 54 2) h) ∧ (zty 103 (gR h 54 2) h) ∧ (inR ((gI h (gR h 54 2) 13) - p1)) ∧ (0 ≤ (p1 : Int)) ∧ ((p1 : Int) < 40) ∧ ∀ h5 : zH, h5 = sI h (gR h 54 2 + 12) p1 ((gI h (gR h 54 2) 13) - p1) →
  (zty 103 (gR h5 54 2) h5) ∧ (0 ≤ (p1 : Int)) ∧ ((p1 : Int) < 40) ∧ ∀ h6 : zH, h6 = sI h5 54 3 (gI h5 (gR h5 54 2 + 6) p1) →
  ((gI h6 54 3) = (-1) →
    ((1 : Int) = 0 ∨ (1 : Int) = 1) ∧ Q (some (vI 1)) h6) ∧
    (¬ ((gI h6 54 3) = (-1)) →
    (zty 103 (gR h6 54 2) h6) ∧ (0 ≤ (gI h6 54 3 : Int)) ∧ ((gI h6 54 3 : Int) < 40) ∧ (¬ (gI h6 (gR h6 54 2 + 3) (gI h6 54 3)) = 2 →
      ((1 : Int) = 0 ∨ (1 : Int) = 1) ∧ Q (some (vI 1)) h6) ∧
      (¬ (¬ (gI h6 (gR h6 54 2 + 3) (gI h6 54 3)) = 2) →
      (zty 103 (gR h6 54 2) h6) ∧ (zty 103 (gR h6 54 2) h6) ∧ (inR ((gI h6 (gR h6 54 2) 13) - (gI h6 54 3))) ∧ (0 ≤ (gI h6 54 3 : Int)) ∧ ((gI h6 54 3 : Int) < 40) ∧ ∀ h7 : zH, h7 = sI h6 (gR h6 54 2 + 12) (gI h6 54 3) ((gI h6 (gR h6 54 2) 13) - (gI h6 54 3)) →
      (zty 103 (gR h7 54 2) h7) ∧ (0 ≤ (gI h7 54 3 : Int)) ∧ ((gI h7 54 3 : Int) < 40) ∧ ∀ h8 : zH, h8 = sI h7 54 3 (gI h7 (gR h7 54 2 + 6) (gI h7 54 3)) →
      ((1 : Int) = 0 ∨ (1 : Int) = 1) ∧ Q (some (vI 1)) h8))) : zK 89 0 [vR 54 104, vI p1] [] h Q :=
  zwpe_W (cd := c89) rfl [] 400 0 _ _ _ _ k
-- 90 SyntaxRules$Fitting.<init>()V
set_option maxRecDepth 100000 in
set_option maxHeartbeats 4000000 in
theorem k90_0 (a0 : Nat) (h : zH) (Q : Option zV → zH → Prop) (k :
  (¬ (a0 : Nat) = 0) ∧ (0 ≤ (20 : Int) ∧ (20 : Int) ≤ 10000) ∧ ∀ h13 : zH, h13 = nw h 40 ((20 : Int)).toNat →
  (zty 125 a0 h13) ∧ ∀ h14 : zH, h14 = sR h13 a0 0 (nx h) →
  (0 ≤ (20 : Int) ∧ (20 : Int) ≤ 10000) ∧ ∀ h15 : zH, h15 = nw h14 40 ((20 : Int)).toNat →
  (zty 125 a0 h15) ∧ ∀ h16 : zH, h16 = sR h15 a0 1 (nx h14) →
  (0 ≤ (20 : Int) ∧ (20 : Int) ≤ 10000) ∧ ∀ h17 : zH, h17 = nw h16 40 ((20 : Int)).toNat →
  (zty 125 a0 h17) ∧ ∀ h18 : zH, h18 = sR h17 a0 2 (nx h16) →
  (0 ≤ (20 : Int) ∧ (20 : Int) ≤ 10000) ∧ ∀ h19 : zH, h19 = nw h18 40 ((20 : Int)).toNat →
  (zty 125 a0 h19) ∧ ∀ h20 : zH, h20 = sR h19 a0 3 (nx h18) →
  (0 ≤ (20 : Int) ∧ (20 : Int) ≤ 10000) ∧ ∀ h21 : zH, h21 = nw h20 40 ((20 : Int)).toNat →
  (zty 125 a0 h21) ∧ ∀ h22 : zH, h22 = sR h21 a0 4 (nx h20) →
  (0 ≤ (3 : Int) ∧ (3 : Int) ≤ 10000) ∧ ∀ h23 : zH, h23 = nw h22 40 ((3 : Int)).toNat →
  (zty 125 a0 h23) ∧ (gR (sR h23 a0 5 (nx h22)) a0 0 = a0 + 1) ∧ (zty 2140 (a0 + 1) (sR h23 a0 5 (nx h22))) ∧ (gR (sR h23 a0 5 (nx h22)) a0 1 = a0 + 2) ∧ (zty 2140 (a0 + 2) (sR h23 a0 5 (nx h22))) ∧ (gR (sR h23 a0 5 (nx h22)) a0 2 = a0 + 3) ∧ (zty 2140 (a0 + 3) (sR h23 a0 5 (nx h22))) ∧ (gR (sR h23 a0 5 (nx h22)) a0 3 = a0 + 4) ∧ (zty 2140 (a0 + 4) (sR h23 a0 5 (nx h22))) ∧ (gR (sR h23 a0 5 (nx h22)) a0 4 = a0 + 5) ∧ (zty 2140 (a0 + 5) (sR h23 a0 5 (nx h22))) ∧ (gR (sR h23 a0 5 (nx h22)) a0 5 = a0 + 6) ∧ (zty 440 (a0 + 6) (sR h23 a0 5 (nx h22))) ∧ ∀ h24 : zH, h24 = sT (sR h23 a0 5 (nx h22)) a0 5 →
  Q none h24) : zK 90 0 [vR a0 0] [] h Q :=
  zwpe_W (cd := c90) rfl [] 400 0 _ _ _ _ k
-- 91 SyntaxRules$Fitting.fits(LSyntaxRules$Source;LSyntaxRules$Rule;I)Z
set_option maxRecDepth 100000 in
set_option maxHeartbeats 4000000 in
theorem k91_0 (p1 : Nat) (p2 : Nat) (p3 : Int) (h : zH) (Q : Option zV → zH → Prop) (k :
  zC1 94 [vR 56 105, vR p1 102, vR p2 103, vI 0, vI p3, vI 1] h (fun v2 h2 =>
  (v2 ≤ 0 →
    ((0 : Int) = 0 ∨ (0 : Int) = 1) ∧ Q (some (vI 0)) h2) ∧
    (¬ (v2 ≤ 0) →
    ((1 : Int) = 0 ∨ (1 : Int) = 1) ∧ Q (some (vI 1)) h2))) : zK 91 0 [vR 56 105, vR p1 102, vR p2 103, vI p3] [] h Q :=
  zwpe_W (cd := c91) rfl [] 400 0 _ _ _ _ k
-- 92 SyntaxRules$Fitting.fittingRules(LSyntaxRules$Source;[LSyntaxRules$Rule;I)I
set_option maxRecDepth 100000 in
set_option maxHeartbeats 4000000 in
theorem k92_0 (p1 : Nat) (p2 : Nat) (p3 : Int) (h : zH) (Q : Option zV → zH → Prop) (k :
  zK 92 6 [vR 56 105, vR p1 102, vR p2 944, vI p3, vI 0, vI 0] [] h Q) : zK 92 0 [vR 56 105, vR p1 102, vR p2 944, vI p3, vU, vU] [] h Q :=
  zwpe_W (cd := c92) rfl [6] 400 0 _ _ _ _ k
set_option maxRecDepth 100000 in
set_option maxHeartbeats 4000000 in
theorem k92_6 (a1 : Nat) (a2 : Nat) (l3 : Int) (l4 : Int) (l5 : Int) (h : zH) (Q : Option zV → zH → Prop) (k :
  (8 ≤ l5 →
    Q (some (vI l4)) h) ∧
    (¬ (8 ≤ l5) →
    (0 ≤ (l5 : Int)) ∧ ((l5 : Int) < 8) ∧ (((gR h a2 l5) : Nat) = 0 →
      (inR (l5 + 1)) ∧ zK 92 6 [vR 56 105, vR a1 102, vR a2 944, vI l3, vI l4, vI (l5 + 1)] [] h Q) ∧
      (¬ (((gR h a2 l5) : Nat) = 0) →
      (0 ≤ (l5 : Int)) ∧ ((l5 : Int) < 8) ∧ (zty 103 (gR h a2 l5) h) ∧ zC1 94 [vR 56 105, vR a1 102, vR (gR h a2 l5) 103, vI 0, vI l3, vI 1] h (fun v2 h2 =>
      (v2 ≤ 0 →
        (inR (l5 + 1)) ∧ zK 92 6 [vR 56 105, vR a1 102, vR a2 944, vI l3, vI l4, vI (l5 + 1)] [] h2 Q) ∧
        (¬ (v2 ≤ 0) →
        (inR (l5 + 1)) ∧ zK 92 6 [vR 56 105, vR a1 102, vR a2 944, vI l3, vI (iOr l4 (iShl 1 l5)), vI (l5 + 1)] [] h2 Q))))) : zK 92 6 [vR 56 105, vR a1 102, vR a2 944, vI l3, vI l4, vI l5] [] h Q :=
  zwpe_W (cd := c92) rfl [6] 400 6 _ _ _ _ k
-- 93 SyntaxRules$Fitting.firstHeld(I)I
set_option maxRecDepth 100000 in
set_option maxHeartbeats 4000000 in
theorem k93_0 (p1 : Int) (h : zH) (Q : Option zV → zH → Prop) (k :
  (0 ≤ (p1 : Int)) ∧ ((p1 : Int) < 20) ∧ (¬ (gI h 59 p1) = 0 →
    (0 ≤ (p1 : Int)) ∧ ((p1 : Int) < 20) ∧ Q (some (vI (gI h 57 p1))) h) ∧
    (¬ (¬ (gI h 59 p1) = 0) →
    Q (some (vI ((-1)))) h)) : zK 93 0 [vR 56 105, vI p1] [] h Q :=
  zwpe_W (cd := c93) rfl [] 400 0 _ _ _ _ k
-- 94 SyntaxRules$Fitting.search(LSyntaxRules$Source;LSyntaxRules$Rule;III)I
set_option maxRecDepth 100000 in
set_option maxHeartbeats 4000000 in
theorem k94_0 (p1 : Nat) (p2 : Nat) (p3 : Int) (p4 : Int) (p5 : Int) (h : zH) (Q : Option zV → zH → Prop) (k :
  ∀ h8 : zH, h8 = sR h 56 7 p1 →
  ∀ h9 : zH, h9 = sR h8 56 8 p2 →
  ∀ h10 : zH, h10 = sI h9 56 9 p3 →
  ∀ h11 : zH, h11 = sI h10 56 6 0 →
  (zty 103 (gR h11 56 8) h11) ∧ (0 ≤ (gI h11 56 9 : Int)) ∧ ((gI h11 56 9 : Int) < 40) ∧ (inR ((gI h11 56 9) + (gI h11 (gR h11 56 8 + 12) (gI h11 56 9)))) ∧ zK 94 54 [vR 56 105, vR p1 102, vR p2 103, vI p3, vI p4, vI p5, vI ((gI h11 56 9) + (gI h11 (gR h11 56 8 + 12) (gI h11 56 9))), vI 0, vI (gI h11 56 9), vI 1, vI 0, vU] [] h11 Q) : zK 94 0 [vR 56 105, vR p1 102, vR p2 103, vI p3, vI p4, vI p5, vU, vU, vU, vU, vU, vU] [] h Q :=
  zwpe_W (cd := c94) rfl [54, 83, 96, 97, 126, 144, 145] 400 0 _ _ _ _ k
set_option maxRecDepth 100000 in
set_option maxHeartbeats 4000000 in
theorem k94_54 (u1 : zV) (u2 : zV) (u3 : zV) (l4 : Int) (l5 : Int) (l6 : Int) (l7 : Int) (l8 : Int) (l9 : Int) (l10 : Int) (u11 : zV) (h : zH) (Q : Option zV → zH → Prop) (k :
  (1000000 ≤ l10 →
    Q (some (vI l7)) h) ∧
    (¬ (1000000 ≤ l10) →
    (l8 = (-1) →
      Q (some (vI l7)) h) ∧
      (¬ (l8 = (-1)) →
      (l9 = 0 →
        zK 94 83 [vR 56 105, u1, u2, u3, vI l4, vI l5, vI l6, vI l7, vI l8, vI l9, vI l10, u11] [] h Q) ∧
        (¬ (l9 = 0) →
        zC1 98 [vR 56 105, vI l8, vI l4] h (fun v12 h12 =>
        (v12 = 0 →
          zK 94 96 [vR 56 105, u1, u2, u3, vI l4, vI l5, vI l6, vI l7, vI l8, vI l9, vI l10, u11] [] h12 Q) ∧
          (¬ (v12 = 0) →
          zK 94 83 [vR 56 105, u1, u2, u3, vI l4, vI l5, vI l6, vI l7, vI l8, vI l9, vI l10, u11] [] h12 Q)))))) : zK 94 54 [vR 56 105, u1, u2, u3, vI l4, vI l5, vI l6, vI l7, vI l8, vI l9, vI l10, u11] [] h Q :=
  zwpe_W (cd := c94) rfl [54, 83, 96, 97, 126, 144, 145] 400 54 _ _ _ _ k
set_option maxRecDepth 100000 in
set_option maxHeartbeats 4000000 in
theorem k94_83 (u1 : zV) (u2 : zV) (u3 : zV) (l4 : Int) (l5 : Int) (l6 : Int) (l7 : Int) (l8 : Int) (u9 : zV) (l10 : Int) (u11 : zV) (h : zH) (Q : Option zV → zH → Prop) (k :
  zC1 103 [vR 56 105, vI l8] h (fun v13 h13 =>
  (v13 = 0 →
    zK 94 96 [vR 56 105, u1, u2, u3, vI l4, vI l5, vI l6, vI l7, vI l8, u9, vI l10, u11] [] h13 Q) ∧
    (¬ (v13 = 0) →
    zK 94 97 [vR 56 105, u1, u2, u3, vI l4, vI l5, vI l6, vI l7, vI l8, u9, vI l10, u11] [vI 1] h13 Q))) : zK 94 83 [vR 56 105, u1, u2, u3, vI l4, vI l5, vI l6, vI l7, vI l8, u9, vI l10, u11] [] h Q :=
  zwpe_W (cd := c94) rfl [54, 83, 96, 97, 126, 144, 145] 400 83 _ _ _ _ k
set_option maxRecDepth 100000 in
set_option maxHeartbeats 4000000 in
theorem k94_96 (u1 : zV) (u2 : zV) (u3 : zV) (l4 : Int) (l5 : Int) (l6 : Int) (l7 : Int) (l8 : Int) (u9 : zV) (l10 : Int) (u11 : zV) (h : zH) (Q : Option zV → zH → Prop) (k :
  zK 94 97 [vR 56 105, u1, u2, u3, vI l4, vI l5, vI l6, vI l7, vI l8, u9, vI l10, u11] [vI 0] h Q) : zK 94 96 [vR 56 105, u1, u2, u3, vI l4, vI l5, vI l6, vI l7, vI l8, u9, vI l10, u11] [] h Q :=
  zwpe_W (cd := c94) rfl [54, 83, 96, 97, 126, 144, 145] 400 96 _ _ _ _ k
set_option maxRecDepth 100000 in
set_option maxHeartbeats 4000000 in
theorem k94_97 (u1 : zV) (u2 : zV) (u3 : zV) (l4 : Int) (l5 : Int) (l6 : Int) (l7 : Int) (l8 : Int) (u9 : zV) (l10 : Int) (u11 : zV) (s0 : Int) (h : zH) (Q : Option zV → zH → Prop) (k :
  (s0 = 0 →
    zK 94 126 [vR 56 105, u1, u2, u3, vI l4, vI l5, vI l6, vI l7, vI l8, u9, vI l10, vI s0] [] h Q) ∧
    (¬ (s0 = 0) →
    (inR (l8 + 1)) ∧ (¬ (l8 + 1) = l6 →
      zK 94 126 [vR 56 105, u1, u2, u3, vI l4, vI l5, vI l6, vI l7, vI l8, u9, vI l10, vI s0] [] h Q) ∧
      (¬ (¬ (l8 + 1) = l6) →
      (inR (l7 + 1)) ∧ ((l7 + 1) < l5 →
        zK 94 126 [vR 56 105, u1, u2, u3, vI l4, vI l5, vI l6, vI (l7 + 1), vI l8, u9, vI l10, vI s0] [] h Q) ∧
        (¬ ((l7 + 1) < l5) →
        Q (some (vI (l7 + 1))) h)))) : zK 94 97 [vR 56 105, u1, u2, u3, vI l4, vI l5, vI l6, vI l7, vI l8, u9, vI l10, u11] [vI s0] h Q :=
  zwpe_W (cd := c94) rfl [54, 83, 96, 97, 126, 144, 145] 400 97 _ _ _ _ k
set_option maxRecDepth 100000 in
set_option maxHeartbeats 4000000 in
theorem k94_126 (u1 : zV) (u2 : zV) (u3 : zV) (l4 : Int) (l5 : Int) (l6 : Int) (l7 : Int) (l8 : Int) (u9 : zV) (l10 : Int) (l11 : Int) (h : zH) (Q : Option zV → zH → Prop) (k :
  (l11 = 0 →
    zK 94 144 [vR 56 105, u1, u2, u3, vI l4, vI l5, vI l6, vI l7, vI l8, u9, vI l10, vI l11] [] h Q) ∧
    (¬ (l11 = 0) →
    (inR (l8 + 1)) ∧ (l6 ≤ (l8 + 1) →
      zK 94 144 [vR 56 105, u1, u2, u3, vI l4, vI l5, vI l6, vI l7, vI l8, u9, vI l10, vI l11] [] h Q) ∧
      (¬ (l6 ≤ (l8 + 1)) →
      zK 94 145 [vR 56 105, u1, u2, u3, vI l4, vI l5, vI l6, vI l7, vI l8, u9, vI l10, vI l11] [vI 1] h Q))) : zK 94 126 [vR 56 105, u1, u2, u3, vI l4, vI l5, vI l6, vI l7, vI l8, u9, vI l10, vI l11] [] h Q :=
  zwpe_W (cd := c94) rfl [54, 83, 96, 97, 126, 144, 145] 400 126 _ _ _ _ k
set_option maxRecDepth 100000 in
set_option maxHeartbeats 4000000 in
theorem k94_144 (u1 : zV) (u2 : zV) (u3 : zV) (l4 : Int) (l5 : Int) (l6 : Int) (l7 : Int) (l8 : Int) (u9 : zV) (l10 : Int) (u11 : zV) (h : zH) (Q : Option zV → zH → Prop) (k :
  zK 94 145 [vR 56 105, u1, u2, u3, vI l4, vI l5, vI l6, vI l7, vI l8, u9, vI l10, u11] [vI 0] h Q) : zK 94 144 [vR 56 105, u1, u2, u3, vI l4, vI l5, vI l6, vI l7, vI l8, u9, vI l10, u11] [] h Q :=
  zwpe_W (cd := c94) rfl [54, 83, 96, 97, 126, 144, 145] 400 144 _ _ _ _ k
set_option maxRecDepth 100000 in
set_option maxHeartbeats 4000000 in
theorem k94_145 (u1 : zV) (u2 : zV) (u3 : zV) (l4 : Int) (l5 : Int) (l6 : Int) (l7 : Int) (l8 : Int) (u9 : zV) (l10 : Int) (u11 : zV) (s0 : Int) (h : zH) (Q : Option zV → zH → Prop) (k :
  (s0 = 0 →
    zC1 95 [vR 56 105] h (fun v14 h14 =>
    (inR (l10 + 1)) ∧ zK 94 54 [vR 56 105, u1, u2, u3, vI l4, vI l5, vI l6, vI l7, vI v14, vI s0, vI (l10 + 1), u11] [] h14 Q)) ∧
    (¬ (s0 = 0) →
    (inR (l8 + 1)) ∧ (inR (l10 + 1)) ∧ zK 94 54 [vR 56 105, u1, u2, u3, vI l4, vI l5, vI l6, vI l7, vI (l8 + 1), vI s0, vI (l10 + 1), u11] [] h Q)) : zK 94 145 [vR 56 105, u1, u2, u3, vI l4, vI l5, vI l6, vI l7, vI l8, u9, vI l10, u11] [vI s0] h Q :=
  zwpe_W (cd := c94) rfl [54, 83, 96, 97, 126, 144, 145] 400 145 _ _ _ _ k
-- 95 SyntaxRules$Fitting.nextChoice()I
set_option maxRecDepth 100000 in
set_option maxHeartbeats 4000000 in
theorem k95_0 (h : zH) (Q : Option zV → zH → Prop) (k :
  (inR ((gI h 56 6) - 1)) ∧ zK 95 7 [vR 56 105, vI ((gI h 56 6) - 1)] [] h Q) : zK 95 0 [vR 56 105, vU] [] h Q :=
  zwpe_W (cd := c95) rfl [7] 400 0 _ _ _ _ k
set_option maxRecDepth 100000 in
set_option maxHeartbeats 4000000 in
theorem k95_7 (l1 : Int) (h : zH) (Q : Option zV → zH → Prop) (k :
  (l1 < 0 →
    Q (some (vI ((-1)))) h) ∧
    (¬ (l1 < 0) →
    (0 ≤ (l1 : Int)) ∧ ((l1 : Int) < 3) ∧ zC1 96 [vR 56 105, vI (gI h 62 l1)] h (fun v3 h3 =>
    (v3 = 0 →
      ∀ h4 : zH, h4 = sI h3 56 6 l1 →
      (inR (l1 + (-1))) ∧ zK 95 7 [vR 56 105, vI (l1 + (-1))] [] h4 Q) ∧
      (¬ (v3 = 0) →
      (0 ≤ (l1 : Int)) ∧ ((l1 : Int) < 3) ∧ Q (some (vI (gI h3 62 l1))) h3)))) : zK 95 7 [vR 56 105, vI l1] [] h Q :=
  zwpe_W (cd := c95) rfl [7] 400 7 _ _ _ _ k
-- 96 SyntaxRules$Fitting.choosesMore(I)Z
set_option maxRecDepth 100000 in
set_option maxHeartbeats 4000000 in
theorem k96_0 (p1 : Int) (h : zH) (Q : Option zV → zH → Prop) (k :
  (zty 103 (gR h 56 8) h) ∧ (0 ≤ (p1 : Int)) ∧ ((p1 : Int) < 40) ∧ (¬ (gI h (gR h 56 8 + 3) p1) = 2 →
    (0 ≤ (p1 : Int)) ∧ ((p1 : Int) < 20) ∧ (zty 103 (gR h 56 8) h) ∧ zC1 70 [vR (gR h 56 8) 103, vI p1] h (fun v4 h4 =>
    (v4 < (gI h 61 p1) →
      zC0 102 [vR 56 105, vI p1] h4 (fun h5 =>
      ((1 : Int) = 0 ∨ (1 : Int) = 1) ∧ Q (some (vI 1)) h5)) ∧
      (¬ (v4 < (gI h 61 p1)) →
      ((0 : Int) = 0 ∨ (0 : Int) = 1) ∧ Q (some (vI 0)) h4))) ∧
    (¬ (¬ (gI h (gR h 56 8 + 3) p1) = 2) →
    (0 ≤ (p1 : Int)) ∧ ((p1 : Int) < 20) ∧ (inR ((gI h 57 p1) + 1)) ∧ (0 ≤ (p1 : Int)) ∧ ((p1 : Int) < 20) ∧ ∀ h6 : zH, h6 = sI h 57 p1 ((gI h 57 p1) + 1) →
    (0 ≤ (p1 : Int)) ∧ ((p1 : Int) < 20) ∧ (0 ≤ (p1 : Int)) ∧ ((p1 : Int) < 20) ∧ ((gI h6 60 p1) ≤ (gI h6 57 p1) →
      ((0 : Int) = 0 ∨ (0 : Int) = 1) ∧ Q (some (vI 0)) h6) ∧
      (¬ ((gI h6 60 p1) ≤ (gI h6 57 p1)) →
      ((1 : Int) = 0 ∨ (1 : Int) = 1) ∧ Q (some (vI 1)) h6))) : zK 96 0 [vR 56 105, vI p1] [] h Q :=
  zwpe_W (cd := c96) rfl [] 400 0 _ _ _ _ k
-- 97 SyntaxRules$Fitting.reach(II)V
set_option maxRecDepth 100000 in
set_option maxHeartbeats 4000000 in
theorem k97_0 (p1 : Int) (p2 : Int) (h : zH) (Q : Option zV → zH → Prop) (k :
  (¬ p1 = (gI h 56 9) →
    (zty 103 (gR h 56 8) h) ∧ (0 ≤ (p1 : Int)) ∧ ((p1 : Int) < 40) ∧ zK 97 21 [vR 56 105, vI p1, vI p2, vU, vU] [vI (gI h (gR h 56 8 + 6) p1)] h Q) ∧
    (¬ (¬ p1 = (gI h 56 9)) →
    zK 97 21 [vR 56 105, vI p1, vI p2, vU, vU] [vI ((-1))] h Q)) : zK 97 0 [vR 56 105, vI p1, vI p2, vU, vU] [] h Q :=
  zwpe_W (cd := c97) rfl [21] 400 0 _ _ _ _ k
set_option maxRecDepth 100000 in
set_option maxHeartbeats 4000000 in
theorem k97_21 (l1 : Int) (l2 : Int) (u3 : zV) (u4 : zV) (s0 : Int) (h : zH) (Q : Option zV → zH → Prop) (k :
  (¬ s0 = (-1) →
    (zty 103 (gR h 56 8) h) ∧ (0 ≤ (l1 : Int)) ∧ ((l1 : Int) < 40) ∧ (zty 103 (gR h 56 8) h) ∧ (0 ≤ (s0 : Int)) ∧ ((s0 : Int) < 40) ∧ (¬ (gI h (gR h 56 8 + 3) s0) = 2 →
      (¬ (gI h (gR h 56 8 + 7) l1) = (-1) →
        (0 ≤ (gI h (gR h 56 8 + 7) l1 : Int)) ∧ ((gI h (gR h 56 8 + 7) l1 : Int) < 20) ∧ ∀ h9 : zH, h9 = sI h 56 10 (gI h 60 (gI h (gR h 56 8 + 7) l1)) →
        (0 ≤ (gI h (gR h 56 8 + 7) l1 : Int)) ∧ ((gI h (gR h 56 8 + 7) l1 : Int) < 20) ∧ ∀ h10 : zH, h10 = sI h9 56 11 (gI h9 61 (gI h (gR h 56 8 + 7) l1)) →
        Q none h10) ∧
        (¬ (¬ (gI h (gR h 56 8 + 7) l1) = (-1)) →
        (0 ≤ (s0 : Int)) ∧ ((s0 : Int) < 20) ∧ (inR ((gI h 57 s0) + 1)) ∧ ∀ h11 : zH, h11 = sI h 56 10 ((gI h 57 s0) + 1) →
        (zty 102 (gR h11 56 7) h11) ∧ (0 ≤ (s0 : Int)) ∧ ((s0 : Int) < 20) ∧ (0 ≤ (gI h11 57 s0 : Int)) ∧ ((gI h11 57 s0 : Int) < 60) ∧ ∀ h12 : zH, h12 = sI h11 56 11 (gI h11 (gR h11 56 7 + 6) (gI h11 57 s0)) →
        Q none h12)) ∧
      (¬ (¬ (gI h (gR h 56 8 + 3) s0) = 2) →
      (0 ≤ (s0 : Int)) ∧ ((s0 : Int) < 20) ∧ ∀ h13 : zH, h13 = sI h 56 10 (gI h 57 s0) →
      ∀ h14 : zH, h14 = sI h13 56 11 1 →
      Q none h14)) ∧
    (¬ (¬ s0 = (-1)) →
    ∀ h15 : zH, h15 = sI h 56 10 l2 →
    ∀ h16 : zH, h16 = sI h15 56 11 1 →
    Q none h16)) : zK 97 21 [vR 56 105, vI l1, vI l2, u3, u4] [vI s0] h Q :=
  zwpe_W (cd := c97) rfl [21] 400 21 _ _ _ _ k
-- 98 SyntaxRules$Fitting.enter(II)Z
set_option maxRecDepth 100000 in
set_option maxHeartbeats 4000000 in
theorem k98_0 (p1 : Int) (p2 : Int) (h : zH) (Q : Option zV → zH → Prop) (k :
  zC0 97 [vR 56 105, vI p1, vI p2] h (fun h12 =>
  (zty 103 (gR h12 56 8) h12) ∧ (0 ≤ (p1 : Int)) ∧ ((p1 : Int) < 40) ∧ (¬ (gI h12 (gR h12 56 8 + 3) p1) = 5 →
    (1 ≤ (gI h12 56 11) →
      (0 ≤ (p1 : Int)) ∧ ((p1 : Int) < 20) ∧ ∀ h13 : zH, h13 = sI h12 57 p1 (gI h12 56 10) →
      (0 ≤ (p1 : Int)) ∧ ((p1 : Int) < 20) ∧ ∀ h14 : zH, h14 = sI h13 58 p1 (gI h13 56 10) →
      (0 ≤ (p1 : Int)) ∧ ((p1 : Int) < 20) ∧ ∀ h15 : zH, h15 = sI h14 59 p1 1 →
      (zty 102 (gR h15 56 7) h15) ∧ (0 ≤ (gI h15 56 10 : Int)) ∧ ((gI h15 56 10 : Int) < 60) ∧ (inR ((gI h15 56 10) + (gI h15 (gR h15 56 7 + 9) (gI h15 56 10)))) ∧ (0 ≤ (p1 : Int)) ∧ ((p1 : Int) < 20) ∧ ∀ h16 : zH, h16 = sI h15 60 p1 ((gI h15 56 10) + (gI h15 (gR h15 56 7 + 9) (gI h15 56 10))) →
      (inR ((gI h16 56 11) - 1)) ∧ (0 ≤ (p1 : Int)) ∧ ((p1 : Int) < 20) ∧ ∀ h17 : zH, h17 = sI h16 61 p1 ((gI h16 56 11) - 1) →
      (zty 102 (gR h17 56 7) h17) ∧ (0 ≤ (gI h17 56 10 : Int)) ∧ ((gI h17 56 10 : Int) < 60) ∧ (¬ (gI h17 (gR h17 56 7 + 3) (gI h17 56 10)) = 2 →
        zK 98 118 [vR 56 105, vI p1, vI p2, vU] [vI 0] h17 Q) ∧
        (¬ (¬ (gI h17 (gR h17 56 7 + 3) (gI h17 56 10)) = 2) →
        zK 98 118 [vR 56 105, vI p1, vI p2, vU] [vI 1] h17 Q)) ∧
      (¬ (1 ≤ (gI h12 56 11)) →
      ((0 : Int) = 0 ∨ (0 : Int) = 1) ∧ Q (some (vI 0)) h12)) ∧
    (¬ (¬ (gI h12 (gR h12 56 8 + 3) p1) = 5) →
    zC1 101 [vR 56 105, vI p1] h12 (fun v18 h18 =>
    ((v18 : Int) = 0 ∨ (v18 : Int) = 1) ∧ Q (some (vI v18)) h18)))) : zK 98 0 [vR 56 105, vI p1, vI p2, vU] [] h Q :=
  zwpe_W (cd := c98) rfl [118] 400 0 _ _ _ _ k
set_option maxRecDepth 100000 in
set_option maxHeartbeats 4000000 in
theorem k98_118 (l1 : Int) (u2 : zV) (u3 : zV) (s0 : Int) (h : zH) (Q : Option zV → zH → Prop) (k :
  (zty 103 (gR h 56 8) h) ∧ (0 ≤ (l1 : Int)) ∧ ((l1 : Int) < 40) ∧ ((gI h (gR h 56 8 + 3) l1) = (1 : Int) →
    (zty 103 (gR h 56 8) h) ∧ (0 ≤ (l1 : Int)) ∧ ((l1 : Int) < 40) ∧ ((gI h (gR h 56 8 + 5) l1) = (-1) →
      ((1 : Int) = 0 ∨ (1 : Int) = 1) ∧ Q (some (vI 1)) h) ∧
      (¬ ((gI h (gR h 56 8 + 5) l1) = (-1)) →
      (zty 103 (gR h 56 8) h) ∧ (0 ≤ (l1 : Int)) ∧ ((l1 : Int) < 40) ∧ (zty 102 (gR h 56 7) h) ∧ (0 ≤ (gI h 56 10 : Int)) ∧ ((gI h 56 10 : Int) < 60) ∧ (¬ (gI h (gR h 56 8 + 5) l1) = (gI h (gR h 56 7 + 3) (gI h 56 10)) →
        ((0 : Int) = 0 ∨ (0 : Int) = 1) ∧ Q (some (vI 0)) h) ∧
        (¬ (¬ (gI h (gR h 56 8 + 5) l1) = (gI h (gR h 56 7 + 3) (gI h 56 10))) →
        ((1 : Int) = 0 ∨ (1 : Int) = 1) ∧ Q (some (vI 1)) h))) ∧
    (¬ ((gI h (gR h 56 8 + 3) l1) = (1 : Int)) →
    ((gI h (gR h 56 8 + 3) l1) = ((1 : Int) + 1) →
    zC1 100 [vR 56 105, vI l1] h (fun v22 h22 =>
    ((v22 : Int) = 0 ∨ (v22 : Int) = 1) ∧ Q (some (vI v22)) h22)) ∧
    (¬ ((gI h (gR h 56 8 + 3) l1) = ((1 : Int) + 1)) →
    ((gI h (gR h 56 8 + 3) l1) = ((1 : Int) + 1 + 1) →
    (¬ s0 = 0 →
      ((0 : Int) = 0 ∨ (0 : Int) = 1) ∧ Q (some (vI 0)) h) ∧
      (¬ (¬ s0 = 0) →
      (zty 102 (gR h 56 7) h) ∧ (zty 103 (gR h 56 8) h) ∧ zC1 63 [vR (gR h 56 7) 102, vI (gI h 56 10), vR (gR h 56 8) 103, vI l1] h (fun v21 h21 =>
      (v21 = 0 →
        ((0 : Int) = 0 ∨ (0 : Int) = 1) ∧ Q (some (vI 0)) h21) ∧
        (¬ (v21 = 0) →
        ((1 : Int) = 0 ∨ (1 : Int) = 1) ∧ Q (some (vI 1)) h21)))) ∧
    (¬ ((gI h (gR h 56 8 + 3) l1) = ((1 : Int) + 1 + 1)) →
    ((gI h (gR h 56 8 + 3) l1) = ((1 : Int) + 1 + 1 + 1) →
    (s0 = 0 →
      ((0 : Int) = 0 ∨ (0 : Int) = 1) ∧ Q (some (vI 0)) h) ∧
      (¬ (s0 = 0) →
      (zty 102 (gR h 56 7) h) ∧ (zty 103 (gR h 56 8) h) ∧ zC1 63 [vR (gR h 56 7) 102, vI (gI h 56 10), vR (gR h 56 8) 103, vI l1] h (fun v19 h19 =>
      (v19 = 0 →
        ((0 : Int) = 0 ∨ (0 : Int) = 1) ∧ Q (some (vI 0)) h19) ∧
        (¬ (v19 = 0) →
        zC1 99 [vR 56 105, vI l1] h19 (fun v20 h20 =>
        (v20 = 0 →
          ((0 : Int) = 0 ∨ (0 : Int) = 1) ∧ Q (some (vI 0)) h20) ∧
          (¬ (v20 = 0) →
          ((1 : Int) = 0 ∨ (1 : Int) = 1) ∧ Q (some (vI 1)) h20)))))) ∧
    (¬ ((gI h (gR h 56 8 + 3) l1) = ((1 : Int) + 1 + 1 + 1)) →
    ((1 : Int) = 0 ∨ (1 : Int) = 1) ∧ Q (some (vI 1)) h))))) : zK 98 118 [vR 56 105, vI l1, u2, u3] [vI s0] h Q :=
  zwpe_W (cd := c98) rfl [118] 400 118 _ _ _ _ k
-- 99 SyntaxRules$Fitting.hasParts(I)Z
set_option maxRecDepth 100000 in
set_option maxHeartbeats 4000000 in
theorem k99_0 (p1 : Int) (h : zH) (Q : Option zV → zH → Prop) (k :
  (zty 103 (gR h 56 8) h) ∧ (0 ≤ (p1 : Int)) ∧ ((p1 : Int) < 40) ∧ (zty 103 (gR h 56 8) h) ∧ (0 ≤ (p1 : Int)) ∧ ((p1 : Int) < 40) ∧ (inR ((gI h (gR h 56 8 + 9) p1) - (gI h (gR h 56 8 + 10) p1))) ∧ (zty 103 (gR h 56 8) h) ∧ (0 ≤ (p1 : Int)) ∧ ((p1 : Int) < 40) ∧ (¬ (gI h (gR h 56 8 + 10) p1) = 0 →
    (zty 102 (gR h 56 7) h) ∧ (0 ≤ (gI h 56 10 : Int)) ∧ ((gI h 56 10 : Int) < 60) ∧ ((gI h (gR h 56 7 + 6) (gI h 56 10)) < ((gI h (gR h 56 8 + 9) p1) - (gI h (gR h 56 8 + 10) p1)) →
      ((0 : Int) = 0 ∨ (0 : Int) = 1) ∧ Q (some (vI 0)) h) ∧
      (¬ ((gI h (gR h 56 7 + 6) (gI h 56 10)) < ((gI h (gR h 56 8 + 9) p1) - (gI h (gR h 56 8 + 10) p1))) →
      ((1 : Int) = 0 ∨ (1 : Int) = 1) ∧ Q (some (vI 1)) h)) ∧
    (¬ (¬ (gI h (gR h 56 8 + 10) p1) = 0) →
    (zty 102 (gR h 56 7) h) ∧ (0 ≤ (gI h 56 10 : Int)) ∧ ((gI h 56 10 : Int) < 60) ∧ (¬ (gI h (gR h 56 7 + 6) (gI h 56 10)) = ((gI h (gR h 56 8 + 9) p1) - (gI h (gR h 56 8 + 10) p1)) →
      ((0 : Int) = 0 ∨ (0 : Int) = 1) ∧ Q (some (vI 0)) h) ∧
      (¬ (¬ (gI h (gR h 56 7 + 6) (gI h 56 10)) = ((gI h (gR h 56 8 + 9) p1) - (gI h (gR h 56 8 + 10) p1))) →
      ((1 : Int) = 0 ∨ (1 : Int) = 1) ∧ Q (some (vI 1)) h))) : zK 99 0 [vR 56 105, vI p1, vU] [] h Q :=
  zwpe_W (cd := c99) rfl [] 400 0 _ _ _ _ k
-- 100 SyntaxRules$Fitting.openChoice(I)Z
set_option maxRecDepth 100000 in
set_option maxHeartbeats 4000000 in
theorem k100_0 (p1 : Int) (h : zH) (Q : Option zV → zH → Prop) (k :
  (3 ≤ (gI h 56 6) →
    ((1 : Int) = 0 ∨ (1 : Int) = 1) ∧ Q (some (vI 1)) h) ∧
    (¬ (3 ≤ (gI h 56 6)) →
    (0 ≤ (gI h 56 6 : Int)) ∧ ((gI h 56 6 : Int) < 3) ∧ ∀ h3 : zH, h3 = sI h 62 (gI h 56 6) p1 →
    (inR ((gI h3 56 6) + 1)) ∧ ∀ h4 : zH, h4 = sI h3 56 6 ((gI h3 56 6) + 1) →
    ((1 : Int) = 0 ∨ (1 : Int) = 1) ∧ Q (some (vI 1)) h4)) : zK 100 0 [vR 56 105, vI p1] [] h Q :=
  zwpe_W (cd := c100) rfl [] 400 0 _ _ _ _ k
-- 101 SyntaxRules$Fitting.enterRow(I)Z
set_option maxRecDepth 100000 in
set_option maxHeartbeats 4000000 in
theorem k101_0 (p1 : Int) (h : zH) (Q : Option zV → zH → Prop) (k :
  (0 ≤ (p1 : Int)) ∧ ((p1 : Int) < 20) ∧ ∀ h10 : zH, h10 = sI h 57 p1 (gI h 56 10) →
  (0 ≤ (p1 : Int)) ∧ ((p1 : Int) < 20) ∧ ∀ h11 : zH, h11 = sI h10 58 p1 (-1) →
  (0 ≤ (p1 : Int)) ∧ ((p1 : Int) < 20) ∧ ∀ h12 : zH, h12 = sI h11 59 p1 0 →
  (0 ≤ (p1 : Int)) ∧ ((p1 : Int) < 20) ∧ ∀ h13 : zH, h13 = sI h12 60 p1 (gI h12 56 10) →
  (0 ≤ (p1 : Int)) ∧ ((p1 : Int) < 20) ∧ ∀ h14 : zH, h14 = sI h13 61 p1 (gI h13 56 11) →
  (zty 103 (gR h14 56 8) h14) ∧ zC1 69 [vR (gR h14 56 8) 103, vI p1] h14 (fun v15 h15 =>
  (v15 ≤ 0 →
    (zty 103 (gR h15 56 8) h15) ∧ zC1 70 [vR (gR h15 56 8) 103, vI p1] h15 (fun v16 h16 =>
    (inR ((gI h15 56 11) - v16)) ∧ zK 101 77 [vR 56 105, vI p1, vI ((gI h15 56 11) - v16), vI 0] [] h16 Q)) ∧
    (¬ (v15 ≤ 0) →
    zC1 100 [vR 56 105, vI p1] h15 (fun v17 h17 =>
    ((v17 : Int) = 0 ∨ (v17 : Int) = 1) ∧ Q (some (vI v17)) h17)))) : zK 101 0 [vR 56 105, vI p1, vU, vU] [] h Q :=
  zwpe_W (cd := c101) rfl [77] 400 0 _ _ _ _ k
set_option maxRecDepth 100000 in
set_option maxHeartbeats 4000000 in
theorem k101_77 (l1 : Int) (l2 : Int) (l3 : Int) (h : zH) (Q : Option zV → zH → Prop) (k :
  (l2 ≤ l3 →
    ((1 : Int) = 0 ∨ (1 : Int) = 1) ∧ Q (some (vI 1)) h) ∧
    (¬ (l2 ≤ l3) →
    zC0 102 [vR 56 105, vI l1] h (fun h18 =>
    (inR (l3 + 1)) ∧ zK 101 77 [vR 56 105, vI l1, vI l2, vI (l3 + 1)] [] h18 Q))) : zK 101 77 [vR 56 105, vI l1, vI l2, vI l3] [] h Q :=
  zwpe_W (cd := c101) rfl [77] 400 77 _ _ _ _ k
-- 102 SyntaxRules$Fitting.takePart(I)V
set_option maxRecDepth 100000 in
set_option maxHeartbeats 4000000 in
theorem k102_0 (p1 : Int) (h : zH) (Q : Option zV → zH → Prop) (k :
  (0 ≤ (p1 : Int)) ∧ ((p1 : Int) < 20) ∧ (0 ≤ (p1 : Int)) ∧ ((p1 : Int) < 20) ∧ ∀ h5 : zH, h5 = sI h 58 p1 (gI h 60 p1) →
  (0 ≤ (p1 : Int)) ∧ ((p1 : Int) < 20) ∧ (zty 102 (gR h5 56 7) h5) ∧ (0 ≤ (p1 : Int)) ∧ ((p1 : Int) < 20) ∧ (0 ≤ (gI h5 60 p1 : Int)) ∧ ((gI h5 60 p1 : Int) < 60) ∧ (inR ((gI h5 60 p1) + (gI h5 (gR h5 56 7 + 9) (gI h5 60 p1)))) ∧ (0 ≤ (p1 : Int)) ∧ ((p1 : Int) < 20) ∧ ∀ h6 : zH, h6 = sI h5 60 p1 ((gI h5 60 p1) + (gI h5 (gR h5 56 7 + 9) (gI h5 60 p1))) →
  (0 ≤ (p1 : Int)) ∧ ((p1 : Int) < 20) ∧ (inR ((gI h6 61 p1) - 1)) ∧ (0 ≤ (p1 : Int)) ∧ ((p1 : Int) < 20) ∧ ∀ h7 : zH, h7 = sI h6 61 p1 ((gI h6 61 p1) - 1) →
  (0 ≤ (p1 : Int)) ∧ ((p1 : Int) < 20) ∧ (inR ((gI h7 59 p1) + 1)) ∧ (0 ≤ (p1 : Int)) ∧ ((p1 : Int) < 20) ∧ ∀ h8 : zH, h8 = sI h7 59 p1 ((gI h7 59 p1) + 1) →
  Q none h8) : zK 102 0 [vR 56 105, vI p1] [] h Q :=
  zwpe_W (cd := c102) rfl [] 400 0 _ _ _ _ k
-- 103 SyntaxRules$Fitting.isAsBefore(I)Z
set_option maxRecDepth 100000 in
set_option maxHeartbeats 4000000 in
theorem k103_0 (p1 : Int) (h : zH) (Q : Option zV → zH → Prop) (k :
  (zty 103 (gR h 56 8) h) ∧ (0 ≤ (p1 : Int)) ∧ ((p1 : Int) < 40) ∧ (¬ (gI h (gR h 56 8 + 4) p1) = (-1) →
    (zty 103 (gR h 56 8) h) ∧ (zty 103 (gR h 56 8) h) ∧ (0 ≤ (p1 : Int)) ∧ ((p1 : Int) < 40) ∧ zC1 68 [vR (gR h 56 8) 103, vI (gI h 56 9), vI (gI h (gR h 56 8 + 4) p1)] h (fun v3 h3 =>
    zK 103 37 [vR 56 105, vI p1, vU, vU] [vI v3] h3 Q)) ∧
    (¬ (¬ (gI h (gR h 56 8 + 4) p1) = (-1)) →
    zK 103 37 [vR 56 105, vI p1, vU, vU] [vI p1] h Q)) : zK 103 0 [vR 56 105, vI p1, vU, vU] [] h Q :=
  zwpe_W (cd := c103) rfl [37] 400 0 _ _ _ _ k
set_option maxRecDepth 100000 in
set_option maxHeartbeats 4000000 in
theorem k103_37 (l1 : Int) (u2 : zV) (u3 : zV) (s0 : Int) (h : zH) (Q : Option zV → zH → Prop) (k :
  (s0 = (-1) →
    ((1 : Int) = 0 ∨ (1 : Int) = 1) ∧ Q (some (vI 1)) h) ∧
    (¬ (s0 = (-1)) →
    (¬ s0 = l1 →
      (0 ≤ (l1 : Int)) ∧ ((l1 : Int) < 20) ∧ (0 ≤ (l1 : Int)) ∧ ((l1 : Int) < 20) ∧ (inR ((gI h 60 l1) - (gI h 57 l1))) ∧ (0 ≤ (s0 : Int)) ∧ ((s0 : Int) < 20) ∧ (0 ≤ (l1 : Int)) ∧ ((l1 : Int) < 20) ∧ (¬ (gI h 59 s0) = (gI h 59 l1) →
        ((0 : Int) = 0 ∨ (0 : Int) = 1) ∧ Q (some (vI 0)) h) ∧
        (¬ (¬ (gI h 59 s0) = (gI h 59 l1)) →
        (0 ≤ (s0 : Int)) ∧ ((s0 : Int) < 20) ∧ (0 ≤ (s0 : Int)) ∧ ((s0 : Int) < 20) ∧ (inR ((gI h 60 s0) - (gI h 57 s0))) ∧ (¬ ((gI h 60 s0) - (gI h 57 s0)) = ((gI h 60 l1) - (gI h 57 l1)) →
          ((0 : Int) = 0 ∨ (0 : Int) = 1) ∧ Q (some (vI 0)) h) ∧
          (¬ (¬ ((gI h 60 s0) - (gI h 57 s0)) = ((gI h 60 l1) - (gI h 57 l1))) →
          (zty 102 (gR h 56 7) h) ∧ (0 ≤ (s0 : Int)) ∧ ((s0 : Int) < 20) ∧ (0 ≤ (l1 : Int)) ∧ ((l1 : Int) < 20) ∧ zC1 62 [vR (gR h 56 7) 102, vI (gI h 57 s0), vI (gI h 57 l1), vI ((gI h 60 l1) - (gI h 57 l1))] h (fun v4 h4 =>
          (v4 = 0 →
            ((0 : Int) = 0 ∨ (0 : Int) = 1) ∧ Q (some (vI 0)) h4) ∧
            (¬ (v4 = 0) →
            ((1 : Int) = 0 ∨ (1 : Int) = 1) ∧ Q (some (vI 1)) h4))))) ∧
      (¬ (¬ s0 = l1) →
      ((1 : Int) = 0 ∨ (1 : Int) = 1) ∧ Q (some (vI 1)) h))) : zK 103 37 [vR 56 105, vI l1, u2, u3] [vI s0] h Q :=
  zwpe_W (cd := c103) rfl [37] 400 37 _ _ _ _ k
-- 104 SyntaxRules$TestTree.<init>()V
set_option maxRecDepth 100000 in
set_option maxHeartbeats 4000000 in
theorem k104_0 (a0 : Nat) (h : zH) (Q : Option zV → zH → Prop) (k :
  (¬ (a0 : Nat) = 0) ∧ (0 ≤ (40 : Int) ∧ (40 : Int) ≤ 10000) ∧ ∀ h27 : zH, h27 = nw h 40 ((40 : Int)).toNat →
  (zty 126 a0 h27) ∧ ∀ h28 : zH, h28 = sR h27 a0 1 (nx h) →
  (0 ≤ (40 : Int) ∧ (40 : Int) ≤ 10000) ∧ ∀ h29 : zH, h29 = nw h28 40 ((40 : Int)).toNat →
  (zty 126 a0 h29) ∧ ∀ h30 : zH, h30 = sR h29 a0 2 (nx h28) →
  (0 ≤ (40 : Int) ∧ (40 : Int) ≤ 10000) ∧ ∀ h31 : zH, h31 = nw h30 40 ((40 : Int)).toNat →
  (zty 126 a0 h31) ∧ ∀ h32 : zH, h32 = sR h31 a0 3 (nx h30) →
  (0 ≤ (26 : Int) ∧ (26 : Int) ≤ 10000) ∧ ∀ h33 : zH, h33 = nw h32 40 ((26 : Int)).toNat →
  (zty 126 a0 h33) ∧ ∀ h34 : zH, h34 = sR h33 a0 4 (nx h32) →
  (0 ≤ (320 : Int) ∧ (320 : Int) ≤ 10000) ∧ ∀ h35 : zH, h35 = nw h34 40 ((320 : Int)).toNat →
  (zty 126 a0 h35) ∧ ∀ h36 : zH, h36 = sR h35 a0 7 (nx h34) →
  (0 ≤ (320 : Int) ∧ (320 : Int) ≤ 10000) ∧ ∀ h37 : zH, h37 = nw h36 44 ((320 : Int)).toNat →
  (zty 126 a0 h37) ∧ ∀ h38 : zH, h38 = sR h37 a0 8 (nx h36) →
  (0 ≤ (320 : Int) ∧ (320 : Int) ≤ 10000) ∧ ∀ h39 : zH, h39 = nw h38 40 ((320 : Int)).toNat →
  (zty 126 a0 h39) ∧ ∀ h40 : zH, h40 = sR h39 a0 9 (nx h38) →
  (0 ≤ (320 : Int) ∧ (320 : Int) ≤ 10000) ∧ ∀ h41 : zH, h41 = nw h40 40 ((320 : Int)).toNat →
  (zty 126 a0 h41) ∧ ∀ h42 : zH, h42 = sR h41 a0 10 (nx h40) →
  (0 ≤ (320 : Int) ∧ (320 : Int) ≤ 10000) ∧ ∀ h43 : zH, h43 = nw h42 40 ((320 : Int)).toNat →
  (zty 126 a0 h43) ∧ ∀ h44 : zH, h44 = sR h43 a0 11 (nx h42) →
  (0 ≤ (320 : Int) ∧ (320 : Int) ≤ 10000) ∧ ∀ h45 : zH, h45 = nw h44 40 ((320 : Int)).toNat →
  (zty 126 a0 h45) ∧ ∀ h46 : zH, h46 = sR h45 a0 12 (nx h44) →
  (0 ≤ (320 : Int) ∧ (320 : Int) ≤ 10000) ∧ ∀ h47 : zH, h47 = nw h46 40 ((320 : Int)).toNat →
  (zty 126 a0 h47) ∧ ∀ h48 : zH, h48 = sR h47 a0 13 (nx h46) →
  (0 ≤ (320 : Int) ∧ (320 : Int) ≤ 10000) ∧ ∀ h49 : zH, h49 = nw h48 41 ((320 : Int)).toNat →
  (zty 126 a0 h49) ∧ ∀ h50 : zH, h50 = sR h49 a0 14 (nx h48) →
  (0 ≤ (20 : Int) ∧ (20 : Int) ≤ 10000) ∧ ∀ h51 : zH, h51 = nw h50 40 ((20 : Int)).toNat →
  (zty 126 a0 h51) ∧ (gR (sR h51 a0 15 (nx h50)) a0 1 = a0 + 1) ∧ (zty 4140 (a0 + 1) (sR h51 a0 15 (nx h50))) ∧ (gR (sR h51 a0 15 (nx h50)) a0 2 = a0 + 2) ∧ (zty 4140 (a0 + 2) (sR h51 a0 15 (nx h50))) ∧ (gR (sR h51 a0 15 (nx h50)) a0 3 = a0 + 3) ∧ (zty 4140 (a0 + 3) (sR h51 a0 15 (nx h50))) ∧ (gR (sR h51 a0 15 (nx h50)) a0 4 = a0 + 4) ∧ (zty 2740 (a0 + 4) (sR h51 a0 15 (nx h50))) ∧ (gR (sR h51 a0 15 (nx h50)) a0 7 = a0 + 5) ∧ (zty 32140 (a0 + 5) (sR h51 a0 15 (nx h50))) ∧ (gR (sR h51 a0 15 (nx h50)) a0 8 = a0 + 6) ∧ (zty 32144 (a0 + 6) (sR h51 a0 15 (nx h50))) ∧ (gR (sR h51 a0 15 (nx h50)) a0 9 = a0 + 7) ∧ (zty 32140 (a0 + 7) (sR h51 a0 15 (nx h50))) ∧ (gR (sR h51 a0 15 (nx h50)) a0 10 = a0 + 8) ∧ (zty 32140 (a0 + 8) (sR h51 a0 15 (nx h50))) ∧ (gR (sR h51 a0 15 (nx h50)) a0 11 = a0 + 9) ∧ (zty 32140 (a0 + 9) (sR h51 a0 15 (nx h50))) ∧ (gR (sR h51 a0 15 (nx h50)) a0 12 = a0 + 10) ∧ (zty 32140 (a0 + 10) (sR h51 a0 15 (nx h50))) ∧ (gR (sR h51 a0 15 (nx h50)) a0 13 = a0 + 11) ∧ (zty 32140 (a0 + 11) (sR h51 a0 15 (nx h50))) ∧ (gR (sR h51 a0 15 (nx h50)) a0 14 = a0 + 12) ∧ (zty 32141 (a0 + 12) (sR h51 a0 15 (nx h50))) ∧ (gR (sR h51 a0 15 (nx h50)) a0 15 = a0 + 13) ∧ (zty 2140 (a0 + 13) (sR h51 a0 15 (nx h50))) ∧ ∀ h52 : zH, h52 = sT (sR h51 a0 15 (nx h50)) a0 6 →
  Q none h52) : zK 104 0 [vR a0 0] [] h Q :=
  zwpe_W (cd := c104) rfl [] 400 0 _ _ _ _ k
-- 105 SyntaxRules$TestTree.layRow(LSyntaxRules$Rule;)I
set_option maxRecDepth 100000 in
set_option maxHeartbeats 4000000 in
theorem k105_0 (p1 : Nat) (h : zH) (Q : Option zV → zH → Prop) (k :
  ∀ h4 : zH, h4 = sI h 63 0 0 →
  zK 105 7 [vR 63 106, vR p1 103, vI 0, vU] [] h4 Q) : zK 105 0 [vR 63 106, vR p1 103, vU, vU] [] h Q :=
  zwpe_W (cd := c105) rfl [7, 30] 400 0 _ _ _ _ k
set_option maxRecDepth 100000 in
set_option maxHeartbeats 4000000 in
theorem k105_7 (a1 : Nat) (l2 : Int) (u3 : zV) (h : zH) (Q : Option zV → zH → Prop) (k :
  (26 ≤ l2 →
    zK 105 30 [vR 63 106, vR a1 103, vI 0, vI 0] [] h Q) ∧
    (¬ (26 ≤ l2) →
    (0 ≤ (l2 : Int)) ∧ ((l2 : Int) < 26) ∧ ∀ h5 : zH, h5 = sI h 67 l2 (-1) →
    (inR (l2 + 1)) ∧ zK 105 7 [vR 63 106, vR a1 103, vI (l2 + 1), u3] [] h5 Q)) : zK 105 7 [vR 63 106, vR a1 103, vI l2, u3] [] h Q :=
  zwpe_W (cd := c105) rfl [7, 30] 400 7 _ _ _ _ k
set_option maxRecDepth 100000 in
set_option maxHeartbeats 4000000 in
theorem k105_30 (a1 : Nat) (l2 : Int) (l3 : Int) (h : zH) (Q : Option zV → zH → Prop) (k :
  ((gI h a1 14) ≤ l3 →
    Q (some (vI (gI h 63 0))) h) ∧
    (¬ ((gI h a1 14) ≤ l3) →
    (l3 < l2 →
      (inR (l3 + 1)) ∧ zK 105 30 [vR 63 106, vR a1 103, vI l2, vI (l3 + 1)] [] h Q) ∧
      (¬ (l3 < l2) →
      zC1 263 [vR 63 106, vR a1 103, vI l3] h (fun v6 h6 =>
      (inR (l3 + v6)) ∧ (inR (l3 + 1)) ∧ zK 105 30 [vR 63 106, vR a1 103, vI (l3 + v6), vI (l3 + 1)] [] h6 Q)))) : zK 105 30 [vR 63 106, vR a1 103, vI l2, vI l3] [] h Q :=
  zwpe_W (cd := c105) rfl [7, 30] 400 30 _ _ _ _ k
-- 106 SyntaxRules$TestTree.layHole(LSyntaxRules$Rule;I)V
set_option maxRecDepth 100000 in
set_option maxHeartbeats 4000000 in
theorem k106_0 (p1 : Nat) (p2 : Int) (h : zH) (Q : Option zV → zH → Prop) (k :
  (0 ≤ (p2 : Int)) ∧ ((p2 : Int) < 40) ∧ (0 ≤ (p2 : Int)) ∧ ((p2 : Int) < 40) ∧ ((gI h (p1 + 5) p2) = (-1) →
    zK 106 24 [vR 63 106, vR p1 103, vI p2, vI (gI h (p1 + 4) p2)] [] h Q) ∧
    (¬ ((gI h (p1 + 5) p2) = (-1)) →
    zC0 107 [vR 63 106, vI 3, vI p2, vI ((-1))] h (fun h4 =>
    zK 106 24 [vR 63 106, vR p1 103, vI p2, vI (gI h (p1 + 4) p2)] [] h4 Q))) : zK 106 0 [vR 63 106, vR p1 103, vI p2, vU] [] h Q :=
  zwpe_W (cd := c106) rfl [24] 400 0 _ _ _ _ k
set_option maxRecDepth 100000 in
set_option maxHeartbeats 4000000 in
theorem k106_24 (u1 : zV) (l2 : Int) (l3 : Int) (h : zH) (Q : Option zV → zH → Prop) (k :
  (0 ≤ (l3 : Int)) ∧ ((l3 : Int) < 26) ∧ (¬ (gI h 67 l3) = (-1) →
    (0 ≤ (l3 : Int)) ∧ ((l3 : Int) < 26) ∧ zC0 107 [vR 63 106, vI 4, vI l2, vI (gI h 67 l3)] h (fun h5 =>
    Q none h5)) ∧
    (¬ (¬ (gI h 67 l3) = (-1)) →
    (0 ≤ (l3 : Int)) ∧ ((l3 : Int) < 26) ∧ ∀ h6 : zH, h6 = sI h 67 l3 l2 →
    Q none h6)) : zK 106 24 [vR 63 106, u1, vI l2, vI l3] [] h Q :=
  zwpe_W (cd := c106) rfl [24] 400 24 _ _ _ _ k
-- 107 SyntaxRules$TestTree.addTest(III)V
set_option maxRecDepth 100000 in
set_option maxHeartbeats 4000000 in
theorem k107_0 (p1 : Int) (p2 : Int) (p3 : Int) (h : zH) (Q : Option zV → zH → Prop) (k :
  (40 ≤ (gI h 63 0) →
    Q none h) ∧
    (¬ (40 ≤ (gI h 63 0)) →
    (0 ≤ (gI h 63 0 : Int)) ∧ ((gI h 63 0 : Int) < 40) ∧ ∀ h5 : zH, h5 = sI h 64 (gI h 63 0) p1 →
    (0 ≤ (gI h5 63 0 : Int)) ∧ ((gI h5 63 0 : Int) < 40) ∧ ∀ h6 : zH, h6 = sI h5 65 (gI h5 63 0) p2 →
    (0 ≤ (gI h6 63 0 : Int)) ∧ ((gI h6 63 0 : Int) < 40) ∧ ∀ h7 : zH, h7 = sI h6 66 (gI h6 63 0) p3 →
    (inR ((gI h7 63 0) + 1)) ∧ ∀ h8 : zH, h8 = sI h7 63 0 ((gI h7 63 0) + 1) →
    Q none h8)) : zK 107 0 [vR 63 106, vI p1, vI p2, vI p3] [] h Q :=
  zwpe_W (cd := c107) rfl [] 400 0 _ _ _ _ k
-- 108 SyntaxRules$TestTree.layAll([LSyntaxRules$Rule;)I
set_option maxRecDepth 100000 in
set_option maxHeartbeats 4000000 in
theorem k108_0 (p1 : Nat) (h : zH) (Q : Option zV → zH → Prop) (k :
  ∀ h4 : zH, h4 = sI h 63 5 0 →
  ∀ h5 : zH, h5 = sI h4 63 6 (-1) →
  zK 108 12 [vR 63 106, vR p1 944, vI 0] [] h5 Q) : zK 108 0 [vR 63 106, vR p1 944, vU] [] h Q :=
  zwpe_W (cd := c108) rfl [12] 400 0 _ _ _ _ k
set_option maxRecDepth 100000 in
set_option maxHeartbeats 4000000 in
theorem k108_12 (a1 : Nat) (l2 : Int) (h : zH) (Q : Option zV → zH → Prop) (k :
  (8 ≤ l2 →
    Q (some (vI (gI h 63 5))) h) ∧
    (¬ (8 ≤ l2) →
    (0 ≤ (l2 : Int)) ∧ ((l2 : Int) < 8) ∧ (((gR h a1 l2) : Nat) = 0 →
      (inR (l2 + 1)) ∧ zK 108 12 [vR 63 106, vR a1 944, vI (l2 + 1)] [] h Q) ∧
      (¬ (((gR h a1 l2) : Nat) = 0) →
      (0 ≤ (l2 : Int)) ∧ ((l2 : Int) < 8) ∧ (zty 103 (gR h a1 l2) h) ∧ zC0 109 [vR 63 106, vR (gR h a1 l2) 103] h (fun h6 =>
      (inR (l2 + 1)) ∧ zK 108 12 [vR 63 106, vR a1 944, vI (l2 + 1)] [] h6 Q)))) : zK 108 12 [vR 63 106, vR a1 944, vI l2] [] h Q :=
  zwpe_W (cd := c108) rfl [12] 400 12 _ _ _ _ k
-- 109 SyntaxRules$TestTree.hangRow(LSyntaxRules$Rule;)V
set_option maxRecDepth 100000 in
set_option maxHeartbeats 4000000 in
theorem k109_0 (p1 : Nat) (h : zH) (Q : Option zV → zH → Prop) (k :
  zC1 105 [vR 63 106, vR p1 103] h (fun v4 h4 =>
  zK 109 10 [vR 63 106, vR p1 103, vI ((-1)), vI 0, vU] [] h4 Q)) : zK 109 0 [vR 63 106, vR p1 103, vU, vU, vU] [] h Q :=
  zwpe_W (cd := c109) rfl [10] 400 0 _ _ _ _ k
set_option maxRecDepth 100000 in
set_option maxHeartbeats 4000000 in
theorem k109_10 (a1 : Nat) (l2 : Int) (l3 : Int) (u4 : zV) (h : zH) (Q : Option zV → zH → Prop) (k :
  ((gI h 63 0) ≤ l3 →
    Q none h) ∧
    (¬ ((gI h 63 0) ≤ l3) →
    zC1 110 [vR 63 106, vI l2, vR a1 103, vI l3] h (fun v5 h5 =>
    (¬ v5 = (-1) →
      (inR (l3 + 1)) ∧ zK 109 10 [vR 63 106, vR a1 103, vI v5, vI (l3 + 1), vI v5] [] h5 Q) ∧
      (¬ (¬ v5 = (-1)) →
      zC1 112 [vR 63 106, vI l2, vR a1 103, vI l3] h5 (fun v6 h6 =>
      (inR (l3 + 1)) ∧ zK 109 10 [vR 63 106, vR a1 103, vI v6, vI (l3 + 1), vI v5] [] h6 Q))))) : zK 109 10 [vR 63 106, vR a1 103, vI l2, vI l3, u4] [] h Q :=
  zwpe_W (cd := c109) rfl [10] 400 10 _ _ _ _ k
-- 110 SyntaxRules$TestTree.findBelow(ILSyntaxRules$Rule;I)I
set_option maxRecDepth 100000 in
set_option maxHeartbeats 4000000 in
theorem k110_0 (p1 : Int) (p2 : Nat) (p3 : Int) (h : zH) (Q : Option zV → zH → Prop) (k :
  (¬ p1 = (-1) →
    (0 ≤ (p1 : Int)) ∧ ((p1 : Int) < 320) ∧ zK 110 23 [vR 63 106, vI p1, vR p2 103, vI p3, vI (gI h 73 p1), vI 0] [] h Q) ∧
    (¬ (¬ p1 = (-1)) →
    zK 110 23 [vR 63 106, vI p1, vR p2 103, vI p3, vI (gI h 63 6), vI 0] [] h Q)) : zK 110 0 [vR 63 106, vI p1, vR p2 103, vI p3, vU, vU] [] h Q :=
  zwpe_W (cd := c110) rfl [23] 400 0 _ _ _ _ k
set_option maxRecDepth 100000 in
set_option maxHeartbeats 4000000 in
theorem k110_23 (u1 : zV) (a2 : Nat) (l3 : Int) (l4 : Int) (l5 : Int) (h : zH) (Q : Option zV → zH → Prop) (k :
  (320 ≤ l5 →
    Q (some (vI ((-1)))) h) ∧
    (¬ (320 ≤ l5) →
    (l4 = (-1) →
      Q (some (vI ((-1)))) h) ∧
      (¬ (l4 = (-1)) →
      zC1 111 [vR 63 106, vI l4, vR a2 103, vI l3] h (fun v2 h2 =>
      (v2 = 0 →
        (0 ≤ (l4 : Int)) ∧ ((l4 : Int) < 320) ∧ (inR (l5 + 1)) ∧ zK 110 23 [vR 63 106, u1, vR a2 103, vI l3, vI (gI h2 74 l4), vI (l5 + 1)] [] h2 Q) ∧
        (¬ (v2 = 0) →
        Q (some (vI l4)) h2))))) : zK 110 23 [vR 63 106, u1, vR a2 103, vI l3, vI l4, vI l5] [] h Q :=
  zwpe_W (cd := c110) rfl [23] 400 23 _ _ _ _ k
-- 111 SyntaxRules$TestTree.asksSame(ILSyntaxRules$Rule;I)Z
set_option maxRecDepth 100000 in
set_option maxHeartbeats 4000000 in
theorem k111_0 (p1 : Int) (p2 : Nat) (p3 : Int) (h : zH) (Q : Option zV → zH → Prop) (k :
  (0 ≤ (p1 : Int)) ∧ ((p1 : Int) < 320) ∧ (zty 103 (gR h 69 p1) h) ∧ (((gR h 69 p1) : Nat) = 0 →
    ((0 : Int) = 0 ∨ (0 : Int) = 1) ∧ Q (some (vI 0)) h) ∧
    (¬ (((gR h 69 p1) : Nat) = 0) →
    (0 ≤ (p1 : Int)) ∧ ((p1 : Int) < 320) ∧ (0 ≤ (p3 : Int)) ∧ ((p3 : Int) < 40) ∧ (¬ (gI h 68 p1) = (gI h 64 p3) →
      ((0 : Int) = 0 ∨ (0 : Int) = 1) ∧ Q (some (vI 0)) h) ∧
      (¬ (¬ (gI h 68 p1) = (gI h 64 p3)) →
      (0 ≤ (p1 : Int)) ∧ ((p1 : Int) < 320) ∧ (0 ≤ (p3 : Int)) ∧ ((p3 : Int) < 40) ∧ zC1 73 [vR (gR h 69 p1) 103, vI (gI h 70 p1), vR p2 103, vI (gI h 65 p3)] h (fun v5 h5 =>
      (¬ v5 = 0 →
        (0 ≤ (p3 : Int)) ∧ ((p3 : Int) < 40) ∧ ((gI h5 64 p3) = (2 : Int) →
          (0 ≤ (p1 : Int)) ∧ ((p1 : Int) < 320) ∧ (0 ≤ (gI h5 70 p1 : Int)) ∧ ((gI h5 70 p1 : Int) < 40) ∧ (0 ≤ (p3 : Int)) ∧ ((p3 : Int) < 40) ∧ (0 ≤ (gI h5 65 p3 : Int)) ∧ ((gI h5 65 p3 : Int) < 40) ∧ (¬ (gI h5 (gR h 69 p1 + 9) (gI h5 70 p1)) = (gI h5 (p2 + 9) (gI h5 65 p3)) →
            ((0 : Int) = 0 ∨ (0 : Int) = 1) ∧ Q (some (vI 0)) h5) ∧
            (¬ (¬ (gI h5 (gR h 69 p1 + 9) (gI h5 70 p1)) = (gI h5 (p2 + 9) (gI h5 65 p3))) →
            ((1 : Int) = 0 ∨ (1 : Int) = 1) ∧ Q (some (vI 1)) h5)) ∧
          (¬ ((gI h5 64 p3) = (2 : Int)) →
          ((gI h5 64 p3) = ((2 : Int) + 1) →
          (0 ≤ (p1 : Int)) ∧ ((p1 : Int) < 320) ∧ (0 ≤ (gI h5 70 p1 : Int)) ∧ ((gI h5 70 p1 : Int) < 40) ∧ (0 ≤ (p3 : Int)) ∧ ((p3 : Int) < 40) ∧ (0 ≤ (gI h5 65 p3 : Int)) ∧ ((gI h5 65 p3 : Int) < 40) ∧ (¬ (gI h5 (gR h 69 p1 + 5) (gI h5 70 p1)) = (gI h5 (p2 + 5) (gI h5 65 p3)) →
            ((0 : Int) = 0 ∨ (0 : Int) = 1) ∧ Q (some (vI 0)) h5) ∧
            (¬ (¬ (gI h5 (gR h 69 p1 + 5) (gI h5 70 p1)) = (gI h5 (p2 + 5) (gI h5 65 p3))) →
            ((1 : Int) = 0 ∨ (1 : Int) = 1) ∧ Q (some (vI 1)) h5)) ∧
          (¬ ((gI h5 64 p3) = ((2 : Int) + 1)) →
          ((gI h5 64 p3) = ((2 : Int) + 1 + 1) →
          (0 ≤ (p1 : Int)) ∧ ((p1 : Int) < 320) ∧ (0 ≤ (p3 : Int)) ∧ ((p3 : Int) < 40) ∧ zC1 73 [vR (gR h 69 p1) 103, vI (gI h5 71 p1), vR p2 103, vI (gI h5 66 p3)] h5 (fun v8 h8 =>
          ((v8 : Int) = 0 ∨ (v8 : Int) = 1) ∧ Q (some (vI v8)) h8)) ∧
          (¬ ((gI h5 64 p3) = ((2 : Int) + 1 + 1)) →
          ((gI h5 64 p3) = ((2 : Int) + 1 + 1 + 1) →
          (0 ≤ (p1 : Int)) ∧ ((p1 : Int) < 320) ∧ (0 ≤ (p3 : Int)) ∧ ((p3 : Int) < 40) ∧ zC1 72 [vR (gR h 69 p1) 103, vI (gI h5 70 p1), vR p2 103, vI (gI h5 65 p3)] h5 (fun v7 h7 =>
          ((v7 : Int) = 0 ∨ (v7 : Int) = 1) ∧ Q (some (vI v7)) h7)) ∧
          (¬ ((gI h5 64 p3) = ((2 : Int) + 1 + 1 + 1)) →
          (0 ≤ (p1 : Int)) ∧ ((p1 : Int) < 320) ∧ (0 ≤ (p3 : Int)) ∧ ((p3 : Int) < 40) ∧ zC1 71 [vR (gR h 69 p1) 103, vI (gI h5 70 p1), vR p2 103, vI (gI h5 65 p3)] h5 (fun v6 h6 =>
          ((v6 : Int) = 0 ∨ (v6 : Int) = 1) ∧ Q (some (vI v6)) h6)))))) ∧
        (¬ (¬ v5 = 0) →
        ((0 : Int) = 0 ∨ (0 : Int) = 1) ∧ Q (some (vI 0)) h5))))) : zK 111 0 [vR 63 106, vI p1, vR p2 103, vI p3, vU] [] h Q :=
  zwpe_W (cd := c111) rfl [] 400 0 _ _ _ _ k
-- 112 SyntaxRules$TestTree.hangTest(ILSyntaxRules$Rule;I)I
set_option maxRecDepth 100000 in
set_option maxHeartbeats 4000000 in
theorem k112_0 (p1 : Int) (p2 : Nat) (p3 : Int) (h : zH) (Q : Option zV → zH → Prop) (k :
  (¬ (gI h 63 5) = 320 →
    (inR ((gI h 63 5) + 1)) ∧ ∀ h12 : zH, h12 = sI h 63 5 ((gI h 63 5) + 1) →
    (0 ≤ (p3 : Int)) ∧ ((p3 : Int) < 40) ∧ (0 ≤ (gI h 63 5 : Int)) ∧ ((gI h 63 5 : Int) < 320) ∧ ∀ h13 : zH, h13 = sI h12 68 (gI h 63 5) (gI h12 64 p3) →
    (0 ≤ (gI h 63 5 : Int)) ∧ ((gI h 63 5 : Int) < 320) ∧ ∀ h14 : zH, h14 = sR h13 69 (gI h 63 5) p2 →
    (0 ≤ (p3 : Int)) ∧ ((p3 : Int) < 40) ∧ (0 ≤ (gI h 63 5 : Int)) ∧ ((gI h 63 5 : Int) < 320) ∧ ∀ h15 : zH, h15 = sI h14 70 (gI h 63 5) (gI h14 65 p3) →
    (0 ≤ (p3 : Int)) ∧ ((p3 : Int) < 40) ∧ (0 ≤ (gI h 63 5 : Int)) ∧ ((gI h 63 5 : Int) < 320) ∧ ∀ h16 : zH, h16 = sI h15 71 (gI h 63 5) (gI h15 66 p3) →
    (0 ≤ (gI h 63 5 : Int)) ∧ ((gI h 63 5 : Int) < 320) ∧ ∀ h17 : zH, h17 = sI h16 72 (gI h 63 5) p1 →
    (0 ≤ (gI h 63 5 : Int)) ∧ ((gI h 63 5 : Int) < 320) ∧ ∀ h18 : zH, h18 = sI h17 73 (gI h 63 5) (-1) →
    (¬ p1 = (-1) →
      (0 ≤ (p1 : Int)) ∧ ((p1 : Int) < 320) ∧ (0 ≤ (gI h 63 5 : Int)) ∧ ((gI h 63 5 : Int) < 320) ∧ ∀ h19 : zH, h19 = sI h18 74 (gI h 63 5) (gI h18 73 p1) →
      (0 ≤ (p1 : Int)) ∧ ((p1 : Int) < 320) ∧ ∀ h20 : zH, h20 = sI h19 73 p1 (gI h 63 5) →
      Q (some (vI (gI h 63 5))) h20) ∧
      (¬ (¬ p1 = (-1)) →
      (0 ≤ (gI h 63 5 : Int)) ∧ ((gI h 63 5 : Int) < 320) ∧ ∀ h21 : zH, h21 = sI h18 74 (gI h 63 5) (gI h18 63 6) →
      ∀ h22 : zH, h22 = sI h21 63 6 (gI h 63 5) →
      Q (some (vI (gI h 63 5))) h22)) ∧
    (¬ (¬ (gI h 63 5) = 320) →
    Q (some (vI p1)) h)) : zK 112 0 [vR 63 106, vI p1, vR p2 103, vI p3, vU] [] h Q :=
  zwpe_W (cd := c112) rfl [] 400 0 _ _ _ _ k
-- 113 SyntaxRules$TestTree.askedOf(LSyntaxRules$Source;ILSyntaxRules$Fitting;)I
set_option maxRecDepth 100000 in
set_option maxHeartbeats 4000000 in
theorem k113_0 (p1 : Nat) (p2 : Int) (h : zH) (Q : Option zV → zH → Prop) (k :
  zK 113 6 [vR 63 106, vR p1 102, vI p2, vR 56 105, vI 0, vI 0, vU] [] h Q) : zK 113 0 [vR 63 106, vR p1 102, vI p2, vR 56 105, vU, vU, vU] [] h Q :=
  zwpe_W (cd := c113) rfl [6, 41, 46, 75, 76] 400 0 _ _ _ _ k
set_option maxRecDepth 100000 in
set_option maxHeartbeats 4000000 in
theorem k113_6 (a1 : Nat) (l2 : Int) (l4 : Int) (l5 : Int) (u6 : zV) (h : zH) (Q : Option zV → zH → Prop) (k :
  ((gI h 63 5) ≤ l5 →
    Q (some (vI l4)) h) ∧
    (¬ ((gI h 63 5) ≤ l5) →
    (0 ≤ (l5 : Int)) ∧ ((l5 : Int) < 320) ∧ ((gI h 72 l5) = (-1) →
      zK 113 41 [vR 63 106, vR a1 102, vI l2, vR 56 105, vI l4, vI l5, u6] [] h Q) ∧
      (¬ ((gI h 72 l5) = (-1)) →
      (0 ≤ (l5 : Int)) ∧ ((l5 : Int) < 320) ∧ (0 ≤ (gI h 72 l5 : Int)) ∧ ((gI h 72 l5 : Int) < 320) ∧ ((gI h 75 (gI h 72 l5)) = 0 →
        zK 113 46 [vR 63 106, vR a1 102, vI l2, vR 56 105, vI l4, vI l5, u6] [vI 0] h Q) ∧
        (¬ ((gI h 75 (gI h 72 l5)) = 0) →
        zK 113 41 [vR 63 106, vR a1 102, vI l2, vR 56 105, vI l4, vI l5, u6] [] h Q)))) : zK 113 6 [vR 63 106, vR a1 102, vI l2, vR 56 105, vI l4, vI l5, u6] [] h Q :=
  zwpe_W (cd := c113) rfl [6, 41, 46, 75, 76] 400 6 _ _ _ _ k
set_option maxRecDepth 100000 in
set_option maxHeartbeats 4000000 in
theorem k113_41 (a1 : Nat) (l2 : Int) (l4 : Int) (l5 : Int) (u6 : zV) (h : zH) (Q : Option zV → zH → Prop) (k :
  zK 113 46 [vR 63 106, vR a1 102, vI l2, vR 56 105, vI l4, vI l5, u6] [vI 1] h Q) : zK 113 41 [vR 63 106, vR a1 102, vI l2, vR 56 105, vI l4, vI l5, u6] [] h Q :=
  zwpe_W (cd := c113) rfl [6, 41, 46, 75, 76] 400 41 _ _ _ _ k
set_option maxRecDepth 100000 in
set_option maxHeartbeats 4000000 in
theorem k113_46 (a1 : Nat) (l2 : Int) (l4 : Int) (l5 : Int) (u6 : zV) (s0 : Int) (h : zH) (Q : Option zV → zH → Prop) (k :
  (s0 = 0 →
    zK 113 75 [vR 63 106, vR a1 102, vI l2, vR 56 105, vI l4, vI l5, vI s0] [vI l5, vR 75 32141] h Q) ∧
    (¬ (s0 = 0) →
    zC1 114 [vR 63 106, vI l5, vR a1 102, vI l2, vR 56 105] h (fun v3 h3 =>
    (v3 = 0 →
      zK 113 75 [vR 63 106, vR a1 102, vI l2, vR 56 105, vI l4, vI l5, vI s0] [vI l5, vR 75 32141] h3 Q) ∧
      (¬ (v3 = 0) →
      zK 113 76 [vR 63 106, vR a1 102, vI l2, vR 56 105, vI l4, vI l5, vI s0] [vI 1, vI l5, vR 75 32141] h3 Q)))) : zK 113 46 [vR 63 106, vR a1 102, vI l2, vR 56 105, vI l4, vI l5, u6] [vI s0] h Q :=
  zwpe_W (cd := c113) rfl [6, 41, 46, 75, 76] 400 46 _ _ _ _ k
set_option maxRecDepth 100000 in
set_option maxHeartbeats 4000000 in
theorem k113_75 (a1 : Nat) (l2 : Int) (l4 : Int) (l5 : Int) (l6 : Int) (s0 : Int) (h : zH) (Q : Option zV → zH → Prop) (k :
  zK 113 76 [vR 63 106, vR a1 102, vI l2, vR 56 105, vI l4, vI l5, vI l6] [vI 0, vI s0, vR 75 32141] h Q) : zK 113 75 [vR 63 106, vR a1 102, vI l2, vR 56 105, vI l4, vI l5, vI l6] [vI s0, vR 75 32141] h Q :=
  zwpe_W (cd := c113) rfl [6, 41, 46, 75, 76] 400 75 _ _ _ _ k
set_option maxRecDepth 100000 in
set_option maxHeartbeats 4000000 in
theorem k113_76 (a1 : Nat) (l2 : Int) (l4 : Int) (l5 : Int) (l6 : Int) (s0 : Int) (s1 : Int) (h : zH) (Q : Option zV → zH → Prop) (k :
  (0 ≤ (s1 : Int)) ∧ ((s1 : Int) < 320) ∧ ((s0 : Int) = 0 ∨ (s0 : Int) = 1) ∧ ∀ h4 : zH, h4 = sI h 75 s1 s0 →
  (l6 = 0 →
    (inR (l4 + 0)) ∧ (inR (l5 + 1)) ∧ zK 113 6 [vR 63 106, vR a1 102, vI l2, vR 56 105, vI (l4 + 0), vI (l5 + 1), vI l6] [] h4 Q) ∧
    (¬ (l6 = 0) →
    (inR (l4 + 1)) ∧ (inR (l5 + 1)) ∧ zK 113 6 [vR 63 106, vR a1 102, vI l2, vR 56 105, vI (l4 + 1), vI (l5 + 1), vI l6] [] h4 Q)) : zK 113 76 [vR 63 106, vR a1 102, vI l2, vR 56 105, vI l4, vI l5, vI l6] [vI s0, vI s1, vR 75 32141] h Q :=
  zwpe_W (cd := c113) rfl [6, 41, 46, 75, 76] 400 76 _ _ _ _ k
-- 114 SyntaxRules$TestTree.holds(ILSyntaxRules$Source;ILSyntaxRules$Fitting;)Z
set_option maxRecDepth 100000 in
set_option maxHeartbeats 4000000 in
theorem k114_0 (p1 : Int) (p2 : Nat) (p3 : Int) (h : zH) (Q : Option zV → zH → Prop) (k :
  (0 ≤ (p1 : Int)) ∧ ((p1 : Int) < 320) ∧ (zty 103 (gR h 69 p1) h) ∧ (0 ≤ (p1 : Int)) ∧ ((p1 : Int) < 320) ∧ (¬ ((gR h 69 p1) : Nat) = 0 →
    zC1 116 [vR 63 106, vR (gR h 69 p1) 103, vI (gI h 70 p1), vR p2 102, vI p3] h (fun v7 h7 =>
    zK 114 35 [vR 63 106, vI p1, vR p2 102, vI p3, vR 56 105, vR (gR h 69 p1) 103, vI (gI h 70 p1), vU] [vI v7] h7 Q)) ∧
    (¬ (¬ ((gR h 69 p1) : Nat) = 0) →
    zK 114 35 [vR 63 106, vI p1, vR p2 102, vI p3, vR 56 105, vR (gR h 69 p1) 103, vI (gI h 70 p1), vU] [vI ((-1))] h Q)) : zK 114 0 [vR 63 106, vI p1, vR p2 102, vI p3, vR 56 105, vU, vU, vU] [] h Q :=
  zwpe_W (cd := c114) rfl [35] 400 0 _ _ _ _ k
set_option maxRecDepth 100000 in
set_option maxHeartbeats 4000000 in
theorem k114_35 (l1 : Int) (a2 : Nat) (l3 : Int) (a5 : Nat) (l6 : Int) (u7 : zV) (s0 : Int) (h : zH) (Q : Option zV → zH → Prop) (k :
  (¬ s0 = (-1) →
    (0 ≤ (l1 : Int)) ∧ ((l1 : Int) < 320) ∧ ((gI h 68 l1) = (1 : Int) →
      (0 ≤ (s0 : Int)) ∧ ((s0 : Int) < 60) ∧ (¬ (gI h (a2 + 3) s0) = 2 →
        ((0 : Int) = 0 ∨ (0 : Int) = 1) ∧ Q (some (vI 0)) h) ∧
        (¬ (¬ (gI h (a2 + 3) s0) = 2) →
        zC1 63 [vR a2 102, vI s0, vR a5 103, vI l6] h (fun v12 h12 =>
        (v12 = 0 →
          ((0 : Int) = 0 ∨ (0 : Int) = 1) ∧ Q (some (vI 0)) h12) ∧
          (¬ (v12 = 0) →
          ((1 : Int) = 0 ∨ (1 : Int) = 1) ∧ Q (some (vI 1)) h12)))) ∧
      (¬ ((gI h 68 l1) = (1 : Int)) →
      ((gI h 68 l1) = ((1 : Int) + 1) →
      (0 ≤ (s0 : Int)) ∧ ((s0 : Int) < 60) ∧ (0 ≤ (l6 : Int)) ∧ ((l6 : Int) < 40) ∧ (¬ (gI h (a2 + 6) s0) = (gI h (a5 + 9) l6) →
        ((0 : Int) = 0 ∨ (0 : Int) = 1) ∧ Q (some (vI 0)) h) ∧
        (¬ (¬ (gI h (a2 + 6) s0) = (gI h (a5 + 9) l6)) →
        ((1 : Int) = 0 ∨ (1 : Int) = 1) ∧ Q (some (vI 1)) h)) ∧
      (¬ ((gI h 68 l1) = ((1 : Int) + 1)) →
      ((gI h 68 l1) = ((1 : Int) + 1 + 1) →
      (0 ≤ (s0 : Int)) ∧ ((s0 : Int) < 60) ∧ (0 ≤ (l6 : Int)) ∧ ((l6 : Int) < 40) ∧ (¬ (gI h (a2 + 3) s0) = (gI h (a5 + 5) l6) →
        ((0 : Int) = 0 ∨ (0 : Int) = 1) ∧ Q (some (vI 0)) h) ∧
        (¬ (¬ (gI h (a2 + 3) s0) = (gI h (a5 + 5) l6)) →
        ((1 : Int) = 0 ∨ (1 : Int) = 1) ∧ Q (some (vI 1)) h)) ∧
      (¬ ((gI h 68 l1) = ((1 : Int) + 1 + 1)) →
      ((gI h 68 l1) = ((1 : Int) + 1 + 1 + 1) →
      (0 ≤ (l1 : Int)) ∧ ((l1 : Int) < 320) ∧ zC1 116 [vR 63 106, vR a5 103, vI (gI h 71 l1), vR a2 102, vI l3] h (fun v10 h10 =>
      zC1 115 [vR a2 102, vI s0, vI v10] h10 (fun v11 h11 =>
      ((v11 : Int) = 0 ∨ (v11 : Int) = 1) ∧ Q (some (vI v11)) h11))) ∧
      (¬ ((gI h 68 l1) = ((1 : Int) + 1 + 1 + 1)) →
      ((gI h 68 l1) = ((1 : Int) + 1 + 1 + 1 + 1) →
      zC1 94 [vR 56 105, vR a2 102, vR a5 103, vI l6, vI s0, vI 1] h (fun v9 h9 =>
      (v9 ≤ 0 →
        ((0 : Int) = 0 ∨ (0 : Int) = 1) ∧ Q (some (vI 0)) h9) ∧
        (¬ (v9 ≤ 0) →
        ((1 : Int) = 0 ∨ (1 : Int) = 1) ∧ Q (some (vI 1)) h9))) ∧
      (¬ ((gI h 68 l1) = ((1 : Int) + 1 + 1 + 1 + 1)) →
      (0 ≤ (s0 : Int)) ∧ ((s0 : Int) < 60) ∧ ((gI h (a2 + 3) s0) = 2 →
        ((0 : Int) = 0 ∨ (0 : Int) = 1) ∧ Q (some (vI 0)) h) ∧
        (¬ ((gI h (a2 + 3) s0) = 2) →
        zC1 63 [vR a2 102, vI s0, vR a5 103, vI l6] h (fun v8 h8 =>
        (v8 = 0 →
          ((0 : Int) = 0 ∨ (0 : Int) = 1) ∧ Q (some (vI 0)) h8) ∧
          (¬ (v8 = 0) →
          ((1 : Int) = 0 ∨ (1 : Int) = 1) ∧ Q (some (vI 1)) h8))))))))) ∧
    (¬ (¬ s0 = (-1)) →
    ((0 : Int) = 0 ∨ (0 : Int) = 1) ∧ Q (some (vI 0)) h)) : zK 114 35 [vR 63 106, vI l1, vR a2 102, vI l3, vR 56 105, vR a5 103, vI l6, u7] [vI s0] h Q :=
  zwpe_W (cd := c114) rfl [35] 400 35 _ _ _ _ k
-- 115 SyntaxRules$TestTree.isTwin(LSyntaxRules$Source;II)Z
set_option maxRecDepth 100000 in
set_option maxHeartbeats 4000000 in
theorem k115_0 (p0 : Nat) (p1 : Int) (p2 : Int) (h : zH) (Q : Option zV → zH → Prop) (k :
  (p2 = (-1) →
    ((0 : Int) = 0 ∨ (0 : Int) = 1) ∧ Q (some (vI 0)) h) ∧
    (¬ (p2 = (-1)) →
    zC1 61 [vR p0 102, vI p1, vI p2] h (fun v2 h2 =>
    (v2 = 0 →
      ((0 : Int) = 0 ∨ (0 : Int) = 1) ∧ Q (some (vI 0)) h2) ∧
      (¬ (v2 = 0) →
      ((1 : Int) = 0 ∨ (1 : Int) = 1) ∧ Q (some (vI 1)) h2)))) : zK 115 0 [vR p0 102, vI p1, vI p2] [] h Q :=
  zwpe_W (cd := c115) rfl [] 400 0 _ _ _ _ k
-- 116 SyntaxRules$TestTree.follow(LSyntaxRules$Rule;ILSyntaxRules$Source;I)I
set_option maxRecDepth 100000 in
set_option maxHeartbeats 4000000 in
theorem k116_0 (p1 : Nat) (p2 : Int) (p3 : Nat) (p4 : Int) (h : zH) (Q : Option zV → zH → Prop) (k :
  zK 116 6 [vR 63 106, vR p1 103, vI p2, vR p3 102, vI p4, vI 0, vI p2, vU, vU] [] h Q) : zK 116 0 [vR 63 106, vR p1 103, vI p2, vR p3 102, vI p4, vU, vU, vU, vU] [] h Q :=
  zwpe_W (cd := c116) rfl [6, 63] 400 0 _ _ _ _ k
set_option maxRecDepth 100000 in
set_option maxHeartbeats 4000000 in
theorem k116_6 (a1 : Nat) (u2 : zV) (a3 : Nat) (l4 : Int) (l5 : Int) (l6 : Int) (u7 : zV) (u8 : zV) (h : zH) (Q : Option zV → zH → Prop) (k :
  (20 ≤ l5 →
    (inR (l5 - 1)) ∧ zK 116 63 [vR 63 106, vR a1 103, u2, vR a3 102, vI l4, vI l5, vI l6, vI l4, vI (l5 - 1)] [] h Q) ∧
    (¬ (20 ≤ l5) →
    (0 ≤ (l6 : Int)) ∧ ((l6 : Int) < 40) ∧ ((gI h (a1 + 6) l6) = (-1) →
      (inR (l5 - 1)) ∧ zK 116 63 [vR 63 106, vR a1 103, u2, vR a3 102, vI l4, vI l5, vI l6, vI l4, vI (l5 - 1)] [] h Q) ∧
      (¬ ((gI h (a1 + 6) l6) = (-1)) →
      (0 ≤ (l6 : Int)) ∧ ((l6 : Int) < 40) ∧ (0 ≤ (l5 : Int)) ∧ ((l5 : Int) < 20) ∧ ∀ h3 : zH, h3 = sI h 76 l5 (gI h (a1 + 8) l6) →
      (inR (l5 + 1)) ∧ (0 ≤ (l6 : Int)) ∧ ((l6 : Int) < 40) ∧ zK 116 6 [vR 63 106, vR a1 103, u2, vR a3 102, vI l4, vI (l5 + 1), vI (gI h3 (a1 + 6) l6), u7, u8] [] h3 Q))) : zK 116 6 [vR 63 106, vR a1 103, u2, vR a3 102, vI l4, vI l5, vI l6, u7, u8] [] h Q :=
  zwpe_W (cd := c116) rfl [6, 63] 400 6 _ _ _ _ k
set_option maxRecDepth 100000 in
set_option maxHeartbeats 4000000 in
theorem k116_63 (u1 : zV) (u2 : zV) (a3 : Nat) (u4 : zV) (u5 : zV) (u6 : zV) (l7 : Int) (l8 : Int) (h : zH) (Q : Option zV → zH → Prop) (k :
  (l8 < 0 →
    Q (some (vI l7)) h) ∧
    (¬ (l8 < 0) →
    (l7 = (-1) →
      Q (some (vI l7)) h) ∧
      (¬ (l7 = (-1)) →
      (0 ≤ (l8 : Int)) ∧ ((l8 : Int) < 20) ∧ zC1 64 [vR a3 102, vI l7, vI (gI h 76 l8)] h (fun v4 h4 =>
      (inR (l8 + (-1))) ∧ zK 116 63 [vR 63 106, u1, u2, vR a3 102, u4, u5, u6, vI v4, vI (l8 + (-1))] [] h4 Q)))) : zK 116 63 [vR 63 106, u1, u2, vR a3 102, u4, u5, u6, vI l7, vI l8] [] h Q :=
  zwpe_W (cd := c116) rfl [6, 63] 400 63 _ _ _ _ k
-- 117 SyntaxRules$Walk.<init>()V
set_option maxRecDepth 100000 in
set_option maxHeartbeats 4000000 in
theorem k117_0 (a0 : Nat) (h : zH) (Q : Option zV → zH → Prop) (k :
  (¬ (a0 : Nat) = 0) ∧ (0 ≤ (60 : Int) ∧ (60 : Int) ≤ 10000) ∧ ∀ h9 : zH, h9 = nw h 40 ((60 : Int)).toNat →
  (zty 127 a0 h9) ∧ ∀ h10 : zH, h10 = sR h9 a0 1 (nx h) →
  (0 ≤ (60 : Int) ∧ (60 : Int) ≤ 10000) ∧ ∀ h11 : zH, h11 = nw h10 40 ((60 : Int)).toNat →
  (zty 127 a0 h11) ∧ ∀ h12 : zH, h12 = sR h11 a0 2 (nx h10) →
  (0 ≤ (60 : Int) ∧ (60 : Int) ≤ 10000) ∧ ∀ h13 : zH, h13 = nw h12 40 ((60 : Int)).toNat →
  (zty 127 a0 h13) ∧ ∀ h14 : zH, h14 = sR h13 a0 3 (nx h12) →
  (0 ≤ (60 : Int) ∧ (60 : Int) ≤ 10000) ∧ ∀ h15 : zH, h15 = nw h14 41 ((60 : Int)).toNat →
  (zty 127 a0 h15) ∧ (gR (sR h15 a0 4 (nx h14)) a0 1 = a0 + 1) ∧ (zty 6140 (a0 + 1) (sR h15 a0 4 (nx h14))) ∧ (gR (sR h15 a0 4 (nx h14)) a0 2 = a0 + 2) ∧ (zty 6140 (a0 + 2) (sR h15 a0 4 (nx h14))) ∧ (gR (sR h15 a0 4 (nx h14)) a0 3 = a0 + 3) ∧ (zty 6140 (a0 + 3) (sR h15 a0 4 (nx h14))) ∧ (gR (sR h15 a0 4 (nx h14)) a0 4 = a0 + 4) ∧ (zty 6141 (a0 + 4) (sR h15 a0 4 (nx h14))) ∧ ∀ h16 : zH, h16 = sT (sR h15 a0 4 (nx h14)) a0 7 →
  Q none h16) : zK 117 0 [vR a0 0] [] h Q :=
  zwpe_W (cd := c117) rfl [] 400 0 _ _ _ _ k
-- 118 SyntaxRules$Walk.lay(LSyntaxRules$Source;[LSyntaxRules$Rule;ILSyntaxRules$Fitting;)V
set_option maxRecDepth 100000 in
set_option maxHeartbeats 4000000 in
theorem k118_0 (p1 : Nat) (p2 : Nat) (p3 : Int) (h : zH) (Q : Option zV → zH → Prop) (k :
  zK 118 3 [vR 77 107, vR p1 102, vR p2 944, vI p3, vR 56 105, vI 0] [] h Q) : zK 118 0 [vR 77 107, vR p1 102, vR p2 944, vI p3, vR 56 105, vU] [] h Q :=
  zwpe_W (cd := c118) rfl [3, 75] 400 0 _ _ _ _ k
set_option maxRecDepth 100000 in
set_option maxHeartbeats 4000000 in
theorem k118_3 (a1 : Nat) (a2 : Nat) (l3 : Int) (l5 : Int) (h : zH) (Q : Option zV → zH → Prop) (k :
  ((gI h a1 14) ≤ l5 →
    (¬ l3 = 0 →
      zC0 120 [vR 77 107, vR a1 102] h (fun h11 =>
      ∀ h12 : zH, h12 = sI h11 77 0 0 →
      zK 118 75 [vR 77 107, vR a1 102, vR a2 944, vI l3, vR 56 105, vI 0] [] h12 Q)) ∧
      (¬ (¬ l3 = 0) →
      zC0 119 [vR 77 107, vR a1 102] h (fun h13 =>
      ∀ h14 : zH, h14 = sI h13 77 0 0 →
      zK 118 75 [vR 77 107, vR a1 102, vR a2 944, vI l3, vR 56 105, vI 0] [] h14 Q))) ∧
    (¬ ((gI h a1 14) ≤ l5) →
    zC1 92 [vR 56 105, vR a1 102, vR a2 944, vI l5] h (fun v15 h15 =>
    (0 ≤ (l5 : Int)) ∧ ((l5 : Int) < 60) ∧ ∀ h16 : zH, h16 = sI h15 80 l5 v15 →
    (0 ≤ (l5 : Int)) ∧ ((l5 : Int) < 60) ∧ ∀ h17 : zH, h17 = sI h16 79 l5 (-1) →
    (0 ≤ (l5 : Int)) ∧ ((l5 : Int) < 60) ∧ ((0 : Int) = 0 ∨ (0 : Int) = 1) ∧ ∀ h18 : zH, h18 = sI h17 81 l5 0 →
    (inR (l5 + 1)) ∧ zK 118 3 [vR 77 107, vR a1 102, vR a2 944, vI l3, vR 56 105, vI (l5 + 1)] [] h18 Q))) : zK 118 3 [vR 77 107, vR a1 102, vR a2 944, vI l3, vR 56 105, vI l5] [] h Q :=
  zwpe_W (cd := c118) rfl [3, 75] 400 3 _ _ _ _ k
set_option maxRecDepth 100000 in
set_option maxHeartbeats 4000000 in
theorem k118_75 (a1 : Nat) (u2 : zV) (u3 : zV) (u4 : zV) (l5 : Int) (h : zH) (Q : Option zV → zH → Prop) (k :
  ((gI h a1 14) ≤ l5 →
    Q none h) ∧
    (¬ ((gI h a1 14) ≤ l5) →
    (0 ≤ (l5 : Int)) ∧ ((l5 : Int) < 60) ∧ ((gI h 79 l5) = (-1) →
      (inR (l5 + 1)) ∧ zK 118 75 [vR 77 107, vR a1 102, u2, u3, u4, vI (l5 + 1)] [] h Q) ∧
      (¬ ((gI h 79 l5) = (-1)) →
      (0 ≤ (gI h 77 0 : Int)) ∧ ((gI h 77 0 : Int) < 60) ∧ ∀ h19 : zH, h19 = sI h 78 (gI h 77 0) l5 →
      (inR ((gI h19 77 0) + 1)) ∧ ∀ h20 : zH, h20 = sI h19 77 0 ((gI h19 77 0) + 1) →
      (inR (l5 + 1)) ∧ zK 118 75 [vR 77 107, vR a1 102, u2, u3, u4, vI (l5 + 1)] [] h20 Q))) : zK 118 75 [vR 77 107, vR a1 102, u2, u3, u4, vI l5] [] h Q :=
  zwpe_W (cd := c118) rfl [3, 75] 400 75 _ _ _ _ k
-- 119 SyntaxRules$Walk.fromOutside(LSyntaxRules$Source;)V
set_option maxRecDepth 100000 in
set_option maxHeartbeats 4000000 in
theorem k119_0 (p1 : Nat) (h : zH) (Q : Option zV → zH → Prop) (k :
  zK 119 4 [vR 77 107, vR p1 102, vI 0, vI 0] [] h Q) : zK 119 0 [vR 77 107, vR p1 102, vU, vU] [] h Q :=
  zwpe_W (cd := c119) rfl [4] 400 0 _ _ _ _ k
set_option maxRecDepth 100000 in
set_option maxHeartbeats 4000000 in
theorem k119_4 (a1 : Nat) (l2 : Int) (l3 : Int) (h : zH) (Q : Option zV → zH → Prop) (k :
  ((gI h a1 14) ≤ l3 →
    Q none h) ∧
    (¬ ((gI h a1 14) ≤ l3) →
    (l3 < l2 →
      (inR (l3 + 1)) ∧ zK 119 4 [vR 77 107, vR a1 102, vI l2, vI (l3 + 1)] [] h Q) ∧
      (¬ (l3 < l2) →
      (0 ≤ (l3 : Int)) ∧ ((l3 : Int) < 60) ∧ ((gI h 80 l3) = 0 →
        (inR (l3 + 1)) ∧ zK 119 4 [vR 77 107, vR a1 102, vI l2, vI (l3 + 1)] [] h Q) ∧
        (¬ ((gI h 80 l3) = 0) →
        (0 ≤ (l3 : Int)) ∧ ((l3 : Int) < 60) ∧ zC1 257 [vI (gI h 80 l3)] h (fun v3 h3 =>
        (0 ≤ (l3 : Int)) ∧ ((l3 : Int) < 60) ∧ ∀ h4 : zH, h4 = sI h3 79 l3 v3 →
        (0 ≤ (l3 : Int)) ∧ ((l3 : Int) < 60) ∧ (inR (l3 + (gI h4 (a1 + 9) l3))) ∧ (inR (l3 + 1)) ∧ zK 119 4 [vR 77 107, vR a1 102, vI (l3 + (gI h4 (a1 + 9) l3)), vI (l3 + 1)] [] h4 Q))))) : zK 119 4 [vR 77 107, vR a1 102, vI l2, vI l3] [] h Q :=
  zwpe_W (cd := c119) rfl [4] 400 4 _ _ _ _ k
-- 120 SyntaxRules$Walk.fromInside(LSyntaxRules$Source;)V
set_option maxRecDepth 100000 in
set_option maxHeartbeats 4000000 in
theorem k120_0 (p1 : Nat) (h : zH) (Q : Option zV → zH → Prop) (k :
  (inR ((gI h p1 14) - 1)) ∧ zK 120 7 [vR 77 107, vR p1 102, vI ((gI h p1 14) - 1)] [] h Q) : zK 120 0 [vR 77 107, vR p1 102, vU] [] h Q :=
  zwpe_W (cd := c120) rfl [7, 51] 400 0 _ _ _ _ k
set_option maxRecDepth 100000 in
set_option maxHeartbeats 4000000 in
theorem k120_7 (a1 : Nat) (l2 : Int) (h : zH) (Q : Option zV → zH → Prop) (k :
  (l2 < 0 →
    Q none h) ∧
    (¬ (l2 < 0) →
    (0 ≤ (l2 : Int)) ∧ ((l2 : Int) < 60) ∧ (¬ (gI h 81 l2) = 0 →
      zK 120 51 [vR 77 107, vR a1 102, vI l2] [] h Q) ∧
      (¬ (¬ (gI h 81 l2) = 0) →
      (0 ≤ (l2 : Int)) ∧ ((l2 : Int) < 60) ∧ ((gI h 80 l2) = 0 →
        zK 120 51 [vR 77 107, vR a1 102, vI l2] [] h Q) ∧
        (¬ ((gI h 80 l2) = 0) →
        (0 ≤ (l2 : Int)) ∧ ((l2 : Int) < 60) ∧ zC1 257 [vI (gI h 80 l2)] h (fun v5 h5 =>
        (0 ≤ (l2 : Int)) ∧ ((l2 : Int) < 60) ∧ ∀ h6 : zH, h6 = sI h5 79 l2 v5 →
        (0 ≤ (l2 : Int)) ∧ ((l2 : Int) < 60) ∧ ((1 : Int) = 0 ∨ (1 : Int) = 1) ∧ ∀ h7 : zH, h7 = sI h6 81 l2 1 →
        zK 120 51 [vR 77 107, vR a1 102, vI l2] [] h7 Q))))) : zK 120 7 [vR 77 107, vR a1 102, vI l2] [] h Q :=
  zwpe_W (cd := c120) rfl [7, 51] 400 7 _ _ _ _ k
set_option maxRecDepth 100000 in
set_option maxHeartbeats 4000000 in
theorem k120_51 (a1 : Nat) (l2 : Int) (h : zH) (Q : Option zV → zH → Prop) (k :
  (0 ≤ (l2 : Int)) ∧ ((l2 : Int) < 60) ∧ ((gI h 81 l2) = 0 →
    (inR (l2 + (-1))) ∧ zK 120 7 [vR 77 107, vR a1 102, vI (l2 + (-1))] [] h Q) ∧
    (¬ ((gI h 81 l2) = 0) →
    (0 ≤ (l2 : Int)) ∧ ((l2 : Int) < 60) ∧ ((gI h (a1 + 4) l2) = (-1) →
      (inR (l2 + (-1))) ∧ zK 120 7 [vR 77 107, vR a1 102, vI (l2 + (-1))] [] h Q) ∧
      (¬ ((gI h (a1 + 4) l2) = (-1)) →
      (0 ≤ (l2 : Int)) ∧ ((l2 : Int) < 60) ∧ (0 ≤ (gI h (a1 + 4) l2 : Int)) ∧ ((gI h (a1 + 4) l2 : Int) < 60) ∧ ((1 : Int) = 0 ∨ (1 : Int) = 1) ∧ ∀ h8 : zH, h8 = sI h 81 (gI h (a1 + 4) l2) 1 →
      (inR (l2 + (-1))) ∧ zK 120 7 [vR 77 107, vR a1 102, vI (l2 + (-1))] [] h8 Q))) : zK 120 51 [vR 77 107, vR a1 102, vI l2] [] h Q :=
  zwpe_W (cd := c120) rfl [7, 51] 400 51 _ _ _ _ k
-- 121 SyntaxRules$Walk.ruleOf(I)I
set_option maxRecDepth 100000 in
set_option maxHeartbeats 4000000 in
theorem k121_0 (p1 : Int) (h : zH) (Q : Option zV → zH → Prop) (k :
  (0 ≤ (p1 : Int)) ∧ ((p1 : Int) < 60) ∧ (0 ≤ (gI h 78 p1 : Int)) ∧ ((gI h 78 p1 : Int) < 60) ∧ Q (some (vI (gI h 79 (gI h 78 p1)))) h) : zK 121 0 [vR 77 107, vI p1] [] h Q :=
  zwpe_W (cd := c121) rfl [] 400 0 _ _ _ _ k
-- 122 SyntaxRules$Writer.<init>()V
set_option maxRecDepth 100000 in
set_option maxHeartbeats 4000000 in
theorem k122_0 (a0 : Nat) (h : zH) (Q : Option zV → zH → Prop) (k :
  (¬ (a0 : Nat) = 0) ∧ ∀ h8 : zH, h8 = nw h 21 2 →
  (¬ (nx h : Nat) = 0) ∧ zC0 43 [vR (nx h) 0] h8 (fun h9 =>
  (zty 128 a0 h9) ∧ ∀ h10 : zH, h10 = sR h9 a0 6 (nx h) →
  (0 ≤ (40 : Int) ∧ (40 : Int) ≤ 10000) ∧ ∀ h11 : zH, h11 = nw h10 40 ((40 : Int)).toNat →
  (zty 128 a0 h11) ∧ ∀ h12 : zH, h12 = sR h11 a0 7 (nx h10) →
  (0 ≤ (40 : Int) ∧ (40 : Int) ≤ 10000) ∧ ∀ h13 : zH, h13 = nw h12 40 ((40 : Int)).toNat →
  (zty 128 a0 h13) ∧ (gR (sR h13 a0 8 (nx h12)) a0 6 = a0 + 1) ∧ (zty 101 (a0 + 1) (sR h13 a0 8 (nx h12))) ∧ (gR (sR h13 a0 8 (nx h12)) a0 7 = a0 + 3) ∧ (zty 4140 (a0 + 3) (sR h13 a0 8 (nx h12))) ∧ (gR (sR h13 a0 8 (nx h12)) a0 8 = a0 + 4) ∧ (zty 4140 (a0 + 4) (sR h13 a0 8 (nx h12))) ∧ ∀ h14 : zH, h14 = sT (sR h13 a0 8 (nx h12)) a0 8 →
  Q none h14)) : zK 122 0 [vR a0 0] [] h Q :=
  zwpe_W (cd := c122) rfl [] 400 0 _ _ _ _ k
-- 123 SyntaxRules$Writer.clear(I)V
set_option maxRecDepth 100000 in
set_option maxHeartbeats 4000000 in
theorem k123_0 (p1 : Int) (h : zH) (Q : Option zV → zH → Prop) (k :
  ∀ h7 : zH, h7 = sI h 82 0 0 →
  ∀ h8 : zH, h8 = sI h7 82 1 0 →
  ∀ h9 : zH, h9 = sI h8 82 2 (-1) →
  ∀ h10 : zH, h10 = sI h9 82 3 p1 →
  ∀ h11 : zH, h11 = sI h10 82 4 (-1) →
  ((0 : Int) = 0 ∨ (0 : Int) = 1) ∧ ∀ h12 : zH, h12 = sI h11 82 5 0 →
  Q none h12) : zK 123 0 [vR 82 108, vI p1] [] h Q :=
  zwpe_W (cd := c123) rfl [] 400 0 _ _ _ _ k
-- 124 SyntaxRules$Writer.written()LSyntaxRules$Text;
set_option maxRecDepth 100000 in
set_option maxHeartbeats 4000000 in
theorem k124_0 (h : zH) (Q : Option zV → zH → Prop) (k :
  ∀ h2 : zH, h2 = sI h 83 1 (iMin (gI h 82 0) 300) →
  Q (some (vR 83 101)) h2) : zK 124 0 [vR 82 108] [] h Q :=
  zwpe_W (cd := c124) rfl [] 400 0 _ _ _ _ k
-- 125 SyntaxRules$Writer.putSeam()V
set_option maxRecDepth 100000 in
set_option maxHeartbeats 4000000 in
theorem k125_0 (h : zH) (Q : Option zV → zH → Prop) (k :
  ((1 : Int) = 0 ∨ (1 : Int) = 1) ∧ ∀ h2 : zH, h2 = sI h 82 5 1 →
  Q none h2) : zK 125 0 [vR 82 108] [] h Q :=
  zwpe_W (cd := c125) rfl [] 400 0 _ _ _ _ k
-- 126 SyntaxRules$Writer.writeEdit(LSyntaxRules$Source;LSyntaxRules$Rule;ILSyntaxRules$Fitting;)V
set_option maxRecDepth 100000 in
set_option maxHeartbeats 4000000 in
theorem k126_0 (p1 : Nat) (p2 : Nat) (p3 : Int) (h : zH) (Q : Option zV → zH → Prop) (k :
  zK 126 6 [vR 82 108, vR p1 102, vR p2 103, vI p3, vR 56 105, vI (gI h p2 14), vU, vU, vU] [] h Q) : zK 126 0 [vR 82 108, vR p1 102, vR p2 103, vI p3, vR 56 105, vU, vU, vU, vU] [] h Q :=
  zwpe_W (cd := c126) rfl [6, 34, 90, 91] 400 0 _ _ _ _ k
set_option maxRecDepth 100000 in
set_option maxHeartbeats 4000000 in
theorem k126_6 (a1 : Nat) (a2 : Nat) (l3 : Int) (l5 : Int) (u6 : zV) (u7 : zV) (u8 : zV) (h : zH) (Q : Option zV → zH → Prop) (k :
  ((gI h a2 13) ≤ l5 →
    zK 126 34 [vR 82 108, vR a1 102, vR a2 103, vI l3, vR 56 105, vI 0, u6, u7, u8] [] h Q) ∧
    (¬ ((gI h a2 13) ≤ l5) →
    zC0 127 [vR 82 108, vR a1 102, vR a2 103, vI l5, vR 56 105] h (fun h7 =>
    (inR (l5 + 1)) ∧ zK 126 6 [vR 82 108, vR a1 102, vR a2 103, vI l3, vR 56 105, vI (l5 + 1), u6, u7, u8] [] h7 Q))) : zK 126 6 [vR 82 108, vR a1 102, vR a2 103, vI l3, vR 56 105, vI l5, u6, u7, u8] [] h Q :=
  zwpe_W (cd := c126) rfl [6, 34, 90, 91] 400 6 _ _ _ _ k
set_option maxRecDepth 100000 in
set_option maxHeartbeats 4000000 in
theorem k126_34 (a1 : Nat) (a2 : Nat) (l3 : Int) (u4 : zV) (l5 : Int) (u6 : zV) (u7 : zV) (u8 : zV) (h : zH) (Q : Option zV → zH → Prop) (k :
  ((gI h a1 15) ≤ l5 →
    zC0 129 [vR 82 108, vR a1 102, vR a2 103] h (fun h8 =>
    Q none h8)) ∧
    (¬ ((gI h a1 15) ≤ l5) →
    (0 ≤ (l5 : Int)) ∧ ((l5 : Int) < 150) ∧ (0 ≤ (l5 : Int)) ∧ ((l5 : Int) < 150) ∧ (inR ((gI h (a1 + 13) l5) + (gI h (a1 + 14) l5))) ∧ (0 ≤ (l3 : Int)) ∧ ((l3 : Int) < 60) ∧ ((gI h (a1 + 13) l5) < (gI h (a1 + 7) l3) →
      zK 126 90 [vR 82 108, vR a1 102, vR a2 103, vI l3, u4, vI l5, vI (gI h (a1 + 13) l5), vI ((gI h (a1 + 13) l5) + (gI h (a1 + 14) l5)), u8] [] h Q) ∧
      (¬ ((gI h (a1 + 13) l5) < (gI h (a1 + 7) l3)) →
      (0 ≤ (l3 : Int)) ∧ ((l3 : Int) < 60) ∧ ((gI h (a1 + 8) l3) < ((gI h (a1 + 13) l5) + (gI h (a1 + 14) l5)) →
        zK 126 90 [vR 82 108, vR a1 102, vR a2 103, vI l3, u4, vI l5, vI (gI h (a1 + 13) l5), vI ((gI h (a1 + 13) l5) + (gI h (a1 + 14) l5)), u8] [] h Q) ∧
        (¬ ((gI h (a1 + 8) l3) < ((gI h (a1 + 13) l5) + (gI h (a1 + 14) l5))) →
        zK 126 91 [vR 82 108, vR a1 102, vR a2 103, vI l3, u4, vI l5, vI (gI h (a1 + 13) l5), vI ((gI h (a1 + 13) l5) + (gI h (a1 + 14) l5)), u8] [vI 1] h Q)))) : zK 126 34 [vR 82 108, vR a1 102, vR a2 103, vI l3, u4, vI l5, u6, u7, u8] [] h Q :=
  zwpe_W (cd := c126) rfl [6, 34, 90, 91] 400 34 _ _ _ _ k
set_option maxRecDepth 100000 in
set_option maxHeartbeats 4000000 in
theorem k126_90 (a1 : Nat) (a2 : Nat) (l3 : Int) (u4 : zV) (l5 : Int) (l6 : Int) (l7 : Int) (u8 : zV) (h : zH) (Q : Option zV → zH → Prop) (k :
  zK 126 91 [vR 82 108, vR a1 102, vR a2 103, vI l3, u4, vI l5, vI l6, vI l7, u8] [vI 0] h Q) : zK 126 90 [vR 82 108, vR a1 102, vR a2 103, vI l3, u4, vI l5, vI l6, vI l7, u8] [] h Q :=
  zwpe_W (cd := c126) rfl [6, 34, 90, 91] 400 90 _ _ _ _ k
set_option maxRecDepth 100000 in
set_option maxHeartbeats 4000000 in
theorem k126_91 (a1 : Nat) (a2 : Nat) (l3 : Int) (u4 : zV) (l5 : Int) (l6 : Int) (l7 : Int) (u8 : zV) (s0 : Int) (h : zH) (Q : Option zV → zH → Prop) (k :
  (s0 = 0 →
    (inR (l5 + 1)) ∧ zK 126 34 [vR 82 108, vR a1 102, vR a2 103, vI l3, u4, vI (l5 + 1), vI l6, vI l7, vI s0] [] h Q) ∧
    (¬ (s0 = 0) →
    zC1 128 [vR 82 108, vR a2 103, vI l6, vI l7] h (fun v9 h9 =>
    (¬ v9 = 0 →
      (inR (l5 + 1)) ∧ zK 126 34 [vR 82 108, vR a1 102, vR a2 103, vI l3, u4, vI (l5 + 1), vI l6, vI l7, vI s0] [] h9 Q) ∧
      (¬ (¬ v9 = 0) →
      zC0 131 [vR 82 108, vR (a1 + 1) 101, vI l6, vI l7] h9 (fun h10 =>
      zC0 132 [vR 82 108, vI 32] h10 (fun h11 =>
      (inR ((gI h11 82 1) + 1)) ∧ ∀ h12 : zH, h12 = sI h11 82 1 ((gI h11 82 1) + 1) →
      (inR (l5 + 1)) ∧ zK 126 34 [vR 82 108, vR a1 102, vR a2 103, vI l3, u4, vI (l5 + 1), vI l6, vI l7, vI s0] [] h12 Q)))))) : zK 126 91 [vR 82 108, vR a1 102, vR a2 103, vI l3, u4, vI l5, vI l6, vI l7, u8] [vI s0] h Q :=
  zwpe_W (cd := c126) rfl [6, 34, 90, 91] 400 91 _ _ _ _ k
-- 127 SyntaxRules$Writer.findHeld(LSyntaxRules$Source;LSyntaxRules$Rule;ILSyntaxRules$Fitting;)V
set_option maxRecDepth 100000 in
set_option maxHeartbeats 4000000 in
theorem k127_0 (p1 : Nat) (p2 : Nat) (p3 : Int) (h : zH) (Q : Option zV → zH → Prop) (k :
  (0 ≤ (p3 : Int)) ∧ ((p3 : Int) < 40) ∧ ∀ h6 : zH, h6 = sI h 85 p3 0 →
  (0 ≤ (p3 : Int)) ∧ ((p3 : Int) < 40) ∧ ∀ h7 : zH, h7 = sI h6 86 p3 0 →
  (0 ≤ (p3 : Int)) ∧ ((p3 : Int) < 40) ∧ (¬ (gI h7 (p2 + 4) p3) = (-1) →
    (0 ≤ (p3 : Int)) ∧ ((p3 : Int) < 40) ∧ zC1 68 [vR p2 103, vI 0, vI (gI h7 (p2 + 4) p3)] h7 (fun v8 h8 =>
    zK 127 39 [vR 82 108, vR p1 102, vR p2 103, vI p3, vR 56 105, vU] [vI v8] h8 Q)) ∧
    (¬ (¬ (gI h7 (p2 + 4) p3) = (-1)) →
    zK 127 39 [vR 82 108, vR p1 102, vR p2 103, vI p3, vR 56 105, vU] [vI ((-1))] h7 Q)) : zK 127 0 [vR 82 108, vR p1 102, vR p2 103, vI p3, vR 56 105, vU] [] h Q :=
  zwpe_W (cd := c127) rfl [39] 400 0 _ _ _ _ k
set_option maxRecDepth 100000 in
set_option maxHeartbeats 4000000 in
theorem k127_39 (a1 : Nat) (u2 : zV) (l3 : Int) (u5 : zV) (s0 : Int) (h : zH) (Q : Option zV → zH → Prop) (k :
  (s0 = (-1) →
    Q none h) ∧
    (¬ (s0 = (-1)) →
    (0 ≤ (s0 : Int)) ∧ ((s0 : Int) < 20) ∧ ((gI h 59 s0) ≤ 0 →
      Q none h) ∧
      (¬ ((gI h 59 s0) ≤ 0) →
      (0 ≤ (s0 : Int)) ∧ ((s0 : Int) < 20) ∧ (0 ≤ (gI h 57 s0 : Int)) ∧ ((gI h 57 s0 : Int) < 60) ∧ (0 ≤ (l3 : Int)) ∧ ((l3 : Int) < 40) ∧ ∀ h9 : zH, h9 = sI h 85 l3 (gI h (a1 + 7) (gI h 57 s0)) →
      (0 ≤ (s0 : Int)) ∧ ((s0 : Int) < 20) ∧ (0 ≤ (gI h9 58 s0 : Int)) ∧ ((gI h9 58 s0 : Int) < 60) ∧ (0 ≤ (l3 : Int)) ∧ ((l3 : Int) < 40) ∧ ∀ h10 : zH, h10 = sI h9 86 l3 (gI h9 (a1 + 8) (gI h9 58 s0)) →
      Q none h10))) : zK 127 39 [vR 82 108, vR a1 102, u2, vI l3, vR 56 105, u5] [vI s0] h Q :=
  zwpe_W (cd := c127) rfl [39] 400 39 _ _ _ _ k
-- 128 SyntaxRules$Writer.isHeld(LSyntaxRules$Rule;II)Z
set_option maxRecDepth 100000 in
set_option maxHeartbeats 4000000 in
theorem k128_0 (p1 : Nat) (p2 : Int) (p3 : Int) (h : zH) (Q : Option zV → zH → Prop) (k :
  zK 128 6 [vR 82 108, vR p1 103, vI p2, vI p3, vI (gI h p1 14)] [] h Q) : zK 128 0 [vR 82 108, vR p1 103, vI p2, vI p3, vU] [] h Q :=
  zwpe_W (cd := c128) rfl [6] 400 0 _ _ _ _ k
set_option maxRecDepth 100000 in
set_option maxHeartbeats 4000000 in
theorem k128_6 (a1 : Nat) (l2 : Int) (l3 : Int) (l4 : Int) (h : zH) (Q : Option zV → zH → Prop) (k :
  ((gI h a1 13) ≤ l4 →
    ((0 : Int) = 0 ∨ (0 : Int) = 1) ∧ Q (some (vI 0)) h) ∧
    (¬ ((gI h a1 13) ≤ l4) →
    (0 ≤ (l4 : Int)) ∧ ((l4 : Int) < 40) ∧ (l2 < (gI h 85 l4) →
      (inR (l4 + 1)) ∧ zK 128 6 [vR 82 108, vR a1 103, vI l2, vI l3, vI (l4 + 1)] [] h Q) ∧
      (¬ (l2 < (gI h 85 l4)) →
      (0 ≤ (l4 : Int)) ∧ ((l4 : Int) < 40) ∧ ((gI h 86 l4) < l3 →
        (inR (l4 + 1)) ∧ zK 128 6 [vR 82 108, vR a1 103, vI l2, vI l3, vI (l4 + 1)] [] h Q) ∧
        (¬ ((gI h 86 l4) < l3) →
        ((1 : Int) = 0 ∨ (1 : Int) = 1) ∧ Q (some (vI 1)) h)))) : zK 128 6 [vR 82 108, vR a1 103, vI l2, vI l3, vI l4] [] h Q :=
  zwpe_W (cd := c128) rfl [6] 400 6 _ _ _ _ k
-- 129 SyntaxRules$Writer.writePut(LSyntaxRules$Source;LSyntaxRules$Rule;)V
set_option maxRecDepth 100000 in
set_option maxHeartbeats 4000000 in
theorem k129_0 (p1 : Nat) (p2 : Nat) (h : zH) (Q : Option zV → zH → Prop) (k :
  zK 129 5 [vR 82 108, vR p1 102, vR p2 103, vI (gI h p2 14), vU, vU] [] h Q) : zK 129 0 [vR 82 108, vR p1 102, vR p2 103, vU, vU, vU] [] h Q :=
  zwpe_W (cd := c129) rfl [5, 28, 54, 55, 78, 122] 400 0 _ _ _ _ k
set_option maxRecDepth 100000 in
set_option maxHeartbeats 4000000 in
theorem k129_5 (a1 : Nat) (a2 : Nat) (l3 : Int) (u4 : zV) (u5 : zV) (h : zH) (Q : Option zV → zH → Prop) (k :
  ((gI h a2 13) ≤ l3 →
    Q none h) ∧
    (¬ ((gI h a2 13) ≤ l3) →
    (0 ≤ (l3 : Int)) ∧ ((l3 : Int) < 40) ∧ ((gI h (a2 + 4) l3) = (-1) →
      zK 129 28 [vR 82 108, vR a1 102, vR a2 103, vI l3, u4, u5] [vI 0] h Q) ∧
      (¬ ((gI h (a2 + 4) l3) = (-1)) →
      zK 129 28 [vR 82 108, vR a1 102, vR a2 103, vI l3, u4, u5] [vI 1] h Q))) : zK 129 5 [vR 82 108, vR a1 102, vR a2 103, vI l3, u4, u5] [] h Q :=
  zwpe_W (cd := c129) rfl [5, 28, 54, 55, 78, 122] 400 5 _ _ _ _ k
set_option maxRecDepth 100000 in
set_option maxHeartbeats 4000000 in
theorem k129_28 (a1 : Nat) (a2 : Nat) (l3 : Int) (u4 : zV) (u5 : zV) (s0 : Int) (h : zH) (Q : Option zV → zH → Prop) (k :
  (s0 = 0 →
    zK 129 54 [vR 82 108, vR a1 102, vR a2 103, vI l3, vI s0, u5] [] h Q) ∧
    (¬ (s0 = 0) →
    (0 ≤ (l3 : Int)) ∧ ((l3 : Int) < 40) ∧ (0 ≤ (l3 : Int)) ∧ ((l3 : Int) < 40) ∧ (¬ (gI h 85 l3) = (gI h 86 l3) →
      zK 129 54 [vR 82 108, vR a1 102, vR a2 103, vI l3, vI s0, u5] [] h Q) ∧
      (¬ (¬ (gI h 85 l3) = (gI h 86 l3)) →
      zK 129 55 [vR 82 108, vR a1 102, vR a2 103, vI l3, vI s0, u5] [vI 1] h Q))) : zK 129 28 [vR 82 108, vR a1 102, vR a2 103, vI l3, u4, u5] [vI s0] h Q :=
  zwpe_W (cd := c129) rfl [5, 28, 54, 55, 78, 122] 400 28 _ _ _ _ k
set_option maxRecDepth 100000 in
set_option maxHeartbeats 4000000 in
theorem k129_54 (a1 : Nat) (a2 : Nat) (l3 : Int) (l4 : Int) (u5 : zV) (h : zH) (Q : Option zV → zH → Prop) (k :
  zK 129 55 [vR 82 108, vR a1 102, vR a2 103, vI l3, vI l4, u5] [vI 0] h Q) : zK 129 54 [vR 82 108, vR a1 102, vR a2 103, vI l3, vI l4, u5] [] h Q :=
  zwpe_W (cd := c129) rfl [5, 28, 54, 55, 78, 122] 400 54 _ _ _ _ k
set_option maxRecDepth 100000 in
set_option maxHeartbeats 4000000 in
theorem k129_55 (a1 : Nat) (a2 : Nat) (l3 : Int) (l4 : Int) (u5 : zV) (s0 : Int) (h : zH) (Q : Option zV → zH → Prop) (k :
  (0 ≤ (l3 : Int)) ∧ ((l3 : Int) < 40) ∧ ((gI h (a2 + 6) l3) = (-1) →
    zK 129 78 [vR 82 108, vR a1 102, vR a2 103, vI l3, vI l4, vI s0] [] h Q) ∧
    (¬ ((gI h (a2 + 6) l3) = (-1)) →
    (¬ s0 = 0 →
      zK 129 78 [vR 82 108, vR a1 102, vR a2 103, vI l3, vI l4, vI s0] [] h Q) ∧
      (¬ (¬ s0 = 0) →
      zC0 132 [vR 82 108, vI 32] h (fun h7 =>
      zK 129 78 [vR 82 108, vR a1 102, vR a2 103, vI l3, vI l4, vI s0] [] h7 Q)))) : zK 129 55 [vR 82 108, vR a1 102, vR a2 103, vI l3, vI l4, u5] [vI s0] h Q :=
  zwpe_W (cd := c129) rfl [5, 28, 54, 55, 78, 122] 400 55 _ _ _ _ k
set_option maxRecDepth 100000 in
set_option maxHeartbeats 4000000 in
theorem k129_78 (a1 : Nat) (a2 : Nat) (l3 : Int) (l4 : Int) (u5 : zV) (h : zH) (Q : Option zV → zH → Prop) (k :
  (l4 = 0 →
    (0 ≤ (l3 : Int)) ∧ ((l3 : Int) < 40) ∧ (¬ (gI h (a2 + 3) l3) = 4 →
      zK 129 122 [vR 82 108, vR a1 102, vR a2 103, vI l3, vI l4, u5] [] h Q) ∧
      (¬ (¬ (gI h (a2 + 3) l3) = 4) →
      zC0 132 [vR 82 108, vI 40] h (fun h8 =>
      zK 129 122 [vR 82 108, vR a1 102, vR a2 103, vI l3, vI l4, u5] [] h8 Q))) ∧
    (¬ (l4 = 0) →
    (0 ≤ (l3 : Int)) ∧ ((l3 : Int) < 40) ∧ (0 ≤ (l3 : Int)) ∧ ((l3 : Int) < 40) ∧ zC0 131 [vR 82 108, vR (a1 + 1) 101, vI (gI h 85 l3), vI (gI h 86 l3)] h (fun h9 =>
    zC0 130 [vR 82 108, vR a2 103, vI l3] h9 (fun h10 =>
    (inR (l3 + 1)) ∧ zK 129 5 [vR 82 108, vR a1 102, vR a2 103, vI (l3 + 1), vI l4, u5] [] h10 Q)))) : zK 129 78 [vR 82 108, vR a1 102, vR a2 103, vI l3, vI l4, u5] [] h Q :=
  zwpe_W (cd := c129) rfl [5, 28, 54, 55, 78, 122] 400 78 _ _ _ _ k
set_option maxRecDepth 100000 in
set_option maxHeartbeats 4000000 in
theorem k129_122 (a1 : Nat) (a2 : Nat) (l3 : Int) (u4 : zV) (u5 : zV) (h : zH) (Q : Option zV → zH → Prop) (k :
  (0 ≤ (l3 : Int)) ∧ ((l3 : Int) < 40) ∧ (0 ≤ (l3 : Int)) ∧ ((l3 : Int) < 40) ∧ (0 ≤ (l3 : Int)) ∧ ((l3 : Int) < 40) ∧ (inR ((gI h (a2 + 13) l3) + (gI h (a2 + 14) l3))) ∧ zC0 131 [vR 82 108, vR (a2 + 1) 101, vI (gI h (a2 + 13) l3), vI ((gI h (a2 + 13) l3) + (gI h (a2 + 14) l3))] h (fun h11 =>
  zC0 130 [vR 82 108, vR a2 103, vI l3] h11 (fun h12 =>
  (inR (l3 + 1)) ∧ zK 129 5 [vR 82 108, vR a1 102, vR a2 103, vI (l3 + 1), u4, u5] [] h12 Q))) : zK 129 122 [vR 82 108, vR a1 102, vR a2 103, vI l3, u4, u5] [] h Q :=
  zwpe_W (cd := c129) rfl [5, 28, 54, 55, 78, 122] 400 122 _ _ _ _ k
-- 130 SyntaxRules$Writer.closeTerms(LSyntaxRules$Rule;I)V
set_option maxRecDepth 100000 in
set_option maxHeartbeats 4000000 in
theorem k130_0 (p1 : Nat) (p2 : Int) (h : zH) (Q : Option zV → zH → Prop) (k :
  zK 130 5 [vR 82 108, vR p1 103, vI p2, vI p2, vI 0] [] h Q) : zK 130 0 [vR 82 108, vR p1 103, vI p2, vU, vU] [] h Q :=
  zwpe_W (cd := c130) rfl [5] 400 0 _ _ _ _ k
set_option maxRecDepth 100000 in
set_option maxHeartbeats 4000000 in
theorem k130_5 (a1 : Nat) (l2 : Int) (l3 : Int) (l4 : Int) (h : zH) (Q : Option zV → zH → Prop) (k :
  (20 ≤ l4 →
    Q none h) ∧
    (¬ (20 ≤ l4) →
    (l3 = (-1) →
      Q none h) ∧
      (¬ (l3 = (-1)) →
      (0 ≤ (l3 : Int)) ∧ ((l3 : Int) < 40) ∧ (inR (l3 + (gI h (a1 + 12) l3))) ∧ (inR (l2 + 1)) ∧ ((l3 + (gI h (a1 + 12) l3)) = (l2 + 1) →
        (0 ≤ (l3 : Int)) ∧ ((l3 : Int) < 40) ∧ (¬ (gI h (a1 + 3) l3) = 4 →
          (0 ≤ (l3 : Int)) ∧ ((l3 : Int) < 40) ∧ (inR (l4 + 1)) ∧ zK 130 5 [vR 82 108, vR a1 103, vI l2, vI (gI h (a1 + 6) l3), vI (l4 + 1)] [] h Q) ∧
          (¬ (¬ (gI h (a1 + 3) l3) = 4) →
          zC0 132 [vR 82 108, vI 41] h (fun h2 =>
          (0 ≤ (l3 : Int)) ∧ ((l3 : Int) < 40) ∧ (inR (l4 + 1)) ∧ zK 130 5 [vR 82 108, vR a1 103, vI l2, vI (gI h2 (a1 + 6) l3), vI (l4 + 1)] [] h2 Q))) ∧
        (¬ ((l3 + (gI h (a1 + 12) l3)) = (l2 + 1)) →
        Q none h)))) : zK 130 5 [vR 82 108, vR a1 103, vI l2, vI l3, vI l4] [] h Q :=
  zwpe_W (cd := c130) rfl [5] 400 5 _ _ _ _ k
-- 131 SyntaxRules$Writer.putRow(LSyntaxRules$Text;II)V
set_option maxRecDepth 100000 in
set_option maxHeartbeats 4000000 in
theorem k131_0 (p1 : Nat) (p2 : Int) (p3 : Int) (h : zH) (Q : Option zV → zH → Prop) (k :
  zK 131 3 [vR 82 108, vR p1 101, vI p2, vI p3, vI p2] [] h Q) : zK 131 0 [vR 82 108, vR p1 101, vI p2, vI p3, vU] [] h Q :=
  zwpe_W (cd := c131) rfl [3] 400 0 _ _ _ _ k
set_option maxRecDepth 100000 in
set_option maxHeartbeats 4000000 in
theorem k131_3 (a1 : Nat) (u2 : zV) (l3 : Int) (l4 : Int) (h : zH) (Q : Option zV → zH → Prop) (k :
  (l3 ≤ l4 →
    Q none h) ∧
    (¬ (l3 ≤ l4) →
    zC1 44 [vR a1 101, vI l4] h (fun v3 h3 =>
    zC0 132 [vR 82 108, vI v3] h3 (fun h4 =>
    (inR (l4 + 1)) ∧ zK 131 3 [vR 82 108, vR a1 101, u2, vI l3, vI (l4 + 1)] [] h4 Q)))) : zK 131 3 [vR 82 108, vR a1 101, u2, vI l3, vI l4] [] h Q :=
  zwpe_W (cd := c131) rfl [3] 400 3 _ _ _ _ k
-- 132 SyntaxRules$Writer.putSign(I)V
set_option maxRecDepth 100000 in
set_option maxHeartbeats 4000000 in
theorem k132_0 (p1 : Int) (h : zH) (Q : Option zV → zH → Prop) (k :
  ((gI h 82 5) = 0 →
    ((0 : Int) = 0 ∨ (0 : Int) = 1) ∧ ∀ h14 : zH, h14 = sI h 82 5 0 →
    zC0 133 [vR 82 108, vI p1] h14 (fun h15 =>
    Q none h15)) ∧
    (¬ ((gI h 82 5) = 0) →
    zC1 33 [vI (gI h 82 4)] h (fun v16 h16 =>
    (v16 = 0 →
      zK 132 24 [vR 82 108, vI p1] [] h16 Q) ∧
      (¬ (v16 = 0) →
      zC1 33 [vI p1] h16 (fun v17 h17 =>
      (¬ v17 = 0 →
        zK 132 41 [vR 82 108, vI p1] [] h17 Q) ∧
        (¬ (¬ v17 = 0) →
        zK 132 24 [vR 82 108, vI p1] [] h17 Q)))))) : zK 132 0 [vR 82 108, vI p1] [] h Q :=
  zwpe_W (cd := c132) rfl [24, 41] 400 0 _ _ _ _ k
set_option maxRecDepth 100000 in
set_option maxHeartbeats 4000000 in
theorem k132_24 (l1 : Int) (h : zH) (Q : Option zV → zH → Prop) (k :
  zC1 34 [vI (gI h 82 4)] h (fun v18 h18 =>
  (v18 = 0 →
    ((0 : Int) = 0 ∨ (0 : Int) = 1) ∧ ∀ h19 : zH, h19 = sI h18 82 5 0 →
    zC0 133 [vR 82 108, vI l1] h19 (fun h20 =>
    Q none h20)) ∧
    (¬ (v18 = 0) →
    zC1 34 [vI l1] h18 (fun v21 h21 =>
    (v21 = 0 →
      ((0 : Int) = 0 ∨ (0 : Int) = 1) ∧ ∀ h22 : zH, h22 = sI h21 82 5 0 →
      zC0 133 [vR 82 108, vI l1] h22 (fun h23 =>
      Q none h23)) ∧
      (¬ (v21 = 0) →
      zK 132 41 [vR 82 108, vI l1] [] h21 Q))))) : zK 132 24 [vR 82 108, vI l1] [] h Q :=
  zwpe_W (cd := c132) rfl [24, 41] 400 24 _ _ _ _ k
set_option maxRecDepth 100000 in
set_option maxHeartbeats 4000000 in
theorem k132_41 (l1 : Int) (h : zH) (Q : Option zV → zH → Prop) (k :
  zC0 133 [vR 82 108, vI 32] h (fun h24 =>
  ((0 : Int) = 0 ∨ (0 : Int) = 1) ∧ ∀ h25 : zH, h25 = sI h24 82 5 0 →
  zC0 133 [vR 82 108, vI l1] h25 (fun h26 =>
  Q none h26))) : zK 132 41 [vR 82 108, vI l1] [] h Q :=
  zwpe_W (cd := c132) rfl [24, 41] 400 41 _ _ _ _ k
-- 133 SyntaxRules$Writer.append(I)V
set_option maxRecDepth 100000 in
set_option maxHeartbeats 4000000 in
theorem k133_0 (p1 : Int) (h : zH) (Q : Option zV → zH → Prop) (k :
  (300 ≤ (gI h 82 0) →
    zK 133 23 [vR 82 108, vI p1] [] h Q) ∧
    (¬ (300 ≤ (gI h 82 0)) →
    (0 ≤ (gI h 82 0 : Int)) ∧ ((gI h 82 0 : Int) < 300) ∧ ∀ h5 : zH, h5 = sI h 84 (gI h 82 0) p1 →
    zK 133 23 [vR 82 108, vI p1] [] h5 Q)) : zK 133 0 [vR 82 108, vI p1] [] h Q :=
  zwpe_W (cd := c133) rfl [23, 39] 400 0 _ _ _ _ k
set_option maxRecDepth 100000 in
set_option maxHeartbeats 4000000 in
theorem k133_23 (l1 : Int) (h : zH) (Q : Option zV → zH → Prop) (k :
  (¬ (gI h 82 0) = (gI h 82 3) →
    zK 133 39 [vR 82 108, vI l1] [] h Q) ∧
    (¬ (¬ (gI h 82 0) = (gI h 82 3)) →
    ∀ h6 : zH, h6 = sI h 82 2 l1 →
    zK 133 39 [vR 82 108, vI l1] [] h6 Q)) : zK 133 23 [vR 82 108, vI l1] [] h Q :=
  zwpe_W (cd := c133) rfl [23, 39] 400 23 _ _ _ _ k
set_option maxRecDepth 100000 in
set_option maxHeartbeats 4000000 in
theorem k133_39 (l1 : Int) (h : zH) (Q : Option zV → zH → Prop) (k :
  ∀ h7 : zH, h7 = sI h 82 4 l1 →
  (inR ((gI h7 82 0) + 1)) ∧ ∀ h8 : zH, h8 = sI h7 82 0 ((gI h7 82 0) + 1) →
  Q none h8) : zK 133 39 [vR 82 108, vI l1] [] h Q :=
  zwpe_W (cd := c133) rfl [23, 39] 400 39 _ _ _ _ k
-- 134 SyntaxRules$Past.<init>()V
set_option maxRecDepth 100000 in
set_option maxHeartbeats 4000000 in
theorem k134_0 (a0 : Nat) (h : zH) (Q : Option zV → zH → Prop) (k :
  (¬ (a0 : Nat) = 0) ∧ (0 ≤ (8 : Int) ∧ (8 : Int) ≤ 10000) ∧ ∀ h6 : zH, h6 = nw h 45 ((8 : Int)).toNat →
  (zty 129 a0 h6) ∧ (gR (sR h6 a0 2 (nx h)) a0 2 = a0 + 1) ∧ (zty 945 (a0 + 1) (sR h6 a0 2 (nx h))) ∧ ∀ h7 : zH, h7 = sT (sR h6 a0 2 (nx h)) a0 9 →
  zK 134 15 [vR a0 0, vI 0] [] h7 Q) : zK 134 0 [vR a0 0, vU] [] h Q :=
  zwpe_W (cd := c134) rfl [15] 400 0 _ _ _ _ k
set_option maxRecDepth 100000 in
set_option maxHeartbeats 4000000 in
theorem k134_15 (a0 : Nat) (l1 : Int) (h : zH) (Q : Option zV → zH → Prop) (k :
  (8 ≤ l1 →
    Q none h) ∧
    (¬ (8 ≤ l1) →
    (zty 109 a0 h) ∧ ∀ h8 : zH, h8 = nw h 21 2 →
    (¬ (nx h : Nat) = 0) ∧ zC0 43 [vR (nx h) 0] h8 (fun h9 =>
    (0 ≤ (l1 : Int)) ∧ ((l1 : Int) < 8) ∧ ((nx h : Nat) = 0 ∨ zty 101 (nx h) h9) ∧ ∀ h10 : zH, h10 = sR h9 (a0 + 1) l1 (nx h) →
    (inR (l1 + 1)) ∧ zK 134 15 [vR a0 0, vI (l1 + 1)] [] h10 Q))) : zK 134 15 [vR a0 0, vI l1] [] h Q :=
  zwpe_W (cd := c134) rfl [15] 400 15 _ _ _ _ k
-- 135 SyntaxRules$Past.add(LSyntaxRules$Text;)V
set_option maxRecDepth 100000 in
set_option maxHeartbeats 4000000 in
theorem k135_0 (p1 : Nat) (h : zH) (Q : Option zV → zH → Prop) (k :
  (¬ (gI h 87 0) = 8 →
    zK 135 32 [vR 87 109, vR p1 101] [] h Q) ∧
    (¬ (¬ (gI h 87 0) = 8) →
    (inR ((gI h 87 1) + 1)) ∧ (¬ (8 : Int) = 0) ∧ ∀ h5 : zH, h5 = sI h 87 1 (iRem ((gI h 87 1) + 1) 8) →
    (inR ((gI h5 87 0) - 1)) ∧ ∀ h6 : zH, h6 = sI h5 87 0 ((gI h5 87 0) - 1) →
    zK 135 32 [vR 87 109, vR p1 101] [] h6 Q)) : zK 135 0 [vR 87 109, vR p1 101] [] h Q :=
  zwpe_W (cd := c135) rfl [32] 400 0 _ _ _ _ k
set_option maxRecDepth 100000 in
set_option maxHeartbeats 4000000 in
theorem k135_32 (a1 : Nat) (h : zH) (Q : Option zV → zH → Prop) (k :
  (inR ((gI h 87 1) + (gI h 87 0))) ∧ (¬ (8 : Int) = 0) ∧ (0 ≤ (iRem ((gI h 87 1) + (gI h 87 0)) 8 : Int)) ∧ ((iRem ((gI h 87 1) + (gI h 87 0)) 8 : Int) < 8) ∧ (zty 101 (gR h 88 (iRem ((gI h 87 1) + (gI h 87 0)) 8)) h) ∧ zC0 45 [vR (gR h 88 (iRem ((gI h 87 1) + (gI h 87 0)) 8)) 101, vR a1 101] h (fun h7 =>
  (inR ((gI h7 87 0) + 1)) ∧ ∀ h8 : zH, h8 = sI h7 87 0 ((gI h7 87 0) + 1) →
  Q none h8)) : zK 135 32 [vR 87 109, vR a1 101] [] h Q :=
  zwpe_W (cd := c135) rfl [32] 400 32 _ _ _ _ k
-- 136 SyntaxRules$Past.takeLatest()LSyntaxRules$Text;
set_option maxRecDepth 100000 in
set_option maxHeartbeats 4000000 in
theorem k136_0 (h : zH) (Q : Option zV → zH → Prop) (k :
  (¬ (gI h 87 0) = 0 →
    (inR ((gI h 87 0) - 1)) ∧ ∀ h2 : zH, h2 = sI h 87 0 ((gI h 87 0) - 1) →
    (inR ((gI h2 87 1) + (gI h2 87 0))) ∧ (¬ (8 : Int) = 0) ∧ (0 ≤ (iRem ((gI h2 87 1) + (gI h2 87 0)) 8 : Int)) ∧ ((iRem ((gI h2 87 1) + (gI h2 87 0)) 8 : Int) < 8) ∧ (zty 101 (gR h2 88 (iRem ((gI h2 87 1) + (gI h2 87 0)) 8)) h2) ∧ Q (some (vR (gR h2 88 (iRem ((gI h2 87 1) + (gI h2 87 0)) 8)) 0)) h2) ∧
    (¬ (¬ (gI h 87 0) = 0) →
    Q (some (vR 0 0)) h)) : zK 136 0 [vR 87 109] [] h Q :=
  zwpe_W (cd := c136) rfl [] 400 0 _ _ _ _ k
-- 137 SyntaxRules$Past.forget()V
set_option maxRecDepth 100000 in
set_option maxHeartbeats 4000000 in
theorem k137_0 (h : zH) (Q : Option zV → zH → Prop) (k :
  ∀ h2 : zH, h2 = sI h 87 0 0 →
  Q none h2) : zK 137 0 [vR 87 109] [] h Q :=
  zwpe_W (cd := c137) rfl [] 400 0 _ _ _ _ k
-- 138 SyntaxRules$Kept.<init>()V
set_option maxRecDepth 100000 in
set_option maxHeartbeats 4000000 in
theorem k138_0 (a0 : Nat) (h : zH) (Q : Option zV → zH → Prop) (k :
  (¬ (a0 : Nat) = 0) ∧ ∀ h6 : zH, h6 = nw h 21 2 →
  (¬ (nx h : Nat) = 0) ∧ zC0 43 [vR (nx h) 0] h6 (fun h7 =>
  (zty 130 a0 h7) ∧ ∀ h8 : zH, h8 = sR h7 a0 1 (nx h) →
  (0 ≤ (8 : Int) ∧ (8 : Int) ≤ 10000) ∧ ∀ h9 : zH, h9 = nw h8 44 ((8 : Int)).toNat →
  (zty 130 a0 h9) ∧ (gR (sR h9 a0 2 (nx h8)) a0 1 = a0 + 1) ∧ (zty 101 (a0 + 1) (sR h9 a0 2 (nx h8))) ∧ (gR (sR h9 a0 2 (nx h8)) a0 2 = a0 + 3) ∧ (zty 944 (a0 + 3) (sR h9 a0 2 (nx h8))) ∧ ∀ h10 : zH, h10 = sT (sR h9 a0 2 (nx h8)) a0 10 →
  Q none h10)) : zK 138 0 [vR a0 0] [] h Q :=
  zwpe_W (cd := c138) rfl [] 400 0 _ _ _ _ k
-- 257 java/lang/Integer.numberOfTrailingZeros(I)I
set_option maxRecDepth 100000 in
set_option maxHeartbeats 4000000 in
theorem k257_0 (p0 : Int) (h : zH) (Q : Option zV → zH → Prop) (k :
  (inR (p0 - 1)) ∧ (0 < (iAnd (iXor p0 (-1)) (p0 - 1)) →
    ((iAnd (iXor p0 (-1)) (p0 - 1)) ≤ 65536 →
      zK 257 34 [vI (iAnd (iXor p0 (-1)) (p0 - 1)), vI 1] [] h Q) ∧
      (¬ ((iAnd (iXor p0 (-1)) (p0 - 1)) ≤ 65536) →
      (inR (1 + 16)) ∧ zK 257 34 [vI (iUshr (iAnd (iXor p0 (-1)) (p0 - 1)) 16), vI (1 + 16)] [] h Q)) ∧
    (¬ (0 < (iAnd (iXor p0 (-1)) (p0 - 1))) →
    Q (some (vI (iAnd (iAnd (iXor p0 (-1)) (p0 - 1)) 32))) h)) : zK 257 0 [vI p0, vU] [] h Q :=
  zwpe_W (cd := c257) rfl [34, 49, 62] 400 0 _ _ _ _ k
set_option maxRecDepth 100000 in
set_option maxHeartbeats 4000000 in
theorem k257_34 (l0 : Int) (l1 : Int) (h : zH) (Q : Option zV → zH → Prop) (k :
  (l0 ≤ 256 →
    zK 257 49 [vI l0, vI l1] [] h Q) ∧
    (¬ (l0 ≤ 256) →
    (inR (l1 + 8)) ∧ zK 257 49 [vI (iUshr l0 8), vI (l1 + 8)] [] h Q)) : zK 257 34 [vI l0, vI l1] [] h Q :=
  zwpe_W (cd := c257) rfl [34, 49, 62] 400 34 _ _ _ _ k
set_option maxRecDepth 100000 in
set_option maxHeartbeats 4000000 in
theorem k257_49 (l0 : Int) (l1 : Int) (h : zH) (Q : Option zV → zH → Prop) (k :
  (l0 ≤ 16 →
    zK 257 62 [vI l0, vI l1] [] h Q) ∧
    (¬ (l0 ≤ 16) →
    (inR (l1 + 4)) ∧ zK 257 62 [vI (iUshr l0 4), vI (l1 + 4)] [] h Q)) : zK 257 49 [vI l0, vI l1] [] h Q :=
  zwpe_W (cd := c257) rfl [34, 49, 62] 400 49 _ _ _ _ k
set_option maxRecDepth 100000 in
set_option maxHeartbeats 4000000 in
theorem k257_62 (l0 : Int) (l1 : Int) (h : zH) (Q : Option zV → zH → Prop) (k :
  (l0 ≤ 4 →
    (inR (l1 + (iUshr l0 1))) ∧ Q (some (vI (l1 + (iUshr l0 1)))) h) ∧
    (¬ (l0 ≤ 4) →
    (inR (l1 + 2)) ∧ (inR ((l1 + 2) + (iUshr (iUshr l0 2) 1))) ∧ Q (some (vI ((l1 + 2) + (iUshr (iUshr l0 2) 1)))) h)) : zK 257 62 [vI l0, vI l1] [] h Q :=
  zwpe_W (cd := c257) rfl [34, 49, 62] 400 62 _ _ _ _ k
-- 258 java/lang/Integer.bitCount(I)I
set_option maxRecDepth 100000 in
set_option maxHeartbeats 4000000 in
theorem k258_0 (p0 : Int) (h : zH) (Q : Option zV → zH → Prop) (k :
  (inR (p0 - (iAnd (iUshr p0 1) 1431655765))) ∧ (inR ((iAnd (p0 - (iAnd (iUshr p0 1) 1431655765)) 858993459) + (iAnd (iUshr (p0 - (iAnd (iUshr p0 1) 1431655765)) 2) 858993459))) ∧ (inR (((iAnd (p0 - (iAnd (iUshr p0 1) 1431655765)) 858993459) + (iAnd (iUshr (p0 - (iAnd (iUshr p0 1) 1431655765)) 2) 858993459)) + (iUshr ((iAnd (p0 - (iAnd (iUshr p0 1) 1431655765)) 858993459) + (iAnd (iUshr (p0 - (iAnd (iUshr p0 1) 1431655765)) 2) 858993459)) 4))) ∧ (inR ((iAnd (((iAnd (p0 - (iAnd (iUshr p0 1) 1431655765)) 858993459) + (iAnd (iUshr (p0 - (iAnd (iUshr p0 1) 1431655765)) 2) 858993459)) + (iUshr ((iAnd (p0 - (iAnd (iUshr p0 1) 1431655765)) 858993459) + (iAnd (iUshr (p0 - (iAnd (iUshr p0 1) 1431655765)) 2) 858993459)) 4)) 252645135) + (iUshr (iAnd (((iAnd (p0 - (iAnd (iUshr p0 1) 1431655765)) 858993459) + (iAnd (iUshr (p0 - (iAnd (iUshr p0 1) 1431655765)) 2) 858993459)) + (iUshr ((iAnd (p0 - (iAnd (iUshr p0 1) 1431655765)) 858993459) + (iAnd (iUshr (p0 - (iAnd (iUshr p0 1) 1431655765)) 2) 858993459)) 4)) 252645135) 8))) ∧ (inR (((iAnd (((iAnd (p0 - (iAnd (iUshr p0 1) 1431655765)) 858993459) + (iAnd (iUshr (p0 - (iAnd (iUshr p0 1) 1431655765)) 2) 858993459)) + (iUshr ((iAnd (p0 - (iAnd (iUshr p0 1) 1431655765)) 858993459) + (iAnd (iUshr (p0 - (iAnd (iUshr p0 1) 1431655765)) 2) 858993459)) 4)) 252645135) + (iUshr (iAnd (((iAnd (p0 - (iAnd (iUshr p0 1) 1431655765)) 858993459) + (iAnd (iUshr (p0 - (iAnd (iUshr p0 1) 1431655765)) 2) 858993459)) + (iUshr ((iAnd (p0 - (iAnd (iUshr p0 1) 1431655765)) 858993459) + (iAnd (iUshr (p0 - (iAnd (iUshr p0 1) 1431655765)) 2) 858993459)) 4)) 252645135) 8)) + (iUshr ((iAnd (((iAnd (p0 - (iAnd (iUshr p0 1) 1431655765)) 858993459) + (iAnd (iUshr (p0 - (iAnd (iUshr p0 1) 1431655765)) 2) 858993459)) + (iUshr ((iAnd (p0 - (iAnd (iUshr p0 1) 1431655765)) 858993459) + (iAnd (iUshr (p0 - (iAnd (iUshr p0 1) 1431655765)) 2) 858993459)) 4)) 252645135) + (iUshr (iAnd (((iAnd (p0 - (iAnd (iUshr p0 1) 1431655765)) 858993459) + (iAnd (iUshr (p0 - (iAnd (iUshr p0 1) 1431655765)) 2) 858993459)) + (iUshr ((iAnd (p0 - (iAnd (iUshr p0 1) 1431655765)) 858993459) + (iAnd (iUshr (p0 - (iAnd (iUshr p0 1) 1431655765)) 2) 858993459)) 4)) 252645135) 8)) 16))) ∧ Q (some (vI (iAnd (((iAnd (((iAnd (p0 - (iAnd (iUshr p0 1) 1431655765)) 858993459) + (iAnd (iUshr (p0 - (iAnd (iUshr p0 1) 1431655765)) 2) 858993459)) + (iUshr ((iAnd (p0 - (iAnd (iUshr p0 1) 1431655765)) 858993459) + (iAnd (iUshr (p0 - (iAnd (iUshr p0 1) 1431655765)) 2) 858993459)) 4)) 252645135) + (iUshr (iAnd (((iAnd (p0 - (iAnd (iUshr p0 1) 1431655765)) 858993459) + (iAnd (iUshr (p0 - (iAnd (iUshr p0 1) 1431655765)) 2) 858993459)) + (iUshr ((iAnd (p0 - (iAnd (iUshr p0 1) 1431655765)) 858993459) + (iAnd (iUshr (p0 - (iAnd (iUshr p0 1) 1431655765)) 2) 858993459)) 4)) 252645135) 8)) + (iUshr ((iAnd (((iAnd (p0 - (iAnd (iUshr p0 1) 1431655765)) 858993459) + (iAnd (iUshr (p0 - (iAnd (iUshr p0 1) 1431655765)) 2) 858993459)) + (iUshr ((iAnd (p0 - (iAnd (iUshr p0 1) 1431655765)) 858993459) + (iAnd (iUshr (p0 - (iAnd (iUshr p0 1) 1431655765)) 2) 858993459)) 4)) 252645135) + (iUshr (iAnd (((iAnd (p0 - (iAnd (iUshr p0 1) 1431655765)) 858993459) + (iAnd (iUshr (p0 - (iAnd (iUshr p0 1) 1431655765)) 2) 858993459)) + (iUshr ((iAnd (p0 - (iAnd (iUshr p0 1) 1431655765)) 858993459) + (iAnd (iUshr (p0 - (iAnd (iUshr p0 1) 1431655765)) 2) 858993459)) 4)) 252645135) 8)) 16)) 63))) h) : zK 258 0 [vI p0] [] h Q :=
  zwpe_W (cd := c258) rfl [] 400 0 _ _ _ _ k
-- 263 SyntaxRules$TestTree.layItem(LSyntaxRules$Rule;I)I
set_option maxRecDepth 100000 in
set_option maxHeartbeats 4000000 in
theorem k263_0 (p1 : Nat) (p2 : Int) (h : zH) (Q : Option zV → zH → Prop) (k :
  (0 ≤ (p2 : Int)) ∧ ((p2 : Int) < 40) ∧ ((gI h (p1 + 3) p2) = 2 →
    zK 263 19 [vR 63 106, vR p1 103, vI p2] [] h Q) ∧
    (¬ ((gI h (p1 + 3) p2) = 2) →
    (0 ≤ (p2 : Int)) ∧ ((p2 : Int) < 40) ∧ ((gI h (p1 + 10) p2) ≤ 0 →
      (0 ≤ (p2 : Int)) ∧ ((p2 : Int) < 40) ∧ (¬ (gI h (p1 + 3) p2) = 4 →
        (0 ≤ (p2 : Int)) ∧ ((p2 : Int) < 40) ∧ (¬ (gI h (p1 + 3) p2) = 3 →
          (0 ≤ (p2 : Int)) ∧ ((p2 : Int) < 40) ∧ (¬ (gI h (p1 + 3) p2) = 1 →
            Q (some (vI 1)) h) ∧
            (¬ (¬ (gI h (p1 + 3) p2) = 1) →
            zC0 106 [vR 63 106, vR p1 103, vI p2] h (fun h6 =>
            Q (some (vI 1)) h6))) ∧
          (¬ (¬ (gI h (p1 + 3) p2) = 3) →
          zC0 107 [vR 63 106, vI 0, vI p2, vI ((-1))] h (fun h7 =>
          Q (some (vI 1)) h7))) ∧
        (¬ (¬ (gI h (p1 + 3) p2) = 4) →
        zC0 107 [vR 63 106, vI 1, vI p2, vI ((-1))] h (fun h8 =>
        zC0 107 [vR 63 106, vI 2, vI p2, vI ((-1))] h8 (fun h9 =>
        Q (some (vI 1)) h9)))) ∧
      (¬ ((gI h (p1 + 10) p2) ≤ 0) →
      zK 263 19 [vR 63 106, vR p1 103, vI p2] [] h Q))) : zK 263 0 [vR 63 106, vR p1 103, vI p2] [] h Q :=
  zwpe_W (cd := c263) rfl [19] 400 0 _ _ _ _ k
set_option maxRecDepth 100000 in
set_option maxHeartbeats 4000000 in
theorem k263_19 (a1 : Nat) (l2 : Int) (h : zH) (Q : Option zV → zH → Prop) (k :
  zC0 107 [vR 63 106, vI 5, vI l2, vI ((-1))] h (fun h10 =>
  (0 ≤ (l2 : Int)) ∧ ((l2 : Int) < 40) ∧ Q (some (vI (gI h10 (a1 + 12) l2))) h10)) : zK 263 19 [vR 63 106, vR a1 103, vI l2] [] h Q :=
  zwpe_W (cd := c263) rfl [19] 400 19 _ _ _ _ k
