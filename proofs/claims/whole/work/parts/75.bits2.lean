/-! How many bits. -/
def pcN : Nat → Nat → Nat
  | 0, _ => 0
  | k + 1, V => V % 2 + pcN k (V / 2)
theorem pcN_ap : ∀ (j k V : Nat), pcN (j + k) V = pcN j V + pcN k (V / 2 ^ j)
  | 0, k, V => by rw [Nat.zero_add, Nat.pow_zero, Nat.div_one]; simp [pcN]
  | j + 1, k, V => by
    rw [show j + 1 + k = (j + k) + 1 by omega, pcN, pcN, pcN_ap j k (V / 2), Nat.div_div_eq_div_mul, show 2 * 2 ^ j = 2 ^ (j + 1) by rw [Nat.pow_succ]; omega]
    omega
theorem pcN_0 : ∀ k : Nat, pcN k 0 = 0
  | 0 => rfl
  | k + 1 => by rw [pcN, Nat.zero_div, pcN_0 k]
theorem pcN_le : ∀ (k V : Nat), pcN k V ≤ k
  | 0, _ => Nat.le_refl _
  | k + 1, V => by have := pcN_le k (V / 2); rw [pcN]; omega
theorem pcN_b : ∀ (j k V : Nat), V < 2 ^ j → j ≤ k → pcN k V = pcN j V := by
  intro j k V h hk
  have := pcN_ap j (k - j) V
  rw [show j + (k - j) = k by omega, Nat.div_eq_of_lt h, pcN_0] at this
  omega
theorem pcN_dec : ∀ (k V : Nat), V < 2 ^ k → ¬ V = 0 → pcN k (V &&& (V - 1)) + 1 = pcN k V
  | 0, V, h, h0 => by rw [Nat.pow_zero] at h; omega
  | k + 1, V, h, h0 => by
    rw [pcN, pcN, Nat.and_div_two]
    have hm : (V &&& (V - 1)) % 2 = 0 := by
      have q := @Nat.and_mod_two_eq_one V (V - 1)
      have : ¬ (V &&& (V - 1)) % 2 = 1 := fun c => by have := q.1 c; omega
      omega
    rw [hm]
    have hp : 2 ^ (k + 1) = 2 * 2 ^ k := by rw [Nat.pow_succ]; omega
    by_cases c : V % 2 = 1
    · rw [show (V - 1) / 2 = V / 2 by omega, Nat.and_self]; omega
    · have r := pcN_dec k (V / 2) (by omega) (by omega)
      rw [show (V - 1) / 2 = V / 2 - 1 by omega]; omega
theorem s238l {h : zH} {Q : Option zV → zH → Prop} {u0 u1 : zV} : ∀ (f V : Nat) (c : Int), pcN 26 V = f → V < 67108864 → 0 ≤ c → c + f ≤ 26 → Q (some (vI (c + f))) h → zK 238 4 [u0, u1, vI c, vI (V : Int)] [] h Q := by
  intro f
  induction f with
  | zero =>
    intro V c hf hV c0 c1 k
    have V0 : V = 0 := by
      apply Classical.byContradiction
      intro d
      have := pcN_dec 26 V hV d
      omega
    refine k238_4 u0 u1 c _ h Q ⟨fun _ => ?_, fun d => absurd (by omega) d⟩
    rw [show c + ((0 : Nat) : Int) = c by omega] at k; exact k
  | succ f ih =>
    intro V c hf hV c0 c1 k
    have V0 : ¬ V = 0 := fun d => by rw [d, pcN_0] at hf; omega
    have dc := pcN_dec 26 V hV V0
    have e : iAnd (V : Int) ((V : Int) - 1) = ((V &&& (V - 1) : Nat) : Int) := by
      have := iAndN (x := V) (y := V - 1) (by omega) (by omega)
      rwa [show ((V - 1 : Nat) : Int) = (V : Int) - 1 by omega] at this
    refine k238_4 u0 u1 c _ h Q ⟨fun d => absurd d (by omega), fun _ => ⟨by unfold inR; omega, by unfold inR; omega, ?_⟩⟩
    rw [e]
    refine ih _ (c + 1) (by omega) (Nat.lt_of_le_of_lt Nat.and_le_left hV) (by omega) (by omega) ?_
    rw [show c + 1 + (f : Int) = c + ((f + 1 : Nat) : Int) by omega]; exact k
theorem s238 {h : zH} {V : Nat} (hV : V < 67108864) {K : Int → zH → Prop} (k : K (pcN 26 V : Nat) h) : zC1 238 [vR 127 111, vI (V : Int)] h K := by
  have := pcN_le 26 V
  exact cI (k238_0 _ h _ (s238l (pcN 26 V) V 0 rfl hV (by omega) (by omega) (zq1 (by rw [Int.zero_add]; exact k))))
theorem iUshrN {x s : Nat} (hx : x < 2147483648) (hs : s = 1 ∨ s = 2 ∨ s = 4 ∨ s = 8 ∨ s = 16) : iUshr (x : Int) (s : Int) = ((x / 2 ^ s : Nat) : Int) := by
  have e : ((Int32.ofInt (x : Int)).toUInt32 >>> ((Int32.ofInt (s : Int)).toUInt32 &&& Int32.toUInt32 31)).toInt32.toBitVec.toNat = x / 2 ^ s := by
    show ((Int32.ofInt (x : Int)).toUInt32 >>> ((Int32.ofInt (s : Int)).toUInt32 &&& Int32.toUInt32 31)).toNat = _
    rw [UInt32.toNat_shiftRight]
    have c : ((Int32.ofInt (s : Int)).toUInt32 &&& Int32.toUInt32 31).toNat % 32 = s := by rcases hs with rfl | rfl | rfl | rfl | rfl <;> decide
    rw [c, Nat.shiftRight_eq_div_pow]
    have z : (Int32.ofInt (x : Int)).toUInt32.toNat = x := z32n x hx
    rw [z]
  unfold iUshr
  rw [i32n _ (by rw [e]; exact Nat.lt_of_le_of_lt (Nat.div_le_self _ _) hx), e]
theorem and_b {a b c d : Nat} (hb : b < 256) (hd : d < 256) : (256 * a + b) &&& (256 * c + d) = 256 * (a &&& c) + (b &&& d) := by
  have hbd : b &&& d < 2 ^ 8 := Nat.lt_of_le_of_lt Nat.and_le_left hb
  apply Nat.eq_of_testBit_eq
  intro j
  have e1 := Nat.testBit_two_pow_mul_add a (i := 8) hb j
  have e2 := Nat.testBit_two_pow_mul_add c (i := 8) hd j
  have e3 := Nat.testBit_two_pow_mul_add (a &&& c) (i := 8) hbd j
  rw [show (2 : Nat) ^ 8 = 256 from rfl] at e1 e2 e3
  rw [Nat.testBit_and, e1, e2, e3]
  split <;> rw [Nat.testBit_and]
set_option maxRecDepth 100000 in
theorem by1 : ∀ b : Nat, b < 256 → ∀ w : Nat, w < 2 → (128 * w + b / 2) &&& 85 = (b / 2) &&& 85 := by decide +kernel
set_option maxRecDepth 100000 in
theorem by2 : ∀ b : Nat, b < 256 → ∀ w : Nat, w < 4 → (64 * w + b / 4) &&& 51 = (b / 4) &&& 51 := by decide +kernel
def bc1 (m V : Nat) : Nat := V - ((V / 2) &&& m)
def bc2 (m V : Nat) : Nat := (V &&& m) + ((V / 4) &&& m)
def bc3 (m V : Nat) : Nat := (V + V / 16) &&& m
theorem st1 {W b M : Nat} (hb : b < 256) : bc1 (256 * M + 85) (256 * W + b) = 256 * bc1 M W + bc1 85 b := by
  unfold bc1
  rw [show (256 * W + b) / 2 = 256 * (W / 2) + (128 * (W % 2) + b / 2) by omega, and_b (by omega) (by omega), by1 b hb (W % 2) (by omega)]
  have h1 : (W / 2) &&& M ≤ W / 2 := Nat.and_le_left
  have h2 : (b / 2) &&& 85 ≤ b / 2 := Nat.and_le_left
  omega
theorem st2 {W b M : Nat} (hb : b < 256) : bc2 (256 * M + 51) (256 * W + b) = 256 * bc2 M W + bc2 51 b := by
  unfold bc2
  rw [show (256 * W + b) / 4 = 256 * (W / 4) + (64 * (W % 4) + b / 4) by omega, and_b hb (by omega), and_b (by omega) (by omega), by2 b hb (W % 4) (by omega)]
  omega
theorem and15 (x : Nat) : x &&& 15 = x % 16 := Nat.and_two_pow_sub_one_eq_mod x 4
theorem st3 {W b M : Nat} (hb : b ≤ 68) (hW : W % 16 ≤ 8) : bc3 (256 * M + 15) (256 * W + b) = 256 * bc3 M W + bc3 15 b := by
  unfold bc3
  rw [show 256 * W + b + (256 * W + b) / 16 = 256 * (W + W / 16) + (b + b / 16 + 16 * (W % 16)) by omega, and_b (by omega) (by omega), and15, and15]
  omega
set_option maxRecDepth 100000 in
theorem by3 : ∀ b : Nat, b < 256 → bc1 85 b < 256 ∧ bc2 51 (bc1 85 b) ≤ 68 ∧ bc2 51 (bc1 85 b) % 16 ≤ 4 ∧ bc3 15 (bc2 51 (bc1 85 b)) = pcN 8 b := by decide +kernel
theorem bc_all {V : Nat} (hV : V < 67108864) : bc3 252645135 (bc2 858993459 (bc1 1431655765 V)) = 256 * (256 * (256 * pcN 8 (V / 16777216) + pcN 8 (V / 65536 % 256)) + pcN 8 (V / 256 % 256)) + pcN 8 (V % 256) := by
  obtain ⟨b0, h0⟩ : ∃ b, b = V % 256 := ⟨_, rfl⟩
  obtain ⟨b1, h1⟩ : ∃ b, b = V / 256 % 256 := ⟨_, rfl⟩
  obtain ⟨b2, h2⟩ : ∃ b, b = V / 65536 % 256 := ⟨_, rfl⟩
  obtain ⟨b3, h3⟩ : ∃ b, b = V / 16777216 := ⟨_, rfl⟩
  have e : V = 256 * (256 * (256 * b3 + b2) + b1) + b0 := by omega
  rw [← h0, ← h1, ← h2, ← h3, e]
  have c0 := by3 b0 (by omega)
  have c1 := by3 b1 (by omega)
  have c2 := by3 b2 (by omega)
  have c3 := by3 b3 (by omega)
  rw [show (1431655765 : Nat) = 256 * (256 * (256 * 85 + 85) + 85) + 85 from rfl, show (858993459 : Nat) = 256 * (256 * (256 * 51 + 51) + 51) + 51 from rfl, show (252645135 : Nat) = 256 * (256 * (256 * 15 + 15) + 15) + 15 from rfl]
  rw [st1 (by omega), st1 (by omega), st1 (by omega), st2 c0.1, st2 c1.1, st2 c2.1]
  rw [st3 c0.2.1 (by omega), st3 c1.2.1 (by omega), st3 c2.2.1 (by omega), c0.2.2.2, c1.2.2.2, c2.2.2.2, c3.2.2.2]
theorem fin4 {p0 p1 p2 p3 Z : Nat} (h0 : p0 ≤ 8) (h1 : p1 ≤ 8) (h2 : p2 ≤ 8) (h3 : p3 ≤ 8) (e : Z = 256 * (256 * (256 * p3 + p2) + p1) + p0) : (Z + Z / 256 + (Z + Z / 256) / 65536) % 64 = p0 + p1 + p2 + p3 := by
  have a : Z / 256 = 65536 * p3 + 256 * p2 + p1 := by omega
  rw [a]
  have b : (Z + (65536 * p3 + 256 * p2 + p1)) / 65536 = 256 * p3 + p2 + p3 := by omega
  rw [b]
  omega
theorem s258 {h : zH} {V : Nat} (hV : V < 67108864) {K : Int → zH → Prop} (k : K (pcN 26 V : Nat) h) : zC1 258 [vI (V : Int)] h K := by
  have p0 := pcN_le 8 (V % 256)
  have p1 := pcN_le 8 (V / 256 % 256)
  have p2 := pcN_le 8 (V / 65536 % 256)
  have p3 := pcN_le 8 (V / 16777216)
  have ep : pcN 26 V = pcN 8 (V % 256) + pcN 8 (V / 256 % 256) + pcN 8 (V / 65536 % 256) + pcN 8 (V / 16777216) := by
    have md : ∀ W : Nat, pcN 8 (W % 256) = pcN 8 W := by
      intro W
      simp only [pcN]
      omega
    have a1 := pcN_ap 8 18 V
    have a2 := pcN_ap 8 10 (V / 2 ^ 8)
    have a3 := pcN_ap 8 2 (V / 2 ^ 8 / 2 ^ 8)
    have a4 := pcN_b 2 8 (V / 16777216) (by omega) (by omega)
    rw [show V / 2 ^ 8 / 2 ^ 8 / 2 ^ 8 = V / 16777216 by omega] at a3
    rw [show V / 2 ^ 8 / 2 ^ 8 = V / 65536 by omega] at a2 a3
    rw [show V / 2 ^ 8 = V / 256 by omega] at a1 a2
    rw [md, md, md]
    rw [show (8 + 18 : Nat) = 26 from rfl] at a1
    rw [show (8 + 10 : Nat) = 18 from rfl] at a2
    rw [show (8 + 2 : Nat) = 10 from rfl] at a3
    omega
  have ba := bc_all hV
  have l1 : bc1 1431655765 V ≤ V := Nat.sub_le _ _
  obtain ⟨X, hX⟩ : ∃ X, X = bc1 1431655765 V := ⟨_, rfl⟩
  rw [← hX] at ba l1
  have a1 : iAnd (iUshr (V : Int) 1) 1431655765 = (((V / 2) &&& 1431655765 : Nat) : Int) := by
    have u : iUshr (V : Int) 1 = ((V / 2 : Nat) : Int) := iUshrN (s := 1) (by omega) (Or.inl rfl)
    rw [u]
    exact iAndN (y := 1431655765) (by omega) (by omega)
  have hx : (V : Int) - (((V / 2) &&& 1431655765 : Nat) : Int) = (X : Int) := by
    have : (V / 2) &&& 1431655765 ≤ V / 2 := Nat.and_le_left
    rw [hX]; unfold bc1; omega
  obtain ⟨Y, hY⟩ : ∃ Y, Y = bc2 858993459 X := ⟨_, rfl⟩
  rw [← hY] at ba
  have y1 : iAnd (X : Int) 858993459 = ((X &&& 858993459 : Nat) : Int) := iAndN (y := 858993459) (by omega) (by omega)
  have y2 : iAnd (iUshr (X : Int) 2) 858993459 = (((X / 4) &&& 858993459 : Nat) : Int) := by
    have u : iUshr (X : Int) 2 = ((X / 4 : Nat) : Int) := iUshrN (s := 2) (by omega) (Or.inr (Or.inl rfl))
    rw [u]
    exact iAndN (y := 858993459) (by omega) (by omega)
  have q1 : X &&& 858993459 ≤ X := Nat.and_le_left
  have q2 : (X / 4) &&& 858993459 ≤ X / 4 := Nat.and_le_left
  have hy : ((X &&& 858993459 : Nat) : Int) + (((X / 4) &&& 858993459 : Nat) : Int) = (Y : Int) := by rw [hY]; unfold bc2; omega
  have hYb : Y < 100000000 := by rw [hY]; unfold bc2; omega
  obtain ⟨Z, hZ⟩ : ∃ Z, Z = bc3 252645135 Y := ⟨_, rfl⟩
  rw [← hZ] at ba
  have z1 : iUshr (Y : Int) 4 = ((Y / 16 : Nat) : Int) := iUshrN (s := 4) (by omega) (Or.inr (Or.inr (Or.inl rfl)))
  have z2 : iAnd ((Y : Int) + ((Y / 16 : Nat) : Int)) 252645135 = (Z : Int) := by
    have := iAndN (x := Y + Y / 16) (y := 252645135) (by omega) (by omega)
    rw [hZ]
    unfold bc3
    rw [← this]
    congr 1
  have w1 : iUshr (Z : Int) 8 = ((Z / 256 : Nat) : Int) := iUshrN (s := 8) (by omega) (Or.inr (Or.inr (Or.inr (Or.inl rfl))))
  have w2 : iUshr ((Z : Int) + ((Z / 256 : Nat) : Int)) 16 = (((Z + Z / 256) / 65536 : Nat) : Int) := iUshrN (x := Z + Z / 256) (s := 16) (by omega) (Or.inr (Or.inr (Or.inr (Or.inr rfl))))
  have w3 : iAnd ((Z : Int) + ((Z / 256 : Nat) : Int) + (((Z + Z / 256) / 65536 : Nat) : Int)) 63 = ((pcN 26 V : Nat) : Int) := by
    have := iAndN (x := Z + Z / 256 + (Z + Z / 256) / 65536) (y := 63) (by omega) (by omega)
    rw [show (Z + Z / 256 + (Z + Z / 256) / 65536) &&& 63 = (Z + Z / 256 + (Z + Z / 256) / 65536) % 64 from Nat.and_two_pow_sub_one_eq_mod _ 6] at this
    rw [fin4 p0 p1 p2 p3 ba, ← ep] at this
    exact this
  refine cI (k258_0 _ h _ ?_)
  rw [a1, hx, y1, y2, hy, z1, z2, w1, w2, w3]
  exact ⟨by unfold inR; omega, by unfold inR; omega, by unfold inR; omega, by unfold inR; omega, by unfold inR; omega, zq1 k⟩
