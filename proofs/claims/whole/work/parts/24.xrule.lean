/-! The class: reading a rule. -/
theorem z32n (x : Nat) (h : x < 2147483648) : (Int32.ofInt (x : Int)).toBitVec.toNat = x := by
  show (BitVec.ofInt 32 (x : Int)).toNat = x
  rw [BitVec.toNat_ofInt]
  omega
theorem i32n (z : Int32) (h : z.toBitVec.toNat < 2147483648) : z.toInt = (z.toBitVec.toNat : Int) := by
  show z.toBitVec.toInt = _
  rw [BitVec.toInt_eq_toNat_of_lt (by omega)]
theorem iAndN {x y : Nat} (hx : x < 2147483648) (hy : y < 2147483648) : iAnd x y = ((x &&& y : Nat) : Int) := by
  unfold iAnd
  have e : (Int32.ofInt (x : Int) &&& Int32.ofInt (y : Int)).toBitVec.toNat = x &&& y := by
    rw [Int32.toBitVec_and, BitVec.toNat_and, z32n x hx, z32n y hy]
  have hlt : x &&& y < 2147483648 := Nat.lt_of_le_of_lt Nat.and_le_left hx
  rw [i32n _ (by omega), e]
theorem iOrN {x y : Nat} (hx : x < 2147483648) (hy : y < 2147483648) : iOr x y = ((x ||| y : Nat) : Int) := by
  unfold iOr
  have e : (Int32.ofInt (x : Int) ||| Int32.ofInt (y : Int)).toBitVec.toNat = x ||| y := by
    rw [Int32.toBitVec_or, BitVec.toNat_or, z32n x hx, z32n y hy]
  have hlt : x ||| y < 2 ^ 31 := Nat.or_lt_two_pow hx hy
  rw [i32n _ (by omega), e]
theorem iShl1 {l : Nat} (h : l < 31) : iShl 1 (l : Int) = ((2 ^ l : Nat) : Int) := by
  have : ∀ l : Fin 31, iShl 1 ((l.val : Nat) : Int) = ((2 ^ l.val : Nat) : Int) := by decide
  exact this ⟨l, h⟩
/-- a set of letters as bits -/
def bO (v : Int) (P : Int → Prop) : Prop := ∃ V : Nat, v = V ∧ V < 67108864 ∧ ∀ l : Nat, l < 26 → (V.testBit l = true ↔ P l)
theorem bO_and {v l : Int} {P : Int → Prop} (b : bO v P) (h : 0 ≤ l ∧ l < 26) : ¬ iAnd v (iShl 1 l) = 0 ↔ P l := by
  obtain ⟨V, e, hV, b⟩ := b
  obtain ⟨m, rfl⟩ := Int.eq_ofNat_of_zero_le h.1
  have hm : m < 26 := by omega
  have hp : 2 ^ m < 2147483648 := by have : 2 ^ m ≤ 2 ^ 25 := Nat.pow_le_pow_right (by omega) (by omega); omega
  rw [e, iShl1 (by omega), iAndN (by omega) hp, ← b m hm]
  have : (V &&& 2 ^ m = 0) ↔ ¬ V.testBit m = true := by
    constructor
    · intro c d
      have : (V &&& 2 ^ m).testBit m = false := by rw [c]; exact Nat.zero_testBit m
      rw [Nat.testBit_and, d, Nat.testBit_two_pow] at this
      simp at this
    · intro c
      apply Nat.eq_of_testBit_eq
      intro i
      rw [Nat.testBit_and, Nat.testBit_two_pow, Nat.zero_testBit]
      by_cases e : m = i
      · subst e; simp at c; simp [c]
      · simp [e]
  constructor
  · intro c
    apply Classical.byContradiction
    intro d
    exact c (by rw [this.mpr d]; rfl)
  · intro c d
    have : V &&& 2 ^ m = 0 := by omega
    rw [‹(V &&& 2 ^ m = 0) ↔ ¬ V.testBit m = true›] at this
    exact this c
theorem bO_or {v l : Int} {P Q : Int → Prop} (b : bO v P) (h : 0 ≤ l ∧ l < 26) (hQ : ∀ m, Q m ↔ P m ∨ m = l) : bO (iOr v (iShl 1 l)) Q := by
  obtain ⟨V, e, hV, b⟩ := b
  obtain ⟨m, rfl⟩ := Int.eq_ofNat_of_zero_le h.1
  have hm : m < 26 := by omega
  have hp : 2 ^ m ≤ 2 ^ 25 := Nat.pow_le_pow_right (by omega) (by omega)
  refine ⟨V ||| 2 ^ m, ?_, ?_, fun k hk => ?_⟩
  · rw [e, iShl1 (by omega), iOrN (by omega) (by omega)]
  · have : V ||| 2 ^ m < 2 ^ 26 := Nat.or_lt_two_pow (by omega) (by omega)
    omega
  · rw [Nat.testBit_or, hQ, Bool.or_eq_true, b k hk, Nat.testBit_two_pow]
    simp
    constructor
    · rintro (c | c)
      · exact Or.inl c
      · exact Or.inr (by omega)
    · rintro (c | c)
      · exact Or.inl c
      · exact Or.inr (by omega)
theorem bO_oo {v w : Int} {P Q R : Int → Prop} (b : bO v P) (c : bO w Q) (hR : ∀ m, R m ↔ P m ∨ Q m) : bO (iOr v w) R := by
  obtain ⟨V, e, hV, b⟩ := b
  obtain ⟨W, f, hW, c⟩ := c
  refine ⟨V ||| W, ?_, ?_, fun k hk => ?_⟩
  · rw [e, f, iOrN (by omega) (by omega)]
  · have : V ||| W < 2 ^ 26 := Nat.or_lt_two_pow (by omega) (by omega)
    omega
  · rw [Nat.testBit_or, hR, Bool.or_eq_true, b k hk, c k hk]
theorem bO_cg {v : Int} {P Q : Int → Prop} (b : bO v P) (h : ∀ m, P m ↔ Q m) : bO v Q := by
  obtain ⟨V, e, hV, b⟩ := b
  exact ⟨V, e, hV, fun k hk => (b k hk).trans (h k)⟩
def rdA (r b : Nat) (k : Int) : Prop := (b = 54 ∧ 0 ≤ k ∧ k ≤ 9) ∨ b = 55 ∨ (b = r ∧ k = 13) ∨ (r + 3 ≤ b ∧ b < r + 15)
def xR (h : zH) (r : Nat) (sd b0 : Int) (t : Int → Int) (n : Int) (s : pS) : Prop :=
  (gR h 54 2 = r ∧ gR h 54 1 = r + 1 ∧ zty 103 r h ∧ zty 101 (r + 1) h ∧ 170 ≤ r) ∧ Txt h (r + 1) t n ∧
  (gI h 54 0 = s 0 0 0 ∧ gI h r 13 = s 0 0 1 ∧ gI h 54 3 = s 0 0 2 ∧ gI h 54 4 = b0 ∧ gI h 54 5 = sd ∧ gI h 54 6 = s 0 0 4 ∧ gI h 54 7 = s 0 0 5) ∧
  (∀ i (j : Nat), 0 ≤ i → i < 40 → j < 12 → gI h (r + 3 + j) i = s 1 i j) ∧ (∀ i, 0 ≤ i → i < 40 → ¬ s 1 i 6 = 0 → gI h 55 i = s 2 i 0) ∧
  (bO (gI h 54 8) (fun l => s 5 l 0 = 1) ∧ bO (gI h 54 9) (fun l => s 5 l 0 = 2))
section XR
variable {h : zH} {r : Nat} {sd b0 : Int} {t : Int → Int} {n : Int} {s : pS}
theorem rdT {h1 : zH} (f : frP (rdA r) h h1) (x : Txt h (r + 1) t n) (hr : 170 ≤ r) : Txt h1 (r + 1) t n := x.fr f (fun k => by unfold rdA; omega)
/-- agreement is enough -/
theorem xR.cg {s' : pS} (x : xR h r sd b0 t n s) (e0 : s' 0 0 0 = s 0 0 0 ∧ s' 0 0 1 = s 0 0 1 ∧ s' 0 0 2 = s 0 0 2 ∧ s' 0 0 4 = s 0 0 4 ∧ s' 0 0 5 = s 0 0 5) (e1 : ∀ i j, j < 12 → s' 1 i j = s 1 i j) (e2 : ∀ i, s' 2 i 0 = s 2 i 0) (e5 : ∀ i, s' 5 i 0 = s 5 i 0) : xR h r sd b0 t n s' := by
  obtain ⟨x1, x2, x3, x4, x5, x6⟩ := x
  refine ⟨x1, x2, ?_, fun i j h0 h1 h2 => by rw [e1 i j h2]; exact x4 i j h0 h1 h2, fun i h0 h1 h2 => by rw [e2]; exact x5 i h0 h1 (by rw [← e1 i 6 (by omega)]; exact h2), ?_⟩
  · rw [e0.1, e0.2.1, e0.2.2.1, e0.2.2.2.1, e0.2.2.2.2]; exact x3
  · simp only [e5]; exact x6
theorem xR.w0 {v : Int} (x : xR h r sd b0 t n s) : xR (sI h 54 0 v) r sd b0 t n (up s 0 0 0 v) ∧ frP (rdA r) h (sI h 54 0 v) := by
  obtain ⟨x1, x2, x3, x4, x5, x6⟩ := x
  have hr := x1.2.2.2.2
  have f : frP (rdA r) h (sI h 54 0 v) := frP.rf.st (by unfold rdA; omega)
  refine ⟨⟨x1, rdT f x2 hr, ?_, fun i j h0 h1 h2 => ?_, fun i h0 h1 h2 => ?_, ?_⟩, f⟩
  · have d : ∀ v, gI (sI h 54 0 v) r 13 = gI h r 13 := fun v => by rw [gS, if_neg (by omega)]
    rw [d]; simp [upE, gS, x3]
  · rw [gS, if_neg (by omega), upE, if_neg (by omega)]; exact x4 i j h0 h1 h2
  · rw [upE, if_neg (by omega)] at h2; rw [gS, if_neg (by omega), upE, if_neg (by omega)]; exact x5 i h0 h1 h2
  · simp [gS, upE]; exact x6
theorem xR.w3 {v : Int} (x : xR h r sd b0 t n s) : xR (sI h 54 3 v) r sd b0 t n (up s 0 0 2 v) ∧ frP (rdA r) h (sI h 54 3 v) := by
  obtain ⟨x1, x2, x3, x4, x5, x6⟩ := x
  have hr := x1.2.2.2.2
  have f : frP (rdA r) h (sI h 54 3 v) := frP.rf.st (by unfold rdA; omega)
  refine ⟨⟨x1, rdT f x2 hr, ?_, fun i j h0 h1 h2 => ?_, fun i h0 h1 h2 => ?_, ?_⟩, f⟩
  · simp only [upE]; rw [gS1, gS, if_neg (by omega), gS, if_neg (by omega)]; simp [gS, x3]
  · rw [gS, if_neg (by omega), upE, if_neg (by omega)]; exact x4 i j h0 h1 h2
  · rw [upE, if_neg (by omega)] at h2; rw [gS, if_neg (by omega), upE, if_neg (by omega)]; exact x5 i h0 h1 h2
  · simp [gS, upE]; exact x6
theorem xR.w67 {v w : Int} (x : xR h r sd b0 t n s) : xR (sI (sI h 54 7 v) 54 6 w) r sd b0 t n (up (up s 0 0 5 v) 0 0 4 w) ∧ frP (rdA r) h (sI (sI h 54 7 v) 54 6 w) := by
  obtain ⟨x1, x2, x3, x4, x5, x6⟩ := x
  have hr := x1.2.2.2.2
  have f : frP (rdA r) h (sI (sI h 54 7 v) 54 6 w) := (frP.rf.st (by unfold rdA; omega)).st (by unfold rdA; omega)
  refine ⟨⟨x1, rdT f x2 hr, ?_, fun i j h0 h1 h2 => ?_, fun i h0 h1 h2 => ?_, ?_⟩, f⟩
  · have d : gI (sI (sI h 54 7 v) 54 6 w) r 13 = gI h r 13 := by rw [gS, if_neg (by omega), gS, if_neg (by omega)]
    rw [d]; simp [upE, gS, x3]
  · rw [gS, if_neg (by omega), gS, if_neg (by omega), upE, if_neg (by omega), upE, if_neg (by omega)]; exact x4 i j h0 h1 h2
  · rw [upE, if_neg (by omega), upE, if_neg (by omega)] at h2; rw [gS, if_neg (by omega), gS, if_neg (by omega), upE, if_neg (by omega), upE, if_neg (by omega)]; exact x5 i h0 h1 h2
  · simp [gS, upE]; exact x6
theorem xR.w13 {v : Int} (x : xR h r sd b0 t n s) : xR (sI h r 13 v) r sd b0 t n (up s 0 0 1 v) ∧ frP (rdA r) h (sI h r 13 v) := by
  obtain ⟨x1, x2, x3, x4, x5, x6⟩ := x
  have hr := x1.2.2.2.2
  have f : frP (rdA r) h (sI h r 13 v) := frP.rf.st (by unfold rdA; omega)
  have d : ∀ k, gI (sI h r 13 v) 54 k = gI h 54 k := fun k => by rw [gS, if_neg (by omega)]
  refine ⟨⟨x1, rdT f x2 hr, ?_, fun i j h0 h1 h2 => ?_, fun i h0 h1 h2 => ?_, ?_⟩, f⟩
  · rw [gS1]; simp only [d]; simp [upE, x3]
  · rw [gS, if_neg (by omega), upE, if_neg (by omega)]; exact x4 i j h0 h1 h2
  · rw [upE, if_neg (by omega)] at h2; rw [gS, if_neg (by omega), upE, if_neg (by omega)]; exact x5 i h0 h1 h2
  · rw [d, d]; simp [upE]; exact x6
theorem xR.wi (c : Nat) {i v : Int} (x : xR h r sd b0 t n s) (hc : c < 12) (h6 : c = 6 → ¬ v = 0 → gI h 55 i = s 2 i 0) : xR (sI h (r + 3 + c) i v) r sd b0 t n (up s 1 i c v) ∧ frP (rdA r) h (sI h (r + 3 + c) i v) := by
  obtain ⟨x1, x2, x3, x4, x5, x6⟩ := x
  have hr := x1.2.2.2.2
  have f : frP (rdA r) h (sI h (r + 3 + c) i v) := frP.rf.st (by unfold rdA; omega)
  have d : ∀ k, gI (sI h (r + 3 + c) i v) 54 k = gI h 54 k := fun k => by rw [gS, if_neg (by omega)]
  refine ⟨⟨x1, rdT f x2 hr, ?_, fun k j h0 h1 h2 => ?_, fun k h0 h1 h2 => ?_, ?_⟩, f⟩
  · simp only [d]; rw [gS, if_neg (by omega)]; simp [upE, x3]
  · rw [gS, upE]
    by_cases e : k = i ∧ j = c
    · rw [if_pos (by omega), if_pos (by omega)]
    · rw [if_neg (by omega), if_neg (by omega)]; exact x4 k j h0 h1 h2
  · rw [upE] at h2
    rw [gS, if_neg (by omega), upE, if_neg (by omega)]
    by_cases e : k = i ∧ 6 = c
    · rw [if_pos (by omega)] at h2; rw [e.1]; exact h6 e.2.symm h2
    · rw [if_neg (by omega)] at h2; exact x5 k h0 h1 h2
  · rw [d, d]; simp [upE]; exact x6
theorem xR.wl {i v : Int} (x : xR h r sd b0 t n s) : xR (sI h 55 i v) r sd b0 t n (up s 2 i 0 v) ∧ frP (rdA r) h (sI h 55 i v) := by
  obtain ⟨x1, x2, x3, x4, x5, x6⟩ := x
  have hr := x1.2.2.2.2
  have f : frP (rdA r) h (sI h 55 i v) := frP.rf.st (by unfold rdA; omega)
  have d : ∀ k, gI (sI h 55 i v) 54 k = gI h 54 k := fun k => by rw [gS, if_neg (by omega)]
  refine ⟨⟨x1, rdT f x2 hr, ?_, fun k j h0 h1 h2 => ?_, fun k h0 h1 h2 => ?_, ?_⟩, f⟩
  · simp only [d]; rw [gS, if_neg (by omega)]; simp [upE, x3]
  · rw [gS, if_neg (by omega), upE, if_neg (by omega)]; exact x4 k j h0 h1 h2
  · rw [upE, if_neg (by omega)] at h2
    rw [gS, upE]
    by_cases e : k = i
    · rw [if_pos (by omega), if_pos (by omega)]
    · rw [if_neg (by omega), if_neg (by omega)]; exact x5 k h0 h1 h2
  · rw [d, d]; simp [upE]; exact x6
/-- letters -/
theorem xR.w8 {l : Int} (x : xR h r sd b0 t n s) (hl : 0 ≤ l ∧ l < 26) (h2 : ¬ s 5 l 0 = 2) : xR (sI h 54 8 (iOr (gI h 54 8) (iShl 1 l))) r sd b0 t n (up s 5 l 0 1) ∧ frP (rdA r) h (sI h 54 8 (iOr (gI h 54 8) (iShl 1 l))) := by
  obtain ⟨x1, x2, x3, x4, x5, x6⟩ := x
  have hr := x1.2.2.2.2
  have f : frP (rdA r) h (sI h 54 8 (iOr (gI h 54 8) (iShl 1 l))) := frP.rf.st (by unfold rdA; omega)
  refine ⟨⟨x1, rdT f x2 hr, ?_, fun i j h0 h1 h2 => ?_, fun i h0 h1 h2 => ?_, ?_, ?_⟩, f⟩
  · have d : ∀ v, gI (sI h 54 8 v) r 13 = gI h r 13 := fun v => by rw [gS, if_neg (by omega)]
    rw [d]; simp [upE, gS, x3]
  · rw [gS, if_neg (by omega), upE, if_neg (by omega)]; exact x4 i j h0 h1 h2
  · rw [upE, if_neg (by omega)] at h2; rw [gS, if_neg (by omega), upE, if_neg (by omega)]; exact x5 i h0 h1 h2
  · rw [gS1]
    refine bO_or x6.1 hl (fun m => ?_)
    rw [upE]
    by_cases c : m = l
    · simp [c]
    · simp [c]
  · rw [gS, if_neg (by omega)]
    refine bO_cg x6.2 (fun m => ?_)
    rw [upE]
    by_cases c : m = l
    · simp [c, h2]
    · simp [c]
theorem xR.w9 {l : Int} (x : xR h r sd b0 t n s) (hl : 0 ≤ l ∧ l < 26) (h2 : ¬ s 5 l 0 = 1) : xR (sI h 54 9 (iOr (gI h 54 9) (iShl 1 l))) r sd b0 t n (up s 5 l 0 2) ∧ frP (rdA r) h (sI h 54 9 (iOr (gI h 54 9) (iShl 1 l))) := by
  obtain ⟨x1, x2, x3, x4, x5, x6⟩ := x
  have hr := x1.2.2.2.2
  have f : frP (rdA r) h (sI h 54 9 (iOr (gI h 54 9) (iShl 1 l))) := frP.rf.st (by unfold rdA; omega)
  refine ⟨⟨x1, rdT f x2 hr, ?_, fun i j h0 h1 h2 => ?_, fun i h0 h1 h2 => ?_, ?_, ?_⟩, f⟩
  · have d : ∀ v, gI (sI h 54 9 v) r 13 = gI h r 13 := fun v => by rw [gS, if_neg (by omega)]
    rw [d]; simp [upE, gS, x3]
  · rw [gS, if_neg (by omega), upE, if_neg (by omega)]; exact x4 i j h0 h1 h2
  · rw [upE, if_neg (by omega)] at h2; rw [gS, if_neg (by omega), upE, if_neg (by omega)]; exact x5 i h0 h1 h2
  · rw [gS, if_neg (by omega)]
    refine bO_cg x6.1 (fun m => ?_)
    rw [upE]
    by_cases c : m = l
    · simp [c, h2]
    · simp [c]
  · rw [gS1]
    refine bO_or x6.2 hl (fun m => ?_)
    rw [upE]
    by_cases c : m = l
    · simp [c]
    · simp [c]
end XR
