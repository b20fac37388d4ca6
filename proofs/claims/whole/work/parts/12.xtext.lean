/-! The class: letters, digits, texts. -/
theorem s33 {c : Int} {h : zH} {K : Int → zH → Prop} (k : K (b2i (isL c)) h) : zC1 33 [vI c] h K := by
  refine cI (k33_0 c h _ ⟨fun q => ⟨Or.inl rfl, zq1 ?_⟩, fun q => ⟨fun q2 => ⟨Or.inl rfl, zq1 ?_⟩, fun q2 => ⟨Or.inr rfl, zq1 ?_⟩⟩⟩)
  · rwa [b2i_neg (by omega)] at k
  · rwa [b2i_neg (by omega)] at k
  · rwa [b2i_pos (by omega)] at k
theorem s34 {c : Int} {h : zH} {K : Int → zH → Prop} (k : K (b2i (isD c)) h) : zC1 34 [vI c] h K := by
  refine cI (k34_0 c h _ ⟨fun q => ⟨Or.inl rfl, zq1 ?_⟩, fun q => ⟨fun q2 => ⟨Or.inl rfl, zq1 ?_⟩, fun q2 => ⟨Or.inr rfl, zq1 ?_⟩⟩⟩)
  · rwa [b2i_neg (by omega)] at k
  · rwa [b2i_neg (by omega)] at k
  · rwa [b2i_pos (by omega)] at k
/-- a text in the heap -/
def Txt (h : zH) (a : Nat) (t : Int → Int) (n : Int) : Prop := gI h a 1 = n ∧ ln h (a + 1) = 300 ∧ ∀ i, 0 ≤ i → i < n → gI h (a + 1) i = t i
theorem Txt.fr {P : Nat → Int → Prop} {h h1 : zH} {a : Nat} {t : Int → Int} {n : Int} (x : Txt h a t n) (f : frP P h h1) (d : ∀ k, ¬ P a k ∧ ¬ P (a + 1) k) : Txt h1 a t n :=
  ⟨(f.1 _ _ (d _).1).trans x.1, by rw [f.le]; exact x.2.1, fun i h0 h1 => (f.1 _ _ (d _).2).trans (x.2.2 i h0 h1)⟩
theorem s44 {a : Nat} {i n : Int} {t : Int → Int} {h : zH} {K : Int → zH → Prop} (x : Txt h a t n) (o : tOk t n) (k : K (t i) h) : zC1 44 [vR a 101, vI i] h K := by
  refine cI (k44_0 a i h _ ⟨fun q => zq1 ?_, fun q => ⟨fun q2 => zq1 ?_, fun q2 => ⟨by omega, ?_, zq1 ?_⟩⟩⟩)
  · rwa [(o.2.2 i).2 (by omega)] at k
  · rw [x.1] at q2; rwa [(o.2.2 i).2 (by omega)] at k
  · have := x.1; have := o.2.1; omega
  · rw [x.1] at q2; rwa [x.2.2 i (by omega) (by omega)]
def txA (a b : Nat) (k : Int) : Prop := (b = a ∧ k = 1) ∨ b = a + 1
theorem s45 {a b : Nat} {n : Int} {t : Int → Int} {h : zH} {K : zH → Prop} (x : Txt h b t n) (o : tOk t n) (l : ln h (a + 1) = 300) (d : ¬ b = a + 1) (k : ∀ h1, frP (txA a) h h1 → Txt h1 a t n → K h1) : zC0 45 [vR a 101, vR b 101] h K := by
  obtain ⟨x1, x2, x3⟩ := x
  obtain ⟨o1, o2, o3⟩ := o
  refine cV (k45_0 a b h _ ⟨by omega, by omega, by omega, ?_, ?_, fun h3 e3 h4 e4 => zq0 (k _ ⟨?_, ?_⟩ ⟨?_, ?_, ?_⟩)⟩)
  · rw [x2, x1]; simp; omega
  · rw [l, x1]; simp; omega
  · intro b1 k1 hn
    unfold txA at hn
    rw [e4, gS, if_neg (by omega), e3, gCp, if_neg (by omega)]
  · rw [e4, e3]; rfl
  · rw [e4, gS1, e3, gCp, if_neg (by omega)]; exact x1
  · rw [e4, e3]; exact l
  · intro i h0 h1
    rw [e4, gS, if_neg (by omega), e3, gCp, if_pos (by omega)]
    have := x3 i h0 h1
    rw [← this]
    congr 1; omega
/-- two rows of signs are the same -/
def sameR (t u : Int → Int) (i j m : Int) : Prop := ∀ x, 0 ≤ x → x < m → t (i + x) = u (j + x)
theorem s47l {a b : Nat} {n m i j l : Int} {t u : Int → Int} {h : zH} (x : Txt h a t n) (y : Txt h b u m) (o : tOk t n) (o2 : tOk u m) (hi : 0 ≤ i ∧ i + l ≤ n) (hj : 0 ≤ j ∧ j + l ≤ m) {Q : Option zV → zH → Prop} (k : Q (some (vI (b2i (sameR t u i j l)))) h) :
    ∀ (f : Nat) (z : Int), 0 ≤ z → l - z ≤ f → (∀ w, 0 ≤ w → w < z → t (i + w) = u (j + w)) → zK 47 35 [vR a 101, vI i, vR b 101, vI j, vI l, vI z] [] h Q := by
  obtain ⟨o1, o3, o4⟩ := o
  obtain ⟨p1, p3, p4⟩ := o2
  intro f
  induction f with
  | zero =>
    intro z h0 hz hw
    refine k47_35 a i b j l z h Q ⟨fun q => ⟨Or.inr rfl, ?_⟩, fun q => absurd q (by omega)⟩
    rwa [b2i_pos (show sameR t u i j l from fun w w0 w1 => hw w w0 (by omega))] at k
  | succ f ih =>
    intro z h0 hz hw
    refine k47_35 a i b j l z h Q ⟨fun q => ⟨Or.inr rfl, ?_⟩, fun q => ⟨by unfold inR; omega, by omega, by omega, by unfold inR; omega, by omega, by omega, fun q2 => ⟨by unfold inR; omega, ih (z + 1) (by omega) (by omega) ?_⟩, fun q2 => ⟨Or.inl rfl, ?_⟩⟩⟩
    · rwa [b2i_pos (show sameR t u i j l from fun w w0 w1 => hw w w0 (by omega))] at k
    · intro w w0 w1
      by_cases c : w = z
      · rw [x.2.2 _ (by omega) (by omega), y.2.2 _ (by omega) (by omega)] at q2
        rw [c]; exact q2
      · exact hw w w0 (by omega)
    · rwa [b2i_neg (fun c => q2 ?_)] at k
      rw [x.2.2 _ (by omega) (by omega), y.2.2 _ (by omega) (by omega)]
      exact c z h0 (by omega)
theorem s47 {a b : Nat} {n m i j l : Int} {t u : Int → Int} {h : zH} {K : Int → zH → Prop} (x : Txt h a t n) (y : Txt h b u m) (o : tOk t n) (o2 : tOk u m) (hi : 0 ≤ i ∧ i + l ≤ n) (hj : 0 ≤ j ∧ j + l ≤ m) (hl : 0 ≤ l) (k : K (b2i (sameR t u i j l)) h) : zC1 47 [vR a 101, vI i, vR b 101, vI j, vI l] h K := by
  have e1 := x.1
  have e2 := y.1
  have p1 := o.2.1
  have p2 := o2.2.1
  refine cI (k47_0 a i b j l h _ ⟨fun q => absurd q (by omega), fun q => ⟨fun q => absurd q (by omega), fun q => ⟨by unfold inR; omega, fun q => absurd q (by omega), fun q => ⟨by unfold inR; omega, fun q => ?_, fun q => absurd q (by omega)⟩⟩⟩⟩)
  exact s47l x y o o2 hi hj (zq1 k) l.toNat 0 (by omega) (by omega) (fun w w0 w1 => by omega)
theorem s46 {a b : Nat} {n m : Int} {t u : Int → Int} {h : zH} {K : Int → zH → Prop} (x : Txt h a t n) (y : Txt h b u m) (o : tOk t n) (o2 : tOk u m) (k : K (b2i (n = m ∧ sameR t u 0 0 n)) h) : zC1 46 [vR a 101, vR b 101] h K := by
  have e1 := x.1
  have e2 := y.1
  have p1 := o.1
  refine cI (k46_0 a b h _ ⟨fun q => ⟨Or.inl rfl, zq1 ?_⟩, fun q => ?_⟩)
  · rwa [b2i_neg (by omega)] at k
  · rw [e1]
    refine s47 x y o o2 (by omega) (by omega) (by omega) ⟨fun q2 => ⟨Or.inl rfl, zq1 ?_⟩, fun q2 => ⟨Or.inr rfl, zq1 ?_⟩⟩
    · rw [b2i_eq0] at q2; rwa [b2i_neg (fun c => q2 c.2)] at k
    · rw [b2i_ne0] at q2; rwa [b2i_pos ⟨by omega, q2⟩] at k
theorem s48l {a : Nat} {n i b m : Int} {t : Int → Int} {h : zH} (x : Txt h a t n) (o : tOk t n) (hi : 0 ≤ i ∧ i ≤ 300) (hm : m ≤ 20) {Q : Option zV → zH → Prop} :
    ∀ (f : Nat) (z : Int) (u : zV), 0 ≤ z → z + f = m + 1 → Q (some (vI (z + rowL t b f (i + z)))) h → zK 48 3 [vR a 101, vI i, vI b, vI m, vI z, u] [] h Q := by
  intro f
  induction f with
  | zero =>
    intro z u h0 hz k
    refine k48_3 a i b m z u h Q ⟨fun q => ⟨by unfold inR; omega, ?_⟩, fun q => absurd q (by omega)⟩
    unfold rowL at k
    rwa [show m + 1 = z + 0 by omega]
  | succ f ih =>
    intro z u h0 hz k
    refine k48_3 a i b m z u h Q ⟨fun q => absurd q (by omega), fun q => ⟨by unfold inR; omega, s44 x o ⟨fun q2 => s34 ⟨fun q3 => ⟨by unfold inR; omega, ih (z + 1) _ (by omega) (by omega) ?_⟩, fun q3 => ?_⟩, fun q2 => s33 ⟨fun q3 => ⟨by unfold inR; omega, ih (z + 1) _ (by omega) (by omega) ?_⟩, fun q3 => ?_⟩⟩⟩⟩
    · rw [b2i_ne0] at q3
      unfold rowL at k
      rw [if_pos (Or.inl ⟨q2, q3⟩)] at k
      rwa [show z + 1 + rowL t b f (i + (z + 1)) = z + (1 + rowL t b f (i + z + 1)) by rw [show i + (z + 1) = i + z + 1 by omega]; omega]
    · rw [b2i_ne0] at q3
      unfold rowL at k
      rw [if_neg (by omega)] at k
      rwa [show z + 0 = z by omega] at k
    · rw [b2i_ne0] at q3
      unfold rowL at k
      rw [if_pos (Or.inr ⟨q2, q3⟩)] at k
      rwa [show z + 1 + rowL t b f (i + (z + 1)) = z + (1 + rowL t b f (i + z + 1)) by rw [show i + (z + 1) = i + z + 1 by omega]; omega]
    · rw [b2i_ne0] at q3
      unfold rowL at k
      rw [if_neg (by omega)] at k
      rwa [show z + 0 = z by omega] at k
theorem s48 {a : Nat} {n i b : Int} {m : Nat} {t : Int → Int} {h : zH} {K : Int → zH → Prop} (x : Txt h a t n) (o : tOk t n) (hi : 0 ≤ i ∧ i ≤ 300) (hm : m ≤ 20) (k : K (rowL t b (m + 1) i) h) : zC1 48 [vR a 101, vI i, vI b, vI m] h K := by
  refine cI (k48_0 a i b m h _ (s48l x o hi (by omega) (m + 1) 0 _ (by omega) (by omega) (zq1 ?_)))
  rwa [show i + 0 = i by omega, Int.zero_add]
