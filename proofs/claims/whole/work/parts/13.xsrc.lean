/-! The class: reading a source. -/
def srA (a b : Nat) (k : Int) : Prop := (b = a ∧ 14 ≤ k ∧ k ≤ 17) ∨ (a + 3 ≤ b ∧ b < a + 16)
def xT (h : zH) (a : Nat) (nd : Int) (T : pT) : Prop := ∀ i, 0 ≤ i → i < nd → gI h (a + 3) i = T i 0 ∧ gI h (a + 4) i = T i 1 ∧ gI h (a + 5) i = T i 2 ∧ gI h (a + 6) i = T i 3 ∧ gI h (a + 7) i = T i 4 ∧ gI h (a + 10) i = T i 7 ∧
  (¬ T i 6 = 0 → gI h (a + 8) i = T i 5 ∧ gI h (a + 9) i = T i 6) ∧ (¬ T i 9 = 0 → gI h (a + 11) i = T i 8 ∧ gI h (a + 12) i = T i 9)
def xC (h : zH) (a : Nat) (nc : Int) (C : pT) : Prop := ∀ i, 0 ≤ i → i < nc → gI h (a + 13) i = C i 0 ∧ gI h (a + 14) i = C i 1 ∧ gI h (a + 15) i = C i 2
def xS (h : zH) (a : Nat) (t : Int → Int) (n p nd nc op : Int) (T C : pT) : Prop := Txt h (a + 1) t n ∧ gI h a 16 = p ∧ gI h a 14 = nd ∧ gI h a 15 = nc ∧ gI h a 17 = op ∧ xT h a nd T ∧ xC h a nc C
theorem txS {a : Nat} {h h1 : zH} {t : Int → Int} {n : Int} (f : frP (srA a) h h1) (x : Txt h (a + 1) t n) : Txt h1 (a + 1) t n := x.fr f (fun k => by unfold srA; omega)
section XS
variable {a : Nat} {h : zH} {t : Int → Int} {n p nd nc op : Int} {T C : pT}
theorem s57 {i : Int} {K : Int → zH → Prop} (hi : 0 ≤ i ∧ i < 60) (hn : 0 ≤ gI h a 14 ∧ gI h a 14 ≤ 60) (k : K 1 (sI (sI h (a + 8) i (gI h a 16)) (a + 9) i (gI h a 14 - i))) : zC1 57 [vR a 102, vI i] h K := by
  refine cI (k57_0 a i h _ ⟨hi.1, hi.2, fun h3 e3 => ?_⟩)
  have e : gI h3 a 14 = gI h a 14 := by rw [e3, gS, if_neg (by omega)]
  refine ⟨by unfold inR; omega, hi.1, hi.2, fun h4 e4 => ⟨Or.inr rfl, zq1 ?_⟩⟩
  rw [e4, e, e3]; exact k
theorem s60 {e : Int} {K : zH → Prop} (x : xS h a t n p nd nc op T C) (hc : 0 ≤ nc ∧ nc < 150) (hp : 0 ≤ p ∧ p ≤ 300 ∧ 0 ≤ e ∧ e ≤ 301) (k : ∀ h1, frP (srA a) h h1 → xS h1 a t n e nd (nc + 1) op T (cadd C nc p (e - p) op) → K h1) : zC0 60 [vR a 102, vI e] h K := by
  obtain ⟨x1, x2, x3, x4, x5, x6, x7⟩ := x
  refine cV (k60_0 a e h _ ⟨fun q => absurd q (by omega), fun q => ⟨by omega, by omega, fun h8 e8 => ?_⟩⟩)
  have y8 : gI h8 a 16 = p ∧ gI h8 a 15 = nc := by simp [e8, gS, x2, x4]
  refine ⟨by unfold inR; omega, by omega, by omega, fun h9 e9 => ?_⟩
  have y9 : gI h9 a 15 = nc ∧ gI h9 a 17 = op := by simp [e9, e8, gS, x4, x5]
  refine ⟨by omega, by omega, fun h10 e10 => ?_⟩
  have y10 : gI h10 a 15 = nc := by simp [e10, e9, e8, gS, x4]
  refine ⟨by unfold inR; omega, fun h11 e11 h12 e12 => zq0 ?_⟩
  rw [y8.1, y8.2] at e9
  rw [y9.1, y9.2] at e10
  rw [y10] at e11
  rw [x4, x2] at e8
  subst e12 e11 e10 e9 e8
  have f : frP (srA a) h (sI (sI (sI (sI (sI h (a + 13) nc p) (a + 14) nc (e - p)) (a + 15) nc op) a 15 (nc + 1)) a 16 e) :=
    ((((frP.rf.st (by unfold srA; omega)).st (by unfold srA; omega)).st (by unfold srA; omega)).st (by unfold srA; omega)).st (by unfold srA; omega)
  refine k _ f ⟨txS f x1, by simp [gS], by simp [gS, x3], by simp [gS], by simp [gS, x5], fun i h0 h1 => ?_, fun i h0 h1 => ?_⟩
  · have := x6 i h0 h1
    simpa [gS] using this
  · have := x7 i h0
    by_cases c : i = nc
    · simp [gS, cadd, c]
    · simp [gS, cadd, c, this (by omega)]
theorem xS.at {v : Int} (x : xS h a t n p nd nc op T C) : xS (sI h a 16 v) a t n v nd nc op T C ∧ frP (srA a) h (sI h a 16 v) := by
  obtain ⟨x1, x2, x3, x4, x5, x6, x7⟩ := x
  have f : frP (srA a) h (sI h a 16 v) := frP.rf.st (by unfold srA; omega)
  refine ⟨⟨txS f x1, by simp [gS], by simp [gS, x3], by simp [gS, x4], by simp [gS, x5], fun i h0 h1 => ?_, fun i h0 h1 => ?_⟩, f⟩
  · have := x6 i h0 h1; simpa [gS] using this
  · have := x7 i h0 h1; simpa [gS] using this
theorem s59l {E : Int} (o : tOk t n) (x : xS h a t n p nd nc op T C) (hc : 0 ≤ nc ∧ nc < 150) (hp : 0 ≤ p ∧ p < n) {Q : Option zV → zH → Prop}
    (k : ∀ v h1 e, frP (srA a) h h1 → gI h1 a 16 = (if t e = 93 then e + 1 else e) → v = b2i (t e = 93) → e = E → (t e = 93 → xS h1 a t n (e + 1) nd (nc + 1) op T (cadd C nc p (e + 1 - p) op)) → Q (some (vI v)) h1) :
    ∀ (f : Nat) (z : Int) (u : zV), p < z → z ≤ n → n - z = f → pcm t f z = E → zK 59 7 [vR a 102, vI z, u] [] h Q := by
  have o2 := o.2.1
  have xx := x
  obtain ⟨⟨w1, w2, w3⟩, x2, x3, x4, x5, x6, x7⟩ := x
  intro f
  induction f with
  | zero =>
    intro z u h0 h1 hf e
    have e2 : t z = -1 := o.ge (by omega)
    refine k59_7 a z u h Q ⟨fun q h5 e5 => ⟨Or.inl rfl, ?_⟩, fun q => absurd q (by omega)⟩
    refine k 0 h5 z ?_ ?_ (by rw [b2i_neg (by omega)]) e (by omega)
    · rw [e5]; exact (xS.at xx).2
    · rw [e5, gS1, if_neg (by omega)]; omega
  | succ f ih =>
    intro z u h0 h1 hf e
    have ez := w3 z (by omega) (by omega)
    unfold pcm at e
    refine k59_7 a z u h Q ⟨fun q => absurd q (by omega), fun q => ⟨by omega, by omega, fun q2 => ?_, fun q2 => ⟨by unfold inR; omega, ?_⟩⟩⟩
    · rw [ez] at q2 ⊢
      refine ⟨fun q3 => ⟨by unfold inR; omega, ih _ _ (by omega) (by omega) (by omega) ?_⟩, fun q3 => ⟨fun q4 h6 e6 => ⟨Or.inl rfl, ?_⟩, fun q4 => ⟨fun q5 => ⟨by unfold inR; omega, ih _ _ (by omega) (by omega) (by omega) ?_⟩, fun q5 h6 e6 => ⟨Or.inl rfl, ?_⟩⟩⟩⟩
      · rwa [if_pos (by omega)] at e
      · rw [if_neg (by omega)] at e
        refine k 0 h6 z ?_ ?_ (by rw [b2i_neg (by omega)]) e (by omega)
        · rw [e6]; exact (xS.at xx).2
        · rw [e6, gS1, if_neg (by omega)]
      · rwa [if_pos (by omega)] at e
      · rw [if_neg (by omega)] at e
        refine k 0 h6 z ?_ ?_ (by rw [b2i_neg (by omega)]) e (by omega)
        · rw [e6]; exact (xS.at xx).2
        · rw [e6, gS1, if_neg (by omega)]
    · rw [ez] at q2
      rw [if_neg (by omega)] at e
      refine s60 xx hc (by omega) (fun h1 f1 x1 => ⟨Or.inr rfl, ?_⟩)
      have q3 : t z = 93 := by omega
      exact k 1 h1 z f1 (by rw [if_pos q3]; exact x1.2.1) (by rw [b2i_pos q3]) e (fun _ => x1)
theorem s59 (o : tOk t n) (x : xS h a t n p nd nc op T C) (hc : 0 ≤ nc ∧ nc < 150) (hp : 0 ≤ p ∧ p < n) {K : Int → zH → Prop}
    (k : ∀ v h1 e, frP (srA a) h h1 → gI h1 a 16 = (if t e = 93 then e + 1 else e) → v = b2i (t e = 93) → e = pcm t (n - (p + 1)).toNat (p + 1) → (t e = 93 → xS h1 a t n (e + 1) nd (nc + 1) op T (cadd C nc p (e + 1 - p) op)) → K v h1) : zC1 59 [vR a 102] h K := by
  have o2 := o.2.1
  have x2 := x.2.1
  refine cI (k59_0 a h _ ⟨by unfold inR; omega, ?_⟩)
  rw [x2]
  exact s59l o x hc hp (fun v h1 e b1 b2 b3 b4 b5 => zq1 (k v h1 e b1 b2 b3 b4 b5)) (n - (p + 1)).toNat (p + 1) _ (by omega) (by omega) (by omega) rfl
theorem s58l (o : tOk t n) {Q : Option zV → zH → Prop} : ∀ (f : Nat) (h : zH) (p nc : Int) (C : pT) (z : Int) (u : zV), xS h a t n p nd nc op T C → 0 ≤ p → p ≤ n → 0 ≤ nc → 2 * nc ≤ p → z + f = 301 → 0 ≤ z →
    (∀ v h1, frP (srA a) h h1 → gI h1 a 16 = (ply t n op f p nc C).2.1 → v = b2i ((ply t n op f p nc C).1 = true) → ((ply t n op f p nc C).1 = true → xS h1 a t n (ply t n op f p nc C).2.1 nd (ply t n op f p nc C).2.2.1 op T (ply t n op f p nc C).2.2.2) → Q (some (vI v)) h1) →
    zK 58 2 [vR a 102, vI z, u] [] h Q := by
  have o2 := o.2.1
  intro f
  induction f with
  | zero =>
    intro h p nc C z u x h0 h1 h2 h3 hz hz0 k
    refine k58_2 a z u h Q ⟨fun q => ⟨Or.inr rfl, ?_⟩, fun q => absurd q (by omega)⟩
    exact k 1 h frP.rf x.2.1 (by rw [b2i_pos]; rfl) (fun _ => x)
  | succ f ih =>
    intro h p nc C z u x h0 h1 h2 h3 hz hz0 k
    have x2 := x.2.1
    unfold ply at k
    refine k58_2 a z u h Q ⟨fun q => absurd q (by omega), fun q => ?_⟩
    rw [x2]
    refine s44 x.1 o ⟨fun q1 => ⟨by unfold inR; omega, fun h6 e6 => ⟨by unfold inR; omega, ?_⟩⟩, fun q1 => ⟨fun q2 => ⟨fun q3 => ?_, fun q3 => ⟨Or.inr rfl, ?_⟩⟩, fun q2 => ⟨by unfold inR; omega, fun h8 e8 => ⟨by unfold inR; omega, ?_⟩⟩⟩⟩
    · rw [if_pos (Or.inl q1)] at k
      have := o.lt (i := p) (by omega)
      have xa := xS.at (v := p + 1) x
      rw [x2] at e6
      rw [← e6] at xa
      exact ih h6 (p + 1) nc C (z + 1) _ xa.1 (by omega) (by omega) h2 (by omega) (by omega) (by omega) (fun v h1 f1 => k v h1 (xa.2.tr f1))
    · rw [if_neg (by omega), if_pos q3] at k
      have := o.lt (i := p) (by omega)
      refine s59 o x (by omega) (by omega) (fun v h7 e f7 g7 ev ee x7 => ?_)
      have hr := pcm_rg o (n - (p + 1)).toNat (p + 1) (by omega) (by omega)
      rw [← ee] at hr k
      by_cases c : t e = 93
      · rw [if_pos c] at k
        have := o.lt (i := e) (by omega)
        refine ⟨fun q4 => ⟨by unfold inR; omega, ?_⟩, fun q4 => absurd (by rw [ev, b2i_pos c]; omega) q4⟩
        exact ih h7 (e + 1) (nc + 1) _ (z + 1) _ (x7 c) (by omega) (by omega) (by omega) (by omega) (by omega) (by omega) (fun v h1 f1 => k v h1 (f7.tr f1))
      · rw [if_neg c] at k
        refine ⟨fun q4 => absurd (by rw [ev, b2i_neg c]) q4, fun q4 => ⟨Or.inl rfl, ?_⟩⟩
        rw [if_neg c] at g7
        exact k 0 h7 f7 g7 (by rw [b2i_neg]; simp) (by simp)
    · rw [if_neg (by omega), if_neg q3] at k
      exact k 1 h frP.rf x2 (by rw [b2i_pos]; rfl) (fun _ => x)
    · rw [if_pos (by omega)] at k
      have := o.lt (i := p) (by omega)
      have xa := xS.at (v := p + 1) x
      rw [x2] at e8
      rw [← e8] at xa
      exact ih h8 (p + 1) nc C (z + 1) _ xa.1 (by omega) (by omega) h2 (by omega) (by omega) (by omega) (fun v h1 f1 => k v h1 (xa.2.tr f1))
theorem s58 (o : tOk t n) (x : xS h a t n p nd nc op T C) (h0 : 0 ≤ p) (h1 : p ≤ n) (h2 : 0 ≤ nc) (h3 : 2 * nc ≤ p) {K : Int → zH → Prop}
    (k : ∀ v h1, frP (srA a) h h1 → gI h1 a 16 = (ply t n op 301 p nc C).2.1 → v = b2i ((ply t n op 301 p nc C).1 = true) → ((ply t n op 301 p nc C).1 = true → xS h1 a t n (ply t n op 301 p nc C).2.1 nd (ply t n op 301 p nc C).2.2.1 op T (ply t n op 301 p nc C).2.2.2) → K v h1) : zC1 58 [vR a 102] h K :=
  cI (k58_0 a h _ (s58l o 301 h p nc C 0 _ x h0 h1 h2 h3 (by omega) (by omega) (fun v h1 b1 b2 b3 b4 => zq1 (k v h1 b1 b2 b3 b4))))
theorem s54 {b : Int} (x : xS h a t n p nd nc op T C) (q : pI n p nd nc op T) {K : Int → zH → Prop} (k : K (b2i (¬ (nd = 60 ∨ (¬ op = -1 ∧ (12 ≤ T op 3 ∨ (¬ b = 0 ∧ T op 7 + 1 = 16)))))) h) : zC1 54 [vR a 102, vI b] h K := by
  obtain ⟨x1, x2, x3, x4, x5, x6, x7⟩ := x
  obtain ⟨a1, a2, a3, a4, a5, a6, a7, a8, a9, a10⟩ := q
  refine cI (k54_0 a b h _ ⟨fun q => ?_, fun q => ⟨Or.inl rfl, zq1 ?_⟩⟩)
  · rw [x5]
    refine ⟨fun q1 => ⟨Or.inr rfl, zq1 ?_⟩, fun q1 => ?_⟩
    · rwa [b2i_pos (by omega)] at k
    · have y := x6 op (by omega) a8
      have r := a10 op (by omega) a8
      unfold pR at r
      rw [y.2.2.2.1, y.2.2.2.2.2.1]
      refine ⟨by omega, by omega, fun q2 => ⟨Or.inl rfl, zq1 ?_⟩, fun q2 => ⟨fun q3 => ⟨Or.inr rfl, zq1 ?_⟩, fun q3 => ⟨by omega, by omega, by unfold inR; omega, fun q4 => ⟨Or.inl rfl, zq1 ?_⟩, fun q4 => ⟨Or.inr rfl, zq1 ?_⟩⟩⟩⟩
      · rwa [b2i_neg (by omega)] at k
      · rwa [b2i_pos (by omega)] at k
      · rwa [b2i_neg (by omega)] at k
      · rwa [b2i_pos (by omega)] at k
  · rwa [b2i_neg (by omega)] at k
theorem s55 {kd : Int} (x : xS h a t n p nd nc op T C) (q : pI n p nd nc op T) (hn : ¬ nd = 60) {K : Int → zH → Prop} (k : ∀ h1, frP (srA a) h h1 → xS h1 a t n p (nd + 1) nc op (nadd T nd op p kd) C → K nd h1) : zC1 55 [vR a 102, vI kd] h K := by
  obtain ⟨x1, x2, x3, x4, x5, x6, x7⟩ := x
  obtain ⟨a1, a2, a3, a4, a5, a6, a7, a8, a9, a10⟩ := q
  refine cI (k55_0 a kd h _ ?_)
  rw [x3]
  refine ⟨by unfold inR; omega, fun h11 e11 => ⟨by omega, by omega, fun h12 e12 => ⟨by omega, by omega, fun h13 e13 => ⟨by omega, by omega, fun h14 e14 => ⟨by omega, by omega, fun h15 e15 => ?_⟩⟩⟩⟩⟩
  have y12 : gI h12 a 17 = op := by simp [e12, e11, gS, x5]
  have y14 : gI h14 a 16 = p := by simp [e14, e13, e12, e11, gS, x2]
  rw [y12] at e13
  rw [y14] at e15
  have f15 : frP (srA a) h h15 := by
    rw [e15, e14, e13, e12, e11]
    exact ((((frP.rf.st (by unfold srA; omega)).st (by unfold srA; omega)).st (by unfold srA; omega)).st (by unfold srA; omega)).st (by unfold srA; omega)
  have y15 : gI h15 a 17 = op := by simp [e15, e14, e13, e12, e11, gS, x5]
  rw [y15]
  refine ⟨fun q1 => ?_, fun q1 => ?_⟩
  · have y := x6 op (by omega) a8
    have r := a10 op (by omega) a8
    unfold pR at r
    have y15a : gI h15 (a + 6) op = T op 3 := by
      simp [e15, e14, e13, e12, e11, gS, y.2.2.2.1]; omega
    rw [y15a]
    refine ⟨by omega, by omega, by omega, by omega, fun h16 e16 => ?_⟩
    have y16 : gI h16 a 17 = op ∧ gI h16 (a + 10) op = T op 7 := by simp [e16, e15, e14, e13, e12, e11, gS, x5, y.2.2.2.2.2.1]
    rw [y16.1, y16.2]
    refine ⟨by omega, by omega, by unfold inR; omega, by omega, by omega, fun h17 e17 => ?_⟩
    have y17 : gI h17 a 17 = op ∧ gI h17 (a + 6) op = T op 3 := by
      rw [e17, e16]; simp [gS, y15, y15a]
    rw [y17.1, y17.2]
    refine ⟨by omega, by omega, by unfold inR; omega, by omega, by omega, fun h18 e18 => zq1 ?_⟩
    have f18 : frP (srA a) h h18 := by
      rw [e18, e17, e16]
      exact ((f15.st (by unfold srA; omega)).st (by unfold srA; omega)).st (by unfold srA; omega)
    subst e18 e17 e16 e15 e14 e13 e12 e11
    refine k _ f18 ⟨txS f18 x1, by simp [gS, x2], by simp [gS], by simp [gS, x4], by simp [gS, x5], fun i h0 h1 => ?_, fun i h0 h1 => ?_⟩
    · by_cases c : i = nd
      · have c2 : ¬ nd = op := by omega
        simp [gS, nadd, c, q1, c2]
      · have := x6 i h0 (by omega)
        by_cases c2 : i = op
        · have c3 : ¬ op = nd := by omega
          rw [c2] at this ⊢
          simp [gS, nadd, c3, this]; exact ⟨this.2.2.2.2.2.2.1, this.2.2.2.2.2.2.2⟩
        · simp [gS, nadd, c, c2, this]; exact ⟨this.2.2.2.2.2.2.1, this.2.2.2.2.2.2.2⟩
    · have := x7 i h0 h1
      simpa [gS] using this
  · refine ⟨by omega, by omega, fun h19 e19 => ⟨by omega, by omega, fun h20 e20 => zq1 ?_⟩⟩
    have f20 : frP (srA a) h h20 := by
      rw [e20, e19]
      exact (f15.st (by unfold srA; omega)).st (by unfold srA; omega)
    subst e20 e19 e15 e14 e13 e12 e11
    refine k _ f20 ⟨txS f20 x1, by simp [gS, x2], by simp [gS], by simp [gS, x4], by simp [gS, x5], fun i h0 h1 => ?_, fun i h0 h1 => ?_⟩
    · have q2 : op = -1 := by omega
      by_cases c : i = nd
      · simp [gS, nadd, c, q2]
      · have := x6 i h0 (by omega)
        have c2 : ¬ i = -1 := by omega
        rw [q2]
        simp [gS, nadd, c, c2, this]; exact ⟨this.2.2.2.2.2.2.1, this.2.2.2.2.2.2.2⟩
    · have := x7 i h0 h1
      simpa [gS] using this
/-- a name is read for the latest node -/
theorem s56 {i b : Int} (o : tOk t n) (x : xS h a t n p nd nc op T C) (hp : 0 ≤ p ∧ p ≤ n) (hi : 0 ≤ i ∧ i < 60) {K : Int → zH → Prop}
    (k : ∀ v h1, frP (srA a) h h1 → v = b2i (prl t b p ≤ pmo b) → gI h1 a 16 = (if prl t b p ≤ pmo b then p + prl t b p else p + pmo b) → (prl t b p ≤ pmo b → xS h1 a t n (p + prl t b p) nd nc op (nnam T i p (prl t b p)) C) → K v h1) : zC1 56 [vR a 102, vI i, vI b] h K := by
  have o2 := o.2.1
  have x0 := x
  obtain ⟨x1, x2, x3, x4, x5, x6, x7⟩ := x
  have hr := prl_rg o b p hp.2
  have key : zK 56 10 [vR a 102, vI i, vI b, vU, vU] [vI (pmo b : Int)] h (fun r h1 => ∃ v : Int, r = some (Sum.inl v) ∧ K v h1) := by
    refine k56_10 a i b _ _ _ h _ ?_
    rw [x2]
    refine s48 x1 o (by omega) (by unfold pmo; split <;> omega) ⟨fun q => ⟨hi.1, hi.2, fun h7 e7 => ⟨hi.1, hi.2, fun h8 e8 => ?_⟩⟩, fun q => ?_⟩
    · have y8 : gI h8 a 16 = p := by simp [e8, e7, gS, x2]
      rw [y8]
      refine ⟨by unfold inR; unfold prl at hr; omega, fun h9 e9 => ⟨Or.inr rfl, zq1 ?_⟩⟩
      have q : prl t b p ≤ pmo b := q
      have f9 : frP (srA a) h h9 := by
        rw [e9, e8, e7]
        exact (((frP.rf).st (by unfold srA; omega)).st (by unfold srA; omega)).st (by unfold srA; omega)
      refine k _ h9 f9 (by rw [b2i_pos q]) (by rw [if_pos q, e9, gS1]; rfl) (fun _ => ?_)
      have hw : xT h a nd T := x6
      subst e9 e8 e7
      refine ⟨txS f9 x1, by simp [gS, prl], by simp [gS, x3], by simp [gS, x4], by simp [gS, x5], fun j h0 h1 => ?_, fun j h0 h1 => ?_⟩
      · have := x6 j h0 (by omega)
        by_cases c : j = i
        · simp [gS, nnam, c, prl]
          rw [c] at this
          exact ⟨this.1, this.2.1, this.2.2.1, this.2.2.2.1, this.2.2.2.2.1, this.2.2.2.2.2.1, this.2.2.2.2.2.2.1, fun _ => x2⟩
        · simp [gS, nnam, c, this, x2]; exact ⟨this.2.2.2.2.2.2.1, this.2.2.2.2.2.2.2⟩
      · have := x7 j h0 h1
        simpa [gS] using this
    · have q : ¬ prl t b p ≤ pmo b := q
      rw [x2]
      refine ⟨by unfold inR; unfold pmo; split <;> omega, fun h10 e10 => ⟨Or.inl rfl, zq1 ?_⟩⟩
      refine k 0 h10 ?_ (by rw [b2i_neg q]) (by rw [if_neg q, e10, gS1]) (fun c => absurd c q)
      rw [e10]; exact (xS.at x0).2
  refine cI (k56_0 a i b h _ ⟨fun q => ?_, fun q => ?_⟩)
  · unfold pmo at key; rw [if_pos q] at key; exact key
  · unfold pmo at key; rw [if_neg q] at key; exact key
def xP (h : zH) (a : Nat) (t : Int → Int) (n : Int) (z : pZ) (v : Int) (h1 : zH) : Prop := frP (srA a) h h1 ∧ gI h1 a 16 = z.2.1 ∧ v = b2i (z.1 = true) ∧ (z.1 = true → xS h1 a t n z.2.1 z.2.2.1 z.2.2.2.1 z.2.2.2.2.1 z.2.2.2.2.2.1 z.2.2.2.2.2.2)
theorem xP.tr {h1 h2 : zH} {z : pZ} {v : Int} (f : frP (srA a) h h1) (x : xP h1 a t n z v h2) : xP h a t n z v h2 := ⟨f.tr x.1, x.2⟩
theorem xP.no {z : pZ} {h1 : zH} (f : frP (srA a) h h1) (e : gI h1 a 16 = z.2.1) (e1 : z.1 = false) : xP h a t n z 0 h1 := ⟨f, e, by rw [b2i_neg]; simp [e1], by simp [e1]⟩
theorem xP.ye {z : pZ} {h1 : zH} (f : frP (srA a) h h1) (x : xS h1 a t n z.2.1 z.2.2.1 z.2.2.2.1 z.2.2.2.2.1 z.2.2.2.2.2.1 z.2.2.2.2.2.2) (e1 : z.1 = true) : xP h a t n z 1 h1 := ⟨f, x.2.1, by rw [b2i_pos e1], fun _ => x⟩
theorem xS.opn {v : Int} (x : xS h a t n p nd nc op T C) : xS (sI h a 17 v) a t n p nd nc v T C ∧ frP (srA a) h (sI h a 17 v) := by
  obtain ⟨x1, x2, x3, x4, x5, x6, x7⟩ := x
  have f : frP (srA a) h (sI h a 17 v) := frP.rf.st (by unfold srA; omega)
  refine ⟨⟨txS f x1, by simp [gS, x2], by simp [gS, x3], by simp [gS, x4], by simp [gS], fun i h0 h1 => ?_, fun i h0 h1 => ?_⟩, f⟩
  · have := x6 i h0 h1; simpa [gS] using this
  · have := x7 i h0 h1; simpa [gS] using this
theorem xS.fin {i e s : Int} (x : xS h a t n p nd nc op T C) (hs : ¬ s = 0) : xS (sI (sI h (a + 8) i e) (a + 9) i s) a t n p nd nc op (nfin T i e s) C ∧ frP (srA a) h (sI (sI h (a + 8) i e) (a + 9) i s) := by
  obtain ⟨x1, x2, x3, x4, x5, x6, x7⟩ := x
  have f : frP (srA a) h (sI (sI h (a + 8) i e) (a + 9) i s) := (frP.rf.st (by unfold srA; omega)).st (by unfold srA; omega)
  refine ⟨⟨txS f x1, by simp [gS, x2], by simp [gS, x3], by simp [gS, x4], by simp [gS, x5], fun j h0 h1 => ?_, fun j h0 h1 => ?_⟩, f⟩
  · have := x6 j h0 h1
    by_cases c : j = i
    · rw [c] at this
      simp [gS, nfin, c, this]; exact this.2.2.2.2.2.2.2
    · simp [gS, nfin, c, this]; exact ⟨this.2.2.2.2.2.2.1, this.2.2.2.2.2.2.2⟩
  · have := x7 j h0 h1; simpa [gS] using this
theorem s53o {l3 : Int} {u1 u4 : zV} (o : tOk t n) (x : xS h a t n p nd nc op T C) (q : pI n p nd nc op T) (hp : p < n) (hn : ¬ nd = 60) {Q : Option zV → zH → Prop}
    (k : ∀ v h1, xP h a t n (popen t nd op p T (ply t n nd 301 (p + 1) nc C)) v h1 → Q (some (vI v)) h1) : zK 53 60 [vR a 102, u1, vI 1, vI l3, u4] [vI 2, vR a 102] h Q := by
  have o2 := o.2.1
  have hq := q
  obtain ⟨a1, a2, a3, a4, a5, a6, a7, a8, a9, a10⟩ := q
  refine k53_60 a u1 1 l3 u4 2 a h Q (s55 x hq hn (fun h16 f16 x16 => ⟨fun _ => ?_, fun c => absurd (by omega) c⟩))
  rw [x16.2.1]
  refine ⟨by unfold inR; omega, fun h17 e17 h18 e18 => ?_⟩
  have y17 := xS.at (v := p + 1) x16
  rw [← e17] at y17
  have y18 := xS.opn (v := nd) y17.1
  rw [← e18] at y18
  have f18 := (f16.tr y17.2).tr y18.2
  refine s58 o y18.1 (by omega) (by omega) a5 (by omega) (fun v19 h19 f19 g19 ev x19 => ?_)
  have h1 := ply_rg o nd 301 (p + 1) nc C (by omega) (by omega) a5 (by omega)
  revert k g19 ev x19 h1
  generalize ply t n nd 301 (p + 1) nc C = r
  intro k g19 ev x19 h1
  refine ⟨fun q1 => ⟨Or.inl rfl, ?_⟩, fun q1 => ?_⟩
  · rw [ev, b2i_eq0] at q1
    refine k 0 h19 (xP.no (f18.tr f19) ?_ ?_)
    · unfold popen; rw [if_neg (fun c => q1 c.1)]; exact g19
    · unfold popen; rw [if_neg (fun c => q1 c.1)]
  · rw [ev, b2i_ne0] at q1
    have x19 := x19 q1
    rw [x19.2.1]
    refine s44 x19.1 o (s33 ⟨fun q2 => ⟨Or.inl rfl, ?_⟩, fun q2 => ?_⟩)
    · rw [b2i_eq0] at q2
      refine k 0 h19 (xP.no (f18.tr f19) ?_ ?_)
      · unfold popen; rw [if_neg (fun c => q2 c.2)]; exact g19
      · unfold popen; rw [if_neg (fun c => q2 c.2)]
    · rw [b2i_ne0] at q2
      refine s56 o x19 (by omega) (by omega) (fun v22 h22 f22 ev22 g22 x22 => ?_)
      have e8 : ((pmo 1 : Nat) : Int) = 8 := rfl
      refine ⟨fun q3 => ⟨Or.inl rfl, ?_⟩, fun q3 => ⟨Or.inr rfl, ?_⟩⟩
      · rw [ev22, b2i_eq0] at q3
        refine k 0 h22 (xP.no ((f18.tr f19).tr f22) ?_ ?_)
        · unfold popen; rw [if_pos ⟨q1, q2⟩, if_neg (by omega)]; rw [if_neg q3] at g22; rw [g22, e8]
        · unfold popen; rw [if_pos ⟨q1, q2⟩, if_neg (by omega)]
      · rw [ev22, b2i_ne0] at q3
        refine k 1 h22 (xP.ye ((f18.tr f19).tr f22) ?_ ?_)
        · unfold popen; rw [if_pos ⟨q1, q2⟩, if_pos (by omega)]; exact x22 q3
        · unfold popen; rw [if_pos ⟨q1, q2⟩, if_pos (by omega)]
theorem s53l {b : Int} {u1 u4 : zV} (o : tOk t n) (x : xS h a t n p nd nc op T C) (q : pI n p nd nc op T) (hb : b = 0 ∨ b = 1) (hn : ¬ nd = 60) {Q : Option zV → zH → Prop}
    (k : ∀ v h1, xP h a t n (pleaf t p nd nc op T C b) v h1 → Q (some (vI v)) h1) : zK 53 60 [vR a 102, u1, vI 0, vI b, u4] [vI b, vR a 102] h Q := by
  have o2 := o.2.1
  have hq := q
  obtain ⟨a1, a2, a3, a4, a5, a6, a7, a8, a9, a10⟩ := q
  refine k53_60 a u1 0 b u4 b a h Q (s55 x hq hn (fun h16 f16 x16 => ⟨fun c => absurd rfl c, fun _ => ?_⟩))
  refine s56 o x16 (by omega) (by omega) (fun v23 h23 f23 ev g23 x23 => ⟨fun q3 => ⟨Or.inl rfl, ?_⟩, fun q3 => ?_⟩)
  · rw [ev, b2i_eq0] at q3
    refine k 0 h23 (xP.no (f16.tr f23) ?_ ?_)
    · unfold pleaf; rw [if_neg q3]; rw [if_neg q3] at g23; exact g23
    · unfold pleaf; rw [if_neg q3]
  · rw [ev, b2i_ne0] at q3
    have x23 := x23 q3
    have y1 := x23.2.1
    have y2 := x23.2.2.1
    have z := xS.fin (i := nd) (e := p + prl t b p) (s := 1) x23 (by omega)
    refine s57 (by omega) (by omega) ?_
    rw [y1, y2, show nd + 1 - nd = 1 by omega]
    refine ⟨fun c => absurd c (by omega), fun _ => ⟨Or.inr rfl, ?_⟩⟩
    refine k 1 _ (xP.ye ((f16.tr f23).tr z.2) ?_ ?_)
    · unfold pleaf; rw [if_pos q3]; exact z.1
    · unfold pleaf; rw [if_pos q3]
theorem s53 (o : tOk t n) (x : xS h a t n p nd nc op T C) (q : pI n p nd nc op T) {K : Int → zH → Prop}
    (k : ∀ v h1, xP h a t n (pnode t n p nd nc op T C) v h1 → K v h1) : zC1 53 [vR a 102, vI (t p)] h K := by
  have x2 := x.2.1
  have key : ∀ l2 l3 : Int, l2 = b2i (t p = 40) → l3 = b2i (isL (t p)) → (t p = 40 ∨ isL (t p) ∨ isD (t p)) → zK 53 32 [vR a 102, vI (t p), vI l2, vI l3, vU] [] h (fun r h1 => ∃ v : Int, r = some (Sum.inl v) ∧ K v h1) := by
    intro l2 l3 e2 e3 hc
    have hp := o.lt (i := p) (by intro c; unfold isL isD at hc; omega)
    have en : pnode t n p nd nc op T C = if pbad t p nd op T then (false, p, nd, nc, op, T, C)
      else if t p = 40 then popen t nd op p T (ply t n nd 301 (p + 1) nc C)
      else pleaf t p nd nc op T C (if isL (t p) then 1 else 0) := rfl
    refine k53_32 a _ l2 l3 _ h _ (s54 x q ⟨fun q1 => ?_, fun q1 => ⟨Or.inl rfl, zq1 ?_⟩⟩)
    · rw [b2i_ne0] at q1
      have q2 : ¬ pbad t p nd op T := by
        rw [e2, b2i_ne0] at q1
        unfold isL isD at hc
        omega
      rw [if_neg q2] at en
      refine ⟨fun q3 => ⟨fun q4 => ?_, fun q4 => ?_⟩, fun q3 => ?_⟩
      · rw [e2, b2i_eq0] at q3
        rw [if_neg q3] at en
        rw [e3, b2i_eq0] at q4
        rw [if_neg q4] at en
        rw [e2, b2i_neg q3, e3, b2i_neg q4]
        exact s53l o x q (Or.inl rfl) (by omega) (fun v h1 z => zq1 (k v h1 (by rw [en]; exact z)))
      · rw [e2, b2i_eq0] at q3
        rw [if_neg q3] at en
        rw [e3, b2i_ne0] at q4
        rw [if_pos q4] at en
        rw [e2, b2i_neg q3, e3, b2i_pos q4]
        exact s53l o x q (Or.inr rfl) (by omega) (fun v h1 z => zq1 (k v h1 (by rw [en]; exact z)))
      · rw [e2, b2i_ne0] at q3
        rw [if_pos q3] at en
        rw [e2, b2i_pos q3]
        exact s53o o x q hp.2 (by omega) (fun v h1 z => zq1 (k v h1 (by rw [en]; exact z)))
    · rw [b2i_ne0] at q1
      have q2 : pbad t p nd op T := by
        rw [e2, b2i_ne0] at q1
        unfold isL isD at hc
        omega
      rw [if_pos q2] at en
      refine k 0 h (xP.no frP.rf ?_ ?_)
      · rw [en]; exact x2
      · rw [en]
  have k11 : ∀ s0 : Int, s0 = b2i (t p = 40) → zK 53 11 [vR a 102, vI (t p), vU, vU, vU] [vI s0] h (fun r h1 => ∃ v : Int, r = some (Sum.inl v) ∧ K v h1) := by
    intro s0 e0
    refine k53_11 a (t p) _ _ _ s0 h _ (s33 ⟨fun q1 => key _ _ e0 rfl ?_, fun q1 => ⟨fun q2 => key _ _ e0 rfl ?_, fun q2 => s34 ⟨fun q3 => ⟨Or.inl rfl, zq1 ?_⟩, fun q3 => key _ _ e0 rfl ?_⟩⟩⟩)
    · rw [e0, b2i_ne0] at q1; exact Or.inl q1
    · rw [b2i_ne0] at q2; exact Or.inr (Or.inl q2)
    · rw [b2i_eq0] at q3
      rw [b2i_ne0] at q2
      rw [e0, b2i_ne0] at q1
      have qb : pbad t p nd op T := Or.inl ⟨q1, q2, q3⟩
      have en : pnode t n p nd nc op T C = (false, p, nd, nc, op, T, C) := by unfold pnode; rw [if_pos qb]
      refine k 0 h (xP.no frP.rf ?_ ?_)
      · rw [en]; exact x2
      · rw [en]
    · rw [b2i_eq0] at q3; exact Or.inr (Or.inr (by omega))
  refine cI (k53_0 a (t p) h _ ⟨fun q1 => k11 0 (by rw [b2i_neg q1]), fun q1 => k11 1 (by rw [b2i_pos (by omega)])⟩)
theorem s52 (x : xS h a t n p nd nc op T C) (q : pI n p nd nc op T) (hop : ¬ op = -1) (hp : p < 300) {K : zH → Prop}
    (k : ∀ h1, frP (srA a) h h1 → xS h1 a t n (p + 1) nd nc (T op 1) (nfin T op (p + 1) (nd - op)) C → K h1) : zC0 52 [vR a 102] h K := by
  obtain ⟨a1, a2, a3, a4, a5, a6, a7, a8, a9, a10⟩ := q
  refine cV (k52_0 a h _ ?_)
  rw [x.2.1]
  refine ⟨by unfold inR; omega, fun h4 e4 => ?_⟩
  have y := xS.at (v := p + 1) x
  rw [← e4] at y
  have y0 := y.1.2.1
  have y1 := y.1.2.2.1
  have y2 := y.1.2.2.2.2.1
  have y3 := y.1.2.2.2.2.2.1 op (by omega) a8
  rw [y2]
  refine s57 (by omega) (by omega) ⟨by omega, by omega, fun h6 e6 => zq0 ?_⟩
  rw [y0, y1] at e6
  have z := xS.fin (i := op) (e := p + 1) (s := nd - op) y.1 (by omega)
  have e7 : gI (sI (sI h4 (a + 8) op (p + 1)) (a + 9) op (nd - op)) (a + 4) op = T op 1 := by simp [gS, y3.2.1]
  rw [e7] at e6
  have w := xS.opn (v := T op 1) z.1
  rw [← e6] at w
  exact k h6 ((y.2.tr z.2).tr w.2) w.1
theorem s51l (o : tOk t n) {Q : Option zV → zH → Prop} : ∀ (f : Nat) (h : zH) (p nd nc op : Int) (T C : pT) (z : Int) (u : zV), xS h a t n p nd nc op T C → pI n p nd nc op T → z + f = 301 → 0 ≤ z →
    (∀ v h1, xP h a t n (pterm t n f p nd nc op T C) v h1 → Q (some (vI v)) h1) → zK 51 2 [vR a 102, vI z, u] [] h Q := by
  have o2 := o.2.1
  intro f
  induction f with
  | zero =>
    intro h p nd nc op T C z u x q hz hz0 k
    refine k51_2 a z u h Q ⟨fun q => ⟨Or.inl rfl, ?_⟩, fun q => absurd q (by omega)⟩
    exact k 0 h (xP.no frP.rf x.2.1 rfl)
  | succ f ih =>
    intro h p nd nc op T C z u x q hz hz0 k
    have q0 := q
    obtain ⟨a1, a2, a3, a4, a5, a6, a7, a8, a9, a10⟩ := q
    refine k51_2 a z u h Q ⟨fun q => absurd q (by omega), fun _ => ?_⟩
    refine s58 o x a1 a2 a5 a6 (fun v5 h5 f5 g5 ev x5 => ?_)
    have qi : pI n (ply t n op 301 p nc C).2.1 nd (ply t n op 301 p nc C).2.2.1 op T := pI_ply o q0
    unfold pterm at k
    rcases hz1 : ply t n op 301 p nc C with ⟨ok, p1, nc1, C1⟩
    rw [hz1] at k g5 ev x5 qi
    dsimp only at g5 ev x5 qi
    cases ok with
    | false =>
      rw [b2i_neg (by simp)] at ev
      exact ⟨fun q => absurd ev q, fun q => ⟨Or.inl rfl, k 0 h5 (xP.no f5 g5 rfl)⟩⟩
    | true =>
      rw [b2i_pos rfl] at ev
      have x5 := x5 rfl
      have kk : ∀ v h1, xP h5 a t n (match pbody t n p1 nd nc1 op T C1 with
        | (false, p2, nd2, nc2, op2, T2, C2) => (false, p2, nd2, nc2, op2, T2, C2)
        | (true, p2, nd2, nc2, op2, T2, C2) => if op2 = -1 then (true, p2, nd2, nc2, op2, T2, C2) else pterm t n f p2 nd2 nc2 op2 T2 C2) v h1 → Q (some (vI v)) h1 := fun v h1 w => k v h1 (xP.tr f5 w)
      clear k
      refine ⟨fun _ => ?_, fun q => absurd (by omega) q⟩
      have key : ∀ u, ¬ (t p1 = 41 ∧ ¬ op = -1) → zK 51 51 [vR a 102, vI z, u] [] h5 Q → zK 51 51 [vR a 102, vI z, u] [] h5 Q := fun _ _ w => w
      have body : ¬ (t p1 = 41 ∧ ¬ op = -1) → zK 51 51 [vR a 102, vI z, vI (t p1)] [] h5 Q := by
        intro hc
        have en : pbody t n p1 nd nc1 op T C1 = pnode t n p1 nd nc1 op T C1 := by unfold pbody; rw [if_neg hc]
        rw [en] at kk
        refine k51_51 a z (t p1) h5 Q (s53 o x5 qi (fun v8 h8 w8 => ?_))
        have qn := fun {p2 nd2 nc2 op2 : Int} {T2 C2 : pT} => pI_node (C := C1) (p2 := p2) (nd2 := nd2) (nc2 := nc2) (op2 := op2) (T2 := T2) (C2 := C2) o qi
        rcases hz2 : pnode t n p1 nd nc1 op T C1 with ⟨ok2, p2, nd2, nc2, op2, T2, C2⟩
        rw [hz2] at kk w8 qn
        cases ok2 with
        | false =>
          have ev8 := w8.2.2.1
          rw [b2i_neg (by simp)] at ev8
          refine ⟨fun q => absurd ev8 q, fun q => ⟨Or.inl rfl, ?_⟩⟩
          rw [ev8] at w8
          exact kk 0 h8 w8
        | true =>
          have ev8 := w8.2.2.1
          rw [b2i_pos rfl] at ev8
          have x8 := w8.2.2.2 rfl
          have q8 := (qn rfl).1
          refine ⟨fun _ => ?_, fun q => absurd (by omega) q⟩
          have y8 : gI h8 a 17 = op2 := x8.2.2.2.2.1
          rw [y8]
          dsimp only at kk
          refine ⟨fun q => ⟨by unfold inR; omega, ?_⟩, fun q => ⟨Or.inr rfl, ?_⟩⟩
          · rw [if_neg q] at kk
            exact ih h8 p2 nd2 nc2 op2 T2 C2 (z + 1) _ x8 q8 (by omega) (by omega) (fun v h1 w => kk v h1 (xP.tr w8.1 w))
          · rw [if_pos (by omega)] at kk
            exact kk 1 h8 (xP.ye w8.1 x8 rfl)
      have y5 : gI h5 a 17 = op := x5.2.2.2.2.1
      rw [x5.2.1]
      refine s44 x5.1 o ⟨fun q => body (by omega), fun q => ?_⟩
      rw [y5]
      refine ⟨fun q1 => body (by omega), fun q1 => ?_⟩
      have hp1 := o.lt (i := p1) (by omega)
      refine s52 x5 qi q1 (by omega) (fun h7 f7 x7 => ?_)
      have en : pbody t n p1 nd nc1 op T C1 = (true, p1 + 1, nd, nc1, T op 1, nfin T op (p1 + 1) (nd - op), C1) := by unfold pbody; rw [if_pos ⟨by omega, q1⟩]
      have q7 := (pI_body o qi en).1
      rw [en] at kk
      dsimp only at kk
      have y7 : gI h7 a 17 = T op 1 := x7.2.2.2.2.1
      rw [y7]
      refine ⟨fun q => ⟨by unfold inR; omega, ?_⟩, fun q => ⟨Or.inr rfl, ?_⟩⟩
      · rw [if_neg q] at kk
        exact ih h7 _ _ _ _ _ _ (z + 1) _ x7 q7 (by omega) (by omega) (fun v h1 w => kk v h1 (xP.tr f7 w))
      · rw [if_pos (by omega)] at kk
        exact kk 1 h7 (xP.ye f7 x7 rfl)
theorem s51 (o : tOk t n) (x : xS h a t n p nd nc op T C) (q : pI n p nd nc op T) {K : Int → zH → Prop}
    (k : ∀ v h1, xP h a t n (pterm t n 301 p nd nc op T C) v h1 → K v h1) : zC1 51 [vR a 102] h K :=
  cI (k51_0 a h _ (s51l o 301 h p nd nc op T C 0 _ x q (by omega) (by omega) (fun v h1 w => zq1 (k v h1 w))))
end XS
theorem pI_0 {n : Int} {T : pT} (hn : 0 ≤ n) : pI n 0 0 0 (-1) T :=
  ⟨by omega, hn, by omega, by omega, by omega, by omega, by omega, by omega, ⟨fun c => absurd rfl c, fun i _ _ => by omega, fun i j _ _ => by omega⟩, fun i _ _ => by omega⟩
theorem pterm_I {t : Int → Int} {n : Int} (o : tOk t n) : ∀ (f : Nat) {p nd nc op : Int} {T C : pT} {p2 nd2 nc2 op2 : Int} {T2 C2 : pT}, pI n p nd nc op T → pterm t n f p nd nc op T C = (true, p2, nd2, nc2, op2, T2, C2) → pI n p2 nd2 nc2 op2 T2 ∧ op2 = -1 ∧ p < p2 := by
  intro f
  induction f with
  | zero => intro p nd nc op T C p2 nd2 nc2 op2 T2 C2 q e; unfold pterm at e; cases e
  | succ f ih =>
    intro p nd nc op T C p2 nd2 nc2 op2 T2 C2 q e
    have qi : pI n (ply t n op 301 p nc C).2.1 nd (ply t n op 301 p nc C).2.2.1 op T := pI_ply o q
    have hr := (ply_rg o op 301 p nc C q.1 q.2.1 q.2.2.2.2.1 q.2.2.2.2.2.1).1
    unfold pterm at e
    rcases hz3 : ply t n op 301 p nc C with ⟨ok, p1, nc1, C1⟩
    rw [hz3] at qi e hr
    cases ok with
    | false => cases e
    | true =>
      dsimp only at qi e hr
      rcases hz4 : pbody t n p1 nd nc1 op T C1 with ⟨ok2, p3, nd3, nc3, op3, T3, C3⟩
      rw [hz4] at e
      cases ok2 with
      | false => cases e
      | true =>
        dsimp only at e
        have qb := pI_body o qi hz4
        split at e
        · rename_i c
          cases e
          exact ⟨qb.1, c, by omega⟩
        · have := ih qb.1 e
          exact ⟨this.1, this.2.1, by omega⟩
theorem pread_I {t : Int → Int} {n : Int} (o : tOk t n) {p nd nc op : Int} {T C : pT} (e : pread t n = (true, p, nd, nc, op, T, C)) : pI n p nd nc op T ∧ op = -1 ∧ p = n := by
  unfold pread at e
  have q := pI_0 (T := fun _ _ => 0) o.1
  rcases e1 : pterm t n 301 0 0 0 (-1) (fun _ _ => 0) (fun _ _ => 0) with ⟨ok, p1, nd1, nc1, op1, T1, C1⟩
  rw [e1] at e
  cases ok with
  | false => cases e
  | true =>
    have q1 := pterm_I o 301 q e1
    dsimp only at e
    have q2 : pI n (ply t n op1 301 p1 nc1 C1).2.1 nd1 (ply t n op1 301 p1 nc1 C1).2.2.1 op1 T1 := pI_ply o q1.1
    rcases hz5 : ply t n op1 301 p1 nc1 C1 with ⟨ok2, p2, nc2, C2⟩
    rw [hz5] at e q2
    cases ok2 with
    | false => cases e
    | true =>
      dsimp only at e q2
      split at e
      · rename_i c
        cases e
        exact ⟨q2, q1.2.1, c⟩
      · cases e
/-- reading a text, as a whole -/
theorem s50 {a b : Nat} {h : zH} {t : Int → Int} {n : Int} (o : tOk t n) (x : Txt h b t n) (l : ln h (a + 1 + 1) = 300) (d : ¬ b = a + 1 + 1) {K : Int → zH → Prop}
    (k : ∀ v h1, frP (fun c k => srA a c k ∨ txA (a + 1) c k) h h1 → gI h1 a 16 = (pread t n).2.1 → v = b2i ((pread t n).1 = true) → Txt h1 (a + 1) t n →
      ((pread t n).1 = true → xS h1 a t n (pread t n).2.1 (pread t n).2.2.1 (pread t n).2.2.2.1 (pread t n).2.2.2.2.1 (pread t n).2.2.2.2.2.1 (pread t n).2.2.2.2.2.2) → K v h1) : zC1 50 [vR a 102, vR b 101] h K := by
  have o1 := o.1
  refine cI (k50_0 a b h _ (s45 x o l d (fun h8 f8 x8 h9 e9 h10 e10 h11 e11 h12 e12 => ?_)))
  have f12 : frP (srA a) h8 h12 := by
    rw [e12, e11, e10, e9]
    exact (((frP.rf.st (by unfold srA; omega)).st (by unfold srA; omega)).st (by unfold srA; omega)).st (by unfold srA; omega)
  have x12 : xS h12 a t n 0 0 0 (-1) (fun _ _ => 0) (fun _ _ => 0) := by
    refine ⟨txS f12 x8, ?_, ?_, ?_, ?_, fun i _ _ => by omega, fun i _ _ => by omega⟩ <;> simp [e12, e11, e10, e9, gS]
  have q12 := pI_0 (n := n) (T := fun _ _ => 0) o1
  refine s51 o x12 q12 (fun v13 h13 w13 => ?_)
  have ff : ∀ h1, frP (srA a) h8 h1 → frP (fun c k => srA a c k ∨ txA (a + 1) c k) h h1 := fun h1 w => (f8.mo (fun _ _ q => Or.inr q)).tr (w.mo (fun _ _ q => Or.inl q))
  have q13 := fun {p2 nd2 nc2 op2 : Int} {T2 C2 : pT} => pterm_I (C := fun _ _ => 0) (p2 := p2) (nd2 := nd2) (nc2 := nc2) (op2 := op2) (T2 := T2) (C2 := C2) o 301 q12
  unfold pread at k
  rcases hz6 : pterm t n 301 0 0 0 (-1) (fun _ _ => 0) (fun _ _ => 0) with ⟨ok, p1, nd1, nc1, op1, T1, C1⟩
  rw [hz6] at k w13 q13
  have tx : ∀ h1, frP (srA a) h8 h1 → Txt h1 (a + 1) t n := fun h1 w => txS w x8
  obtain ⟨f13, g13, ev, x13⟩ := w13
  have F13 := f12.tr f13
  cases ok with
  | false =>
    rw [b2i_neg (by simp)] at ev
    refine ⟨fun q => ⟨Or.inl rfl, zq1 ?_⟩, fun q => absurd ev q⟩
    exact k 0 h13 (ff _ F13) g13 (by rw [b2i_neg]; simp) (tx _ F13) (by simp)
  | true =>
    rw [b2i_pos rfl] at ev
    have x13 := x13 rfl
    have q13 := (q13 rfl).1
    dsimp only at x13 k
    refine ⟨fun q => absurd ev (by omega), fun q => ?_⟩
    refine s58 o x13 q13.1 q13.2.1 q13.2.2.2.2.1 q13.2.2.2.2.2.1 (fun v14 h14 f14 g14 ev14 x14 => ?_)
    have F14 := F13.tr f14
    rcases hz7 : ply t n op1 301 p1 nc1 C1 with ⟨ok2, p2, nc2, C2⟩
    rw [hz7] at k g14 ev14 x14
    cases ok2 with
    | false =>
      rw [b2i_neg (by simp)] at ev14
      refine ⟨fun q => ⟨Or.inl rfl, zq1 ?_⟩, fun q => absurd ev14 q⟩
      exact k 0 h14 (ff _ F14) g14 (by rw [b2i_neg]; simp) (tx _ F14) (by simp)
    | true =>
      rw [b2i_pos rfl] at ev14
      have x14 := x14 rfl
      dsimp only at x14 k
      rw [x14.2.1, x14.1.1]
      refine ⟨fun q => absurd ev14 (by omega), fun q => ⟨fun q2 => ⟨Or.inl rfl, zq1 ?_⟩, fun q2 => ⟨Or.inr rfl, zq1 ?_⟩⟩⟩
      · rw [if_neg q2] at k
        exact k 0 h14 (ff _ F14) g14 (by rw [b2i_neg]; simp) (tx _ F14) (by simp)
      · rw [if_pos (by omega)] at k
        exact k 1 h14 (ff _ F14) g14 (by rw [b2i_pos]; rfl) (tx _ F14) (fun _ => x14)
