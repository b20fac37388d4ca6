/-! The model: reading a source. -/
theorem s141 {p0 p1 p2 : Int} {h : zH} {K : Int → zH → Prop} (k : K (b2i (p1 ≤ p0 ∧ p0 ≤ p2)) h) : zC1 141 [vL p0, vL p1, vL p2] h K := by
  refine cI (k141_0 p0 p1 p2 h _ ⟨fun q => ⟨Or.inl rfl, zq1 ?_⟩, fun q => ⟨fun q2 => ⟨Or.inl rfl, zq1 ?_⟩, fun q2 => ⟨Or.inr rfl, zq1 ?_⟩⟩⟩)
  · rw [iCmp_lt] at q; rwa [b2i_neg (by omega)] at k
  · rw [iCmp_gt] at q2; rwa [b2i_neg (by omega)] at k
  · rw [iCmp_lt] at q; rw [iCmp_gt] at q2; rwa [b2i_pos (by omega)] at k
theorem s144 {c : Int} {h : zH} {K : Int → zH → Prop} (k : K (b2i (isL c)) h) : zC1 144 [vI c] h K :=
  cI (k144_0 c h _ (s141 ⟨b2i_01, zq1 k⟩))
theorem s145 {c : Int} {h : zH} {K : Int → zH → Prop} (k : K (b2i (isD c)) h) : zC1 145 [vI c] h K :=
  cI (k145_0 c h _ (s141 ⟨b2i_01, zq1 k⟩))
def mB (h : zH) (t : Int → Int) (n : Int) : Prop := gI h 127 9 = n ∧ ∀ i, 0 ≤ i → i < n → gI h 133 i = t i
def mT (h : zH) (a : Nat) (nd : Int) (T : pT) : Prop := ∀ i, 0 ≤ i → i < nd → gI h a (10 * i) = T i 0 ∧ gI h a (10 * i + 1) = T i 1 ∧ gI h a (10 * i + 2) = T i 2 ∧ gI h a (10 * i + 3) = T i 3 ∧ gI h a (10 * i + 4) = T i 4 ∧ gI h a (10 * i + 7) = T i 7 ∧
  (¬ T i 6 = 0 → gI h a (10 * i + 5) = T i 5 ∧ gI h a (10 * i + 6) = T i 6) ∧ (¬ T i 9 = 0 → gI h a (10 * i + 8) = T i 8 ∧ gI h a (10 * i + 9) = T i 9)
def mC (h : zH) (a : Nat) (nc : Int) (C : pT) : Prop := ∀ i, 0 ≤ i → i < nc → gI h a (3 * i) = C i 0 ∧ gI h a (3 * i + 1) = C i 1 ∧ gI h a (3 * i + 2) = C i 2
def mO (h : zH) (nd op : Int) (T : pT) : Prop := (op = -1 → gI h 127 15 = 0) ∧ (¬ op = -1 → gI h 127 15 = T op 7 + 1 ∧ gI h 136 (T op 7) = op ∧
  ∀ k, 0 ≤ k → k ≤ T op 7 → 0 ≤ gI h 136 k ∧ gI h 136 k < nd ∧ T (gI h 136 k) 7 = k ∧ (k = 0 → T (gI h 136 k) 1 = -1) ∧ (0 < k → T (gI h 136 k) 1 = gI h 136 (k - 1)))
def mS (h : zH) (t : Int → Int) (n p nd nc op : Int) (T C : pT) : Prop := mB h t n ∧ gI h 127 16 = p ∧ gI h 127 11 = nd ∧ gI h 127 13 = nc ∧ gI h 127 18 = 1 ∧ mO h nd op T ∧ mT h 134 nd T ∧ mC h 135 nc C
def mA (b : Nat) (k : Int) : Prop := (b = 127 ∧ (k = 11 ∨ k = 13 ∨ k = 15 ∨ k = 16 ∨ k = 17 ∨ k = 18)) ∨ b = 134 ∨ b = 135 ∨ b = 136
theorem mB.fr {P : Nat → Int → Prop} {h h1 : zH} {t : Int → Int} {n : Int} (x : mB h t n) (f : frP P h h1) (d : ¬ P 127 9 ∧ ∀ k, ¬ P 133 k) : mB h1 t n :=
  ⟨(f.1 _ _ d.1).trans x.1, fun i h0 h1 => (f.1 _ _ (d.2 _)).trans (x.2 i h0 h1)⟩
theorem mBf {h h1 : zH} {t : Int → Int} {n : Int} (f : frP mA h h1) (x : mB h t n) : mB h1 t n := x.fr f (by unfold mA; constructor <;> omega)
theorem s148 {h : zH} {K : zH → Prop} (g : gI h 127 18 = 1) (k : K (sI (sI h 127 17 (gI h 127 16)) 127 18 0)) : zC0 148 [vR 127 111] h K :=
  cV (k148_0 h _ ⟨fun q => absurd q (by omega), fun q h7 e7 => ⟨Or.inl rfl, fun h8 e8 => zq0 (by rw [e8, e7]; exact k)⟩⟩)
section MS
variable {h : zH} {t : Int → Int} {n p nd nc op : Int} {T C : pT}
theorem s149 (o : tOk t n) (x : mB h t n) (h0 : 0 ≤ gI h 127 16) {K : Int → zH → Prop} (k : K (t (gI h 127 16)) h) : zC1 149 [vR 127 111] h K := by
  have o2 := o.2.1
  have x1 := x.1
  refine cI (k149_0 h _ ⟨fun q => zq1 ?_, fun q => ⟨h0, by omega, zq1 ?_⟩⟩)
  · rwa [o.ge (by omega)] at k
  · rwa [x.2 _ h0 (by omega)]
theorem mS.at {v : Int} (x : mS h t n p nd nc op T C) : mS (sI h 127 16 v) t n v nd nc op T C ∧ frP mA h (sI h 127 16 v) := by
  obtain ⟨x1, x2, x3, x4, x5, x6, x7, x8⟩ := x
  have f : frP mA h (sI h 127 16 v) := frP.rf.st (by unfold mA; omega)
  refine ⟨⟨mBf f x1, by simp [gS], by simp [gS, x3], by simp [gS, x4], by simp [gS, x5], ?_, fun i h0 h1 => ?_, fun i h0 h1 => ?_⟩, f⟩
  · simpa [mO, gS] using x6
  · have := x7 i h0 h1; simpa [gS] using this
  · have := x8 i h0 h1; simpa [gS] using this
/-- the end of a comment's reading -/
theorem s150e {p0 : Int} {u : zV} (o : tOk t n) (x : mS h t n p nd nc op T C) (q : 0 ≤ p0 ∧ 0 ≤ nc ∧ 2 * nc ≤ p0) (qo : ¬ op = -1 → 0 ≤ T op 7 ∧ T op 7 ≤ 15) (hp : p0 + 1 ≤ p ∧ p < n) {Q : Option zV → zH → Prop}
    (k : ∀ h1, frP mA h h1 → mS h1 t n (p + 1) nd (nc + 1) op T (cadd C nc p0 (p + 1 - p0) op) → Q none h1) : zK 150 77 [vR 127 111, vI p0, u] [] h Q := by
  have o2 := o.2.1
  have xx := x
  obtain ⟨x1, x2, x3, x4, x5, x6, x7, x8⟩ := x
  refine k150_77 p0 u h Q ⟨fun q => absurd q (by omega), fun _ => ?_⟩
  rw [x2]
  refine k150_94 p0 u 1 p h Q ⟨by unfold inR; omega, fun h24 e24 => ?_⟩
  have w := mS.at (v := p + 1) xx
  rw [← e24] at w
  have y := w.1
  have F := w.2
  clear w
  obtain ⟨y1, y2, y3, y4, y5, y6, y7, y8⟩ := y
  rw [y4, y5]
  refine ⟨fun c => absurd c (by omega), fun _ => ⟨by unfold inR; omega, by omega, by omega, fun h25 e25 => ?_⟩⟩
  have z25 : gI h25 127 16 = p + 1 := by simp [e25, gS, y2]
  rw [z25]
  refine ⟨by unfold inR; omega, by unfold inR; omega, by omega, by omega, fun h26 e26 => ?_⟩
  have z26 : gI h26 127 15 = gI h24 127 15 := by simp [e26, e25, gS]
  have fin : ∀ h27 h28 : zH, h27 = sI h26 135 (3 * nc + 2) op → h28 = sI h27 127 13 (nc + 1) → Q none h28 := by
    intro h27 h28 e27 e28
    have f28 : frP mA h24 h28 := by
      rw [e28, e27, e26, e25]
      exact (((frP.rf.st (by unfold mA; omega)).st (by unfold mA; omega)).st (by unfold mA; omega)).st (by unfold mA; omega)
    refine k h28 (F.tr f28) ?_
    subst e28 e27 e26 e25
    refine ⟨mBf f28 y1, by simp [gS, y2], by simp [gS, y3], by simp [gS], by simp [gS, y5], ?_, fun i h0 h1 => ?_, fun i h0 h1 => ?_⟩
    · simpa [mO, gS] using y6
    · have := y7 i h0 h1; simpa [gS] using this
    · have := y8 i h0
      by_cases c : i = nc
      · subst c
        refine ⟨?_, ?_, ?_⟩ <;> simp [gS, cadd] <;> omega
      · have := this (by omega)
        have c1 : ¬ 3 * i = 3 * nc := by omega
        have c2 : ¬ 3 * i = 3 * nc + 1 := by omega
        have c3 : ¬ 3 * i = 3 * nc + 2 := by omega
        have c4 : ¬ 3 * i + 1 = 3 * nc := by omega
        have c5 : ¬ 3 * i + 2 = 3 * nc := by omega
        have c6 : ¬ 3 * i + 1 = 3 * nc + 2 := by omega
        have c7 : ¬ 3 * i + 2 = 3 * nc + 1 := by omega
        simp [gS, cadd, c, c1, c2, c3, c4, c5, c6, c7, this]
  by_cases c : op = -1
  · have z := y6.1 c
    rw [z26, z]
    refine ⟨by unfold inR; omega, fun c2 => absurd rfl c2, fun _ => ⟨by omega, by omega, fun h29 e29 => ?_⟩⟩
    have z29 : gI h29 127 13 = nc := by simp [e29, e26, e25, gS, y4]
    rw [z29]
    exact ⟨by unfold inR; omega, fun h30 e30 => fin h29 h30 (by rw [c]; exact e29) e30⟩
  · have z := y6.2 c
    have r := qo c
    rw [z26, z.1, show T op 7 + 1 - 1 = T op 7 by omega]
    have z136 : gI h26 136 (T op 7) = op := by simp [e26, e25, gS, z.2.1]
    rw [z136]
    refine ⟨by unfold inR; omega, fun _ => ⟨by unfold inR; omega, by omega, by omega, by omega, by omega, fun h27 e27 => ?_⟩, fun c2 => absurd (by omega) c2⟩
    have z27 : gI h27 127 13 = nc := by simp [e27, e26, e25, gS, y4]
    rw [z27]
    exact ⟨by unfold inR; omega, fun h28 e28 => fin h27 h28 e27 e28⟩
theorem frP.wr {h h1 : zH} {v : Int} (f : frP mA h h1) : frP mA h (sI (sI h1 127 17 v) 127 18 0) := (f.st (by unfold mA; omega)).st (by unfold mA; omega)
theorem s150l {p0 E : Int} {u : zV} (o : tOk t n) (q : 0 ≤ p0 ∧ 0 ≤ nc ∧ 2 * nc ≤ p0) (qo : ¬ op = -1 → 0 ≤ T op 7 ∧ T op 7 ≤ 15) {Q : Option zV → zH → Prop} : ∀ (f : Nat) (h : zH) (z : Int), mS h t n z nd nc op T C → p0 + 1 ≤ z → z ≤ n → n - z = f → pcm t f z = E →
    (∀ h1, frP mA h h1 → (t E = 93 → mS h1 t n (E + 1) nd (nc + 1) op T (cadd C nc p0 (E + 1 - p0) op)) → (¬ t E = 93 → gI h1 127 18 = 0 ∧ gI h1 127 17 = E) → Q none h1) → zK 150 15 [vR 127 111, vI p0, u] [] h Q := by
  have o2 := o.2.1
  have bad : ∀ (h : zH) (z : Int), mS h t n z nd nc op T C → 0 ≤ z → z ≤ n → z = E → ¬ t z = 93 → (∀ h1, frP mA h h1 → (t E = 93 → mS h1 t n (E + 1) nd (nc + 1) op T (cadd C nc p0 (E + 1 - p0) op)) → (¬ t E = 93 → gI h1 127 18 = 0 ∧ gI h1 127 17 = E) → Q none h1) → zC0 148 [vR 127 111] h (fun h22 => zK 150 15 [vR 127 111, vI p0, u] [] h22 Q) := by
    intro h z x hz0 hzn hz c k
    obtain ⟨x1, x2, x3, x4, x5, x6, x7, x8⟩ := x
    refine s148 x5 ?_
    rw [x2]
    refine k150_15 p0 u _ Q ⟨fun _ => ?_, fun c => absurd (by simp [gS]) c⟩
    refine k150_77 p0 u _ Q ⟨fun _ => ?_, fun c => absurd (by simp [gS]) c⟩
    refine k150_94 p0 u _ _ _ Q ⟨?_, fun h24 e24 => ⟨fun _ => ?_, fun c => absurd (by simp [e24, gS]) c⟩⟩
    · simp only [gS]; simp [x2]; unfold inR; omega
    · refine k h24 ?_ (fun c2 => absurd c2 (by rw [← hz]; exact c)) (fun _ => ?_)
      · rw [e24]; exact (frP.rf.wr).st (by unfold mA; omega)
      · simp [e24, gS, hz]
  intro f
  induction f with
  | zero =>
    intro h z x hz h1 hf e k
    have xx := x
    obtain ⟨x1, x2, x3, x4, x5, x6, x7, x8⟩ := x
    have e2 : t z = -1 := o.ge (by omega)
    unfold pcm at e
    refine k150_15 p0 u h Q ⟨fun c => absurd c (by omega), fun _ => s149 o x1 (by omega) ?_⟩
    rw [x2]
    refine ⟨fun c => absurd c (by omega), fun _ => s149 o x1 (by omega) ?_⟩
    rw [x2]
    refine ⟨fun c => absurd c (by omega), fun _ => s149 o x1 (by omega) (s141 ⟨fun _ => ?_, fun c => absurd c ?_⟩)⟩
    · exact bad h z xx (by omega) (by omega) e (by omega) k
    · rw [x2, b2i_ne0]; omega
  | succ f ih =>
    intro h z x hz h1 hf e k
    have xx := x
    obtain ⟨x1, x2, x3, x4, x5, x6, x7, x8⟩ := x
    unfold pcm at e
    refine k150_15 p0 u h Q ⟨fun c => absurd c (by omega), fun _ => s149 o x1 (by omega) ?_⟩
    rw [x2]
    refine ⟨fun c => ?_, fun c => s149 o x1 (by omega) ?_⟩
    · rw [if_neg (by omega)] at e
      refine s150e o xx q qo (by omega) (fun h1 f1 w => k h1 f1 (fun _ => by rw [← e]; exact w) (fun c2 => absurd (by rw [← e]; exact c) c2))
    · rw [x2]
      refine ⟨fun c1 => ⟨by unfold inR; omega, fun h19 e19 => ?_⟩, fun c1 => s149 o x1 (by omega) (s141 ⟨fun c2 => ?_, fun c2 => ⟨by unfold inR; omega, fun h23 e23 => ?_⟩⟩)⟩
      · rw [if_pos (by omega)] at e
        have w := mS.at (v := z + 1) xx
        rw [← e19] at w
        exact ih h19 (z + 1) w.1 (by omega) (by omega) (by omega) e (fun h1 f1 => k h1 (w.2.tr f1))
      · rw [x2, b2i_eq0] at c2
        rw [if_neg (by omega)] at e
        exact bad h z xx (by omega) (by omega) e c k
      · rw [x2, b2i_ne0] at c2
        rw [if_pos (by omega)] at e
        have w := mS.at (v := z + 1) xx
        rw [x2] at e23
        rw [← e23] at w
        exact ih h23 (z + 1) w.1 (by omega) (by omega) (by omega) e (fun h1 f1 => k h1 (w.2.tr f1))
theorem s150 (o : tOk t n) (x : mS h t n p nd nc op T C) (q : 0 ≤ p ∧ p < n ∧ 0 ≤ nc ∧ 2 * nc ≤ p) (qo : ¬ op = -1 → 0 ≤ T op 7 ∧ T op 7 ≤ 15) {K : zH → Prop}
    (k : ∀ h1 E, E = pcm t (n - (p + 1)).toNat (p + 1) → frP mA h h1 → (t E = 93 → mS h1 t n (E + 1) nd (nc + 1) op T (cadd C nc p (E + 1 - p) op)) → (¬ t E = 93 → gI h1 127 18 = 0 ∧ gI h1 127 17 = E) → K h1) : zC0 150 [vR 127 111] h K := by
  have o2 := o.2.1
  have x2 := x.2.1
  refine cV (k150_0 h _ ?_)
  rw [x2]
  refine ⟨by unfold inR; omega, fun h16 e16 => ?_⟩
  have w := mS.at (v := p + 1) x
  rw [← e16] at w
  exact s150l o (by omega) qo (n - (p + 1)).toNat h16 (p + 1) w.1 (by omega) (by omega) (by omega) rfl (fun h1 f1 g1 g2 => zq0 (k h1 _ rfl (w.2.tr f1) g1 g2))
/-- after layout -/
def mL (h : zH) (t : Int → Int) (n nd op : Int) (T : pT) (r : Bool × Int × Int × pT) (h1 : zH) : Prop := frP mA h h1 ∧ (r.1 = true → mS h1 t n r.2.1 nd r.2.2.1 op T r.2.2.2) ∧ (r.1 = false → gI h1 127 18 = 0 ∧ gI h1 127 17 = r.2.1)
theorem s151l (o : tOk t n) (qo : ¬ op = -1 → 0 ≤ T op 7 ∧ T op 7 ≤ 15) {Q : Option zV → zH → Prop} : ∀ (f : Nat) (h : zH) (p nc : Int) (C : pT), mS h t n p nd nc op T C → 0 ≤ p → p ≤ n → 0 ≤ nc → 2 * nc ≤ p → n < f + p →
    (∀ h1, mL h t n nd op T (ply t n op f p nc C) h1 → Q none h1) → zK 151 0 [vR 127 111] [] h Q := by
  have o2 := o.2.1
  intro f
  induction f with
  | zero => intro h p nc C x h0 h1 h2 h3 h4; omega
  | succ f ih =>
    intro h p nc C x h0 h1 h2 h3 h4 k
    have xx := x
    obtain ⟨x1, x2, x3, x4, x5, x6, x7, x8⟩ := x
    unfold ply at k
    have go : (t p = 32 ∨ t p = 10 ∨ t p = 91) → zK 151 34 [vR 127 111] [] h Q := by
      intro hc
      have hp := o.lt (i := p) (by omega)
      refine k151_34 h Q (s149 o x1 (by omega) ?_)
      rw [x2]
      refine ⟨fun c => ⟨by unfold inR; omega, fun h11 e11 => ?_⟩, fun c => ?_⟩
      · rw [if_pos (by omega)] at k
        have w := mS.at (v := p + 1) xx
        rw [← e11] at w
        exact ih h11 (p + 1) nc C w.1 (by omega) (by omega) h2 (by omega) (by omega) (fun h1 r => k h1 ⟨w.2.tr r.1, r.2⟩)
      · rw [if_neg (by omega), if_pos (by omega)] at k
        refine s150 o xx (by omega) qo (fun h12 E eE f12 g1 g2 => ?_)
        have hr := pcm_rg o (n - (p + 1)).toNat (p + 1) (by omega) (by omega)
        rw [← eE] at hr k
        by_cases c1 : t E = 93
        · rw [if_pos c1] at k
          have := o.lt (i := E) (by omega)
          exact ih h12 (E + 1) (nc + 1) _ (g1 c1) (by omega) (by omega) (by omega) (by omega) (by omega) (fun h1 r => k h1 ⟨f12.tr r.1, r.2⟩)
        · rw [if_neg c1] at k
          refine k151_0 h12 Q ⟨fun _ => k h12 ⟨f12, by simp, fun _ => g2 c1⟩, fun c => absurd (g2 c1).1 c⟩
    refine k151_0 h Q ⟨fun c => absurd c (by omega), fun _ => s149 o x1 (by omega) ?_⟩
    rw [x2]
    refine ⟨fun c => go (Or.inl c), fun c => s149 o x1 (by omega) ?_⟩
    rw [x2]
    refine ⟨fun c1 => go (Or.inr (Or.inl c1)), fun c1 => s149 o x1 (by omega) ?_⟩
    rw [x2]
    refine ⟨fun c2 => ?_, fun c2 => go (Or.inr (Or.inr (by omega)))⟩
    rw [if_neg (by omega), if_neg c2] at k
    exact k h ⟨frP.rf, fun _ => xx, by simp⟩
theorem s151 (o : tOk t n) (x : mS h t n p nd nc op T C) (qo : ¬ op = -1 → 0 ≤ T op 7 ∧ T op 7 ≤ 15) (h0 : 0 ≤ p) (h1 : p ≤ n) (h2 : 0 ≤ nc) (h3 : 2 * nc ≤ p) {K : zH → Prop}
    (k : ∀ h1, mL h t n nd op T (ply t n op 301 p nc C) h1 → K h1) : zC0 151 [vR 127 111] h K := by
  have := o.2.1
  exact cV (s151l o qo 301 h p nc C x h0 h1 h2 h3 (by omega) (fun h1 r => zq0 (k h1 r)))
theorem s151n (g : gI h 127 18 = 0) {K : zH → Prop} (k : K h) : zC0 151 [vR 127 111] h K :=
  cV (k151_0 h _ ⟨fun _ => zq0 k, fun c => absurd g c⟩)
def mA0 (b : Nat) (k : Int) : Prop := b = 127 ∧ (k = 16 ∨ k = 17 ∨ k = 18)
theorem fA0 {h h1 : zH} (f : frP mA0 h h1) : frP mA h h1 := f.mo (fun b k q => by unfold mA0 at q; unfold mA; omega)
theorem frP.wr0 {h h1 : zH} {v : Int} (f : frP mA0 h h1) : frP mA0 h (sI (sI h1 127 17 v) 127 18 0) := (f.st (by unfold mA0; omega)).st (by unfold mA0; omega)
theorem mS.at0 {v : Int} (x : mS h t n p nd nc op T C) : mS (sI h 127 16 v) t n v nd nc op T C ∧ frP mA0 h (sI h 127 16 v) := ⟨(mS.at x).1, frP.rf.st (by unfold mA0; omega)⟩
/-- a row of letters, digits -/
theorem s152l {b p0 : Int} {m : Nat} (o : tOk t n) (hm : m ≤ 8) {Q : Option zV → zH → Prop} : ∀ (f : Nat) (h : zH) (z : Int), mS h t n z nd nc op T C → 0 ≤ p0 → p0 ≤ z → z ≤ n → z - p0 + f = m →
    (∀ h1, frP mA0 h h1 → (rowL t b (f + 1) z ≤ f → mS h1 t n (z + rowL t b (f + 1) z) nd nc op T C → Q (some (vI (z + rowL t b (f + 1) z - p0))) h1) ∧
      (¬ rowL t b (f + 1) z ≤ f → mB h1 t n → gI h1 127 16 = p0 + m → gI h1 127 18 = 0 → gI h1 127 17 = p0 + m → ∀ v, Q (some (vI v)) h1)) → zK 152 5 [vR 127 111, vI b, vI m, vI p0] [] h Q := by
  have o2 := o.2.1
  have stop : ∀ (f : Nat) (h : zH) (z : Int), mS h t n z nd nc op T C → 0 ≤ p0 → p0 ≤ z → z ≤ n → (∀ h1, frP mA0 h h1 → (rowL t b (f + 1) z ≤ f → mS h1 t n (z + rowL t b (f + 1) z) nd nc op T C → Q (some (vI (z + rowL t b (f + 1) z - p0))) h1) ∧
      (¬ rowL t b (f + 1) z ≤ f → mB h1 t n → gI h1 127 16 = p0 + m → gI h1 127 18 = 0 → gI h1 127 17 = p0 + m → ∀ v, Q (some (vI v)) h1)) → ¬ isP b (t z) → inR (gI h 127 16 - p0) ∧ Q (some (vI (gI h 127 16 - p0))) h := by
    intro f h z x h0 h1 h2 k c
    rw [x.2.1]
    refine ⟨by unfold inR; omega, ?_⟩
    have e : rowL t b (f + 1) z = 0 := by unfold rowL; rw [if_neg c]
    have w := (k h frP.rf).1 (by omega) (by rw [e, Int.add_zero]; exact x)
    rwa [e, Int.add_zero] at w
  intro f
  induction f with
  | zero =>
    intro h z x h0 h1 h2 hf k
    have xx := x
    obtain ⟨x1, x2, x3, x4, x5, x6, x7, x8⟩ := x
    have go : isP b (t z) → zK 152 39 [vR 127 111, vI b, vI m, vI p0] [] h Q := by
      intro c
      refine k152_39 b m p0 h Q ?_
      rw [x2]
      refine ⟨by unfold inR; omega, fun c1 => absurd (by omega) c1, fun _ => s148 x5 ?_⟩
      rw [x2]
      refine k152_5 b m p0 _ Q ⟨fun _ => ?_, fun c => absurd (by simp [gS]) c⟩
      have e : rowL t b (0 + 1) z = 1 := by unfold rowL; rw [if_pos c]; rfl
      have F : frP mA0 h (sI (sI h 127 17 z) 127 18 0) := frP.rf.wr0
      have w := (k _ F).2 (by omega) (mBf (fA0 F) x1) (by simp [gS, x2]; omega) (by simp [gS]) (by simp [gS]; omega)
      exact ⟨by simp [gS, x2]; unfold inR; omega, w _⟩
    refine k152_5 b m p0 h Q ⟨fun c => absurd c (by omega), fun _ => ⟨fun c => s149 o x1 (by omega) (s145 ⟨fun c2 => ?_, fun c2 => ?_⟩), fun c => s149 o x1 (by omega) (s144 ⟨fun c2 => ?_, fun c2 => ?_⟩)⟩⟩
    · rw [x2, b2i_eq0] at c2
      exact stop 0 h z xx h0 h1 h2 k (by omega)
    · rw [x2, b2i_ne0] at c2; exact go (by omega)
    · rw [x2, b2i_eq0] at c2
      exact stop 0 h z xx h0 h1 h2 k (by omega)
    · rw [x2, b2i_ne0] at c2; exact go (by omega)
  | succ f ih =>
    intro h z x h0 h1 h2 hf k
    have xx := x
    obtain ⟨x1, x2, x3, x4, x5, x6, x7, x8⟩ := x
    have go : isP b (t z) → zK 152 39 [vR 127 111, vI b, vI m, vI p0] [] h Q := by
      intro c
      have := o.lt (i := z) (by intro c1; rw [c1] at c; unfold isP isD isL at c; omega)
      refine k152_39 b m p0 h Q ?_
      rw [x2]
      refine ⟨by unfold inR; omega, fun c1 => ⟨by unfold inR; omega, fun h11 e11 => ?_⟩, fun c1 => absurd (by omega) c1⟩
      have w := mS.at0 (v := z + 1) xx
      rw [← e11] at w
      have e : rowL t b (f + 1 + 1) z = 1 + rowL t b (f + 1) (z + 1) := by rw [rowL, if_pos c]
      refine ih h11 (z + 1) w.1 h0 (by omega) (by omega) (by omega) (fun h1 f1 => ?_)
      have kk := k h1 (w.2.tr f1)
      rw [e] at kk
      rw [show z + 1 + rowL t b (f + 1) (z + 1) = z + (1 + rowL t b (f + 1) (z + 1)) by omega]
      exact ⟨fun c => kk.1 (by omega), fun c => kk.2 (by omega)⟩
    refine k152_5 b m p0 h Q ⟨fun c => absurd c (by omega), fun _ => ⟨fun c => s149 o x1 (by omega) (s145 ⟨fun c2 => ?_, fun c2 => ?_⟩), fun c => s149 o x1 (by omega) (s144 ⟨fun c2 => ?_, fun c2 => ?_⟩)⟩⟩
    · rw [x2, b2i_eq0] at c2
      exact stop (f + 1) h z xx h0 h1 h2 k (by omega)
    · rw [x2, b2i_ne0] at c2; exact go (by omega)
    · rw [x2, b2i_eq0] at c2
      exact stop (f + 1) h z xx h0 h1 h2 k (by omega)
    · rw [x2, b2i_ne0] at c2; exact go (by omega)
theorem s152 {b : Int} (o : tOk t n) (x : mS h t n p nd nc op T C) (h0 : 0 ≤ p) (h1 : p ≤ n) {K : Int → zH → Prop}
    (k : ∀ h1, frP mA0 h h1 → (prl t b p ≤ pmo b → mS h1 t n (p + prl t b p) nd nc op T C → K (prl t b p) h1) ∧ (¬ prl t b p ≤ pmo b → mB h1 t n → gI h1 127 16 = p + pmo b → gI h1 127 18 = 0 → gI h1 127 17 = p + pmo b → ∀ v, K v h1)) : zC1 152 [vR 127 111, vI b, vI (pmo b)] h K := by
  have hm : pmo b ≤ 8 := by unfold pmo; split <;> omega
  refine cI (k152_0 b (pmo b) h _ ?_)
  rw [x.2.1]
  refine s152l o hm (pmo b) h p x h0 (by omega) h1 (by omega) (fun h1 f1 => ?_)
  have w := k h1 f1
  unfold prl at w
  refine ⟨fun c y => zq1 ?_, fun c y0 y1 y2 y3 v => zq1 (w.2 c y0 y1 y2 y3 v)⟩
  rw [show p + rowL t b (pmo b + 1) p - p = rowL t b (pmo b + 1) p by omega]
  exact w.1 c y
theorem s152n {b m : Int} (g : gI h 127 18 = 0) {K : Int → zH → Prop} (k : K 0 h) : zC1 152 [vR 127 111, vI b, vI m] h K := by
  refine cI (k152_0 b m h _ (k152_5 b m _ h _ ⟨fun _ => ?_, fun c => absurd g c⟩))
  rw [show gI h 127 16 - gI h 127 16 = 0 by omega]
  exact ⟨by unfold inR; omega, zq1 k⟩
def mP (h : zH) (t : Int → Int) (n : Int) (z : pZ) (h1 : zH) : Prop := frP mA h h1 ∧ (z.1 = true → mS h1 t n z.2.1 z.2.2.1 z.2.2.2.1 z.2.2.2.2.1 z.2.2.2.2.2.1 z.2.2.2.2.2.2) ∧ (z.1 = false → gI h1 127 18 = 0 ∧ gI h1 127 17 = z.2.1)
theorem mP.tr {h1 h2 : zH} {z : pZ} (f : frP mA h h1) (x : mP h1 t n z h2) : mP h t n z h2 := ⟨f.tr x.1, x.2⟩
theorem mP.no {z : pZ} {h1 : zH} (f : frP mA h h1) (e1 : z.1 = false) (e2 : gI h1 127 18 = 0) (e3 : gI h1 127 17 = z.2.1) : mP h t n z h1 := ⟨f, by simp [e1], fun _ => ⟨e2, e3⟩⟩
theorem mP.ye {z : pZ} {h1 : zH} (f : frP mA h h1) (e1 : z.1 = true) (x : mS h1 t n z.2.1 z.2.2.1 z.2.2.2.1 z.2.2.2.2.1 z.2.2.2.2.2.1 z.2.2.2.2.2.2) : mP h t n z h1 := ⟨f, fun _ => x, by simp [e1]⟩
/-- the row of a new node -/
theorem mO.add {h1 : zH} {kd : Int} (x : mO h nd op T) (hop : -1 ≤ op ∧ op < nd) (e : ∀ k, gI h1 136 k = gI h 136 k) (e2 : gI h1 127 15 = gI h 127 15) : mO h1 (nd + 1) op (nadd T nd op p kd) := by
  refine ⟨fun c => by rw [e2]; exact x.1 c, fun c => ?_⟩
  obtain ⟨y1, y2, y3⟩ := x.2 c
  have e7 : ∀ i, ¬ i = nd → nadd T nd op p kd i 7 = T i 7 := fun i hi => by simp [nadd, hi]
  have e1 : ∀ i, ¬ i = nd → nadd T nd op p kd i 1 = T i 1 := fun i hi => by simp [nadd, hi]
  rw [e7 op (by omega), e2, e]
  refine ⟨y1, y2, fun k h0 h1 => ?_⟩
  have := y3 k h0 h1
  rw [e, e, e7 _ (by omega), e1 _ (by omega)]
  exact ⟨this.1, by omega, this.2.2⟩
/-- names do not change the open terms -/
theorem mO.cg {h1 : zH} {T1 : pT} (x : mO h nd op T) (e : ∀ k, gI h1 136 k = gI h 136 k) (e2 : gI h1 127 15 = gI h 127 15) (e7 : ∀ i, T1 i 7 = T i 7) (e1 : ∀ i, T1 i 1 = T i 1) : mO h1 nd op T1 := by
  refine ⟨fun c => by rw [e2]; exact x.1 c, fun c => ?_⟩
  obtain ⟨y1, y2, y3⟩ := x.2 c
  rw [e7, e2, e]
  refine ⟨y1, y2, fun k h0 h1 => ?_⟩
  have := y3 k h0 h1
  rw [e, e, e7, e1]
  exact this
theorem s153a {kd c : Int} {u2 u3 u4 : zV} (x : mS h t n p nd nc op T C) (q : pI n p nd nc op T) (hn : ¬ nd = 60) (hk : kd = if isD c then 0 else if isL c then 1 else 2) {Q : Option zV → zH → Prop}
    (k : ∀ h1 u, frP mA h h1 → gI h1 127 11 = nd → gI h1 134 (10 * nd + 6) = 1 → mO h1 nd op T → mS (sI h1 127 11 (nd + 1)) t n p (nd + 1) nc op (nadd T nd op p kd) C → zK 153 266 [vR 127 111, vI c, u2, vI (10 * nd), u] [] h1 Q) : zK 153 97 [vR 127 111, vI c, u2, u3, u4] [] h Q := by
  obtain ⟨a1, a2, a3, a4, a5, a6, a7, a8, a9, a10⟩ := q
  obtain ⟨x1, x2, x3, x4, x5, x6, x7, x8⟩ := x
  -- what is written behind the number of parts of the open term is read
  have k199 : ∀ h2 s0, s0 = (if op = -1 then -1 else T op 3) → h2 = sI (sI h 134 (10 * nd) kd) 134 (10 * nd + 1) op → zK 153 199 [vR 127 111, vI c, u2, vI (10 * nd), vI op] [vI s0, vI (10 * nd + 2), vR 134 60140] h2 Q := by
    intro h2 s0 e0 e2
    refine k153_199 c u2 (10 * nd) op s0 (10 * nd + 2) h2 Q ⟨by omega, by omega, fun h43 e43 => ⟨by unfold inR; omega, by omega, by omega, fun h44 e44 => ⟨by unfold inR; omega, by omega, by omega, fun h45 e45 => ⟨by unfold inR; omega, by omega, by omega, fun h46 e46 => ⟨by unfold inR; omega, by omega, by omega, fun h47 e47 => ?_⟩⟩⟩⟩⟩
    have z44 : gI h44 127 16 = p := by simp [e44, e43, e2, gS, x2]
    have z46 : gI h46 127 15 = gI h 127 15 := by simp [e46, e45, e44, e43, e2, gS]
    rw [z44] at e45
    rw [z46] at e47
    have f47 : frP mA h h47 := by
      rw [e47, e46, e45, e44, e43, e2]
      exact ((((((frP.rf.st (by unfold mA; omega)).st (by unfold mA; omega)).st (by unfold mA; omega)).st (by unfold mA; omega)).st (by unfold mA; omega)).st (by unfold mA; omega)).st (by unfold mA; omega)
    have hd : gI h 127 15 = if op = -1 then 0 else T op 7 + 1 := by
      by_cases c1 : op = -1
      · rw [if_pos c1]; exact x6.1 c1
      · rw [if_neg c1]; exact (x6.2 c1).1
    have row : ∀ j, ¬ (10 * nd ≤ j ∧ j < 10 * nd + 10) → gI h47 134 j = gI h 134 j := by
      intro j hj
      have d0 : ¬ j = 10 * nd := by omega
      have d1 : ¬ j = 10 * nd + 1 := by omega
      have d2 : ¬ j = 10 * nd + 2 := by omega
      have d3 : ¬ j = 10 * nd + 3 := by omega
      have d4 : ¬ j = 10 * nd + 4 := by omega
      have d6 : ¬ j = 10 * nd + 6 := by omega
      have d7 : ¬ j = 10 * nd + 7 := by omega
      simp [e47, e46, e45, e44, e43, e2, gS, d0, d1, d2, d3, d4, d6, d7]
    have mine : gI h47 134 (10 * nd) = kd ∧ gI h47 134 (10 * nd + 1) = op ∧ gI h47 134 (10 * nd + 2) = s0 ∧ gI h47 134 (10 * nd + 3) = 0 ∧ gI h47 134 (10 * nd + 4) = p ∧ gI h47 134 (10 * nd + 6) = 1 ∧ gI h47 134 (10 * nd + 7) = gI h 127 15 := by
      refine ⟨?_, ?_, ?_, ?_, ?_, ?_, ?_⟩ <;> simp [e47, e46, e45, e44, e43, e2, gS] <;> omega
    have oth : ∀ b j, ¬ b = 134 → gI h47 b j = gI h b j := by
      intro b j hb
      simp [e47, e46, e45, e44, e43, e2, gS, hb]
    refine ⟨fun c1 => ?_, fun c1 => ?_⟩
    · refine k h47 _ f47 (by rw [oth _ _ (by omega)]; exact x3) mine.2.2.2.2.2.1 (mO.cg x6 (fun _ => oth _ _ (by omega)) (oth _ _ (by omega)) (fun _ => rfl) (fun _ => rfl)) ⟨?_, ?_, ?_, ?_, ?_, ?_, ?_, ?_⟩
      · exact mBf (f47.st (by unfold mA; omega)) x1
      · simp [gS, oth, x2]
      · simp [gS]
      · simp [gS, oth, x4]
      · simp [gS, oth, x5]
      · exact mO.add x6 (by omega) (fun k => by simp [gS, oth]) (by simp [gS, oth])
      · intro i h0 h1
        by_cases ci : i = nd
        · subst ci
          rw [if_pos c1] at hd e0
          simp [gS, mine, nadd, c1, e0, hd]
        · have y := x7 i h0 (by omega)
          have d : ∀ j, 0 ≤ j → j < 10 → gI h47 134 (10 * i + j) = gI h 134 (10 * i + j) := fun j j0 j1 => row _ (by omega)
          have d0 : gI h47 134 (10 * i) = gI h 134 (10 * i) := row _ (by omega)
          have cm : ¬ i = -1 := by omega
          rw [c1]
          simp [gS, d0, d, nadd, ci, cm, y]; exact ⟨y.2.2.2.2.2.2.1, y.2.2.2.2.2.2.2⟩
      · intro i h0 h1
        have := x8 i h0 h1
        simpa [gS, oth] using this
    · have y0 := x7 op (by omega) a8
      have r := a10 op (by omega) a8
      unfold pR at r
      have z3 : gI h47 134 (10 * op + 3) = T op 3 := by rw [row _ (by omega)]; exact y0.2.2.2.1
      rw [z3]
      refine ⟨by unfold inR; omega, by unfold inR; omega, by omega, by omega, by unfold inR; omega, by omega, by omega, fun h48 e48 => ?_⟩
      have f48 : frP mA h h48 := by rw [e48]; exact f47.st (by unfold mA; omega)
      have oth8 : ∀ b j, ¬ b = 134 → gI h48 b j = gI h b j := by
        intro b j hb
        simp [e48, gS, hb, oth]
      have mine8 : ∀ j, 0 ≤ j → j < 10 → gI h48 134 (10 * nd + j) = gI h47 134 (10 * nd + j) := by
        intro j j0 j1
        have : ¬ 10 * nd + j = 10 * op + 3 := by omega
        simp [e48, gS, this]
      have mine0 : gI h48 134 (10 * nd) = gI h47 134 (10 * nd) := by have := mine8 0 (by omega) (by omega); simpa using this
      refine k h48 _ f48 (by rw [oth8 _ _ (by omega)]; exact x3) (by rw [mine8 6 (by omega) (by omega)]; exact mine.2.2.2.2.2.1) (mO.cg x6 (fun _ => oth8 _ _ (by omega)) (oth8 _ _ (by omega)) (fun _ => rfl) (fun _ => rfl)) ⟨?_, ?_, ?_, ?_, ?_, ?_, ?_, ?_⟩
      · exact mBf (f48.st (by unfold mA; omega)) x1
      · simp [gS, oth8, x2]
      · simp [gS]
      · simp [gS, oth8, x4]
      · simp [gS, oth8, x5]
      · exact mO.add x6 (by omega) (fun k => by simp [gS, oth8]) (by simp [gS, oth8])
      · intro i h0 h1
        by_cases ci : i = nd
        · subst ci
          rw [if_neg c1] at hd e0
          have m := mine8
          simp [gS, mine0, m, mine, nadd, c1, e0, hd]
        · have y := x7 i h0 (by omega)
          have d : ∀ j, 0 ≤ j → j < 10 → ¬ (i = op ∧ j = 3) → gI h48 134 (10 * i + j) = gI h 134 (10 * i + j) := fun j j0 j1 hne => by
            have : ¬ 10 * i + j = 10 * op + 3 := by omega
            rw [e48]; simp only [gS, this, and_false, if_false]; exact row _ (by omega)
          have d0 : gI h48 134 (10 * i) = gI h 134 (10 * i) := by have := d 0 (by omega) (by omega) (by omega); simpa using this
          by_cases co : i = op
          · subst co
            have d3 : gI h48 134 (10 * i + 3) = T i 3 + 1 := by simp [e48, gS]
            simp [gS, d0, d, d3, nadd, ci, y]; exact ⟨y.2.2.2.2.2.2.1, y.2.2.2.2.2.2.2⟩
          · simp [gS, d0, d, co, nadd, ci, y]; exact ⟨y.2.2.2.2.2.2.1, y.2.2.2.2.2.2.2⟩
      · intro i h0 h1
        have := x8 i h0 h1
        simpa [gS, oth8] using this
  have k159 : ∀ s1, s1 = kd → zK 153 159 [vR 127 111, vI c, u2, vI (10 * nd), vI op] [vI s1, vI (10 * nd + 0), vR 134 60140] h Q := by
    intro s1 e1
    rw [Int.add_zero, e1]
    refine k153_159 c u2 (10 * nd) op kd (10 * nd) h Q ⟨by omega, by omega, fun h41 e41 => ⟨by unfold inR; omega, by omega, by omega, fun h42 e42 => ⟨by unfold inR; omega, fun c1 => ?_, fun c1 => ?_⟩⟩⟩
    · have y0 := x7 op (by omega) a8
      have d0 : ¬ 10 * op + 3 = 10 * nd := by omega
      have d1 : ¬ 10 * op + 3 = 10 * nd + 1 := by omega
      have z3 : gI h42 134 (10 * op + 3) = T op 3 := by simp [e42, e41, gS, d0, d1, y0.2.2.2.1]
      rw [z3]
      exact ⟨by unfold inR; omega, by unfold inR; omega, by omega, by omega, k199 h42 _ (by rw [if_neg c1]) (by rw [e42, e41])⟩
    · exact k199 h42 _ (by rw [if_pos (by omega)]) (by rw [e42, e41])
  have k127 : ∀ s1, s1 = op → zK 153 127 [vR 127 111, vI c, u2, vI (10 * nd), u4] [vI s1] h Q := by
    intro s1 e1
    rw [e1]
    refine k153_127 c u2 (10 * nd) u4 op h Q ⟨by unfold inR; omega, s145 ⟨fun c1 => s144 ⟨fun c2 => ?_, fun c2 => ?_⟩, fun c1 => ?_⟩⟩
    · rw [b2i_eq0] at c1 c2
      rw [if_neg c1, if_neg c2] at hk
      exact k159 2 hk.symm
    · rw [b2i_eq0] at c1; rw [b2i_ne0] at c2
      rw [if_neg c1, if_pos c2] at hk
      exact k159 1 hk.symm
    · rw [b2i_ne0] at c1
      rw [if_pos c1] at hk
      exact k159 0 hk.symm
  refine k153_97 c u2 u3 u4 h Q ?_
  rw [x3]
  refine ⟨by unfold inR; omega, fun c1 => ?_, fun c1 => ?_⟩
  · have c2 : ¬ op = -1 := fun c3 => c1 (x6.1 c3)
    have r := a10 op (by omega) a8
    unfold pR at r
    have r2 := r.2.2.2.2.2.2.2.2.1 (a9.1 c2)
    have z := x6.2 c2
    rw [z.1, show T op 7 + 1 - 1 = T op 7 by omega, z.2.1]
    exact ⟨by unfold inR; omega, by omega, by omega, k127 _ rfl⟩
  · have c2 : op = -1 := by
      apply Classical.byContradiction; intro c3
      have z := x6.2 c3
      have r := a10 op (by omega) a8
      unfold pR at r
      omega
    exact k127 _ c2.symm
/-- the name of the latest node -/
theorem s153n {c : Int} {u2 u4 : zV} (o : tOk t n) (x : mS h t n p (nd + 1) nc op T C) (hT6 : T nd 6 = 0) (hT9 : T nd 9 = 0) (hp : 0 ≤ p ∧ p ≤ n) (hn : 0 ≤ nd ∧ nd < 60) (b : Int) (hb : b = b2i (¬ isD c)) {Q : Option zV → zH → Prop}
    (k : ∀ h1, frP mA h h1 → (prl t b p ≤ pmo b → mS h1 t n (p + prl t b p) (nd + 1) nc op (nnam T nd p (prl t b p)) C → gI h1 134 (10 * nd + 5) = p + prl t b p → gI h1 134 (10 * nd + 6) = gI h 134 (10 * nd + 6) → Q none h1) ∧
      (¬ prl t b p ≤ pmo b → gI h1 127 18 = 0 → gI h1 127 17 = p + pmo b → Q none h1)) : zK 153 342 [vR 127 111, vI c, u2, vI (10 * nd), u4] [] h Q := by
  have o2 := o.2.1
  have xx := x
  obtain ⟨x1, x2, x3, x4, x5, x6, x7, x8⟩ := x
  refine k153_342 c u2 (10 * nd) u4 h Q ⟨by unfold inR; omega, by omega, by omega, fun h57 e57 => ⟨by unfold inR; omega, ?_⟩⟩
  rw [x2] at e57
  -- the state with the place of the name
  have w57 : mS h57 t n p (nd + 1) nc op T C → zK 153 376 [vR 127 111, vI c, u2, vI (10 * nd), u4] [vI b, vR 127 111, vI (10 * nd + 9), vR 134 60140] h57 Q := by
    intro y
    have k389 : zK 153 389 [vR 127 111, vI c, u2, vI (10 * nd), u4] [vI (pmo b), vI b, vR 127 111, vI (10 * nd + 9), vR 134 60140] h57 Q := by
      refine k153_389 _ u2 (10 * nd) u4 _ b (10 * nd + 9) h57 Q (s152 o y hp.1 hp.2 (fun h60 f60 => ⟨fun c1 y60 => ⟨by omega, by omega, fun h61 e61 => ⟨by unfold inR; omega, by omega, by omega, fun h62 e62 => ?_⟩⟩, fun c1 y0 y1 y2 y3 v => ⟨by omega, by omega, fun h61 e61 => ⟨by unfold inR; omega, by omega, by omega, fun h62 e62 => ?_⟩⟩⟩))
      · have z61 : gI h61 127 16 = p + prl t b p := by simp [e61, gS, y60.2.1]
        rw [z61] at e62
        have f62 : frP mA h h62 := by
          rw [e62, e61]
          have F0 : frP mA h h57 := by rw [e57]; exact frP.rf.st (by unfold mA; omega)
          exact ((F0.tr (fA0 f60)).st (by unfold mA; omega)).st (by unfold mA; omega)
        refine (k h62 f62).1 c1 ?_ ?_ ?_
        · have z8 : gI h60 134 (10 * nd + 8) = p := by rw [f60.1 _ _ (by unfold mA0; omega), e57, gS1]
          obtain ⟨q1, q2, q3, q4, q5, q6, q7, q8⟩ := y60
          refine ⟨mBf f62 x1, by simp [e62, e61, gS, q2], by simp [e62, e61, gS, q3], by simp [e62, e61, gS, q4], by simp [e62, e61, gS, q5], ?_, fun i h0 h1 => ?_, fun i h0 h1 => ?_⟩
          · refine mO.cg q6 (by simp [e62, e61, gS]) (by simp [e62, e61, gS]) (by simp [nnam]) (by simp [nnam])
          · have w := q7 i h0 h1
            by_cases ci : i = nd
            · subst ci
              simp [e62, e61, gS, nnam, z8]
              refine ⟨?_, ?_, ?_, ?_, ?_, ?_, ?_⟩
              · rw [if_neg (by omega), if_neg (by omega)]; exact w.1
              · exact w.2.1
              · exact w.2.2.1
              · exact w.2.2.2.1
              · exact w.2.2.2.2.1
              · exact w.2.2.2.2.2.1
              · intro c6; exact absurd hT6 c6
            · have d0 : ∀ j, 0 ≤ j → j < 10 → gI h62 134 (10 * i + j) = gI h60 134 (10 * i + j) := by
                intro j j0 j1
                have d1 : ¬ 10 * i + j = 10 * nd + 9 := by omega
                have d2 : ¬ 10 * i + j = 10 * nd + 5 := by omega
                simp [e62, e61, gS, d1, d2]
              have d00 : gI h62 134 (10 * i) = gI h60 134 (10 * i) := by have := d0 0 (by omega) (by omega); simpa using this
              simp [d00, d0, nnam, ci, w]; exact ⟨w.2.2.2.2.2.2.1, w.2.2.2.2.2.2.2⟩
          · have w := q8 i h0 h1
            simpa [e62, e61, gS] using w
        · rw [e62, gS1]
        · have d1 : ¬ 10 * nd + 6 = 10 * nd + 9 := by omega
          rw [e62, e61]
          simp only [gS, d1, and_false, if_false]
          rw [if_neg (by omega), f60.1 _ _ (by unfold mA0; omega), e57, gS, if_neg (by omega)]
      · have f62 : frP mA h h62 := by
          rw [e62, e61]
          have F0 : frP mA h h57 := by rw [e57]; exact frP.rf.st (by unfold mA; omega)
          exact ((F0.tr (fA0 f60)).st (by unfold mA; omega)).st (by unfold mA; omega)
        exact (k h62 f62).2 c1 (by simp [e62, e61, gS, y2]) (by simp [e62, e61, gS, y3])
    refine k153_376 c u2 (10 * nd) u4 b (10 * nd + 9) h57 Q (s145 ⟨fun c1 => ?_, fun c1 => ?_⟩)
    · rw [b2i_eq0] at c1
      rw [b2i_pos c1] at hb
      rw [hb] at k389 ⊢; exact k389
    · rw [b2i_ne0] at c1
      rw [b2i_neg (fun d => d c1)] at hb
      rw [hb] at k389 ⊢; exact k389
  have y57 : mS h57 t n p (nd + 1) nc op T C := by
    have f57 : frP mA h h57 := by rw [e57]; exact frP.rf.st (by unfold mA; omega)
    refine ⟨mBf f57 x1, by simp [e57, gS, x2], by simp [e57, gS, x3], by simp [e57, gS, x4], by simp [e57, gS, x5], ?_, fun i h0 h1 => ?_, fun i h0 h1 => ?_⟩
    · exact mO.cg x6 (by simp [e57, gS]) (by simp [e57, gS]) (fun _ => rfl) (fun _ => rfl)
    · have w := x7 i h0 h1
      have d0 : ∀ j, 0 ≤ j → j < 10 → ¬ (i = nd ∧ j = 8) → gI h57 134 (10 * i + j) = gI h 134 (10 * i + j) := by
        intro j j0 j1 hne
        have d1 : ¬ 10 * i + j = 10 * nd + 8 := by omega
        simp [e57, gS, d1]
      have d00 : gI h57 134 (10 * i) = gI h 134 (10 * i) := by have := d0 0 (by omega) (by omega) (by omega); simpa using this
      by_cases ci : i = nd
      · subst ci
        simp [d00, d0, hT9, w]; exact w.2.2.2.2.2.2.1
      · simp [d00, d0, ci, w]; exact ⟨w.2.2.2.2.2.2.1, w.2.2.2.2.2.2.2⟩
    · have w := x8 i h0 h1
      simpa [e57, gS] using w
  have w := w57 y57
  refine s145 ⟨fun c1 => ?_, fun c1 => ?_⟩
  · rw [b2i_ne0] at c1
    rw [b2i_neg (fun d => d c1)] at hb
    rw [hb] at w; exact w
  · rw [b2i_ne0] at c1
    rw [b2i_pos c1] at hb
    rw [hb] at w; exact w
/-- the same, where reading has failed before -/
theorem s153f {c : Int} {u2 u4 : zV} (g : gI h 127 18 = 0) (hn : 0 ≤ nd ∧ nd < 60) {Q : Option zV → zH → Prop}
    (k : ∀ h1, frP mA h h1 → gI h1 127 18 = 0 → gI h1 127 17 = gI h 127 17 → Q none h1) : zK 153 342 [vR 127 111, vI c, u2, vI (10 * nd), u4] [] h Q := by
  refine k153_342 c u2 (10 * nd) u4 h Q ⟨by unfold inR; omega, by omega, by omega, fun h57 e57 => ⟨by unfold inR; omega, ?_⟩⟩
  have k389 : ∀ b m : Int, zK 153 389 [vR 127 111, vI c, u2, vI (10 * nd), u4] [vI m, vI b, vR 127 111, vI (10 * nd + 9), vR 134 60140] h57 Q := by
    intro b m
    refine k153_389 _ u2 (10 * nd) u4 m b (10 * nd + 9) h57 Q (s152n (by simp [e57, gS, g]) ⟨by omega, by omega, fun h61 e61 => ⟨by unfold inR; omega, by omega, by omega, fun h62 e62 => ?_⟩⟩)
    refine k h62 ?_ (by simp [e62, e61, e57, gS, g]) (by simp [e62, e61, e57, gS])
    rw [e62, e61, e57]
    exact ((frP.rf.st (by unfold mA; omega)).st (by unfold mA; omega)).st (by unfold mA; omega)
  exact s145 ⟨fun _ => k153_376 c u2 (10 * nd) u4 _ _ h57 Q (s145 ⟨fun _ => k389 _ _, fun _ => k389 _ _⟩), fun _ => k153_376 c u2 (10 * nd) u4 _ _ h57 Q (s145 ⟨fun _ => k389 _ _, fun _ => k389 _ _⟩)⟩
theorem mS.fin {i e s : Int} (x : mS h t n p nd nc op T C) (hs : ¬ s = 0) (e1 : gI h 134 (10 * i + 5) = e) (e2 : gI h 134 (10 * i + 6) = s) : mS h t n p nd nc op (nfin T i e s) C := by
  obtain ⟨x1, x2, x3, x4, x5, x6, x7, x8⟩ := x
  refine ⟨x1, x2, x3, x4, x5, mO.cg x6 (fun _ => rfl) rfl (by simp [nfin]) (by simp [nfin]), fun j h0 h1 => ?_, x8⟩
  have w := x7 j h0 h1
  by_cases c : j = i
  · subst c
    simp [nfin, w, e1, e2]; exact w.2.2.2.2.2.2.2
  · simp [nfin, c, w]; exact ⟨w.2.2.2.2.2.2.1, w.2.2.2.2.2.2.2⟩
/-- a term is opened -/
theorem mO.push {h1 : zH} {T1 : pT} (x : mO h nd op T) (q : pI n p nd nc op T) (e : ∀ k, ¬ k = gI h 127 15 → gI h1 136 k = gI h 136 k) (en : gI h1 136 (gI h 127 15) = nd) (e2 : gI h1 127 15 = gI h 127 15 + 1)
    (e7 : ∀ i, i < nd → T1 i 7 = T i 7) (e1 : ∀ i, i < nd → T1 i 1 = T i 1) (n7 : T1 nd 7 = if op = -1 then 0 else T op 7 + 1) (n1 : T1 nd 1 = op) : mO h1 (nd + 1) nd T1 := by
  obtain ⟨a1, a2, a3, a4, a5, a6, a7, a8, a9, a10⟩ := q
  refine ⟨fun c => by omega, fun _ => ?_⟩
  by_cases c : op = -1
  · have z := x.1 c
    rw [if_pos c] at n7
    rw [n7, e2, z]
    rw [z] at en
    refine ⟨rfl, en, fun k h0 h1 => ?_⟩
    have : k = 0 := by omega
    subst this
    rw [en, n7, n1]
    exact ⟨a3, by omega, rfl, fun _ => c, fun c => absurd c (by omega)⟩
  · have z := x.2 c
    rw [if_neg c] at n7
    rw [z.1] at en e e2
    have r := a10 op (by omega) a8
    unfold pR at r
    rw [n7, e2]
    refine ⟨rfl, en, fun k h0 h1 => ?_⟩
    by_cases ck : k = T op 7 + 1
    · subst ck
      rw [en, n7, n1]
      refine ⟨a3, by omega, rfl, fun d => by omega, fun _ => ?_⟩
      rw [show T op 7 + 1 - 1 = T op 7 by omega, e _ (by omega)]
      exact z.2.1.symm
    · have w := z.2.2 k h0 (by omega)
      rw [e k ck, e7 _ w.2.1, e1 _ w.2.1, e (k - 1) (by omega)]
      exact ⟨w.1, by omega, w.2.2⟩
theorem s153o {u2 u : zV} (o : tOk t n) (x : mS (sI h 127 11 (nd + 1)) t n p (nd + 1) nc op (nadd T nd op p 2) C) (x0 : mO h nd op T) (q : pI n p nd nc op T) (hp : p < n) (hn : ¬ nd = 60) (hd : ¬ op = -1 → ¬ T op 7 + 1 = 16) (g : gI h 127 11 = nd) {Q : Option zV → zH → Prop}
    (k : ∀ h1, mP h t n (popen t nd op p T (ply t n nd 301 (p + 1) nc C)) h1 → Q none h1) : zK 153 266 [vR 127 111, vI 40, u2, vI (10 * nd), u] [] h Q := by
  have o2 := o.2.1
  have hq := q
  obtain ⟨a1, a2, a3, a4, a5, a6, a7, a8, a9, a10⟩ := q
  refine k153_266 40 u2 (10 * nd) u h Q ?_
  rw [g]
  refine ⟨by unfold inR; omega, fun h49 e49 => ⟨fun c => absurd rfl c, fun _ => ?_⟩⟩
  rw [← e49] at x
  obtain ⟨x1, x2, x3, x4, x5, x6, x7, x8⟩ := x
  have hdd : 0 ≤ gI h 127 15 ∧ gI h 127 15 < 16 := by
    by_cases c : op = -1
    · have := x0.1 c; omega
    · have r := a10 op (by omega) a8
      unfold pR at r
      have := (x0.2 c).1
      have := hd c
      have := r.2.2.2.2.2.2.2.2.1 (a9.1 c)
      omega
  have z15 : gI h49 127 15 = gI h 127 15 := by simp [e49, gS]
  rw [x3, z15, show nd + 1 - 1 = nd by omega]
  refine ⟨by unfold inR; omega, by omega, by omega, fun h50 e50 => ?_⟩
  have z50 : gI h50 127 15 = gI h 127 15 := by simp [e50, e49, gS]
  rw [z50]
  refine ⟨by unfold inR; omega, fun h51 e51 => ?_⟩
  have z51 : gI h51 127 16 = p := by simp [e51, e50, gS, x2]
  rw [z51]
  refine ⟨by unfold inR; omega, fun h52 e52 => ?_⟩
  have f52 : frP mA h h52 := by
    rw [e52, e51, e50, e49]
    exact (((frP.rf.st (by unfold mA; omega)).st (by unfold mA; omega)).st (by unfold mA; omega)).st (by unfold mA; omega)
  have t6 : nadd T nd op p 2 nd 6 = 0 := by simp [nadd]
  have t9 : nadd T nd op p 2 nd 9 = 0 := by simp [nadd]
  have t7 : nadd T nd op p 2 nd 7 = if op = -1 then 0 else T op 7 + 1 := by simp [nadd]
  have y52 : mS h52 t n (p + 1) (nd + 1) nc nd (nadd T nd op p 2) C := by
    have f9 : frP mA h49 h52 := by
      rw [e52, e51, e50]
      exact ((frP.rf.st (by unfold mA; omega)).st (by unfold mA; omega)).st (by unfold mA; omega)
    refine ⟨mBf f9 x1, by simp [e52, gS], by simp [e52, e51, e50, gS, x3], by simp [e52, e51, e50, gS, x4], by simp [e52, e51, e50, gS, x5], ?_, fun i h0 h1 => ?_, fun i h0 h1 => ?_⟩
    · refine mO.push x0 hq (fun k hk => by simp [e52, e51, e50, e49, gS, hk]) (by simp [e52, e51, e50, gS]) (by simp [e52, e51, gS]) (fun i hi => ?_) (fun i hi => ?_) t7 (by simp [nadd])
      · have : ¬ i = nd := by omega
        simp [nadd, this]
      · have : ¬ i = nd := by omega
        simp [nadd, this]
    · have w := x7 i h0 h1
      simpa [e52, e51, e50, gS] using w
    · have w := x8 i h0 h1
      simpa [e52, e51, e50, gS] using w
  have h1 := ply_rg o nd 301 (p + 1) nc C (by omega) (by omega) a5 (by omega)
  have qo : ¬ nd = -1 → 0 ≤ nadd T nd op p 2 nd 7 ∧ nadd T nd op p 2 nd 7 ≤ 15 := by
    intro _
    rw [t7]
    by_cases c : op = -1
    · rw [if_pos c]; omega
    · rw [if_neg c]
      have r := a10 op (by omega) a8
      unfold pR at r
      have := hd c
      have := r.2.2.2.2.2.2.2.2.1 (a9.1 c)
      omega
  refine s151 o y52 qo (by omega) (by omega) a5 (by omega) (fun h53 w53 => ?_)
  obtain ⟨f53, g53, b53⟩ := w53
  rcases hz : ply t n nd 301 (p + 1) nc C with ⟨ok, p1, nc1, C1⟩
  rw [hz] at k g53 b53 h1
  dsimp only at h1
  cases ok with
  | false =>
    have b := b53 rfl
    refine ⟨fun _ => s153f b.1 (by omega) (fun h1 f1 g1 g2 => ?_), fun c => absurd b.1 c⟩
    refine k h1 (mP.no ((f52.tr f53).tr f1) ?_ g1 ?_)
    · simp [popen]
    · rw [g2, b.2]; simp [popen]
  | true =>
    have y := g53 rfl
    dsimp only at y
    have yy := y
    obtain ⟨y1, y2, y3, y4, y5, y6, y7, y8⟩ := y
    refine ⟨fun c => absurd c (by omega), fun _ => s149 o y1 (by omega) (s144 ?_)⟩
    rw [y2]
    have hb1 : (1 : Int) = b2i (¬ isD 40) := by rw [b2i_pos (by unfold isD; omega)]
    have e8 : ((pmo 1 : Nat) : Int) = 8 := rfl
    refine ⟨fun c => ?_, fun c => s148 y5 ?_⟩
    · rw [b2i_ne0] at c
      refine s153n o yy t6 t9 (by omega) (by omega) 1 hb1 (fun h1 f1 => ⟨fun c1 w _ _ => ?_, fun c1 w1 w2 => ?_⟩)
      · refine k h1 (mP.ye ((f52.tr f53).tr f1) ?_ ?_)
        · unfold popen; rw [if_pos ⟨rfl, c⟩, if_pos (show prl t 1 p1 ≤ 8 by omega)]
        · unfold popen; rw [if_pos ⟨rfl, c⟩, if_pos (show prl t 1 p1 ≤ 8 by omega)]; exact w
      · refine k h1 (mP.no ((f52.tr f53).tr f1) ?_ w1 ?_)
        · unfold popen; rw [if_pos ⟨rfl, c⟩, if_neg (show ¬ prl t 1 p1 ≤ 8 by omega)]
        · unfold popen; rw [if_pos ⟨rfl, c⟩, if_neg (show ¬ prl t 1 p1 ≤ 8 by omega), w2]; exact congrArg (p1 + ·) e8
    · rw [b2i_ne0] at c
      rw [y2]
      refine s153f (by simp [gS]) (by omega) (fun h1 f1 g1 g2 => ?_)
      refine k h1 (mP.no ((f52.tr f53.wr).tr f1) ?_ g1 ?_)
      · unfold popen; rw [if_neg (fun d => c d.2)]
      · unfold popen; rw [if_neg (fun d => c d.2), g2]; simp [gS]
theorem s153l {b c : Int} {u2 u : zV} (o : tOk t n) (x : mS (sI h 127 11 (nd + 1)) t n p (nd + 1) nc op (nadd T nd op p b) C) (q : pI n p nd nc op T) (hc : ¬ c = 40) (hn : ¬ nd = 60) (g : gI h 127 11 = nd) (g6 : gI h 134 (10 * nd + 6) = 1) (hb : b = b2i (¬ isD c)) {Q : Option zV → zH → Prop}
    (k : ∀ h1, mP h t n (pleaf t p nd nc op T C b) h1 → Q none h1) : zK 153 266 [vR 127 111, vI c, u2, vI (10 * nd), u] [] h Q := by
  have o2 := o.2.1
  obtain ⟨a1, a2, a3, a4, a5, a6, a7, a8, a9, a10⟩ := q
  refine k153_266 c u2 (10 * nd) u h Q ?_
  rw [g]
  refine ⟨by unfold inR; omega, fun h49 e49 => ⟨fun _ => ?_, fun d => absurd hc d⟩⟩
  have f49 : frP mA h h49 := by rw [e49]; exact frP.rf.st (by unfold mA; omega)
  rw [← e49] at x
  have t6 : nadd T nd op p b nd 6 = 0 := by simp [nadd]
  have t9 : nadd T nd op p b nd 9 = 0 := by simp [nadd]
  refine s153n o x t6 t9 (by omega) (by omega) b hb (fun h1 f1 => ⟨fun c1 w w5 w6 => ?_, fun c1 w1 w2 => ?_⟩)
  · have z6 : gI h49 134 (10 * nd + 6) = 1 := by simp [e49, gS, g6]
    refine k h1 (mP.ye (f49.tr f1) ?_ ?_)
    · unfold pleaf; rw [if_pos c1]
    · unfold pleaf; rw [if_pos c1]; exact mS.fin w (by omega) w5 (w6.trans z6)
  · refine k h1 (mP.no (f49.tr f1) ?_ w1 ?_)
    · unfold pleaf; rw [if_neg c1]
    · unfold pleaf; rw [if_neg c1]; exact w2
theorem s153 (o : tOk t n) (x : mS h t n p nd nc op T C) (q : pI n p nd nc op T) {K : zH → Prop}
    (k : ∀ h1, mP h t n (pnode t n p nd nc op T C) h1 → K h1) : zC0 153 [vR 127 111] h K := by
  have q0 := q
  obtain ⟨a1, a2, a3, a4, a5, a6, a7, a8, a9, a10⟩ := q
  have xx := x
  obtain ⟨x1, x2, x3, x4, x5, x6, x7, x8⟩ := x
  have hop : ¬ op = -1 → gI h 127 15 = T op 7 + 1 ∧ gI h 136 (T op 7) = op ∧ 0 ≤ T op 7 ∧ T op 7 ≤ 15 ∧ 0 ≤ T op 3 ∧ T op 3 ≤ 12 ∧ gI h 134 (10 * op + 3) = T op 3 := by
    intro c
    have r := a10 op (by omega) a8
    unfold pR at r
    have z := x6.2 c
    have y := x7 op (by omega) a8
    have := r.2.2.2.2.2.2.2.2.1 (a9.1 c)
    exact ⟨z.1, z.2.1, by omega, by omega, by omega, by omega, y.2.2.2.1⟩
  have bad : pbad t p nd op T → zC0 148 [vR 127 111] h (fun h1 => (none : Option zV) = none ∧ K h1) := by
    intro c
    have en : pnode t n p nd nc op T C = (false, p, nd, nc, op, T, C) := by unfold pnode; rw [if_pos c]
    refine s148 x5 (zq0 (k _ (mP.no frP.rf.wr ?_ ?_ ?_)))
    · rw [en]
    · simp [gS]
    · rw [en]; simp [gS, x2]
  have k97 : ∀ u2 u3 u4, ¬ pbad t p nd op T → zK 153 97 [vR 127 111, vI (t p), u2, u3, u4] [] h (fun r h1 => r = none ∧ K h1) := by
    intro u2 u3 u4 hc
    have hpn := o.lt (i := p) (by intro c; apply hc; left; unfold isL isD; omega)
    have hn : ¬ nd = 60 := by omega
    refine s153a xx q0 hn rfl (fun h1 u f1 g1 g6 y0 y => ?_)
    by_cases c : t p = 40
    · have en : pnode t n p nd nc op T C = popen t nd op p T (ply t n nd 301 (p + 1) nc C) := by unfold pnode; rw [if_neg hc, if_pos c]
      rw [en] at k
      have hk : (if isD (t p) then (0 : Int) else if isL (t p) then 1 else 2) = 2 := by rw [if_neg (by omega), if_neg (by omega)]
      rw [hk] at y
      rw [c]
      exact s153o o y y0 q0 hpn.2 hn (fun d => by omega) g1 (fun h2 w => zq0 (k h2 (mP.tr f1 w)))
    · have en : pnode t n p nd nc op T C = pleaf t p nd nc op T C (if isL (t p) then 1 else 0) := by unfold pnode; rw [if_neg hc, if_neg c]
      have hb : (if isL (t p) then (1 : Int) else 0) = b2i (¬ isD (t p)) := by
        by_cases d : isL (t p)
        · rw [if_pos d, b2i_pos (by omega)]
        · rw [if_neg d, b2i_neg (fun e => hc (Or.inl ⟨c, d, e⟩))]
      have hk : (if isD (t p) then (0 : Int) else if isL (t p) then 1 else 2) = (if isL (t p) then (1 : Int) else 0) := by
        by_cases d : isL (t p)
        · rw [if_neg (by omega), if_pos d, if_pos d]
        · rw [if_pos (Classical.byContradiction fun e => hc (Or.inl ⟨c, d, e⟩)), if_neg d]
      rw [en] at k
      rw [hk] at y
      exact s153l o y q0 c hn g1 g6 hb (fun h2 w => zq0 (k h2 (mP.tr f1 w)))
  have k77 : ∀ u2 u3 u4, (t p = 40 ∨ isL (t p) ∨ isD (t p)) → ¬ nd = 60 → (¬ op = -1 → ¬ 12 ≤ T op 3) → zK 153 77 [vR 127 111, vI (t p), u2, u3, u4] [] h (fun r h1 => r = none ∧ K h1) := by
    intro u2 u3 u4 c1 c2 c3
    refine k153_77 (t p) u2 u3 u4 h _ ⟨fun c => k97 _ _ _ ?_, fun c => ⟨fun d => k97 _ _ _ ?_, fun d => bad ?_⟩⟩
    · unfold isL isD at c1; unfold pbad isL isD; omega
    · by_cases e : op = -1
      · unfold isL isD at c1; unfold pbad isL isD; omega
      · have := hop e; unfold isL isD at c1; unfold pbad isL isD; omega
    · by_cases e : op = -1
      · have := x6.1 e; omega
      · have := hop e; unfold pbad isL isD; omega
  have k30 : ∀ u2 u3 u4 s0, s0 = b2i (t p = 40 ∨ isL (t p) ∨ isD (t p)) → zK 153 30 [vR 127 111, vI (t p), u2, u3, u4] [vI s0] h (fun r h1 => r = none ∧ K h1) := by
    intro u2 u3 u4 s0 e0
    refine k153_30 (t p) u2 u3 u4 s0 h _ ⟨fun c => bad ?_, fun c => ?_⟩
    · rw [e0, b2i_eq0] at c; left; omega
    · rw [e0, b2i_ne0] at c
      rw [x3]
      refine ⟨fun d => bad (Or.inr (Or.inl d)), fun d => ⟨fun e => k77 _ _ _ c d (fun f => ?_), fun e => ?_⟩⟩
      · have := hop f; omega
      · have f : ¬ op = -1 := fun g => e (by have := x6.1 g; omega)
        have z := hop f
        rw [z.1, show T op 7 + 1 - 1 = T op 7 by omega, z.2.1, z.2.2.2.2.2.2]
        refine ⟨by unfold inR; omega, by omega, by omega, by unfold inR; omega, by unfold inR; omega, by omega, by omega, fun g => bad (Or.inr (Or.inr ⟨f, Or.inl (by omega)⟩)), fun g => k77 _ _ _ c d (fun _ => by omega)⟩
  refine cV (k153_0 h _ (s149 o x1 (by omega) (s144 ?_)))
  rw [x2]
  refine ⟨fun c => k153_25 _ _ _ _ h _ (k30 _ _ _ 1 ?_), fun c => s145 ⟨fun d => k153_25 _ _ _ _ h _ (k30 _ _ _ 1 ?_), fun d => ⟨fun e => k30 _ _ _ 0 ?_, fun e => k153_25 _ _ _ _ h _ (k30 _ _ _ 1 ?_)⟩⟩⟩
  · rw [b2i_ne0] at c; rw [b2i_pos (Or.inr (Or.inl c))]
  · rw [b2i_ne0] at d; rw [b2i_pos (Or.inr (Or.inr d))]
  · rw [b2i_ne0] at c d; rw [b2i_neg (by omega)]
  · rw [b2i_pos (Or.inl (by omega))]
end MS
