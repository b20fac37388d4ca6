/-! The class: reading a source. -/
def srA (a b : Nat) (k : Int) : Prop := (b = a ∧ 14 ≤ k ∧ k ≤ 17) ∨ (a + 3 ≤ b ∧ b < a + 16)
def xT (h : zH) (a : Nat) (nd : Int) (T : pT) : Prop := ∀ i, 0 ≤ i → i < nd → gI h (a + 3) i = T i 0 ∧ gI h (a + 4) i = T i 1 ∧ gI h (a + 5) i = T i 2 ∧ gI h (a + 6) i = T i 3 ∧ gI h (a + 7) i = T i 4 ∧ gI h (a + 10) i = T i 7 ∧
  (¬ T i 6 = 0 → gI h (a + 8) i = T i 5 ∧ gI h (a + 9) i = T i 6) ∧ (¬ T i 9 = 0 → gI h (a + 11) i = T i 8 ∧ gI h (a + 12) i = T i 9)
def xC (h : zH) (a : Nat) (nc : Int) (C : pT) : Prop := ∀ i, 0 ≤ i → i < nc → gI h (a + 13) i = C i 0 ∧ gI h (a + 14) i = C i 1 ∧ gI h (a + 15) i = C i 2
def xS (h : zH) (a : Nat) (t : Int → Int) (n p nd nc op : Int) (T C : pT) : Prop := Txt h (a + 1) t n ∧ gI h a 16 = p ∧ gI h a 14 = nd ∧ gI h a 15 = nc ∧ gI h a 17 = op ∧ xT h a nd T ∧ xC h a nc C
theorem txS {a : Nat} {h h1 : zH} {t : Int → Int} {n : Int} (f : frP (srA a) h h1) (x : Txt h (a + 1) t n) : Txt h1 (a + 1) t n := x.fr f (fun k => by unfold srA; omega)
section XS
variable {a : Nat} {h : zH} {t : Int → Int} {n p nd nc op : Int} {T C : pT}
theorem s57 {i : Int} {K : Int → zH → Prop} (hi : 0 ≤ i ∧ i < 60) (hn : 0 ≤ gI h a 14 ∧ gI h a 14 ≤ 60) (k : K 1 (sI (sI h (a + 8) i (gI h a 16)) (a + 9) i (gI h a 14 - i))) : zC1 57 [vR a 102, vI i] h K := by
  refine cI (k57_0 a i h _ ⟨hi.1, hi.2, fun h3 e3 => ?_⟩)
  have e : gI h3 a 14 = gI h a 14 := by rw [e3, gS, if_neg (by omega)]
  refine ⟨by unfold inR; omega, hi.1, hi.2, fun h4 e4 => ⟨Or.inr rfl, zq1 ?_⟩⟩
  rw [e4, e, e3]; exact k
theorem s60 {e : Int} {K : zH → Prop} (x : xS h a t n p nd nc op T C) (hc : 0 ≤ nc ∧ nc < 150) (hp : 0 ≤ p ∧ p ≤ 300 ∧ 0 ≤ e ∧ e ≤ 301) (k : ∀ h1, frP (srA a) h h1 → xS h1 a t n e nd (nc + 1) op T (cadd C nc p (e - p) op) → K h1) : zC0 60 [vR a 102, vI e] h K := by
  obtain ⟨x1, x2, x3, x4, x5, x6, x7⟩ := x
  refine cV (k60_0 a e h _ ⟨fun q => absurd q (by omega), fun q => ⟨by omega, by omega, fun h8 e8 => ?_⟩⟩)
  have y8 : gI h8 a 16 = p ∧ gI h8 a 15 = nc := by simp [e8, gS, x2, x4]
  refine ⟨by unfold inR; omega, by omega, by omega, fun h9 e9 => ?_⟩
  have y9 : gI h9 a 15 = nc ∧ gI h9 a 17 = op := by simp [e9, e8, gS, x4, x5]
  refine ⟨by omega, by omega, fun h10 e10 => ?_⟩
  have y10 : gI h10 a 15 = nc := by simp [e10, e9, e8, gS, x4]
  refine ⟨by unfold inR; omega, fun h11 e11 h12 e12 => zq0 ?_⟩
  rw [y8.1, y8.2] at e9
  rw [y9.1, y9.2] at e10
  rw [y10] at e11
  rw [x4, x2] at e8
  subst e12 e11 e10 e9 e8
  have f : frP (srA a) h (sI (sI (sI (sI (sI h (a + 13) nc p) (a + 14) nc (e - p)) (a + 15) nc op) a 15 (nc + 1)) a 16 e) :=
    ((((frP.rf.st (by unfold srA; omega)).st (by unfold srA; omega)).st (by unfold srA; omega)).st (by unfold srA; omega)).st (by unfold srA; omega)
  refine k _ f ⟨txS f x1, by simp [gS], by simp [gS, x3], by simp [gS], by simp [gS, x5], fun i h0 h1 => ?_, fun i h0 h1 => ?_⟩
  · have := x6 i h0 h1
    simpa [gS] using this
  · have := x7 i h0
    by_cases c : i = nc
    · simp [gS, cadd, c]
    · simp [gS, cadd, c, this (by omega)]
theorem xS.at {v : Int} (x : xS h a t n p nd nc op T C) : xS (sI h a 16 v) a t n v nd nc op T C ∧ frP (srA a) h (sI h a 16 v) := by
  obtain ⟨x1, x2, x3, x4, x5, x6, x7⟩ := x
  have f : frP (srA a) h (sI h a 16 v) := frP.rf.st (by unfold srA; omega)
  refine ⟨⟨txS f x1, by simp [gS], by simp [gS, x3], by simp [gS, x4], by simp [gS, x5], fun i h0 h1 => ?_, fun i h0 h1 => ?_⟩, f⟩
  · have := x6 i h0 h1; simpa [gS] using this
  · have := x7 i h0 h1; simpa [gS] using this
theorem s59l {E : Int} (o : tOk t n) (x : xS h a t n p nd nc op T C) (hc : 0 ≤ nc ∧ nc < 150) (hp : 0 ≤ p ∧ p < n) {Q : Option zV → zH → Prop}
    (k : ∀ v h1 e, frP (srA a) h h1 → gI h1 a 16 = (if t e = 93 then e + 1 else e) → v = b2i (t e = 93) → e = E → (t e = 93 → xS h1 a t n (e + 1) nd (nc + 1) op T (cadd C nc p (e + 1 - p) op)) → Q (some (vI v)) h1) :
    ∀ (f : Nat) (z : Int) (u : zV), p < z → z ≤ n → n - z = f → pcm t f z = E → zK 59 7 [vR a 102, vI z, u] [] h Q := by
  have o2 := o.2.1
  have xx := x
  obtain ⟨⟨w1, w2, w3⟩, x2, x3, x4, x5, x6, x7⟩ := x
  intro f
  induction f with
  | zero =>
    intro z u h0 h1 hf e
    have e2 : t z = -1 := o.ge (by omega)
    refine k59_7 a z u h Q ⟨fun q h5 e5 => ⟨Or.inl rfl, ?_⟩, fun q => absurd q (by omega)⟩
    refine k 0 h5 z ?_ ?_ (by rw [b2i_neg (by omega)]) e (by omega)
    · rw [e5]; exact (xS.at xx).2
    · rw [e5, gS1, if_neg (by omega)]; omega
  | succ f ih =>
    intro z u h0 h1 hf e
    have ez := w3 z (by omega) (by omega)
    unfold pcm at e
    refine k59_7 a z u h Q ⟨fun q => absurd q (by omega), fun q => ⟨by omega, by omega, fun q2 => ?_, fun q2 => ⟨by unfold inR; omega, ?_⟩⟩⟩
    · rw [ez] at q2 ⊢
      refine ⟨fun q3 => ⟨by unfold inR; omega, ih _ _ (by omega) (by omega) (by omega) ?_⟩, fun q3 => ⟨fun q4 h6 e6 => ⟨Or.inl rfl, ?_⟩, fun q4 => ⟨fun q5 => ⟨by unfold inR; omega, ih _ _ (by omega) (by omega) (by omega) ?_⟩, fun q5 h6 e6 => ⟨Or.inl rfl, ?_⟩⟩⟩⟩
      · rwa [if_pos (by omega)] at e
      · rw [if_neg (by omega)] at e
        refine k 0 h6 z ?_ ?_ (by rw [b2i_neg (by omega)]) e (by omega)
        · rw [e6]; exact (xS.at xx).2
        · rw [e6, gS1, if_neg (by omega)]
      · rwa [if_pos (by omega)] at e
      · rw [if_neg (by omega)] at e
        refine k 0 h6 z ?_ ?_ (by rw [b2i_neg (by omega)]) e (by omega)
        · rw [e6]; exact (xS.at xx).2
        · rw [e6, gS1, if_neg (by omega)]
    · rw [ez] at q2
      rw [if_neg (by omega)] at e
      refine s60 xx hc (by omega) (fun h1 f1 x1 => ⟨Or.inr rfl, ?_⟩)
      have q3 : t z = 93 := by omega
      exact k 1 h1 z f1 (by rw [if_pos q3]; exact x1.2.1) (by rw [b2i_pos q3]) e (fun _ => x1)
theorem s59 (o : tOk t n) (x : xS h a t n p nd nc op T C) (hc : 0 ≤ nc ∧ nc < 150) (hp : 0 ≤ p ∧ p < n) {K : Int → zH → Prop}
    (k : ∀ v h1 e, frP (srA a) h h1 → gI h1 a 16 = (if t e = 93 then e + 1 else e) → v = b2i (t e = 93) → e = pcm t (n - (p + 1)).toNat (p + 1) → (t e = 93 → xS h1 a t n (e + 1) nd (nc + 1) op T (cadd C nc p (e + 1 - p) op)) → K v h1) : zC1 59 [vR a 102] h K := by
  have o2 := o.2.1
  have x2 := x.2.1
  refine cI (k59_0 a h _ ⟨by unfold inR; omega, ?_⟩)
  rw [x2]
  exact s59l o x hc hp (fun v h1 e b1 b2 b3 b4 b5 => zq1 (k v h1 e b1 b2 b3 b4 b5)) (n - (p + 1)).toNat (p + 1) _ (by omega) (by omega) (by omega) rfl
theorem s58l (o : tOk t n) {Q : Option zV → zH → Prop} : ∀ (f : Nat) (h : zH) (p nc : Int) (C : pT) (z : Int) (u : zV), xS h a t n p nd nc op T C → 0 ≤ p → p ≤ n → 0 ≤ nc → 2 * nc ≤ p → z + f = 301 → 0 ≤ z →
    (∀ v h1, frP (srA a) h h1 → gI h1 a 16 = (ply t n op f p nc C).2.1 → v = b2i ((ply t n op f p nc C).1 = true) → ((ply t n op f p nc C).1 = true → xS h1 a t n (ply t n op f p nc C).2.1 nd (ply t n op f p nc C).2.2.1 op T (ply t n op f p nc C).2.2.2) → Q (some (vI v)) h1) →
    zK 58 2 [vR a 102, vI z, u] [] h Q := by
  have o2 := o.2.1
  intro f
  induction f with
  | zero =>
    intro h p nc C z u x h0 h1 h2 h3 hz hz0 k
    refine k58_2 a z u h Q ⟨fun q => ⟨Or.inr rfl, ?_⟩, fun q => absurd q (by omega)⟩
    exact k 1 h frP.rf x.2.1 (by rw [b2i_pos]; rfl) (fun _ => x)
  | succ f ih =>
    intro h p nc C z u x h0 h1 h2 h3 hz hz0 k
    have x2 := x.2.1
    unfold ply at k
    refine k58_2 a z u h Q ⟨fun q => absurd q (by omega), fun q => ?_⟩
    rw [x2]
    refine s44 x.1 o ⟨fun q1 => ⟨by unfold inR; omega, fun h6 e6 => ⟨by unfold inR; omega, ?_⟩⟩, fun q1 => ⟨fun q2 => ⟨fun q3 => ?_, fun q3 => ⟨Or.inr rfl, ?_⟩⟩, fun q2 => ⟨by unfold inR; omega, fun h8 e8 => ⟨by unfold inR; omega, ?_⟩⟩⟩⟩
    · rw [if_pos (Or.inl q1)] at k
      have := o.lt (i := p) (by omega)
      have xa := xS.at (v := p + 1) x
      rw [x2] at e6
      rw [← e6] at xa
      exact ih h6 (p + 1) nc C (z + 1) _ xa.1 (by omega) (by omega) h2 (by omega) (by omega) (by omega) (fun v h1 f1 => k v h1 (xa.2.tr f1))
    · rw [if_neg (by omega), if_pos q3] at k
      have := o.lt (i := p) (by omega)
      refine s59 o x (by omega) (by omega) (fun v h7 e f7 g7 ev ee x7 => ?_)
      have hr := pcm_rg o (n - (p + 1)).toNat (p + 1) (by omega) (by omega)
      rw [← ee] at hr k
      by_cases c : t e = 93
      · rw [if_pos c] at k
        have := o.lt (i := e) (by omega)
        refine ⟨fun q4 => ⟨by unfold inR; omega, ?_⟩, fun q4 => absurd (by rw [ev, b2i_pos c]; omega) q4⟩
        exact ih h7 (e + 1) (nc + 1) _ (z + 1) _ (x7 c) (by omega) (by omega) (by omega) (by omega) (by omega) (by omega) (fun v h1 f1 => k v h1 (f7.tr f1))
      · rw [if_neg c] at k
        refine ⟨fun q4 => absurd (by rw [ev, b2i_neg c]) q4, fun q4 => ⟨Or.inl rfl, ?_⟩⟩
        rw [if_neg c] at g7
        exact k 0 h7 f7 g7 (by rw [b2i_neg]; simp) (by simp)
    · rw [if_neg (by omega), if_neg q3] at k
      exact k 1 h frP.rf x2 (by rw [b2i_pos]; rfl) (fun _ => x)
    · rw [if_pos (by omega)] at k
      have := o.lt (i := p) (by omega)
      have xa := xS.at (v := p + 1) x
      rw [x2] at e8
      rw [← e8] at xa
      exact ih h8 (p + 1) nc C (z + 1) _ xa.1 (by omega) (by omega) h2 (by omega) (by omega) (by omega) (fun v h1 f1 => k v h1 (xa.2.tr f1))
theorem s58 (o : tOk t n) (x : xS h a t n p nd nc op T C) (h0 : 0 ≤ p) (h1 : p ≤ n) (h2 : 0 ≤ nc) (h3 : 2 * nc ≤ p) {K : Int → zH → Prop}
    (k : ∀ v h1, frP (srA a) h h1 → gI h1 a 16 = (ply t n op 301 p nc C).2.1 → v = b2i ((ply t n op 301 p nc C).1 = true) → ((ply t n op 301 p nc C).1 = true → xS h1 a t n (ply t n op 301 p nc C).2.1 nd (ply t n op 301 p nc C).2.2.1 op T (ply t n op 301 p nc C).2.2.2) → K v h1) : zC1 58 [vR a 102] h K :=
  cI (k58_0 a h _ (s58l o 301 h p nc C 0 _ x h0 h1 h2 h3 (by omega) (by omega) (fun v h1 b1 b2 b3 b4 => zq1 (k v h1 b1 b2 b3 b4))))
end XS
