/-! The model: reading a rule. -/
def mY (h : zH) (t : Int → Int) (n p : Int) : Prop := mB h t n ∧ gI h 127 16 = p ∧ gI h 127 18 = 1
/-- reading has failed -/
def bd (h : zH) : Prop := gI h 127 18 = 0 ∧ 0 ≤ gI h 127 16 ∧ gI h 127 16 ≤ 300
section MY
variable {h : zH} {t : Int → Int} {n p : Int}
theorem mY.at {v : Int} (x : mY h t n p) : mY (sI h 127 16 v) t n v ∧ frP mA0 h (sI h 127 16 v) := by
  have f : frP mA0 h (sI h 127 16 v) := frP.rf.st (by unfold mA0; omega)
  exact ⟨⟨mBf (fA0 f) x.1, gS1, by rw [gS, if_neg (by omega)]; exact x.2.2⟩, f⟩
theorem s152y {b p0 : Int} {m : Nat} (o : tOk t n) (hm : m ≤ 8) {Q : Option zV → zH → Prop} : ∀ (f : Nat) (h : zH) (z : Int), mY h t n z → 0 ≤ p0 → p0 ≤ z → z ≤ n → z - p0 + f = m →
    (∀ h1, frP mA0 h h1 → (rowL t b (f + 1) z ≤ f → mY h1 t n (z + rowL t b (f + 1) z) → Q (some (vI (z + rowL t b (f + 1) z - p0))) h1) ∧
      (¬ rowL t b (f + 1) z ≤ f → bd h1 → gI h1 127 17 = p0 + m → ∀ v, Q (some (vI v)) h1)) → zK 152 5 [vR 127 111, vI b, vI m, vI p0] [] h Q := by
  have o2 := o.2.1
  have stop : ∀ (f : Nat) (h : zH) (z : Int), mY h t n z → 0 ≤ p0 → p0 ≤ z → z ≤ n → (∀ h1, frP mA0 h h1 → (rowL t b (f + 1) z ≤ f → mY h1 t n (z + rowL t b (f + 1) z) → Q (some (vI (z + rowL t b (f + 1) z - p0))) h1) ∧
      (¬ rowL t b (f + 1) z ≤ f → bd h1 → gI h1 127 17 = p0 + m → ∀ v, Q (some (vI v)) h1)) → ¬ isP b (t z) → inR (gI h 127 16 - p0) ∧ Q (some (vI (gI h 127 16 - p0))) h := by
    intro f h z x h0 h1 h2 k c
    rw [x.2.1]
    refine ⟨by unfold inR; omega, ?_⟩
    have e : rowL t b (f + 1) z = 0 := by unfold rowL; rw [if_neg c]
    have w := (k h frP.rf).1 (by omega) (by rw [e, Int.add_zero]; exact x)
    rwa [e, Int.add_zero] at w
  intro f
  induction f with
  | zero =>
    intro h z x h0 h1 h2 hf k
    have xx := x
    obtain ⟨x1, x2, x5⟩ := x
    have go : isP b (t z) → zK 152 39 [vR 127 111, vI b, vI m, vI p0] [] h Q := by
      intro c
      refine k152_39 b m p0 h Q ?_
      rw [x2]
      refine ⟨by unfold inR; omega, fun c1 => absurd (by omega) c1, fun _ => s148 x5 ?_⟩
      rw [x2]
      refine k152_5 b m p0 _ Q ⟨fun _ => ?_, fun c => absurd (by simp [gS]) c⟩
      have e : rowL t b (0 + 1) z = 1 := by unfold rowL; rw [if_pos c]; rfl
      have F : frP mA0 h (sI (sI h 127 17 z) 127 18 0) := frP.rf.wr0
      have w := (k _ F).2 (by omega) ⟨by simp [gS], by simp [gS, x2]; omega, by simp [gS, x2]; omega⟩ (by simp [gS]; omega)
      exact ⟨by simp [gS, x2]; unfold inR; omega, w _⟩
    refine k152_5 b m p0 h Q ⟨fun c => absurd c (by omega), fun _ => ⟨fun c => s149 o x1 (by omega) (s145 ⟨fun c2 => ?_, fun c2 => ?_⟩), fun c => s149 o x1 (by omega) (s144 ⟨fun c2 => ?_, fun c2 => ?_⟩)⟩⟩
    · rw [x2, b2i_eq0] at c2
      exact stop 0 h z xx h0 h1 h2 k (by omega)
    · rw [x2, b2i_ne0] at c2; exact go (by omega)
    · rw [x2, b2i_eq0] at c2
      exact stop 0 h z xx h0 h1 h2 k (by omega)
    · rw [x2, b2i_ne0] at c2; exact go (by omega)
  | succ f ih =>
    intro h z x h0 h1 h2 hf k
    have xx := x
    obtain ⟨x1, x2, x5⟩ := x
    have go : isP b (t z) → zK 152 39 [vR 127 111, vI b, vI m, vI p0] [] h Q := by
      intro c
      have := o.lt (i := z) (by intro c1; rw [c1] at c; unfold isP isD isL at c; omega)
      refine k152_39 b m p0 h Q ?_
      rw [x2]
      refine ⟨by unfold inR; omega, fun c1 => ⟨by unfold inR; omega, fun h11 e11 => ?_⟩, fun c1 => absurd (by omega) c1⟩
      have w := mY.at (v := z + 1) xx
      rw [← e11] at w
      have e : rowL t b (f + 1 + 1) z = 1 + rowL t b (f + 1) (z + 1) := by rw [rowL, if_pos c]
      refine ih h11 (z + 1) w.1 h0 (by omega) (by omega) (by omega) (fun h1 f1 => ?_)
      have kk := k h1 (w.2.tr f1)
      rw [e] at kk
      rw [show z + 1 + rowL t b (f + 1) (z + 1) = z + (1 + rowL t b (f + 1) (z + 1)) by omega]
      exact ⟨fun c => kk.1 (by omega), fun c => kk.2 (by omega)⟩
    refine k152_5 b m p0 h Q ⟨fun c => absurd c (by omega), fun _ => ⟨fun c => s149 o x1 (by omega) (s145 ⟨fun c2 => ?_, fun c2 => ?_⟩), fun c => s149 o x1 (by omega) (s144 ⟨fun c2 => ?_, fun c2 => ?_⟩)⟩⟩
    · rw [x2, b2i_eq0] at c2
      exact stop (f + 1) h z xx h0 h1 h2 k (by omega)
    · rw [x2, b2i_ne0] at c2; exact go (by omega)
    · rw [x2, b2i_eq0] at c2
      exact stop (f + 1) h z xx h0 h1 h2 k (by omega)
    · rw [x2, b2i_ne0] at c2; exact go (by omega)
theorem s152r (b m : Int) (hm : m = pmo b) (o : tOk t n) (x : mY h t n p) (h0 : 0 ≤ p) (h1 : p ≤ n) {K : Int → zH → Prop}
    (k : ∀ h1, frP mA0 h h1 → (prl t b p ≤ pmo b → mY h1 t n (p + prl t b p) → K (prl t b p) h1) ∧ (¬ prl t b p ≤ pmo b → bd h1 → gI h1 127 17 = p + pmo b → ∀ v, K v h1)) : zC1 152 [vR 127 111, vI b, vI m] h K := by
  have hm8 : pmo b ≤ 8 := by unfold pmo; split <;> omega
  rw [hm]
  refine cI (k152_0 b (pmo b) h _ ?_)
  rw [x.2.1]
  refine s152y o hm8 (pmo b) h p x h0 (by omega) h1 (by omega) (fun h1 f1 => ?_)
  have w := k h1 f1
  unfold prl at w
  refine ⟨fun c y => zq1 ?_, fun c y2 y3 v => zq1 (w.2 c y2 y3 v)⟩
  rw [show p + rowL t b (pmo b + 1) p - p = rowL t b (pmo b + 1) p by omega]
  exact w.1 c y
theorem s163y (o : tOk t n) {Q : Option zV → zH → Prop} : ∀ (f : Nat) (h : zH) (p : Int), mY h t n p → 0 ≤ p → p ≤ n → n < f + p → (∀ h1, frP mA0 h h1 → mY h1 t n (pbl t f p) → Q (some (vI (t (pbl t f p)))) h1) → zK 163 0 [vR 127 111] [] h Q := by
  have o2 := o.2.1
  intro f
  induction f with
  | zero => intro h p x h0 h1 h2; omega
  | succ f ih =>
    intro h p x h0 h1 h2 k
    have x2 := x.2.1
    unfold pbl at k
    refine k163_0 h Q (s149 o x.1 (by omega) ?_)
    rw [x2]
    refine ⟨fun c => s149 o x.1 (by omega) ?_, fun c => ⟨by unfold inR; omega, fun h6 e6 => ?_⟩⟩
    · rw [x2]
      rw [if_neg c] at k
      exact k h frP.rf x
    · rw [if_pos (by omega)] at k
      have := o.lt (i := p) (by omega)
      have w := mY.at (v := p + 1) x
      rw [← e6] at w
      exact ih h6 (p + 1) w.1 (by omega) (by omega) (by omega) (fun h1 f1 y => k h1 (w.2.tr f1) y)
theorem s163 (o : tOk t n) (x : mY h t n p) (h0 : 0 ≤ p) (h1 : p ≤ n) {K : Int → zH → Prop} (k : ∀ h1, frP mA0 h h1 → mY h1 t n (pbl t 301 p) → K (t (pbl t 301 p)) h1) : zC1 163 [vR 127 111] h K := by
  have o2 := o.2.1
  exact cI (s163y o 301 h p x h0 h1 (by omega) (fun h1 f1 y => zq1 (k h1 f1 y)))
end MY
def rmA (sd : Int) (b : Nat) (k : Int) : Prop := (b = 127 ∧ (k = 15 ∨ k = 16 ∨ k = 17 ∨ k = 18 ∨ k = 27 ∨ k = 28 ∨ k = 29 ∨ k = 32 ∨ k = 33)) ∨ b = 143 ∨ b = 144 ∨ (b = 141 ∧ 246 * sd ≤ k ∧ k < 246 * sd + 246) ∨ (b = 142 ∧ k = sd)
theorem fR0 {sd : Int} {h h1 : zH} (f : frP mA0 h h1) : frP (rmA sd) h h1 := f.mo (fun b k q => by unfold mA0 at q; unfold rmA; omega)
/-- tokens, letters, open terms -/
def mQ0 (h : zH) (sd b0 : Int) (s : pS) : Prop := gI h 127 27 = s 0 0 1 - b0 ∧ gI h 127 32 = sd ∧ (∀ l, 0 ≤ l → l < 26 → gI h 143 l = s 5 l 0) ∧ gI h 142 sd = s 0 0 (kid sd) ∧
  (∀ k (j : Nat), 0 ≤ k → k < s 0 0 (kid sd) → j < 6 → gI h 141 (246 * sd + 6 * k + j) = s (kid sd) k j) ∧ gI h 127 15 = s 0 0 6 ∧ (∀ k, 0 ≤ k → k < s 0 0 6 → gI h 144 k = 246 * sd + 6 * s 4 (s 6 k 0) 0)
section MQ
variable {h : zH} {sd b0 : Int} {t : Int → Int} {n : Int} {s : pS}
theorem mQ0.f0 {h1 : zH} (x : mQ0 h sd b0 s) (f : frP mA0 h h1) : mQ0 h1 sd b0 s := by
  obtain ⟨x1, x2, x3, x4, x5, x6, x7⟩ := x
  have g : ∀ b k, ¬ (b = 127 ∧ (k = 16 ∨ k = 17 ∨ k = 18)) → gI h1 b k = gI h b k := fun b k c => f.1 b k (by unfold mA0; omega)
  refine ⟨by rw [g _ _ (by omega)]; exact x1, by rw [g _ _ (by omega)]; exact x2, fun l h0 h1 => by rw [g _ _ (by omega)]; exact x3 l h0 h1, by rw [g _ _ (by omega)]; exact x4, fun k j h0 h1 h2 => by rw [g _ _ (by omega)]; exact x5 k j h0 h1 h2, by rw [g _ _ (by omega)]; exact x6, fun k h0 h1 => by rw [g _ _ (by omega)]; exact x7 k h0 h1⟩
theorem mQ0.cg {s' : pS} (x : mQ0 h sd b0 s) (e0 : s' 0 0 1 = s 0 0 1 ∧ s' 0 0 (kid sd) = s 0 0 (kid sd) ∧ s' 0 0 6 = s 0 0 6) (e5 : ∀ l, s' 5 l 0 = s 5 l 0) (ek : ∀ k j, s' (kid sd) k j = s (kid sd) k j) (e6 : ∀ k, s' 6 k 0 = s 6 k 0) (e4 : ∀ i, s' 4 i 0 = s 4 i 0) : mQ0 h sd b0 s' := by
  obtain ⟨x1, x2, x3, x4, x5, x6, x7⟩ := x
  refine ⟨by rw [e0.1]; exact x1, x2, fun l h0 h1 => by rw [e5]; exact x3 l h0 h1, by rw [e0.2.1]; exact x4, fun k j h0 h1 h2 => ?_, by rw [e0.2.2]; exact x6, fun k h0 h1 => ?_⟩
  · rw [e0.2.1] at h1; rw [ek]; exact x5 k j h0 h1 h2
  · rw [e0.2.2] at h1; rw [e6, e4]; exact x7 k h0 h1
/-- a token is put -/
theorem rput_v {w a b f l k : Int} {j : Nat} (hj : j < 6) : rput s sd w a b f l (kid sd) k j = if k = s 0 0 (kid sd) then (if j = 0 then w else if j = 1 then a else if j = 2 then b else if j = 3 then f else if j = 4 then l else 0) else s (kid sd) k j := by
  have kn := kidn sd
  unfold rput
  simp only [upE]
  rw [if_neg (by omega)]
  by_cases c : k = s 0 0 (kid sd)
  · rw [if_pos c]
    rcases (show j = 0 ∨ j = 1 ∨ j = 2 ∨ j = 3 ∨ j = 4 ∨ j = 5 by omega) with e | e | e | e | e | e <;> subst e <;> simp [c]
  · rw [if_neg c]; simp [c]
theorem s164 {w a b : Int} (x : mQ0 h sd b0 s) (hsd : sd = 0 ∨ sd = 1) (hk : 0 ≤ s 0 0 (kid sd) ∧ s 0 0 (kid sd) < 41) {K : Int → zH → Prop}
    (k : ∀ h1, frP (rmA sd) h h1 → (∀ k, gI h1 127 k = gI h 127 k) → mQ0 h1 sd b0 (rput s sd w a b 0 0) → K (246 * sd + 6 * s 0 0 (kid sd)) h1) : zC1 164 [vR 127 111, vI w, vI a, vI b] h K := by
  have kn := kidn sd
  obtain ⟨x1, x2, x3, x4, x5, x6, x7⟩ := x
  refine cI (k164_0 w a b h _ ?_)
  rw [x2, x4]
  generalize hkm : s 0 0 (kid sd) = km at *
  refine ⟨by unfold inR; omega, by omega, by omega, by unfold inR; omega, by unfold inR; omega, by omega, by omega, fun h8 e8 => ⟨by unfold inR; omega, by omega, by omega, fun h9 e9 => ⟨by unfold inR; omega, by omega, by omega, fun h10 e10 => ⟨by unfold inR; omega, by omega, by omega, fun h11 e11 => ⟨by unfold inR; omega, by omega, by omega, fun h12 e12 => ⟨by unfold inR; omega, by omega, by omega, fun h13 e13 => ?_⟩⟩⟩⟩⟩⟩
  have o13 : ∀ c i, ¬ c = 141 → gI h13 c i = gI h c i := fun c i hc => by simp [e13, e12, e11, e10, e9, e8, gS, hc]
  rw [o13 127 32 (by omega), x2, o13 142 sd (by omega), x4]
  refine ⟨by omega, by omega, by unfold inR; omega, by omega, by omega, fun h14 e14 => zq1 ?_⟩
  have f13 : frP (rmA sd) h h13 := by
    rw [e13, e12, e11, e10, e9, e8]
    exact (((((frP.rf.st (by unfold rmA; omega)).st (by unfold rmA; omega)).st (by unfold rmA; omega)).st (by unfold rmA; omega)).st (by unfold rmA; omega)).st (by unfold rmA; omega)
  have f14 : frP (rmA sd) h h14 := by rw [e14]; exact f13.st (by unfold rmA; omega)
  have o14 : ∀ c i, ¬ c = 141 → ¬ c = 142 → gI h14 c i = gI h c i := fun c i h1 h2 => by rw [e14, gS, if_neg (by omega)]; exact o13 c i h1
  refine k h14 f14 (fun i => o14 127 i (by omega) (by omega)) ⟨?_, ?_, fun l h0 h1 => ?_, ?_, fun i j h0 h1 hj => ?_, ?_, fun i h0 h1 => ?_⟩
  · rw [o14 _ _ (by omega) (by omega), rput_o _ _ (by omega) (Or.inr (kidj sd 1 (by omega)))]; exact x1
  · rw [o14 _ _ (by omega) (by omega)]; exact x2
  · rw [o14 _ _ (by omega) (by omega), rput_o _ _ (by omega) (by omega)]; exact x3 l h0 h1
  · rw [e14, gS1, rput_k, hkm]
  · rw [rput_k, hkm] at h1
    rw [rput_v hj, hkm, e14, gS, if_neg (by omega)]
    by_cases c : i = km
    · subst c
      rw [if_pos rfl]
      rcases (show j = 0 ∨ j = 1 ∨ j = 2 ∨ j = 3 ∨ j = 4 ∨ j = 5 by omega) with e | e | e | e | e | e <;> subst e <;> simp [e13, e12, e11, e10, e9, e8, gS] <;> omega
    · rw [if_neg c]
      have y := x5 i j h0 (by omega) hj
      rw [e13, gS, if_neg (by omega), e12, gS, if_neg (by omega), e11, gS, if_neg (by omega), e10, gS, if_neg (by omega), e9, gS, if_neg (by omega), e8, gS, if_neg (by omega)]
      exact y
  · rw [o14 _ _ (by omega) (by omega), rput_o _ _ (by omega) (Or.inr (kidj sd 6 (by omega)))]; exact x6
  · rw [rput_o _ _ (by omega) (Or.inr (kidj sd 6 (by omega)))] at h1
    rw [o14 _ _ (by omega) (by omega), rput_o (c := 6) _ _ (by omega) (by omega), rput_o (c := 4) _ _ (by omega) (by omega)]; exact x7 i h0 h1
theorem radd_o {o : Int} {a : Nat} (i : Int) (j : Nat) (h : ¬ a = 0) (h1 : ¬ a = 1) (h2 : ¬ a = 2) : radd s sd o a i j = s a i j := by
  unfold radd
  split
  · rw [radd1_o _ _ (by omega)]; unfold radd0; simp only [upE]; rw [if_neg (by omega), if_neg (by omega), if_neg (by omega), if_neg (by omega), if_neg (by omega), if_neg (by omega)]
  · unfold rhang; simp only [upE]
    rw [if_neg (by omega), if_neg (by omega), if_neg (by omega), if_neg (by omega), if_neg (by omega), if_neg (by omega), radd1_o _ _ (by omega)]
    unfold radd0; simp only [upE]; rw [if_neg (by omega), if_neg (by omega), if_neg (by omega), if_neg (by omega), if_neg (by omega), if_neg (by omega)]
theorem rA_k {o : Int} (hop : s 0 0 2 < s 0 0 1) (k : Int) (j : Nat) : rA s sd o (kid sd) k j = if ¬ s 0 0 2 = -1 ∧ s 1 (s 0 0 2) 0 = 4 ∧ k = s 4 (s 0 0 2) 0 then (if j = 1 then s (kid sd) k 1 + 1 else if j = 5 ∧ o = 5 then 1 else s (kid sd) k j) else s (kid sd) k j := by
  have kn := kidn sd
  have e : ∀ i j, radd s sd o (kid sd) i j = s (kid sd) i j := fun i j => radd_o i j (by omega) (by omega) (by omega)
  have e4 : ∀ i j, radd s sd o 4 i j = s 4 i j := fun i j => radd_o i j (by omega) (by omega) (by omega)
  have eo : radd s sd o 1 (s 0 0 2) 0 = s 1 (s 0 0 2) 0 := by
    have w := rA_old (s := s) (sd := sd) (o := o) (i := s 0 0 2) 0 (by omega)
    unfold rA at w
    rw [rcnt_o _ _ (by omega)] at w
    rw [w]; simp
  unfold rA rcnt
  rw [eo]
  by_cases c : s 0 0 2 = -1 ∨ ¬ s 1 (s 0 0 2) 0 = 4
  · rw [if_pos c, if_neg (by omega), e]
  · rw [if_neg c]
    simp only [upE, e, e4]
    by_cases d : k = s 4 (s 0 0 2) 0
    · rw [if_pos (show ¬ s 0 0 2 = -1 ∧ s 1 (s 0 0 2) 0 = 4 ∧ k = s 4 (s 0 0 2) 0 by omega)]
      subst d
      by_cases c5 : j = 5
      · subst c5; simp
      · by_cases c1 : j = 1
        · subst c1; simp
        · simp [c5, c1]
    · rw [if_neg (show ¬ (¬ s 0 0 2 = -1 ∧ s 1 (s 0 0 2) 0 = 4 ∧ k = s 4 (s 0 0 2) 0) by omega)]
      simp [d]
theorem s169 {o q : Int} (x : mQ0 h sd b0 s) (v : rV n sd b0 s) (hb : 0 ≤ b0 ∧ b0 ≤ 20) (hsd : sd = 0 ∨ sd = 1) (hbb : gI h 127 33 = b2i (¬ s 0 0 2 = -1 ∧ s 1 (s 0 0 2) 0 = 2)) (hq : q = b2i (o = 5)) (hcnt : ∀ k, 0 ≤ s (kid sd) k 1 ∧ s (kid sd) k 1 ≤ 1000) {K : zH → Prop}
    (k : ∀ h1, frP (rmA sd) h h1 → (∀ k, ¬ k = 27 → ¬ k = 33 → gI h1 127 k = gI h 127 k) → gI h1 127 33 = 0 → mQ0 h1 sd b0 (rA s sd o) → K h1) : zC0 169 [vR 127 111, vI q] h K := by
  have kn := kidn sd
  have k3 := kid3 sd
  obtain ⟨x1, x2, x3, x4, x5, x6, x7⟩ := x
  obtain ⟨i1, i2, i3, i4, i5, i6, i7, i8, i9, i10, i11, i12, i13, i14, i15, i16, i17⟩ := v.1
  have vj := v.2.1
  have vo := v.2.2.1
  have ak : rA s sd o 0 0 (kid sd) = s 0 0 (kid sd) := rA_0 _ (by omega)
  have a6 : rA s sd o 0 0 6 = s 0 0 6 := rA_0 _ (by omega)
  have a1 : rA s sd o 0 0 1 = s 0 0 1 + 1 := rA_1
  -- the end of it
  have fin : ∀ (u : zV) (h6 : zH), frP (rmA sd) h h6 → (∀ c i, ¬ c = 141 → gI h6 c i = gI h c i) → (∀ k (j : Nat), 0 ≤ k → k < s 0 0 (kid sd) → j < 6 → gI h6 141 (246 * sd + 6 * k + j) = rA s sd o (kid sd) k j) → zK 169 80 [vR 127 111, u] [] h6 (fun r h1 => r = none ∧ K h1) := by
    intro u h6 f6 o6 t6
    refine k169_80 u h6 _ ⟨Or.inl rfl, fun h7 e7 => ?_⟩
    have z7 : gI h7 127 27 = s 0 0 1 - b0 := by rw [e7, gS, if_neg (by omega), o6 _ _ (by omega)]; exact x1
    rw [z7]
    refine ⟨by unfold inR; omega, fun h8 e8 => zq0 ?_⟩
    have o8 : ∀ c i, ¬ c = 127 → gI h8 c i = gI h6 c i := fun c i hc => by rw [e8, gS, if_neg (by omega), e7, gS, if_neg (by omega)]
    have o8a : ∀ i, ¬ i = 27 → ¬ i = 33 → gI h8 127 i = gI h 127 i := fun i c1 c2 => by rw [e8, gS, if_neg (by omega), e7, gS, if_neg (by omega)]; exact o6 _ _ (by omega)
    refine k h8 ?_ o8a ?_ ⟨?_, ?_, fun l h0 h1 => ?_, ?_, fun i j h0 h1 hj => ?_, ?_, fun i h0 h1 => ?_⟩
    · rw [e8, e7]; exact (f6.st (by unfold rmA; omega)).st (by unfold rmA; omega)
    · rw [e8, gS, if_neg (by omega), e7, gS1]
    · rw [e8, gS1, a1]; omega
    · rw [o8a _ (by omega) (by omega)]; exact x2
    · rw [o8 _ _ (by omega), o6 _ _ (by omega), rA_t _ _ (by omega)]; exact x3 l h0 h1
    · rw [o8 _ _ (by omega), o6 _ _ (by omega), ak]; exact x4
    · rw [ak] at h1; rw [o8 _ _ (by omega)]; exact t6 i j h0 h1 hj
    · rw [o8a _ (by omega) (by omega), a6]; exact x6
    · rw [a6] at h1; rw [o8 _ _ (by omega), o6 _ _ (by omega), rA_t (a := 6) _ _ (by omega), rA_t (a := 4) _ _ (by omega)]; exact x7 i h0 h1
  have plain : (s 0 0 2 = -1 ∨ ¬ s 1 (s 0 0 2) 0 = 4) → ∀ u, zK 169 80 [vR 127 111, u] [] h (fun r h1 => r = none ∧ K h1) := by
    intro c u
    refine fin u h frP.rf (fun _ _ _ => rfl) (fun i j h0 h1 hj => ?_)
    rw [rA_k i7, if_neg (by omega)]; exact x5 i j h0 h1 hj
  have ct := vo.2
  refine cV (k169_0 q h _ ⟨fun c => plain ?_ _, fun c => ⟨fun d => plain ?_ _, fun d => ?_⟩⟩)
  · rw [hbb, b2i_ne0] at c; omega
  · rw [x6] at d
    by_cases e : s 0 0 2 = -1
    · exact Or.inl e
    · right; intro e4
      rw [if_neg e, if_neg (by omega), if_pos (by omega)] at ct
      exact e ct
  · rw [x6] at d
    have c : gI h 127 33 = 0 := Classical.byContradiction c
    rw [hbb, b2i_eq0] at c
    have e : ¬ s 0 0 2 = -1 := fun e => by
      rw [if_pos e, if_neg (by omega)] at ct
      have := vo.1 (s 0 0 6 - 1) (by omega) (by omega)
      omega
    have e4 : s 1 (s 0 0 2) 0 = 4 := by
      rcases (i8 e).2 with g | g
      · exact absurd ⟨e, g⟩ c
      · exact g
    rw [if_neg e, if_neg (by omega), if_neg (by omega)] at ct
    have top : gI h 144 (s 0 0 6 - 1) = 246 * sd + 6 * s 4 (s 0 0 2) 0 := by rw [x7 _ (by omega) (by omega), ← ct]
    have m := vj (s 0 0 2) (i8 e).1 i7
    have mm := m.2.2.2.2.2.2
    have z1 : gI h 141 (246 * sd + 6 * s 4 (s 0 0 2) 0 + 1) = s (kid sd) (s 4 (s 0 0 2) 0) 1 := x5 _ 1 mm.1 mm.2 (by omega)
    have z5 : gI h 141 (246 * sd + 6 * s 4 (s 0 0 2) 0 + 5) = s (kid sd) (s 4 (s 0 0 2) 0) 5 := x5 _ 5 mm.1 mm.2 (by omega)
    have hc := hcnt (s 4 (s 0 0 2) 0)
    clear hcnt m ct c
    rw [x6, top, z1]
    refine ⟨by unfold inR; omega, by omega, by omega, by unfold inR; omega, by omega, by omega, by unfold inR; omega, by omega, by omega, fun h5 e5 => ?_⟩
    have o5 : ∀ c i, ¬ c = 141 → gI h5 c i = gI h c i := fun c i hc => by rw [e5, gS, if_neg (by omega)]
    rw [o5 127 15 (by omega), x6, o5 144 _ (by omega), top]
    have z5' : gI h5 141 (246 * sd + 6 * s 4 (s 0 0 2) 0 + 5) = s (kid sd) (s 4 (s 0 0 2) 0) 5 := by rw [e5, gS, if_neg (by omega)]; exact z5
    have go : ∀ (u : zV) (s0 : Int), s0 = (if o = 5 then 1 else s (kid sd) (s 4 (s 0 0 2) 0) 5) → zK 169 79 [vR 127 111, u] [vI s0, vI (246 * sd + 6 * s 4 (s 0 0 2) 0 + 5), vR 141 49340] h5 (fun r h1 => r = none ∧ K h1) := by
      intro u s0 e0
      refine k169_79 u s0 _ h5 _ ⟨by omega, by omega, fun h6 e6 => fin u h6 ?_ (fun c i hc => ?_) (fun i j h0 h1 hj => ?_)⟩
      · rw [e6, e5]; exact (frP.rf.st (by unfold rmA; omega)).st (by unfold rmA; omega)
      · rw [e6, gS, if_neg (by omega)]; exact o5 c i hc
      · rw [rA_k i7, e6, gS]
        by_cases cc : i = s 4 (s 0 0 2) 0
        · rw [if_pos (show ¬ s 0 0 2 = -1 ∧ s 1 (s 0 0 2) 0 = 4 ∧ i = s 4 (s 0 0 2) 0 from ⟨e, e4, cc⟩)]
          subst cc
          by_cases c5 : j = 5
          · subst c5
            rw [if_pos ⟨rfl, rfl⟩, e0]; simp
          · rw [if_neg (by omega), e5, gS]
            by_cases c1 : j = 1
            · subst c1
              rw [if_pos ⟨rfl, rfl⟩]; simp
            · rw [if_neg (by omega), if_neg c1, if_neg (by omega)]; exact x5 _ j h0 h1 hj
        · rw [if_neg (by omega), if_neg (by omega), e5, gS, if_neg (by omega)]; exact x5 i j h0 h1 hj
    refine ⟨by unfold inR; omega, by omega, by omega, by unfold inR; omega, fun c => ?_, fun c => go _ 1 ?_⟩
    · rw [z5']
      rw [hq, b2i_eq0] at c
      exact ⟨by unfold inR; omega, by omega, by omega, by unfold inR; omega, by omega, by omega, go _ _ (by rw [if_neg c])⟩
    · rw [hq, b2i_ne0] at c
      rw [if_pos c]
end MQ
