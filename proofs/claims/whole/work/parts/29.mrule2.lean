/-! The model: the steps of reading a rule. -/
section MN
variable {h : zH} {sd b0 : Int} {t : Int → Int} {n : Int} {s : pS}
/-- the place and the length of a token's word -/
theorem mQ0.fl {f l w a : Int} (x : mQ0 h sd b0 (rput s sd w a 0 0 0)) (hsd : sd = 0 ∨ sd = 1) (hk : 0 ≤ s 0 0 (kid sd) ∧ s 0 0 (kid sd) < 41) : mQ0 (sI (sI h 141 (246 * sd + 6 * s 0 0 (kid sd) + 3) f) 141 (246 * sd + 6 * s 0 0 (kid sd) + 4) l) sd b0 (rput s sd w a 0 f l) := by
  have kn := kidn sd
  obtain ⟨x1, x2, x3, x4, x5, x6, x7⟩ := x
  have o : ∀ c i, ¬ c = 141 → gI (sI (sI h 141 (246 * sd + 6 * s 0 0 (kid sd) + 3) f) 141 (246 * sd + 6 * s 0 0 (kid sd) + 4) l) c i = gI h c i := fun c i hc => by rw [gS, if_neg (by omega), gS, if_neg (by omega)]
  have e : ∀ c i j, ¬ c = kid sd → rput s sd w a 0 f l c i j = rput s sd w a 0 0 0 c i j := by
    intro c i j hc
    by_cases d : c = 0 ∧ j = kid sd
    · have kn0 : ¬ 0 = kid sd := by omega
      unfold rput; simp only [upE]; simp [d, kn0]
    · rw [rput_o _ _ hc (by omega), rput_o _ _ hc (by omega)]
  refine ⟨?_, ?_, fun l h0 h1 => ?_, ?_, fun i j h0 h1 hj => ?_, ?_, fun i h0 h1 => ?_⟩
  · rw [o _ _ (by omega), e _ _ _ (by omega)]; exact x1
  · rw [o _ _ (by omega)]; exact x2
  · rw [o _ _ (by omega), e _ _ _ (by omega)]; exact x3 l h0 h1
  · rw [o _ _ (by omega), e _ _ _ (by omega)]; exact x4
  · rw [e _ _ _ (by omega)] at h1
    have y := x5 i j h0 h1 hj
    rw [rput_k] at h1
    rw [rput_v hj] at y ⊢
    rw [gS, gS, y]
    by_cases c : i = s 0 0 (kid sd)
    · subst c
      rw [if_pos rfl, if_pos rfl]
      rcases (show j = 0 ∨ j = 1 ∨ j = 2 ∨ j = 3 ∨ j = 4 ∨ j = 5 by omega) with q | q | q | q | q | q <;> subst q <;> simp <;> omega
    · rw [if_neg c, if_neg c, if_neg (by omega), if_neg (by omega)]
  · rw [o _ _ (by omega), e _ _ _ (by omega)]; exact x6
  · rw [e _ _ _ (by omega)] at h1
    rw [o _ _ (by omega), e 6 _ _ (by omega), e 4 _ _ (by omega)]; exact x7 i h0 h1
theorem mQ0.o1 {k v : Int} (x : mQ0 h sd b0 s) (hk : ¬ k = 15 ∧ ¬ k = 27 ∧ ¬ k = 32) : mQ0 (sI h 127 k v) sd b0 s := by
  obtain ⟨x1, x2, x3, x4, x5, x6, x7⟩ := x
  have g : ∀ b i, ¬ (b = 127 ∧ i = k) → gI (sI h 127 k v) b i = gI h b i := fun b i c => by rw [gS, if_neg (by omega)]
  refine ⟨by rw [g _ _ (by omega)]; exact x1, by rw [g _ _ (by omega)]; exact x2, fun l h0 h1 => by rw [g _ _ (by omega)]; exact x3 l h0 h1, by rw [g _ _ (by omega)]; exact x4, fun k j h0 h1 h2 => by rw [g _ _ (by omega)]; exact x5 k j h0 h1 h2, by rw [g _ _ (by omega)]; exact x6, fun k h0 h1 => by rw [g _ _ (by omega)]; exact x7 k h0 h1⟩
theorem s165 {w a p b : Int} (o : tOk t n) (x : mQ0 h sd b0 s) (y : mY h t n p) (hp : 0 ≤ p ∧ p ≤ n) (hsd : sd = 0 ∨ sd = 1) (hk : 0 ≤ s 0 0 (kid sd) ∧ s 0 0 (kid sd) < 41) (hb : b = if w = 4 then 0 else 1) {K : zH → Prop}
    (k1 : prl t b p ≤ pmo b → ∀ h1, frP (rmA sd) h h1 → (∀ k, ¬ k = 16 → ¬ k = 17 → ¬ k = 18 → gI h1 127 k = gI h 127 k) → mY h1 t n (p + prl t b p) → mQ0 h1 sd b0 (rput s sd w a 0 p (prl t b p)) → K h1)
    (k2 : ¬ prl t b p ≤ pmo b → ∀ h1, frP (rmA sd) h h1 → bd h1 → gI h1 127 17 = p + pmo b → K h1) : zC0 165 [vR 127 111, vI w, vI a] h K := by
  have o2 := o.2.1
  refine cV (k165_0 w a h _ (s164 x hsd hk (fun h11 f11 s11 x11 => ?_)))
  have y11 : mY h11 t n p := ⟨y.1.fr f11 (by unfold rmA; constructor <;> omega), by rw [s11]; exact y.2.1, by rw [s11]; exact y.2.2⟩
  refine ⟨by unfold inR; omega, by omega, by omega, fun h12 e12 => ?_⟩
  rw [y11.2.1] at e12
  have f12 : frP (rmA sd) h h12 := by rw [e12]; exact f11.st (by unfold rmA; omega)
  have s12 : ∀ k, gI h12 127 k = gI h 127 k := fun k => by rw [e12, gS, if_neg (by omega)]; exact s11 k
  have y12 : mY h12 t n p := ⟨y.1.fr f12 (by unfold rmA; constructor <;> omega), by rw [s12]; exact y.2.1, by rw [s12]; exact y.2.2⟩
  have key : ∀ m : Int, m = pmo b → zC1 152 [vR 127 111, vI b, vI m] h12 (fun v13 h13 => (0 ≤ (246 * sd + 6 * s 0 0 (kid sd) + 4 : Int)) ∧ ((246 * sd + 6 * s 0 0 (kid sd) + 4 : Int) < 492) ∧ ∀ h14 : zH, h14 = sI h13 141 (246 * sd + 6 * s 0 0 (kid sd) + 4) v13 → (none : Option zV) = none ∧ K h14) := by
    intro m em
    refine s152r b m em o y12 hp.1 hp.2 (fun h13 f13 => ⟨fun c y13 => ⟨by omega, by omega, fun h14 e14 => zq0 (k1 c h14 ?_ (fun k q1 q2 q3 => ?_) ?_ ?_)⟩, fun c z18 z17 v => ⟨by omega, by omega, fun h14 e14 => zq0 (k2 c h14 ?_ ?_ ?_)⟩⟩)
    · rw [e14]; exact (f12.tr (fR0 f13)).st (by unfold rmA; omega)
    · rw [e14, gS, if_neg (by omega), f13.1 _ _ (by unfold mA0; omega)]; exact s12 k
    · exact ⟨y13.1.fr (P := rmA sd) (by rw [e14]; exact frP.rf.st (by unfold rmA; omega)) (by unfold rmA; constructor <;> omega), by rw [e14, gS, if_neg (by omega)]; exact y13.2.1, by rw [e14, gS, if_neg (by omega)]; exact y13.2.2⟩
    · have wq := mQ0.fl (f := p) (l := prl t b p) x11 hsd hk
      have q : mQ0 h14 sd b0 (rput s sd w a 0 p (prl t b p)) := by
        refine ⟨?_, ?_, fun l h0 h1 => ?_, ?_, fun i j h0 h1 hj => ?_, ?_, fun i h0 h1 => ?_⟩
        · rw [e14, gS, if_neg (by omega), f13.1 _ _ (by unfold mA0; omega), s12, ← s11]; have := wq.1; rw [gS, if_neg (by omega), gS, if_neg (by omega)] at this; exact this
        · rw [e14, gS, if_neg (by omega), f13.1 _ _ (by unfold mA0; omega), s12, ← s11]; have := wq.2.1; rw [gS, if_neg (by omega), gS, if_neg (by omega)] at this; exact this
        · rw [e14, gS, if_neg (by omega), f13.1 _ _ (by unfold mA0; omega), e12, gS, if_neg (by omega)]; have := wq.2.2.1 l h0 h1; rw [gS, if_neg (by omega), gS, if_neg (by omega)] at this; exact this
        · rw [e14, gS, if_neg (by omega), f13.1 _ _ (by unfold mA0; omega), e12, gS, if_neg (by omega)]; have := wq.2.2.2.1; rw [gS, if_neg (by omega), gS, if_neg (by omega)] at this; exact this
        · have := wq.2.2.2.2.1 i j h0 h1 hj
          rw [← this, e14, gS, gS, f13.1 _ _ (by unfold mA0; omega), e12]
        · rw [e14, gS, if_neg (by omega), f13.1 _ _ (by unfold mA0; omega), s12, ← s11]; have := wq.2.2.2.2.2.1; rw [gS, if_neg (by omega), gS, if_neg (by omega)] at this; exact this
        · rw [e14, gS, if_neg (by omega), f13.1 _ _ (by unfold mA0; omega), e12, gS, if_neg (by omega)]; have := wq.2.2.2.2.2.2 i h0 h1; rw [gS, if_neg (by omega), gS, if_neg (by omega)] at this; exact this
      exact q
    · rw [e14]; exact (f12.tr (fR0 f13)).st (by unfold rmA; omega)
    · exact ⟨by rw [e14, gS, if_neg (by omega)]; exact z18.1, by rw [e14, gS, if_neg (by omega)]; exact z18.2.1, by rw [e14, gS, if_neg (by omega)]; exact z18.2.2⟩
    · rw [e14, gS, if_neg (by omega)]; exact z17
  refine ⟨by unfold inR; omega, fun c => ⟨fun d => absurd c d, fun _ => ?_⟩, fun c => ⟨fun _ => ?_, fun d => absurd c d⟩⟩
  · rw [if_pos c] at hb
    have := key 4 (by rw [hb]; rfl)
    rw [hb] at this; exact this
  · rw [if_neg c] at hb
    have := key 8 (by rw [hb]; rfl)
    rw [hb] at this; exact this
/-- a letter -/
theorem s166 {how p : Int} (o : tOk t n) (x : mQ0 h sd b0 s) (y : mY h t n p) (hp : 0 ≤ p ∧ p < n) (hsd : sd = 0 ∨ sd = 1) {K : Int → zH → Prop}
    (k1 : ((0 ≤ t (p + 1) - 65 ∧ t (p + 1) - 65 < 26) ∧ (s 5 (t (p + 1) - 65) 0 = how ∨ (sd = 0 ∧ s 5 (t (p + 1) - 65) 0 = 0))) → ∀ h1, frP (rmA sd) h h1 → (∀ k, ¬ k = 16 → gI h1 127 k = gI h 127 k) → mY h1 t n (p + 2) → mQ0 h1 sd b0 (up s 5 (t (p + 1) - 65) 0 how) → K (t (p + 1) - 65) h1)
    (k2 : ¬ ((0 ≤ t (p + 1) - 65 ∧ t (p + 1) - 65 < 26) ∧ (s 5 (t (p + 1) - 65) 0 = how ∨ (sd = 0 ∧ s 5 (t (p + 1) - 65) 0 = 0))) → ∀ h1, frP (rmA sd) h h1 → bd h1 → gI h1 127 17 = p + 1 → mQ0 h1 sd b0 s → K 0 h1) : zC1 166 [vR 127 111, vI how] h K := by
  have kn := kidn sd
  have o2 := o.2.1
  refine cI (k166_0 how h _ ?_)
  rw [y.2.1]
  refine ⟨by unfold inR; omega, fun h9 e9 => ?_⟩
  have w9 := mY.at (v := p + 1) y
  rw [← e9] at w9
  have x9 := x.f0 w9.2
  have y2 := w9.1.2.1
  have F9 := fR0 (sd := sd) w9.2
  have s9 : ∀ k, ¬ k = 16 → gI h9 127 k = gI h 127 k := fun k hk => by rw [e9, gS, if_neg (by omega)]
  generalize hl : t (p + 1) - 65 = l at k1 k2
  have bad : ¬ ((0 ≤ l ∧ l < 26) ∧ (s 5 l 0 = how ∨ (sd = 0 ∧ s 5 l 0 = 0))) → zC0 148 [vR 127 111] h9 (fun h12 => ∃ v : Int, some (vI 0) = some (Sum.inl v) ∧ K v h12) := by
    intro c
    refine s148 w9.1.2.2 (zq1 (k2 c _ ?_ ⟨by simp [gS], by simp [gS, y2]; omega, by simp [gS, y2]; omega⟩ (by simp [gS, y2]) ?_))
    · exact (F9.st (by unfold rmA; omega)).st (by unfold rmA; omega)
    · exact (x9.o1 (by omega)).o1 (by omega)
  have good : ((0 ≤ l ∧ l < 26) ∧ (s 5 l 0 = how ∨ (sd = 0 ∧ s 5 l 0 = 0))) → zK 166 68 [vR 127 111, vI how, vI (t (p + 1))] [] h9 (fun r h1 => ∃ v : Int, r = some (Sum.inl v) ∧ K v h1) := by
    intro c
    have lt := o.lt (i := p + 1) (by omega)
    refine k166_68 how _ h9 _ ?_
    rw [hl]
    refine ⟨by unfold inR; omega, by omega, by omega, fun h15 e15 => ?_⟩
    have z15 : gI h15 127 16 = p + 1 := by rw [e15, gS, if_neg (by omega)]; exact y2
    rw [z15]
    refine ⟨by unfold inR; omega, fun h16 e16 => ⟨by unfold inR; omega, zq1 (k1 c h16 ?_ (fun k hk => ?_) ?_ ?_)⟩⟩
    · rw [e16, e15]; exact (F9.st (by unfold rmA; omega)).st (by unfold rmA; omega)
    · rw [e16, gS, if_neg (by omega), e15, gS, if_neg (by omega)]; exact s9 k hk
    · refine ⟨w9.1.1.fr (P := rmA sd) (by rw [e16, e15]; exact (frP.rf.st (by unfold rmA; omega)).st (by unfold rmA; omega)) (by unfold rmA; constructor <;> omega), by rw [e16, gS1]; omega, ?_⟩
      rw [e16, gS, if_neg (by omega), e15, gS, if_neg (by omega)]; exact w9.1.2.2
    · rw [e16]
      refine mQ0.o1 ?_ (by omega)
      obtain ⟨x1, x2, x3, x4, x5, x6, x7⟩ := x9
      have g : ∀ b i, ¬ b = 143 → gI h15 b i = gI h9 b i := fun b i hb => by rw [e15, gS, if_neg (by omega)]
      have u : ∀ c i j, ¬ c = 5 → up s 5 l 0 how c i j = s c i j := fun c i j hc => by rw [upE, if_neg (by omega)]
      refine ⟨by rw [g _ _ (by omega), u _ _ _ (by omega)]; exact x1, by rw [g _ _ (by omega)]; exact x2, fun m h0 h1 => ?_, by rw [g _ _ (by omega), u _ _ _ (by omega)]; exact x4, fun k j h0 h1 h2 => ?_, by rw [g _ _ (by omega), u _ _ _ (by omega)]; exact x6, fun k h0 h1 => ?_⟩
      · rw [e15, gS, upE]
        by_cases d : m = l
        · rw [if_pos ⟨rfl, d⟩, if_pos ⟨rfl, d, rfl⟩]
        · rw [if_neg (by omega), if_neg (by omega)]; exact x3 m h0 h1
      · rw [u _ _ _ (by omega)] at h1; rw [g _ _ (by omega), u _ _ _ (by omega)]; exact x5 k j h0 h1 h2
      · rw [u _ _ _ (by omega)] at h1; rw [g _ _ (by omega), u 6 _ _ (by omega), u 4 _ _ (by omega)]; exact x7 k h0 h1
  refine s149 o w9.1.1 (by omega) (s141 ?_)
  rw [y2, hl, x9.2.1]
  refine ⟨fun c => bad (fun d => ?_), fun c => ?_⟩
  · rw [b2i_eq0] at c; omega
  · rw [b2i_ne0] at c
    rw [x9.2.2.1 l (by omega) (by omega)]
    refine ⟨by unfold inR; omega, by omega, by omega, fun d => good ⟨by omega, Or.inl d⟩, fun d => ⟨fun e => bad (fun f => ?_), fun e => ⟨by unfold inR; omega, by omega, by omega, fun f => good ⟨by omega, Or.inr ⟨by omega, f⟩⟩, fun f => bad (fun g => ?_)⟩⟩⟩
    · omega
    · omega
/-- behind the token of a hole: its kind -/
theorem mQ0.t2 {v : Int} {w a b : Int} (x : mQ0 h sd b0 (rput s sd w a b 0 0)) (hsd : sd = 0 ∨ sd = 1) (hk : 0 ≤ s 0 0 (kid sd) ∧ s 0 0 (kid sd) < 41) : mQ0 (sI h 141 (246 * sd + 6 * s 0 0 (kid sd) + 2) v) sd b0 (rput s sd w a v 0 0) := by
  have kn := kidn sd
  obtain ⟨x1, x2, x3, x4, x5, x6, x7⟩ := x
  have o : ∀ c i, ¬ c = 141 → gI (sI h 141 (246 * sd + 6 * s 0 0 (kid sd) + 2) v) c i = gI h c i := fun c i hc => by rw [gS, if_neg (by omega)]
  have e : ∀ c i j, ¬ c = kid sd → rput s sd w a v 0 0 c i j = rput s sd w a b 0 0 c i j := by
    intro c i j hc
    by_cases d : c = 0 ∧ j = kid sd
    · have kn0 : ¬ 0 = kid sd := by omega
      unfold rput; simp only [upE]; simp [d, kn0]
    · rw [rput_o _ _ hc (by omega), rput_o _ _ hc (by omega)]
  refine ⟨?_, ?_, fun l h0 h1 => ?_, ?_, fun i j h0 h1 hj => ?_, ?_, fun i h0 h1 => ?_⟩
  · rw [o _ _ (by omega), e _ _ _ (by omega)]; exact x1
  · rw [o _ _ (by omega)]; exact x2
  · rw [o _ _ (by omega), e _ _ _ (by omega)]; exact x3 l h0 h1
  · rw [o _ _ (by omega), e _ _ _ (by omega)]; exact x4
  · rw [e _ _ _ (by omega)] at h1
    have y := x5 i j h0 h1 hj
    rw [rput_k] at h1
    rw [rput_v hj] at y ⊢
    rw [gS, y]
    by_cases c : i = s 0 0 (kid sd)
    · subst c
      rw [if_pos rfl, if_pos rfl]
      rcases (show j = 0 ∨ j = 1 ∨ j = 2 ∨ j = 3 ∨ j = 4 ∨ j = 5 by omega) with q | q | q | q | q | q <;> subst q <;> simp <;> omega
    · rw [if_neg c, if_neg c, if_neg (by omega)]
  · rw [o _ _ (by omega), e _ _ _ (by omega)]; exact x6
  · rw [e _ _ _ (by omega)] at h1
    rw [o _ _ (by omega), e 6 _ _ (by omega), e 4 _ _ (by omega)]; exact x7 i h0 h1
theorem s167 {a p : Int} (o : tOk t n) (x : mQ0 h sd b0 (rput s sd 1 a 0 0 0)) (y : mY h t n p) (hp : 0 ≤ p ∧ p ≤ n) (hsd : sd = 0 ∨ sd = 1) (hk : 0 ≤ s 0 0 (kid sd) ∧ s 0 0 (kid sd) < 41) {K : zH → Prop}
    (k1 : (¬ sd = 0 ∨ ¬ t p = 58) → ∀ h1, frP (rmA sd) h h1 → (∀ k, gI h1 127 k = gI h 127 k) → mY h1 t n p → mQ0 h1 sd b0 (rput s sd 1 a (-1) 0 0) → K h1)
    (k2 : ¬ (¬ sd = 0 ∨ ¬ t p = 58) → ¬ rkd (t (p + 1)) = -1 → ∀ h1, frP (rmA sd) h h1 → (∀ k, ¬ k = 16 → gI h1 127 k = gI h 127 k) → mY h1 t n (p + 2) → mQ0 h1 sd b0 (rput s sd 1 a (rkd (t (p + 1))) 0 0) → K h1)
    (k3 : ¬ (¬ sd = 0 ∨ ¬ t p = 58) → rkd (t (p + 1)) = -1 → ∀ h1, frP (rmA sd) h h1 → bd h1 → gI h1 127 17 = p + 1 → K h1) : zC0 167 [vR 127 111, vI (246 * sd + 6 * s 0 0 (kid sd))] h K := by
  have o2 := o.2.1
  have ksd : gI h 127 32 = sd := x.2.1
  refine cV (k167_0 _ h _ ⟨by unfold inR; omega, by omega, by omega, fun h10 e10 => ?_⟩)
  have x10 := mQ0.t2 (v := -1) x hsd hk
  rw [← e10] at x10
  have f10 : frP (rmA sd) h h10 := by rw [e10]; exact frP.rf.st (by unfold rmA; omega)
  have s10 : ∀ k, gI h10 127 k = gI h 127 k := fun k => by rw [e10, gS, if_neg (by omega)]
  have y10 : mY h10 t n p := ⟨y.1.fr f10 (by unfold rmA; constructor <;> omega), by rw [s10]; exact y.2.1, by rw [s10]; exact y.2.2⟩
  rw [s10 32, ksd, s10 18, y.2.2]
  refine ⟨fun c => zq0 (k1 (Or.inl c) h10 f10 s10 y10 x10), fun c => ⟨fun d => absurd d (by omega), fun _ => s149 o y10.1 (by have := y10.2.1; omega) ?_⟩⟩
  rw [y10.2.1]
  refine ⟨fun d => zq0 (k1 (Or.inr d) h10 f10 s10 y10 x10), fun d => ⟨by unfold inR; omega, fun h12 e12 => ?_⟩⟩
  have nk : ¬ (¬ sd = 0 ∨ ¬ t p = 58) := by omega
  have lt := o.lt (i := p) (by omega)
  have w12 := mY.at (v := p + 1) y10
  rw [← e12] at w12
  have x12 := x10.f0 w12.2
  have s12 : ∀ k, ¬ k = 16 → gI h12 127 k = gI h 127 k := fun k hk => by rw [e12, gS, if_neg (by omega)]; exact s10 k
  have F12 := f10.tr (fR0 (sd := sd) w12.2)
  have key : ∀ kd : Int, (t (p + 1) = 110 ∧ kd = 0) ∨ (t (p + 1) = 119 ∧ kd = 1) ∨ (¬ t (p + 1) = 110 ∧ ¬ t (p + 1) = 119 ∧ kd = 2) → ∀ u, zK 167 75 [vR 127 111, u, vI (t (p + 1))] [vI kd, vI (246 * sd + 6 * s 0 0 (kid sd) + 2), vR 141 49340] h12 (fun r h1 => r = none ∧ K h1) := by
    intro kd hkd u
    refine k167_75 u _ kd _ h12 _ ⟨by omega, by omega, fun h14 e14 => ?_⟩
    have x14 := mQ0.t2 (v := kd) x12 hsd hk
    rw [← e14] at x14
    have s14 : ∀ k, gI h14 127 k = gI h12 127 k := fun k => by rw [e14, gS, if_neg (by omega)]
    have F14 : frP (rmA sd) h h14 := by rw [e14]; exact F12.st (by unfold rmA; omega)
    have y14 : mY h14 t n (p + 1) := ⟨w12.1.1.fr (P := rmA sd) (by rw [e14]; exact frP.rf.st (by unfold rmA; omega)) (by unfold rmA; constructor <;> omega), by rw [s14]; exact w12.1.2.1, by rw [s14]; exact w12.1.2.2⟩
    have good : rkd (t (p + 1)) = kd → ¬ kd = -1 → inR (gI h14 127 16 + 1) ∧ ∀ h15 : zH, h15 = sI h14 127 16 (gI h14 127 16 + 1) → (none : Option zV) = none ∧ K h15 := by
      intro ek hne
      have lt1 := o.lt (i := p + 1) (by intro c; apply hne; rw [← ek, c]; rfl)
      rw [y14.2.1]
      refine ⟨by unfold inR; omega, fun h15 e15 => zq0 ?_⟩
      have w15 := mY.at (v := p + 1 + 1) y14
      rw [← e15] at w15
      refine k2 nk (by rw [ek]; exact hne) h15 (F14.tr (fR0 w15.2)) (fun k hk => ?_) ?_ ?_
      · rw [e15, gS, if_neg (by omega), s14]; exact s12 k hk
      · rw [show p + 2 = p + 1 + 1 by omega]; exact w15.1
      · rw [ek]; exact x14.f0 w15.2
    refine ⟨fun q => ?_, fun q => ⟨fun q1 => ?_, fun q1 => ⟨fun q2 => ?_, fun q2 => ?_⟩⟩⟩
    · exact good (by rw [q]; show (0 : Int) = kd; omega) (by omega)
    · exact good (by rw [q1]; show (1 : Int) = kd; omega) (by omega)
    · refine s148 y14.2.2 (zq0 (k3 nk ?_ _ ((F14.st (by unfold rmA; omega)).st (by unfold rmA; omega)) ⟨by simp [gS], by have := y14.2.1; simp [gS, this]; omega, by have := y14.2.1; simp [gS, this]; omega⟩ ?_))
      · unfold rkd; rw [if_neg q, if_neg q1, if_neg q2]
      · have := y14.2.1; simp [gS, this]
    · have q2 : t (p + 1) = 99 := Classical.byContradiction q2
      exact good (by rw [q2]; show (2 : Int) = kd; omega) (by omega)
  refine s149 o w12.1.1 (by have := w12.1.2.1; omega) ?_
  rw [w12.1.2.1]
  refine ⟨by unfold inR; omega, fun q => ⟨fun q1 => key 2 (Or.inr (Or.inr ⟨q, q1, rfl⟩)) _, fun q1 => key 1 (Or.inr (Or.inl ⟨Classical.byContradiction q1, rfl⟩)) _⟩, fun q => key 0 (Or.inl ⟨Classical.byContradiction q, rfl⟩) _⟩
end MN
