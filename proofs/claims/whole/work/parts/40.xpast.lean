/-! The class: the sources that can be had back, in a ring. -/
theorem rem8 {x : Int} (h : 0 ≤ x ∧ x ≤ 16) : iRem x 8 = x % 8 := by
  have : ∀ j : Fin 17, iRem ((j.val : Nat) : Int) 8 = ((j.val : Nat) : Int) % 8 := by decide
  obtain ⟨m, rfl⟩ := Int.eq_ofNat_of_zero_le h.1
  exact this ⟨m, by omega⟩
/-- the cells of the ring's texts -/
def pad (j : Int) : Nat := 89 + 2 * j.toNat
def xPr (h : zH) : Prop := ∀ j, 0 ≤ j → j < 8 → gR h 88 j = pad j ∧ zty 101 (pad j) h ∧ ln h (pad j + 1) = 300
def xPa (h : zH) (c : Int) (pt : Int → Int → Int) (pn : Int → Int) : Prop := xPr h ∧ gI h 87 0 = c ∧ 0 ≤ c ∧ c ≤ 8 ∧ 0 ≤ gI h 87 1 ∧ gI h 87 1 < 8 ∧ ∀ i, 0 ≤ i → i < c → tOk (pt i) (pn i) ∧ Txt h (pad ((gI h 87 1 + i) % 8)) (pt i) (pn i)
def xpA (b : Nat) (k : Int) : Prop := (b = 87 ∧ (k = 0 ∨ k = 1)) ∨ (89 ≤ b ∧ b ≤ 104)
theorem xPr.fr {P : Nat → Int → Prop} {h h1 : zH} (x : xPr h) (f : frP P h h1) : xPr h1 := fun j h0 h1 => by
  rw [f.rr, f.ty, f.le]; exact x j h0 h1
theorem xPa.fr {P : Nat → Int → Prop} {h h1 : zH} {c : Int} {pt : Int → Int → Int} {pn : Int → Int} (x : xPa h c pt pn) (f : frP P h h1) (d : ∀ b k, xpA b k → ¬ P b k) : xPa h1 c pt pn := by
  obtain ⟨x1, x2, x3, x4, x5, x6, x7⟩ := x
  have e0 : gI h1 87 0 = gI h 87 0 := f.1 _ _ (d _ _ (by unfold xpA; omega))
  have e1 : gI h1 87 1 = gI h 87 1 := f.1 _ _ (d _ _ (by unfold xpA; omega))
  refine ⟨x1.fr f, by rw [e0]; exact x2, x3, x4, by rw [e1]; exact x5, by rw [e1]; exact x6, fun i h0 h1 => ?_⟩
  rw [e1]
  have y := x7 i h0 h1
  refine ⟨y.1, y.2.fr f (fun k => ⟨d _ _ ?_, d _ _ ?_⟩)⟩
  · unfold xpA pad; right; omega
  · unfold xpA pad; right; omega
theorem s135 {h : zH} {b : Nat} {c n : Int} {t : Int → Int} {pt : Int → Int → Int} {pn : Int → Int} (x : xPa h c pt pn) (y : Txt h b t n) (o : tOk t n) (hb : b + 1 < 87) {K : zH → Prop}
    (k : ∀ h1, frP xpA h h1 → xPa h1 (paN c) (paT c pt t) (paT c pn n) → K h1) : zC0 135 [vR 87 109, vR b 101] h K := by
  obtain ⟨x1, x2, x3, x4, x5, x6, x7⟩ := x
  have put : ∀ (h2 : zH) (d r : Int), frP xpA h h2 → (∀ c i, ¬ c = 87 → gI h2 c i = gI h c i) → gI h2 87 0 = d → gI h2 87 1 = r → 0 ≤ d → d ≤ 7 → 0 ≤ r → r < 8 →
      (∀ h1, frP (fun c i => (c = 87 ∧ i = 0) ∨ txA (pad ((r + d) % 8)) c i) h2 h1 → gI h1 87 0 = d + 1 → Txt h1 (pad ((r + d) % 8)) t n → K h1) → zK 135 32 [vR 87 109, vR b 101] [] h2 (fun r h1 => r = none ∧ K h1) := by
    intro h2 d r f2 o2 e0 e1 d0 d1 r0 r1 kk
    have pr := x1.fr f2
    have q := pr ((r + d) % 8) (by omega) (by omega)
    refine k135_32 b h2 _ ?_
    rw [e0, e1, rem8 (by omega), q.1]
    refine ⟨by unfold inR; omega, by omega, by omega, by omega, q.2.1, ?_⟩
    have y2 : Txt h2 b t n := ⟨by rw [o2 _ _ (by omega)]; exact y.1, by rw [f2.le]; exact y.2.1, fun i h0 h1 => by rw [o2 _ _ (by omega)]; exact y.2.2 i h0 h1⟩
    refine s45 y2 o q.2.2 (by unfold pad; omega) (fun h7 f7 t7 => ?_)
    have z7 : gI h7 87 0 = d := by rw [f7.1 _ _ (by unfold txA pad; omega)]; exact e0
    rw [z7]
    refine ⟨by unfold inR; omega, fun h8 e8 => zq0 (kk h8 ?_ (by rw [e8, gS1]) ?_)⟩
    · rw [e8]; exact (f7.mo (fun c i q => Or.inr q)).st (Or.inl ⟨rfl, rfl⟩)
    · refine t7.fr (P := fun c i => c = 87 ∧ i = 0) (by rw [e8]; exact frP.rf.st ⟨rfl, rfl⟩) (fun k => by unfold pad; omega)
  refine cV (k135_0 b h _ ⟨fun q => ?_, fun q => ?_⟩)
  · rw [x2] at q
    refine put h c (gI h 87 1) frP.rf (fun _ _ _ => rfl) x2 rfl x3 (by omega) x5 x6 (fun h1 f1 e1 t1 => ?_)
    have F : frP xpA h h1 := f1.mo (fun c i q => by unfold txA pad at q; unfold xpA; omega)
    have z1 : gI h1 87 1 = gI h 87 1 := f1.1 _ _ (by unfold txA pad; omega)
    have eN : paN c = c + 1 := by unfold paN; rw [if_neg q]
    refine k h1 F ⟨x1.fr F, by rw [eN]; exact e1, by rw [eN]; omega, by rw [eN]; omega, by rw [z1]; exact x5, by rw [z1]; exact x6, fun i i0 i1 => ?_⟩
    rw [eN] at i1
    rw [z1]
    unfold paT
    rw [if_neg q, if_neg q]
    by_cases ci : i = c
    · rw [if_pos ci, if_pos ci, ci]; exact ⟨o, t1⟩
    · rw [if_neg ci, if_neg ci]
      have y := x7 i i0 (by omega)
      have ne : ¬ (gI h 87 1 + i) % 8 = (gI h 87 1 + c) % 8 := by omega
      refine ⟨y.1, y.2.fr f1 (fun k => ⟨?_, ?_⟩)⟩
      · unfold txA pad; omega
      · unfold txA pad; omega
  · have q : c = 8 := by rw [x2] at q; omega
    rw [rem8 (by omega)]
    refine ⟨by unfold inR; omega, by omega, fun h5 e5 => ?_⟩
    have z5 : gI h5 87 0 = 8 := by rw [e5, gS, if_neg (by omega), x2]; exact q
    rw [z5]
    refine ⟨by unfold inR; omega, fun h6 e6 => ?_⟩
    have f6 : frP xpA h h6 := by rw [e6, e5]; exact (frP.rf.st (by unfold xpA; omega)).st (by unfold xpA; omega)
    have o6 : ∀ c i, ¬ c = 87 → gI h6 c i = gI h c i := fun c i hc => by rw [e6, gS, if_neg (by omega), e5, gS, if_neg (by omega)]
    refine put h6 7 ((gI h 87 1 + 1) % 8) f6 o6 (by rw [e6, gS1]; rfl) (by rw [e6, gS, if_neg (by omega), e5, gS1]) (by omega) (by omega) (by omega) (by omega) (fun h1 f1 e1 t1 => ?_)
    have F : frP xpA h h1 := f6.tr (f1.mo (fun c i q => by unfold txA pad at q; unfold xpA; omega))
    have z1 : gI h1 87 1 = (gI h 87 1 + 1) % 8 := by rw [f1.1 _ _ (by unfold txA pad; omega), e6, gS, if_neg (by omega), e5, gS1]
    have eN : paN c = 8 := by unfold paN; rw [if_pos q]
    refine k h1 F ⟨x1.fr F, by rw [eN]; exact e1, by rw [eN]; omega, by rw [eN]; omega, by rw [z1]; omega, by rw [z1]; omega, fun i i0 i1 => ?_⟩
    rw [eN] at i1
    rw [z1]
    unfold paT
    rw [if_pos q, if_pos q]
    by_cases ci : i = 7
    · rw [if_pos ci, if_pos ci, ci]; exact ⟨o, t1⟩
    · rw [if_neg ci, if_neg ci]
      have y := x7 (i + 1) (by omega) (by omega)
      have ea : ((gI h 87 1 + 1) % 8 + i) % 8 = (gI h 87 1 + (i + 1)) % 8 := by omega
      have ne : ¬ (gI h 87 1 + (i + 1)) % 8 = ((gI h 87 1 + 1) % 8 + 7) % 8 := by omega
      rw [ea]
      have y6 : Txt h6 (pad ((gI h 87 1 + (i + 1)) % 8)) (pt (i + 1)) (pn (i + 1)) := ⟨by rw [o6 _ _ (by unfold pad; omega)]; exact y.2.1, by rw [f6.le]; exact y.2.2.1, fun j h0 h1 => by rw [o6 _ _ (by unfold pad; omega)]; exact y.2.2.2 j h0 h1⟩
      refine ⟨y.1, y6.fr f1 (fun k => ⟨?_, ?_⟩)⟩
      · unfold txA pad; omega
      · unfold txA pad; omega
theorem s136 {h : zH} {c : Int} {pt : Int → Int → Int} {pn : Int → Int} (x : xPa h c pt pn) {K : Nat → zH → Prop}
    (k1 : 0 < c → ∀ a h1, frP xpA h h1 → 89 ≤ a → a ≤ 103 → zty 101 a h1 → tOk (pt (c - 1)) (pn (c - 1)) → Txt h1 a (pt (c - 1)) (pn (c - 1)) → xPa h1 (c - 1) pt pn → K a h1) (k2 : ¬ 0 < c → K 0 h) : zCr 136 0 [vR 87 109] h K := by
  have xx := x
  obtain ⟨x1, x2, x3, x4, x5, x6, x7⟩ := x
  refine cA (k136_0 h _ ?_)
  rw [x2]
  refine ⟨fun q => ⟨by unfold inR; omega, fun h2 e2 => ?_⟩, fun q => zqr (k2 (by omega))⟩
  have q : 0 < c := by omega
  have f2 : frP xpA h h2 := by rw [e2]; exact frP.rf.st (by unfold xpA; omega)
  have z0 : gI h2 87 0 = c - 1 := by rw [e2, gS1]
  have z1 : gI h2 87 1 = gI h 87 1 := by rw [e2, gS, if_neg (by omega)]
  have p2 := x1.fr f2
  have o2 : ∀ b i, ¬ b = 87 → gI h2 b i = gI h b i := fun b i hb => by rw [e2, gS, if_neg (by omega)]
  have w := p2 ((gI h 87 1 + (c - 1)) % 8) (by omega) (by omega)
  rw [z0, z1, rem8 (by omega), w.1]
  have tx : ∀ i, 0 ≤ i → i < c → Txt h2 (pad ((gI h 87 1 + i) % 8)) (pt i) (pn i) := fun i i0 i1 => by
    have y := (x7 i i0 i1).2
    exact ⟨by rw [o2 _ _ (by unfold pad; omega)]; exact y.1, by rw [f2.le]; exact y.2.1, fun j h0 h1 => by rw [o2 _ _ (by unfold pad; omega)]; exact y.2.2 j h0 h1⟩
  refine ⟨by unfold inR; omega, by omega, by omega, by omega, w.2.1, zqr (k1 q _ h2 f2 (by unfold pad; omega) (by unfold pad; omega) w.2.1 (x7 (c - 1) (by omega) (by omega)).1 (tx (c - 1) (by omega) (by omega)) ⟨p2, z0, by omega, by omega, by rw [z1]; exact x5, by rw [z1]; exact x6, fun i i0 i1 => ?_⟩)⟩
  rw [z1]
  exact ⟨(x7 i i0 (by omega)).1, tx i i0 (by omega)⟩
theorem s137 {h : zH} {K : zH → Prop} (k : K (sI h 87 0 0)) : zC0 137 [vR 87 109] h K :=
  cV (k137_0 h _ (fun h2 e2 => zq0 (by rw [e2]; exact k)))
theorem s37 {h : zH} (t1 : zty 102 (gR h 2 1) h) (t2 : zty 102 (gR h 2 2) h) {K : zH → Prop} (k : K (sR (sR h 2 1 (gR h 2 2)) 2 2 (gR h 2 1))) : zC0 37 [vR 2 100] h K :=
  cV (k37_0 h _ ⟨t1, t2, fun h3 e3 h4 e4 => zq0 (by rw [e4, e3]; exact k)⟩)
/-- now and spare -/
def xW (h : zH) (a a2 : Nat) : Prop := gR h 2 1 = a ∧ gR h 2 2 = a2 ∧ zty 102 a h ∧ zty 102 a2 h ∧ ln h (a + 2) = 300 ∧ ln h (a2 + 2) = 300 ∧ ((a = 5 ∧ a2 = 21) ∨ (a = 21 ∧ a2 = 5))
theorem xW.fr {P : Nat → Int → Prop} {h h1 : zH} {a a2 : Nat} (x : xW h a a2) (f : frP P h h1) : xW h1 a a2 := by
  unfold xW; rw [f.rr, f.rr, f.ty, f.ty, f.le, f.le]; exact x
