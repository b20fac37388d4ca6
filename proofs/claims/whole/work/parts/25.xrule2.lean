/-! The class: the steps of reading a rule. -/
section XQ
variable {h : zH} {r : Nat} {sd b0 : Int} {t : Int → Int} {n : Int} {s : pS}
theorem s78l (o : tOk t n) {Q : Option zV → zH → Prop} : ∀ (f : Nat) (h : zH) (s : pS) (z : Int), xR h r sd b0 t n s → 0 ≤ s 0 0 0 → s 0 0 0 ≤ n → z + f = 301 → 0 ≤ z →
    (∀ h1, frP (rdA r) h h1 → xR h1 r sd b0 t n (up s 0 0 0 (pbl t f (s 0 0 0))) → Q none h1) → zK 78 2 [vR 54 104, vI z] [] h Q := by
  have o2 := o.2.1
  intro f
  induction f with
  | zero =>
    intro h s z x h0 h1 hz hz0 k
    refine k78_2 z h Q ⟨fun _ => k h frP.rf (x.cg ?_ ?_ ?_ ?_), fun c => absurd c (by omega)⟩
    all_goals simp [upE, pbl]
  | succ f ih =>
    intro h s z x h0 h1 hz hz0 k
    have x1 := x.1
    have x3 := x.2.2.1
    refine k78_2 z h Q ⟨fun c => absurd c (by omega), fun _ => ?_⟩
    rw [x1.2.1, x3.1]
    refine ⟨x1.2.2.2.1, s44 x.2.1 o ⟨fun c => k h frP.rf (x.cg ?_ ?_ ?_ ?_), fun c => ⟨by unfold inR; omega, fun h4 e4 => ⟨by unfold inR; omega, ?_⟩⟩⟩⟩
    · unfold pbl; rw [if_neg c]; simp [upE]
    · simp [upE]
    · simp [upE]
    · simp [upE]
    · have w := xR.w0 (v := s 0 0 0 + 1) x
      rw [x3.1] at e4
      rw [← e4] at w
      have hp := o.lt (i := s 0 0 0) (by omega)
      have e : up s 0 0 0 (s 0 0 0 + 1) 0 0 0 = s 0 0 0 + 1 := by simp [upE]
      refine ih h4 _ (z + 1) w.1 (by rw [e]; omega) (by rw [e]; omega) (by omega) (by omega) (fun h1 f1 y => k h1 (w.2.tr f1) (y.cg ?_ ?_ ?_ ?_))
      · rw [e]
        have e2 : pbl t (f + 1) (s 0 0 0) = pbl t f (s 0 0 0 + 1) := by rw [pbl, if_pos (by omega)]
        rw [e2]; simp [upE]
      · simp [upE]
      · simp [upE]
      · simp [upE]
theorem s78 (o : tOk t n) (x : xR h r sd b0 t n s) (h0 : 0 ≤ s 0 0 0) (h1 : s 0 0 0 ≤ n) {K : zH → Prop} (k : ∀ h1, frP (rdA r) h h1 → xR h1 r sd b0 t n (rblk t s) → K h1) : zC0 78 [vR 54 104] h K :=
  cV (k78_0 h _ (s78l o 301 h s 0 x h0 h1 (by omega) (by omega) (fun h1 f1 y => zq0 (k h1 f1 y))))
theorem s79 (x : xR h r sd b0 t n s) (v : -1 ≤ s 0 0 2 ∧ s 0 0 2 < 40) {K : Int → zH → Prop} (k : K (b2i (¬ s 0 0 2 = -1 ∧ s 1 (s 0 0 2) 0 = 4)) h) : zC1 79 [vR 54 104] h K := by
  obtain ⟨x1, x2, x3, x4, x5, x6⟩ := x
  refine cI (k79_0 h _ ?_)
  rw [x3.2.2.1, x1.1]
  refine ⟨fun c => ⟨Or.inl rfl, zq1 ?_⟩, fun c => ⟨x1.2.2.1, by omega, by omega, ?_⟩⟩
  · rwa [b2i_neg (fun d => d.1 c)] at k
  · have y := x4 (s 0 0 2) 0 (by omega) v.2 (by omega)
    rw [show r + 3 = r + 3 + 0 from rfl, y]
    refine ⟨fun d => ⟨Or.inl rfl, zq1 ?_⟩, fun d => ⟨Or.inr rfl, zq1 ?_⟩⟩
    · rwa [b2i_neg (fun e => d e.2)] at k
    · rwa [b2i_pos ⟨c, by omega⟩] at k
theorem s81 {c : Int} {K : Int → zH → Prop} (k : K (opc c) h) : zC1 81 [vI c] h K := by
  unfold opc at k
  refine cI (k81_0 c h _ ⟨fun c1 => zq1 ?_, fun c1 => ⟨fun c2 => zq1 ?_, fun c2 => ⟨fun c3 => zq1 ?_, fun c3 => ⟨fun c4 => zq1 ?_, fun c4 => ⟨fun c5 => zq1 ?_, fun c5 => s33 ⟨fun c6 => zq1 ?_, fun c6 => s34 ⟨fun c7 => zq1 ?_, fun c7 => zq1 ?_⟩⟩⟩⟩⟩⟩⟩)
  · rwa [if_pos c1] at k
  · rwa [if_neg c1, if_pos c2] at k
  · rwa [if_neg c1, if_neg c2, if_pos c3] at k
  · rwa [if_neg c1, if_neg c2, if_neg c3, if_pos c4] at k
  · rwa [if_neg c1, if_neg c2, if_neg c3, if_neg c4, if_pos c5] at k
  · rw [b2i_ne0] at c6; rwa [if_neg c1, if_neg c2, if_neg c3, if_neg c4, if_neg c5, if_pos (Or.inl c6)] at k
  · rw [b2i_ne0] at c6; rw [b2i_eq0] at c7; rwa [if_neg c1, if_neg c2, if_neg c3, if_neg c4, if_neg c5, if_neg (by omega)] at k
  · rw [b2i_ne0] at c7; rwa [if_neg c1, if_neg c2, if_neg c3, if_neg c4, if_neg c5, if_pos (Or.inr c7)] at k
theorem s82 {q : Int} (x : xR h r sd b0 t n s) (v : -1 ≤ s 0 0 2 ∧ s 0 0 2 < 40) {K : Int → zH → Prop} (k : K (b2i (¬ ((q = 0 ∧ ¬ sd = 0) ∨ (q = 2 ∧ (¬ sd = 0 ∨ ¬ s 0 0 5 = 0)) ∨ (q = 5 ∧ (s 0 0 2 = -1 ∨ ¬ s 1 (s 0 0 2) 0 = 4 ∨ (sd = 0 ∧ 2 ≤ s 0 0 4)))))) h) : zC1 82 [vR 54 104, vI q] h K := by
  have x3 := x.2.2.1
  refine cI (k82_0 q h _ ?_)
  rw [x3.2.2.2.2.1, x3.2.2.2.2.2.2]
  refine ⟨fun c => ⟨fun d => ⟨Or.inl rfl, zq1 ?_⟩, fun d => ⟨Or.inr rfl, zq1 ?_⟩⟩, fun c => ⟨fun c2 => ⟨fun d => ⟨Or.inl rfl, zq1 ?_⟩, fun d => ⟨fun e => ⟨Or.inl rfl, zq1 ?_⟩, fun e => ⟨Or.inr rfl, zq1 ?_⟩⟩⟩, fun c2 => ⟨fun c5 => s79 x v ?_, fun c5 => ⟨Or.inr rfl, zq1 ?_⟩⟩⟩⟩
  · rwa [b2i_neg (by omega)] at k
  · rwa [b2i_pos (by omega)] at k
  · rwa [b2i_neg (by omega)] at k
  · rwa [b2i_neg (by omega)] at k
  · rwa [b2i_pos (by omega)] at k
  · rw [x3.2.2.2.2.1, x3.2.2.2.2.2.1]
    refine ⟨fun d => ⟨Or.inl rfl, zq1 ?_⟩, fun d => ⟨fun e => ⟨Or.inr rfl, zq1 ?_⟩, fun e => ⟨fun f => ⟨Or.inl rfl, zq1 ?_⟩, fun f => ⟨Or.inr rfl, zq1 ?_⟩⟩⟩⟩
    · rw [b2i_eq0] at d; rwa [b2i_neg (by omega)] at k
    · rw [b2i_ne0] at d; rwa [b2i_pos (by omega)] at k
    · rw [b2i_ne0] at d; rwa [b2i_neg (by omega)] at k
    · rw [b2i_ne0] at d; rwa [b2i_pos (by omega)] at k
  · rwa [b2i_pos (by omega)] at k
/-- an item is hung into the term around it -/
theorem s84 {it : Int} (x : xR h r sd b0 t n s) (ho : 0 ≤ s 0 0 2 ∧ s 0 0 2 < 40) (hi : 0 ≤ it ∧ it < 40) (hne : ¬ it = s 0 0 2) (hb : -1 ≤ s 1 (s 0 0 2) 6 ∧ s 1 (s 0 0 2) 6 ≤ 100 ∧ 0 ≤ s 1 (s 0 0 2) 7 ∧ s 1 (s 0 0 2) 7 ≤ 100) {K : zH → Prop}
    (k : ∀ h1, frP (rdA r) h h1 → xR h1 r sd b0 t n (rhang s it (s 0 0 2) (s 1 it 0)) → K h1) : zC0 84 [vR 54 104, vI it] h K := by
  have x0 := x
  obtain ⟨x1, x2, x3, x4, x5, x6⟩ := x
  have hr := x1.2.2.2.2
  have g6 : gI h (r + 9) (s 0 0 2) = s 1 (s 0 0 2) 6 := x4 _ 6 ho.1 ho.2 (by omega)
  have g7 : gI h (r + 10) (s 0 0 2) = s 1 (s 0 0 2) 7 := x4 _ 7 ho.1 ho.2 (by omega)
  have g0 : gI h (r + 3) it = s 1 it 0 := x4 _ 0 hi.1 hi.2 (by omega)
  -- part
  have w7 := xR.wi 5 (i := it) (v := s 1 (s 0 0 2) 6) x0 (by omega) (by omega)
  -- the rest, by what stood before
  have rest : ∀ (h7 : zH) (s0 : Int), h7 = sI h (r + 8) it (s 1 (s 0 0 2) 6) → s0 = (if s 1 (s 0 0 2) 6 = 0 then -1 else s 2 (s 0 0 2) 0) → zK 84 57 [vR 54 104, vI it] [vI s0, vI it, vR (r + 7) 4140] h7 (fun rr h1 => rr = none ∧ K h1) := by
    intro h7 s0 e7 e0
    have y7 : xR h7 r sd b0 t n (up s 1 it 5 (s 1 (s 0 0 2) 6)) := by rw [e7]; exact w7.1
    have f7 : frP (rdA r) h h7 := by rw [e7]; exact w7.2
    have w8 := xR.wi 4 (i := it) (v := s0) y7 (by omega) (by omega)
    have w9 := xR.wl (i := s 0 0 2) (v := it) w8.1
    have a9 : gI (sI (sI h7 (r + 3 + 4) it s0) 55 (s 0 0 2) it) 55 (s 0 0 2) = it := by rw [gS1]
    have w10 := xR.wi 6 (i := s 0 0 2) (v := s 1 (s 0 0 2) 6 + 1) w9.1 (by omega) (fun _ _ => by rw [a9]; simp [upE])
    have w11 := xR.wi 7 (i := s 0 0 2) (v := s 1 (s 0 0 2) 7 + (if s 1 it 0 = 5 then 1 else 0)) w10.1 (by omega) (by omega)
    have w12 := xR.wi 8 (i := it) (v := s 1 (s 0 0 2) 7 + (if s 1 it 0 = 5 then 1 else 0)) w11.1 (by omega) (by omega)
    have F := ((((f7.tr w8.2).tr w9.2).tr w10.2).tr w11.2).tr w12.2
    refine k84_57 it s0 it (r + 7) h7 _ ⟨hi.1, hi.2, fun h8 e8 => ?_⟩
    have z8 : gI h8 54 3 = s 0 0 2 := by rw [e8, gS, if_neg (by omega), e7, gS, if_neg (by omega)]; exact x3.2.2.1
    rw [z8]
    refine ⟨ho.1, ho.2, fun h9 e9 => ?_⟩
    have q9 : gR h9 54 2 = r := by rw [e9, e8, e7]; exact x1.1
    have z9 : gI h9 54 3 = s 0 0 2 := by rw [e9, gS, if_neg (by omega)]; exact z8
    have z9a : gI h9 (r + 9) (s 0 0 2) = s 1 (s 0 0 2) 6 := by rw [e9, gS, if_neg (by omega), e8, gS, if_neg (by omega), e7, gS, if_neg (by omega)]; exact g6
    have ty9 : zty 103 r h9 := by rw [e9, e8, e7]; exact x1.2.2.1
    rw [q9, z9, z9a]
    refine ⟨ty9, ho.1, ho.2, by unfold inR; omega, ho.1, ho.2, fun h10 e10 => ?_⟩
    have q10 : gR h10 54 2 = r := by rw [e10]; exact q9
    have z10 : gI h10 54 3 = s 0 0 2 := by rw [e10, gS, if_neg (by omega)]; exact z9
    have z10a : gI h10 (r + 3) it = s 1 it 0 := by rw [e10, gS, if_neg (by omega), e9, gS, if_neg (by omega), e8, gS, if_neg (by omega), e7, gS, if_neg (by omega)]; exact g0
    have z10b : gI h10 (r + 10) (s 0 0 2) = s 1 (s 0 0 2) 7 := by rw [e10, gS, if_neg (by omega), e9, gS, if_neg (by omega), e8, gS, if_neg (by omega), e7, gS, if_neg (by omega)]; exact g7
    have ty10 : zty 103 r h10 := by rw [e10]; exact ty9
    rw [q10, z10, z10a, z10b]
    have fin : ∀ a : Int, a = (if s 1 it 0 = 5 then 1 else 0) → zK 84 115 [vR 54 104, vI it] [vI a, vI (s 1 (s 0 0 2) 7), vI (s 0 0 2), vR (r + 10) 4140] h10 (fun rr h1 => rr = none ∧ K h1) := by
      intro a ea
      refine k84_115 it a (s 1 (s 0 0 2) 7) (s 0 0 2) (r + 10) h10 _ ⟨by rw [ea]; unfold inR; split <;> omega, ho.1, ho.2, fun h11 e11 => ?_⟩
      have q11 : gR h11 54 2 = r := by rw [e11]; exact q10
      have z11 : gI h11 54 3 = s 0 0 2 := by rw [e11, gS, if_neg (by omega)]; exact z10
      have z11a : gI h11 (r + 10) (s 0 0 2) = s 1 (s 0 0 2) 7 + a := by rw [e11, gS1]
      have ty11 : zty 103 r h11 := by rw [e11]; exact ty10
      rw [q11, z11, z11a]
      refine ⟨ty11, ty11, ho.1, ho.2, hi.1, hi.2, fun h12 e12 => zq0 ?_⟩
      have e : h12 = sI (sI (sI (sI (sI h7 (r + 3 + 4) it s0) 55 (s 0 0 2) it) (r + 3 + 6) (s 0 0 2) (s 1 (s 0 0 2) 6 + 1)) (r + 3 + 7) (s 0 0 2) (s 1 (s 0 0 2) 7 + (if s 1 it 0 = 5 then 1 else 0))) (r + 3 + 8) it (s 1 (s 0 0 2) 7 + (if s 1 it 0 = 5 then 1 else 0)) := by
        rw [e12, e11, e10, e9, e8, ea]
      rw [e]
      refine k _ F ?_
      have w := w12.1
      rw [e0] at w
      rw [e0]
      exact w
    refine ⟨ty10, ho.1, ho.2, ty10, hi.1, hi.2, fun c => fin 0 (by rw [if_neg c]), fun c => fin 1 (by rw [if_pos (by omega)])⟩
  refine cV (k84_0 it h _ ?_)
  rw [x1.1, x3.2.2.1, g6]
  refine ⟨x1.2.2.1, x1.2.2.1, ho.1, ho.2, hi.1, hi.2, fun h7 e7 => ?_⟩
  have q7 : gR h7 54 2 = r := by rw [e7]; exact x1.1
  have z7 : gI h7 54 3 = s 0 0 2 := by rw [e7, gS, if_neg (by omega)]; exact x3.2.2.1
  have z7a : gI h7 (r + 9) (s 0 0 2) = s 1 (s 0 0 2) 6 := by rw [e7, gS, if_neg (by omega)]; exact g6
  have ty7 : zty 103 r h7 := by rw [e7]; exact x1.2.2.1
  rw [q7, z7, z7a]
  refine ⟨ty7, ty7, ho.1, ho.2, fun c => ⟨ho.1, ho.2, ?_⟩, fun c => ?_⟩
  · have z : gI h7 55 (s 0 0 2) = s 2 (s 0 0 2) 0 := by rw [e7, gS, if_neg (by omega)]; exact x5 _ ho.1 ho.2 c
    rw [z]
    exact rest h7 _ e7 (by rw [if_neg c])
  · exact rest h7 _ e7 (by rw [if_pos (by omega)])
/-- an item is added -/
theorem s83 {q : Int} (x : xR h r sd b0 t n s) (v : rV n sd b0 s) (hb : 0 ≤ b0 ∧ b0 ≤ 20) (h20 : ¬ s 0 0 1 - b0 = 20) (hsd : sd = 0 ∨ sd = 1) {K : Int → zH → Prop}
    (k : ∀ h1, frP (rdA r) h h1 → xR h1 r sd b0 t n (radd s sd q) → K (s 0 0 1) h1) : zC1 83 [vR 54 104, vI q] h K := by
  have x0 := x
  obtain ⟨x1, x2, x3, x4, x5, x6⟩ := x
  have hr := x1.2.2.2.2
  have vj := v.2.1
  obtain ⟨i1, i2, i3, i4, i5, i6, i7, i8, i9, i10, i11, i12, i13, i14, i15, i16, i17⟩ := v.1
  have w11 := xR.w13 (v := s 0 0 1 + 1) x0
  have w12 := xR.wi 0 (i := s 0 0 1) (v := q) w11.1 (by omega) (by omega)
  have w13 := xR.wi 1 (i := s 0 0 1) (v := -1) w12.1 (by omega) (by omega)
  have w14 := xR.wi 2 (i := s 0 0 1) (v := -1) w13.1 (by omega) (by omega)
  have w15 := xR.wi 3 (i := s 0 0 1) (v := s 0 0 2) w14.1 (by omega) (by omega)
  have w16 := xR.wi 4 (i := s 0 0 1) (v := -1) w15.1 (by omega) (by omega)
  have F := ((((w11.2.tr w12.2).tr w13.2).tr w14.2).tr w15.2).tr w16.2
  have y16 := w16.1
  clear w11 w12 w13 w14 w15 w16
  have e16 : up (up (up (up (up (up s 0 0 1 (s 0 0 1 + 1)) 1 (s 0 0 1) 0 q) 1 (s 0 0 1) 1 (-1)) 1 (s 0 0 1) 2 (-1)) 1 (s 0 0 1) 3 (s 0 0 2)) 1 (s 0 0 1) 4 (-1) = radd0 s q := rfl
  rw [e16] at y16
  have a0 : ∀ j, ¬ j = 1 → radd0 s q 0 0 j = s 0 0 j := fun j hj => by simp [radd0, upE, hj]
  have ao : ∀ i j, ¬ i = s 0 0 1 → radd0 s q 1 i j = s 1 i j := fun i j hj => by simp [radd0, upE, hj]
  have an : radd0 s q 1 (s 0 0 1) 0 = q := by simp [radd0, upE]
  -- behind the counting of rows and deeps
  have go : ∀ h1, xR h1 r sd b0 t n (radd1 (radd0 s q) sd q) → frP (rdA r) h h1 → (gI h1 54 3 = -1 → (∃ v : Int, some (vI (s 0 0 1)) = some (Sum.inl v) ∧ K v h1)) ∧ (¬ gI h1 54 3 = -1 → zC0 84 [vR 54 104, vI (s 0 0 1)] h1 (fun h17 => ∃ v : Int, some (vI (s 0 0 1)) = some (Sum.inl v) ∧ K v h17)) := by
    intro h1 y f1
    have b2 : radd1 (radd0 s q) sd q 0 0 2 = s 0 0 2 := by rw [radd1_o _ _ (by omega), a0 2 (by omega)]
    have e3 := y.2.2.1.2.2.1
    rw [b2] at e3
    rw [e3]
    refine ⟨fun c => zq1 (k h1 f1 ?_), fun c => ?_⟩
    · unfold radd; rw [if_pos c]; exact y
    · have yj := vj (s 0 0 2) (i8 c).1 i7
      have b1 : ∀ i j, radd1 (radd0 s q) sd q 1 i j = radd0 s q 1 i j := fun i j => radd1_o _ _ (by omega)
      refine s84 y (by rw [b2]; omega) (by omega) (by rw [b2]; omega) ?_ (fun h2 f2 z => zq1 (k h2 (f1.tr f2) ?_))
      · rw [b2, b1, b1, ao _ _ (by omega), ao _ _ (by omega)]; omega
      · unfold radd; rw [if_neg c]
        rw [b2, b1, an] at z; exact z
  refine cI (k83_0 q h _ ?_)
  rw [x1.1, x3.2.1]
  refine ⟨x1.2.2.1, x1.2.2.1, by unfold inR; omega, fun h11 e11 => ?_⟩
  have q11 : gR h11 54 2 = r := by rw [e11]; exact x1.1
  rw [q11]
  refine ⟨by rw [e11]; exact x1.2.2.1, by omega, by omega, fun h12 e12 => ?_⟩
  have q12 : gR h12 54 2 = r := by rw [e12]; exact q11
  rw [q12]
  refine ⟨by rw [e12, e11]; exact x1.2.2.1, by omega, by omega, fun h13 e13 => ?_⟩
  have q13 : gR h13 54 2 = r := by rw [e13]; exact q12
  rw [q13]
  refine ⟨by rw [e13, e12, e11]; exact x1.2.2.1, by omega, by omega, fun h14 e14 => ?_⟩
  have q14 : gR h14 54 2 = r := by rw [e14]; exact q13
  have z14 : gI h14 54 3 = s 0 0 2 := by rw [e14, gS, if_neg (by omega), e13, gS, if_neg (by omega), e12, gS, if_neg (by omega), e11, gS, if_neg (by omega)]; exact x3.2.2.1
  rw [q14, z14]
  refine ⟨by rw [e14, e13, e12, e11]; exact x1.2.2.1, by omega, by omega, fun h15 e15 => ?_⟩
  have q15 : gR h15 54 2 = r := by rw [e15]; exact q14
  rw [q15]
  refine ⟨by rw [e15, e14, e13, e12, e11]; exact x1.2.2.1, by omega, by omega, fun h16 e16 => ?_⟩
  have e : h16 = sI (sI (sI (sI (sI (sI h r 13 (s 0 0 1 + 1)) (r + 3 + 0) (s 0 0 1) q) (r + 3 + 1) (s 0 0 1) (-1)) (r + 3 + 2) (s 0 0 1) (-1)) (r + 3 + 3) (s 0 0 1) (s 0 0 2)) (r + 3 + 4) (s 0 0 1) (-1) := by rw [e16, e15, e14, e13, e12, e11]
  rw [← e] at y16 F
  have z5 := y16.2.2.1.2.2.2.2.1
  rw [z5]
  rcases hsd with c | c
  · refine ⟨fun d => absurd c d, fun _ => ?_⟩
    have z7 := y16.2.2.1.2.2.2.2.2.2
    rw [a0 5 (by omega)] at z7
    have k96 : ∀ s1 : Int, s1 = (if q = 2 then 1 else 0) → zK 83 96 [vR 54 104, vI q, vI (s 0 0 1)] [vI s1, vI (gI h16 54 7), vR 54 104] h16 (fun rr h1 => ∃ v : Int, rr = some (Sum.inl v) ∧ K v h1) := by
      intro s1 e1
      rw [z7]
      refine k83_96 q (s 0 0 1) s1 _ h16 _ ⟨by rw [e1]; unfold inR; split <;> omega, fun h18 e18 => ?_⟩
      have z6 : gI h18 54 6 = s 0 0 4 := by rw [e18, gS, if_neg (by omega)]; rw [y16.2.2.1.2.2.2.2.2.1, a0 4 (by omega)]
      have k115 : ∀ s2 : Int, s2 = (if q = 5 then 1 else 0) → zK 83 115 [vR 54 104, vI q, vI (s 0 0 1)] [vI s2, vI (gI h18 54 6), vR 54 104] h18 (fun rr h1 => ∃ v : Int, rr = some (Sum.inl v) ∧ K v h1) := by
        intro s2 e2
        rw [z6]
        refine k83_115 _ (s 0 0 1) s2 _ h18 _ ⟨by rw [e2]; unfold inR; split <;> omega, fun h19 e19 => ?_⟩
        have w := xR.w67 (v := s 0 0 5 + s1) (w := s 0 0 4 + s2) y16
        rw [← e18, ← e19] at w
        have ey : up (up (radd0 s q) 0 0 5 (s 0 0 5 + s1)) 0 0 4 (s 0 0 4 + s2) = radd1 (radd0 s q) sd q := by
          unfold radd1; rw [if_pos c, a0 5 (by omega), a0 4 (by omega), e1, e2]
        rw [ey] at w
        exact go h19 w.1 (F.tr w.2)
      exact ⟨fun d => k115 0 (by rw [if_neg d]), fun d => k115 1 (by rw [if_pos (by omega)])⟩
    exact ⟨fun d => k96 0 (by rw [if_neg d]), fun d => k96 1 (by rw [if_pos (by omega)])⟩
  · refine ⟨fun _ => ?_, fun d => absurd (by omega) d⟩
    have ey : radd1 (radd0 s q) sd q = radd0 s q := by unfold radd1; rw [if_neg (by omega)]
    have g := go h16 (by rw [ey]; exact y16) F
    exact g
/-- a word is read for an item -/
theorem s85 {it b : Int} (o : tOk t n) (x : xR h r sd b0 t n s) (hp : 0 ≤ s 0 0 0 ∧ s 0 0 0 ≤ n) (hi : 0 ≤ it ∧ it < 40) {K : Int → zH → Prop}
    (k : ∀ v h1, frP (rdA r) h h1 → v = b2i (prl t b (s 0 0 0) ≤ pmo b) → gI h1 54 0 = (if prl t b (s 0 0 0) ≤ pmo b then s 0 0 0 + prl t b (s 0 0 0) else s 0 0 0 + pmo b) →
      (prl t b (s 0 0 0) ≤ pmo b → xR h1 r sd b0 t n (up (up (up s 1 it 10 (s 0 0 0)) 1 it 11 (prl t b (s 0 0 0))) 0 0 0 (s 0 0 0 + prl t b (s 0 0 0)))) → K v h1) : zC1 85 [vR 54 104, vI it, vI b] h K := by
  have o2 := o.2.1
  have x0 := x
  obtain ⟨x1, x2, x3, x4, x5, x6⟩ := x
  have hr := prl_rg o b (s 0 0 0) hp.2
  have h170 := x1.2.2.2.2
  have key : zK 85 10 [vR 54 104, vI it, vI b, vU, vU] [vI (pmo b : Int)] h (fun r h1 => ∃ v : Int, r = some (Sum.inl v) ∧ K v h1) := by
    refine k85_10 it b _ _ _ h _ ?_
    rw [x1.2.1, x3.1]
    refine ⟨x1.2.2.2.1, s48 x2 o (by omega) (by unfold pmo; split <;> omega) ⟨fun q => ?_, fun q => ?_⟩⟩
    · have q : prl t b (s 0 0 0) ≤ pmo b := q
      rw [x1.1]
      refine ⟨x1.2.2.1, hi.1, hi.2, fun h7 e7 => ?_⟩
      have q7 : gR h7 54 2 = r := by rw [e7]; exact x1.1
      rw [q7]
      refine ⟨by rw [e7]; exact x1.2.2.1, hi.1, hi.2, fun h8 e8 => ?_⟩
      rw [x3.1] at e7
      have w7 := xR.wi 10 (i := it) (v := s 0 0 0) x0 (by omega) (by omega)
      have w8 := xR.wi 11 (i := it) (v := prl t b (s 0 0 0)) w7.1 (by omega) (by omega)
      have w9 := xR.w0 (v := s 0 0 0 + prl t b (s 0 0 0)) w8.1
      have z8 : gI h8 54 0 = s 0 0 0 := by rw [e8, gS, if_neg (by omega), e7, gS, if_neg (by omega)]; exact x3.1
      rw [z8]
      refine ⟨by unfold inR; unfold prl at hr; omega, fun h9 e9 => ⟨Or.inr rfl, zq1 ?_⟩⟩
      have e : h9 = sI (sI (sI h (r + 3 + 10) it (s 0 0 0)) (r + 3 + 11) it (prl t b (s 0 0 0))) 54 0 (s 0 0 0 + prl t b (s 0 0 0)) := by rw [e9, e8, e7]; rfl
      rw [← e] at w9
      exact k 1 h9 ((w7.2.tr w8.2).tr w9.2) (by rw [b2i_pos q]) (by rw [if_pos q, e, gS1]) (fun _ => w9.1)
    · have q : ¬ prl t b (s 0 0 0) ≤ pmo b := q
      rw [x3.1]
      refine ⟨by unfold inR; unfold pmo; split <;> omega, fun h10 e10 => ⟨Or.inl rfl, zq1 ?_⟩⟩
      have w := xR.w0 (v := s 0 0 0 + pmo b) x0
      rw [← e10] at w
      exact k 0 h10 w.2 (by rw [b2i_neg q]) (by rw [if_neg q, e10, gS1]) (fun c => absurd c q)
  refine cI (k85_0 it b h _ ⟨fun q => ?_, fun q => ?_⟩)
  · unfold pmo at key; rw [if_pos q] at key; exact key
  · unfold pmo at key; rw [if_neg q] at key; exact key
/-- whether a letter may stand -/
theorem s87 {l b : Int} (x : xR h r sd b0 t n s) (hl : 0 ≤ l ∧ l < 26) (hb : b = 0 ∨ b = 1) (hsd : sd = 0 ∨ sd = 1) (h5 : s 5 l 0 = 0 ∨ s 5 l 0 = 1 ∨ s 5 l 0 = 2) {K : Int → zH → Prop}
    (k1 : ¬ (s 5 l 0 = b + 1 ∨ (sd = 0 ∧ s 5 l 0 = 0)) → K 0 h) (k2 : (s 5 l 0 = b + 1 ∨ (sd = 0 ∧ s 5 l 0 = 0)) → ∀ h1, frP (rdA r) h h1 → xR h1 r sd b0 t n (up s 5 l 0 (b + 1)) → K 1 h1) : zC1 87 [vR 54 104, vI (iShl 1 l), vI b] h K := by
  have x0 := x
  obtain ⟨x1, x2, x3, x4, x5, x6⟩ := x
  have b8 := bO_and x6.1 hl
  have b9 := bO_and x6.2 hl
  rcases hb with e | e
  · subst e
    have k55 : (s 5 l 0 = 0 + 1 ∨ (sd = 0 ∧ s 5 l 0 = 0)) → ∀ u3 u4 : zV, zK 87 55 [vR 54 104, vI (iShl 1 l), vI 0, u3, u4] [] h (fun r h1 => ∃ v : Int, r = some (Sum.inl v) ∧ K v h1) := by
      intro c u3 u4
      refine k87_55 _ 0 u3 u4 h _ ⟨fun _ h3 e3 => ⟨Or.inr rfl, zq1 ?_⟩, fun d => absurd rfl d⟩
      have w := xR.w8 x0 hl (by omega)
      rw [← e3] at w
      exact k2 c h3 w.2 w.1
    refine cI (k87_0 _ 0 h _ ⟨fun _ => k87_15 _ 0 _ _ _ h _ ⟨fun _ => k87_31 _ 0 _ _ _ h _ ⟨fun c => ⟨Or.inl rfl, zq1 (k1 ?_)⟩, fun c => ⟨fun d => k55 ?_ _ _, fun d => ⟨fun f => k55 ?_ _ _, fun f => ⟨Or.inl rfl, zq1 (k1 ?_)⟩⟩⟩⟩, fun d => absurd rfl d⟩, fun d => absurd rfl d⟩)
    · rw [b9] at c; omega
    · rw [b9] at c; rw [x3.2.2.2.2.1] at d; omega
    · rw [b8] at f; omega
    · rw [b8] at f; rw [x3.2.2.2.2.1] at d; omega
  · subst e
    have k55 : (s 5 l 0 = 1 + 1 ∨ (sd = 0 ∧ s 5 l 0 = 0)) → ∀ u3 u4 : zV, zK 87 55 [vR 54 104, vI (iShl 1 l), vI 1, u3, u4] [] h (fun r h1 => ∃ v : Int, r = some (Sum.inl v) ∧ K v h1) := by
      intro c u3 u4
      refine k87_55 _ 1 u3 u4 h _ ⟨fun d => absurd d (by omega), fun _ h3 e3 => ⟨Or.inr rfl, zq1 ?_⟩⟩
      have w := xR.w9 x0 hl (by omega)
      rw [← e3] at w
      exact k2 c h3 w.2 w.1
    refine cI (k87_0 _ 1 h _ ⟨fun d => absurd d (by omega), fun _ => k87_15 _ 1 _ _ _ h _ ⟨fun d => absurd d (by omega), fun _ => k87_31 _ 1 _ _ _ h _ ⟨fun c => ⟨Or.inl rfl, zq1 (k1 ?_)⟩, fun c => ⟨fun d => k55 ?_ _ _, fun d => ⟨fun f => k55 ?_ _ _, fun f => ⟨Or.inl rfl, zq1 (k1 ?_)⟩⟩⟩⟩⟩⟩)
    · rw [b8] at c; omega
    · rw [b8] at c; rw [x3.2.2.2.2.1] at d; omega
    · rw [b9] at f; omega
    · rw [b9] at f; rw [x3.2.2.2.2.1] at d; omega
theorem s88 {it : Int} (o : tOk t n) (x : xR h r sd b0 t n s) (hp : 0 ≤ s 0 0 0 ∧ s 0 0 0 ≤ n) (hi : 0 ≤ it ∧ it < 40) {K : Int → zH → Prop}
    (k1 : rkd (t (s 0 0 0 + 1)) = -1 → ∀ h1, frP (rdA r) h h1 → gI h1 54 0 = s 0 0 0 + 1 → K 0 h1)
    (k2 : ¬ rkd (t (s 0 0 0 + 1)) = -1 → ∀ h1, frP (rdA r) h h1 → xR h1 r sd b0 t n (up (up s 1 it 2 (rkd (t (s 0 0 0 + 1)))) 0 0 0 (s 0 0 0 + 2)) → K 1 h1) : zC1 88 [vR 54 104, vI it] h K := by
  have o2 := o.2.1
  have x1 := x.1
  have h170 := x1.2.2.2.2
  have x3 := x.2.2.1
  have w9 := xR.w0 (v := s 0 0 0 + 1) x
  refine cI (k88_0 it h _ ?_)
  rw [x3.1]
  refine ⟨by unfold inR; omega, fun h9 e9 => ?_⟩
  rw [← e9] at w9
  have y1 := w9.1.1
  have y3 := w9.1.2.2.1.1
  rw [upE, if_pos ⟨rfl, rfl, rfl⟩] at y3
  have good : ∀ kd : Int, rkd (t (s 0 0 0 + 1)) = kd → ¬ kd = -1 → ∀ h13, h13 = sI h9 (r + 5) it kd → inR (gI h13 54 0 + 1) ∧ ∀ h14 : zH, h14 = sI h13 54 0 (gI h13 54 0 + 1) → ((1 : Int) = 0 ∨ (1 : Int) = 1) ∧ ∃ v : Int, some (vI 1) = some (Sum.inl v) ∧ K v h14 := by
    intro kd ek hk h13 e13
    have z : gI h13 54 0 = s 0 0 0 + 1 := by rw [e13, gS, if_neg (by omega)]; exact y3
    rw [z]
    refine ⟨by unfold inR; omega, fun h14 e14 => ⟨Or.inr rfl, zq1 ?_⟩⟩
    have w13 := xR.wi 2 (i := it) (v := kd) w9.1 (by omega) (by omega)
    have w14 := xR.w0 (v := s 0 0 0 + 1 + 1) w13.1
    have e : h14 = sI (sI h9 (r + 3 + 2) it kd) 54 0 (s 0 0 0 + 1 + 1) := by rw [e14, e13]
    rw [← e] at w14
    refine k2 (by rw [ek]; exact hk) h14 ((w9.2.tr w13.2).tr w14.2) (w14.1.cg ?_ ?_ ?_ ?_)
    · rw [ek]; simp [upE]; omega
    · intro i j hj; rw [ek]; simp only [upE]; simp
    · simp [upE]
    · simp [upE]
  rw [y1.2.1, y3]
  refine ⟨y1.2.2.2.1, s44 w9.1.2.1 o ?_⟩
  rw [y1.1]
  refine ⟨fun c => ⟨y1.2.2.1, hi.1, hi.2, fun h15 e15 => good 2 ?_ (by omega) h15 e15⟩, fun c => ⟨fun c1 => ⟨y1.2.2.1, hi.1, hi.2, fun h13 e13 => good 0 ?_ (by omega) h13 e13⟩, fun c1 => ⟨fun c2 => ⟨y1.2.2.1, hi.1, hi.2, fun h11 e11 => good 1 ?_ (by omega) h11 e11⟩, fun c2 => ⟨Or.inl rfl, zq1 (k1 ?_ h9 w9.2 y3)⟩⟩⟩⟩
  · rw [c]; rfl
  · rw [c1]; rfl
  · rw [c2]; rfl
  · unfold rkd; rw [if_neg c1, if_neg c2, if_neg c]
theorem s89 {i : Int} (x : xR h r sd b0 t n s) (hi : 0 ≤ i ∧ i < 40) (hp : s 1 i 3 = -1 ∨ (0 ≤ s 1 i 3 ∧ s 1 i 3 < i)) (hit : 0 ≤ s 0 0 1 ∧ s 0 0 1 ≤ 40) {K : Int → zH → Prop}
    (k : ∀ h1, frP (rdA r) h h1 → xR h1 r sd b0 t n (rfin s i) → K 1 h1) : zC1 89 [vR 54 104, vI i] h K := by
  have x0 := x
  obtain ⟨x1, x2, x3, x4, x5, x6⟩ := x
  have h170 := x1.2.2.2.2
  have w5 := xR.wi 9 (i := i) (v := s 0 0 1 - i) x0 (by omega) (by omega)
  have g3 : gI h (r + 6) i = s 1 i 3 := x4 i 3 hi.1 hi.2 (by omega)
  refine cI (k89_0 i h _ ?_)
  rw [x1.1, x3.2.1]
  refine ⟨x1.2.2.1, x1.2.2.1, by unfold inR; omega, hi.1, hi.2, fun h5 e5 => ?_⟩
  have q5 : gR h5 54 2 = r := by rw [e5]; exact x1.1
  have ty5 : zty 103 r h5 := by rw [e5]; exact x1.2.2.1
  have z5 : gI h5 (r + 6) i = s 1 i 3 := by rw [e5, gS, if_neg (by omega)]; exact g3
  rw [q5, z5]
  refine ⟨ty5, hi.1, hi.2, fun h6 e6 => ?_⟩
  have z6 : gI h6 54 3 = s 1 i 3 := by rw [e6, gS1]
  have q6 : gR h6 54 2 = r := by rw [e6]; exact q5
  have ty6 : zty 103 r h6 := by rw [e6]; exact ty5
  have w6 := xR.w3 (v := s 1 i 3) w5.1
  have ee : sI h (r + 3 + 9) i (s 0 0 1 - i) = h5 := by rw [e5]
  rw [ee, ← e6] at w6
  rw [ee] at w5
  rw [z6, q6]
  refine ⟨fun c => ⟨Or.inr rfl, zq1 (k h6 (w5.2.tr w6.2) ?_)⟩, fun c => ?_⟩
  · unfold rfin; rw [if_pos c]; have := w6.1; rw [c] at this; exact this
  · have g0 : gI h6 (r + 3) (s 1 i 3) = s 1 (s 1 i 3) 0 := by
      rw [e6, gS, if_neg (by omega), e5, gS, if_neg (by omega)]; exact x4 _ 0 (by omega) (by omega) (by omega)
    rw [g0]
    refine ⟨ty6, by omega, by omega, fun d => ⟨Or.inr rfl, zq1 (k h6 (w5.2.tr w6.2) ?_)⟩, fun d => ?_⟩
    · unfold rfin; rw [if_neg c, if_neg d]; exact w6.1
    · have z13 : gI h6 r 13 = s 0 0 1 := by rw [e6, gS, if_neg (by omega), e5, gS, if_neg (by omega)]; exact x3.2.1
      rw [z13]
      refine ⟨ty6, ty6, by unfold inR; omega, by omega, by omega, fun h7 e7 => ?_⟩
      have q7 : gR h7 54 2 = r := by rw [e7]; exact q6
      have z7 : gI h7 54 3 = s 1 i 3 := by rw [e7, gS, if_neg (by omega)]; exact z6
      have z7a : gI h7 (r + 6) (s 1 i 3) = s 1 (s 1 i 3) 3 := by
        rw [e7, gS, if_neg (by omega), e6, gS, if_neg (by omega), e5, gS, if_neg (by omega)]; exact x4 _ 3 (by omega) (by omega) (by omega)
      rw [q7, z7, z7a]
      refine ⟨by rw [e7]; exact ty6, by omega, by omega, fun h8 e8 => ⟨Or.inr rfl, zq1 ?_⟩⟩
      have w7 := xR.wi 9 (i := s 1 i 3) (v := s 0 0 1 - s 1 i 3) w6.1 (by omega) (by omega)
      have w8 := xR.w3 (v := s 1 (s 1 i 3) 3) w7.1
      have e9 : sI h6 (r + 3 + 9) (s 1 i 3) (s 0 0 1 - s 1 i 3) = h7 := by rw [e7]
      rw [e9, ← e8] at w8
      rw [e9] at w7
      refine k h8 (((w5.2.tr w6.2).tr w7.2).tr w8.2) ?_
      unfold rfin; rw [if_neg c, if_pos (by omega)]; exact w8.1
end XQ
