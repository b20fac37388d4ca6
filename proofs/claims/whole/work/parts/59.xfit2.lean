/-! The class's search for ways: entering an item, choosing otherwise. -/
/-- what entering changes -/
def feA (j : Int) (b : Nat) (k : Int) : Prop := (57 ≤ b ∧ b ≤ 61 ∧ k = j) ∨ (b = 56 ∧ (k = 10 ∨ k = 11))
def feC (j c : Int) (b : Nat) (k : Int) : Prop := feA j b k ∨ (b = 62 ∧ k = c) ∨ (b = 56 ∧ k = 6)
def fVl (h : zH) (j a l r x f : Int) : Prop := gI h 57 j = a ∧ gI h 58 j = l ∧ gI h 59 j = r ∧ gI h 60 j = x ∧ gI h 61 j = f
theorem fVl.fr {h h1 : zH} {j a l r x f : Int} {P : Nat → Int → Prop} (v : fVl h j a l r x f) (fr : frP P h h1) (d : ∀ b, 57 ≤ b → b ≤ 61 → ¬ P b j) : fVl h1 j a l r x f := by
  obtain ⟨v1, v2, v3, v4, v5⟩ := v
  exact ⟨(fr.1 _ _ (d _ (by omega) (by omega))).trans v1, (fr.1 _ _ (d _ (by omega) (by omega))).trans v2, (fr.1 _ _ (d _ (by omega) (by omega))).trans v3, (fr.1 _ _ (d _ (by omega) (by omega))).trans v4, (fr.1 _ _ (d _ (by omega) (by omega))).trans v5⟩
section XG
variable {h : zH} {t w : Int → Int} {n nd nc m bs v : Int} {T C : pT} {s : pS} {a r : Nat}
theorem rEn.b19 (x : rEn w m 0 0 s) {y : Int} (h0 : 0 < y) (h1 : y < s 0 0 1) (h4 : s 1 (s 1 y 3) 0 = 4) : sbh s y ≤ 19 := by
  have N := x.N
  have p := x.par h0 h1
  have pi := x.pi p.1 ⟨p.2.1, h1, rfl⟩ h4
  have m0 := x.m0 p.1 (show s 1 y 3 < s 0 0 1 by omega)
  have b := x.bh2 h0 h1 h4
  unfold rbh sbh at *
  omega
theorem s101 {j i R : Int} (g : sF t n nd nc T C) (y : xN h a t n nd nc T C) (p : xPt h r w m s) (x : rEn w m 0 0 s) (q : xFt h a r bs) (hj : 0 < j ∧ j < s 0 0 1) (h4 : s 1 (s 1 j 3) 0 = 4) (e10 : gI h 56 10 = i) (e11 : gI h 56 11 = R) (hR : 0 ≤ R ∧ R ≤ 12) (h6 : 0 < rbh s j → 0 ≤ gI h 56 6 ∧ gI h 56 6 < 3) (vr : ∀ c : Nat, (c : Int) ≤ R → vrw nd T (adv T c i) c i) {K : Int → zH → Prop}
    (k1 : 0 < rbh s j → ∀ h1, frP (feC j (gI h 56 6)) h h1 → fVl h1 j i (-1) 0 i R → gI h1 62 (gI h 56 6) = j → gI h1 56 6 = gI h 56 6 + 1 → K 1 h1)
    (k2 : ¬ 0 < rbh s j → ∀ h1, frP (feA j) h h1 → fVl h1 j i (if (R - sbh s j).toNat = 0 then -1 else adv T ((R - sbh s j).toNat - 1) i) ((R - sbh s j).toNat : Nat) (adv T (R - sbh s j).toNat i) (R - ((R - sbh s j).toNat : Nat)) → K 1 h1) : zC1 101 [vR 56 105, vI j] h K := by
  have N := x.N
  have rs := x.bh2 hj.1 hj.2 h4
  have b19 := x.b19 hj.1 hj.2 h4
  refine cI (k101_0 j h _ ⟨by omega, by omega, fun h10 e10' => ⟨by omega, by omega, fun h11 e11' => ⟨by omega, by omega, fun h12 e12 => ⟨by omega, by omega, fun h13 e13 => ⟨by omega, by omega, fun h14 e14 => ?_⟩⟩⟩⟩⟩)
  have i12 : gI h12 56 10 = i := by rw [e12, gS, if_neg (by omega), e11', gS, if_neg (by omega), e10', gS, if_neg (by omega)]; exact e10
  have i13 : gI h13 56 11 = R := by rw [e13, gS, if_neg (by omega), e12, gS, if_neg (by omega), e11', gS, if_neg (by omega), e10', gS, if_neg (by omega)]; exact e11
  rw [i13] at e14
  rw [i12] at e13
  rw [e10] at e10'
  have f14 : frP (fun b k => 57 ≤ b ∧ b ≤ 61 ∧ k = j) h h14 := by
    rw [e14, e13, e12, e11', e10']
    exact ((((frP.rf.st (by omega)).st (by omega)).st (by omega)).st (by omega)).st (by omega)
  have v14 : fVl h14 j i (-1) 0 i R := by
    refine ⟨?_, ?_, ?_, ?_, ?_⟩
    · rw [e14, gS, if_neg (by omega), e13, gS, if_neg (by omega), e12, gS, if_neg (by omega), e11', gS, if_neg (by omega), e10', gS1]
    · rw [e14, gS, if_neg (by omega), e13, gS, if_neg (by omega), e12, gS, if_neg (by omega), e11', gS1]
    · rw [e14, gS, if_neg (by omega), e13, gS, if_neg (by omega), e12, gS1]
    · rw [e14, gS, if_neg (by omega), e13, gS1]
    · rw [e14, gS1]
  clear e14 e13 e12 e11' e10' i12 i13
  have q14 := q.fr f14 (by omega)
  have p14 : xPt h14 r w m s := p.fr f14 (fun b k _ _ => by have := q.2.2.2.2.2; omega)
  have y14 : xN h14 a t n nd nc T C := y.fr f14 (fun b k _ _ => by have := q.2.2.2.2.1; omega)
  rw [q14.2.1]
  refine ⟨p14.1, s69 p14 x hj h4 ⟨fun c => ?_, fun c => ?_⟩⟩
  · rw [q14.2.1]
    have e11 : gI h14 56 11 = R := by rw [f14.1 _ _ (by omega)]; exact e11
    refine ⟨p14.1, s70 p14 x hj h4 ?_⟩
    rw [e11]
    refine ⟨by unfold inR; omega, ?_⟩
    by_cases cn : R - sbh s j < 0
    · refine k101_77 j (R - sbh s j) 0 h14 _ ⟨fun _ => ⟨Or.inr rfl, zq1 (k2 (by omega) h14 (f14.mo (fun b k q => Or.inl q)) ?_)⟩, fun d => absurd (by omega) d⟩
      rw [show (R - sbh s j).toNat = 0 by omega, if_pos rfl, show R - ((0 : Nat) : Int) = R by omega]
      exact v14
    · obtain ⟨c', hc'⟩ : ∃ c' : Nat, R - sbh s j = c' := ⟨(R - sbh s j).toNat, by omega⟩
      have ec : (R - sbh s j).toNat = c' := by omega
      rw [ec] at k2
      rw [hc']
      refine s102l (K := fun _ => True) (R := R) g y14 q14 (by omega) hR c' (by omega) (vr c' (by omega)) (fun h1 f1 a1 a2 a3 a4 => zq1 (k2 (by omega) h1 ((f14.tr (f1.mo (fun b k q => by omega))).mo (fun b k q => Or.inl q)) ⟨?_, a1, a2, a3, a4⟩)) c' 0 h14 (by omega) (vr c' (by omega)) frP.rf (by rw [if_pos rfl]; exact v14.2.1) v14.2.2.1 v14.2.2.2.1 (by rw [show R - ((0 : Nat) : Int) = R by omega]; exact v14.2.2.2.2)
      rw [f1.1 _ _ (by omega)]; exact v14.1
  · have e6 : gI h14 56 6 = gI h 56 6 := f14.1 _ _ (by omega)
    refine s100 (by rw [e6]; exact h6 (by omega)) (fun h1 f1 a1 a2 => ⟨Or.inr rfl, zq1 ?_⟩)
    rw [e6] at f1 a1 a2
    exact k1 (by omega) h1 ((f14.mo (fun b k q => Or.inl (Or.inl q))).tr (f1.mo (fun b k q => Or.inr q))) (v14.fr f1 (fun b _ _ => by omega)) a1 a2
/-- an item is entered -/
theorem s98 {j : Int} {st : fZ} (g : sF t n nd nc T C) (y : xN h a t n nd nc T C) (p : xPt h r w m s) (o : tOk w m) (x : rEn w m 0 0 s) (b : bsI s 0 bs) (q : xFt h a r bs) (hv : 0 ≤ v ∧ v < nd) (fs : fS h st bs j) (vd : fVd nd T s bs st j) (j0 : bs ≤ j) (h1 : j < bs + s 1 bs 9) (h6 : (s 1 j 0 = 5 ∧ 0 < rbh s j) ∨ s 1 j 0 = 2 → 0 ≤ gI h 56 6 ∧ gI h 56 6 < 3) {K : Int → zH → Prop}
    (k5 : s 1 j 0 = 5 → 0 < rbh s j → ∀ h1, frP (feC j (gI h 56 6)) h h1 → fS h1 (fW T st j (fA s bs v st j) (fR T s bs st j) 0) bs (j + 1) → gI h1 62 (gI h 56 6) = j → gI h1 56 6 = gI h 56 6 + 1 → K 1 h1)
    (k6 : s 1 j 0 = 5 → ¬ 0 < rbh s j → ∀ h1, frP (feA j) h h1 → fS h1 (fW T st j (fA s bs v st j) (fR T s bs st j) (fR T s bs st j - sbh s j).toNat) bs (j + 1) → K 1 h1)
    (k0 : ¬ s 1 j 0 = 5 → fR T s bs st j < 1 → ∀ h1, frP (feA j) h h1 → K 0 h1)
    (k2 : s 1 j 0 = 2 → ¬ fR T s bs st j < 1 → ∀ h1, frP (feC j (gI h 56 6)) h h1 → fS h1 (fO T st j (fA s bs v st j) (fR T s bs st j) 0) bs (j + 1) → gI h1 62 (gI h 56 6) = j → gI h1 56 6 = gI h 56 6 + 1 → K 1 h1)
    (k1 : ¬ s 1 j 0 = 5 → ¬ s 1 j 0 = 2 → ¬ fR T s bs st j < 1 → ∀ h1, frP (feA j) h h1 → fS h1 (fO T st j (fA s bs v st j) (fR T s bs st j) 0) bs (j + 1) → K (b2i (okI t w T s (fA s bs v st j) j ∧ (s 1 j 0 = 4 → hpP s j (T (fA s bs v st j) 3)))) h1) : zC1 98 [vR 56 105, vI j, vI v] h K := by
  have N := x.N
  have b1 := b.1
  have sp := x.sp b.1 b.2.1
  have hnd := g.hd
  have vs := fVs_of g x b hv vd j0 h1
  have q5 := q.2.2.2.2.1
  have q6 := q.2.2.2.2.2
  unfold fVs at vs
  refine cI (k98_0 j v h _ (s97 g y p x b q fs vd j0 h1 ?_))
  generalize ea : fA s bs v st j = i at *
  generalize er : fR T s bs st j = R at *
  have f2 : frP (fun b k => b = 56 ∧ (k = 10 ∨ k = 11)) h (sI (sI h 56 10 i) 56 11 R) := (frP.rf.st ⟨rfl, Or.inl rfl⟩).st ⟨rfl, Or.inr rfl⟩
  have e10 : gI (sI (sI h 56 10 i) 56 11 R) 56 10 = i := by rw [gS, if_neg (by omega), gS1]
  have e11 : gI (sI (sI h 56 10 i) 56 11 R) 56 11 = R := gS1
  generalize sI (sI h 56 10 i) 56 11 R = h2 at *
  have Q2 := q.fr f2 (by omega)
  have p2 : xPt h2 r w m s := p.fr f2 (fun b k _ _ => by omega)
  have y2 : xN h2 a t n nd nc T C := y.fr f2 (fun b k _ _ => by omega)
  have fs2 : fS h2 st bs j := fs.fr f2 (fun b k _ _ _ _ => by omega)
  have e6 : gI h2 56 6 = gI h 56 6 := f2.1 _ _ (by omega)
  have po : gI h2 (r + 3) j = s 1 j 0 := p2.2.2.1 j 0 (by omega) (by omega) (by omega)
  rw [Q2.2.1, po]
  refine ⟨p2.1, by omega, by omega, fun c5 => ?_, fun c5 => ?_⟩
  · rw [e11, e10]
    refine ⟨fun cr => ⟨by omega, by omega, fun h13 e13 => ⟨by omega, by omega, ?_⟩⟩, fun cr => ⟨Or.inl rfl, zq1 (k0 c5 (by omega) h2 (f2.mo (fun b k q => Or.inr q)))⟩⟩
    have va := vs.2.2.1 cr
    have sz := g.sz va.1 va.2
    have r12 := vs.2.2.2
    rw [show gI h13 56 10 = i by rw [e13, gS, if_neg (by omega)]; exact e10]
    intro h14 e14
    refine ⟨by omega, by omega, fun h15 e15 => ?_⟩
    have f15 : frP (fun b k => 57 ≤ b ∧ b ≤ 59 ∧ k = j) h2 h15 := by rw [e15, e14, e13]; exact ((frP.rf.st (by omega)).st (by omega)).st (by omega)
    have Q15 := Q2.fr f15 (by omega)
    have i15 : gI h15 56 10 = i := by rw [f15.1 _ _ (by omega)]; exact e10
    have s15 : gI h15 (a + 9) i = T i 6 := by rw [f15.1 _ _ (by omega)]; exact (y2.2.2.2.1 _ va.1 va.2).2.2.2.2.2.2.1
    rw [Q15.1, i15, s15]
    refine ⟨Q15.2.2.2.1, by omega, by omega, by unfold inR; omega, by omega, by omega, fun h16 e16 => ?_⟩
    have r16 : gI h16 56 11 = R := by rw [e16, gS, if_neg (by omega), f15.1 _ _ (by omega)]; exact e11
    rw [r16]
    refine ⟨by unfold inR; omega, by omega, by omega, fun h17 e17 => ?_⟩
    have f17 : frP (fun b k => 57 ≤ b ∧ b ≤ 61 ∧ k = j) h2 h17 := by rw [e17, e16]; exact ((f15.mo (fun b k q => by omega)).st (by omega)).st (by omega)
    have v17 : fVl h17 j i i 1 (i + T i 6) (R - 1) := by
      refine ⟨?_, ?_, ?_, ?_, ?_⟩
      · rw [e17, gS, if_neg (by omega), e16, gS, if_neg (by omega), e15, gS, if_neg (by omega), e14, gS, if_neg (by omega), e13, gS1]
      · rw [e17, gS, if_neg (by omega), e16, gS, if_neg (by omega), e15, gS, if_neg (by omega), e14, gS1]
      · rw [e17, gS, if_neg (by omega), e16, gS, if_neg (by omega), e15, gS1]
      · rw [e17, gS, if_neg (by omega), e16, gS1]
      · rw [e17, gS1]
    clear e17 e16 e15 e14 e13 r16 s15 i15 Q15 f15
    have Q17 := Q2.fr f17 (by omega)
    have p17 : xPt h17 r w m s := p2.fr f17 (fun b k _ _ => by omega)
    have y17 : xN h17 a t n nd nc T C := y2.fr f17 (fun b k _ _ => by omega)
    have i17 : gI h17 56 10 = i := by rw [f17.1 _ _ (by omega)]; exact e10
    have F17 : frP (feA j) h h17 := (f2.mo (fun b k q => Or.inr q)).tr (f17.mo (fun b k q => Or.inl q))
    have fs17 : fS h17 (fO T st j i R 0) bs (j + 1) := by
      have : fO T st j i R 0 = fU st j i i 1 (i + T i 6) (R - 1) := by unfold fO; rw [show i + ((0 : Nat) : Int) = i by omega]
      rw [this]
      exact fS_u (fs2.fr f17 (fun b k _ _ _ _ => by omega)) v17
    have k17 : gI h17 (a + 3) i = T i 0 := (y17.2.2.2.1 _ va.1 va.2).1
    rw [Q17.1, i17, k17]
    have o17 : gI h17 (r + 3) j = s 1 j 0 := p17.2.2.1 j 0 (by omega) (by omega) (by omega)
    have d17 : gI h17 (r + 5) j = s 1 j 2 := p17.2.2.1 j 2 (by omega) (by omega) (by omega)
    have ct := x.ct (j := j) (by omega) (by omega)
    have main : ∀ s0 : Int, (s0 = 0 ↔ ¬ T i 0 = 2) → zK 98 118 [vR 56 105, vI j, vI v, vU] [vI s0] h17 (fun r h1 => ∃ v : Int, r = some (Sum.inl v) ∧ K v h1) := by
      intro s0 hs0
      refine k98_118 j _ _ s0 h17 _ ?_
      rw [Q17.2.1, Q17.1, o17, d17, i17, k17]
      refine ⟨p17.1, by omega, by omega, fun c1 => ⟨p17.1, by omega, by omega, fun d => ⟨Or.inr rfl, zq1 ?_⟩, fun d => ⟨p17.1, by omega, by omega, Q17.2.2.2.1, by omega, by omega, fun e => ⟨Or.inl rfl, zq1 ?_⟩, fun e => ⟨Or.inr rfl, zq1 ?_⟩⟩⟩, fun c1 => ⟨fun c2 => ?_, fun c2 => ⟨fun c3 => ⟨fun d => ⟨Or.inl rfl, zq1 ?_⟩, fun d => ⟨Q17.2.2.2.1, p17.1, ?_⟩⟩, fun c3 => ⟨fun c4 => ⟨fun d => ⟨Or.inl rfl, zq1 ?_⟩, fun d => ⟨Q17.2.2.2.1, p17.1, ?_⟩⟩, fun c4 => ⟨Or.inr rfl, zq1 ?_⟩⟩⟩⟩⟩
      · have := k1 c5 (by omega) (by omega) h17 F17 fs17
        rwa [b2i_pos ⟨⟨fun _ => Or.inl d, fun c => by omega, fun c => by omega⟩, fun c => by omega⟩] at this
      · have := k1 c5 (by omega) (by omega) h17 F17 fs17
        rwa [b2i_neg (fun z => by have := z.1.1 c1; omega)] at this
      · have := k1 c5 (by omega) (by omega) h17 F17 fs17
        rwa [b2i_pos ⟨⟨fun _ => Or.inr (by omega), fun c => by omega, fun c => by omega⟩, fun c => by omega⟩] at this
      · have E6 : gI h17 56 6 = gI h 56 6 := by rw [f17.1 _ _ (by omega)]; exact e6
        refine s100 (by rw [E6]; exact h6 (Or.inr (by omega))) (fun h1 f1 a1 a2 => ⟨Or.inr rfl, zq1 ?_⟩)
        rw [E6] at f1 a1 a2
        exact k2 (by omega) (by omega) h1 ((F17.mo (fun b k q => Or.inl q)).tr (f1.mo (fun b k q => Or.inr q))) (fs17.fr f1 (fun b k _ _ _ _ => by omega)) a1 a2
      · have := k1 c5 (by omega) (by omega) h17 F17 fs17
        rwa [b2i_neg (fun z => by have := (z.1.2.1 (by omega)).1; omega)] at this
      · have := k1 c5 (by omega) (by omega) h17 F17 fs17
        refine s63 (i := i) (j := j) g y17 p17 o x va (by omega) (by omega) ⟨fun d1 => ⟨Or.inl rfl, zq1 ?_⟩, fun d1 => ⟨Or.inr rfl, zq1 ?_⟩⟩
        · rw [b2i_eq0] at d1
          rwa [b2i_neg (fun z => d1 (z.1.2.1 (by omega)).2)] at this
        · rw [b2i_ne0] at d1
          rwa [b2i_pos ⟨⟨fun c => by omega, fun _ => ⟨by omega, d1⟩, fun c => by omega⟩, fun c => by omega⟩] at this
      · have := k1 c5 (by omega) (by omega) h17 F17 fs17
        rwa [b2i_neg (fun z => by have := (z.1.2.2 (by omega)).1; omega)] at this
      · have := k1 c5 (by omega) (by omega) h17 F17 fs17
        refine s63 (i := i) (j := j) g y17 p17 o x va (by omega) (by omega) ⟨fun d1 => ⟨Or.inl rfl, zq1 ?_⟩, fun d1 => ?_⟩
        · rw [b2i_eq0] at d1
          rwa [b2i_neg (fun z => d1 (z.1.2.2 (by omega)).2)] at this
        · rw [b2i_ne0] at d1
          refine s99 g y17 p17 x Q17 (by omega) va i17 ⟨fun d2 => ⟨Or.inl rfl, zq1 ?_⟩, fun d2 => ⟨Or.inr rfl, zq1 ?_⟩⟩
          · rw [b2i_eq0] at d2
            rwa [b2i_neg (fun z => d2 (z.2 (by omega)))] at this
          · rw [b2i_ne0] at d2
            rwa [b2i_pos ⟨⟨fun c => by omega, fun c => by omega, fun _ => ⟨by omega, d1⟩⟩, fun _ => d2⟩] at this
      · have := k1 c5 (by omega) (by omega) h17 F17 fs17
        rwa [b2i_pos ⟨⟨fun c => by omega, fun c => by omega, fun c => by omega⟩, fun c => by omega⟩] at this
    exact ⟨Q17.2.2.2.1, by omega, by omega, fun c => main 0 ⟨fun _ => c, fun _ => rfl⟩, fun c => main 1 ⟨fun d => by omega, fun d => absurd d c⟩⟩
  · have c5 : s 1 j 0 = 5 := Classical.not_not.1 c5
    have ro := x.ro (y := j) (by omega) (by omega) c5
    have jb : bs < j := by
      have : ¬ j = bs := fun c => b.2.2 (c ▸ c5)
      omega
    have vb := vs.1 jb ro.2
    refine s101 (i := i) (R := R) g y2 p2 x Q2 (by omega) ro.2 e10 e11 (by have := vs.2.2.2; omega) (fun c => by rw [e6]; exact h6 (Or.inl ⟨c5, c⟩)) (fun c hc => ?_) (fun c h1 f1 a1 a2 a3 => ⟨Or.inr rfl, zq1 ?_⟩) (fun c h1 f1 a1 => ⟨Or.inr rfl, zq1 ?_⟩)
    · have := g.vk vb.1 vb.2.1 (k := (T (st 0 (s 1 j 3)) 3 - R).toNat) (c := c) (by omega)
      rw [adv_add, ← vb.2.2.2.2] at this
      exact this
    · rw [e6] at f1 a2 a3
      refine k5 c5 c h1 ((f2.mo (fun b k q => Or.inl (Or.inr q))).tr f1) ?_ a2 a3
      unfold fW
      rw [if_pos rfl, show R - ((0 : Nat) : Int) = R by omega]
      exact fS_u (fs2.fr f1 (fun b k _ _ _ _ => by unfold feC feA; omega)) a1
    · refine k6 c5 c h1 ((f2.mo (fun b k q => Or.inr q)).tr f1) ?_
      unfold fW
      exact fS_u (fs2.fr f1 (fun b k _ _ _ _ => by unfold feA; omega)) a1
/-- an item chooses otherwise -/
theorem s96d {j i R : Int} {st : fZ} {c : Nat} (p : xPt h r w m s) (x : rEn w m 0 0 s) (q : xFt h a r bs) (hj : 0 ≤ j ∧ j < s 0 0 1) (jb : bs ≤ j) (h2 : s 1 j 0 = 2) (fs : fS h (fO T st j i R c) bs (j + 1)) (hi : 0 ≤ i ∧ i + T i 6 ≤ 60) (hc : (c : Int) < T i 6) {K : Int → zH → Prop}
    (k1 : (c : Int) + 1 < T i 6 → ∀ h1, frP (fun b k => 57 ≤ b ∧ b ≤ 61 ∧ k = j) h h1 → fS h1 (fO T st j i R (c + 1)) bs (j + 1) → K 1 h1) (k0 : ¬ (c : Int) + 1 < T i 6 → ∀ h1, frP (fun b k => 57 ≤ b ∧ b ≤ 61 ∧ k = j) h h1 → K 0 h1) : zC1 96 [vR 56 105, vI j] h K := by
  have N := x.N
  have po : gI h (r + 3) j = s 1 j 0 := p.2.2.1 j 0 (by omega) (by omega) (by omega)
  have fj := fs j jb (by omega)
  unfold fO at fj
  rw [fU_0, fU_1, fU_2, fU_3, fU_4] at fj
  refine cI (k96_0 j h _ ?_)
  rw [q.2.1, po, fj.1]
  refine ⟨p.1, by omega, by omega, fun d => absurd h2 d, fun _ => ⟨by omega, by omega, by unfold inR; omega, by omega, by omega, fun h6 e6 => ?_⟩⟩
  have f6 : frP (fun b k => b = 57 ∧ k = j) h h6 := by rw [e6]; exact frP.rf.st ⟨rfl, rfl⟩
  have e60 : gI h6 60 j = i + T i 6 := by rw [f6.1 _ _ (by omega)]; exact fj.2.2.2.1
  have e57 : gI h6 57 j = i + c + 1 := by rw [e6, gS1]
  rw [e60, e57]
  refine ⟨by omega, by omega, by omega, by omega, fun d => ⟨Or.inl rfl, zq1 (k0 (by omega) h6 (f6.mo (fun b k q => by omega)))⟩, fun d => ⟨Or.inr rfl, zq1 (k1 (by omega) h6 (f6.mo (fun b k q => by omega)) ?_)⟩⟩
  intro y y0 y1
  by_cases e : y = j
  · subst e
    unfold fO
    rw [fU_0, fU_1, fU_2, fU_3, fU_4, f6.1 58 _ (by omega), f6.1 59 _ (by omega), f6.1 61 _ (by omega)]
    exact ⟨by rw [e57]; omega, fj.2.1, fj.2.2.1, e60, fj.2.2.2.2⟩
  · have := fs y y0 y1
    unfold fO at this ⊢
    rw [fU_o e, fU_o e, fU_o e, fU_o e, fU_o e] at this
    rw [fU_o e, fU_o e, fU_o e, fU_o e, fU_o e]
    rw [f6.1 57 _ (by omega), f6.1 58 _ (by omega), f6.1 59 _ (by omega), f6.1 60 _ (by omega), f6.1 61 _ (by omega)]
    exact this
theorem s96r {j i R : Int} {st : fZ} {c : Nat} (g : sF t n nd nc T C) (y : xN h a t n nd nc T C) (p : xPt h r w m s) (x : rEn w m 0 0 s) (q : xFt h a r bs) (hj : 0 < j ∧ j < s 0 0 1) (jb : bs ≤ j) (h5 : s 1 j 0 = 5) (h4 : s 1 (s 1 j 3) 0 = 4) (fs : fS h (fW T st j i R c) bs (j + 1)) (hR : 0 ≤ R ∧ R ≤ 12) (hc : c ≤ 13) (hn : sbh s j < R - c → 0 ≤ adv T c i ∧ adv T c i < nd) {K : Int → zH → Prop}
    (k1 : sbh s j < R - c → ∀ h1, frP (fun b k => 57 ≤ b ∧ b ≤ 61 ∧ k = j) h h1 → fS h1 (fW T st j i R (c + 1)) bs (j + 1) → K 1 h1) (k0 : ¬ sbh s j < R - c → ∀ h1, frP (fun b k => 57 ≤ b ∧ b ≤ 61 ∧ k = j) h h1 → K 0 h1) : zC1 96 [vR 56 105, vI j] h K := by
  have N := x.N
  have po : gI h (r + 3) j = s 1 j 0 := p.2.2.1 j 0 (by omega) (by omega) (by omega)
  have fj := fs j jb (by omega)
  unfold fW at fj
  rw [fU_0, fU_1, fU_2, fU_3, fU_4] at fj
  refine cI (k96_0 j h _ ?_)
  rw [q.2.1, po, fj.2.2.2.2]
  refine ⟨p.1, by omega, by omega, fun _ => ⟨by omega, by omega, p.1, s70 p x hj h4 ⟨fun d => ?_, fun d => ⟨Or.inl rfl, zq1 (k0 d h frP.rf)⟩⟩⟩, fun d => absurd (show ¬ s 1 j 0 = 2 by omega) d⟩
  refine s102 g y q (by omega) fj.2.2.2.1 (hn d) (by rw [fj.2.2.2.2]; omega) (by rw [fj.2.2.1]; omega) (fun h1 f1 a1 a2 a3 a4 => ⟨Or.inr rfl, zq1 (k1 d h1 (f1.mo (fun b k q => by omega)) ?_)⟩)
  intro z z0 z1
  by_cases e : z = j
  · subst e
    unfold fW
    rw [fU_0, fU_1, fU_2, fU_3, fU_4, f1.1 57 _ (by omega), a1, a2, a3, a4, if_neg (by omega), adv_s]
    exact ⟨fj.1, rfl, by rw [fj.2.2.1]; omega, rfl, by rw [fj.2.2.2.2]; omega⟩
  · have := fs z z0 z1
    unfold fW at this ⊢
    rw [fU_o e, fU_o e, fU_o e, fU_o e, fU_o e] at this
    rw [fU_o e, fU_o e, fU_o e, fU_o e, fU_o e]
    rw [f1.1 57 _ (by omega), f1.1 58 _ (by omega), f1.1 59 _ (by omega), f1.1 60 _ (by omega), f1.1 61 _ (by omega)]
    exact this
end XG
