/-! The class's search for ways: what is done at an item. -/
/-- a rule's pattern in the class's heap -/
def xPt (h : zH) (r : Nat) (w : Int → Int) (m : Int) (s : pS) : Prop := zty 103 r h ∧ Txt h (r + 1) w m ∧ (∀ i (j : Nat), 0 ≤ i → i < s 0 0 1 → j < 12 → gI h (r + 3 + j) i = s 1 i j) ∧ gI h r 14 = s 0 0 1
def fiA (b : Nat) (_ : Int) : Prop := 56 ≤ b ∧ b ≤ 62
theorem xPt.fr {P : Nat → Int → Prop} {h h1 : zH} {r : Nat} {w : Int → Int} {m : Int} {s : pS} (x : xPt h r w m s) (f : frP P h h1) (d : ∀ b k, r ≤ b → b < r + 15 → ¬ P b k) : xPt h1 r w m s := by
  obtain ⟨x1, x2, x3, x4⟩ := x
  refine ⟨by rw [f.ty]; exact x1, x2.fr f (fun k => ⟨d _ _ (by omega) (by omega), d _ _ (by omega) (by omega)⟩), fun i j h0 h1 h2 => ?_, ?_⟩
  · rw [f.1 _ _ (d _ _ (by omega) (by omega))]; exact x3 i j h0 h1 h2
  · rw [f.1 _ _ (d _ _ (by omega) (by omega))]; exact x4
/-- the search's own fields -/
def xFt (h : zH) (a r : Nat) (bs : Int) : Prop := gR h 56 7 = a ∧ gR h 56 8 = r ∧ gI h 56 9 = bs ∧ zty 102 a h ∧ (a + 16 ≤ 56 ∨ 63 ≤ a) ∧ 63 ≤ r
/-- what items took, up to j -/
def fS (h : zH) (st : fZ) (bs j : Int) : Prop := ∀ i, bs ≤ i → i < j → gI h 57 i = st 0 i ∧ gI h 58 i = st 1 i ∧ gI h 59 i = st 2 i ∧ gI h 60 i = st 3 i ∧ gI h 61 i = st 4 i
theorem fS.fr {h h1 : zH} {st : fZ} {bs j : Int} {P : Nat → Int → Prop} (x : fS h st bs j) (f : frP P h h1) (d : ∀ b k, 57 ≤ b → b ≤ 61 → bs ≤ k → k < j → ¬ P b k) : fS h1 st bs j := fun i h0 h1 => by
  rw [f.1 _ _ (d _ _ (by omega) (by omega) h0 h1), f.1 _ _ (d _ _ (by omega) (by omega) h0 h1), f.1 _ _ (d _ _ (by omega) (by omega) h0 h1), f.1 _ _ (d _ _ (by omega) (by omega) h0 h1), f.1 _ _ (d _ _ (by omega) (by omega) h0 h1)]
  exact x i h0 h1
theorem fS_u {h : zH} {st : fZ} {bs j a l r y f : Int} (x : fS h st bs j) (e : gI h 57 j = a ∧ gI h 58 j = l ∧ gI h 59 j = r ∧ gI h 60 j = y ∧ gI h 61 j = f) : fS h (fU st j a l r y f) bs (j + 1) := fun i h0 h1 => by
  by_cases c : i = j
  · subst c; rw [fU_0, fU_1, fU_2, fU_3, fU_4]; exact e
  · rw [fU_o c, fU_o c, fU_o c, fU_o c, fU_o c]; exact x i h0 (by omega)
section XF
variable {h : zH} {t w : Int → Int} {n nd nc m bs v : Int} {T C : pT} {s : pS} {a r : Nat}
theorem xFt.fr {h1 : zH} {P : Nat → Int → Prop} (x : xFt h a r bs) (f : frP P h h1) (d : ¬ P 56 9) : xFt h1 a r bs := by
  obtain ⟨x1, x2, x3, x4, x5⟩ := x
  exact ⟨by rw [f.rr]; exact x1, by rw [f.rr]; exact x2, by rw [f.1 _ _ d]; exact x3, by rw [f.ty]; exact x4, x5⟩
theorem s63 {i j : Int} (g : sF t n nd nc T C) (y : xN h a t n nd nc T C) (p : xPt h r w m s) (o : tOk w m) (x : rEn w m 0 0 s) (hi : 0 ≤ i ∧ i < nd) (hj : 0 ≤ j ∧ j < s 0 0 1) (h34 : s 1 j 0 = 3 ∨ s 1 j 0 = 4) {K : Int → zH → Prop} (k : K (b2i (nmd t w T s i j)) h) : zC1 63 [vR a 102, vI i, vR r 103, vI j] h K := by
  have N := x.N
  have hnd := g.hd
  have y1 := y.2.2.2.1 i hi.1 hi.2
  have p1 := p.2.2.1 j 11 hj.1 hj.2 (by omega)
  have p2 := p.2.2.1 j 10 hj.1 hj.2 (by omega)
  have ct := x.ct hj.1 hj.2
  have nm := g.nm hi.1 hi.2
  have wd : 0 ≤ s 1 j 10 ∧ s 1 j 10 + s 1 j 11 ≤ m := by omega
  clear ct
  refine cI (k63_0 a i r j h _ ?_)
  rw [y1.2.2.2.2.2.2.2.2.2, y1.2.2.2.2.2.2.2.2.1, show gI h (r + 14) j = s 1 j 11 from p1, show gI h (r + 13) j = s 1 j 10 from p2]
  refine ⟨by omega, by omega, by omega, by omega, fun c => ⟨Or.inl rfl, zq1 ?_⟩, fun c => ⟨by omega, by omega, by omega, by omega, s47 y.1 p.2.1 g.1 o (by omega) (by omega) (by omega) ⟨fun d => ⟨Or.inl rfl, zq1 ?_⟩, fun d => ⟨Or.inr rfl, zq1 ?_⟩⟩⟩⟩
  · rwa [b2i_neg (fun d => c d.1)] at k
  · rw [b2i_eq0] at d; rwa [b2i_neg (fun e => d e.2)] at k
  · rw [b2i_ne0] at d; rwa [b2i_pos ⟨by omega, d⟩] at k
theorem s69 {j : Int} (p : xPt h r w m s) (x : rEn w m 0 0 s) (hj : 0 < j ∧ j < s 0 0 1) (h4 : s 1 (s 1 j 3) 0 = 4) {K : Int → zH → Prop} (k : K (rbh s j) h) : zC1 69 [vR r 103, vI j] h K := by
  have N := x.N
  have pa := x.par hj.1 hj.2
  have p3 : gI h (r + 6) j = s 1 j 3 := p.2.2.1 j 3 (by omega) hj.2 (by omega)
  have p8 : gI h (r + 11) j = s 1 j 8 := p.2.2.1 j 8 (by omega) hj.2 (by omega)
  have p7 : gI h (r + 10) (s 1 j 3) = s 1 (s 1 j 3) 7 := p.2.2.1 _ 7 (by omega) (by omega) (by omega)
  have rs := x.bh2 hj.1 hj.2 h4
  have pi := x.pi pa.1 ⟨pa.2.1, hj.2, rfl⟩ h4
  have r2 := x.rs pa.1 h4 (s 1 j 5).toNat ⟨pa.2.1, hj.2, rfl⟩ (by omega)
  have m0 := x.1.1.2.1 (s 1 j 3) pa.1 (by omega)
  have i01 := iR01 s j
  unfold rbh sbh at rs
  refine cI (k69_0 r j h _ ?_)
  rw [p3, p8, p7]
  exact ⟨by omega, by omega, fun _ => ⟨by omega, by omega, by omega, by omega, by omega, by omega, by unfold inR; omega, zq1 k⟩, fun c => absurd (show ¬ s 1 j 3 = -1 by omega) c⟩
theorem s70 {j : Int} (p : xPt h r w m s) (x : rEn w m 0 0 s) (hj : 0 < j ∧ j < s 0 0 1) (h4 : s 1 (s 1 j 3) 0 = 4) {K : Int → zH → Prop} (k : K (sbh s j) h) : zC1 70 [vR r 103, vI j] h K := by
  have N := x.N
  have pa := x.par hj.1 hj.2
  have p3 : gI h (r + 6) j = s 1 j 3 := p.2.2.1 j 3 (by omega) hj.2 (by omega)
  have p5 : gI h (r + 8) j = s 1 j 5 := p.2.2.1 j 5 (by omega) hj.2 (by omega)
  have p8 : gI h (r + 11) j = s 1 j 8 := p.2.2.1 j 8 (by omega) hj.2 (by omega)
  have p7 : gI h (r + 10) (s 1 j 3) = s 1 (s 1 j 3) 7 := p.2.2.1 _ 7 (by omega) (by omega) (by omega)
  have p6 : gI h (r + 9) (s 1 j 3) = s 1 (s 1 j 3) 6 := p.2.2.1 _ 6 (by omega) (by omega) (by omega)
  have rs := x.bh2 hj.1 hj.2 h4
  have pi := x.pi pa.1 ⟨pa.2.1, hj.2, rfl⟩ h4
  have m0 := x.m0 pa.1 (show s 1 j 3 < s 0 0 1 by omega)
  unfold rbh sbh at rs
  refine cI (k70_0 r j h _ ?_)
  rw [p3, p8, p7, p5, p6]
  exact ⟨by omega, by omega, fun _ => ⟨by omega, by omega, by omega, by omega, by unfold inR; omega, by unfold inR; omega, by omega, by omega, by omega, by omega, by unfold inR; omega, by unfold inR; omega, zq1 k⟩, fun c => absurd (show ¬ s 1 j 3 = -1 by omega) c⟩
/-- the first item with a letter, in the whole pattern -/
theorem s68 {l : Int} (p : xPt h r w m s) (x : rEn w m 0 0 s) (hb : 0 ≤ bs ∧ bs ≤ s 0 0 1) {K : Int → zH → Prop} (k : K (hF s bs l (s 0 0 1)) h) : zC1 68 [vR r 103, vI bs, vI l] h K := by
  have N := x.N
  have key : ∀ (f : Nat) (z : Int) (u1 : zV), s 0 0 1 - z = f → 0 ≤ z → hF s bs l (s 0 0 1) = fst (fun i => s 1 i 1 = l) f z → zK 68 2 [vR r 103, u1, vI l, vI z] [] h (fun r h1 => ∃ v : Int, r = some (Sum.inl v) ∧ K v h1) := by
    intro f
    induction f with
    | zero =>
      intro z u1 hz z0 e
      refine k68_2 r u1 l z h _ ?_
      rw [p.2.2.2]
      refine ⟨fun _ => zq1 ?_, fun c => absurd (by omega) c⟩
      rw [e] at k; exact k
    | succ f ih =>
      intro z u1 hz z0 e
      have p1 : gI h (r + 4) z = s 1 z 1 := p.2.2.1 z 1 z0 (by omega) (by omega)
      refine k68_2 r u1 l z h _ ?_
      rw [p.2.2.2, p1]
      refine ⟨fun c => absurd c (by omega), fun _ => ⟨by omega, by omega, fun c => ⟨by unfold inR; omega, ih (z + 1) u1 (by omega) (by omega) ?_⟩, fun c => zq1 ?_⟩⟩
      · rw [e, fst_n (P := fun i => s 1 i 1 = l) c]
      · rw [e, fst_y (P := fun i => s 1 i 1 = l) (Classical.not_not.1 c)] at k; exact k
  exact cI (k68_0 r bs l h _ (key (s 0 0 1 - bs).toNat bs _ (by omega) hb.1 rfl))
theorem hF_all {l j e : Int} (h0 : 0 ≤ bs) (hj : bs ≤ j) (hl : s 1 j 1 = l) (hj1 : j < e) : hF s bs l e = if hF s bs l j = -1 then j else hF s bs l j := by
  have key : ∀ d : Nat, hF s bs l (j + 1 + d) = if hF s bs l j = -1 then j else hF s bs l j := by
    intro d
    induction d with
    | zero =>
      rw [show j + 1 + ((0 : Nat) : Int) = j + 1 by omega, hF_s h0 hj, if_pos hl]
    | succ d ih =>
      rw [show j + 1 + ((d + 1 : Nat) : Int) = (j + 1 + d) + 1 by omega, hF_s h0 (by omega), ih]
      rw [if_neg]
      rcases hF_rg (s := s) (bs := bs) (l := l) hj with q | q
      · rw [if_pos q]; omega
      · rw [if_neg (by omega)]; omega
  have := key (e - j - 1).toNat
  rwa [show j + 1 + ((e - j - 1).toNat : Int) = e by omega] at this
/-- where it begins -/
theorem s97 {j : Int} {st : fZ} (g : sF t n nd nc T C) (y : xN h a t n nd nc T C) (p : xPt h r w m s) (x : rEn w m 0 0 s) (b : bsI s 0 bs) (q : xFt h a r bs) (fs : fS h st bs j) (vd : fVd nd T s bs st j) (j0 : bs ≤ j) (h1 : j < bs + s 1 bs 9) {K : zH → Prop} (k : K (sI (sI h 56 10 (fA s bs v st j)) 56 11 (fR T s bs st j))) : zC0 97 [vR 56 105, vI j, vI v] h K := by
  have N := x.N
  have b1 := b.1
  have sp := x.sp b.1 b.2.1
  have hnd := g.hd
  obtain ⟨q1, q2, q3, q4, q5, q6⟩ := q
  refine cV (k97_0 j v h _ ?_)
  rw [q3, q2]
  refine ⟨fun c => ⟨p.1, by omega, by omega, ?_⟩, fun c => ?_⟩
  · have bj := x.bj b (j := j) (by omega) h1
    have p3 : gI h (r + 6) j = s 1 j 3 := p.2.2.1 j 3 (by omega) (by omega) (by omega)
    have p4 : gI h (r + 7) j = s 1 j 4 := p.2.2.1 j 4 (by omega) (by omega) (by omega)
    have po : gI h (r + 3) (s 1 j 3) = s 1 (s 1 j 3) 0 := p.2.2.1 (s 1 j 3) 0 (by omega) (by omega) (by omega)
    have fp := fs (s 1 j 3) (by omega) (by omega)
    rw [p3]
    refine k97_21 j v _ _ (s 1 j 3) h _ ?_
    rw [q2, p4, po, fp.1]
    have p5 : ¬ s 1 (s 1 j 3) 0 = 5 := by rcases bj.2.2.2.1 with d | d <;> omega
    have vp := (vd (s 1 j 3) (by omega) (by omega)).1 p5
    refine ⟨fun _ => ⟨p.1, by omega, by omega, p.1, by omega, by omega, fun c2 => ⟨fun c4 => ?_, fun c4 => ?_⟩, fun c2 => ?_⟩, fun d => absurd (show ¬ s 1 j 3 = -1 by omega) d⟩
    · have h4 : s 1 (s 1 j 3) 0 = 4 := by rcases bj.2.2.2.1 with d | d; exact absurd d c2; exact d
      have wh := x.wh (by omega) bj.1 h4
      have wh : s 1 j 3 < s 1 j 4 ∧ s 1 j 4 < j := by omega
      have fb := fs (s 1 j 4) (by omega) (by omega)
      rw [fb.2.2.2.1]
      refine ⟨by omega, by omega, fun h9 e9 => ⟨by omega, by omega, fun h10 e10 => zq0 ?_⟩⟩
      have e61 : gI h9 61 (s 1 j 4) = st 4 (s 1 j 4) := by rw [e9, gS, if_neg (by omega)]; exact fb.2.2.2.2
      rw [e10, e61, e9]
      unfold fA fR at k
      rw [if_neg c, if_neg c, if_neg c2, if_neg c2, if_neg c4, if_neg c4] at k
      exact k
    · refine ⟨by omega, by omega, by unfold inR; omega, fun h11 e11 => ?_⟩
      have f11 : frP (fun b k => b = 56 ∧ k = 10) h h11 := by rw [e11]; exact frP.rf.st ⟨rfl, rfl⟩
      have e57 : gI h11 57 (s 1 j 3) = st 0 (s 1 j 3) := by rw [f11.1 _ _ (by omega)]; exact fp.1
      have e6 : gI h11 (a + 6) (st 0 (s 1 j 3)) = T (st 0 (s 1 j 3)) 3 := by
        rw [f11.1 _ _ (by omega)]; exact (y.2.2.2.1 _ vp.1 vp.2.1).2.2.2.1
      rw [f11.rr, f11.ty, q1, e57, e6]
      refine ⟨q4, by omega, by omega, by omega, by omega, fun h12 e12 => zq0 ?_⟩
      rw [e12, e11]
      unfold fA fR at k
      rw [if_neg c, if_neg c, if_neg c2, if_neg c2, if_pos (Classical.not_not.1 c4), if_pos (Classical.not_not.1 c4)] at k
      exact k
    · refine ⟨by omega, by omega, fun h13 e13 h14 e14 => zq0 ?_⟩
      rw [e14, e13]
      unfold fA fR at k
      rw [if_neg c, if_neg c, if_pos (Classical.not_not.1 c2), if_pos (Classical.not_not.1 c2)] at k
      exact k
  · refine k97_21 j v _ _ (-1) h _ ⟨fun d => absurd rfl d, fun _ h15 e15 h16 e16 => zq0 ?_⟩
    rw [e16, e15]
    unfold fA fR at k
    rw [if_pos (Classical.not_not.1 c), if_pos (Classical.not_not.1 c)] at k
    exact k
/-- one part more -/
theorem s102 {j p : Int} (g : sF t n nd nc T C) (y : xN h a t n nd nc T C) (q : xFt h a r bs) (hj : 0 ≤ j ∧ j < 20) (ep : gI h 60 j = p) (hp : 0 ≤ p ∧ p < nd) (h61 : -1000 ≤ gI h 61 j ∧ gI h 61 j ≤ 1000) (h59 : 0 ≤ gI h 59 j ∧ gI h 59 j ≤ 1000) {K : zH → Prop}
    (k : ∀ h1, frP (fun b k => 58 ≤ b ∧ b ≤ 61 ∧ k = j) h h1 → gI h1 58 j = p → gI h1 59 j = gI h 59 j + 1 → gI h1 60 j = p + T p 6 → gI h1 61 j = gI h 61 j - 1 → K h1) : zC0 102 [vR 56 105, vI j] h K := by
  have hnd := g.hd
  obtain ⟨q1, q2, q3, q4, q5, q6⟩ := q
  have sz := g.sz hp.1 hp.2
  refine cV (k102_0 j h _ ?_)
  rw [ep]
  refine ⟨hj.1, hj.2, hj.1, hj.2, fun h5 e5 => ?_⟩
  have f5 : frP (fun b k => b = 58 ∧ k = j) h h5 := by rw [e5]; exact frP.rf.st ⟨rfl, rfl⟩
  have e60 : gI h5 60 j = p := by rw [f5.1 _ _ (by omega)]; exact ep
  have e9 : gI h5 (a + 9) p = T p 6 := by rw [f5.1 _ _ (by omega)]; exact (y.2.2.2.1 _ hp.1 hp.2).2.2.2.2.2.2.1
  rw [f5.rr, f5.ty, q1, e60, e9]
  refine ⟨hj.1, hj.2, q4, hj.1, hj.2, by omega, by omega, by unfold inR; omega, hj.1, hj.2, fun h6 e6 => ?_⟩
  have e61 : gI h6 61 j = gI h 61 j := by rw [e6, gS, if_neg (by omega), f5.1 _ _ (by omega)]
  rw [e61]
  refine ⟨hj.1, hj.2, by unfold inR; omega, hj.1, hj.2, fun h7 e7 => ?_⟩
  have e59 : gI h7 59 j = gI h 59 j := by rw [e7, gS, if_neg (by omega), e6, gS, if_neg (by omega), f5.1 _ _ (by omega)]
  rw [e59]
  refine ⟨hj.1, hj.2, by unfold inR; omega, hj.1, hj.2, fun h8 e8 => zq0 (k h8 ?_ ?_ ?_ ?_ ?_)⟩
  · rw [e8, e7, e6]; exact (((f5.mo (fun b k q => by omega)).st (by omega)).st (by omega)).st (by omega)
  · rw [e8, gS, if_neg (by omega), e7, gS, if_neg (by omega), e6, gS, if_neg (by omega), e5, gS1]
  · rw [e8, gS1]
  · rw [e8, gS, if_neg (by omega), e7, gS, if_neg (by omega), e6, gS1]
  · rw [e8, gS, if_neg (by omega), e7, gS1]
theorem s99 {j i : Int} (g : sF t n nd nc T C) (y : xN h a t n nd nc T C) (p : xPt h r w m s) (x : rEn w m 0 0 s) (q : xFt h a r bs) (hj : 0 ≤ j ∧ j < s 0 0 1) (hi : 0 ≤ i ∧ i < nd) (e10 : gI h 56 10 = i) {K : Int → zH → Prop} (k : K (b2i (hpP s j (T i 3))) h) : zC1 99 [vR 56 105, vI j] h K := by
  have N := x.N
  have hnd := g.hd
  obtain ⟨q1, q2, q3, q4, q5, q6⟩ := q
  have p6 : gI h (r + 9) j = s 1 j 6 := p.2.2.1 j 6 hj.1 hj.2 (by omega)
  have p7 : gI h (r + 10) j = s 1 j 7 := p.2.2.1 j 7 hj.1 hj.2 (by omega)
  have y3 := (y.2.2.2.1 i hi.1 hi.2).2.2.2.1
  have m0 := x.1.1.2.1 j hj.1 hj.2
  refine cI (k99_0 j h _ ?_)
  rw [q2, q1, p6, p7, e10, y3]
  unfold hpP at k
  refine ⟨p.1, by omega, by omega, p.1, by omega, by omega, by unfold inR; omega, p.1, by omega, by omega, fun c => ⟨q4, by omega, by omega, fun d => ⟨Or.inl rfl, zq1 ?_⟩, fun d => ⟨Or.inr rfl, zq1 ?_⟩⟩, fun c => ⟨q4, by omega, by omega, fun d => ⟨Or.inl rfl, zq1 ?_⟩, fun d => ⟨Or.inr rfl, zq1 ?_⟩⟩⟩
  · rwa [b2i_neg (by omega)] at k
  · rwa [b2i_pos (by omega)] at k
  · rwa [b2i_neg (by omega)] at k
  · rwa [b2i_pos (by omega)] at k
theorem s100 {j : Int} (h6 : 0 ≤ gI h 56 6 ∧ gI h 56 6 < 3) {K : Int → zH → Prop} (k : ∀ h1, frP (fun b k => (b = 62 ∧ k = gI h 56 6) ∨ (b = 56 ∧ k = 6)) h h1 → gI h1 62 (gI h 56 6) = j → gI h1 56 6 = gI h 56 6 + 1 → K 1 h1) : zC1 100 [vR 56 105, vI j] h K := by
  refine cI (k100_0 j h _ ⟨fun c => absurd c (by omega), fun _ => ⟨h6.1, h6.2, fun h3 e3 => ?_⟩⟩)
  have e6 : gI h3 56 6 = gI h 56 6 := by rw [e3, gS, if_neg (by omega)]
  rw [e6]
  refine ⟨by unfold inR; omega, fun h4 e4 => ⟨Or.inr rfl, zq1 (k h4 ?_ ?_ ?_)⟩⟩
  · rw [e4, e3]; exact (frP.rf.st (Or.inl ⟨rfl, rfl⟩)).st (Or.inr ⟨rfl, rfl⟩)
  · rw [e4, gS, if_neg (by omega), e3, gS1]
  · rw [e4, gS1]
/-- parts are taken in a row -/
theorem s102l {j i : Int} (g : sF t n nd nc T C) (y : xN h a t n nd nc T C) (q : xFt h a r bs) (hj : 0 ≤ j ∧ j < 20) {K : zH → Prop} {R : Int} (hR : 0 ≤ R ∧ R ≤ 12) (c : Nat) (hc : c ≤ 12) (vr : vrw nd T (adv T c i) c i) {Q : Option zV → zH → Prop}
    (k : ∀ h1, frP (fun b k => 58 ≤ b ∧ b ≤ 61 ∧ k = j) h h1 → gI h1 58 j = (if c = 0 then -1 else adv T (c - 1) i) → gI h1 59 j = c → gI h1 60 j = adv T c i → gI h1 61 j = R - c → Q (some (vI 1)) h1) :
    ∀ (f : Nat) (z : Nat) (h2 : zH), z + f = c → vrw nd T (adv T c i) f (adv T z i) → frP (fun b k => 58 ≤ b ∧ b ≤ 61 ∧ k = j) h h2 → gI h2 58 j = (if z = 0 then -1 else adv T (z - 1) i) → gI h2 59 j = z → gI h2 60 j = adv T z i → gI h2 61 j = R - z → zK 101 77 [vR 56 105, vI j, vI c, vI z] [] h2 Q := by
  intro f
  induction f with
  | zero =>
    intro z h2 e vz f2 e58 e59 e60 e61
    have e : z = c := by omega
    subst e
    exact k101_77 j z z h2 Q ⟨fun _ => ⟨Or.inr rfl, k h2 f2 e58 e59 e60 e61⟩, fun c => absurd (by omega) c⟩
  | succ f ih =>
    intro z h2 e vz f2 e58 e59 e60 e61
    obtain ⟨v1, v2, v3, v4⟩ := vz
    have y2 : xN h2 a t n nd nc T C := y.fr f2 (fun b k _ _ => by have := q.2.2.2.2.1; omega)
    refine k101_77 j c z h2 Q ⟨fun d => absurd d (by omega), fun _ => s102 g y2 (q.fr f2 (by omega)) hj e60 ⟨v1, v2⟩ (by omega) (by omega) (fun h3 f3 g1 g2 g3 g4 => ⟨by unfold inR; omega, ?_⟩)⟩
    have := ih (z + 1) h3 (by omega) (by rw [adv_s]; exact v4) (f2.tr f3) (by rw [if_neg (by omega)]; exact g1) (by rw [g2, e59]; simp) (by rw [g3, adv_s]) (by rw [g4, e61]; omega)
    exact this
/-- whether it is as it was before -/
theorem s103 {j : Int} {st : fZ} (g : sF t n nd nc T C) (y : xN h a t n nd nc T C) (p : xPt h r w m s) (x : rEn w m 0 0 s) (b : bsI s 0 bs) (q : xFt h a r bs) (fs : fS h st bs (j + 1)) (vd : fVd nd T s bs st (j + 1)) (j0 : bs ≤ j) (h1 : j < bs + s 1 bs 9) {K : Int → zH → Prop} (k : K (b2i (asb t T s bs st j)) h) : zC1 103 [vR 56 105, vI j] h K := by
  have N := x.N
  have b1 := b.1
  have sp := x.sp b.1 b.2.1
  have hnd := g.hd
  obtain ⟨q1, q2, q3, q4, q5, q6⟩ := q
  have p1 : gI h (r + 4) j = s 1 j 1 := p.2.2.1 j 1 (by omega) (by omega) (by omega)
  refine cI (k103_0 j h _ ?_)
  rw [q2, q3, p1]
  refine ⟨p.1, by omega, by omega, fun c => ⟨p.1, p.1, by omega, by omega, s68 p x (by omega) ?_⟩, fun c => ?_⟩
  · have ha := hF_all (s := s) (e := s 0 0 1) b1 j0 rfl (by omega)
    rw [ha]
    by_cases hf : hF s bs (s 1 j 1) j = -1
    · rw [if_pos hf]
      rw [b2i_pos (show asb t T s bs st j from Or.inr (Or.inl hf))] at k
      exact k103_37 j _ _ j h _ ⟨fun d => by omega, fun _ => ⟨fun d => absurd rfl d, fun _ => ⟨Or.inr rfl, zq1 k⟩⟩⟩
    · rw [if_neg hf]
      rcases hF_rg (s := s) (bs := bs) (l := s 1 j 1) j0 with qq | qq
      · exact absurd qq hf
      have ct := x.ct (j := j) (by omega) (by omega)
      have cf := x.ct (j := hF s bs (s 1 j 1) j) (by omega) (by omega)
      rw [qq.2.2] at cf
      have oo : (s 1 j 0 = 1 ∧ s 1 (hF s bs (s 1 j 1) j) 0 = 1) ∨ (s 1 j 0 = 5 ∧ s 1 (hF s bs (s 1 j 1) j) 0 = 5) := by omega
      clear ct cf
      unfold asb at k
      generalize hF s bs (s 1 j 1) j = e at *
      have fe := fs e (by omega) (by omega)
      have fj := fs j (by omega) (by omega)
      -- what was taken lies among the nodes
      have rg : ∀ i, bs ≤ i → i ≤ j → s 1 i 0 = 1 ∨ s 1 i 0 = 5 → 0 ≤ st 0 i ∧ st 0 i ≤ st 3 i ∧ st 3 i ≤ nd := by
        intro i i0 i1 io
        have vi := vd i i0 (by omega)
        rcases io with o | o
        · have := vi.1 (by omega)
          have sz := g.sz this.1 this.2.1
          have := this.2.2.2 (by omega)
          omega
        · have ro := x.ro (y := i) (by omega) (by omega) o
          have ib : bs < i := by
            have : ¬ i = bs := fun c => b.2.2 (c ▸ o)
            omega
          have bi := x.bj b ib (by omega)
          have pp := (vd (s 1 i 3) (by omega) (by omega)).1 (by omega)
          have vi := vi.2 ib ro.2
          have e5 := vi.2.2.2.2 o
          have vk := g.vk pp.1 pp.2.1 (k := (T (st 0 (s 1 i 3)) 3 - st 4 i - st 2 i).toNat) (c := (st 2 i).toNat) (by omega)
          rw [← e5, show (T (st 0 (s 1 i 3)) 3 - st 4 i - st 2 i).toNat + (st 2 i).toNat = (T (st 0 (s 1 i 3)) 3 - st 4 i).toNat by omega, ← vi.2.2.2.1] at vk
          have le := vrw_le (fun i i0 i1 => (g.sz i0 i1).1) _ vk
          have pe := g.pe pp.1 pp.2.1
          have sz := g.sz pp.1 pp.2.1
          have v2 := g.vk pp.1 pp.2.1 (k := (T (st 0 (s 1 i 3)) 3 - st 4 i).toNat) (c := (st 4 i).toNat) (by omega)
          rw [show (T (st 0 (s 1 i 3)) 3 - st 4 i).toNat + (st 4 i).toNat = (T (st 0 (s 1 i 3)) 3).toNat by omega, pe, ← vi.2.2.2.1] at v2
          have l2 := vrw_le (fun i i0 i1 => (g.sz i0 i1).1) _ v2
          have v0 := g.vk pp.1 pp.2.1 (k := 0) (c := (T (st 0 (s 1 i 3)) 3 - st 4 i - st 2 i).toNat) (by omega)
          rw [Nat.zero_add, ← e5] at v0
          have l0 := vrw_le (fun i i0 i1 => (g.sz i0 i1).1) _ v0
          have : adv T 0 (st 0 (s 1 i 3) + 1) = st 0 (s 1 i 3) + 1 := rfl
          omega
      have re := rg e (by omega) (by omega) (by omega)
      have rj := rg j (by omega) (by omega) (by omega)
      refine k103_37 j _ _ e h _ ⟨fun d => by omega, fun _ => ⟨fun d => ?_, fun d => absurd (by omega) d⟩⟩
      rw [fe.1, fe.2.2.1, fe.2.2.2.1, fj.1, fj.2.2.1, fj.2.2.2.1, q1]
      refine ⟨by omega, by omega, by omega, by omega, by unfold inR; omega, by omega, by omega, by omega, by omega, fun d1 => ⟨Or.inl rfl, zq1 ?_⟩, fun d1 => ⟨by omega, by omega, by omega, by omega, by unfold inR; omega, fun d2 => ⟨Or.inl rfl, zq1 ?_⟩, fun d2 => ⟨q4, by omega, by omega, by omega, by omega, s62 g y (by omega) (by omega) ⟨fun d3 => ⟨Or.inl rfl, zq1 ?_⟩, fun d3 => ⟨Or.inr rfl, zq1 ?_⟩⟩⟩⟩⟩
      · rwa [b2i_neg (fun z => by rcases z with z | z | z; exact c z; exact hf z; exact d1 z.1)] at k
      · rwa [b2i_neg (fun z => by rcases z with z | z | z; exact c z; exact hf z; exact d2 z.2.1)] at k
      · rw [b2i_eq0] at d3
        rwa [b2i_neg (fun z => by rcases z with z | z | z; exact c z; exact hf z; exact d3 z.2.2)] at k
      · rw [b2i_ne0] at d3
        rwa [b2i_pos (Or.inr (Or.inr ⟨by omega, by omega, d3⟩))] at k
  · rw [b2i_pos (show asb t T s bs st j from Or.inl (Classical.not_not.1 c))] at k
    exact k103_37 j _ _ j h _ ⟨fun d => by omega, fun _ => ⟨fun d => absurd rfl d, fun _ => ⟨Or.inr rfl, zq1 k⟩⟩⟩
end XF
