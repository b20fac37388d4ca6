/-! The class: the row of tests of a pattern; paths, words, pieces that are the same. -/
theorem snoc_q {α : Type} {R : List α} {y x : α} {k : Nat} : (R ++ [y])[k]? = some x ↔ (R[k]? = some x ∨ (k = R.length ∧ x = y)) := by
  by_cases c : k < R.length
  · rw [List.getElem?_append_left c]
    exact ⟨Or.inl, fun q => by rcases q with q | q; exact q; omega⟩
  · rw [List.getElem?_append_right (by omega)]
    constructor
    · intro q
      by_cases d : k = R.length
      · subst d
        rw [Nat.sub_self] at q
        have q : some y = some x := q
        injection q with q
        exact Or.inr ⟨rfl, q.symm⟩
      · rw [show k - R.length = (k - R.length - 1) + 1 by omega] at q
        cases q
    · rintro (q | ⟨q1, q2⟩)
      · rw [List.getElem?_eq_none (by omega)] at q; cases q
      · subst q1; subst q2; rw [Nat.sub_self]; rfl
theorem lt_q {α : Type} {R : List α} {x : α} {k : Nat} (h : R[k]? = some x) : k < R.length := by
  apply Classical.byContradiction; intro c
  rw [List.getElem?_eq_none (by omega)] at h; cases h
def trA (b : Nat) (k : Int) : Prop := (b = 63 ∧ k = 0) ∨ (64 ≤ b ∧ b ≤ 67)
def xRw (h : zH) (R : List tst) : Prop := gI h 63 0 = R.length ∧ ∀ (k : Nat) (x : tst), R[k]? = some x → gI h 64 k = x.1 ∧ gI h 65 k = x.2.1 ∧ gI h 66 k = x.2.2
section XT
variable {h : zH} {w w2 : Int → Int} {m m2 : Int} {s s2 : pS} {r r2 : Nat}
theorem xRw.fr {P : Nat → Int → Prop} {h1 : zH} {R : List tst} (x : xRw h R) (f : frP P h h1) (d : ¬ P 63 0) (d2 : ∀ b k, 64 ≤ b → b ≤ 66 → ¬ P b k) : xRw h1 R := ⟨by rw [f.1 _ _ d]; exact x.1, fun k y hy => by
  rw [f.1 _ _ (d2 _ _ (by omega) (by omega)), f.1 _ _ (d2 _ _ (by omega) (by omega)), f.1 _ _ (d2 _ _ (by omega) (by omega))]; exact x.2 k y hy⟩
theorem s107 {R : List tst} {a b c : Int} (x : xRw h R) (hl : R.length < 40) {K : zH → Prop} (k : ∀ h1, frP (fun b k => (b = 63 ∧ k = 0) ∨ (64 ≤ b ∧ b ≤ 66)) h h1 → xRw h1 (R ++ [(a, b, c)]) → K h1) : zC0 107 [vR 63 106, vI a, vI b, vI c] h K := by
  refine cV (k107_0 a b c h _ ?_)
  rw [x.1]
  refine ⟨fun d => absurd d (by omega), fun _ => ⟨by omega, by omega, fun h5 e5 => ?_⟩⟩
  have z5 : gI h5 63 0 = R.length := by rw [e5, gS, if_neg (by omega)]; exact x.1
  rw [z5]
  refine ⟨by omega, by omega, fun h6 e6 => ?_⟩
  have z6 : gI h6 63 0 = R.length := by rw [e6, gS, if_neg (by omega)]; exact z5
  rw [z6]
  refine ⟨by omega, by omega, fun h7 e7 => ?_⟩
  have z7 : gI h7 63 0 = R.length := by rw [e7, gS, if_neg (by omega)]; exact z6
  rw [z7]
  refine ⟨by unfold inR; omega, fun h8 e8 => zq0 (k h8 ?_ ⟨?_, fun j y hy => ?_⟩)⟩
  · rw [e8, e7, e6, e5]; exact (((frP.rf.st (by omega)).st (by omega)).st (by omega)).st (by omega)
  · rw [e8, gS1, List.length_append]; rfl
  · rcases snoc_q.1 hy with q | q
    · have lt := lt_q q
      have y := x.2 j y q
      refine ⟨?_, ?_, ?_⟩
      · rw [e8, gS, if_neg (by omega), e7, gS, if_neg (by omega), e6, gS, if_neg (by omega), e5, gS, if_neg (by omega)]; exact y.1
      · rw [e8, gS, if_neg (by omega), e7, gS, if_neg (by omega), e6, gS, if_neg (by omega), e5, gS, if_neg (by omega)]; exact y.2.1
      · rw [e8, gS, if_neg (by omega), e7, gS, if_neg (by omega), e6, gS, if_neg (by omega), e5, gS, if_neg (by omega)]; exact y.2.2
    · obtain ⟨q1, q2⟩ := q
      subst q1; subst q2
      refine ⟨?_, ?_, ?_⟩
      · rw [e8, gS, if_neg (by omega), e7, gS, if_neg (by omega), e6, gS, if_neg (by omega), e5, gS1]
      · rw [e8, gS, if_neg (by omega), e7, gS, if_neg (by omega), e6, gS1]
      · rw [e8, gS, if_neg (by omega), e7, gS1]
theorem s263 {R : List tst} {i : Int} {fa : Int → Int} {f : Nat} (p1 : xPt h r w m s) (x : rEn w m 0 0 s) (hr : 87 ≤ r) (i0 : 0 ≤ i) (il : i < s 0 0 1) (x1 : xRw h R) (a1 : ∀ l, 0 ≤ l → l < 26 → gI h 67 l = fa l) (e : R ++ tS s (f + 1) i fa = tRw s) {K : Int → zH → Prop}
    (k : ∀ (v : Int) (fb : Int → Int) (R2 : List tst) (h2 : zH), 1 ≤ v → i + v ≤ s 0 0 1 → frP trA h h2 → xRw h2 R2 → (∀ l, 0 ≤ l → l < 26 → gI h2 67 l = fb l) → R2 ++ tS s f (i + v) fb = tRw s → K v h2) : zC1 263 [vR 63 106, vR r 103, vI i] h K := by
  have N := x.N
  have l40 := tRw_l (s := s)
  have e0 : gI h (r + 3) i = s 1 i 0 := p1.2.2.1 i 0 i0 il (by omega)
  have e7 : gI h (r + 10) i = s 1 i 7 := p1.2.2.1 i 7 i0 il (by omega)
  have sp := x.sp i0 il
  have ct := x.ct i0 il
  have c : ¬ s 0 0 1 ≤ i := by omega
  rw [tS, if_neg c] at e
  have fr1 : ∀ h2 : zH, frP (fun b k => (b = 63 ∧ k = 0) ∨ (64 ≤ b ∧ b ≤ 66)) h h2 → frP trA h h2 ∧ ∀ l, 0 ≤ l → l < 26 → gI h2 67 l = fa l := fun h2 f2 => ⟨f2.mo (fun b k q => by unfold trA; omega), fun l l0 l1 => by rw [f2.1 _ _ (by omega)]; exact a1 l l0 l1⟩
  have whole : s 1 i 0 = 2 ∨ 0 < s 1 i 7 → zK 263 19 [vR 63 106, vR r 103, vI i] [] h (fun r h1 => ∃ v : Int, r = some (Sum.inl v) ∧ K v h1) := by
    intro c5
    rw [if_pos c5] at e
    have ll := congrArg List.length e
    rw [List.length_append, List.length_cons] at ll
    refine k263_19 r i h _ (s107 x1 (by omega) (fun h2 f2 x2 => ?_))
    have F2 := fr1 h2 f2
    have p2 := p1.fr F2.1 (fun b k _ _ => by unfold trA; omega)
    have e9 : gI h2 (r + 12) i = s 1 i 9 := p2.2.2.1 i 9 i0 il (by omega)
    rw [e9]
    exact ⟨by omega, by omega, zq1 (k (s 1 i 9) fa _ h2 (by omega) (by omega) F2.1 x2 F2.2 (by rw [List.append_assoc]; exact e))⟩
  refine cI (k263_0 r i h _ ?_)
  rw [e0, e7]
  refine ⟨i0, by omega, fun c2 => whole (Or.inl c2), fun c2 => ⟨i0, by omega, fun c7 => ⟨i0, by omega, fun c4 => ⟨i0, by omega, fun c3 => ⟨i0, by omega, fun c1 => zq1 ?_, fun c1 => ?_⟩, fun c3 => ?_⟩, fun c4 => ?_⟩, fun c7 => whole (Or.inr (by omega))⟩⟩
  · rw [if_neg (by omega), if_neg c4, if_neg c3, if_neg c1] at e
    exact k 1 fa R h (by omega) (by omega) frP.rf x1 a1 e
  · have c1 := Classical.not_not.1 c1
    rw [if_neg (by omega), if_neg c4, if_neg c3, if_pos c1] at e
    have e2 : gI h (r + 5) i = s 1 i 2 := p1.2.2.1 i 2 i0 il (by omega)
    have e1 : gI h (r + 4) i = s 1 i 1 := p1.2.2.1 i 1 i0 il (by omega)
    have lr : 0 ≤ s 1 i 1 ∧ s 1 i 1 < 26 := by omega
    clear ct
    -- the letter itself
    have let1 : ∀ (R1 : List tst) (h2 : zH), frP trA h h2 → xRw h2 R1 → (∀ l, 0 ≤ l → l < 26 → gI h2 67 l = fa l) → R1 ++ (if fa (s 1 i 1) = -1 then tS s f (i + 1) (ups fa (s 1 i 1) i) else (4, i, fa (s 1 i 1)) :: tS s f (i + 1) fa) = tRw s → zK 106 24 [vR 63 106, vR r 103, vI i, vI (s 1 i 1)] [] h2 (fun r' h3 => r' = none ∧ ∃ v : Int, (some (vI 1) : Option zV) = some (Sum.inl v) ∧ K v h3) := by
      intro R1 h2 f2 x2 a2 e2'
      refine k106_24 (vR r 103) i (s 1 i 1) h2 _ ?_
      rw [a2 _ lr.1 lr.2]
      refine ⟨lr.1, lr.2, fun d => ⟨lr.1, lr.2, ?_⟩, fun d => ⟨lr.1, lr.2, fun h6 e6 => ⟨rfl, zq1 ?_⟩⟩⟩
      · rw [if_neg d] at e2'
        have ll := congrArg List.length e2'
        rw [List.length_append, List.length_cons] at ll
        refine s107 x2 (by omega) (fun h3 f3 x3 => ⟨rfl, zq1 (k 1 fa _ h3 (by omega) (by omega) (f2.tr (f3.mo (fun b k q => by unfold trA; omega))) x3 (fun l l0 l1 => by rw [f3.1 _ _ (by omega)]; exact a2 l l0 l1) (by rw [List.append_assoc]; exact e2'))⟩)
      · have d := Classical.not_not.1 d
        rw [if_pos d] at e2'
        refine k 1 (ups fa (s 1 i 1) i) R1 h6 (by omega) (by omega) (by rw [e6]; exact f2.st (by unfold trA; omega)) (x2.fr (show frP (fun b _ => b = 67) h2 h6 by rw [e6]; exact frP.rf.st rfl) (by omega) (fun b k q1 q2 => by omega)) (fun l l0 l1 => ?_) e2'
        unfold ups
        rw [e6, gS]
        by_cases z : l = s 1 i 1
        · rw [if_pos ⟨rfl, z⟩, if_pos z]
        · rw [if_neg (fun q => z q.2), if_neg z]; exact a2 l l0 l1
    refine cV (k106_0 r i h _ ?_)
    rw [e2, e1]
    refine ⟨i0, by omega, i0, by omega, fun d => let1 R h frP.rf x1 a1 ?_, fun d => ?_⟩
    · rw [if_pos d, List.nil_append] at e; exact e
    · rw [if_neg d, List.singleton_append] at e
      have ll := congrArg List.length e
      rw [List.length_append, List.length_cons] at ll
      refine s107 x1 (by omega) (fun h2 f2 x2 => ?_)
      have F2 := fr1 h2 f2
      exact let1 _ h2 F2.1 x2 F2.2 (by rw [List.append_assoc]; exact e)
  · have c3 := Classical.not_not.1 c3
    rw [if_neg (by omega), if_neg c4, if_pos c3] at e
    have ll := congrArg List.length e
    rw [List.length_append, List.length_cons] at ll
    refine s107 x1 (by omega) (fun h2 f2 x2 => zq1 ?_)
    have F2 := fr1 h2 f2
    exact k 1 fa _ h2 (by omega) (by omega) F2.1 x2 F2.2 (by rw [List.append_assoc]; exact e)
  · have c4 := Classical.not_not.1 c4
    rw [if_neg (by omega), if_pos c4] at e
    have ll := congrArg List.length e
    rw [List.length_append, List.length_cons, List.length_cons] at ll
    refine s107 x1 (by omega) (fun h2 f2 x2 => s107 x2 (by rw [List.length_append]; simp; omega) (fun h3 f3 x3 => zq1 ?_))
    have F3 := fr1 h3 (f2.tr f3)
    exact k 1 fa _ h3 (by omega) (by omega) F3.1 x3 F3.2 (by rw [List.append_assoc, List.append_assoc]; exact e)
theorem s105 (p : xPt h r w m s) (x : rEn w m 0 0 s) (hr : 87 ≤ r) {K : Int → zH → Prop} (k : ∀ h1, frP trA h h1 → xRw h1 (tRw s) → K (tRw s).length h1) : zC1 105 [vR 63 106, vR r 103] h K := by
  have N := x.N
  have key : ∀ (n : Nat) (i nx : Int) (f : Nat) (fa : Int → Int) (R : List tst) (h1 : zH), s 0 0 1 - i = n → 0 ≤ i → i ≤ nx → nx ≤ s 0 0 1 → s 0 0 1 - nx ≤ f → frP trA h h1 → xRw h1 R → (∀ l, 0 ≤ l → l < 26 → gI h1 67 l = fa l) → R ++ tS s f nx fa = tRw s → zK 105 30 [vR 63 106, vR r 103, vI nx, vI i] [] h1 (fun r h1 => ∃ v : Int, r = some (Sum.inl v) ∧ K v h1) := by
    intro n
    induction n with
    | zero =>
      intro i nx f fa R h1 hn i0 i1 i2 hf f1 x1 a1 e
      have p1 := p.fr f1 (fun b k _ _ => by unfold trA; omega)
      have e' : R = tRw s := by
        cases f with
        | zero => rw [tS, List.append_nil] at e; exact e
        | succ f =>
          have c : s 0 0 1 ≤ nx := by omega
          rw [tS, if_pos c, List.append_nil] at e; exact e
      refine k105_30 r nx i h1 _ ⟨fun _ => zq1 ?_, fun c => absurd (by rw [p1.2.2.2]; omega) c⟩
      rw [x1.1, e']
      exact k h1 f1 (by rw [← e']; exact x1)
    | succ n ih =>
      intro i nx f fa R h1 hn i0 i1 i2 hf f1 x1 a1 e
      have p1 := p.fr f1 (fun b k _ _ => by unfold trA; omega)
      refine k105_30 r nx i h1 _ ?_
      rw [p1.2.2.2]
      refine ⟨fun c => absurd c (by omega), fun c => ⟨fun d => ⟨by unfold inR; omega, ?_⟩, fun d => ?_⟩⟩
      · exact ih (i + 1) nx f fa R h1 (by omega) (by omega) (by omega) i2 hf f1 x1 a1 e
      · have en : nx = i := by omega
        rw [en] at e hf
        cases f with
        | zero => exact absurd hf (by omega)
        | succ f =>
          refine s263 p1 x hr i0 (by omega) x1 a1 e (fun v fb R2 h2 v0 v1 f2 x2 a2 e2 => ⟨by unfold inR; omega, by unfold inR; omega, ?_⟩)
          exact ih (i + 1) (i + v) f fb R2 h2 (by omega) (by omega) (by omega) v1 (by omega) (f1.tr f2) x2 a2 e2
  refine cI (k105_0 r h _ (fun h8 e8 => ?_))
  refine cploop h8 67 0 26 (fun _ => -1) (fun l hh => zK 105 7 [vR 63 106, vR r 103, vI l, vU] [] hh _) (fun l h1 l0 l1 f1 kk => ?_) (fun h1 f1 v1 => ?_) (by omega)
  · refine k105_7 r l vU h1 _ ⟨fun c => absurd c (by omega), fun _ => ⟨l0, by omega, fun h9 e9 => ⟨by unfold inR; omega, ?_⟩⟩⟩
    rw [e9]; exact kk
  · refine k105_7 r 26 vU h1 _ ⟨fun _ => key (s 0 0 1).toNat 0 0 20 (fun _ => -1) [] h1 (by omega) (by omega) (by omega) (by omega) (by omega) ?_ ⟨?_, fun k x hx => by cases hx⟩ (fun l l0 l1 => v1 l l0 l1) rfl, fun c => absurd (by omega) c⟩
    · exact (show frP trA h h8 by rw [e8]; exact frP.rf.st (by unfold trA; omega)).tr (f1.mo (fun b k q => by unfold trA; omega))
    · rw [f1.1 _ _ (by omega), e8, gS1]; rfl
theorem rEn.wd (x : rEn w m 0 0 s) {j : Int} (j0 : 0 ≤ j) (j1 : j < s 0 0 1) : 0 ≤ s 1 j 10 ∧ 0 ≤ s 1 j 11 ∧ s 1 j 11 ≤ 8 ∧ s 1 j 10 + s 1 j 11 ≤ m := by
  have ct := x.ct j0 j1
  have c2 := x.c2 j0 j1
  have hm := x.1.1.1.1
  have hm2 := x.1.1.1.2.1
  omega
theorem s71 {i j : Int} (p : xPt h r w m s) (o : tOk w m) (x : rEn w m 0 0 s) (p2 : xPt h r2 w2 m2 s2) (o2 : tOk w2 m2) (x2 : rEn w2 m2 0 0 s2) (i0 : 0 ≤ i) (i1 : i < s 0 0 1) (j0 : 0 ≤ j) (j1 : j < s2 0 0 1) {K : Int → zH → Prop} (k : K (b2i (sWd w w2 s s2 i j)) h) : zC1 71 [vR r 103, vI i, vR r2 103, vI j] h K := by
  have N := x.N
  have N2 := x2.N
  have wi := x.wd i0 i1
  have wj := x2.wd j0 j1
  have a1 : gI h (r + 14) i = s 1 i 11 := p.2.2.1 i 11 i0 i1 (by omega)
  have a2 : gI h (r + 13) i = s 1 i 10 := p.2.2.1 i 10 i0 i1 (by omega)
  have b1 : gI h (r2 + 14) j = s2 1 j 11 := p2.2.2.1 j 11 j0 j1 (by omega)
  have b2 : gI h (r2 + 13) j = s2 1 j 10 := p2.2.2.1 j 10 j0 j1 (by omega)
  refine cI (k71_0 r i r2 j h _ ?_)
  rw [a1, a2, b1, b2]
  refine ⟨by omega, by omega, by omega, by omega, fun c => ⟨Or.inl rfl, zq1 ?_⟩, fun c => ⟨by omega, by omega, by omega, by omega, s47 p.2.1 p2.2.1 o o2 (by omega) (by omega) (by omega) ⟨fun d => ⟨Or.inl rfl, zq1 ?_⟩, fun d => ⟨Or.inr rfl, zq1 ?_⟩⟩⟩⟩
  · rwa [b2i_neg (fun d => c d.1)] at k
  · rw [b2i_eq0] at d; rwa [b2i_neg (fun e => d e.2)] at k
  · rw [b2i_ne0] at d; rwa [b2i_pos (show sWd w w2 s s2 i j from ⟨by omega, d⟩)] at k
theorem s72 {i j : Int} (p : xPt h r w m s) (o : tOk w m) (x : rEn w m 0 0 s) (p2 : xPt h r2 w2 m2 s2) (o2 : tOk w2 m2) (x2 : rEn w2 m2 0 0 s2) (i0 : 0 ≤ i) (i1 : i < s 0 0 1) (j0 : 0 ≤ j) (j1 : j < s2 0 0 1) {K : Int → zH → Prop} (k : K (b2i (sTk w w2 s s2 i j)) h) : zC1 72 [vR r 103, vI i, vR r2 103, vI j] h K := by
  have N := x.N
  have N2 := x2.N
  have sp := x.sp i0 i1
  have sp2 := x2.sp j0 j1
  have a9 : gI h (r + 12) i = s 1 i 9 := p.2.2.1 i 9 i0 i1 (by omega)
  have b9 : gI h (r2 + 12) j = s2 1 j 9 := p2.2.2.1 j 9 j0 j1 (by omega)
  refine cI (k72_0 r i r2 j h _ ?_)
  rw [a9, b9]
  refine ⟨by omega, by omega, by omega, by omega, fun c => ?_, fun c => ⟨Or.inl rfl, zq1 ?_⟩⟩
  · have key : ∀ (f : Nat) (z : Int) (u5 u6 : zV), s 1 i 9 - z = f → 0 ≤ z → (∀ q, 0 ≤ q → q < z → sIt w w2 s s2 (i + q) (j + q)) → zK 72 20 [vR r 103, vI i, vR r2 103, vI j, vI z, u5, u6] [] h (fun r h1 => ∃ v : Int, r = some (Sum.inl v) ∧ K v h1) := by
      intro f
      induction f with
      | zero =>
        intro z u5 u6 hz z0 v
        refine k72_20 r i r2 j z u5 u6 h _ ?_
        rw [a9]
        refine ⟨by omega, by omega, fun _ => ⟨Or.inr rfl, zq1 ?_⟩, fun d => absurd (by omega) d⟩
        rwa [b2i_pos (show sTk w w2 s s2 i j from ⟨by omega, fun q q0 q1 => v q q0 (by omega)⟩)] at k
      | succ f ih =>
        intro z u5 u6 hz z0 v
        have no : ¬ sIt w w2 s s2 (i + z) (j + z) → K 0 h := fun d => by
          rwa [b2i_neg (fun q : sTk w w2 s s2 i j => d (q.2 z z0 (by omega)))] at k
        have xi : 0 ≤ i + z ∧ i + z < s 0 0 1 := by omega
        have yj : 0 ≤ j + z ∧ j + z < s2 0 0 1 := by omega
        have g : ∀ c : Nat, c < 12 → gI h (r + 3 + c) (i + z) = s 1 (i + z) c := fun c hc => p.2.2.1 (i + z) c xi.1 xi.2 hc
        have g2 : ∀ c : Nat, c < 12 → gI h (r2 + 3 + c) (j + z) = s2 1 (j + z) c := fun c hc => p2.2.2.1 (j + z) c yj.1 yj.2 hc
        have g0 : gI h (r + 3) (i + z) = s 1 (i + z) 0 := g 0 (by omega)
        have g1 : gI h (r + 4) (i + z) = s 1 (i + z) 1 := g 1 (by omega)
        have g3 : gI h (r + 5) (i + z) = s 1 (i + z) 2 := g 2 (by omega)
        have g6 : gI h (r + 9) (i + z) = s 1 (i + z) 6 := g 6 (by omega)
        have h0 : gI h (r2 + 3) (j + z) = s2 1 (j + z) 0 := g2 0 (by omega)
        have h1 : gI h (r2 + 4) (j + z) = s2 1 (j + z) 1 := g2 1 (by omega)
        have h3 : gI h (r2 + 5) (j + z) = s2 1 (j + z) 2 := g2 2 (by omega)
        have h6 : gI h (r2 + 9) (j + z) = s2 1 (j + z) 6 := g2 6 (by omega)
        refine k72_20 r i r2 j z u5 u6 h _ ?_
        rw [a9, g0, g1, g3, g6, h0, h1, h3, h6]
        refine ⟨by omega, by omega, fun d => absurd d (by omega), fun _ => ⟨by unfold inR; omega, by unfold inR; omega, by omega, by omega, by omega, by omega, fun d => ⟨Or.inl rfl, zq1 (no (fun q => d q.1))⟩, fun d => ⟨by omega, by omega, by omega, by omega, fun d1 => ⟨Or.inl rfl, zq1 (no (fun q => d1 q.2.1))⟩, fun d1 => ⟨by omega, by omega, by omega, by omega, fun d2 => ⟨Or.inl rfl, zq1 (no (fun q => d2 q.2.2.1))⟩, fun d2 => ⟨by omega, by omega, by omega, by omega, fun d3 => ⟨Or.inl rfl, zq1 (no (fun q => d3 q.2.2.2.1))⟩, fun d3 => s71 p o x p2 o2 x2 xi.1 xi.2 yj.1 yj.2 ⟨fun d4 => ⟨by unfold inR; omega, ih (z + 1) _ _ (by omega) (by omega) (fun q q0 q1 => ?_)⟩, fun d4 => ⟨Or.inl rfl, zq1 (no (fun q => ?_))⟩⟩⟩⟩⟩⟩⟩
        · rw [b2i_ne0] at d4
          by_cases e : q = z
          · rw [e]; exact ⟨by omega, by omega, by omega, by omega, d4⟩
          · exact v q q0 (by omega)
        · exact d4 (by rw [b2i_ne0]; exact q.2.2.2.2)
    exact key (s 1 i 9).toNat 0 _ _ (by omega) (by omega) (fun q q0 q1 => by omega)
  · rwa [b2i_neg (fun q : sTk w w2 s s2 i j => c q.1)] at k
theorem s73 {i j : Int} (p : xPt h r w m s) (x : rEn w m 0 0 s) (p8 : rP8 s) (p2 : xPt h r2 w2 m2 s2) (x2 : rEn w2 m2 0 0 s2) (p82 : rP8 s2) (i0 : 0 ≤ i) (i1 : i < s 0 0 1) (j0 : 0 ≤ j) (j1 : j < s2 0 0 1) {K : Int → zH → Prop} (k : K (b2i (pth s i = pth s2 j)) h) : zC1 73 [vR r 103, vI i, vR r2 103, vI j] h K := by
  have N := x.N
  have N2 := x2.N
  have key : ∀ (f : Nat) (z a b : Int), z + f = 20 → 0 ≤ z → (a = -1 ∨ (0 ≤ a ∧ a < s 0 0 1 ∧ a + z ≤ 19)) → (b = -1 ∨ (0 ≤ b ∧ b < s2 0 0 1 ∧ b + z ≤ 19)) → (¬ a = -1 → ¬ b = -1 → (pth s a = pth s2 b ↔ pth s i = pth s2 j)) → (a = -1 ∨ b = -1 → (a = b ↔ pth s i = pth s2 j)) → zK 73 9 [vR r 103, vI i, vR r2 103, vI j, vI a, vI b, vI z] [] h (fun r h1 => ∃ v : Int, r = some (Sum.inl v) ∧ K v h1) := by
    intro f
    induction f with
    | zero =>
      intro z a b hz z0 ha hb e1 e2
      have ea : a = -1 := by omega
      have eb : b = -1 := by omega
      refine k73_9 r _ r2 _ a b z h _ ⟨fun _ => ⟨fun d => ⟨Or.inl rfl, zq1 ?_⟩, fun d => ⟨Or.inr rfl, zq1 ?_⟩⟩, fun c => absurd (by omega) c⟩
      · exact absurd (by omega) d
      · rwa [b2i_pos ((e2 (Or.inl ea)).1 (by omega))] at k
    | succ f ih =>
      intro z a b hz z0 ha hb e1 e2
      refine k73_9 r _ r2 _ a b z h _ ⟨fun c => absurd c (by omega), fun _ => ⟨fun c => ⟨fun d => ⟨Or.inl rfl, zq1 ?_⟩, fun d => ⟨Or.inr rfl, zq1 ?_⟩⟩, fun c => ⟨fun c1 => ⟨fun d => ⟨Or.inl rfl, zq1 ?_⟩, fun d => ⟨Or.inr rfl, zq1 ?_⟩⟩, fun c1 => ?_⟩⟩⟩
      · rwa [b2i_neg (fun q => d ((e2 (Or.inl c)).2 q))] at k
      · rwa [b2i_pos ((e2 (Or.inl c)).1 (Classical.not_not.1 d))] at k
      · rwa [b2i_neg (fun q => d ((e2 (Or.inr c1)).2 q))] at k
      · rwa [b2i_pos ((e2 (Or.inr c1)).1 (Classical.not_not.1 d))] at k
      · have ha : 0 ≤ a ∧ a < s 0 0 1 ∧ a + z ≤ 19 := by omega
        have hb : 0 ≤ b ∧ b < s2 0 0 1 ∧ b + z ≤ 19 := by omega
        have e1 := e1 c c1
        have a5 : gI h (r + 8) a = s 1 a 5 := p.2.2.1 a 5 ha.1 ha.2.1 (by omega)
        have a3 : gI h (r + 6) a = s 1 a 3 := p.2.2.1 a 3 ha.1 ha.2.1 (by omega)
        have b5 : gI h (r2 + 8) b = s2 1 b 5 := p2.2.2.1 b 5 hb.1 hb.2.1 (by omega)
        have b3 : gI h (r2 + 6) b = s2 1 b 3 := p2.2.2.1 b 3 hb.1 hb.2.1 (by omega)
        have ra := (p8 a ha.1 ha.2.1).2.2.1
        have rb := (p82 b hb.1 hb.2.1).2.2.1
        -- roots and what hangs below them
        have pa : s 1 a 3 = -1 → a = 0 := fun q => ((x.A ha.1 ha.2.1).1 q).1
        have pb : s2 1 b 3 = -1 → b = 0 := fun q => ((x2.A hb.1 hb.2.1).1 q).1
        have na : ¬ s 1 a 3 = -1 → pth s a = pth s (s 1 a 3) ++ [s 1 a 5] := fun q => pth_s x (x.pn ha.1 ha.2.1 q) ha.2.1
        have nb : ¬ s2 1 b 3 = -1 → pth s2 b = pth s2 (s2 1 b 3) ++ [s2 1 b 5] := fun q => pth_s x2 (x2.pn hb.1 hb.2.1 q) hb.2.1
        have za : s 1 a 3 = -1 → pth s a = [] := fun q => by rw [pa q]; exact pth_0 x
        have zb : s2 1 b 3 = -1 → pth s2 b = [] := fun q => by rw [pb q]; exact pth_0 x2
        rw [a5, b5, a3, b3]
        refine ⟨by omega, by omega, by omega, by omega, fun d => ⟨by omega, by omega, by omega, by omega, by unfold inR; omega, ih (z + 1) (s 1 a 3) (s2 1 b 3) (by omega) (by omega) ?_ ?_ (fun q1 q2 => ?_) (fun q => ?_)⟩, fun d => ⟨Or.inl rfl, zq1 ?_⟩⟩
        · by_cases q : s 1 a 3 = -1
          · exact Or.inl q
          · have := x.par (x.pn ha.1 ha.2.1 q) ha.2.1; right; omega
        · by_cases q : s2 1 b 3 = -1
          · exact Or.inl q
          · have := x2.par (x2.pn hb.1 hb.2.1 q) hb.2.1; right; omega
        · rw [← e1, na q1, nb q2, d]
          exact ⟨fun z => by rw [z], fun z => List.append_cancel_right z⟩
        · rw [← e1]
          by_cases q1 : s 1 a 3 = -1
          · by_cases q2 : s2 1 b 3 = -1
            · rw [za q1, zb q2, q1, q2]; exact ⟨fun _ => rfl, fun _ => rfl⟩
            · rw [za q1, nb q2]
              exact ⟨fun z => absurd (z.symm.trans q1) q2, fun z => by have := congrArg List.length z; rw [List.length_append] at this; simp at this⟩
          · have q2 : s2 1 b 3 = -1 := by rcases q with q | q; exact absurd q q1; exact q
            rw [zb q2, na q1]
            exact ⟨fun z => absurd (z.trans q2) q1, fun z => by have := congrArg List.length z; rw [List.length_append] at this; simp at this⟩
        · rwa [b2i_neg (fun q => ?_)] at k
          have q := e1.2 q
          by_cases q1 : s 1 a 3 = -1
          · by_cases q2 : s2 1 b 3 = -1
            · exact d (by rw [ra q1, rb q2])
            · rw [za q1, nb q2] at q
              have := congrArg List.length q; rw [List.length_append] at this; simp at this
          · by_cases q2 : s2 1 b 3 = -1
            · rw [zb q2, na q1] at q
              have := congrArg List.length q; rw [List.length_append] at this; simp at this
            · rw [na q1, nb q2] at q
              have := congrArg List.getLast? q
              rw [List.getLast?_concat, List.getLast?_concat] at this
              injection this with this
              exact d this
  exact cI (k73_0 r i r2 j h _ (key 20 0 i j (by omega) (by omega) (Or.inr ⟨i0, i1, by omega⟩) (Or.inr ⟨j0, j1, by omega⟩) (fun _ _ => Iff.rfl) (fun q => by omega)))
end XT
