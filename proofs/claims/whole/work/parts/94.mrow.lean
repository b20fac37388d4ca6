/-! The model: the row of tests of a pattern. -/
def lPt (h : zH) (a b : Nat) (t : Int) (L : List Int) : Prop := gI h a t = L.length ∧ ∀ j : Nat, j < L.length → gI h b (21 * t + j) = L.getD j 0
def mEn (h : zH) (x : Int) (s : pS) (k : Nat) (y : tst) : Prop := gI h 151 (40 * x + k) = y.1 ∧ gI h 152 (40 * x + k) = s 4 y.2.1 0 ∧ lPt h 153 154 (40 * x + k) (pth s y.2.1) ∧ (y.1 = 4 → lPt h 155 156 (40 * x + k) (pth s y.2.2)) ∧ (¬ y.1 = 4 → gI h 155 (40 * x + k) = 0)
/-- paths that fit into their places -/
def plO (s : pS) (y : tst) : Prop := (pth s y.2.1).length ≤ 20 ∧ (y.1 = 4 → (pth s y.2.2).length ≤ 20)
def mRw (h : zH) (x : Int) (s : pS) (R : List tst) : Prop := gI h 150 x = R.length ∧ ∀ (k : Nat) (y : tst), R[k]? = some y → mEn h x s k y ∧ plO s y
def pAt (h : zH) (L : List Int) : Prop := gI h 127 49 = L.length ∧ lAt h 157 L
def mSd (h : zH) (s : pS) (fa : Int → Int) : Prop := ∀ l, 0 ≤ l → l < 26 → (fa l = -1 → gI h 158 l = -1) ∧ (¬ fa l = -1 → (pth s (fa l)).length ≤ 20 ∧ gI h 158 l = (pth s (fa l)).length ∧ ∀ j : Nat, j < (pth s (fa l)).length → gI h 159 (21 * l + j) = (pth s (fa l)).getD j 0)
/-- what the tests of a rule may change -/
def mtR (x : Int) (b : Nat) (k : Int) : Prop := (b = 150 ∧ k = x) ∨ ((b = 151 ∨ b = 152 ∨ b = 153 ∨ b = 155) ∧ 40 * x ≤ k ∧ k < 40 * x + 40) ∨ ((b = 154 ∨ b = 156) ∧ 840 * x ≤ k ∧ k < 840 * x + 840) ∨ (b = 127 ∧ k = 49) ∨ b = 157 ∨ b = 158 ∨ b = 159
section MT
variable {h : zH} {w : Int → Int} {m x : Int} {s : pS}
theorem mEn.fr {P : Nat → Int → Prop} {h1 : zH} {k : Nat} {y : tst} (e : mEn h x s k y) (o : plO s y) (f : frP P h h1) (d : ∀ b, 151 ≤ b → b ≤ 155 → ¬ P b (40 * x + k)) (d2 : ∀ b j, b = 154 ∨ b = 156 → 21 * (40 * x + k) ≤ j → j < 21 * (40 * x + k) + 21 → ¬ P b j) : mEn h1 x s k y := by
  obtain ⟨e1, e2, e3, e4, e5⟩ := e
  refine ⟨by rw [f.1 _ _ (d _ (by omega) (by omega))]; exact e1, by rw [f.1 _ _ (d _ (by omega) (by omega))]; exact e2, ⟨by rw [f.1 _ _ (d _ (by omega) (by omega))]; exact e3.1, fun j hj => ?_⟩, fun c => ⟨by rw [f.1 _ _ (d _ (by omega) (by omega))]; exact (e4 c).1, fun j hj => ?_⟩, fun c => by rw [f.1 _ _ (d _ (by omega) (by omega))]; exact e5 c⟩
  · have := o.1
    rw [f.1 _ _ (d2 _ _ (Or.inl rfl) (by omega) (by omega))]; exact e3.2 j hj
  · have := o.2 c
    rw [f.1 _ _ (d2 _ _ (Or.inr rfl) (by omega) (by omega))]; exact (e4 c).2 j hj
theorem mRw.fr {P : Nat → Int → Prop} {h1 : zH} {R : List tst} (r : mRw h x s R) (f : frP P h h1) (d : ¬ P 150 x) (d1 : ∀ b k, 151 ≤ b → b ≤ 156 → ¬ P b k) : mRw h1 x s R := ⟨by rw [f.1 _ _ d]; exact r.1, fun k y hy => ⟨((r.2 k y hy).1).fr (r.2 k y hy).2 f (fun b _ _ => d1 _ _ (by omega) (by omega)) (fun b j q _ _ => d1 _ _ (by omega) (by omega)), (r.2 k y hy).2⟩⟩
theorem pAt.fr {P : Nat → Int → Prop} {h1 : zH} {L : List Int} (p : pAt h L) (f : frP P h h1) (d : ¬ P 127 49) (d1 : ∀ k, ¬ P 157 k) : pAt h1 L := ⟨by rw [f.1 _ _ d]; exact p.1, fun k hk => by rw [f.1 _ _ (d1 _)]; exact p.2 k hk⟩
theorem mSd.fr {P : Nat → Int → Prop} {h1 : zH} {fa : Int → Int} (q : mSd h s fa) (f : frP P h h1) (d : ∀ k, ¬ P 158 k ∧ ¬ P 159 k) : mSd h1 s fa := fun l l0 l1 => by
  rw [f.1 _ _ (d _).1]
  refine ⟨(q l l0 l1).1, fun c => ⟨((q l l0 l1).2 c).1, ((q l l0 l1).2 c).2.1, fun j hj => ?_⟩⟩
  rw [f.1 _ _ (d _).2]; exact ((q l l0 l1).2 c).2.2 j hj
/-- behind an item -/
theorem s206 {i : Int} (p : mPt h x w m s) (en : rEn w m 0 0 s) (i0 : 0 ≤ i) (i1 : i < s 0 0 1) {K : Int → zH → Prop} (k : K (bT 0 s i) h) : zC1 206 [vR 127 111, vI x, vI (s 4 i 0)] h K := by
  have t4 := en.t40
  have fin : ∀ j, 0 ≤ j → j < s 0 0 1 → ¬ s 1 j 0 = 2 → K (bT 0 s j) h → zK 206 2 [vR 127 111, vI x, vI (s 4 i 0), vI (s 4 j 0)] [] h (fun r h1 => ∃ v : Int, r = some (Sum.inl v) ∧ K v h1) := by
    intro j j0 j1 n2 kk
    have tk := en.tk3 j0 j1
    have ct := en.ct j0 j1
    refine k206_2 x _ _ h _ (s179 0 p ⟨tk.1, by omega⟩ t4 (by omega) ⟨fun c => s179 0 p ⟨tk.1, by omega⟩ t4 (by omega) ⟨fun d => ⟨by unfold inR; omega, zq1 ?_⟩, fun d => s179 2 p ⟨tk.1, by omega⟩ t4 (by omega) ⟨?_, zq1 ?_⟩⟩, fun c => absurd (Classical.not_not.1 c) (by omega)⟩)
    · rwa [(en.lf j0 j1 n2 (by omega)).2] at kk
    · have cl := en.cl j0 j1 (by omega)
      rw [show kid 0 = 3 from rfl] at cl
      unfold inR; omega
    · have cl := en.cl j0 j1 (by omega)
      rw [show kid 0 = 3 from rfl] at cl
      rwa [cl.2] at kk
  refine cI (k206_0 x (s 4 i 0) h _ ?_)
  by_cases c2 : s 1 i 0 = 2
  · have dp := en.dp i0 i1 c2
    have tk := en.tk3 i0 i1
    have ct := en.ct i0 i1
    refine k206_2 x _ _ h _ (s179 0 p ⟨tk.1, by omega⟩ t4 (by omega) ⟨fun c => absurd (show s 3 (s 4 i 0) 0 = 2 by omega) c, fun _ => ⟨by unfold inR; omega, ?_⟩⟩)
    rw [← dp.2.2.2.1]
    exact fin (i + 1) (by omega) dp.1 dp.2.2.2.2.1 (by rw [← dp.2.2.2.2.2.2]; exact k)
  · exact fin i i0 i1 c2 k
/-- a test is added -/
theorem s207 {R : List tst} {L : List Int} {a i : Int} (hx : 0 ≤ x ∧ x < 8) (r : mRw h x s R) (pa : pAt h L) (hl : L.length ≤ 20) (hR : R.length < 40) {K : Int → zH → Prop}
    (k : ∀ h1, frP (fun b k => (b = 150 ∧ k = x) ∨ ((b = 151 ∨ b = 152 ∨ b = 153 ∨ b = 155) ∧ k = 40 * x + R.length) ∨ (b = 154 ∧ 21 * (40 * x + R.length) ≤ k ∧ k < 21 * (40 * x + R.length) + 21)) h h1 → gI h1 150 x = R.length + 1 → gI h1 151 (40 * x + R.length) = a → gI h1 152 (40 * x + R.length) = i → lPt h1 153 154 (40 * x + R.length) L → gI h1 155 (40 * x + R.length) = 0 → K (40 * x + R.length) h1) : zC1 207 [vR 127 111, vI x, vI a, vI i] h K := by
  refine cI (k207_0 x a i h _ ?_)
  rw [r.1]
  refine ⟨by unfold inR; omega, hx.1, hx.2, by unfold inR; omega, hx.1, hx.2, by unfold inR; omega, hx.1, hx.2, fun h7 e7 => ⟨by omega, by omega, fun h8 e8 => ⟨by omega, by omega, fun h9 e9 => ⟨by omega, by omega, fun h10 e10 => ⟨by omega, by omega, fun h11 e11 => ?_⟩⟩⟩⟩⟩
  have z9 : gI h9 127 49 = L.length := by rw [e9, gS, if_neg (by omega), e8, gS, if_neg (by omega), e7, gS, if_neg (by omega)]; exact pa.1
  rw [z9] at e10
  have f11 : frP (fun b k => (b = 150 ∧ k = x) ∨ ((b = 151 ∨ b = 152 ∨ b = 153 ∨ b = 155) ∧ k = 40 * x + R.length) ∨ (b = 154 ∧ 21 * (40 * x + R.length) ≤ k ∧ k < 21 * (40 * x + R.length) + 21)) h h11 := by
    rw [e11, e10, e9, e8, e7]
    exact ((((frP.rf.st (by omega)).st (by omega)).st (by omega)).st (by omega)).st (by omega)
  have g1 : gI h11 150 x = R.length + 1 := by rw [e11, gS, if_neg (by omega), e10, gS, if_neg (by omega), e9, gS, if_neg (by omega), e8, gS, if_neg (by omega), e7, gS1]
  have g2 : gI h11 151 (40 * x + R.length) = a := by rw [e11, gS, if_neg (by omega), e10, gS, if_neg (by omega), e9, gS, if_neg (by omega), e8, gS1]
  have g3 : gI h11 152 (40 * x + R.length) = i := by rw [e11, gS, if_neg (by omega), e10, gS, if_neg (by omega), e9, gS1]
  have g4 : gI h11 153 (40 * x + R.length) = L.length := by rw [e11, gS, if_neg (by omega), e10, gS1]
  have g5 : gI h11 155 (40 * x + R.length) = 0 := by rw [e11, gS1]
  have key : ∀ (f j : Nat) (h1 : zH), j + f = L.length → frP (fun b k => b = 154 ∧ 21 * (40 * x + R.length) ≤ k ∧ k < 21 * (40 * x + R.length) + 21) h11 h1 → (∀ q : Nat, q < j → gI h1 154 (21 * (40 * x + R.length) + q) = L.getD q 0) → zK 207 61 [vR 127 111, vI x, vI a, vI i, vI (40 * x + R.length), vI (j : Nat)] [] h1 (fun r h1 => ∃ v : Int, r = some (Sum.inl v) ∧ K v h1) := by
    intro f
    induction f with
    | zero =>
      intro j h1 hj f1 v1
      have z : gI h1 127 49 = L.length := by rw [f1.1 _ _ (by omega), f11.1 _ _ (by omega)]; exact pa.1
      refine k207_61 _ _ _ _ _ h1 _ ?_
      rw [z]
      refine ⟨fun _ => zq1 (k h1 (f11.tr (f1.mo (fun b k q => by omega))) ?_ ?_ ?_ ⟨?_, fun q hq => v1 q (by omega)⟩ ?_), fun c => absurd (by omega) c⟩
      · rw [f1.1 _ _ (by omega)]; exact g1
      · rw [f1.1 _ _ (by omega)]; exact g2
      · rw [f1.1 _ _ (by omega)]; exact g3
      · rw [f1.1 _ _ (by omega)]; exact g4
      · rw [f1.1 _ _ (by omega)]; exact g5
    | succ f ih =>
      intro j h1 hj f1 v1
      have z : gI h1 127 49 = L.length := by rw [f1.1 _ _ (by omega), f11.1 _ _ (by omega)]; exact pa.1
      have z2 : gI h1 157 j = L.getD j 0 := by rw [f1.1 _ _ (by omega), f11.1 _ _ (by omega)]; exact pa.2 j (by omega)
      refine k207_61 _ _ _ _ _ h1 _ ?_
      rw [z, z2]
      refine ⟨fun c => absurd c (by omega), fun _ => ⟨by unfold inR; omega, by unfold inR; omega, by omega, by omega, by omega, by omega, fun h12 e12 => ⟨by unfold inR; omega, ih (j + 1) h12 (by omega) (by rw [e12]; exact f1.st (by omega)) (fun q hq => ?_)⟩⟩⟩
      rw [e12, gS]
      by_cases c : q = j
      · subst c; rw [if_pos ⟨rfl, rfl⟩]
      · rw [if_neg (by omega)]; exact v1 q (by omega)
  exact key L.length 0 h11 (by omega) frP.rf (fun q hq => by omega)
/-- one that has no other -/
theorem s207n {R : List tst} {i a : Int} (hx : 0 ≤ x ∧ x < 8) (r : mRw h x s R) (pa : pAt h (pth s i)) (hl : (pth s i).length ≤ 20) (hR : R.length < 40) (ha : ¬ a = 4) {K : Int → zH → Prop} (k : ∀ h1, frP (fun b k => mtR x b k ∧ ¬ b = 127 ∧ ¬ b = 157 ∧ ¬ b = 158 ∧ ¬ b = 159) h h1 → mRw h1 x s (R ++ [(a, i, -1)]) → ∀ v, K v h1) : zC1 207 [vR 127 111, vI x, vI a, vI (s 4 i 0)] h K := by
  refine s207 hx r pa hl hR (fun h1 f1 g1 g2 g3 g4 g5 => k h1 (f1.mo (fun b k q => by unfold mtR; omega)) ⟨by rw [g1, List.length_append]; rfl, fun j y hy => ?_⟩ _)
  rcases snoc_q.1 hy with q | q
  · have lt := lt_q q
    have y := r.2 j y q
    exact ⟨y.1.fr y.2 f1 (fun b _ _ => by omega) (fun b p _ _ _ => by omega), y.2⟩
  · obtain ⟨q1, q2⟩ := q
    subst q1; subst q2
    exact ⟨⟨g2, g3, g4, fun c => absurd c ha, fun _ => g5⟩, hl, fun c => absurd c ha⟩
/-- a letter -/
theorem s208 {R : List tst} {i : Int} {fa : Int → Int} (hx : 0 ≤ x ∧ x < 8) (p : mPt h x w m s) (hm : m ≤ 300) (en : rEn w m 0 0 s) (i0 : 0 ≤ i) (i1 : i < s 0 0 1) (h1i : s 1 i 0 = 1) (r : mRw h x s R) (pa : pAt h (pth s i)) (sd : mSd h s fa) (hR : (R ++ ((if s 1 i 2 = -1 then [] else [(3, i, -1)]) ++ (if fa (s 1 i 1) = -1 then [] else [(4, i, fa (s 1 i 1))]))).length ≤ 40) {K : zH → Prop}
    (k : ∀ h1, frP (fun b k => mtR x b k ∧ ¬ b = 127 ∧ ¬ b = 157) h h1 → mRw h1 x s (R ++ ((if s 1 i 2 = -1 then [] else [(3, i, -1)]) ++ (if fa (s 1 i 1) = -1 then [] else [(4, i, fa (s 1 i 1))]))) → mSd h1 s (if fa (s 1 i 1) = -1 then ups fa (s 1 i 1) i else fa) → K h1) : zC0 208 [vR 127 111, vI x, vI (s 4 i 0)] h K := by
  have t4 := en.t40
  have tk := en.tk3 i0 i1
  have ct := en.ct i0 i1
  have l20 := pth_20 en i0 i1
  have lr : 0 ≤ s 1 i 1 ∧ s 1 i 1 < 26 := by omega
  have e1 : s 3 (s 4 i 0) 1 = s 1 i 1 := by omega
  have e2 : s 3 (s 4 i 0) 2 = s 1 i 2 := by omega
  clear ct
  -- behind the kind
  have let2 : ∀ (R1 : List tst) (h2 : zH) (u4 u5 : zV), frP (fun b k => mtR x b k ∧ ¬ b = 127 ∧ ¬ b = 157 ∧ ¬ b = 158 ∧ ¬ b = 159) h h2 → mRw h2 x s R1 → R ++ ((if s 1 i 2 = -1 then [] else [(3, i, -1)]) ++ (if fa (s 1 i 1) = -1 then [] else [(4, i, fa (s 1 i 1))])) = R1 ++ (if fa (s 1 i 1) = -1 then [] else [(4, i, fa (s 1 i 1))]) → zK 208 29 [vR 127 111, vI x, vI (s 4 i 0), vI (s 1 i 1), u4, u5] [] h2 (fun r h1 => r = none ∧ K h1) := by
    intro R1 h2 u4 u5 f2 r2 eR
    rw [eR] at k hR
    have pa2 := pa.fr f2 (by omega) (fun k => by omega)
    have sd2 := sd.fr f2 (fun k => by omega)
    have F2 : frP (fun b k => mtR x b k ∧ ¬ b = 127 ∧ ¬ b = 157) h h2 := f2.mo (fun b k q => ⟨q.1, q.2.1, q.2.2.1⟩)
    have sl := sd2 _ lr.1 lr.2
    refine k208_29 x _ _ u4 u5 h2 _ ⟨lr.1, lr.2, fun c => ⟨lr.1, lr.2, fun h12 e12 => ?_⟩, fun c => ?_⟩
    · have fe : fa (s 1 i 1) = -1 := by
        apply Classical.byContradiction; intro d
        have := (sl.2 d).2.1; omega
      rw [if_pos fe, if_pos fe, List.append_nil] at k
      rw [pa2.1] at e12
      have F12 : frP (fun b k => mtR x b k ∧ ¬ b = 127 ∧ ¬ b = 157) h h12 := by rw [e12]; exact F2.st (by unfold mtR; omega)
      have r12 : mRw h12 x s R1 := r2.fr (show frP (fun b _ => b = 158) h2 h12 by rw [e12]; exact frP.rf.st rfl) (by omega) (fun b k q1 q2 => by omega)
      have pa12 : pAt h12 (pth s i) := pa2.fr (show frP (fun b _ => b = 158) h2 h12 by rw [e12]; exact frP.rf.st rfl) (by omega) (fun k => by omega)
      have lp : ∀ (f j : Nat) (h1 : zH), j + f = (pth s i).length → frP (fun b k => b = 159 ∧ 21 * s 1 i 1 ≤ k ∧ k < 21 * s 1 i 1 + 21) h12 h1 → (∀ q : Nat, q < j → gI h1 159 (21 * s 1 i 1 + q) = (pth s i).getD q 0) → zK 208 120 [vR 127 111, vI x, vI (s 4 i 0), vI (s 1 i 1), vI (j : Nat), u5] [] h1 (fun r h1 => r = none ∧ K h1) := by
        intro f
        induction f with
        | zero =>
          intro j h1 hj f1 v1
          have pa1 := pa12.fr f1 (by omega) (fun k => by omega)
          refine k208_120 _ _ _ _ u5 h1 _ ?_
          rw [pa1.1]
          refine ⟨fun _ => zq0 (k h1 (F12.tr (f1.mo (fun b k q => by unfold mtR; omega))) (r12.fr f1 (by omega) (fun b k q1 q2 => by omega)) (fun l l0 l1 => ?_)), fun d => absurd (by omega) d⟩
          unfold ups
          by_cases d : l = s 1 i 1
          · rw [if_pos d]
            refine ⟨fun z => by omega, fun _ => ⟨by omega, ?_, fun q hq => ?_⟩⟩
            · rw [f1.1 _ _ (by omega), d, e12, gS1]
            · rw [d]; exact v1 q (by omega)
          · rw [if_neg d, f1.1 _ _ (by omega), e12, gS, if_neg (by omega)]
            refine ⟨(sd2 l l0 l1).1, fun z => ⟨((sd2 l l0 l1).2 z).1, ((sd2 l l0 l1).2 z).2.1, fun q hq => ?_⟩⟩
            have l2 := ((sd2 l l0 l1).2 z).1
            rw [f1.1 _ _ (by omega), e12, gS, if_neg (by omega)]
            exact ((sd2 l l0 l1).2 z).2.2 q hq
        | succ f ih =>
          intro j h1 hj f1 v1
          have pa1 := pa12.fr f1 (by omega) (fun k => by omega)
          refine k208_120 _ _ _ _ u5 h1 _ ?_
          rw [pa1.1, pa1.2 j (by omega)]
          refine ⟨fun d => absurd d (by omega), fun _ => ⟨by unfold inR; omega, by unfold inR; omega, by omega, by omega, by omega, by omega, fun h16 e16 => ⟨by unfold inR; omega, ih (j + 1) h16 (by omega) (by rw [e16]; exact f1.st (by omega)) (fun q hq => ?_)⟩⟩⟩
          rw [e16, gS]
          by_cases d : q = j
          · subst d; rw [if_pos ⟨rfl, rfl⟩]
          · rw [if_neg (by omega)]; exact v1 q (by omega)
      exact lp (pth s i).length 0 h12 (by omega) frP.rf (fun q hq => by omega)
    · have fe : ¬ fa (s 1 i 1) = -1 := fun d => c (sl.1 d)
      have sl := sl.2 fe
      rw [if_neg fe, if_neg fe] at k
      rw [if_neg fe, List.length_append] at hR
      have hR1 : R1.length < 40 := by simp at hR; omega
      refine s207 (a := 4) (i := s 4 i 0) hx r2 pa2 (by omega) hR1 (fun h13 f13 g1 g2 g3 g4 g5 => ?_)
      have s158 : gI h13 158 (s 1 i 1) = (pth s (fa (s 1 i 1))).length := by rw [f13.1 _ _ (by omega)]; exact sl.2.1
      rw [s158]
      refine ⟨lr.1, lr.2, by omega, by omega, fun h14 e14 => ?_⟩
      have lp : ∀ (f j : Nat) (h1 : zH), j + f = (pth s (fa (s 1 i 1))).length → frP (fun b k => b = 156 ∧ 21 * (40 * x + R1.length) ≤ k ∧ k < 21 * (40 * x + R1.length) + 21) h14 h1 → (∀ q : Nat, q < j → gI h1 156 (21 * (40 * x + R1.length) + q) = (pth s (fa (s 1 i 1))).getD q 0) → zK 208 64 [vR 127 111, vI x, vI (s 4 i 0), vI (s 1 i 1), vI (40 * x + R1.length), vI (j : Nat)] [] h1 (fun r h1 => r = none ∧ K h1) := by
        intro f
        have f14 : frP (fun b k => (b = 150 ∧ k = x) ∨ ((b = 151 ∨ b = 152 ∨ b = 153 ∨ b = 155) ∧ k = 40 * x + R1.length) ∨ (b = 154 ∧ 21 * (40 * x + R1.length) ≤ k ∧ k < 21 * (40 * x + R1.length) + 21)) h2 h14 := by rw [e14]; exact f13.st (by omega)
        induction f with
        | zero =>
          intro j h1 hj f1 v1
          have z : gI h1 158 (s 1 i 1) = (pth s (fa (s 1 i 1))).length := by rw [f1.1 _ _ (by omega), f14.1 _ _ (by omega)]; exact sl.2.1
          have ff : frP (fun b k => (b = 150 ∧ k = x) ∨ ((b = 151 ∨ b = 152 ∨ b = 153 ∨ b = 155) ∧ k = 40 * x + R1.length) ∨ ((b = 154 ∨ b = 156) ∧ 21 * (40 * x + R1.length) ≤ k ∧ k < 21 * (40 * x + R1.length) + 21)) h2 h1 := (f14.mo (fun b k q => by omega)).tr (f1.mo (fun b k q => by omega))
          refine k208_64 _ _ _ _ _ h1 _ ?_
          rw [z]
          have n4 : ∀ b k, ¬ b = 156 → gI h1 b k = gI h14 b k := fun b k q => f1.1 _ _ (by omega)
          have n3 : ∀ b k, ¬ b = 155 → gI h14 b k = gI h13 b k := fun b k q => by rw [e14, gS, if_neg (by omega)]
          refine ⟨lr.1, lr.2, fun _ => zq0 (k h1 (F2.tr (ff.mo (fun b k q => by unfold mtR; omega))) ⟨?_, fun q y hy => ?_⟩ (sd2.fr ff (fun k => by omega))), fun d => absurd (by omega) d⟩
          · rw [n4 _ _ (by omega), n3 _ _ (by omega), g1, List.length_append]; rfl
          · rcases snoc_q.1 hy with z1 | z1
            · have lt := lt_q z1
              have y := r2.2 q y z1
              exact ⟨y.1.fr y.2 ff (fun b _ _ => by omega) (fun b p _ _ _ => by omega), y.2⟩
            · obtain ⟨z1, z2⟩ := z1
              subst z1; subst z2
              refine ⟨⟨?_, ?_, ⟨?_, fun p hp => ?_⟩, fun _ => ⟨?_, fun p hp => v1 p (by have hp2 : p < (pth s (fa (s 1 i 1))).length := hp; omega)⟩, fun d => absurd rfl d⟩, (show (pth s i).length ≤ 20 by omega), fun _ => sl.1⟩
              · rw [n4 _ _ (by omega), n3 _ _ (by omega)]; exact g2
              · rw [n4 _ _ (by omega), n3 _ _ (by omega)]; exact g3
              · rw [n4 _ _ (by omega), n3 _ _ (by omega)]; exact g4.1
              · rw [n4 _ _ (by omega), n3 _ _ (by omega)]; exact g4.2 p hp
              · rw [n4 _ _ (by omega), e14, gS1]
        | succ f ih =>
          intro j h1 hj f1 v1
          have z : gI h1 158 (s 1 i 1) = (pth s (fa (s 1 i 1))).length := by rw [f1.1 _ _ (by omega), f14.1 _ _ (by omega)]; exact sl.2.1
          have z2 : gI h1 159 (21 * s 1 i 1 + j) = (pth s (fa (s 1 i 1))).getD j 0 := by rw [f1.1 _ _ (by omega), f14.1 _ _ (by omega)]; exact sl.2.2 j (by omega)
          have l2 := sl.1
          refine k208_64 _ _ _ _ _ h1 _ ?_
          rw [z, z2]
          refine ⟨lr.1, lr.2, fun d => absurd d (by omega), fun _ => ⟨by unfold inR; omega, by unfold inR; omega, by unfold inR; omega, by unfold inR; omega, by omega, by omega, by omega, by omega, fun h15 e15 => ⟨by unfold inR; omega, ih (j + 1) h15 (by omega) (by rw [e15]; exact f1.st (by omega)) (fun q hq => ?_)⟩⟩⟩
          rw [e15, gS]
          by_cases d : q = j
          · subst d; rw [if_pos ⟨rfl, rfl⟩]
          · rw [if_neg (by omega)]; exact v1 q (by omega)
      exact lp (pth s (fa (s 1 i 1))).length 0 h14 (by omega) frP.rf (fun q hq => by omega)
  refine cV (k208_0 x (s 4 i 0) h _ (s179 1 p ⟨tk.1, by omega⟩ t4 (by omega) (s179 2 p ⟨tk.1, by omega⟩ t4 (by omega) ?_)))
  rw [e1, e2]
  refine ⟨fun c => let2 R h _ _ frP.rf r (by rw [if_pos c, List.nil_append]), fun c => s207n hx r pa (by omega) ?_ (by omega) (fun h2 f2 r2 v => let2 _ h2 _ _ f2 r2 (by rw [if_neg c, List.append_assoc]))⟩
  rw [if_neg c, List.length_append, List.length_append] at hR
  simp at hR
  omega
end MT
