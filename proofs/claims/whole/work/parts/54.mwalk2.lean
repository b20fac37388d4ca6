/-! The model's walk along a pattern: levels, closing. -/
/-- at which level an item stands -/
def lvl (s : pS) (bs : Int) : Nat → Int → Int
  | 0, _ => -1
  | f + 1, y => if y = bs then -1 else lvl s bs f (s 1 y 3) + (if s 1 (s 1 y 3) 0 = 4 then 1 else 0)
abbrev lD (s : pS) (bs y : Int) : Int := lvl s bs 20 y
section LV
variable {m bs b0 sd : Int} {s : pS} {w : Int → Int}
theorem lvl_f (x : rEn w m sd b0 s) (b : bsI s b0 bs) : ∀ (f k : Nat) (y : Int), bs ≤ y → y < bs + s 1 bs 9 → y - bs < f → y - bs < k → lvl s bs f y = lvl s bs k y := by
  intro f
  induction f with
  | zero => intro k y h0 h1 h2 h3; omega
  | succ f ih =>
    intro k y h0 h1 h2 h3
    cases k with
    | zero => omega
    | succ k =>
      unfold lvl
      by_cases c : y = bs
      · rw [if_pos c, if_pos c]
      · rw [if_neg c, if_neg c]
        have bj := x.bj b (j := y) (by omega) h1
        rw [ih k (s 1 y 3) (by omega) (by omega) (by omega) (by omega)]
theorem lD_0 : lD s bs bs = -1 := by unfold lD lvl; rw [if_pos rfl]
theorem lD_s (x : rEn w m sd b0 s) (b : bsI s b0 bs) {y : Int} (h0 : bs < y) (h1 : y < bs + s 1 bs 9) : lD s bs y = lD s bs (s 1 y 3) + (if s 1 (s 1 y 3) 0 = 4 then 1 else 0) := by
  have N := x.N
  have sp := x.sp b.1 b.2.1
  have b1 := b.1
  have bj := x.bj b (j := y) h0 h1
  have e := lvl_f x b 19 20 (s 1 y 3) (by omega) (by omega) (by omega) (by omega)
  show lvl s bs (19 + 1) y = _
  rw [lvl, if_neg (by omega), e]
theorem lD_rg (x : rEn w m sd b0 s) (b : bsI s b0 bs) : ∀ (f : Nat) (y : Int), y - bs ≤ f → bs ≤ y → y < bs + s 1 bs 9 → -1 ≤ lD s bs y ∧ lD s bs y < y - bs := by
  intro f
  induction f with
  | zero => intro y h h0 h1; have : y = bs := by omega
            rw [this, lD_0]; omega
  | succ f ih =>
    intro y h h0 h1
    by_cases c : y = bs
    · rw [c, lD_0]; omega
    · have bj := x.bj b (j := y) (by omega) h1
      have i := ih (s 1 y 3) (by omega) (by omega) (by omega)
      rw [lD_s x b (by omega) h1]
      split <;> omega
theorem lD_19 (x : rEn w m sd b0 s) (b : bsI s b0 bs) {y : Int} (h0 : bs ≤ y) (h1 : y < bs + s 1 bs 9) : -1 ≤ lD s bs y ∧ lD s bs y < 19 := by
  have N := x.N
  have sp := x.sp b.1 b.2.1
  have b1 := b.1
  have := lD_rg x b (y - bs).toNat y (by omega) h0 h1
  omega
theorem lD_an (x : rEn w m sd b0 s) (b : bsI s b0 bs) : ∀ (f : Nat) (y z : Int), z - bs ≤ f → bs ≤ y → y < z → z < y + s 1 y 9 → z < bs + s 1 bs 9 → lD s bs y ≤ lD s bs (s 1 z 3) := by
  intro f
  induction f with
  | zero => intro y z h h0 h1 h2 h3; omega
  | succ f ih =>
    intro y z h h0 h1 h2 h3
    have bj := x.bj b (j := z) (by omega) h3
    have wi := x.within (e := z) (p := y) (by have := b.1; omega) h1 h2
    by_cases c : s 1 z 3 = y
    · rw [c]; omega
    · have i := ih y (s 1 z 3) (by omega) h0 (by omega) (by omega) (by omega)
      rw [lD_s x b (y := s 1 z 3) (by omega) (by omega)]
      split <;> omega
end LV
/-- what the levels hold, before an item and behind it -/
def mIa (h : zH) (s : pS) (bs : Int) (st : fZ) (j : Int) : Prop := ∀ y, bs < y → y < j → j < y + s 1 y 9 → s 1 (s 1 y 3) 0 = 4 → gI h 148 (lD s bs y) = st 3 y ∧ gI h 149 (lD s bs y) = st 4 y
def mIb (h : zH) (T : pT) (s : pS) (bs v : Int) (st : fZ) (j : Int) : Prop := bs < j → s 1 (s 1 j 3) 0 = 4 → gI h 148 (lD s bs j) = fA s bs v st j ∧ gI h 149 (lD s bs j) = fR T s bs st j
def mIc (h : zH) (s : pS) (bs : Int) (st : fZ) (j : Int) : Prop := ∀ y, bs < y → y ≤ j → j < y + s 1 y 9 → s 1 (s 1 y 3) 0 = 4 → gI h 148 (lD s bs y) = st 3 y ∧ gI h 149 (lD s bs y) = st 4 y
/-- what letters hold -/
def mIh (h : zH) (s : pS) (bs : Int) (st : fZ) (j : Int) : Prop := ∀ l, 0 ≤ l → l < 26 → (hF s bs l j = -1 → gI h 147 l = -1) ∧ (¬ hF s bs l j = -1 → gI h 147 l = st 2 (hF s bs l j) ∧ gI h 146 l = st 0 (hF s bs l j))
def nxv (s : pS) (bs v : Int) (st : fZ) (j : Int) : Int := if j = bs then v else if s 1 (s 1 j 3) 0 = 2 then st 0 (s 1 j 3) else -1
def pck2 (s : pS) (bs : Int) (st : fZ) (j : Int) : Prop := ∀ y, bs < y → y ≤ j → y + s 1 y 9 = j + 1 → s 1 (s 1 y 3) 0 = 4 → s 1 y 3 + s 1 (s 1 y 3) 9 = j + 1 → st 4 y = 0
def pSt (s : pS) (bs : Int) (R : Option fZ × Nat × Bool) (v : Int) (h : zH) : Prop := gI h 127 35 = R.2.1 ∧ gI h 127 36 = (if R.2.2 then 1 else 0) ∧ (R.1 = none → v = 0) ∧ (∀ st, R.1 = some st → v = 1 ∧ mIh h s bs st (bs + s 1 bs 9))
section WA
variable {h h0 : zH} {t w : Int → Int} {n nd nc m z bs v : Int} {T C : pT} {s : pS}
theorem rEn.t40 (x : rEn w m 0 0 s) : s 0 0 3 ≤ 40 := by
  have i := x.1.1.1
  obtain ⟨i1, i2, i3, i4, i5, i6, i7, i8, i9, i10, i11, i12, i13⟩ := i
  have e : kid 0 = 3 := rfl
  rw [e] at i11 i12
  omega
theorem rEn.tk3 (x : rEn w m 0 0 s) {j : Int} (h0 : 0 ≤ j) (h1 : j < s 0 0 1) : 0 ≤ s 4 j 0 ∧ s 4 j 0 < bT 0 s j ∧ bT 0 s j ≤ s 0 0 3 := x.tk h0 h1
theorem rEn.tlt (x : rEn w m 0 0 s) {i j : Int} (h0 : 0 ≤ i) (h : i < j) (h1 : j < s 0 0 1) : s 4 i 0 < s 4 j 0 := x.1.2.1.2.2.2.2.2.2.2 i j h0 h h1
/-- the terms that end behind item j are closed -/
theorem close (g : sF t n nd nc T C) (x : rEn w m 0 0 s) (b : bsI s 0 bs) (p : mPt h z w m s) {st : fZ} {j : Int} {u3 : zV} (h1 : j < bs + s 1 bs 9) (vd : fVd nd T s bs st (j + 1)) (ic : mIc h s bs st j) {Q : Option zV → zH → Prop}
    (qf : ¬ pck2 s bs st j → Q (some (vI 0)) h)
    (qn : pck2 s bs st j → j + 1 < bs + s 1 bs 9 → s 1 (s 1 (j + 1) 3) 0 = 4 → ∀ u7 u8, zK 187 61 [vR 127 111, vI z, vI (s 4 bs 0), u3, vI (lD s bs (j + 1)), vI (-1), vI (s 4 (j + 1) 0), u7, u8] [] h Q)
    (qe : pck2 s bs st j → j + 1 = bs + s 1 bs 9 → Q (some (vI 1)) h) :
    ∀ (f : Nat) (y : Int) (u7 u8 : zV), y - bs ≤ f → bs ≤ y → y ≤ j → y + s 1 y 9 = j + 1 → (∀ y', y < y' → y' ≤ j → y' + s 1 y' 9 = j + 1 → s 1 (s 1 y' 3) 0 = 4 → s 1 y' 3 + s 1 (s 1 y' 3) 9 = j + 1 → st 4 y' = 0) →
      zK 187 43 [vR 127 111, vI z, vI (s 4 bs 0), u3, vI (lD s bs y), vI (-1), vI (bT 0 s y), u7, u8] [] h Q := by
  have N := x.N
  have t4 := x.t40
  have b1 := b.1
  have b2 := b.2.1
  have fin : ∀ (u7 u8 : zV), bs + s 1 bs 9 = j + 1 → (∀ y', bs < y' → y' ≤ j → y' + s 1 y' 9 = j + 1 → s 1 (s 1 y' 3) 0 = 4 → s 1 y' 3 + s 1 (s 1 y' 3) 9 = j + 1 → st 4 y' = 0) → zK 187 43 [vR 127 111, vI z, vI (s 4 bs 0), u3, vI (lD s bs bs), vI (-1), vI (bT 0 s bs), u7, u8] [] h Q := by
    intro u7 u8 e hh
    have tk := x.tk3 b1 b2
    rw [lD_0]
    exact k187_43 z (s 4 bs 0) u3 (-1) (-1) (bT 0 s bs) u7 u8 h Q ⟨fun c => by omega, fun _ => ⟨fun c => absurd rfl c, fun _ => ⟨fun _ => ⟨Or.inr rfl, qe hh (by omega)⟩, fun c => absurd rfl c⟩⟩⟩
  intro f
  induction f with
  | zero =>
    intro y u7 u8 hy y0 y1 y2 hh
    have : y = bs := by omega
    subst this
    exact fin u7 u8 y2 hh
  | succ f ih =>
    intro y u7 u8 hy y0 y1 y2 hh
    by_cases c : y = bs
    · subst c; exact fin u7 u8 y2 hh
    · have bj := x.bj b (j := y) (by omega) (by omega)
      have ld := lD_s x b (y := y) (by omega) (by omega)
      have lp := lD_19 x b (y := s 1 y 3) (by omega) (by omega)
      rcases bj.2.2.2.1 with q | q
      · have dc := x.dc (y := y) (by omega) bj.1 q
        have dp := x.dp (p := s 1 y 3) (by omega) (by omega) q
        rw [← dc] at dp
        rw [if_neg (by omega), Int.add_zero] at ld
        have := ih (s 1 y 3) u7 u8 (by omega) (by omega) (by omega) (by omega) (fun y' e0 e1 e2 e3 e4 => by
          by_cases e : y' = y
          · subst e; omega
          · exact hh y' (by omega) e1 e2 e3 e4)
        rw [dp.2.2.2.2.2.2, ← ld] at this
        exact this
      · rw [if_pos q] at ld
        have ip : iP s (s 1 y 3) y := ⟨by omega, bj.1, rfl⟩
        by_cases c1 : s 1 y 5 + 1 < s 1 (s 1 y 3) 6
        · have nx := x.nx (by omega) ip q c1
          rw [y2] at nx
          have j1 : j + 1 < bs + s 1 bs 9 := by omega
          have ln := lD_s x b (y := j + 1) (by omega) j1
          rw [nx.1.2.2, if_pos q, ← ld] at ln
          have pk : pck2 s bs st j := by
            intro y' e0 e1 e2 e3 e4
            by_cases e : y < y'
            · exact hh y' e e1 e2 e3 e4
            · by_cases e' : y' = y
              · subst e'; omega
              · have wi := x.within (e := y) (p := y') (by omega) (by omega) (by omega)
                by_cases e5 : y' = s 1 y 3
                · rw [← e5] at nx; omega
                · have := x.within (e := s 1 y 3) (p := y') (by omega) (by omega) (by omega)
                  omega
          have k1 := qn pk j1 (by rw [nx.1.2.2]; exact q)
          rw [ln, nx.2.2.2.1] at k1
          exact k187_43 z (s 4 bs 0) u3 (lD s bs y) (-1) (bT 0 s y) u7 u8 h Q ⟨fun _ => k1 u7 u8, fun _ => ⟨fun _ => k1 u7 u8, fun c => absurd (show ¬ lD s bs y = -1 by omega) c⟩⟩
        · have ls := x.ls (by omega) ip q c1
          have cl := x.cl (p := s 1 y 3) (by omega) (by omega) q
          rw [show kid 0 = 3 from rfl] at ls cl
          rw [ls.2.2.2.1] at cl
          have tp := x.tk3 (j := s 1 y 3) (by omega) (by omega)
          have ty := x.tk3 (j := y) (by omega) bj.1
          have vy := (vd y (by omega) (by omega)).2 (by omega) q
          have lv := ic y (by omega) y1 (by omega) q
          have at61 : ∀ u7 u8, zK 187 61 [vR 127 111, vI z, vI (s 4 bs 0), u3, vI (lD s bs y), vI (-1), vI (bT 0 s y), u7, u8] [] h Q := by
            intro u7 u8
            refine k187_61 z (s 4 bs 0) u3 (lD s bs y) (-1) (bT 0 s y) u7 u8 h Q (s179 0 p (by omega) t4 (by omega) ⟨fun d => absurd cl.1 d, fun _ => ⟨by omega, by omega, ?_⟩⟩)
            rw [lv.2]
            refine ⟨fun d => ⟨by unfold inR; omega, by unfold inR; omega, ?_⟩, fun d => ⟨Or.inl rfl, qf (fun pk => d ?_)⟩⟩
            · have := ih (s 1 y 3) (vI (s 3 (bT 0 s y) 0)) u8 (by omega) (by omega) (by omega) (by omega) (fun y' e0 e1 e2 e3 e4 => by
                by_cases e : y < y'
                · exact hh y' e e1 e2 e3 e4
                · by_cases e' : y' = y
                  · subst e'; omega
                  · have wi := x.within (e := y) (p := y') (by omega) (by omega) (by omega)
                    omega)
              rw [cl.2, show lD s bs (s 1 y 3) = lD s bs y + -1 by omega] at this
              exact this
            · have := pk y (by omega) y1 y2 q (by omega)
              omega
          exact k187_43 z (s 4 bs 0) u3 (lD s bs y) (-1) (bT 0 s y) u7 u8 h Q ⟨fun _ => at61 u7 u8, fun _ => ⟨fun _ => at61 u7 u8, fun c => absurd (show ¬ lD s bs y = -1 by omega) c⟩⟩
/-- a node is taken from its level -/
theorem takes (g : sF t n nd nc T C) (x : rEn w m 0 0 s) (b : bsI s 0 bs) (p : mPt h z w m s) (y : mN h t n nd nc T C) (hv : 0 ≤ v ∧ v < nd) {st : fZ} {j : Int} {u3 u7 u8 : zV} (j0 : bs ≤ j) (h1 : j < bs + s 1 bs 9) (vd : fVd nd T s bs st j) (ia : mIa h s bs st j) (ib : mIb h T s bs v st j) (hk : ¬ s 3 (s 4 j 0) 0 = 7 ∧ ¬ s 3 (s 4 j 0) 0 = 6) {Q : Option zV → zH → Prop}
    (qf : fR T s bs st j < 1 → Q (some (vI 0)) h)
    (q : ¬ fR T s bs st j < 1 → ∀ h2 u5, frP (fun b k => (b = 148 ∨ b = 149) ∧ k = lD s bs j ∧ bs < j) h h2 → (∀ a l r, mIc h2 s bs (fU st j a l r (fA s bs v st j + T (fA s bs v st j) 6) (fR T s bs st j - 1)) j) →
      zK 187 178 [vR 127 111, vI z, vI (s 4 bs 0), u3, vI (lD s bs j), u5, vI (s 4 j 0), vI (s 3 (s 4 j 0) 0), vI (fA s bs v st j)] [] h2 Q) :
    zK 187 61 [vR 127 111, vI z, vI (s 4 bs 0), u3, vI (lD s bs j), vI (nxv s bs v st j), vI (s 4 j 0), u7, u8] [] h Q := by
  have N := x.N
  have t4 := x.t40
  have b1 := b.1
  have b2 := b.2.1
  have sp := x.sp b.1 b.2.1
  have hnd := g.hd
  have vs := fVs_of g x b hv vd j0 h1
  have tj := x.tk3 (j := j) (by omega) (by omega)
  have anc : ∀ (h2 : zH) a l r, (bs < j → s 1 (s 1 j 3) 0 = 4 → gI h2 148 (lD s bs j) = fA s bs v st j + T (fA s bs v st j) 6 ∧ gI h2 149 (lD s bs j) = fR T s bs st j - 1) → (∀ d, -1 ≤ d → (bs < j → s 1 (s 1 j 3) 0 = 4 → ¬ d = lD s bs j) → gI h2 148 d = gI h 148 d ∧ gI h2 149 d = gI h 149 d) → mIc h2 s bs (fU st j a l r (fA s bs v st j + T (fA s bs v st j) 6) (fR T s bs st j - 1)) j := by
    intro h2 a l r e1 e2 y y0 y1 y2 y3
    by_cases c : y = j
    · subst c
      rw [fU_3, fU_4]
      exact e1 y0 y3
    · rw [fU_o c, fU_o c]
      have i := ia y y0 (by omega) y2 y3
      have ly := lD_19 x b (y := y) (by omega) (by omega)
      have := e2 (lD s bs y) (by omega) (fun d0 d1 => by
        have la := lD_an x b (j - bs).toNat y j (by omega) (by omega) (by omega) y2 h1
        have ls := lD_s x b d0 h1
        rw [if_pos d1] at ls
        omega)
      rw [this.1, this.2]
      exact i
  refine k187_61 z (s 4 bs 0) u3 (lD s bs j) (nxv s bs v st j) (s 4 j 0) u7 u8 h Q (s179 0 p (by omega) t4 (by omega) ⟨fun _ => ⟨fun _ => ?_, fun d => absurd hk.2 d⟩, fun d => absurd hk.1 d⟩)
  by_cases cp : bs < j ∧ s 1 (s 1 j 3) 0 = 4
  · have bj := x.bj b cp.1 h1
    have en : nxv s bs v st j = -1 := by unfold nxv; rw [if_neg (by omega), if_neg (by omega)]
    have ld := lD_s x b cp.1 h1
    rw [if_pos cp.2] at ld
    have lp := lD_19 x b (y := s 1 j 3) (by omega) (by omega)
    have lj := lD_19 x b (y := j) (by omega) h1
    have e := ib cp.1 cp.2
    have vb := vs.1 cp.1 cp.2
    rw [en, e.1, e.2]
    refine ⟨fun d => absurd rfl d, fun _ => ⟨by omega, by omega, fun d => ?_, fun d => ⟨Or.inl rfl, qf (by omega)⟩⟩⟩
    have va := vs.2.2.1 (by omega)
    have sz := g.sz va.1 va.2
    have r12 := vs.2.2.2
    refine ⟨by omega, by omega, by omega, by omega, s158 6 (by omega) g y va ⟨by unfold inR; omega, by omega, by omega, fun h22 e22 => ⟨by omega, by omega, ?_⟩⟩⟩
    have e9 : gI h22 149 (lD s bs j) = fR T s bs st j := by rw [e22, gS, if_neg (by omega)]; exact e.2
    rw [e9]
    refine ⟨by unfold inR; omega, by omega, by omega, fun h23 e23 => ?_⟩
    refine q (by omega) h23 _ (by rw [e23, e22]; exact (frP.rf.st ⟨Or.inl rfl, rfl, cp.1⟩).st ⟨Or.inr rfl, rfl, cp.1⟩) (fun a l r => anc h23 a l r (fun _ _ => ⟨?_, ?_⟩) (fun d d0 d1 => ⟨?_, ?_⟩))
    · rw [e23, gS, if_neg (by omega), e22, gS1]
    · rw [e23, gS1]
    · rw [e23, gS, if_neg (by omega), e22, gS, if_neg (fun c => d1 cp.1 cp.2 c.2)]
    · rw [e23, gS, if_neg (fun c => d1 cp.1 cp.2 c.2), e22, gS, if_neg (by omega)]
  · have r1 := vs.2.1 cp
    have va := vs.2.2.1 (by omega)
    have en : nxv s bs v st j = fA s bs v st j := by
      unfold nxv fA
      by_cases c : j = bs
      · rw [if_pos c, if_pos c]
      · have bj := x.bj b (j := j) (by omega) h1
        rw [if_neg c, if_neg c]
        rcases bj.2.2.2.1 with d | d
        · rw [if_pos d, if_pos d]
        · exact absurd ⟨by omega, d⟩ cp
    rw [en]
    refine ⟨fun _ => ?_, fun d => absurd (show ¬ fA s bs v st j = -1 by omega) d⟩
    refine q (by omega) h _ frP.rf (fun a l r => anc h a l r (fun c0 c1 => absurd ⟨c0, c1⟩ cp) (fun d _ _ => ⟨rfl, rfl⟩))
end WA
