/-! Two pieces of patterns are the same: by items, by tokens. -/
section SM
variable {m m2 : Int} {s s2 : pS} {w w2 : Int → Int}
def sWd (w w2 : Int → Int) (s s2 : pS) (x y : Int) : Prop := s 1 x 11 = s2 1 y 11 ∧ sameR w w2 (s 1 x 10) (s2 1 y 10) (s 1 x 11)
def sIt (w w2 : Int → Int) (s s2 : pS) (x y : Int) : Prop := s 1 x 0 = s2 1 y 0 ∧ s 1 x 1 = s2 1 y 1 ∧ s 1 x 2 = s2 1 y 2 ∧ s 1 x 6 = s2 1 y 6 ∧ sWd w w2 s s2 x y
def mWd (w w2 : Int → Int) (s s2 : pS) (p q : Int) : Prop := s 3 p 4 = s2 3 q 4 ∧ sameR w w2 (s 3 p 3) (s2 3 q 3) (s 3 p 4)
def mTo (w w2 : Int → Int) (s s2 : pS) (p q : Int) : Prop := s 3 p 0 = s2 3 q 0 ∧ (s 3 p 0 = 1 → s 3 p 1 = s2 3 q 1 ∧ s 3 p 2 = s2 3 q 2) ∧ (s 3 p 0 = 6 → s 3 p 1 = s2 3 q 1) ∧ (s 3 p 0 = 3 ∨ s 3 p 0 = 4 ∨ s 3 p 0 = 5 → mWd w w2 s s2 p q)
theorem rEn.c2 (x : rEn w m 0 0 s) {j : Int} (j0 : 0 ≤ j) (j1 : j < s 0 0 1) : (¬ s 1 j 0 = 1 → s 1 j 2 = -1) ∧ (¬ s 1 j 0 = 3 → ¬ s 1 j 0 = 4 → s 1 j 10 = 0 ∧ s 1 j 11 = 0) := by
  have c := (x.1.2.2.1 j j0 j1).1
  unfold cN at c
  omega
/-- an item's own token -/
theorem own (x : rEn w m 0 0 s) (x2 : rEn w2 m2 0 0 s2) {i j : Int} (i0 : 0 ≤ i) (i1 : i < s 0 0 1) (j0 : 0 ≤ j) (j1 : j < s2 0 0 1) : mTo w w2 s s2 (s 4 i 0) (s2 4 j 0) ↔ (s 1 i 0 = s2 1 j 0 ∧ s 1 i 1 = s2 1 j 1 ∧ s 1 i 2 = s2 1 j 2 ∧ sWd w w2 s s2 i j) := by
  have ci := x.ct i0 i1
  have cj := x2.ct j0 j1
  have di := x.c2 i0 i1
  have dj := x2.c2 j0 j1
  unfold mTo sWd mWd
  constructor
  · rintro ⟨a1, a2, a3, a4⟩
    have eo : s 1 i 0 = s2 1 j 0 := by omega
    refine ⟨eo, ?_, ?_, ?_⟩
    · rcases ci with q | q | q | q | q | q <;> omega
    · rcases ci with q | q | q | q | q | q <;> omega
    · rcases ci with q | q | q | q | q | q
      · have a := di.2 (by omega) (by omega)
        have b := dj.2 (by omega) (by omega)
        rw [a.2, b.2]; exact ⟨rfl, fun k k0 k1 => by omega⟩
      · have a := di.2 (by omega) (by omega)
        have b := dj.2 (by omega) (by omega)
        rw [a.2, b.2]; exact ⟨rfl, fun k k0 k1 => by omega⟩
      · have a := di.2 (by omega) (by omega)
        have b := dj.2 (by omega) (by omega)
        rw [a.2, b.2]; exact ⟨rfl, fun k k0 k1 => by omega⟩
      · have a := di.2 (by omega) (by omega)
        have b := dj.2 (by omega) (by omega)
        rw [a.2, b.2]; exact ⟨rfl, fun k k0 k1 => by omega⟩
      · have a4 := a4 (by omega)
        have b3 : s2 3 (s2 4 j 0) 3 = s2 1 j 10 ∧ s2 3 (s2 4 j 0) 4 = s2 1 j 11 := by omega
        rw [q.2.2.1, q.2.2.2.1, b3.1, b3.2] at a4
        exact a4
      · have a4 := a4 (by omega)
        have b3 : s2 3 (s2 4 j 0) 3 = s2 1 j 10 ∧ s2 3 (s2 4 j 0) 4 = s2 1 j 11 := by omega
        rw [q.2.2.2.1, q.2.2.2.2.1, b3.1, b3.2] at a4
        exact a4
  · rintro ⟨eo, a1, a2, a3, a4⟩
    have et : s 3 (s 4 i 0) 0 = s2 3 (s2 4 j 0) 0 := by
      rcases ci with q | q | q | q | q | q
      · omega
      · omega
      · omega
      · omega
      · have hh := a4 0 (by omega) (by omega)
        rw [Int.add_zero, Int.add_zero] at hh
        rcases cj with r | r | r | r | r | r
        · omega
        · omega
        · omega
        · omega
        · obtain ⟨q1, q2, q3, q4, q5, q6, q7, q8, qw⟩ := q
          obtain ⟨r1, r2, r3, r4, r5, r6, r7, r8, rw'⟩ := r
          rw [hh] at qw
          have nb : ∀ c : Int, isL c → isD c → False := fun c => by unfold isL isD; omega
          rcases qw with qw | qw <;> rcases rw' with rw' | rw'
          · omega
          · exact (nb _ qw.2 rw'.2).elim
          · exact (nb _ rw'.2 qw.2).elim
          · omega
        · omega
      · omega
    refine ⟨et, fun c => ?_, fun c => ?_, fun c => ?_⟩
    · rcases ci with q | q | q | q | q | q <;> omega
    · rcases ci with q | q | q | q | q | q <;> omega
    · have a : s 3 (s 4 i 0) 3 = s 1 i 10 ∧ s 3 (s 4 i 0) 4 = s 1 i 11 := by omega
      have b3 : s2 3 (s2 4 j 0) 3 = s2 1 j 10 ∧ s2 3 (s2 4 j 0) 4 = s2 1 j 11 := by omega
      rw [a.1, a.2, b3.1, b3.2]
      exact ⟨a3, a4⟩
theorem own7 (x : rEn w m 0 0 s) {i : Int} (i0 : 0 ≤ i) (i1 : i < s 0 0 1) : ¬ s 3 (s 4 i 0) 0 = 7 := by
  have ci := x.ct i0 i1
  omega
theorem mTo7 {p q : Int} (h : s 3 p 0 = 7) (h2 : s2 3 q 0 = 7) : mTo w w2 s s2 p q := ⟨by omega, fun c => by omega, fun c => by omega, fun c => by omega⟩
/-- items that are the same have tokens that are the same -/
theorem same_f (x : rEn w m 0 0 s) (x2 : rEn w2 m2 0 0 s2) : ∀ (f : Nat) (i j : Int), s 1 i 9 ≤ f → 0 ≤ i → i < s 0 0 1 → 0 ≤ j → j < s2 0 0 1 → (∀ k, 0 ≤ k → k < s 1 i 9 → sIt w w2 s s2 (i + k) (j + k)) →
    s2 1 j 9 = s 1 i 9 ∧ bT 0 s2 j - s2 4 j 0 = bT 0 s i - s 4 i 0 ∧ ∀ k, 0 ≤ k → k < bT 0 s i - s 4 i 0 → mTo w w2 s s2 (s 4 i 0 + k) (s2 4 j 0 + k) := by
  intro f
  induction f with
  | zero => intro i j h1 i0 i1; have := x.sp i0 i1; omega
  | succ f ih =>
    intro i j h1 i0 i1 j0 j1 hs
    have sp := x.sp i0 i1
    have h0 := hs 0 (by omega) (by omega)
    rw [Int.add_zero, Int.add_zero] at h0
    obtain ⟨e0, e1, e2, e6, ew⟩ := h0
    have own0 := (own x x2 i0 i1 j0 j1).2 ⟨e0, e1, e2, ew⟩
    by_cases c4 : s 1 i 0 = 4
    · have c4' : s2 1 j 0 = 4 := by omega
      have cl := x.cl i0 i1 c4
      have cl2 := x2.cl j0 j1 c4'
      rw [show kid 0 = 3 from rfl] at cl cl2
      have main : s2 1 j 9 = s 1 i 9 ∧ s2 3 (s2 4 j 0) 2 - s2 4 j 0 = s 3 (s 4 i 0) 2 - s 4 i 0 ∧ ∀ k, 1 ≤ k → k < s 3 (s 4 i 0) 2 - s 4 i 0 → mTo w w2 s s2 (s 4 i 0 + k) (s2 4 j 0 + k) := by
        by_cases m0 : s 1 i 6 = 0
        · have f0 := x.f0 i0 i1 c4 m0
          have f0' := x2.f0 j0 j1 c4' (by omega)
          rw [show kid 0 = 3 from rfl] at f0 f0'
          exact ⟨by omega, by omega, fun k k0 k1 => by omega⟩
        · have mm := x.m0 i0 i1
          have f1 := x.f1 i0 i1 c4 (by omega)
          have f1' := x2.f1 j0 j1 c4' (by omega)
          have G : ∀ (d : Nat) (p q : Int), s 1 i 6 - 1 - s 1 p 5 = d → iP s i p → iP s2 j q → s2 1 q 5 = s 1 p 5 → q - j = p - i → s2 4 q 0 - s2 4 j 0 = s 4 p 0 - s 4 i 0 →
              s2 1 j 9 = s 1 i 9 ∧ s2 3 (s2 4 j 0) 2 - s2 4 j 0 = s 3 (s 4 i 0) 2 - s 4 i 0 ∧ ∀ k, s 4 p 0 - s 4 i 0 ≤ k → k < s 3 (s 4 i 0) 2 - s 4 i 0 → mTo w w2 s s2 (s 4 i 0 + k) (s2 4 j 0 + k) := by
            intro d
            induction d with
            | zero =>
              intro p q hd hp hq e5 eo et
              have ls := x.ls i0 hp c4 (by omega)
              have ls2 := x2.ls j0 hq c4' (by omega)
              rw [show kid 0 = 3 from rfl] at ls ls2
              have r := ih p q (by omega) (by omega) hp.2.1 (by omega) hq.2.1 (fun k k0 k1 => by
                have := hs (p - i + k) (by omega) (by omega)
                rwa [show i + (p - i + k) = p + k by omega, show j + (p - i + k) = q + k by omega] at this)
              refine ⟨by omega, by omega, fun k k0 k1 => ?_⟩
              have := r.2.2 (k - (s 4 p 0 - s 4 i 0)) (by omega) (by omega)
              rwa [show s 4 p 0 + (k - (s 4 p 0 - s 4 i 0)) = s 4 i 0 + k by omega, show s2 4 q 0 + (k - (s 4 p 0 - s 4 i 0)) = s2 4 j 0 + k by omega] at this
            | succ d ihd =>
              intro p q hd hp hq e5 eo et
              have nx := x.nx i0 hp c4 (by omega)
              have nx2 := x2.nx j0 hq c4' (by omega)
              have r := ih p q (by omega) (by omega) hp.2.1 (by omega) hq.2.1 (fun k k0 k1 => by
                have := hs (p - i + k) (by omega) (by omega)
                rwa [show i + (p - i + k) = p + k by omega, show j + (p - i + k) = q + k by omega] at this)
              have n := ihd (p + s 1 p 9) (q + s2 1 q 9) (by omega) nx.1 nx2.1 (by omega) (by omega) (by omega)
              refine ⟨n.1, n.2.1, fun k k0 k1 => ?_⟩
              by_cases c : k < s 4 (p + s 1 p 9) 0 - s 4 i 0
              · have := r.2.2 (k - (s 4 p 0 - s 4 i 0)) (by omega) (by omega)
                rwa [show s 4 p 0 + (k - (s 4 p 0 - s 4 i 0)) = s 4 i 0 + k by omega, show s2 4 q 0 + (k - (s 4 p 0 - s 4 i 0)) = s2 4 j 0 + k by omega] at this
              · exact n.2.2 k (by omega) k1
          have r := G (s 1 i 6 - 1).toNat (i + 1) (j + 1) (by omega) f1.1 f1'.1 (by omega) (by omega) (by omega)
          exact ⟨r.1, r.2.1, fun k k0 k1 => r.2.2 k (by omega) k1⟩
      refine ⟨main.1, by omega, fun k k0 k1 => ?_⟩
      by_cases c : k = 0
      · rw [c, Int.add_zero, Int.add_zero]; exact own0
      · by_cases c7 : k < s 3 (s 4 i 0) 2 - s 4 i 0
        · exact main.2.2 k (by omega) c7
        · refine mTo7 ?_ ?_
          · rw [show s 4 i 0 + k = s 3 (s 4 i 0) 2 by omega]; exact cl.1
          · rw [show s2 4 j 0 + k = s2 3 (s2 4 j 0) 2 by omega]; exact cl2.1
    · by_cases c2 : s 1 i 0 = 2
      · have dp := x.dp i0 i1 c2
        have dp2 := x2.dp j0 j1 (by omega)
        have r := ih (i + 1) (j + 1) (by omega) (by omega) dp.1 (by omega) dp2.1 (fun k k0 k1 => by
          have := hs (1 + k) (by omega) (by omega)
          rwa [show i + (1 + k) = i + 1 + k by omega, show j + (1 + k) = j + 1 + k by omega] at this)
        refine ⟨by omega, by omega, fun k k0 k1 => ?_⟩
        by_cases c : k = 0
        · rw [c, Int.add_zero, Int.add_zero]; exact own0
        · have := r.2.2 (k - 1) (by omega) (by omega)
          rwa [show s 4 (i + 1) 0 + (k - 1) = s 4 i 0 + k by omega, show s2 4 (j + 1) 0 + (k - 1) = s2 4 j 0 + k by omega] at this
      · have lf := x.lf i0 i1 c2 c4
        have lf2 := x2.lf j0 j1 (by omega) (by omega)
        refine ⟨by omega, by omega, fun k k0 k1 => ?_⟩
        rw [show k = 0 by omega, Int.add_zero, Int.add_zero]; exact own0
/-- tokens that are the same come of items that are the same -/
theorem same_b (x : rEn w m 0 0 s) (x2 : rEn w2 m2 0 0 s2) (p8 : rP8 s) (p82 : rP8 s2) : ∀ (f : Nat) (i j : Int), s 1 i 9 ≤ f → 0 ≤ i → i < s 0 0 1 → 0 ≤ j → j < s2 0 0 1 → (∀ k, 0 ≤ k → k < bT 0 s i - s 4 i 0 → mTo w w2 s s2 (s 4 i 0 + k) (s2 4 j 0 + k)) →
    s2 1 j 9 = s 1 i 9 ∧ bT 0 s2 j - s2 4 j 0 = bT 0 s i - s 4 i 0 ∧ ∀ k, 0 ≤ k → k < s 1 i 9 → sIt w w2 s s2 (i + k) (j + k) := by
  intro f
  induction f with
  | zero => intro i j h1 i0 i1; have := x.sp i0 i1; omega
  | succ f ih =>
    intro i j h1 i0 i1 j0 j1 hs
    have sp := x.sp i0 i1
    have tk := x.tk3 i0 i1
    have h0 := hs 0 (by omega) (by omega)
    rw [Int.add_zero, Int.add_zero] at h0
    obtain ⟨e0, e1, e2, ew⟩ := (own x x2 i0 i1 j0 j1).1 h0
    have q8 := p8 i i0 i1
    have q82 := p82 j j0 j1
    by_cases c4 : s 1 i 0 = 4
    · have c4' : s2 1 j 0 = 4 := by omega
      have cl := x.cl i0 i1 c4
      have cl2 := x2.cl j0 j1 c4'
      rw [show kid 0 = 3 from rfl] at cl cl2
      have mm := x.m0 i0 i1
      have mm2 := x2.m0 j0 j1
      have main : s2 1 j 6 = s 1 i 6 ∧ s2 1 j 9 = s 1 i 9 ∧ s2 3 (s2 4 j 0) 2 - s2 4 j 0 = s 3 (s 4 i 0) 2 - s 4 i 0 ∧ ∀ k, 1 ≤ k → k < s 1 i 9 → sIt w w2 s s2 (i + k) (j + k) := by
        by_cases m0 : s 1 i 6 = 0
        · have f0 := x.f0 i0 i1 c4 m0
          rw [show kid 0 = 3 from rfl] at f0
          have m0' : s2 1 j 6 = 0 := by
            apply Classical.byContradiction
            intro c
            have f1' := x2.f1 j0 j1 c4' (by omega)
            have o7 := own7 x2 (i := j + 1) (by omega) f1'.1.2.1
            have h := (hs 1 (by omega) (by omega)).1
            rw [f1'.2.2.2.1] at o7
            rw [f0.2.1] at cl
            omega
          have f0' := x2.f0 j0 j1 c4' m0'
          rw [show kid 0 = 3 from rfl] at f0'
          exact ⟨by omega, by omega, by omega, fun k k0 k1 => by omega⟩
        · have f1 := x.f1 i0 i1 c4 (by omega)
          have m0' : ¬ s2 1 j 6 = 0 := by
            intro c
            have f0' := x2.f0 j0 j1 c4' c
            rw [show kid 0 = 3 from rfl] at f0'
            have o7 := own7 x (i := i + 1) (by omega) f1.1.2.1
            have t1 := x.tk3 (j := i + 1) (by omega) f1.1.2.1
            have ls := x.lc i0 i1 c4 (by omega)
            rw [show kid 0 = 3 from rfl] at ls
            have tl := x.tk3 (j := s 2 i 0) (by omega) ls.1.2.1
            have ti := x.tlt (i := i) (j := s 2 i 0) i0 ls.1.1 ls.1.2.1
            have h := (hs 1 (by omega) (by omega)).1
            rw [f1.2.2.2.1] at o7
            rw [f0'.2.1] at cl2
            omega
          have f1' := x2.f1 j0 j1 c4' (by omega)
          have G : ∀ (d : Nat) (p q : Int), s 1 i 6 - 1 - s 1 p 5 = d → iP s i p → iP s2 j q → s2 1 q 5 = s 1 p 5 → q - j = p - i → s2 4 q 0 - s2 4 j 0 = s 4 p 0 - s 4 i 0 →
              s2 1 j 6 = s 1 i 6 ∧ s2 1 j 9 = s 1 i 9 ∧ s2 3 (s2 4 j 0) 2 - s2 4 j 0 = s 3 (s 4 i 0) 2 - s 4 i 0 ∧ ∀ k, p - i ≤ k → k < s 1 i 9 → sIt w w2 s s2 (i + k) (j + k) := by
            intro d
            induction d with
            | zero =>
              intro p q hd hp hq e5 eo et
              have tp := x.tk3 (j := p) (by omega) hp.2.1
              have ti := x.tlt (i := i) (j := p) i0 hp.1 hp.2.1
              have ls := x.ls i0 hp c4 (by omega)
              rw [show kid 0 = 3 from rfl] at ls
              have r := ih p q (by omega) (by omega) hp.2.1 (by omega) hq.2.1 (fun k k0 k1 => by
                have := hs (s 4 p 0 - s 4 i 0 + k) (by omega) (by omega)
                rwa [show s 4 i 0 + (s 4 p 0 - s 4 i 0 + k) = s 4 p 0 + k by omega, show s2 4 j 0 + (s 4 p 0 - s 4 i 0 + k) = s2 4 q 0 + k by omega] at this)
              have pq := x2.pi j0 hq c4'
              have la : ¬ s2 1 q 5 + 1 < s2 1 j 6 := by
                intro c
                have nx2 := x2.nx j0 hq c4' c
                have o7 := own7 x2 (i := q + s2 1 q 9) (by omega) nx2.1.2.1
                have h := (hs (bT 0 s p - s 4 i 0) (by omega) (by omega)).1
                rw [show s 4 i 0 + (bT 0 s p - s 4 i 0) = s 3 (s 4 i 0) 2 by omega, show s2 4 j 0 + (bT 0 s p - s 4 i 0) = s2 4 (q + s2 1 q 9) 0 by omega] at h
                omega
              have ls2 := x2.ls j0 hq c4' la
              rw [show kid 0 = 3 from rfl] at ls2
              refine ⟨by omega, by omega, by omega, fun k k0 k1 => ?_⟩
              have := r.2.2 (k - (p - i)) (by omega) (by omega)
              rwa [show p + (k - (p - i)) = i + k by omega, show q + (k - (p - i)) = j + k by omega] at this
            | succ d ihd =>
              intro p q hd hp hq e5 eo et
              have tp := x.tk3 (j := p) (by omega) hp.2.1
              have ti := x.tlt (i := i) (j := p) i0 hp.1 hp.2.1
              have nx := x.nx i0 hp c4 (by omega)
              have tn := x.tk3 (j := p + s 1 p 9) (by omega) nx.1.2.1
              have ls := x.lc i0 i1 c4 (by omega)
              rw [show kid 0 = 3 from rfl] at ls
              have tl := x.tk3 (j := s 2 i 0) (by omega) ls.1.2.1
              have le : s 4 (p + s 1 p 9) 0 ≤ s 4 (s 2 i 0) 0 := by
                by_cases c : p + s 1 p 9 = s 2 i 0
                · rw [c]; omega
                · have pl : p + s 1 p 9 < s 2 i 0 := by
                    apply Classical.byContradiction; intro cc
                    have sn := x.sp (j := p + s 1 p 9) (by omega) nx.1.2.1
                    have ns := x.ns (y := p + s 1 p 9) (by omega) nx.1.2.1
                    rw [nx.1.2.2] at ns
                    have ssl := x.sp (j := s 2 i 0) (by omega) ls.1.2.1
                    have wi := x.within (e := p + s 1 p 9) (p := s 2 i 0) (by omega) (by omega) (by omega)
                    rw [nx.1.2.2] at wi
                    omega
                  have := x.tlt (i := p + s 1 p 9) (j := s 2 i 0) (by omega) pl ls.1.2.1
                  omega
              have r := ih p q (by omega) (by omega) hp.2.1 (by omega) hq.2.1 (fun k k0 k1 => by
                have := hs (s 4 p 0 - s 4 i 0 + k) (by omega) (by omega)
                rwa [show s 4 i 0 + (s 4 p 0 - s 4 i 0 + k) = s 4 p 0 + k by omega, show s2 4 j 0 + (s 4 p 0 - s 4 i 0 + k) = s2 4 q 0 + k by omega] at this)
              have pq := x2.pi j0 hq c4'
              have la : s2 1 q 5 + 1 < s2 1 j 6 := by
                apply Classical.byContradiction; intro c
                have ls2 := x2.ls j0 hq c4' c
                rw [show kid 0 = 3 from rfl] at ls2
                have o7 := own7 x (i := p + s 1 p 9) (by omega) nx.1.2.1
                have h := (hs (bT 0 s p - s 4 i 0) (by omega) (by omega)).1
                rw [show s 4 i 0 + (bT 0 s p - s 4 i 0) = s 4 (p + s 1 p 9) 0 by omega, show s2 4 j 0 + (bT 0 s p - s 4 i 0) = s2 3 (s2 4 j 0) 2 by omega] at h
                omega
              have nx2 := x2.nx j0 hq c4' la
              have n := ihd (p + s 1 p 9) (q + s2 1 q 9) (by omega) nx.1 nx2.1 (by omega) (by omega) (by omega)
              refine ⟨n.1, n.2.1, n.2.2.1, fun k k0 k1 => ?_⟩
              by_cases c : k < p + s 1 p 9 - i
              · have := r.2.2 (k - (p - i)) (by omega) (by omega)
                rwa [show p + (k - (p - i)) = i + k by omega, show q + (k - (p - i)) = j + k by omega] at this
              · exact n.2.2.2 k (by omega) k1
          have r := G (s 1 i 6 - 1).toNat (i + 1) (j + 1) (by omega) f1.1 f1'.1 (by omega) (by omega) (by omega)
          exact ⟨r.1, r.2.1, r.2.2.1, fun k k0 k1 => r.2.2.2 k (by omega) k1⟩
      refine ⟨main.2.1, by omega, fun k k0 k1 => ?_⟩
      by_cases c : k = 0
      · rw [c, Int.add_zero, Int.add_zero]; exact ⟨e0, e1, e2, main.1.symm, ew⟩
      · exact main.2.2.2 k (by omega) k1
    · by_cases c2 : s 1 i 0 = 2
      · have dp := x.dp i0 i1 c2
        have dp2 := x2.dp j0 j1 (by omega)
        have t1 := x.tk3 (j := i + 1) (by omega) dp.1
        have r := ih (i + 1) (j + 1) (by omega) (by omega) dp.1 (by omega) dp2.1 (fun k k0 k1 => by
          have := hs (1 + k) (by omega) (by omega)
          rwa [show s 4 i 0 + (1 + k) = s 4 (i + 1) 0 + k by omega, show s2 4 j 0 + (1 + k) = s2 4 (j + 1) 0 + k by omega] at this)
        refine ⟨by omega, by omega, fun k k0 k1 => ?_⟩
        by_cases c : k = 0
        · rw [c, Int.add_zero, Int.add_zero]
          have a := q8.2.1 c2
          have b := q82.2.1 (by omega)
          exact ⟨e0, e1, e2, by omega, ew⟩
        · have := r.2.2 (k - 1) (by omega) (by omega)
          rwa [show i + 1 + (k - 1) = i + k by omega, show j + 1 + (k - 1) = j + k by omega] at this
      · have lf := x.lf i0 i1 c2 c4
        have lf2 := x2.lf j0 j1 (by omega) (by omega)
        refine ⟨by omega, by omega, fun k k0 k1 => ?_⟩
        rw [show k = 0 by omega, Int.add_zero, Int.add_zero]
        have a := q8.1 c2 c4
        have b := q82.1 (by omega) (by omega)
        exact ⟨e0, e1, e2, by omega, ew⟩
/-- the same, either way -/
def sTk (w w2 : Int → Int) (s s2 : pS) (i j : Int) : Prop := s 1 i 9 = s2 1 j 9 ∧ ∀ k, 0 ≤ k → k < s 1 i 9 → sIt w w2 s s2 (i + k) (j + k)
def sTm (w w2 : Int → Int) (s s2 : pS) (i j : Int) : Prop := bT 0 s2 j - s2 4 j 0 = bT 0 s i - s 4 i 0 ∧ ∀ k, 0 ≤ k → k < bT 0 s i - s 4 i 0 → mTo w w2 s s2 (s 4 i 0 + k) (s2 4 j 0 + k)
theorem sTk_m (x : rEn w m 0 0 s) (x2 : rEn w2 m2 0 0 s2) (p8 : rP8 s) (p82 : rP8 s2) {i j : Int} (i0 : 0 ≤ i) (i1 : i < s 0 0 1) (j0 : 0 ≤ j) (j1 : j < s2 0 0 1) : sTk w w2 s s2 i j ↔ sTm w w2 s s2 i j := by
  have sp := x.sp i0 i1
  constructor
  · intro h
    have := same_f x x2 (s 1 i 9).toNat i j (by omega) i0 i1 j0 j1 h.2
    exact ⟨this.2.1, this.2.2⟩
  · intro h
    have := same_b x x2 p8 p82 (s 1 i 9).toNat i j (by omega) i0 i1 j0 j1 h.2
    exact ⟨this.1.symm, this.2.2⟩
end SM
