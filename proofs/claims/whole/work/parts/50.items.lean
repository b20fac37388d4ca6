/-! The items of a side that was read: parents, parts, neighbours, spans. -/
section IT
variable {sd b0 n : Int} {s : pS} {t : Int → Int}
/-- a side that was read to its end -/
def rEn (t : Int → Int) (n sd b0 : Int) (s : pS) : Prop := rSd t n sd b0 s ∧ s 0 0 2 = -1 ∧ b0 < s 0 0 1
theorem rEn.N (x : rEn t n sd b0 s) : 0 ≤ b0 ∧ b0 < s 0 0 1 ∧ s 0 0 1 ≤ b0 + 20 := ⟨x.1.1.1.2.2.1, x.2.2, x.1.1.1.2.2.2.2.1⟩
theorem rEn.w (x : rEn t n sd b0 s) {i : Int} (h0 : b0 ≤ i) (h1 : i < s 0 0 1) : ¬ s 1 i 9 = 0 := fun c => by
  have := x.1.2.1.2.2.2.2.1 i h0 h1 c
  have := x.N
  rw [x.2.1] at *
  omega
theorem rEn.A (x : rEn t n sd b0 s) {j : Int} (h0 : b0 ≤ j) (h1 : j < s 0 0 1) : lA sd b0 s j := x.1.2.1.1 j h0 h1
theorem rEn.B (x : rEn t n sd b0 s) {j : Int} (h0 : b0 ≤ j) (h1 : j < s 0 0 1) : lB sd s j := x.1.2.1.2.1 j h0 h1 (x.w h0 h1)
theorem rEn.sp (x : rEn t n sd b0 s) {j : Int} (h0 : b0 ≤ j) (h1 : j < s 0 0 1) : 1 ≤ s 1 j 9 ∧ j + s 1 j 9 ≤ s 0 0 1 := ⟨(x.B h0 h1).1, (x.B h0 h1).2.1⟩
theorem rEn.rt (x : rEn t n sd b0 s) : s 1 b0 3 = -1 ∧ b0 + s 1 b0 9 = s 0 0 1 ∧ s 0 0 (kid sd) = bT sd s b0 ∧ s 4 b0 0 = 0 := by
  have N := x.N
  have p : s 1 b0 3 = -1 := by rcases (x.1.1.2.1 b0 (Int.le_refl _) N.2.1).1 with q | q; exact q; omega
  rcases x.1.2.1.2.2.2.2.2.2.1 x.2.1 with q | q
  · omega
  · exact ⟨p, q.2.1, q.2.2, ((x.A (Int.le_refl _) N.2.1).1 p).2⟩
theorem rEn.par (x : rEn t n sd b0 s) {j : Int} (h0 : b0 < j) (h1 : j < s 0 0 1) : b0 ≤ s 1 j 3 ∧ s 1 j 3 < j ∧ (s 1 (s 1 j 3) 0 = 2 ∨ s 1 (s 1 j 3) 0 = 4) := by
  rcases (x.1.1.2.1 j (by omega) h1).1 with q | q
  · have := (x.A (by omega) h1).1 q; omega
  · exact q
theorem rEn.pn (x : rEn t n sd b0 s) {j : Int} (h0 : b0 ≤ j) (h1 : j < s 0 0 1) (h : ¬ s 1 j 3 = -1) : b0 < j := by
  by_cases c : j = b0
  · rw [c] at h; exact absurd x.rt.1 h
  · omega
theorem rEn.m0 (x : rEn t n sd b0 s) {j : Int} (h0 : b0 ≤ j) (h1 : j < s 0 0 1) : 0 ≤ s 1 j 6 ∧ s 1 j 6 ≤ s 0 0 1 - b0 ∧ 0 ≤ s 1 j 7 := by
  have := x.1.1.2.1 j h0 h1
  exact ⟨this.2.2.1, this.2.2.2.1, this.2.2.2.2.1⟩
theorem rEn.tk (x : rEn t n sd b0 s) {j : Int} (h0 : b0 ≤ j) (h1 : j < s 0 0 1) : 0 ≤ s 4 j 0 ∧ s 4 j 0 < bT sd s j ∧ bT sd s j ≤ s 0 0 (kid sd) := by
  have := x.1.1.2.1 j h0 h1
  have b := x.B h0 h1
  exact ⟨this.2.2.2.2.2.2.1, b.2.2.2.1, b.2.2.1⟩
/-- a part of a term -/
abbrev iP (s : pS) (p y : Int) : Prop := p < y ∧ y < s 0 0 1 ∧ s 1 y 3 = p
theorem rEn.pi (x : rEn t n sd b0 s) {p y : Int} (h0 : b0 ≤ p) (h : iP s p y) (h4 : s 1 p 0 = 4) : 0 ≤ s 1 y 5 ∧ s 1 y 5 < s 1 p 6 := by
  have N := x.N
  have q := (x.A (j := y) (by omega) h.2.1).2.2.1 (by omega) (by rw [h.2.2]; exact h4)
  rw [h.2.2] at q
  exact ⟨q.1, q.2.1⟩
theorem rEn.uq (x : rEn t n sd b0 s) {p : Int} (h0 : b0 ≤ p) (h4 : s 1 p 0 = 4) : ∀ (k : Nat) {y z : Int}, iP s p y → iP s p z → s 1 y 5 = k → s 1 z 5 = k → y = z := by
  have N := x.N
  intro k
  induction k with
  | zero =>
    intro y z hy hz ey ez
    have a := ((x.A (j := y) (by omega) hy.2.1).2.2.1 (by omega) (by rw [hy.2.2]; exact h4)).2.2.1 ey
    have b := ((x.A (j := z) (by omega) hz.2.1).2.2.1 (by omega) (by rw [hz.2.2]; exact h4)).2.2.1 ez
    omega
  | succ k ih =>
    intro y z hy hz ey ez
    have a := ((x.A (j := y) (by omega) hy.2.1).2.2.1 (by omega) (by rw [hy.2.2]; exact h4)).2.2.2 (by omega)
    have b := ((x.A (j := z) (by omega) hz.2.1).2.2.1 (by omega) (by rw [hz.2.2]; exact h4)).2.2.2 (by omega)
    have e := ih (y := s 1 y 4) (z := s 1 z 4) ⟨by omega, by omega, by omega⟩ ⟨by omega, by omega, by omega⟩ (by omega) (by omega)
    rw [e] at a
    omega
/-- the last part -/
theorem rEn.lc (x : rEn t n sd b0 s) {p : Int} (h0 : b0 ≤ p) (h1 : p < s 0 0 1) (h4 : s 1 p 0 = 4) (hm : 0 < s 1 p 6) : iP s p (s 2 p 0) ∧ s 1 (s 2 p 0) 5 = s 1 p 6 - 1 ∧ s 2 p 0 + s 1 (s 2 p 0) 9 = p + s 1 p 9 ∧ s (kid sd) (s 4 p 0) 2 = bT sd s (s 2 p 0) ∧ s 1 p 7 = s 1 (s 2 p 0) 8 := by
  have N := x.N
  have b := ((x.B h0 h1).2.2.2.2.1 h4).2.1 hm
  unfold lcP at b
  exact ⟨⟨b.1, b.2.1, b.2.2.1⟩, b.2.2.2.1, b.2.2.2.2.2.1, b.2.2.2.2.2.2.1, b.2.2.2.2.2.2.2⟩
theorem rEn.ex (x : rEn t n sd b0 s) {p : Int} (h0 : b0 ≤ p) (h1 : p < s 0 0 1) (h4 : s 1 p 0 = 4) : ∀ (d : Nat) (k : Int), s 1 p 6 - 1 - k = d → 0 ≤ k → ∃ y, iP s p y ∧ s 1 y 5 = k ∧ y + s 1 y 9 ≤ p + s 1 p 9 := by
  have N := x.N
  intro d
  induction d with
  | zero =>
    intro k hk k0
    have l := x.lc h0 h1 h4 (by omega)
    exact ⟨_, l.1, by omega, by omega⟩
  | succ d ih =>
    intro k hk k0
    obtain ⟨y, hy, e, le⟩ := ih (k + 1) (by omega) (by omega)
    have a := ((x.A (j := y) (by omega) hy.2.1).2.2.1 (by omega) (by rw [hy.2.2]; exact h4)).2.2.2 (by omega)
    have sy := x.sp (j := y) (by omega) hy.2.1
    exact ⟨s 1 y 4, ⟨by omega, by omega, by omega⟩, by omega, by omega⟩
/-- the part behind -/
theorem rEn.nx (x : rEn t n sd b0 s) {p y : Int} (h0 : b0 ≤ p) (h : iP s p y) (h4 : s 1 p 0 = 4) (hk : s 1 y 5 + 1 < s 1 p 6) : iP s p (y + s 1 y 9) ∧ s 1 (y + s 1 y 9) 5 = s 1 y 5 + 1 ∧ s 1 (y + s 1 y 9) 4 = y ∧ s 4 (y + s 1 y 9) 0 = bT sd s y ∧ s 1 (y + s 1 y 9) 8 = s 1 y 8 + iR s (y + s 1 y 9) ∧ y + s 1 y 9 < p + s 1 p 9 := by
  have N := x.N
  have pi := x.pi h0 h h4
  obtain ⟨z, hz, e, le⟩ := x.ex h0 (by omega) h4 (s 1 p 6 - 1 - (s 1 y 5 + 1)).toNat (s 1 y 5 + 1) (by omega) (by omega)
  have a := ((x.A (j := z) (by omega) hz.2.1).2.2.1 (by omega) (by rw [hz.2.2]; exact h4)).2.2.2 (by omega)
  have sz := x.sp (j := z) (by omega) hz.2.1
  have q := x.uq h0 h4 (s 1 y 5).toNat (y := s 1 z 4) (z := y) ⟨by omega, by omega, by omega⟩ h (by omega) (by omega)
  rw [q] at a
  have e2 : y + s 1 y 9 = z := by omega
  rw [e2]
  exact ⟨hz, e, q, a.2.2.2.2.2.2.1, a.2.2.2.2.2.2.2, by omega⟩
theorem rEn.ls (x : rEn t n sd b0 s) {p y : Int} (h0 : b0 ≤ p) (h : iP s p y) (h4 : s 1 p 0 = 4) (hk : ¬ s 1 y 5 + 1 < s 1 p 6) : s 2 p 0 = y ∧ s 1 y 5 = s 1 p 6 - 1 ∧ y + s 1 y 9 = p + s 1 p 9 ∧ s (kid sd) (s 4 p 0) 2 = bT sd s y ∧ s 1 p 7 = s 1 y 8 := by
  have N := x.N
  have pi := x.pi h0 h h4
  have l := x.lc h0 (by omega) h4 (by omega)
  have q := x.uq h0 h4 (s 1 y 5).toNat (y := s 2 p 0) (z := y) l.1 h (by omega) (by omega)
  rw [q] at l
  exact ⟨q, l.2.1, l.2.2.1, l.2.2.2.1, l.2.2.2.2⟩
theorem rEn.f1 (x : rEn t n sd b0 s) {p : Int} (h0 : b0 ≤ p) (h1 : p < s 0 0 1) (h4 : s 1 p 0 = 4) (hm : 0 < s 1 p 6) : iP s p (p + 1) ∧ s 1 (p + 1) 5 = 0 ∧ s 1 (p + 1) 4 = -1 ∧ s 4 (p + 1) 0 = s 4 p 0 + 1 ∧ s 1 (p + 1) 8 = iR s (p + 1) := by
  have N := x.N
  obtain ⟨z, hz, e, le⟩ := x.ex h0 h1 h4 (s 1 p 6 - 1).toNat 0 (by omega) (by omega)
  have a := ((x.A (j := z) (by omega) hz.2.1).2.2.1 (by omega) (by rw [hz.2.2]; exact h4)).2.2.1 e
  rw [hz.2.2] at a
  have ze := a.1
  subst ze
  exact ⟨hz, e, a.2.2.1, a.2.1, a.2.2.2⟩
/-- a term with no parts -/
theorem rEn.f0 (x : rEn t n sd b0 s) {p : Int} (h0 : b0 ≤ p) (h1 : p < s 0 0 1) (h4 : s 1 p 0 = 4) (hm : s 1 p 6 = 0) : s 1 p 9 = 1 ∧ s (kid sd) (s 4 p 0) 2 = s 4 p 0 + 1 ∧ s 1 p 7 = 0 := ((x.B h0 h1).2.2.2.2.1 h4).1 hm
theorem rEn.cl (x : rEn t n sd b0 s) {p : Int} (h0 : b0 ≤ p) (h1 : p < s 0 0 1) (h4 : s 1 p 0 = 4) : s (kid sd) (s (kid sd) (s 4 p 0) 2) 0 = 7 ∧ bT sd s p = s (kid sd) (s 4 p 0) 2 + 1 := ⟨((x.B h0 h1).2.2.2.2.1 h4).2.2, by unfold bT; rw [if_pos h4]⟩
/-- what is deep -/
theorem rEn.dp (x : rEn t n sd b0 s) {p : Int} (h0 : b0 ≤ p) (h1 : p < s 0 0 1) (h2 : s 1 p 0 = 2) : p + 1 < s 0 0 1 ∧ s 1 (p + 1) 3 = p ∧ s 1 p 9 = 1 + s 1 (p + 1) 9 ∧ s 4 (p + 1) 0 = s 4 p 0 + 1 ∧ ¬ s 1 (p + 1) 0 = 2 ∧ ¬ s 1 (p + 1) 0 = 5 ∧ bT sd s p = bT sd s (p + 1) := by
  have N := x.N
  have b := (x.B h0 h1).2.2.2.2.2.1 h2
  have a := (x.A (j := p + 1) (by omega) b.1).2.1 (by omega) (by rw [b.2.1]; exact h2)
  rw [b.2.1] at a
  refine ⟨b.1, b.2.1, b.2.2.2, a.2.1, a.2.2.1, a.2.2.2, ?_⟩
  unfold bT
  rw [if_neg (by omega), if_pos h2]
  by_cases c : s 1 (p + 1) 0 = 4
  · rw [if_pos c, if_pos c]
  · rw [if_neg c, if_neg c, if_neg a.2.2.1]
theorem rEn.dc (x : rEn t n sd b0 s) {y : Int} (h0 : b0 < y) (h1 : y < s 0 0 1) (h2 : s 1 (s 1 y 3) 0 = 2) : y = s 1 y 3 + 1 := by
  have N := x.N
  have p := x.par h0 h1
  exact ((x.A (j := y) (by omega) h1).2.1 (by omega) h2).1
theorem rEn.lf (x : rEn t n sd b0 s) {p : Int} (h0 : b0 ≤ p) (h1 : p < s 0 0 1) (h2 : ¬ s 1 p 0 = 2) (h4 : ¬ s 1 p 0 = 4) : s 1 p 9 = 1 ∧ bT sd s p = s 4 p 0 + 1 := ⟨(x.B h0 h1).2.2.2.2.2.2 h4 h2, by unfold bT; rw [if_neg h4, if_neg h2]⟩
theorem rEn.ro (x : rEn t n sd b0 s) {y : Int} (h0 : b0 ≤ y) (h1 : y < s 0 0 1) (h5 : s 1 y 0 = 5) : b0 < y ∧ s 1 (s 1 y 3) 0 = 4 := by
  have a := (x.A h0 h1).2.2.2 h5
  exact ⟨x.pn h0 h1 a.1, a.2⟩
theorem rEn.ns (x : rEn t n sd b0 s) {y : Int} (h0 : b0 < y) (h1 : y < s 0 0 1) : y + s 1 y 9 ≤ s 1 y 3 + s 1 (s 1 y 3) 9 := by
  have N := x.N
  have p := x.par h0 h1
  rcases p.2.2 with q | q
  · have := x.dc h0 h1 q
    have d := x.dp p.1 (by omega) q
    rw [← this] at d
    omega
  · by_cases c : s 1 y 5 + 1 < s 1 (s 1 y 3) 6
    · have := x.nx p.1 ⟨p.2.1, h1, rfl⟩ q c
      omega
    · have := x.ls p.1 ⟨p.2.1, h1, rfl⟩ q c
      omega
/-- spans lie in one another -/
theorem rEn.lm (x : rEn t n sd b0 s) : ∀ (f : Nat) (e p : Int), e - b0 ≤ f → b0 ≤ p → p < e → e < p + s 1 p 9 → p ≤ s 1 e 3 ∧ e + s 1 e 9 ≤ p + s 1 p 9 := by
  have N := x.N
  intro f
  induction f with
  | zero => intro e p h1 h2 h3 h4; omega
  | succ f ih =>
    intro e p h1 h2 h3 h4
    have hp := x.sp (j := p) h2 (by
      apply Classical.byContradiction; intro c
      have q := x.1.1.2.2.2 p 9 (by omega)
      omega)
    have he : e < s 0 0 1 := by omega
    have pe := x.par (j := e) (by omega) he
    have first : p ≤ s 1 e 3 := by
      apply Classical.byContradiction
      intro c
      rcases pe.2.2 with q | q
      · have := x.dc (y := e) (by omega) he q; omega
      · have a := (x.A (j := e) (by omega) he).2.2.1 (by omega) q
        by_cases z : s 1 e 5 = 0
        · have := a.2.2.1 z; omega
        · have a := a.2.2.2 (by omega)
          by_cases g : s 1 e 4 = p
          · rw [g] at a; omega
          · by_cases g2 : s 1 e 4 < p
            · have := ih p (s 1 e 4) (by omega) (by omega) g2 (by omega)
              omega
            · have := ih (s 1 e 4) p (by omega) h2 (by omega) (by omega)
              omega
    refine ⟨first, ?_⟩
    have ns := x.ns (y := e) (by omega) he
    by_cases g : s 1 e 3 = p
    · rw [g] at ns; exact ns
    · have := ih (s 1 e 3) p (by omega) h2 (by omega) (by omega)
      omega
theorem rEn.within (x : rEn t n sd b0 s) {e p : Int} (h2 : b0 ≤ p) (h3 : p < e) (h4 : e < p + s 1 p 9) : p ≤ s 1 e 3 ∧ e + s 1 e 9 ≤ p + s 1 p 9 := x.lm (e - b0).toNat e p (by have := x.N; omega) h2 h3 h4
/-- parts that are singles and rows -/
theorem rEn.rs (x : rEn t n sd b0 s) {p : Int} (h0 : b0 ≤ p) (h4 : s 1 p 0 = 4) : ∀ (k : Nat) {y : Int}, iP s p y → s 1 y 5 = k → 0 ≤ s 1 y 8 ∧ iR s y ≤ s 1 y 8 ∧ s 1 y 8 ≤ k + 1 ∧ s 1 y 8 ≤ k + iR s y := by
  have N := x.N
  intro k
  induction k with
  | zero =>
    intro y hy e
    have a := ((x.A (j := y) (by omega) hy.2.1).2.2.1 (by omega) (by rw [hy.2.2]; exact h4)).2.2.1 e
    have : iR s y = 0 ∨ iR s y = 1 := by unfold iR; split <;> omega
    omega
  | succ k ih =>
    intro y hy e
    have a := ((x.A (j := y) (by omega) hy.2.1).2.2.1 (by omega) (by rw [hy.2.2]; exact h4)).2.2.2 (by omega)
    have w := ih (y := s 1 y 4) ⟨by omega, by omega, by omega⟩ (by omega)
    have : iR s y = 0 ∨ iR s y = 1 := by unfold iR; split <;> omega
    omega
end IT
