/-! The shape of a rule: items, their parts and their tokens. -/
def iR (s : pS) (i : Int) : Int := if s 1 i 0 = 5 then 1 else 0
/-- the token behind an item -/
def bT (sd : Int) (s : pS) (i : Int) : Int := if s 1 i 0 = 4 then s (kid sd) (s 4 i 0) 2 + 1 else if s 1 i 0 = 2 then (if s 1 (i + 1) 0 = 4 then s (kid sd) (s 4 (i + 1) 0) 2 + 1 else s 4 (i + 1) 0 + 1) else s 4 i 0 + 1
/-- the last part of a term, up to item e, token k -/
def lcP (sd : Int) (s : pS) (i e k : Int) : Prop := i < s 2 i 0 ∧ s 2 i 0 < s 0 0 1 ∧ s 1 (s 2 i 0) 3 = i ∧ s 1 (s 2 i 0) 5 = s 1 i 6 - 1 ∧ ¬ s 1 (s 2 i 0) 9 = 0 ∧ s 2 i 0 + s 1 (s 2 i 0) 9 = e ∧ k = bT sd s (s 2 i 0) ∧ s 1 i 7 = s 1 (s 2 i 0) 8
/-- how an item hangs in what is around it -/
def lA (sd b0 : Int) (s : pS) (j : Int) : Prop := (s 1 j 3 = -1 → j = b0 ∧ s 4 j 0 = 0) ∧
  (¬ s 1 j 3 = -1 → s 1 (s 1 j 3) 0 = 2 → j = s 1 j 3 + 1 ∧ s 4 j 0 = s 4 (s 1 j 3) 0 + 1 ∧ ¬ s 1 j 0 = 2 ∧ ¬ s 1 j 0 = 5) ∧
  (¬ s 1 j 3 = -1 → s 1 (s 1 j 3) 0 = 4 → 0 ≤ s 1 j 5 ∧ s 1 j 5 < s 1 (s 1 j 3) 6 ∧ (s 1 j 5 = 0 → j = s 1 j 3 + 1 ∧ s 4 j 0 = s 4 (s 1 j 3) 0 + 1 ∧ s 1 j 4 = -1 ∧ s 1 j 8 = iR s j) ∧
    (0 < s 1 j 5 → s 1 j 3 < s 1 j 4 ∧ s 1 j 4 < j ∧ s 1 (s 1 j 4) 3 = s 1 j 3 ∧ s 1 (s 1 j 4) 5 = s 1 j 5 - 1 ∧ ¬ s 1 (s 1 j 4) 9 = 0 ∧ s 1 j 4 + s 1 (s 1 j 4) 9 = j ∧ s 4 j 0 = bT sd s (s 1 j 4) ∧ s 1 j 8 = s 1 (s 1 j 4) 8 + iR s j)) ∧
  (s 1 j 0 = 5 → ¬ s 1 j 3 = -1 ∧ s 1 (s 1 j 3) 0 = 4)
/-- an item that is whole -/
def lB (sd : Int) (s : pS) (i : Int) : Prop := 1 ≤ s 1 i 9 ∧ i + s 1 i 9 ≤ s 0 0 1 ∧ bT sd s i ≤ s 0 0 (kid sd) ∧ s 4 i 0 < bT sd s i ∧
  (s 1 i 0 = 4 → (s 1 i 6 = 0 → s 1 i 9 = 1 ∧ s (kid sd) (s 4 i 0) 2 = s 4 i 0 + 1 ∧ s 1 i 7 = 0) ∧ (0 < s 1 i 6 → lcP sd s i (i + s 1 i 9) (s (kid sd) (s 4 i 0) 2)) ∧ s (kid sd) (s (kid sd) (s 4 i 0) 2) 0 = 7) ∧
  (s 1 i 0 = 2 → i + 1 < s 0 0 1 ∧ s 1 (i + 1) 3 = i ∧ ¬ s 1 (i + 1) 9 = 0 ∧ s 1 i 9 = 1 + s 1 (i + 1) 9) ∧ (¬ s 1 i 0 = 4 → ¬ s 1 i 0 = 2 → s 1 i 9 = 1)
def rL (sd b0 : Int) (s : pS) : Prop := (∀ j, b0 ≤ j → j < s 0 0 1 → lA sd b0 s j) ∧ (∀ i, b0 ≤ i → i < s 0 0 1 → ¬ s 1 i 9 = 0 → lB sd s i) ∧
  (¬ s 0 0 2 = -1 → s 1 (s 0 0 2) 9 = 0 ∧ (s 1 (s 0 0 2) 6 = 0 → s 0 0 1 = s 0 0 2 + 1 ∧ s 0 0 (kid sd) = s 4 (s 0 0 2) 0 + 1 ∧ s 1 (s 0 0 2) 7 = 0) ∧ (0 < s 1 (s 0 0 2) 6 → lcP sd s (s 0 0 2) (s 0 0 1) (s 0 0 (kid sd))) ∧ (s 1 (s 0 0 2) 0 = 2 → s 1 (s 0 0 2) 6 = 0)) ∧
  (∀ j, b0 ≤ j → j < s 0 0 1 → s 1 j 9 = 0 → ¬ s 1 j 3 = -1 → s 1 (s 1 j 3) 9 = 0 ∧ (s 1 (s 1 j 3) 0 = 4 → s 2 (s 1 j 3) 0 = j ∧ s 1 j 5 = s 1 (s 1 j 3) 6 - 1 ∧ s 1 (s 1 j 3) 7 = s 1 j 8)) ∧
  (∀ j, b0 ≤ j → j < s 0 0 1 → s 1 j 9 = 0 → j ≤ s 0 0 2) ∧ (∀ i j, b0 ≤ i → i < j → j < s 0 0 1 → s 1 i 9 = 0 → s 1 j 9 = 0 → i ≤ s 1 j 3) ∧
  (s 0 0 2 = -1 → s 0 0 1 = b0 ∨ (¬ s 1 b0 9 = 0 ∧ b0 + s 1 b0 9 = s 0 0 1 ∧ s 0 0 (kid sd) = bT sd s b0)) ∧ (∀ i j, b0 ≤ i → i < j → j < s 0 0 1 → s 4 i 0 < s 4 j 0)
section LL
variable {sd b0 : Int} {s s' : pS}
theorem bT_cg {i : Int} (h0 : s' 1 i 0 = s 1 i 0) (h1 : s' 4 i 0 = s 4 i 0) (h2 : s 1 i 0 = 4 → s' (kid sd) (s 4 i 0) 2 = s (kid sd) (s 4 i 0) 2) (h3 : s 1 i 0 = 2 → s' 1 (i + 1) 0 = s 1 (i + 1) 0 ∧ s' 4 (i + 1) 0 = s 4 (i + 1) 0 ∧ (s 1 (i + 1) 0 = 4 → s' (kid sd) (s 4 (i + 1) 0) 2 = s (kid sd) (s 4 (i + 1) 0) 2)) : bT sd s' i = bT sd s i := by
  unfold bT
  rw [h0, h1]
  by_cases c : s 1 i 0 = 4
  · rw [if_pos c, if_pos c, h2 c]
  · rw [if_neg c, if_neg c]
    by_cases d : s 1 i 0 = 2
    · obtain ⟨e1, e2, e3⟩ := h3 d
      rw [if_pos d, if_pos d, e1, e2]
      by_cases f : s 1 (i + 1) 0 = 4
      · rw [if_pos f, if_pos f, e3 f]
      · rw [if_neg f, if_neg f]
    · rw [if_neg d, if_neg d]
/-- an item is added, and stays open -/
theorem rL_add {n o : Int} (v : rV n sd b0 s) (x : rL sd b0 s) (a1 : s' 0 0 1 = s 0 0 1 + 1) (a2 : s' 0 0 2 = s 0 0 1) (ak : s' 0 0 (kid sd) = s 0 0 (kid sd) + 1)
    (ao : ∀ i j, ¬ i = s 0 0 1 → j = 0 ∨ j = 3 ∨ j = 4 ∨ j = 5 ∨ j = 8 ∨ j = 9 → s' 1 i j = s 1 i j) (ap : ∀ i j, ¬ i = s 0 0 1 → ¬ i = s 0 0 2 → j = 6 ∨ j = 7 → s' 1 i j = s 1 i j)
    (aq : ¬ s 0 0 2 = -1 → s' 1 (s 0 0 2) 6 = s 1 (s 0 0 2) 6 + 1 ∧ s' 1 (s 0 0 2) 7 = s 1 (s 0 0 2) 7 + (if o = 5 then 1 else 0))
    (n0 : s' 1 (s 0 0 1) 0 = o) (n3 : s' 1 (s 0 0 1) 3 = s 0 0 2) (n4 : ¬ s 0 0 2 = -1 → s' 1 (s 0 0 1) 4 = if s 1 (s 0 0 2) 6 = 0 then -1 else s 2 (s 0 0 2) 0) (n5 : ¬ s 0 0 2 = -1 → s' 1 (s 0 0 1) 5 = s 1 (s 0 0 2) 6) (n6 : s' 1 (s 0 0 1) 6 = 0 ∧ s' 1 (s 0 0 1) 7 = 0) (n8 : ¬ s 0 0 2 = -1 → s' 1 (s 0 0 1) 8 = s 1 (s 0 0 2) 7 + (if o = 5 then 1 else 0)) (n9 : s' 1 (s 0 0 1) 9 = 0)
    (m0 : ∀ i, ¬ i = s 0 0 1 → s' 4 i 0 = s 4 i 0) (m1 : s' 4 (s 0 0 1) 0 = s 0 0 (kid sd)) (l0 : ∀ i, ¬ i = s 0 0 2 → s' 2 i 0 = s 2 i 0) (l1 : ¬ s 0 0 2 = -1 → s' 2 (s 0 0 2) 0 = s 0 0 1) (kk : ∀ k, k < s 0 0 (kid sd) → s' (kid sd) k 2 = s (kid sd) k 2 ∧ s' (kid sd) k 0 = s (kid sd) k 0)
    (pb : s 0 0 2 = -1 → s 0 0 1 = b0 ∧ s 0 0 (kid sd) = 0) (pd : ¬ s 0 0 2 = -1 → s 1 (s 0 0 2) 0 = 2 → ¬ o = 2 ∧ ¬ o = 5) (p5 : o = 5 → ¬ s 0 0 2 = -1) : rL sd b0 s' := by
  obtain ⟨x1, x2, x3, x4, x5, x6, x7, x8⟩ := x
  obtain ⟨i1, i2, i3, i4, i5, i6, i7, i8, i9⟩ := v.1
  clear i9
  have vj := v.2.1
  have tk : ∀ i, b0 ≤ i → i < s 0 0 1 → s 4 i 0 < s 0 0 (kid sd) := fun i h0 h1 => (vj i h0 h1).2.2.2.2.2.2.2
  -- what is whole keeps its token behind
  have bb : ∀ i, b0 ≤ i → i < s 0 0 1 → ¬ s 1 i 9 = 0 → bT sd s' i = bT sd s i := by
    intro i h0 h1 h9
    have y := x2 i h0 h1 h9
    refine bT_cg (ao i 0 (by omega) (by omega)) (m0 i (by omega)) (fun _ => (kk _ (tk i h0 h1)).1) (fun d => ?_)
    have y2 := y.2.2.2.2.2.1 d
    exact ⟨ao _ 0 (by omega) (by omega), m0 _ (by omega), fun _ => (kk _ (tk (i + 1) (by omega) y2.1)).1⟩
  have cl : ∀ i, ¬ i = s 0 0 1 → s' 1 i 9 = s 1 i 9 := fun i h => ao i 9 h (by omega)
  have ir : ∀ i, ¬ i = s 0 0 1 → iR s' i = iR s i := fun i h => by unfold iR; rw [ao i 0 h (by omega)]
  have irn : iR s' (s 0 0 1) = if o = 5 then 1 else 0 := by unfold iR; rw [n0]
  refine ⟨fun j j0 j1 => ?_, fun i i0 i1 i9 => ?_, fun _ => ⟨?_, fun _ => ⟨?_, ?_, ?_⟩, fun c => ?_, fun _ => by rw [a2]; exact n6.1⟩, fun j j0 j1 j9 j3 => ?_, fun j j0 j1 _ => ?_, fun i j i0 ij j1 i9 j9 => ?_, fun c => ?_, fun i j i0 ij j1 => ?_⟩
  · by_cases c : j = s 0 0 1
    · subst c
      unfold lA
      rw [n3, n0, m1, irn]
      refine ⟨fun d => pb d, fun d e => ?_, fun d e => ?_, fun e => ⟨p5 e, ?_⟩⟩
      · rw [ao _ 0 (by omega) (by omega)] at e
        have y := (x3 d).2.1
        have q6 := (vj (s 0 0 2) (i8 d).1 i7).2.2.1
        have z6 : s 1 (s 0 0 2) 6 = 0 := (x3 d).2.2.2 e
        have y := y z6
        exact ⟨by omega, by rw [m0 _ (by omega)]; omega, pd d e⟩
      · rw [ao _ 0 (by omega) (by omega)] at e
        rw [n5 d, (aq d).1, n4 d, n8 d]
        have q6 := (vj (s 0 0 2) (i8 d).1 i7).2.2.1
        refine ⟨q6, by omega, fun f => ?_, fun f => ?_⟩
        · have y := (x3 d).2.1 f
          rw [if_pos f]
          exact ⟨y.1, by rw [m0 _ (by omega)]; exact y.2.1, rfl, by rw [y.2.2]; omega⟩
        · have y := (x3 d).2.2.1 f
          rw [if_neg (by omega)]
          have hj : ¬ s 2 (s 0 0 2) 0 = s 0 0 1 := by have := y.2.1; omega
          have hb := (i8 d).1
          rw [ao _ 3 hj (by omega), ao _ 5 hj (by omega), ao _ 9 hj (by omega), ao _ 8 hj (by omega), bb _ (by have := y.1; omega) y.2.1 y.2.2.2.2.1]
          exact ⟨y.1, y.2.1, y.2.2.1, y.2.2.2.1, y.2.2.2.2.1, y.2.2.2.2.2.1, y.2.2.2.2.2.2.1, by rw [y.2.2.2.2.2.2.2]⟩
      · have d := p5 e
        rw [ao _ 0 (by omega) (by omega)]
        rcases (i8 d).2 with f | f
        · exact absurd e (pd d f).2
        · exact f
    · have y := x1 j j0 (by omega)
      have yj := vj j j0 (by omega)
      unfold lA at y ⊢
      rw [ao j 3 c (by omega), ao j 0 c (by omega), ao j 5 c (by omega), ao j 4 c (by omega), ao j 8 c (by omega), m0 j c, ir j c]
      have hp : ¬ s 1 j 3 = -1 → b0 ≤ s 1 j 3 ∧ s 1 j 3 < j := fun d => by rcases yj.1 with q | q; exact absurd q d; exact ⟨q.1, q.2.1⟩
      refine ⟨y.1, fun d => ?_, fun d => ?_, fun e => ?_⟩
      · have := hp d
        rw [ao _ 0 (by omega) (by omega), m0 _ (by omega)]; exact y.2.1 d
      · have hp := hp d
        rw [ao _ 0 (by omega) (by omega), m0 _ (by omega)]
        intro e
        have z := y.2.2.1 d e
        refine ⟨z.1, ?_, z.2.2.1, fun f => ?_⟩
        · by_cases g : s 1 j 3 = s 0 0 2
          · rw [g] at z ⊢; rw [(aq (by omega)).1]; omega
          · rw [ap _ 6 (by omega) g (by omega)]; exact z.2.1
        · have w := z.2.2.2 f
          have hw : ¬ s 1 j 4 = s 0 0 1 := by omega
          rw [ao _ 3 hw (by omega), ao _ 5 hw (by omega), ao _ 9 hw (by omega), ao _ 8 hw (by omega), bb _ (by omega) (by omega) w.2.2.2.2.1]
          exact w
      · have z := y.2.2.2 e
        have hp := hp z.1
        rw [ao _ 0 (by omega) (by omega)]; exact z
  · have c : ¬ i = s 0 0 1 := fun c => by rw [c] at i9; exact i9 n9
    rw [cl i c] at i9
    have y := x2 i i0 (by omega) i9
    have ho : ¬ i = s 0 0 2 := fun d => by
      rw [d] at i9
      exact i9 (x3 (by omega)).1
    unfold lB at y ⊢
    rw [ao i 9 c (by omega), ao i 0 c (by omega), ap i 6 c ho (by omega), ap i 7 c ho (by omega), bb i i0 (by omega) i9, m0 i c, a1, ak]
    refine ⟨y.1, by omega, by omega, y.2.2.2.1, fun d => ?_, fun d => ?_, y.2.2.2.2.2.2⟩
    · have z := y.2.2.2.2.1 d
      have tki := tk i i0 (by omega)
      rw [(kk _ tki).1]
      have ct : s (kid sd) (s 4 i 0) 2 < s 0 0 (kid sd) := by
        have := y.2.2.1
        unfold bT at this
        rw [if_pos d] at this; omega
      refine ⟨z.1, fun f => ?_, by rw [(kk _ ct).2]; exact z.2.2⟩
      have w := z.2.1 f
      unfold lcP at w ⊢
      have hw : ¬ s 2 i 0 = s 0 0 1 := by have := w.2.1; omega
      rw [l0 i ho, ao _ 3 hw (by omega), ao _ 5 hw (by omega), ao _ 9 hw (by omega), ao _ 8 hw (by omega), ap i 6 c ho (by omega), ap i 7 c ho (by omega), bb _ (by have := w.1; omega) w.2.1 w.2.2.2.2.1, a1]
      exact ⟨w.1, by omega, w.2.2⟩
    · have z := y.2.2.2.2.2.1 d
      rw [ao _ 3 (by omega) (by omega), ao _ 9 (by omega) (by omega)]
      exact ⟨by omega, z.2⟩
  · rw [a2]; exact n9
  · rw [a1, a2]
  · rw [ak, a2, m1]
  · rw [a2]; exact n6.2
  · rw [a2, n6.1] at c; omega
  · by_cases c : j = s 0 0 1
    · subst c
      rw [n3] at j3 ⊢
      rw [ao _ 9 (by omega) (by omega), ao _ 0 (by omega) (by omega)]
      refine ⟨(x3 j3).1, fun _ => ⟨l1 j3, ?_, ?_⟩⟩
      · rw [n5 j3, (aq j3).1]; omega
      · rw [(aq j3).2, n8 j3]
    · rw [ao j 3 c (by omega)] at j3 ⊢
      rw [cl j c] at j9
      have y := x4 j j0 (by omega) j9 j3
      have yj := (vj j j0 (by omega)).1.resolve_left j3
      have hj := x5 j j0 (by omega) j9
      have ho : ¬ s 1 j 3 = s 0 0 2 := by omega
      rw [ao _ 9 (by omega) (by omega), ao _ 0 (by omega) (by omega), l0 _ ho, ao j 5 c (by omega), ap _ 6 (by omega) ho (by omega), ap _ 7 (by omega) ho (by omega), ao j 8 c (by omega)]
      exact y
  · rw [a2]; omega
  · rw [a1] at j1
    have ci : ¬ i = s 0 0 1 := by omega
    rw [cl i ci] at i9
    by_cases c : j = s 0 0 1
    · subst c; rw [n3]; exact x5 i i0 (by omega) i9
    · rw [cl j c] at j9
      rw [ao j 3 c (by omega)]
      exact x6 i j i0 ij (by omega) i9 j9
  · rw [a2] at c; omega
  · rw [m0 i (by omega)]
    by_cases c : j = s 0 0 1
    · rw [c, m1]; exact tk i i0 (by omega)
    · rw [m0 j c]; exact x8 i j i0 ij (by omega)
/-- the open item is whole; with it a deep one around it -/
theorem rL_fin (x : rL sd b0 s) (hop : b0 ≤ s 0 0 2 ∧ s 0 0 2 < s 0 0 1) (h0 : 0 ≤ b0)
    (hJ : ∀ j, b0 ≤ j → j < s 0 0 1 → (s 1 j 3 = -1 ∨ (b0 ≤ s 1 j 3 ∧ s 1 j 3 < j ∧ (s 1 (s 1 j 3) 0 = 2 ∨ s 1 (s 1 j 3) 0 = 4))) ∧ (s 1 j 0 = 2 → s 1 j 3 = -1 ∨ s 1 (s 1 j 3) 0 = 4) ∧ 0 ≤ s 1 j 6 ∧ 0 ≤ s 4 j 0 ∧ s 4 j 0 < s 0 0 (kid sd))
    (f1 : s' 0 0 1 = s 0 0 1) (fk : (s 1 (s 0 0 2) 0 = 4 ∧ s' (kid sd) (s 4 (s 0 0 2) 0) 2 = s 0 0 (kid sd) ∧ s' 0 0 (kid sd) = s 0 0 (kid sd) + 1 ∧ s' (kid sd) (s 0 0 (kid sd)) 0 = 7) ∨ (¬ s 1 (s 0 0 2) 0 = 4 ∧ ¬ s 1 (s 0 0 2) 0 = 2 ∧ s 1 (s 0 0 2) 6 = 0 ∧ s' 0 0 (kid sd) = s 0 0 (kid sd)))
    (ao : ∀ i j, ¬ j = 9 → s' 1 i j = s 1 i j) (a9 : ∀ i, ¬ i = s 0 0 2 → ¬ (i = s 1 (s 0 0 2) 3 ∧ s 1 i 0 = 2) → s' 1 i 9 = s 1 i 9) (ap : s' 1 (s 0 0 2) 9 = s 0 0 1 - s 0 0 2) (ad : ¬ s 1 (s 0 0 2) 3 = -1 → s 1 (s 1 (s 0 0 2) 3) 0 = 2 → s' 1 (s 1 (s 0 0 2) 3) 9 = s 0 0 1 - s 1 (s 0 0 2) 3)
    (m0 : ∀ i, s' 4 i 0 = s 4 i 0) (l0 : ∀ i, s' 2 i 0 = s 2 i 0) (kk : ∀ k, k < s 0 0 (kid sd) → ¬ k = s 4 (s 0 0 2) 0 → s' (kid sd) k 2 = s (kid sd) k 2) (k0 : ∀ k, k < s 0 0 (kid sd) → s' (kid sd) k 0 = s (kid sd) k 0)
    (e2 : s' 0 0 2 = if s 1 (s 0 0 2) 3 = -1 then -1 else if s 1 (s 1 (s 0 0 2) 3) 0 = 2 then s 1 (s 1 (s 0 0 2) 3) 3 else s 1 (s 0 0 2) 3) : rL sd b0 s' := by
  obtain ⟨x1, x2, x3, x4, x5, x6, x7, x8⟩ := x
  have x3 := x3 (by omega)
  generalize hO : s 0 0 2 = O at *
  generalize hK : s 0 0 (kid sd) = km at *
  generalize hI : s 0 0 1 = it at *
  have jO := hJ O hop.1 hop.2
  have aO := x1 O hop.1 hop.2
  have tne : ∀ i, b0 ≤ i → i < it → ¬ i = O → ¬ s 4 i 0 = s 4 O 0 := by
    intro i i0 i1 c d
    by_cases e : i < O
    · have := x8 i O i0 e hop.2; omega
    · have := x8 O i hop.1 (by omega) i1; omega
  have km' : s' 0 0 (kid sd) = km ∨ s' 0 0 (kid sd) = km + 1 := by rcases fk with f | f; exact Or.inr f.2.2.1; exact Or.inl f.2.2.2
  -- the token behind the item that is whole now
  have bO' : bT sd s' O = s' 0 0 (kid sd) := by
    unfold bT
    rw [ao O 0 (by omega), m0]
    rcases fk with f | f
    · rw [if_pos f.1, f.2.1, f.2.2.1]
    · rw [if_neg f.1, if_neg f.2.1, f.2.2.2]
      exact (x3.2.1 f.2.2.1).2.1.symm
  have bb : ∀ i, b0 ≤ i → i < it → ¬ s 1 i 9 = 0 → bT sd s' i = bT sd s i := by
    intro i i0 i1 i9
    have hi : ¬ i = O := fun c => i9 (by rw [c]; exact x3.1)
    refine bT_cg (ao i 0 (by omega)) (m0 i) (fun _ => kk _ (hJ i i0 i1).2.2.2.2 (tne i i0 i1 hi)) (fun d => ?_)
    have y2 := (x2 i i0 i1 i9).2.2.2.2.2.1 d
    have y3 : i + 1 < it := by have := y2.1; omega
    refine ⟨ao _ 0 (by omega), m0 _, fun _ => kk _ (hJ (i + 1) (by omega) y3).2.2.2.2 (tne _ (by omega) y3 (fun c => ?_))⟩
    rw [c] at y2; exact y2.2.2.1 x3.1
  have ir : ∀ i, iR s' i = iR s i := fun i => by unfold iR; rw [ao i 0 (by omega)]
  -- whole before, whole now
  have k9 : ∀ i, b0 ≤ i → i < it → ¬ s 1 i 9 = 0 → s' 1 i 9 = s 1 i 9 := by
    intro i i0 i1 i9
    refine a9 i (fun c => i9 (by rw [c]; exact x3.1)) (fun c => i9 ?_)
    rw [c.1]
    have hp : ¬ s 1 O 3 = -1 := by rw [← c.1]; omega
    exact (x4 O hop.1 hop.2 x3.1 hp).1
  have lc : ∀ i e k, b0 ≤ i → i < it → lcP sd s i e k → lcP sd s' i e k := by
    intro i e k i0 i1 w
    unfold lcP at w ⊢
    rw [hI] at w
    have hj0 : b0 ≤ s 2 i 0 := by have := w.1; omega
    rw [l0, f1, ao _ 3 (by omega), ao _ 5 (by omega), ao i 6 (by omega), ao i 7 (by omega), ao _ 8 (by omega), k9 _ hj0 w.2.1 w.2.2.2.2.1, bb _ hj0 w.2.1 w.2.2.2.2.1]
    exact w
  -- open now: open before, and neither of the two
  have op9 : ∀ j, b0 ≤ j → j < it → s' 1 j 9 = 0 → s 1 j 9 = 0 ∧ ¬ j = O ∧ ¬ (j = s 1 O 3 ∧ s 1 j 0 = 2) := by
    intro j j0 j1 j9
    have c1 : ¬ j = O := fun c => by rw [c, ap] at j9; omega
    have c2 : ¬ (j = s 1 O 3 ∧ s 1 j 0 = 2) := fun c => by
      have hp : ¬ s 1 O 3 = -1 := by omega
      have := ad hp (by rw [← c.1]; exact c.2)
      have hl := jO.1.resolve_left hp
      rw [c.1, this] at j9; omega
    exact ⟨by rw [a9 j c1 c2] at j9; exact j9, c1, c2⟩
  have nO : ¬ s' 1 O 9 = 0 := by rw [ap]; omega
  -- the deep item around it
  have deep : ¬ s 1 O 3 = -1 → s 1 (s 1 O 3) 0 = 2 → O = s 1 O 3 + 1 ∧ bT sd s' (s 1 O 3) = s' 0 0 (kid sd) := by
    intro hp hd
    have y := aO.2.1 hp hd
    refine ⟨y.1, ?_⟩
    have e : bT sd s' O = if s 1 O 0 = 4 then s' (kid sd) (s 4 O 0) 2 + 1 else s 4 O 0 + 1 := by
      unfold bT
      rw [ao O 0 (by omega), m0]
      by_cases c : s 1 O 0 = 4
      · rw [if_pos c, if_pos c]
      · rw [if_neg c, if_neg c, if_neg y.2.2.1]
    rw [← bO', e]
    unfold bT
    rw [ao _ 0 (by omega), if_neg (by omega), if_pos hd, ← y.1, ao _ 0 (by omega), m0]
  refine ⟨fun j j0 j1 => ?_, fun i i0 i1 i9 => ?_, fun c => ?_, fun j j0 j1 j9 j3 => ?_, fun j j0 j1 j9 => ?_, fun i j i0 ij j1 i9 j9 => ?_, fun c => ?_, fun i j i0 ij j1 => ?_⟩
  · rw [f1] at j1
    have y := x1 j j0 j1
    unfold lA at y ⊢
    rw [ao j 3 (by omega), ao j 0 (by omega), ao j 5 (by omega), ao j 4 (by omega), ao j 8 (by omega), m0, ir, ao _ 0 (by omega), ao _ 6 (by omega), m0]
    refine ⟨y.1, y.2.1, fun d e => ?_, y.2.2.2⟩
    have z := y.2.2.1 d e
    refine ⟨z.1, z.2.1, z.2.2.1, fun f => ?_⟩
    have w := z.2.2.2 f
    have hj := (hJ j j0 j1).1.resolve_left d
    rw [ao _ 3 (by omega), ao _ 5 (by omega), ao _ 8 (by omega), k9 _ (by omega) (by omega) w.2.2.2.2.1, bb _ (by omega) (by omega) w.2.2.2.2.1]
    exact w
  · rw [f1] at i1
    by_cases c : i = O
    · subst c
      have jm := jO.2.2.2.2
      unfold lB
      rw [ap, f1, bO', m0, ao i 0 (by omega), ao i 6 (by omega), ao i 7 (by omega)]
      refine ⟨by omega, by omega, Int.le_refl _, by omega, fun d => ?_, fun d => ?_, fun d e => ?_⟩
      · rcases fk with f | f
        · rw [f.2.1]
          refine ⟨fun g => ?_, fun g => ?_, f.2.2.2⟩
          · have := x3.2.1 g
            exact ⟨by omega, by omega, this.2.2⟩
          · rw [show i + (it - i) = it by omega]
            exact lc i it km i0 i1 (x3.2.2.1 g)
        · exact absurd d f.1
      · rcases fk with f | f
        · omega
        · exact absurd d f.2.1
      · rcases fk with f | f
        · exact absurd f.1 d
        · have := x3.2.1 f.2.2.1
          omega
    · by_cases c2 : i = s 1 O 3 ∧ s 1 i 0 = 2
      · have hp : ¬ s 1 O 3 = -1 := by omega
        have hd : s 1 (s 1 O 3) 0 = 2 := by rw [← c2.1]; exact c2.2
        have dd := deep hp hd
        have s9 := ad hp hd
        have jm := (hJ i i0 i1).2.2.2.2
        rw [← c2.1] at dd s9
        unfold lB
        rw [s9, f1, dd.2, m0, ao i 0 (by omega), ← dd.1]
        refine ⟨by omega, by omega, Int.le_refl _, by omega, fun d => by omega, fun d => ⟨hop.2, ?_, nO, ?_⟩, fun _ d => absurd c2.2 d⟩
        · rw [ao O 3 (by omega)]; exact c2.1.symm
        · rw [ap]; omega
      · rw [a9 i c c2] at i9
        have y := x2 i i0 i1 i9
        unfold lB at y ⊢
        rw [hI, hK] at y
        rw [k9 i i0 i1 i9, f1, bb i i0 i1 i9, m0, ao i 0 (by omega), ao i 6 (by omega), ao i 7 (by omega)]
        have tki := (hJ i i0 i1).2.2.2.2
        refine ⟨y.1, y.2.1, by omega, y.2.2.2.1, fun d => ?_, fun d => ?_, y.2.2.2.2.2.2⟩
        · have z := y.2.2.2.2.1 d
          rw [kk _ tki (tne i i0 i1 c)]
          have ct : s (kid sd) (s 4 i 0) 2 < km := by
            have := y.2.2.1
            unfold bT at this
            rw [if_pos d] at this; omega
          exact ⟨z.1, fun f => lc i _ _ i0 i1 (z.2.1 f), by rw [k0 _ ct]; exact z.2.2⟩
        · have z := y.2.2.2.2.2.1 d
          rw [ao _ 3 (by omega), k9 _ (by omega) z.1 z.2.2.1]
          exact z
  · by_cases hp : s 1 O 3 = -1
    · rw [e2, if_pos hp] at c; exact absurd rfl c
    · have hl := jO.1.resolve_left hp
      have y4 := x4 O hop.1 hop.2 x3.1 hp
      by_cases hd : s 1 (s 1 O 3) 0 = 2
      · rw [if_neg hp, if_pos hd] at e2
        rw [e2] at c ⊢
        have jP := hJ (s 1 O 3) hl.1 (by omega)
        have hq := jP.1.resolve_left c
        have h4 := (jP.2.1 hd).resolve_left c
        have yP := x4 (s 1 O 3) hl.1 (by omega) y4.1 c
        have z := yP.2 h4
        have dd := deep hp hd
        have aP := (x1 (s 1 O 3) hl.1 (by omega)).2.2.1 c h4
        have nP : ¬ s' 1 (s 1 O 3) 9 = 0 := by rw [ad hp hd]; omega
        refine ⟨?_, fun g => ?_, fun g => ?_, fun g => ?_⟩
        · rw [a9 _ (by omega) (by omega)]; exact yP.1
        · rw [ao _ 6 (by omega)] at g; omega
        · unfold lcP
          rw [l0, z.1, f1, ao _ 3 (by omega), ao _ 5 (by omega), ao _ 6 (by omega), ao _ 7 (by omega), ao _ 8 (by omega), dd.2]
          exact ⟨hq.2.1, by omega, rfl, z.2.1, nP, by rw [ad hp hd]; omega, rfl, z.2.2⟩
        · rw [ao _ 0 (by omega)] at g; omega
      · rw [if_neg hp, if_neg hd] at e2
        rw [e2] at c ⊢
        have h4 := hl.2.2.resolve_left hd
        have z := y4.2 h4
        have aP := aO.2.2.1 hp h4
        refine ⟨?_, fun g => ?_, fun g => ?_, fun g => ?_⟩
        · rw [a9 _ (by omega) (by omega)]; exact y4.1
        · rw [ao _ 6 (by omega)] at g; omega
        · unfold lcP
          rw [l0, z.1, f1, ao _ 3 (by omega), ao _ 5 (by omega), ao _ 6 (by omega), ao _ 7 (by omega), ao _ 8 (by omega), bO']
          exact ⟨hl.2.1, hop.2, rfl, z.2.1, nO, by rw [ap]; omega, rfl, z.2.2⟩
        · rw [ao _ 0 (by omega)] at g; omega
  · rw [f1] at j1
    obtain ⟨q9, q1, q2⟩ := op9 j j0 j1 j9
    rw [ao j 3 (by omega)] at j3 ⊢
    have y := x4 j j0 j1 q9 j3
    have hl := (hJ j j0 j1).1.resolve_left j3
    have hle := x5 j j0 j1 q9
    rw [ao _ 0 (by omega), l0, ao j 5 (by omega), ao _ 6 (by omega), ao _ 7 (by omega), ao j 8 (by omega)]
    refine ⟨?_, y.2⟩
    rw [a9 _ (by omega) (fun g => ?_)]
    · exact y.1
    · have d1 := (x1 j j0 j1).2.1 j3 g.2
      have hp : ¬ s 1 O 3 = -1 := by omega
      have d2 := deep hp (by rw [← g.1]; exact g.2)
      omega
  · rw [f1] at j1
    obtain ⟨q9, q1, q2⟩ := op9 j j0 j1 j9
    have hle := x5 j j0 j1 q9
    have h3 := x6 j O j0 (by omega) hop.2 q9 x3.1
    rw [e2]
    by_cases hp : s 1 O 3 = -1
    · omega
    · rw [if_neg hp]
      by_cases hd : s 1 (s 1 O 3) 0 = 2
      · rw [if_pos hd]
        have hl := jO.1.resolve_left hp
        have y4 := x4 O hop.1 hop.2 x3.1 hp
        have hne : ¬ j = s 1 O 3 := fun g => q2 ⟨g, by rw [g]; exact hd⟩
        exact x6 j (s 1 O 3) j0 (by omega) (by omega) q9 y4.1
      · rw [if_neg hd]; exact h3
  · rw [f1] at j1
    have qi := op9 i i0 (by omega) i9
    have qj := op9 j (by omega) j1 j9
    rw [ao j 3 (by omega)]
    exact x6 i j i0 ij j1 qi.1 qj.1
  · right
    by_cases hp : s 1 O 3 = -1
    · have y := aO.1 hp
      rw [← y.1, f1, bO', ap]
      exact ⟨by omega, by omega, rfl⟩
    · have hl := jO.1.resolve_left hp
      by_cases hd : s 1 (s 1 O 3) 0 = 2
      · rw [e2, if_neg hp, if_pos hd] at c
        have y := (x1 (s 1 O 3) hl.1 (by omega)).1 c
        have dd := deep hp hd
        rw [← y.1, f1, dd.2, ad hp hd]
        exact ⟨by omega, by omega, rfl⟩
      · rw [e2, if_neg hp, if_neg hd] at c
        exact absurd c hp
  · rw [f1] at j1
    rw [m0, m0]; exact x8 i j i0 ij j1
end LL
