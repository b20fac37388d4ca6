/-! Both sides of a rule that was read: shape, contents, counts. -/
section LD
variable {sd b0 n : Int} {s : pS} {t : Int → Int}
/-- the state in which a term is closed, ahead of its finishing -/
def rcl0 (sd : Int) (s : pS) : pS := up (up (rput (up s (kid sd) (s 4 (s 0 0 2) 0) 2 (s 0 0 (kid sd))) sd 7 0 0 0 0) 0 0 6 (s 0 0 6 - 1)) 0 0 0 (s 0 0 0 + 1)
theorem rclose_e : rclose sd s = rfin (rcl0 sd s) (s 0 0 2) := rfl
theorem rcl0_g {c : Nat} {i : Int} {j : Nat} (h1 : ¬ c = kid sd) (h2 : ¬ (c = 0 ∧ (j = kid sd ∨ j = 6 ∨ j = 0))) : rcl0 sd s c i j = s c i j := by
  unfold rcl0
  rw [upE, if_neg (by omega), upE, if_neg (by omega), rput_o _ _ h1 (by omega), upE, if_neg (by omega)]
theorem rcl0_k {k : Int} {j : Nat} (hj : j < 6) : rcl0 sd s (kid sd) k j = if k = s 0 0 (kid sd) then (if j = 0 then 7 else 0) else if k = s 4 (s 0 0 2) 0 ∧ j = 2 then s 0 0 (kid sd) else s (kid sd) k j := by
  have kn := kidn sd
  unfold rcl0
  rw [upE, if_neg (by omega), upE, if_neg (by omega), rput_v hj]
  rw [show (up s (kid sd) (s 4 (s 0 0 2) 0) 2 (s 0 0 (kid sd))) 0 0 (kid sd) = s 0 0 (kid sd) by rw [upE, if_neg (by omega)], upE]
  by_cases c : k = s 0 0 (kid sd)
  · rw [if_pos c, if_pos c]
    repeat' split <;> first | rfl | omega
  · rw [if_neg c, if_neg c]
    by_cases d : k = s 4 (s 0 0 2) 0 ∧ j = 2
    · rw [if_pos ⟨rfl, d⟩, if_pos d]
    · rw [if_neg (fun q => d q.2), if_neg d]
theorem rcl0_n : rcl0 sd s 0 0 (kid sd) = s 0 0 (kid sd) + 1 := by
  have kn := kidn sd
  unfold rcl0
  rw [upE, if_neg (by omega), upE, if_neg (by omega), rput_k, upE, if_neg (by omega)]
theorem rL_close (v : rV n sd b0 s) (x : rL sd b0 s) (hop : ¬ s 0 0 2 = -1) (h4 : s 1 (s 0 0 2) 0 = 4) : rL sd b0 (rclose sd s) := by
  have kn := kidn sd
  have k3 := kid3 sd
  obtain ⟨i1, i2, i3, i4, i5, i6, i7, i8, i9⟩ := v.1
  clear i9
  have vj := v.2.1
  have hb := (i8 hop).1
  have jo := vj (s 0 0 2) hb i7
  have e1 : ∀ i j, rcl0 sd s 1 i j = s 1 i j := fun i j => rcl0_g (by omega) (by omega)
  rw [rclose_e]
  refine rL_fin x ⟨hb, i7⟩ i3 (fun j j0 j1 => ?_) ?_ (Or.inl ⟨h4, ?_, ?_, ?_⟩) (fun i j hj => ?_) (fun i h1 h2 => ?_) ?_ (fun h1 h2 => ?_) (fun i => ?_) (fun i => ?_) (fun k h1 h2 => ?_) (fun k h1 => ?_) ?_
  · have q := vj j j0 j1
    exact ⟨q.1, q.2.1, q.2.2.1, q.2.2.2.2.2.2⟩
  · rw [rfin_o _ _ (by omega) (by omega), rcl0_g (by omega) (by omega)]
  · rw [rfin_o _ _ (by omega) (by omega), rcl0_k (by omega), if_neg (by omega), if_pos ⟨rfl, rfl⟩]
  · rw [rfin_o _ _ (by omega) (by omega), rcl0_n]
  · rw [rfin_o _ _ (by omega) (by omega), rcl0_k (by omega), if_pos rfl, if_pos rfl]
  · rw [rfin_o _ _ (by omega) (by omega), e1]
  · rw [rfin_9 h1 (by rw [e1, e1]; exact h2), e1]
  · rw [rfin_x (by rw [e1]; omega), rcl0_g (by omega) (by omega)]
  · have := rfin_d (s := rcl0 sd s) (x := s 0 0 2) (by rw [e1]; exact h1) (by rw [e1, e1]; exact h2)
    rw [e1, rcl0_g (by omega) (by omega)] at this
    exact this
  · rw [rfin_o _ _ (by omega) (by omega), rcl0_g (by omega) (by omega)]
  · rw [rfin_o _ _ (by omega) (by omega), rcl0_g (by omega) (by omega)]
  · rw [rfin_o _ _ (by omega) (by omega), rcl0_k (by omega), if_neg (by omega), if_neg (by omega)]
  · rw [rfin_o _ _ (by omega) (by omega), rcl0_k (by omega), if_neg (by omega), if_neg (by omega)]
  · rw [rfin_2]; unfold rT; simp only [e1]
theorem rL_nf {s' : pS} (v : rV n sd b0 s) (v' : rV n sd b0 s') (x : rL sd b0 s) (pb : s 0 0 2 = -1 → s 0 0 1 = b0 ∧ s 0 0 (kid sd) = 0) (e : nF t n sd b0 s s') : rL sd b0 s' := by
  obtain ⟨o, hl, kd, wa, wl, w, a, b, f, l, y, z, c, l5, h20, p5, p2, p0, q⟩ := e
  have pd : ¬ s 0 0 2 = -1 → s 1 (s 0 0 2) 0 = 2 → ¬ o = 2 ∧ ¬ o = 5 := by
    intro h1 h2
    refine ⟨fun d => ?_, fun d => ?_⟩
    · have := v.1.2.2.2.2.2.2.2.2.2.2.2.2.2.2.2.2 h1 h2
      have := (p2 d).2
      omega
    · have := (p5 d).2.1; omega
  rcases q with q | q
  · rw [q.2.2] at v' ⊢
    exact rL_leaf v x z.1 pb pd (fun d => (p5 d).1) ⟨q.2.1, q.1⟩ v'
  · rw [q.2]
    exact rL_addY v x z.1 pb pd (fun d => (p5 d).1)
/-- what item and token tell -/
def cIt (t : Int → Int) (n sd : Int) (s : pS) (i : Int) : Prop := cN t n (s 1 i 0) (s 1 i 1) (s 1 i 2) (s 1 i 10) (s 1 i 11) (s (kid sd) (s 4 i 0) 0) (if s 1 i 0 = 4 then 0 else s (kid sd) (s 4 i 0) 1) (if s 1 i 0 = 1 then s (kid sd) (s 4 i 0) 2 else 0) (s (kid sd) (s 4 i 0) 3) (s (kid sd) (s 4 i 0) 4) ∧
  (s 1 i 0 = 4 → s (kid sd) (s 4 i 0) 1 = s 1 i 6 ∧ s (kid sd) (s 4 i 0) 5 = if 0 < s 1 i 7 then 1 else 0) ∧ (0 ≤ s 1 i 1 → s 5 (s 1 i 1) 0 = if s 1 i 0 = 5 then 2 else 1) ∧ (s 1 i 0 = 0 ∨ s 1 i 0 = 2 → sd = 0)
def rCt (t : Int → Int) (n sd b0 : Int) (s : pS) : Prop := ∀ i, b0 ≤ i → i < s 0 0 1 → cIt t n sd s i
/-- how many -/
def cntf (f : Int → Int) (a w : Int) : Nat → Int
  | 0 => 0
  | k + 1 => cntf f a w k + if f (a + k) = w then 1 else 0
theorem cntf_cg {f g : Int → Int} {a w : Int} : ∀ (k : Nat), (∀ i, a ≤ i → i < a + k → f i = g i) → cntf f a w k = cntf g a w k
  | 0, _ => rfl
  | k + 1, h => by
    unfold cntf
    rw [cntf_cg k (fun i h0 h1 => h i h0 (by omega)), h (a + k) (by omega) (by omega)]
def cW (sd b0 o w : Int) (s : pS) : Prop := cntf (fun k => s (kid sd) k 0) 0 w (s 0 0 (kid sd)).toNat = cntf (fun i => s 1 i 0) b0 o (s 0 0 1 - b0).toNat
def rNm (sd b0 : Int) (s : pS) : Prop := (cW sd b0 5 6 s ∧ cW sd b0 2 2 s ∧ cW sd b0 4 5 s) ∧
  (sd = 0 → cntf (fun i => s 1 i 0) b0 5 (s 0 0 1 - b0).toNat = s 0 0 4 ∧ s 0 0 4 ≤ 2 ∧ cntf (fun i => s 1 i 0) b0 2 (s 0 0 1 - b0).toNat = s 0 0 5 ∧ s 0 0 5 ≤ 1)
theorem rC_nf {s' : pS} (v : rV n sd b0 s) (x : rL sd b0 s) (c : rCt t n sd b0 s) (e : nF t n sd b0 s s') : rCt t n sd b0 s' := by
  have kn := kidn sd
  have k3 := kid3 sd
  obtain ⟨i1, i2, i3, i4, i5, i6, i7, i8, i9⟩ := v.1
  clear i9
  have vj := v.2.1
  have x8 := x.2.2.2.2.2.2.2
  obtain ⟨o, hl, kd, wa, wl, w, a, b, f, l, y, z, cn, l5, h20, p5, p2, p0, q⟩ := e
  have ey : ∀ c i j, ¬ (c = 1 ∧ j = 9) → ¬ (c = 0 ∧ j = 2) → s' c i j = y c i j := by
    intro c i j h1 h2
    rcases q with q | q
    · rw [q.2.2]; exact rfin_o _ _ h1 h2
    · rw [q.2, upE, if_neg (by omega)]
  clear q
  have nn := rA_new (s := s) (sd := sd) (o := o) (by omega)
  obtain ⟨y0, y1, y2, y3, y4, y5, y6, y7⟩ := z
  obtain ⟨w1, w2, w3, w4, w5, w6⟩ := y0
  intro i h0 h1
  rw [ey _ _ _ (by omega) (by omega), w1] at h1
  unfold cIt
  rw [ey 1 i 0 (by omega) (by omega), ey 1 i 1 (by omega) (by omega), ey 1 i 2 (by omega) (by omega), ey 1 i 10 (by omega) (by omega), ey 1 i 11 (by omega) (by omega), ey 1 i 6 (by omega) (by omega), ey 1 i 7 (by omega) (by omega), ey 4 i 0 (by omega) (by omega), ey 5 _ 0 (by omega) (by omega), w4]
  have ekd : ∀ k j, s' (kid sd) k j = y (kid sd) k j := fun k j => ey _ _ _ (by omega) (by omega)
  rw [ekd, ekd, ekd, ekd, ekd, ekd]
  rw [y3 _ 0 (by omega), y3 _ 1 (by omega), y3 _ 2 (by omega), y3 _ 3 (by omega), y3 _ 4 (by omega), y3 _ 5 (by omega), l5.1]
  by_cases ci : i = s 0 0 1
  · have e0 : y 1 i 0 = o := by rw [ci, w3 _ 0 (by omega) (by omega) (by omega) (by omega)]; exact nn.1
    have e6 : y 1 i 6 = 0 := by rw [ci, w3 _ 6 (by omega) (by omega) (by omega) (by omega), nn.2.2.2.2.2.2.1]; exact v.2.2.2 _ _ (Int.le_refl _)
    have e7 : y 1 i 7 = 0 := by rw [ci, w3 _ 7 (by omega) (by omega) (by omega) (by omega), nn.2.2.2.2.2.2.2.1]; exact v.2.2.2 _ _ (Int.le_refl _)
    rw [if_pos ci, e0, e6, e7, ci, y2.1, y2.2.1, y2.2.2.1, y2.2.2.2]
    simp only [if_true, reduceIte, Nat.reduceEqDiff]
    refine ⟨?_, fun d => ⟨?_, ?_⟩, fun d => ?_, fun d => ?_⟩
    · unfold cN at cn ⊢
      rcases cn with q | q | q | q | q | q
      · exact Or.inl q
      · exact Or.inr (Or.inl q)
      · refine Or.inr (Or.inr (Or.inl ?_))
        rw [if_neg (show ¬ o = 4 by omega), if_pos q.1]; exact q
      · refine Or.inr (Or.inr (Or.inr (Or.inl ?_)))
        rw [if_neg (show ¬ o = 4 by omega)]; exact q
      · exact Or.inr (Or.inr (Or.inr (Or.inr (Or.inl q))))
      · refine Or.inr (Or.inr (Or.inr (Or.inr (Or.inr ?_))))
        rw [if_pos q.1]; exact ⟨q.1, q.2.1, rfl, q.2.2.2⟩
    · unfold cN at cn; omega
    · simp
    · have ho : o = 1 ∨ o = 5 := by unfold cN at cn; omega
      rw [if_pos ⟨ho, trivial⟩]
    · rcases d with d | d
      · exact p0 d
      · exact (p2 d).1
  · have hi1 : i < s 0 0 1 := by omega
    have cii := c i h0 hi1
    have tki := vj i h0 hi1
    have hne : ¬ s 4 i 0 = s 0 0 (kid sd) := by omega
    rw [if_neg ci, if_neg hne, if_neg hne, if_neg hne, if_neg hne, if_neg hne, if_neg hne, rA_k i7, rA_k i7, rA_k i7, rA_k i7, rA_k i7, rA_k i7]
    rw [y1 i 0 ci, y1 i 1 ci, y1 i 2 ci, y1 i 10 ci, y1 i 11 ci, y1 i 6 ci, y1 i 7 ci, rA_old 0 ci, rA_old 1 ci, rA_old 2 ci, rA_old 10 ci, rA_old 11 ci, rA_old 6 ci, rA_old 7 ci]
    unfold cIt at cii
    obtain ⟨g1, g2, g3, g4⟩ := cii
    have l5' : (if (o = 1 ∨ o = 5) ∧ s 1 i 1 = hl then (if o = 5 then (2 : Int) else 1) else s 5 (s 1 i 1) 0) = s 5 (s 1 i 1) 0 ∨ s 1 i 1 < 0 := by
      by_cases d : (o = 1 ∨ o = 5) ∧ s 1 i 1 = hl
      · by_cases d2 : s 1 i 1 < 0
        · exact Or.inr d2
        · left
          rw [if_pos d]
          have r := l5.2 d.1
          have r3 := g3 (by omega)
          rw [d.2] at r3 ⊢
          rcases r with r | r
          · exact r.symm
          · rw [r.2] at r3; split at r3 <;> omega
      · rw [if_neg d]; exact Or.inl rfl
    by_cases d : ¬ s 0 0 2 = -1 ∧ i = s 0 0 2
    · simp only [if_pos d, reduceIte, Nat.reduceEqDiff, false_and, Int.add_zero]
      by_cases h4 : s 1 i 0 = 4
      · have hd : ¬ s 0 0 2 = -1 ∧ s 1 (s 0 0 2) 0 = 4 ∧ s 4 i 0 = s 4 (s 0 0 2) 0 := ⟨d.1, by rw [← d.2]; exact h4, by rw [← d.2]⟩
        simp only [if_pos hd]
        have g2 := g2 h4
        refine ⟨?_, fun _ => ⟨by omega, ?_⟩, fun r => ?_, g4⟩
        · simp only [if_pos h4] at g1 ⊢; exact g1
        · by_cases o5 : o = 5
          · simp only [o5, if_true, and_self]
            have := tki.2.2.2.2.1
            rw [if_pos (by omega)]
          · simp only [o5, and_false, if_false, Int.add_zero]; exact g2.2
        · unfold cN at g1; omega
      · have hd : ¬ (¬ s 0 0 2 = -1 ∧ s 1 (s 0 0 2) 0 = 4 ∧ s 4 i 0 = s 4 (s 0 0 2) 0) := fun q => h4 (by rw [d.2]; exact q.2.1)
        simp only [if_neg hd]
        refine ⟨g1, fun q => absurd q h4, fun r => ?_, g4⟩
        rcases l5' with q | q
        · rw [q]; exact g3 r
        · omega
    · have hd : ¬ (¬ s 0 0 2 = -1 ∧ s 1 (s 0 0 2) 0 = 4 ∧ s 4 i 0 = s 4 (s 0 0 2) 0) := by
        intro q
        have hb := (i8 q.1).1
        by_cases r : i < s 0 0 2
        · have := x8 i (s 0 0 2) h0 r i7; omega
        · have := x8 (s 0 0 2) i hb (by omega) hi1; omega
      simp only [if_neg d, if_neg hd, Int.add_zero]
      refine ⟨g1, g2, fun r => ?_, g4⟩
      rcases l5' with q | q
      · rw [q]; exact g3 r
      · omega
theorem rC_close (v : rV n sd b0 s) (x : rL sd b0 s) (c : rCt t n sd b0 s) (hop : ¬ s 0 0 2 = -1) (h4 : s 1 (s 0 0 2) 0 = 4) : rCt t n sd b0 (rclose sd s) := by
  have kn := kidn sd
  have k3 := kid3 sd
  obtain ⟨i1, i2, i3, i4, i5, i6, i7, i8, i9⟩ := v.1
  clear i9
  have vj := v.2.1
  have x8 := x.2.2.2.2.2.2.2
  have hb := (i8 hop).1
  have ey : ∀ c i j, ¬ c = kid sd → ¬ (c = 1 ∧ j = 9) → ¬ (c = 0 ∧ (j = 2 ∨ j = kid sd ∨ j = 6 ∨ j = 0)) → rclose sd s c i j = s c i j := by
    intro c i j h1 h2 h3
    rw [rclose_e, rfin_o _ _ h2 (by omega), rcl0_g h1 (by omega)]
  have ek : ∀ k j, j < 6 → rclose sd s (kid sd) k j = if k = s 0 0 (kid sd) then (if j = 0 then 7 else 0) else if k = s 4 (s 0 0 2) 0 ∧ j = 2 then s 0 0 (kid sd) else s (kid sd) k j := by
    intro k j hj
    rw [rclose_e, rfin_o _ _ (by omega) (by omega), rcl0_k hj]
  intro i h0 h1
  rw [ey _ _ _ (by omega) (by omega) (by omega)] at h1
  have g := c i h0 h1
  have tki := vj i h0 h1
  have hne : ¬ s 4 i 0 = s 0 0 (kid sd) := by omega
  unfold cIt at g ⊢
  rw [ey 1 i 0 (by omega) (by omega) (by omega), ey 1 i 1 (by omega) (by omega) (by omega), ey 1 i 2 (by omega) (by omega) (by omega), ey 1 i 10 (by omega) (by omega) (by omega), ey 1 i 11 (by omega) (by omega) (by omega), ey 1 i 6 (by omega) (by omega) (by omega), ey 1 i 7 (by omega) (by omega) (by omega), ey 4 i 0 (by omega) (by omega) (by omega), ey 5 _ 0 (by omega) (by omega) (by omega),
    ek _ 0 (by omega), ek _ 1 (by omega), ek _ 2 (by omega), ek _ 3 (by omega), ek _ 4 (by omega), ek _ 5 (by omega), if_neg hne, if_neg hne, if_neg hne, if_neg hne, if_neg hne, if_neg hne]
  simp only [Nat.reduceEqDiff, and_false, if_false, and_true]
  refine ⟨?_, g.2⟩
  by_cases d : s 1 i 0 = 1
  · have : ¬ s 4 i 0 = s 4 (s 0 0 2) 0 := by
      intro q
      by_cases r : i = s 0 0 2
      · rw [r] at d; omega
      · by_cases r2 : i < s 0 0 2
        · have := x8 i (s 0 0 2) h0 r2 i7; omega
        · have := x8 (s 0 0 2) i hb (by omega) h1; omega
    rw [if_neg this]; exact g.1
  · simp only [if_neg d] at g ⊢; exact g.1
end LD
