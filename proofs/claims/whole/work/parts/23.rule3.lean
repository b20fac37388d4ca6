/-! A step of the reading keeps what holds. -/
section RW
variable {s : pS} {sd o : Int}
theorem rA_t {a : Nat} (i : Int) (j : Nat) (h : a = 4 ∨ a = 5 ∨ a = 6) : rA s sd o a i j = s a i j := by
  have kn := kidn sd
  unfold rA radd
  rw [rcnt_o _ _ (by omega)]
  split
  · rw [radd1_o _ _ (by omega)]; unfold radd0; simp only [upE]; rw [if_neg (by omega), if_neg (by omega), if_neg (by omega), if_neg (by omega), if_neg (by omega), if_neg (by omega)]
  · unfold rhang; simp only [upE]
    rw [if_neg (by omega), if_neg (by omega), if_neg (by omega), if_neg (by omega), if_neg (by omega), if_neg (by omega), radd1_o _ _ (by omega)]
    unfold radd0; simp only [upE]; rw [if_neg (by omega), if_neg (by omega), if_neg (by omega), if_neg (by omega), if_neg (by omega), if_neg (by omega)]
theorem rB_of {s' : pS} (hop : s 0 0 2 < s 0 0 1) (h1 : ∀ i j, j = 0 ∨ j = 3 ∨ j = 6 ∨ j = 7 → s' 1 i j = rA s sd o 1 i j) (h2 : ∀ i j, s 0 0 1 < i → s' 1 i j = rA s sd o 1 i j) (h3 : s' 0 0 1 = rA s sd o 0 0 1) (h4 : s' 0 0 4 = rA s sd o 0 0 4) (h5 : s' 0 0 5 = rA s sd o 0 0 5)
    (hk : s' 0 0 (kid sd) = rA s sd o 0 0 (kid sd) + 1) (hm : ∀ i, s' 4 i 0 = if i = s 0 0 1 then rA s sd o 0 0 (kid sd) else rA s sd o 4 i 0) : rB sd o s s' := by
  have kn := kidn sd
  have n := rA_new (s := s) (sd := sd) (o := o) (by omega)
  have e45 := rA_45 (s := s) (sd := sd) (o := o)
  refine ⟨by rw [h3, rA_1], by rw [hk, rA_0 _ (by rcases kid3 sd with e | e <;> rw [e] <;> omega)], by rw [h4, e45.1]; split <;> omega, by rw [h5, e45.2]; split <;> omega, fun i hi => ?_, ⟨?_, ?_, ?_, ?_, ?_⟩, fun i j hi => ?_⟩
  · rw [h1 i 0 (by omega), h1 i 3 (by omega), h1 i 6 (by omega), h1 i 7 (by omega), hm, if_neg hi, rA_t (a := 4) _ _ (Or.inl rfl), rA_old 0 hi, rA_old 3 hi, rA_old 6 hi, rA_old 7 hi]
    refine ⟨?_, ?_, ?_, ?_, rfl⟩
    · simp
    · simp
    · split <;> simp <;> omega
    · split
      · simp; split <;> omega
      · omega
  · rw [h1 _ 0 (by omega)]; exact n.1
  · rw [h1 _ 3 (by omega)]; exact n.2.2.2.1
  · rw [h1 _ 6 (by omega)]; exact n.2.2.2.2.2.2.1
  · rw [h1 _ 7 (by omega)]; exact n.2.2.2.2.2.2.2.1
  · rw [hm, if_pos rfl, rA_0 _ (by rcases kid3 sd with e | e <;> rw [e] <;> omega)]
  · rw [h2 i j hi, rA_old j (by omega)]
    by_cases c : ¬ s 0 0 2 = -1 ∧ i = s 0 0 2
    · omega
    · rw [if_neg c]; omega
theorem kidj (sd : Int) (j : Nat) (h : ¬ j = 3 ∧ ¬ j = 7) : ¬ j = kid sd := by rcases kid3 sd with e | e <;> rw [e] <;> omega
/-- what is behind the token of the new item -/
theorem rB_tok {s1 s' : pS} {w a b f l : Int} (hop : s 0 0 2 < s 0 0 1)
    (g1 : ∀ i j, j = 0 ∨ j = 3 ∨ j = 6 ∨ j = 7 ∨ s 0 0 1 < i → s1 1 i j = rA s sd o 1 i j) (g0 : ∀ j, ¬ j = 0 → s1 0 0 j = rA s sd o 0 0 j) (g4 : ∀ i, s1 4 i 0 = rA s sd o 4 i 0)
    (h1 : ∀ i j, j = 0 ∨ j = 3 ∨ j = 6 ∨ j = 7 ∨ s 0 0 1 < i → s' 1 i j = rtok s1 sd (s 0 0 1) w a b f l 1 i j) (h0 : ∀ j, ¬ j = 0 → ¬ j = 2 → ¬ j = 6 → s' 0 0 j = rtok s1 sd (s 0 0 1) w a b f l 0 0 j) (h4 : ∀ i, s' 4 i 0 = rtok s1 sd (s 0 0 1) w a b f l 4 i 0) : rB sd o s s' := by
  have kn := kidn sd
  refine rB_of hop (fun i j hj => ?_) (fun i j hj => ?_) ?_ ?_ ?_ ?_ (fun i => ?_)
  · rw [h1 i j (by omega), rtok_o _ _ (by omega) (by omega) (by omega)]; exact g1 i j (by omega)
  · rw [h1 i j (by omega), rtok_o _ _ (by omega) (by omega) (by omega)]; exact g1 i j (by omega)
  · rw [h0 1 (by omega) (by omega) (by omega), rtok_o _ _ (by omega) (Or.inr (kidj sd 1 (by omega))) (by omega)]; exact g0 1 (by omega)
  · rw [h0 4 (by omega) (by omega) (by omega), rtok_o _ _ (by omega) (Or.inr (kidj sd 4 (by omega))) (by omega)]; exact g0 4 (by omega)
  · rw [h0 5 (by omega) (by omega) (by omega), rtok_o _ _ (by omega) (Or.inr (kidj sd 5 (by omega))) (by omega)]; exact g0 5 (by omega)
  · rw [h0 _ (by omega) (by omega) (by omega), rtok_k, g0 _ (by omega)]
  · rw [h4, rtok_4, g0 _ (by omega), g4]
theorem rV_lit {t : Int → Int} {n b0 b : Int} {s' : pS} (k : tOk t n) (v : rV n sd b0 s) (h20 : ¬ s 0 0 1 - b0 = 20) (ho : ¬ o = 2) (hb : 1 ≤ prl t b (s 0 0 0)) (e : rlit t sd (rA s sd o) (s 0 0 1) (s 0 0 0) b = (true, s')) : rV n sd b0 s' ∧ s 0 0 0 < s' 0 0 0 := by
  have kn := kidn sd
  have vi := v.1
  obtain ⟨i1, i2, i3, i4, i5, i6, i7, i8, i9⟩ := vi
  have hr := prl_rg k b (s 0 0 0) i2
  unfold rlit at e
  split at e
  · cases e
    have e0 : rfin (up (up (up (rtok (rA s sd o) sd (s 0 0 1) (if b = 0 then 4 else 3) 0 0 (s 0 0 0) (prl t b (s 0 0 0))) 1 (s 0 0 1) 10 (s 0 0 0)) 1 (s 0 0 1) 11 (prl t b (s 0 0 0))) 0 0 0 (s 0 0 0 + prl t b (s 0 0 0))) (s 0 0 1) 0 0 0 = s 0 0 0 + prl t b (s 0 0 0) := by
      rw [rfin_o _ _ (by omega) (by omega)]; simp [upE]
    refine ⟨rV_leaf v (rB_tok (s1 := rA s sd o) (w := if b = 0 then 4 else 3) (a := 0) (b := 0) (f := s 0 0 0) (l := prl t b (s 0 0 0)) i7 (fun _ _ _ => rfl) (fun _ _ => rfl) (fun _ => rfl) (fun i j hj => ?_) (fun j h0 h2 h6 => ?_) (fun i => ?_)) ho h20 ?_ ?_ (fun k => ?_) ?_, ?_⟩
    · rw [rfin_h _ _ ?_ hj]
      · simp only [upE]; rw [if_neg (by omega), if_neg (by omega), if_neg (by omega)]
      · simp only [upE]; rw [if_neg (by omega), if_neg (by omega), if_neg (by omega), rtok_o _ _ (by omega) (by omega) (by omega), (rA_new (by omega)).2.2.2.1]; exact i7
    · rw [rfin_o _ _ (by omega) (by omega)]; simp only [upE]; rw [if_neg (by omega), if_neg (by omega), if_neg (by omega)]
    · rw [rfin_o _ _ (by omega) (by omega)]; simp [upE]
    · rw [e0]; omega
    · rw [rfin_o _ _ (by omega) (by omega)]; simp only [upE]; rw [if_neg (by omega), if_neg (by omega), if_neg (by omega), rtok_o _ _ (by omega) (Or.inr (kidj sd 6 (by omega))) (by omega), rA_0 _ (by omega)]
    · rw [rfin_o _ _ (by omega) (by omega)]; simp only [upE]; rw [if_neg (by omega), if_neg (by omega), if_neg (by omega), rtok_o _ _ (by omega) (by omega) (by omega), rA_t _ _ (by omega)]
    · rw [rfin_2]; unfold rT; simp only [rfin_o _ _ (show ¬ (1 = 1 ∧ 3 = 9) by omega) (show ¬ (1 = 0 ∧ 3 = 2) by omega), rfin_o _ _ (show ¬ (1 = 1 ∧ 0 = 9) by omega) (show ¬ (1 = 0 ∧ 0 = 2) by omega)]
    · rw [e0]; omega
  · cases e
theorem rT_fin {x i : Int} : rT (rfin s x) i = rT s i := by
  unfold rT; simp only [rfin_o _ _ (show ¬ (1 = 1 ∧ 3 = 9) by omega) (show ¬ (1 = 0 ∧ 3 = 2) by omega), rfin_o _ _ (show ¬ (1 = 1 ∧ 0 = 9) by omega) (show ¬ (1 = 0 ∧ 0 = 2) by omega)]
theorem rV_any {n b0 : Int} (v : rV n sd b0 s) (h20 : ¬ s 0 0 1 - b0 = 20) (hp : s 0 0 0 < n) :
    rV n sd b0 (rfin (up (rtok (rA s sd 0) sd (s 0 0 1) 0 0 0 0 0) 0 0 0 (s 0 0 0 + 1)) (s 0 0 1)) ∧ s 0 0 0 < (rfin (up (rtok (rA s sd 0) sd (s 0 0 1) 0 0 0 0 0) 0 0 0 (s 0 0 0 + 1)) (s 0 0 1)) 0 0 0 := by
  have kn := kidn sd
  have vi := v.1
  obtain ⟨i1, i2, i3, i4, i5, i6, i7, i8, i9⟩ := vi
  have e0 : (rfin (up (rtok (rA s sd 0) sd (s 0 0 1) 0 0 0 0 0) 0 0 0 (s 0 0 0 + 1)) (s 0 0 1)) 0 0 0 = s 0 0 0 + 1 := by
    rw [rfin_o _ _ (by omega) (by omega)]; simp [upE]
  refine ⟨rV_leaf v (rB_tok (s1 := rA s sd 0) (w := 0) (a := 0) (b := 0) (f := 0) (l := 0) i7 (fun _ _ _ => rfl) (fun _ _ => rfl) (fun _ => rfl) (fun i j hj => ?_) (fun j h0 h2 h6 => ?_) (fun i => ?_)) (by omega) h20 ?_ ?_ (fun k => ?_) ?_, ?_⟩
  · rw [rfin_h _ _ ?_ hj]
    · simp only [upE]; rw [if_neg (by omega)]
    · simp only [upE]; rw [if_neg (by omega), rtok_o _ _ (by omega) (by omega) (by omega), (rA_new (by omega)).2.2.2.1]; exact i7
  · rw [rfin_o _ _ (by omega) (by omega)]; simp only [upE]; rw [if_neg (by omega)]
  · rw [rfin_o _ _ (by omega) (by omega)]; simp [upE]
  · rw [e0]; omega
  · rw [rfin_o _ _ (by omega) (by omega)]; simp only [upE]; rw [if_neg (by omega), rtok_o _ _ (by omega) (Or.inr (kidj sd 6 (by omega))) (by omega), rA_0 _ (by omega)]
  · rw [rfin_o _ _ (by omega) (by omega)]; simp only [upE]; rw [if_neg (by omega), rtok_o _ _ (by omega) (by omega) (by omega), rA_t _ _ (by omega)]
  · rw [rfin_2, rT_fin]
  · rw [e0]; omega
theorem rV_dp {n b0 : Int} (v : rV n sd b0 s) (h20 : ¬ s 0 0 1 - b0 = 20) (hp : s 0 0 0 < n) (ho : s 0 0 2 = -1 ∨ s 1 (s 0 0 2) 0 = 4) (hsd : sd = 0) :
    rV n sd b0 (up (up (rtok (rA s sd 2) sd (s 0 0 1) 2 0 0 0 0) 0 0 0 (s 0 0 0 + 1)) 0 0 2 (s 0 0 1)) := by
  have kn := kidn sd
  have vi := v.1
  obtain ⟨i1, i2, i3, i4, i5, i6, i7, i8, i9⟩ := vi
  refine rV_deep v (rB_tok (s1 := rA s sd 2) (w := 2) (a := 0) (b := 0) (f := 0) (l := 0) i7 (fun _ _ _ => rfl) (fun _ _ => rfl) (fun _ => rfl) (fun i j hj => ?_) (fun j h0 h2 h6 => ?_) (fun i => ?_)) ho ⟨hsd, ?_⟩ h20 ?_ ?_ (fun k => ?_) ?_
  · simp only [upE]; rw [if_neg (by omega), if_neg (by omega)]
  · simp only [upE]; rw [if_neg (by omega), if_neg (by omega)]
  · simp [upE]
  · simp only [upE]; rw [if_neg (by omega), if_neg (by omega), rtok_o _ _ (by omega) (Or.inr (kidj sd 5 (by omega))) (by omega), rA_45.2, if_pos ⟨hsd, rfl⟩]; omega
  · simp [upE]; omega
  · simp only [upE]; rw [if_neg (by omega), if_neg (by omega), rtok_o _ _ (by omega) (Or.inr (kidj sd 6 (by omega))) (by omega), rA_0 _ (by omega)]
  · simp only [upE]; rw [if_neg (by omega), if_neg (by omega), rtok_o _ _ (by omega) (by omega) (by omega), rA_t _ _ (by omega)]
  · simp [upE]
theorem rV_tm {t : Int → Int} {n b0 p1 : Int} {s' : pS} (k : tOk t n) (v : rV n sd b0 s) (h20 : ¬ s 0 0 1 - b0 = 20) (hp : s 0 0 0 < p1 ∧ p1 ≤ n) (e : rterm t sd (rA s sd 4) (s 0 0 1) p1 = (true, s')) : rV n sd b0 s' ∧ s 0 0 0 < s' 0 0 0 := by
  have kn := kidn sd
  have vi := v.1
  obtain ⟨i1, i2, i3, i4, i5, i6, i7, i8, i9⟩ := vi
  have hr := prl_rg k 1 p1 hp.2
  unfold rterm at e
  split at e
  · split at e
    · cases e
      refine ⟨rV_term v (rB_tok (s1 := rA s sd 4) (w := 5) (a := 0) (b := 0) (f := p1) (l := prl t 1 p1) i7 (fun _ _ _ => rfl) (fun _ _ => rfl) (fun _ => rfl) (fun i j hj => ?_) (fun j h0 h2 h6 => ?_) (fun i => ?_)) h20 ?_ ?_ (fun k => ?_) ?_, ?_⟩
      · simp only [upE]; rw [if_neg (by omega), if_neg (by omega), if_neg (by omega), if_neg (by omega), if_neg (by omega), if_neg (by omega)]
      · simp only [upE]; rw [if_neg (by omega), if_neg (by omega), if_neg (by omega), if_neg (by omega), if_neg (by omega), if_neg (by omega)]
      · simp [upE]
      · simp [upE]; omega
      · simp [upE]; rw [rA_0 _ (by omega)]
      · simp only [upE, rA_0 6 (show ¬ 6 = 1 ∧ ¬ 6 = 4 ∧ ¬ 6 = 5 by omega)]
        by_cases c : k = s 0 0 6
        · simp [c]
        · simp [c]; rw [rtok_o _ _ (by omega) (by omega) (by omega), rA_t _ _ (by omega)]
      · simp [upE]
      · simp [upE]; omega
    · cases e
  · cases e
theorem rV_hole {t : Int → Int} {n b0 l how : Int} {s' : pS} (k : tOk t n) (v : rV n sd b0 s) (h20 : ¬ s 0 0 1 - b0 = 20) (ho : ¬ o = 2) (hl : l = t (s 0 0 0 + 1) - 65) (e : rhole t sd (rA s sd o) (s 0 0 1) (s 0 0 0) l how = (true, s')) : rV n sd b0 s' ∧ s 0 0 0 < s' 0 0 0 := by
  have kn := kidn sd
  have vi := v.1
  obtain ⟨i1, i2, i3, i4, i5, i6, i7, i8, i9⟩ := vi
  unfold rhole at e
  split at e
  · rename_i g
    have hp1 := k.lt (i := s 0 0 0 + 1) (by omega)
    split at e
    · cases e
      have e0 : ∀ w a b f l2, rfin (rtok (up (up (up (rA s sd o) 5 l 0 how) 0 0 0 (s 0 0 0 + 2)) 1 (s 0 0 1) 1 l) sd (s 0 0 1) w a b f l2) (s 0 0 1) 0 0 0 = s 0 0 0 + 2 := by
        intro w a b f l2
        rw [rfin_o _ _ (by omega) (by omega), rtok_o _ _ (by omega) (Or.inr (kidj sd 0 (by omega))) (by omega)]; simp [upE]
      refine ⟨rV_leaf v (rB_tok (s1 := up (up (up (rA s sd o) 5 l 0 how) 0 0 0 (s 0 0 0 + 2)) 1 (s 0 0 1) 1 l) (w := if how = 2 then 6 else 1) (a := l) (b := if how = 2 then 0 else -1) (f := 0) (l := 0) i7 (fun i j hj => ?_) (fun j hj => ?_) (fun i => ?_) (fun i j hj => ?_) (fun j h0 h2 h6 => ?_) (fun i => ?_)) ho h20 ?_ ?_ (fun k => ?_) ?_, ?_⟩
      · simp only [upE]; rw [if_neg (by omega), if_neg (by omega), if_neg (by omega)]
      · simp only [upE]; rw [if_neg (by omega), if_neg (by omega), if_neg (by omega)]
      · simp [upE]
      · rw [rfin_h _ _ ?_ hj]
        rw [rtok_o _ _ (by omega) (by omega) (by omega)]; simp only [upE]; rw [if_neg (by omega), if_neg (by omega), if_neg (by omega), (rA_new (by omega)).2.2.2.1]; exact i7
      · rw [rfin_o _ _ (by omega) (by omega)]
      · rw [rfin_o _ _ (by omega) (by omega)]
      · rw [e0]; omega
      · rw [rfin_o _ _ (by omega) (by omega), rtok_o _ _ (by omega) (Or.inr (kidj sd 6 (by omega))) (by omega)]; simp only [upE]; rw [if_neg (by omega), if_neg (by omega), if_neg (by omega), rA_0 _ (by omega)]
      · rw [rfin_o _ _ (by omega) (by omega), rtok_o _ _ (by omega) (by omega) (by omega)]; simp only [upE]; rw [if_neg (by omega), if_neg (by omega), if_neg (by omega), rA_t _ _ (by omega)]
      · rw [rfin_2, rT_fin]
      · rw [e0]; omega
    · split at e
      · cases e
      · rename_i g2 g3
        have hp3 := k.lt (i := s 0 0 0 + 3) (by intro c; apply g3; rw [c]; rfl)
        cases e
        have e0 : ∀ w a b f l2 q, rfin (up (up (rtok (up (up (up (rA s sd o) 5 l 0 how) 0 0 0 (s 0 0 0 + 2)) 1 (s 0 0 1) 1 l) sd (s 0 0 1) w a b f l2) 1 (s 0 0 1) 2 q) 0 0 0 (s 0 0 0 + 4)) (s 0 0 1) 0 0 0 = s 0 0 0 + 4 := by
          intro w a b f l2 q
          rw [rfin_o _ _ (by omega) (by omega)]; simp [upE]
        refine ⟨rV_leaf v (rB_tok (s1 := up (up (up (rA s sd o) 5 l 0 how) 0 0 0 (s 0 0 0 + 2)) 1 (s 0 0 1) 1 l) (w := 1) (a := l) (b := rkd (t (s 0 0 0 + 3))) (f := 0) (l := 0) i7 (fun i j hj => ?_) (fun j hj => ?_) (fun i => ?_) (fun i j hj => ?_) (fun j h0 h2 h6 => ?_) (fun i => ?_)) ho h20 ?_ ?_ (fun k => ?_) ?_, ?_⟩
        · simp only [upE]; rw [if_neg (by omega), if_neg (by omega), if_neg (by omega)]
        · simp only [upE]; rw [if_neg (by omega), if_neg (by omega), if_neg (by omega)]
        · simp [upE]
        · rw [rfin_h _ _ ?_ hj]
          · rw [upE, if_neg (by omega), upE, if_neg (by omega)]
          · rw [upE, if_neg (by omega), upE, if_neg (by omega), rtok_o _ _ (by omega) (by omega) (by omega)]; simp only [upE]; rw [if_neg (by omega), if_neg (by omega), if_neg (by omega), (rA_new (by omega)).2.2.2.1]; exact i7
        · rw [rfin_o _ _ (by omega) (by omega)]; rw [upE, if_neg (by omega), upE, if_neg (by omega)]
        · rw [rfin_o _ _ (by omega) (by omega)]; rw [upE, if_neg (by omega), upE, if_neg (by omega)]
        · rw [e0]; omega
        · rw [rfin_o _ _ (by omega) (by omega), upE, if_neg (by omega), upE, if_neg (by omega), rtok_o _ _ (by omega) (Or.inr (kidj sd 6 (by omega))) (by omega)]; simp only [upE]; rw [if_neg (by omega), if_neg (by omega), if_neg (by omega), rA_0 _ (by omega)]
        · rw [rfin_o _ _ (by omega) (by omega), upE, if_neg (by omega), upE, if_neg (by omega), rtok_o _ _ (by omega) (by omega) (by omega)]; simp only [upE]; rw [if_neg (by omega), if_neg (by omega), if_neg (by omega), rA_t _ _ (by omega)]
        · rw [rfin_2, rT_fin]
        · rw [e0]; omega
  · cases e
theorem rput_k {w a b f l : Int} : rput s sd w a b f l 0 0 (kid sd) = s 0 0 (kid sd) + 1 := by
  have kn := kidn sd
  unfold rput; simp [upE]
theorem rV_cl {n b0 : Int} (v : rV n sd b0 s) (hop : ¬ s 0 0 2 = -1) (h4 : s 1 (s 0 0 2) 0 = 4) (hp : s 0 0 0 < n) : rV n sd b0 (rclose sd s) ∧ s 0 0 0 < (rclose sd s) 0 0 0 := by
  have kn := kidn sd
  have vi := v.1
  obtain ⟨i1, i2, i3, i4, i5, i6, i7, i8, i9⟩ := vi
  have g : ∀ c i j, ¬ c = kid sd → ¬ (c = 0 ∧ (j = kid sd ∨ j = 6 ∨ j = 0)) → (up (up (rput (up s (kid sd) (s 4 (s 0 0 2) 0) 2 (s 0 0 (kid sd))) sd 7 0 0 0 0) 0 0 6 (s 0 0 6 - 1)) 0 0 0 (s 0 0 0 + 1)) c i j = s c i j := by
    intro c i j h1 h2
    simp only [upE]
    rw [if_neg (by omega), if_neg (by omega), rput_o _ _ h1 (by omega), upE, if_neg (by omega)]
  have e0 : rclose sd s 0 0 0 = s 0 0 0 + 1 := by unfold rclose; rw [rfin_o _ _ (by omega) (by omega)]; simp [upE]
  have rt : rT (up (up (rput (up s (kid sd) (s 4 (s 0 0 2) 0) 2 (s 0 0 (kid sd))) sd 7 0 0 0 0) 0 0 6 (s 0 0 6 - 1)) 0 0 0 (s 0 0 0 + 1)) (s 0 0 2) = rT s (s 0 0 2) := by
    unfold rT; rw [g 1 _ 3 (by omega) (by omega), g 1 _ 0 (by omega) (by omega), g 1 _ 3 (by omega) (by omega)]
  refine ⟨rV_close v hop h4 ?_ ?_ ⟨?_, ?_⟩ ?_ ?_ (fun k => ?_) ?_ (fun i j hj => ?_) (fun i => ?_) (fun i j hi => ?_), ?_⟩
  · rw [e0]; omega
  · unfold rclose; rw [rfin_o _ _ (by omega) (by omega)]; exact g 0 0 1 (by omega) (by have := kidj sd 1 (by omega); omega)
  · unfold rclose; rw [rfin_o _ _ (by omega) (by omega)]; exact g 0 0 4 (by omega) (by have := kidj sd 4 (by omega); omega)
  · unfold rclose; rw [rfin_o _ _ (by omega) (by omega)]; exact g 0 0 5 (by omega) (by have := kidj sd 5 (by omega); omega)
  · unfold rclose; rw [rfin_o _ _ (by omega) (by omega)]
    simp only [upE]
    rw [if_neg (by omega), if_neg (by omega), rput_k, upE, if_neg (by omega)]
  · unfold rclose; rw [rfin_o _ _ (by omega) (by omega)]; simp [upE]
  · unfold rclose; rw [rfin_o _ _ (by omega) (by omega)]; exact g 6 k 0 (by omega) (by omega)
  · unfold rclose; rw [rfin_2]; exact rt
  · unfold rclose; rw [rfin_o _ _ (by omega) (by omega)]; exact g 1 i j (by omega) (by omega)
  · unfold rclose; rw [rfin_o _ _ (by omega) (by omega)]; exact g 4 i 0 (by omega) (by omega)
  · have y := v.2.1 (s 0 0 2) (i8 hop).1 i7
    unfold rclose; rw [rfin_h]
    · exact g 1 i j (by omega) (by omega)
    · rw [g 1 _ 3 (by omega) (by omega)]; omega
    · omega
  · rw [e0]; omega
theorem rV_p {n b0 p : Int} (v : rV n sd b0 s) (hp : 0 ≤ p ∧ p ≤ n) : rV n sd b0 (up s 0 0 0 p) := by
  have kn := kidn sd
  obtain ⟨vi, vj, vo, ve⟩ := v
  have g : ∀ c i j, ¬ (c = 0 ∧ j = 0) → up s 0 0 0 p c i j = s c i j := fun c i j h => by rw [upE, if_neg (by omega)]
  have g1 : ∀ i j, up s 0 0 0 p 1 i j = s 1 i j := fun i j => g 1 i j (by omega)
  have g0 : ∀ j, ¬ j = 0 → up s 0 0 0 p 0 0 j = s 0 0 j := fun j h => g 0 0 j (by omega)
  have rt : ∀ i, rT (up s 0 0 0 p) i = rT s i := fun i => by unfold rT; simp only [g1]
  have e0 : up s 0 0 0 p 0 0 0 = p := by simp [upE]
  refine ⟨?_, ?_, ?_, ?_⟩
  · unfold rI at vi ⊢
    rw [e0, g0 1 (by omega), g0 2 (by omega), g0 6 (by omega), g0 (kid sd) (by omega), g0 4 (by omega), g0 5 (by omega)]
    simp only [g1]
    exact ⟨hp.1, hp.2, vi.2.2⟩
  · intro i h0 h1
    rw [g0 1 (by omega)] at h1 ⊢
    rw [g0 (kid sd) (by omega)]
    simp only [g1, g 4 i 0 (by omega)]
    exact vj i h0 h1
  · unfold rO at vo ⊢
    simp only [g1, rt, g0 6 (show ¬ 6 = 0 by omega), g0 1 (show ¬ 1 = 0 by omega), g0 2 (show ¬ 2 = 0 by omega), g 6 _ 0 (show ¬ (6 = 0 ∧ 0 = 0) by omega)]
    exact vo
  · intro i j h
    rw [g0 1 (by omega)] at h
    rw [g1]; exact ve i j h
theorem rV_blk {t : Int → Int} {n b0 : Int} (k : tOk t n) (v : rV n sd b0 s) : rV n sd b0 (rblk t s) ∧ s 0 0 0 ≤ (rblk t s) 0 0 0 := by
  have hr := pbl_rg k 301 (s 0 0 0) v.1.1 v.1.2.1
  refine ⟨rV_p v (by have := v.1.1; omega), ?_⟩
  unfold rblk; simp [upE]; exact hr.1
theorem opc_m (t : Int → Int) (p : Int) : opc (t p) = -1 ∨ ¬ t p = -1 := by
  by_cases c : t p = -1
  · left; rw [c]; rfl
  · exact Or.inr c
theorem opc3 {c : Int} (h : opc c = 3) : isL c ∨ isD c := by
  unfold opc at h
  split at h
  · omega
  · split at h
    · omega
    · split at h
      · omega
      · split at h
        · omega
        · split at h
          · omega
          · split at h
            · assumption
            · omega
theorem rV_item {t : Int → Int} {n b0 : Int} {s' : pS} (k : tOk t n) (v : rV n sd b0 s) (e : ritem t sd b0 s = (true, s')) : rV n sd b0 s' ∧ s 0 0 0 < s' 0 0 0 := by
  have vi := v.1
  obtain ⟨i1, i2, i3, i4, i5, i6, i7, i8, i9⟩ := vi
  unfold ritem at e
  split at e
  · cases e
  · rename_i g
    have h20 : ¬ s 0 0 1 - b0 = 20 := fun c => g (Or.inr (Or.inl c))
    have hp := k.lt (i := s 0 0 0) (by rcases opc_m t (s 0 0 0) with c | c; exact absurd (Or.inl c) g; exact c)
    split at e
    · rename_i g3
      refine rV_lit (o := 3) k v h20 (by omega) ?_ e
      apply prl_pos
      rcases opc3 g3 with c | c
      · rw [if_pos c]; exact Or.inr ⟨by omega, c⟩
      · rw [if_neg (by omega)]; exact Or.inl ⟨rfl, c⟩
    · split at e
      · rename_i g2
        cases e
        have hd : s 0 0 5 = 0 := by
          apply Classical.byContradiction; intro c; exact g (Or.inr (Or.inr (Or.inr (Or.inl ⟨g2, Or.inr c⟩))))
        have hsd : sd = 0 := by
          apply Classical.byContradiction; intro c; exact g (Or.inr (Or.inr (Or.inr (Or.inl ⟨g2, Or.inl c⟩))))
        refine ⟨rV_dp v h20 hp.2 ?_ hsd, by simp [upE]; omega⟩
        by_cases c : s 0 0 2 = -1
        · exact Or.inl c
        · rcases (i8 c).2 with d | d
          · have := v.1.2.2.2.2.2.2.2.2.2.2.2.2.2.2.2.2 c d; omega
          · exact Or.inr d
      · split at e
        · refine rV_tm k v h20 ?_ e
          have := pbl_rg k 301 (s 0 0 0 + 1) (by omega) (by omega)
          omega
        · split at e
          · cases e
            exact rV_any v h20 hp.2
          · split at e
            · exact rV_hole (o := 1) k v h20 (by omega) rfl e
            · exact rV_hole (o := 5) k v h20 (by omega) rfl e
theorem rV_step {t : Int → Int} {n b0 : Int} {s' : pS} (k : tOk t n) (v : rV n sd b0 s) (e : rstep t sd b0 s = (true, s')) : rV n sd b0 s' ∧ s 0 0 0 < s' 0 0 0 := by
  unfold rstep at e
  split at e
  · rename_i c
    cases e
    exact rV_cl v c.2.1 c.2.2 (k.lt (i := s 0 0 0) (by omega)).2
  · exact rV_item k v e
theorem rV_side {t : Int → Int} {n b0 : Int} (k : tOk t n) : ∀ (f : Nat) {s s' : pS}, rV n sd b0 s → rside t sd b0 f s = (true, s') → rV n sd b0 s' ∧ s 0 0 0 < s' 0 0 0 ∧ s' 0 0 2 = -1 := by
  intro f
  induction f with
  | zero => intro s s' v e; unfold rside at e; cases e
  | succ f ih =>
    intro s s' v e
    unfold rside at e
    have vb := rV_blk k v
    rcases hz : rstep t sd b0 (rblk t s) with ⟨ok, s1⟩
    rw [hz] at e
    cases ok with
    | false => cases e
    | true =>
      have v1 := rV_step k vb.1 hz
      dsimp only at e
      split at e
      · cases e
        exact ⟨v1.1, by omega, by assumption⟩
      · have := ih v1.1 e
        exact ⟨this.1, by omega, this.2.2⟩
end RW
