/-! What an item and its token tell: the normal form of a step. -/
section LC
variable {sd b0 n : Int} {s : pS} {t : Int → Int}
def oZ (sd o hl kd wa wl w a b f l : Int) (s y : pS) : Prop := oY sd o s y ∧ (∀ i j, ¬ i = s 0 0 1 → y 1 i j = rA s sd o 1 i j) ∧ (y 1 (s 0 0 1) 1 = hl ∧ y 1 (s 0 0 1) 2 = kd ∧ y 1 (s 0 0 1) 10 = wa ∧ y 1 (s 0 0 1) 11 = wl) ∧
  (∀ k j, j < 6 → y (kid sd) k j = if k = s 0 0 (kid sd) then (if j = 0 then w else if j = 1 then a else if j = 2 then b else if j = 3 then f else if j = 4 then l else 0) else rA s sd o (kid sd) k j) ∧
  (∀ c k j, c = 3 ∨ c = 7 → ¬ c = kid sd → y c k j = s c k j ∧ y 0 0 c = s 0 0 c) ∧ y 0 0 4 = rA s sd o 0 0 4 ∧ y 0 0 5 = rA s sd o 0 0 5 ∧ y 0 0 8 = s 0 0 8
theorem rA_c {o : Int} {c : Nat} (k : Int) (j : Nat) (h : c = 3 ∨ c = 7) (hc : ¬ c = kid sd) : rA s sd o c k j = s c k j := by
  unfold rA
  rw [rcnt_o _ _ hc]
  exact radd_o k j (by omega) (by omega) (by omega)
theorem oZ.base {o it w a b f l : Int} (ve : rE s) (hop : s 0 0 2 < s 0 0 1) (hit : it = s 0 0 1) : oZ sd o (-1) (-1) 0 0 w a b f l s (rtok (rA s sd o) sd it w a b f l) := by
  have kn := kidn sd
  have k3 := kid3 sd
  have ek : rA s sd o 0 0 (kid sd) = s 0 0 (kid sd) := rA_0 _ (by omega)
  have nn := rA_new (s := s) (sd := sd) (o := o) (by omega)
  have e1 : ∀ i j, rtok (rA s sd o) sd it w a b f l 1 i j = rA s sd o 1 i j := fun i j => rtok_o _ _ (by omega) (by omega) (by omega)
  refine ⟨oY.tok hop hit, fun i j _ => e1 i j, ⟨?_, ?_, ?_, ?_⟩, fun k j hj => ?_, fun c k j h3 hc => ⟨?_, ?_⟩, ?_, ?_, ?_⟩
  · rw [e1]; exact nn.2.1
  · rw [e1]; exact nn.2.2.1
  · rw [e1, nn.2.2.2.2.2.2.2.2.2 10 (by omega)]; exact ve _ _ (Int.le_refl _)
  · rw [e1, nn.2.2.2.2.2.2.2.2.2 11 (by omega)]; exact ve _ _ (Int.le_refl _)
  · unfold rtok; rw [upE, if_neg (by omega), rput_v hj, ek]
  · rw [rtok_o _ _ (by omega) (by omega) (by omega)]; exact rA_c _ _ h3 hc
  · rw [rtok_o _ _ (by omega) (by omega) (by omega)]; exact rA_0 _ (by omega)
  · rw [rtok_o _ _ (by omega) (by omega) (by omega)]
  · rw [rtok_o _ _ (by omega) (by omega) (by omega)]
  · rw [rtok_o _ _ (by omega) (by omega) (by omega)]; exact rA_0 _ (by omega)
theorem oZ.bas2 {o it w a b f l l2 v p : Int} (ve : rE s) (hop : s 0 0 2 < s 0 0 1) (hit : it = s 0 0 1) : oZ sd o l2 (-1) 0 0 w a b f l s (rtok (up (up (up (rA s sd o) 5 l2 0 v) 0 0 0 p) 1 it 1 l2) sd it w a b f l) := by
  have kn := kidn sd
  have k3 := kid3 sd
  have ek : (up (up (up (rA s sd o) 5 l2 0 v) 0 0 0 p) 1 it 1 l2) 0 0 (kid sd) = s 0 0 (kid sd) := by
    rw [upE, if_neg (by omega), upE, if_neg (by omega), upE, if_neg (by omega)]; exact rA_0 _ (by omega)
  have nn := rA_new (s := s) (sd := sd) (o := o) (by omega)
  have e1 : ∀ i j, ¬ (i = it ∧ j = 1) → rtok (up (up (up (rA s sd o) 5 l2 0 v) 0 0 0 p) 1 it 1 l2) sd it w a b f l 1 i j = rA s sd o 1 i j := fun i j h => by
    rw [rtok_o _ _ (by omega) (by omega) (by omega), upE, if_neg (by omega), upE, if_neg (by omega), upE, if_neg (by omega)]
  have e0 : ∀ c i j, ¬ c = kid sd → (¬ c = 0 ∨ ¬ j = kid sd) → ¬ c = 4 → ¬ c = 1 → ¬ (c = 0 ∧ j = 0) → ¬ c = 5 → rtok (up (up (up (rA s sd o) 5 l2 0 v) 0 0 0 p) 1 it 1 l2) sd it w a b f l c i j = rA s sd o c i j := fun c i j h1 h2 h3 h4 h5 h6 => by
    rw [rtok_o _ _ h1 h2 h3, upE, if_neg (by omega), upE, if_neg (by omega), upE, if_neg (by omega)]
  refine ⟨oY.tk2 hop hit, fun i j hi => e1 i j (by omega), ⟨?_, ?_, ?_, ?_⟩, fun k j hj => ?_, fun c k j h3 hc => ⟨?_, ?_⟩, ?_, ?_, ?_⟩
  · rw [rtok_o _ _ (by omega) (by omega) (by omega), upE, if_pos (by omega)]
  · rw [e1 _ _ (by omega)]; exact nn.2.2.1
  · rw [e1 _ _ (by omega), nn.2.2.2.2.2.2.2.2.2 10 (by omega)]; exact ve _ _ (Int.le_refl _)
  · rw [e1 _ _ (by omega), nn.2.2.2.2.2.2.2.2.2 11 (by omega)]; exact ve _ _ (Int.le_refl _)
  · have g : (up (up (up (rA s sd o) 5 l2 0 v) 0 0 0 p) 1 it 1 l2) (kid sd) k j = rA s sd o (kid sd) k j := by
      rw [upE, if_neg (by omega), upE, if_neg (by omega), upE, if_neg (by omega)]
    unfold rtok; rw [upE, if_neg (by omega), rput_v hj, ek, g]
  · rw [e0 _ _ _ hc (by omega) (by omega) (by omega) (by omega) (by omega)]; exact rA_c _ _ h3 hc
  · rw [e0 _ _ _ (by omega) (by omega) (by omega) (by omega) (by omega) (by omega)]; exact rA_0 _ (by omega)
  · rw [e0 _ _ _ (by omega) (by omega) (by omega) (by omega) (by omega) (by omega)]
  · rw [e0 _ _ _ (by omega) (by omega) (by omega) (by omega) (by omega) (by omega)]
  · rw [e0 _ _ _ (by omega) (by omega) (by omega) (by omega) (by omega) (by omega)]; exact rA_0 _ (by omega)
/-- a place beside -/
theorem oZ.u0 {o hl kd wa wl w a b f l : Int} {y : pS} {c : Nat} {i : Int} {j : Nat} {v : Int} (x : oZ sd o hl kd wa wl w a b f l s y) (h : (c = 0 ∧ (j = 0 ∨ j = 2 ∨ j = 6)) ∨ c = 6) : oZ sd o hl kd wa wl w a b f l s (up y c i j v) := by
  have kn := kidn sd
  have k3 := kid3 sd
  obtain ⟨x0, x1, x2, x3, x4, x5, x6, x7⟩ := x
  refine ⟨x0.ups (by omega), fun i j hi => ?_, ⟨?_, ?_, ?_, ?_⟩, fun k j hj => ?_, fun c k j h3 hc => ⟨?_, ?_⟩, ?_, ?_, ?_⟩
  · rw [upE, if_neg (by omega)]; exact x1 i j hi
  · rw [upE, if_neg (by omega)]; exact x2.1
  · rw [upE, if_neg (by omega)]; exact x2.2.1
  · rw [upE, if_neg (by omega)]; exact x2.2.2.1
  · rw [upE, if_neg (by omega)]; exact x2.2.2.2
  · rw [upE, if_neg (by omega)]; exact x3 k j hj
  · rw [upE, if_neg (by omega)]; exact (x4 c k j h3 hc).1
  · rw [upE, if_neg (by omega)]; exact (x4 c k j h3 hc).2
  · rw [upE, if_neg (by omega)]; exact x5
  · rw [upE, if_neg (by omega)]; exact x6
  · rw [upE, if_neg (by omega)]; exact x7
theorem oZ.u1 {o hl kd wa wl w a b f l : Int} {y : pS} {i : Int} {j : Nat} {v : Int} (x : oZ sd o hl kd wa wl w a b f l s y) (hi : i = s 0 0 1) (h : j = 2 ∨ j = 10 ∨ j = 11) :
    oZ sd o hl (if j = 2 then v else kd) (if j = 10 then v else wa) (if j = 11 then v else wl) w a b f l s (up y 1 i j v) := by
  have kn := kidn sd
  have k3 := kid3 sd
  obtain ⟨x0, x1, x2, x3, x4, x5, x6, x7⟩ := x
  subst hi
  refine ⟨x0.ups (by omega), fun i j hi => ?_, ⟨?_, ?_, ?_, ?_⟩, fun k j hj => ?_, fun c k j h3 hc => ⟨?_, ?_⟩, ?_, ?_, ?_⟩
  · rw [upE, if_neg (by omega)]; exact x1 i j hi
  · rw [upE, if_neg (by omega)]; exact x2.1
  · rw [upE]; by_cases c : j = 2
    · rw [if_pos ⟨rfl, rfl, c.symm⟩, if_pos c]
    · rw [if_neg (by omega), if_neg c]; exact x2.2.1
  · rw [upE]; by_cases c : j = 10
    · rw [if_pos ⟨rfl, rfl, c.symm⟩, if_pos c]
    · rw [if_neg (by omega), if_neg c]; exact x2.2.2.1
  · rw [upE]; by_cases c : j = 11
    · rw [if_pos ⟨rfl, rfl, c.symm⟩, if_pos c]
    · rw [if_neg (by omega), if_neg c]; exact x2.2.2.2
  · rw [upE, if_neg (by omega)]; exact x3 k j hj
  · rw [upE, if_neg (by omega)]; exact (x4 c k j h3 hc).1
  · rw [upE, if_neg (by omega)]; exact (x4 c k j h3 hc).2
  · rw [upE, if_neg (by omega)]; exact x5
  · rw [upE, if_neg (by omega)]; exact x6
  · rw [upE, if_neg (by omega)]; exact x7
/-- letters as they were -/
def l5 (sd o hl : Int) (s y : pS) : Prop := (∀ l, y 5 l 0 = if (o = 1 ∨ o = 5) ∧ l = hl then (if o = 5 then 2 else 1) else s 5 l 0) ∧ (o = 1 ∨ o = 5 → s 5 hl 0 = (if o = 5 then 2 else 1) ∨ (sd = 0 ∧ s 5 hl 0 = 0))
/-- contents by sort -/
def cN (t : Int → Int) (n o hl kd wa wl w a b f l : Int) : Prop :=
  (o = 0 ∧ w = 0 ∧ hl = -1 ∧ kd = -1 ∧ wa = 0 ∧ wl = 0 ∧ f = 0 ∧ l = 0) ∨ (o = 2 ∧ w = 2 ∧ hl = -1 ∧ kd = -1 ∧ wa = 0 ∧ wl = 0 ∧ f = 0 ∧ l = 0) ∨
  (o = 1 ∧ w = 1 ∧ 0 ≤ hl ∧ hl < 26 ∧ a = hl ∧ b = kd ∧ -1 ≤ kd ∧ kd ≤ 2 ∧ wa = 0 ∧ wl = 0 ∧ f = 0 ∧ l = 0) ∨
  (o = 5 ∧ w = 6 ∧ 0 ≤ hl ∧ hl < 26 ∧ a = hl ∧ kd = -1 ∧ wa = 0 ∧ wl = 0 ∧ f = 0 ∧ l = 0) ∨
  (o = 3 ∧ hl = -1 ∧ kd = -1 ∧ wa = f ∧ wl = l ∧ 0 ≤ wa ∧ 1 ≤ wl ∧ wl ≤ 8 ∧ wa + wl ≤ n ∧ ((w = 3 ∧ isL (t wa)) ∨ (w = 4 ∧ isD (t wa)))) ∨
  (o = 4 ∧ w = 5 ∧ a = 0 ∧ hl = -1 ∧ kd = -1 ∧ wa = f ∧ wl = l ∧ 0 ≤ wa ∧ 1 ≤ wl ∧ wl ≤ 8 ∧ wa + wl ≤ n)
def nF (t : Int → Int) (n sd b0 : Int) (s s' : pS) : Prop := ∃ (o hl kd wa wl w a b f l : Int) (y : pS), oZ sd o hl kd wa wl w a b f l s y ∧ cN t n o hl kd wa wl w a b f l ∧ l5 sd o hl s y ∧ ¬ s 0 0 1 - b0 = 20 ∧ (o = 5 → ¬ s 0 0 2 = -1 ∧ s 1 (s 0 0 2) 0 = 4 ∧ (sd = 0 → s 0 0 4 < 2)) ∧ (o = 2 → sd = 0 ∧ s 0 0 5 = 0) ∧ (o = 0 → sd = 0) ∧
  ((¬ o = 2 ∧ ¬ o = 4 ∧ s' = rfin y (s 0 0 1)) ∨ ((o = 2 ∨ o = 4) ∧ s' = up y 0 0 2 (s 0 0 1)))
theorem l5_no {o hl : Int} {y : pS} (h : ∀ l, y 5 l 0 = s 5 l 0) (ho : ¬ o = 1 ∧ ¬ o = 5) : l5 sd o hl s y := ⟨fun l => by rw [h, if_neg (by omega)], fun g => by omega⟩
theorem nf_lit {s' : pS} {b : Int} (k : tOk t n) (v : rV n sd b0 s) (h20 : ¬ s 0 0 1 - b0 = 20) (hb : (b = 1 ∧ isL (t (s 0 0 0))) ∨ (b = 0 ∧ isD (t (s 0 0 0)))) (e : rlit t sd (rA s sd 3) (s 0 0 1) (s 0 0 0) b = (true, s')) : nF t n sd b0 s s' := by
  have kn := kidn sd
  have k3 := kid3 sd
  obtain ⟨i1, i2, i3, i4, i5, i6, i7, i8, i9⟩ := v.1
  clear i9
  have hp1 : 1 ≤ prl t b (s 0 0 0) := prl_pos _ _ (by rcases hb with c | c; exact Or.inr ⟨by omega, c.2⟩; exact Or.inl ⟨c.1, c.2⟩)
  have hp2 := prl_rg k b (s 0 0 0) i2
  unfold rlit at e
  split at e
  · rename_i hm
    have hm8 : prl t b (s 0 0 0) ≤ 8 := by
      unfold pmo at hm
      split at hm <;> omega
    cases e
    have z := ((((oZ.base (o := 3) (sd := sd) (w := if b = 0 then 4 else 3) (a := 0) (b := 0) (f := s 0 0 0) (l := prl t b (s 0 0 0)) v.2.2.2 i7 rfl).u1 (j := 10) (v := s 0 0 0) rfl (by omega)).u1 (j := 11) (v := prl t b (s 0 0 0)) rfl (by omega)).u0 (c := 0) (i := 0) (j := 0) (v := s 0 0 0 + prl t b (s 0 0 0)) (by omega))
    simp only [reduceIte, Nat.reduceEqDiff] at z
    refine ⟨3, -1, -1, _, _, _, 0, 0, _, _, _, z, ?_, l5_no (fun l => ?_) (by omega), h20, fun c => by omega, fun c => by omega, fun c => by omega, Or.inl ⟨by omega, by omega, rfl⟩⟩
    · refine Or.inr (Or.inr (Or.inr (Or.inr (Or.inl ⟨rfl, rfl, rfl, rfl, rfl, i1, hp1, hm8, hp2.2.1, ?_⟩))))
      rcases hb with c | c
      · left; exact ⟨by rw [if_neg (by omega)], c.2⟩
      · right; exact ⟨by rw [if_pos c.1], c.2⟩
    · rw [upE, if_neg (by omega), upE, if_neg (by omega), upE, if_neg (by omega), rtok_o _ _ (by omega) (by omega) (by omega)]; exact rA_t _ _ (by omega)
  · cases e
theorem nf_term {s' : pS} {p1 : Int} (k : tOk t n) (v : rV n sd b0 s) (h20 : ¬ s 0 0 1 - b0 = 20) (hp : 0 ≤ p1 ∧ p1 ≤ n) (e : rterm t sd (rA s sd 4) (s 0 0 1) p1 = (true, s')) : nF t n sd b0 s s' := by
  have kn := kidn sd
  have k3 := kid3 sd
  obtain ⟨i1, i2, i3, i4, i5, i6, i7, i8, i9⟩ := v.1
  clear i9
  have hp2 := prl_rg k 1 p1 hp.2
  unfold rterm at e
  split at e
  · rename_i hl
    have hp1 : 1 ≤ prl t 1 p1 := prl_pos _ _ (Or.inr ⟨by omega, hl⟩)
    split at e
    · rename_i hm
      cases e
      have z := ((((((oZ.base (o := 4) (sd := sd) (w := 5) (a := 0) (b := 0) (f := p1) (l := prl t 1 p1) v.2.2.2 i7 rfl).u1 (j := 10) (v := p1) rfl (by omega)).u1 (j := 11) (v := prl t 1 p1) rfl (by omega)).u0 (c := 0) (i := 0) (j := 0) (v := p1 + prl t 1 p1) (by omega)).u0 (c := 6) (i := rA s sd 4 0 0 6) (j := 0) (v := s 0 0 1) (by omega)).u0 (c := 0) (i := 0) (j := 6) (v := rA s sd 4 0 0 6 + 1) (by omega))
      simp only [reduceIte, Nat.reduceEqDiff] at z
      refine ⟨4, -1, -1, _, _, 5, 0, 0, _, _, _, z, ?_, l5_no (fun l => ?_) (by omega), h20, fun c => by omega, fun c => by omega, fun c => by omega, Or.inr ⟨by omega, rfl⟩⟩
      · exact Or.inr (Or.inr (Or.inr (Or.inr (Or.inr ⟨rfl, rfl, rfl, rfl, rfl, rfl, rfl, hp.1, hp1, hm, hp2.2.1⟩))))
      · rw [upE, if_neg (by omega), upE, if_neg (by omega), upE, if_neg (by omega), upE, if_neg (by omega), upE, if_neg (by omega), rtok_o _ _ (by omega) (by omega) (by omega)]; exact rA_t _ _ (by omega)
    · cases e
  · cases e
theorem rkd_rg (q : Int) : -1 ≤ rkd q ∧ rkd q ≤ 2 := by unfold rkd; repeat' split <;> omega
theorem nf_hole {s' : pS} {o l how : Int} (v : rV n sd b0 s) (h20 : ¬ s 0 0 1 - b0 = 20) (ho : (o = 1 ∧ how = 1) ∨ (o = 5 ∧ how = 2 ∧ ¬ s 0 0 2 = -1 ∧ s 1 (s 0 0 2) 0 = 4 ∧ (sd = 0 → s 0 0 4 < 2))) (e : rhole t sd (rA s sd o) (s 0 0 1) (s 0 0 0) l how = (true, s')) : nF t n sd b0 s s' := by
  have kn := kidn sd
  have k3 := kid3 sd
  obtain ⟨i1, i2, i3, i4, i5, i6, i7, i8, i9⟩ := v.1
  clear i9
  have hh : how = if o = 5 then 2 else 1 := by rcases ho with c | c; rw [if_neg (by omega)]; exact c.2; rw [if_pos c.1]; exact c.2.1
  have x5 : o = 5 → ¬ s 0 0 2 = -1 ∧ s 1 (s 0 0 2) 0 = 4 ∧ (sd = 0 → s 0 0 4 < 2) := fun c => by rcases ho with d | d; omega; exact d.2.2
  unfold rhole at e
  split at e
  · rename_i g
    rw [rA_t _ _ (by omega)] at g
    have g5 : s 5 l 0 = (if o = 5 then 2 else 1) ∨ (sd = 0 ∧ s 5 l 0 = 0) := by rw [← hh]; exact g.2
    have ho2 : o = 1 ∨ o = 5 := by omega
    split at e
    · cases e
      have z := oZ.bas2 (o := o) (sd := sd) (w := if how = 2 then 6 else 1) (a := l) (b := if how = 2 then 0 else -1) (f := 0) (l := 0) (l2 := l) (v := how) (p := s 0 0 0 + 2) v.2.2.2 i7 rfl
      refine ⟨o, l, -1, 0, 0, _, l, _, 0, 0, _, z, ?_, ⟨fun l' => ?_, fun _ => g5⟩, h20, x5, fun c => by omega, fun c => by omega, Or.inl ⟨by omega, by omega, rfl⟩⟩
      · rcases ho with c | c
        · refine Or.inr (Or.inr (Or.inl ⟨c.1, ?_, g.1.1, g.1.2, rfl, ?_, by omega, by omega, rfl, rfl, rfl, rfl⟩))
          · rw [if_neg (by omega)]
          · rw [if_neg (by omega)]
        · refine Or.inr (Or.inr (Or.inr (Or.inl ⟨c.1, ?_, g.1.1, g.1.2, rfl, rfl, rfl, rfl, rfl, rfl⟩)))
          rw [if_pos c.2.1]
      · rw [rtok_o _ _ (by omega) (by omega) (by omega), upE, if_neg (by omega), upE, if_neg (by omega), upE]
        by_cases c : l' = l
        · rw [if_pos ⟨rfl, c, rfl⟩, if_pos ⟨ho2, c⟩, hh]
        · rw [if_neg (by omega), if_neg (by omega)]; exact rA_t _ _ (by omega)
    · rename_i g2
      split at e
      · cases e
      · cases e
        have h1 : o = 1 ∧ how = 1 := by rcases ho with c | c; exact c; omega
        have z := ((oZ.bas2 (o := o) (sd := sd) (w := 1) (a := l) (b := rkd (t (s 0 0 0 + 3))) (f := 0) (l := 0) (l2 := l) (v := how) (p := s 0 0 0 + 2) v.2.2.2 i7 rfl).u1 (j := 2) (v := rkd (t (s 0 0 0 + 3))) rfl (by omega)).u0 (c := 0) (i := 0) (j := 0) (v := s 0 0 0 + 4) (by omega)
        simp only [reduceIte, Nat.reduceEqDiff] at z
        have rr := rkd_rg (t (s 0 0 0 + 3))
        refine ⟨o, l, _, 0, 0, _, l, _, 0, 0, _, z, ?_, ⟨fun l' => ?_, fun _ => g5⟩, h20, x5, fun c => by omega, fun c => by omega, Or.inl ⟨by omega, by omega, rfl⟩⟩
        · exact Or.inr (Or.inr (Or.inl ⟨h1.1, rfl, g.1.1, g.1.2, rfl, rfl, rr.1, rr.2, rfl, rfl, rfl, rfl⟩))
        · rw [upE, if_neg (by omega), upE, if_neg (by omega), rtok_o _ _ (by omega) (by omega) (by omega), upE, if_neg (by omega), upE, if_neg (by omega), upE]
          by_cases c : l' = l
          · rw [if_pos ⟨rfl, c, rfl⟩, if_pos ⟨ho2, c⟩, hh]
          · rw [if_neg (by omega), if_neg (by omega)]; exact rA_t _ _ (by omega)
  · cases e
theorem nf_step {s' : pS} (k : tOk t n) (v : rV n sd b0 s) (e : rstep t sd b0 s = (true, s')) : (¬ s 0 0 2 = -1 ∧ s 1 (s 0 0 2) 0 = 4 ∧ s 0 0 0 < n ∧ s' = rclose sd s) ∨ nF t n sd b0 s s' := by
  have kn := kidn sd
  have k3 := kid3 sd
  obtain ⟨i1, i2, i3, i4, i5, i6, i7, i8, i9⟩ := v.1
  clear i9
  unfold rstep at e
  split at e
  · rename_i c
    cases e
    exact Or.inl ⟨c.2.1, c.2.2, (k.lt (i := s 0 0 0) (by omega)).2, rfl⟩
  · right
    unfold ritem at e
    split at e
    · cases e
    · rename_i g
      have h20 : ¬ s 0 0 1 - b0 = 20 := fun c => g (Or.inr (Or.inl c))
      have hp := k.lt (i := s 0 0 0) (by rcases opc_m t (s 0 0 0) with c | c; exact absurd (Or.inl c) g; exact c)
      split at e
      · rename_i g3
        refine nf_lit k v h20 ?_ e
        rcases opc3 g3 with c | c
        · rw [if_pos c]; exact Or.inl ⟨rfl, c⟩
        · rw [if_neg (by omega)]; exact Or.inr ⟨rfl, c⟩
      · split at e
        · rename_i g2
          cases e
          have hd : s 0 0 5 = 0 := by
            apply Classical.byContradiction; intro c; exact g (Or.inr (Or.inr (Or.inr (Or.inl ⟨g2, Or.inr c⟩))))
          have hsd : sd = 0 := by
            apply Classical.byContradiction; intro c; exact g (Or.inr (Or.inr (Or.inr (Or.inl ⟨g2, Or.inl c⟩))))
          have z := (oZ.base (o := 2) (sd := sd) (w := 2) (a := 0) (b := 0) (f := 0) (l := 0) v.2.2.2 i7 rfl).u0 (c := 0) (i := 0) (j := 0) (v := s 0 0 0 + 1) (by omega)
          refine ⟨2, -1, -1, 0, 0, 2, 0, 0, 0, 0, _, z, Or.inr (Or.inl ⟨rfl, rfl, rfl, rfl, rfl, rfl, rfl, rfl⟩), l5_no (fun l => ?_) (by omega), h20, fun c => by omega, fun c => ⟨hsd, hd⟩, fun c => by omega, Or.inr ⟨by omega, rfl⟩⟩
          rw [upE, if_neg (by omega), rtok_o _ _ (by omega) (by omega) (by omega)]; exact rA_t _ _ (by omega)
        · split at e
          · refine nf_term k v h20 ?_ e
            have := pbl_rg k 301 (s 0 0 0 + 1) (by omega) (by omega)
            omega
          · split at e
            · rename_i g0
              cases e
              have hsd : sd = 0 := by
                apply Classical.byContradiction; intro c; exact g (Or.inr (Or.inr (Or.inl ⟨g0, c⟩)))
              have z := (oZ.base (o := 0) (sd := sd) (w := 0) (a := 0) (b := 0) (f := 0) (l := 0) v.2.2.2 i7 rfl).u0 (c := 0) (i := 0) (j := 0) (v := s 0 0 0 + 1) (by omega)
              refine ⟨0, -1, -1, 0, 0, 0, 0, 0, 0, 0, _, z, Or.inl ⟨rfl, rfl, rfl, rfl, rfl, rfl, rfl, rfl⟩, l5_no (fun l => ?_) (by omega), h20, fun c => by omega, fun c => by omega, fun c => hsd, Or.inl ⟨by omega, by omega, rfl⟩⟩
              rw [upE, if_neg (by omega), rtok_o _ _ (by omega) (by omega) (by omega)]; exact rA_t _ _ (by omega)
            · split at e
              · exact nf_hole v h20 (Or.inl ⟨rfl, rfl⟩) e
              · rename_i e3 e2 e4 e0 e1
                have e5 : opc (t (s 0 0 0)) = 5 := by
                  have q : ¬ opc (t (s 0 0 0)) = -1 := fun c => g (Or.inl c)
                  unfold opc at q e3 e2 e4 e0 e1 ⊢
                  repeat' (split at q <;> simp_all)
                refine nf_hole v h20 (Or.inr ⟨rfl, rfl, ?_, ?_, fun c => ?_⟩) e
                · intro c; exact g (Or.inr (Or.inr (Or.inr (Or.inr ⟨e5, Or.inl c⟩))))
                · apply Classical.byContradiction; intro c; exact g (Or.inr (Or.inr (Or.inr (Or.inr ⟨e5, Or.inr (Or.inl c)⟩))))
                · apply Classical.byContradiction; intro d; exact g (Or.inr (Or.inr (Or.inr (Or.inr ⟨e5, Or.inr (Or.inr ⟨c, by omega⟩)⟩))))
end LC
