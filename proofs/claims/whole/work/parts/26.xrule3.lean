/-! The class: items and sides of a rule. -/
def rH (s : pS) : Prop := ∀ l, s 5 l 0 = 0 ∨ s 5 l 0 = 1 ∨ s 5 l 0 = 2
def xO (h : zH) (r : Nat) (sd b0 : Int) (t : Int → Int) (n : Int) (z : Bool × pS) (v : Int) (h1 : zH) : Prop := frP (rdA r) h h1 ∧ v = b2i (z.1 = true) ∧ gI h1 54 0 = z.2 0 0 0 ∧ (z.1 = true → xR h1 r sd b0 t n z.2)
section XI
variable {h : zH} {r : Nat} {sd b0 : Int} {t : Int → Int} {n : Int} {s : pS}
theorem xO.ye {h1 : zH} {s' : pS} (f : frP (rdA r) h h1) (x : xR h1 r sd b0 t n s') : xO h r sd b0 t n (true, s') 1 h1 := ⟨f, by rw [b2i_pos rfl], x.2.2.1.1, fun _ => x⟩
theorem xO.no {h1 : zH} {s' : pS} (f : frP (rdA r) h h1) (e : gI h1 54 0 = s' 0 0 0) : xO h r sd b0 t n (false, s') 0 h1 := ⟨f, by rw [b2i_neg (by simp)], e, by simp⟩
theorem xO.tr {h1 h2 : zH} {z : Bool × pS} {v : Int} (f : frP (rdA r) h h1) (x : xO h1 r sd b0 t n z v h2) : xO h r sd b0 t n z v h2 := ⟨f.tr x.1, x.2⟩
theorem s86 {it l how : Int} (o : tOk t n) (x : xR h r sd b0 t n s) (hp : 0 ≤ s 0 0 0 ∧ s 0 0 0 ≤ n) (hi : 0 ≤ it ∧ it < 40) (hsd : sd = 0 ∨ sd = 1) (hH : rH s) (hl : l = t (s 0 0 0) - 65) (hw : (s 1 it 0 = 5 ∧ how = 2) ∨ (¬ s 1 it 0 = 5 ∧ how = 1)) {K : Int → zH → Prop}
    (k0 : ¬ ((0 ≤ l ∧ l < 26) ∧ (s 5 l 0 = how ∨ (sd = 0 ∧ s 5 l 0 = 0))) → K 0 h)
    (k1 : (0 ≤ l ∧ l < 26) ∧ (s 5 l 0 = how ∨ (sd = 0 ∧ s 5 l 0 = 0)) → (how = 2 ∨ ¬ sd = 0 ∨ ¬ t (s 0 0 0 + 1) = 58) → ∀ h1, frP (rdA r) h h1 → xR h1 r sd b0 t n (up (up (up s 5 l 0 how) 0 0 0 (s 0 0 0 + 1)) 1 it 1 l) → K 1 h1)
    (k2 : (0 ≤ l ∧ l < 26) ∧ (s 5 l 0 = how ∨ (sd = 0 ∧ s 5 l 0 = 0)) → ¬ (how = 2 ∨ ¬ sd = 0 ∨ ¬ t (s 0 0 0 + 1) = 58) → ¬ rkd (t (s 0 0 0 + 2)) = -1 → ∀ h1, frP (rdA r) h h1 → xR h1 r sd b0 t n (up (up (up (up (up s 5 l 0 how) 0 0 0 (s 0 0 0 + 1)) 1 it 1 l) 1 it 2 (rkd (t (s 0 0 0 + 2)))) 0 0 0 (s 0 0 0 + 3)) → K 1 h1)
    (k3 : (0 ≤ l ∧ l < 26) ∧ (s 5 l 0 = how ∨ (sd = 0 ∧ s 5 l 0 = 0)) → ¬ (how = 2 ∨ ¬ sd = 0 ∨ ¬ t (s 0 0 0 + 1) = 58) → rkd (t (s 0 0 0 + 2)) = -1 → ∀ h1, frP (rdA r) h h1 → gI h1 54 0 = s 0 0 0 + 2 → K 0 h1) : zC1 86 [vR 54 104, vI it] h K := by
  have o2 := o.2.1
  have x0 := x
  obtain ⟨x1, x2, x3, x4, x5, x6⟩ := x
  have h170 := x1.2.2.2.2
  have g0 : gI h (r + 3) it = s 1 it 0 := x4 it 0 hi.1 hi.2 (by omega)
  have trg := o.rg (s 0 0 0)
  have hb01 : how = 1 ∨ how = 2 := hw.elim (fun q => Or.inr q.2) (fun q => Or.inl q.2)
  have key : ∀ b : Int, b = how - 1 → zK 86 33 [vR 54 104, vI it, vI l, vU] [vI b] h (fun r h1 => ∃ v : Int, r = some (Sum.inl v) ∧ K v h1) := by
    intro b eb
    have eb1 : b + 1 = how := by clear hw hsd hb01; omega
    have eb2 : b = 0 ∨ b = 1 := by clear hw hsd; omega
    clear hw
    refine k86_33 it l _ b h _ ⟨fun c => ⟨Or.inl rfl, zq1 (k0 (fun q => absurd q.1.1 (Int.not_le.mpr c)))⟩, fun c => ⟨fun d => ⟨Or.inl rfl, zq1 (k0 (fun q => absurd q.1.2 (Int.not_lt.mpr d)))⟩, fun d => ?_⟩⟩
    have hl26 : 0 ≤ l ∧ l < 26 := ⟨Int.not_lt.mp c, Int.not_le.mp d⟩
    refine s87 x0 hl26 eb2 hsd (hH l) (fun e => ⟨fun f => absurd rfl f, fun _ => ⟨Or.inl rfl, zq1 (k0 (fun f => e (by rw [eb1]; exact f.2)))⟩⟩) (fun e h8 f8 y8 => ⟨fun _ => ?_, fun f => absurd (show ¬ (1 : Int) = 0 by decide) f⟩)
    rw [eb1] at e y8
    have ok : (0 ≤ l ∧ l < 26) ∧ (s 5 l 0 = how ∨ (sd = 0 ∧ s 5 l 0 = 0)) := ⟨hl26, e⟩
    have lt : 0 ≤ s 0 0 0 ∧ s 0 0 0 < n := o.lt (by clear hsd hb01 eb2 e ok; omega)
    have z8 : gI h8 54 0 = s 0 0 0 := by rw [y8.2.2.1.1]; simp [upE]
    rw [z8]
    refine ⟨by clear hsd hb01 eb2 e ok; unfold inR; omega, fun h9 e9 => ?_⟩
    have w9 := xR.w0 (v := s 0 0 0 + 1) y8
    rw [← e9] at w9
    have q9 := w9.1.1
    rw [q9.1]
    refine ⟨q9.2.2.1, hi.1, hi.2, fun h10 e10 => ?_⟩
    have w10 := xR.wi 1 (i := it) (v := l) w9.1 (by decide) (fun q => absurd q (by decide))
    have e11 : sI h9 (r + 3 + 1) it l = h10 := by rw [e10]
    rw [e11] at w10
    have F := (f8.tr w9.2).tr w10.2
    have q10 := w10.1.1
    have z5 := w10.1.2.2.1.2.2.2.2.1
    have z0 : gI h10 54 0 = s 0 0 0 + 1 := by rw [w10.1.2.2.1.1]; simp [upE]
    have y10 := w10.1
    clear w9 w10 y8 e10 e9 x6 x5 x4 x3 e11
    refine ⟨fun f => ⟨Or.inr rfl, zq1 (k1 ok (Or.inl (by rw [← eb1, eb2.resolve_left f]; rfl)) h10 F y10)⟩, fun f => ?_⟩
    rw [z5]
    refine ⟨fun g => ⟨Or.inr rfl, zq1 (k1 ok (Or.inr (Or.inl g)) h10 F y10)⟩, fun g => ?_⟩
    rw [q10.2.1, z0]
    refine ⟨q10.2.2.2.1, s44 y10.2.1 o ⟨fun c2 => ⟨Or.inr rfl, zq1 (k1 ok (Or.inr (Or.inr c2)) h10 F y10)⟩, fun c2 => ?_⟩⟩
    have lt1 : 0 ≤ s 0 0 0 + 1 ∧ s 0 0 0 + 1 < n := o.lt (by clear hsd hb01 eb2 e ok; omega)
    have ep : (up (up (up s 5 l 0 how) 0 0 0 (s 0 0 0 + 1)) 1 it 1 l) 0 0 0 = s 0 0 0 + 1 := by simp [upE]
    have nk : ¬ (how = 2 ∨ ¬ sd = 0 ∨ ¬ t (s 0 0 0 + 1) = 58) := by
      rintro (q | q | q)
      · exact f (fun q0 => by rw [q, q0] at eb1; exact absurd eb1 (by decide))
      · exact g q
      · exact c2 q
    refine s88 o y10 (by rw [ep]; clear hsd hb01 eb2 e ok; omega) hi (fun c3 h12 f12 g12 => ?_) (fun c3 h12 f12 y12 => ?_)
    · rw [ep] at c3 g12
      refine ⟨fun _ => ⟨Or.inl rfl, zq1 ?_⟩, fun c4 => absurd rfl c4⟩
      rw [show s 0 0 0 + 1 + 1 = s 0 0 0 + 2 from Int.add_assoc _ _ _] at c3 g12
      exact k3 ok nk c3 h12 (F.tr f12) g12
    · rw [ep] at c3 y12
      refine ⟨fun c4 => absurd c4 (by decide), fun _ => ⟨Or.inr rfl, zq1 ?_⟩⟩
      rw [show s 0 0 0 + 1 + 1 = s 0 0 0 + 2 from Int.add_assoc _ _ _] at c3 y12
      rw [show s 0 0 0 + 1 + 2 = s 0 0 0 + 3 from Int.add_assoc _ _ _] at y12
      exact k2 ok nk c3 h12 (F.tr f12) y12
  refine cI (k86_0 it h _ ?_)
  rw [x1.2.1, x3.1]
  refine ⟨x1.2.2.2.1, s44 x2 o ?_⟩
  rw [x1.1, g0, ← hl]
  refine ⟨by unfold inR; omega, x1.2.2.1, hi.1, hi.2, fun c => key 0 (by omega), fun c => key 1 (by omega)⟩
theorem xR.A {q : Int} (x : xR h r sd b0 t n (radd s sd q)) : xR h r sd b0 t n (rA s sd q) := by
  have kn := kidn sd
  unfold rA
  refine x.cg ⟨?_, ?_, ?_, ?_, ?_⟩ (fun i j _ => ?_) (fun i => ?_) (fun i => ?_)
  all_goals exact rcnt_o _ _ (by omega)
theorem xR.tk {it w a b f l : Int} (x : xR h r sd b0 t n s) : xR h r sd b0 t n (rtok s sd it w a b f l) := by
  have kn := kidn sd
  have k3 := kid3 sd
  refine x.cg ⟨?_, ?_, ?_, ?_, ?_⟩ (fun i j _ => ?_) (fun i => ?_) (fun i => ?_)
  all_goals exact rtok_o _ _ (by omega) (by omega) (by omega)
/-- what rfin reads -/
theorem rfin_cg {s1 s2 : pS} {i : Int} (e0 : s1 0 0 1 = s2 0 0 1) (e1 : ∀ i j, j = 0 ∨ j = 3 → s1 1 i j = s2 1 i j) (c : Nat) (k : Int) (j : Nat) (e : s1 c k j = s2 c k j) : rfin s1 i c k j = rfin s2 i c k j := by
  unfold rfin
  rw [e1 i 3 (by omega), e1 (s2 1 i 3) 0 (by omega), e1 (s2 1 i 3) 3 (by omega), e0]
  split
  · simp only [upE, e]
  · split
    · simp only [upE, e]
    · simp only [upE, e]
theorem xR.fcg {s1 s2 : pS} {i : Int} (x : xR h r sd b0 t n (rfin s1 i)) (e0 : ∀ j, j = 0 ∨ j = 1 ∨ j = 2 ∨ j = 4 ∨ j = 5 → s2 0 0 j = s1 0 0 j) (e1 : ∀ i j, s2 1 i j = s1 1 i j) (e2 : ∀ i, s2 2 i 0 = s1 2 i 0) (e5 : ∀ i, s2 5 i 0 = s1 5 i 0) : xR h r sd b0 t n (rfin s2 i) := by
  have g := fun (c : Nat) (k : Int) (j : Nat) (e : s2 c k j = s1 c k j) => rfin_cg (i := i) (e0 1 (by omega)) (fun i j _ => e1 i j) c k j e
  exact x.cg ⟨g 0 0 0 (e0 0 (by omega)), g 0 0 1 (e0 1 (by omega)), g 0 0 2 (e0 2 (by omega)), g 0 0 4 (e0 4 (by omega)), g 0 0 5 (e0 5 (by omega))⟩ (fun i j _ => g 1 i j (e1 i j)) (fun i => g 2 i 0 (e2 i)) (fun i => g 5 i 0 (e5 i))
theorem s80h {A : pS} {it p how : Int} {u1 u2 : zV} (o : tOk t n) (x : xR h r sd b0 t n (up A 0 0 0 (p + 1))) (hp : 0 ≤ p ∧ p < n) (hit : 0 ≤ it ∧ it < 40) (hsd : sd = 0 ∨ sd = 1) (hH : rH A) (hw : (A 1 it 0 = 5 ∧ how = 2) ∨ (¬ A 1 it 0 = 5 ∧ how = 1))
    (par : A 1 it 3 = -1 ∨ (0 ≤ A 1 it 3 ∧ A 1 it 3 < it)) (hi1 : 0 ≤ A 0 0 1 ∧ A 0 0 1 ≤ 40) {Q : Option zV → zH → Prop}
    (k : ∀ v h1, xO h r sd b0 t n (rhole t sd A it p (t (p + 1) - 65) how) v h1 → Q (some (vI v)) h1) : zK 80 120 [vR 54 104, u1, u2, vI it] [] h Q := by
  have kn := kidn sd
  have k3 := kid3 sd
  have p21 : up A 0 0 0 (p + 1) 0 0 0 = p + 1 := by simp [upE]
  have v1 : ∀ i j, up A 0 0 0 (p + 1) 1 i j = A 1 i j := fun i j => by simp [upE]
  have v5 : ∀ i j, up A 0 0 0 (p + 1) 5 i j = A 5 i j := fun i j => by simp [upE]
  have v0 : ∀ j, ¬ j = 0 → up A 0 0 0 (p + 1) 0 0 j = A 0 0 j := fun j hj => by simp [upE, hj]
  have h5 : rH (up A 0 0 0 (p + 1)) := fun l => by rw [v5]; exact hH l
  unfold rhole at k
  refine k80_120 u1 u2 it h _ ?_
  refine s86 (l := t (p + 1) - 65) (how := how) o x (by rw [p21]; omega) hit hsd h5 (by rw [p21]) (by rw [v1]; exact hw) (fun g => ?_) (fun g g1 h33 f33 y33 => ?_) (fun g g1 g2 h33 f33 y33 => ?_) (fun g g1 g2 h33 f33 e33 => ?_)
  · rw [v5] at g
    rw [if_neg g] at k
    exact ⟨fun _ => ⟨Or.inl rfl, k 0 h (xO.no frP.rf x.2.2.1.1)⟩, fun g1 => absurd rfl g1⟩
  · rw [v5] at g
    rw [p21, show p + 1 + 1 = p + 2 by omega] at g1 y33
    rw [if_pos g, if_pos g1] at k
    refine ⟨fun g2 => absurd g2 (by omega), fun _ => ?_⟩
    refine s89 y33 hit ?_ ?_ (fun h34 f34 y34 => ⟨fun g3 => absurd g3 (by omega), fun _ => ⟨Or.inr rfl, k 1 h34 (xO.ye (f33.tr f34) (y34.fcg (fun j hj => ?_) (fun i j => ?_) (fun i => ?_) (fun i => ?_)))⟩⟩)
    · simp [upE]; exact par
    · simp [upE]; exact hi1
    · rw [rtok_o _ _ (by omega) (by omega) (by omega)]; simp only [upE]; rcases hj with hj | hj | hj | hj | hj <;> simp [hj]
    · rw [rtok_o _ _ (by omega) (by omega) (by omega)]; simp [upE]
    · rw [rtok_o _ _ (by omega) (by omega) (by omega)]; simp [upE]
    · rw [rtok_o _ _ (by omega) (by omega) (by omega)]; simp [upE]
  · rw [v5] at g
    rw [p21] at g1 g2 y33
    rw [show p + 1 + 1 = p + 2 by omega] at g1 y33
    rw [show p + 1 + 2 = p + 3 by omega] at g2 y33
    rw [show p + 1 + 3 = p + 4 by omega] at y33
    rw [if_pos g, if_neg g1, if_neg g2] at k
    refine ⟨fun g2 => absurd g2 (by omega), fun _ => ?_⟩
    refine s89 y33 hit ?_ ?_ (fun h34 f34 y34 => ⟨fun g3 => absurd g3 (by omega), fun _ => ⟨Or.inr rfl, k 1 h34 (xO.ye (f33.tr f34) (y34.fcg (fun j hj => ?_) (fun i j => ?_) (fun i => ?_) (fun i => ?_)))⟩⟩)
    · simp [upE]; exact par
    · simp [upE]; exact hi1
    · simp only [upE]; rw [rtok_o _ _ (by omega) (by omega) (by omega)]; simp only [upE]; rcases hj with hj | hj | hj | hj | hj <;> simp [hj]
    · simp only [upE]; rw [rtok_o _ _ (by omega) (by omega) (by omega)]; simp [upE]
    · simp only [upE]; rw [rtok_o _ _ (by omega) (by omega) (by omega)]; simp [upE]
    · simp only [upE]; rw [rtok_o _ _ (by omega) (by omega) (by omega)]; simp [upE]
  · rw [v5] at g
    rw [p21] at g1 g2 e33
    rw [show p + 1 + 1 = p + 2 by omega] at g1
    rw [show p + 1 + 2 = p + 3 by omega] at g2 e33
    rw [if_pos g, if_neg g1, if_pos g2] at k
    exact ⟨fun _ => ⟨Or.inl rfl, k 0 h33 (xO.no f33 (by rw [e33]; simp [upE]))⟩, fun g1 => absurd rfl g1⟩
end XI
