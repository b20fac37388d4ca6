/-! The class: a new rule. -/
theorem gN {h : zH} {t n a : Nat} {k : Int} : gI (nw h t n) a k = if a = nx h then 0 else gI h a k := rfl
theorem gRN {h : zH} {t n a : Nat} {k : Int} : gR (nw h t n) a k = if a = nx h then 0 else gR h a k := rfl
theorem tgN {h : zH} {t n a : Nat} : tg (nw h t n) a = if a = nx h then t else tg h a := rfl
theorem lnN {h : zH} {t n a : Nat} : ln (nw h t n) a = if a = nx h then n else ln h a := rfl
theorem nxN {h : zH} {t n : Nat} : nx (nw h t n) = nx h + 1 := rfl
theorem scN {h : zH} {t n : Nat} : sc (nw h t n) = sc h + n := rfl
theorem gRR {h : zH} {a a1 : Nat} {k k1 : Int} {v : Nat} : gR (sR h a k v) a1 k1 = if a1 = a ∧ k1 = k then v else gR h a1 k1 := rfl
theorem tgT {h : zH} {a b t : Nat} : tg (sT h a t) b = if b = a then t else tg h b := rfl
theorem zty_iff {t x : Nat} {h : zH} (ht : Nat.beq t 147 = false) : zty t x h = (2 ≤ x ∧ x < nx h ∧ tg h x = t % 100 ∧ (t / 100 = 1 ∨ ln h x = t / 100 - 1)) := by
  unfold zty; rw [ht]; rfl
/-- what is older is untouched -/
def old (a : Nat) (h h1 : zH) : Prop := (∀ b, b < a → (∀ k, gI h1 b k = gI h b k ∧ gR h1 b k = gR h b k) ∧ tg h1 b = tg h b ∧ ln h1 b = ln h b) ∧ nx h ≤ nx h1
theorem old.rf {a : Nat} {h : zH} : old a h h := ⟨fun _ _ => ⟨fun _ => ⟨rfl, rfl⟩, rfl, rfl⟩, Nat.le_refl _⟩
theorem old.tr {a : Nat} {h h1 h2 : zH} (x : old a h h1) (y : old a h1 h2) : old a h h2 :=
  ⟨fun b hb => ⟨fun k => ⟨((y.1 b hb).1 k).1.trans ((x.1 b hb).1 k).1, ((y.1 b hb).1 k).2.trans ((x.1 b hb).1 k).2⟩, (y.1 b hb).2.1.trans (x.1 b hb).2.1, (y.1 b hb).2.2.trans (x.1 b hb).2.2⟩, Nat.le_trans x.2 y.2⟩
theorem old.ty {a t x : Nat} {h h1 : zH} (o : old a h h1) (hx : x < a) (ht : Nat.beq t 147 = false) (z : zty t x h) : zty t x h1 := by
  rw [zty_iff ht] at z ⊢
  have q := o.1 x hx
  rw [q.2.1, q.2.2]
  exact ⟨z.1, Nat.lt_of_lt_of_le z.2.1 o.2, z.2.2⟩
/-- a new text at a cell that is there, raw -/
theorem s43 {h : zH} {a : Nat} {K : zH → Prop} (ha : 2 ≤ a) (hn : nx h = a + 1) (ht : tg h a = 21) (hz : ∀ k, gI h a k = 0)
    (k : ∀ h1, old a h h1 → nx h1 = a + 2 → sc h1 = sc h + 300 → tg h1 a = 1 → tg h1 (a + 1) = 40 → ln h1 (a + 1) = 300 → (∀ b k, b = a ∨ b = a + 1 → gI h1 b k = 0) → K h1) : zC0 43 [vR a 0] h K := by
  refine cV (k43_0 a h _ ⟨by omega, by omega, fun h3 e3 => ⟨?_, ?_, ?_, fun h4 e4 => zq0 ?_⟩⟩)
  · rw [zty_iff rfl, e3, nxN, tgN, if_neg (by omega)]
    exact ⟨ha, by omega, ht, Or.inl rfl⟩
  · rw [gRR, if_pos ⟨rfl, rfl⟩, hn]
  · rw [zty_iff rfl]
    have : ∀ v, nx (sR h3 a 0 v) = nx h3 ∧ tg (sR h3 a 0 v) (a + 1) = tg h3 (a + 1) ∧ ln (sR h3 a 0 v) (a + 1) = ln h3 (a + 1) := fun v => ⟨rfl, rfl, rfl⟩
    rw [(this _).1, (this _).2.1, (this _).2.2, e3, nxN, tgN, lnN, if_pos hn.symm, if_pos hn.symm]
    exact ⟨by omega, by omega, rfl, Or.inr rfl⟩
  · have g1 : ∀ b k, gI h4 b k = if b = nx h then 0 else gI h b k := fun b k => by rw [e4, e3]; rfl
    have g2 : ∀ b k, ¬ b = a → gR h4 b k = if b = nx h then 0 else gR h b k := fun b k hb => by
      have : gR h4 b k = gR (sR h3 a 0 (nx h)) b k := by rw [e4]; rfl
      rw [this, gRR, if_neg (by omega), e3, gRN]
    have g3 : ∀ b, tg h4 b = if b = a then 1 else if b = nx h then 40 else tg h b := fun b => by rw [e4, tgT, e3]; rfl
    have g4 : ∀ b, ln h4 b = if b = nx h then 300 else ln h b := fun b => by rw [e4, e3]; rfl
    refine k h4 ⟨fun b hb => ⟨fun k => ⟨?_, ?_⟩, ?_, ?_⟩, ?_⟩ ?_ ?_ ?_ ?_ ?_ (fun b k hb => ?_)
    · rw [g1, if_neg (by omega)]
    · rw [g2 _ _ (by omega), if_neg (by omega)]
    · rw [g3, if_neg (by omega), if_neg (by omega)]
    · rw [g4, if_neg (by omega)]
    · rw [e4, e3]; show nx h ≤ nx h + 1; omega
    · rw [e4, e3]; show nx h + 1 = a + 2; omega
    · rw [e4, e3]; rfl
    · rw [g3, if_pos rfl]
    · rw [g3, if_neg (by omega), if_pos hn.symm]
    · rw [g4, if_pos hn.symm]
    · rw [g1]
      rcases hb with e | e
      · rw [e, if_neg (by omega)]; exact hz k
      · rw [e, if_pos hn.symm]
/-- m cells of a rule that is being made -/
def cF (h0 h : zH) (a m : Nat) : Prop := nx h = a + 1 + m ∧ tg h a = 23 ∧ (∀ b, b < a → (∀ k, gI h b k = gI h0 b k ∧ gR h b k = gR h0 b k) ∧ tg h b = tg h0 b ∧ ln h b = ln h0 b) ∧ (∀ b k, a ≤ b → b < nx h → gI h b k = 0) ∧
  (tg h (a + 1) = 1 ∧ ln h (a + 2) = 300 ∧ gR h a 0 = a + 1) ∧ (∀ b, a + 3 ≤ b → b < nx h → tg h b = 40 ∧ ln h b = 40) ∧ (∀ j : Nat, 1 ≤ j → j + 2 ≤ m → gR h a j = a + 2 + j) ∧ sc h = sc h0 + 302 + 40 * (m - 2)
theorem cF.ty {h0 h : zH} {a m : Nat} (x : cF h0 h a m) (ha : 2 ≤ a) : zty 123 a h := by
  rw [zty_iff rfl, x.1, x.2.1]
  exact ⟨ha, by omega, rfl, Or.inl rfl⟩
theorem cF.nw' {h0 h h1 : zH} {a m : Nat} (x : cF h0 h a m) (hm : 2 ≤ m) (e1 : h1 = nw h 40 ((40 : Int)).toNat) (ha : 2 ≤ a) : zty 123 a h1 := by
  rw [zty_iff rfl, e1, nxN, tgN, if_neg (by rw [x.1]; omega), x.1, x.2.1]
  exact ⟨ha, by omega, rfl, Or.inl rfl⟩
theorem cF.st {h0 h h1 : zH} {a m j : Nat} (x : cF h0 h a m) (hm : j + 1 = m) (hj : 1 ≤ j) (e1 : h1 = nw h 40 ((40 : Int)).toNat) : cF h0 (sR h1 a (j : Int) (nx h)) a (m + 1) := by
  obtain ⟨x1, x2, x3, x4, x5, x6, x7, x8⟩ := x
  have g1 : ∀ b k, gI (sR h1 a (j : Int) (nx h)) b k = if b = nx h then 0 else gI h b k := fun b k => by rw [gIR, e1, gN]
  have g2 : ∀ b k, gR (sR h1 a (j : Int) (nx h)) b k = if b = a ∧ k = j then nx h else if b = nx h then 0 else gR h b k := fun b k => by rw [gRR, e1, gRN]
  have g3 : ∀ b, tg (sR h1 a (j : Int) (nx h)) b = if b = nx h then 40 else tg h b := fun b => by rw [e1]; rfl
  have g4 : ∀ b, ln (sR h1 a (j : Int) (nx h)) b = if b = nx h then 40 else ln h b := fun b => by rw [e1]; rfl
  have g5 : nx (sR h1 a (j : Int) (nx h)) = nx h + 1 := by rw [e1]; rfl
  refine ⟨by rw [g5]; omega, by rw [g3, if_neg (by omega)]; exact x2, fun b hb => ⟨fun k => ⟨?_, ?_⟩, ?_, ?_⟩, fun b k h0 h1 => ?_, ⟨?_, ?_, ?_⟩, fun b h0 h1 => ?_, fun i h0 h1 => ?_, ?_⟩
  · rw [g1, if_neg (by omega)]; exact ((x3 b hb).1 k).1
  · rw [g2, if_neg (by omega), if_neg (by omega)]; exact ((x3 b hb).1 k).2
  · rw [g3, if_neg (by omega)]; exact (x3 b hb).2.1
  · rw [g4, if_neg (by omega)]; exact (x3 b hb).2.2
  · rw [g1]; split
    · rfl
    · rw [g5] at h1; exact x4 b k h0 (by omega)
  · rw [g3, if_neg (by omega)]; exact x5.1
  · rw [g4, if_neg (by omega)]; exact x5.2.1
  · rw [g2, if_neg (by omega), if_neg (by omega)]; exact x5.2.2
  · rw [g3, g4]
    by_cases c : b = nx h
    · rw [if_pos c, if_pos c]; exact ⟨rfl, rfl⟩
    · rw [if_neg c, if_neg c]; rw [g5] at h1; exact x6 b h0 (by omega)
  · rw [g2]
    by_cases c : i = j
    · rw [if_pos ⟨rfl, by rw [c]⟩, x1]; omega
    · rw [if_neg (by omega), if_neg (by omega)]; exact x7 i h0 (by omega)
  · rw [e1]
    show sc h + 40 = _
    rw [x8]; omega
theorem s66 {h : zH} {a : Nat} {K : zH → Prop} (ha : 2 ≤ a) (hn : nx h = a + 1) (ht : tg h a = 23) (hz : ∀ k, gI h a k = 0)
    (k : ∀ h1, old a h h1 → nx h1 = a + 15 → sc h1 = sc h + 782 → zty 103 a h1 → zty 101 (a + 1) h1 → ln h1 (a + 2) = 300 → (∀ b k, a ≤ b → b < a + 15 → gI h1 b k = 0) → K h1) : zC0 66 [vR a 0] h K := by
  refine cV (k66_0 a h _ ⟨by omega, fun h28 e28 => ⟨by omega, ?_⟩⟩)
  rw [hn]
  refine s43 (by omega) (by rw [e28, nxN, hn]) (by rw [e28, tgN, if_pos hn.symm]) (fun k => by rw [e28, gN, if_pos hn.symm]) (fun h29 o29 n29 s29 t29 t29a l29 z29 => ?_)
  have a28 : ∀ b, b < a + 1 → (∀ k, gI h28 b k = gI h b k ∧ gR h28 b k = gR h b k) ∧ tg h28 b = tg h b ∧ ln h28 b = ln h b := fun b hb => ⟨fun k => ⟨by rw [e28, gN, if_neg (by omega)], by rw [e28, gRN, if_neg (by omega)]⟩, by rw [e28, tgN, if_neg (by omega)], by rw [e28, lnN, if_neg (by omega)]⟩
  have ta : tg h29 a = 23 := by rw [(o29.1 a (by omega)).2.1, (a28 a (by omega)).2.1]; exact ht
  have ty29 : zty 123 a h29 := by
    rw [zty_iff rfl, n29, ta]
    exact ⟨ha, by omega, rfl, Or.inl rfl⟩
  refine ⟨ty29, fun h30 e30 => ?_⟩
  have c30 : cF h h30 a 2 := by
    have g : ∀ b, tg h30 b = tg h29 b ∧ ln h30 b = ln h29 b := fun b => by rw [e30]; exact ⟨rfl, rfl⟩
    have gi : ∀ b k, gI h30 b k = gI h29 b k := fun b k => by rw [e30]; rfl
    refine ⟨by rw [e30]; show nx h29 = _; omega, by rw [(g a).1]; exact ta, fun b hb => ⟨fun k => ⟨?_, ?_⟩, ?_, ?_⟩, fun b k h0 h1 => ?_, ⟨?_, ?_, ?_⟩, fun b h0 h1 => ?_, fun j h0 h1 => by omega, ?_⟩
    · rw [gi, ((o29.1 b (by omega)).1 k).1, ((a28 b (by omega)).1 k).1]
    · rw [e30, gRR, if_neg (by omega), ((o29.1 b (by omega)).1 k).2, ((a28 b (by omega)).1 k).2]
    · rw [(g b).1, (o29.1 b (by omega)).2.1, (a28 b (by omega)).2.1]
    · rw [(g b).2, (o29.1 b (by omega)).2.2, (a28 b (by omega)).2.2]
    · rw [gi]
      have h1 : b < a + 1 + 2 := by rw [show nx h30 = nx h29 by rw [e30]; rfl, n29] at h1; omega
      by_cases c : b = a
      · rw [c, ((o29.1 a (by omega)).1 k).1, ((a28 a (by omega)).1 k).1]; exact hz k
      · exact z29 b k (by omega)
    · rw [(g _).1]; exact t29
    · rw [(g _).2]; exact l29
    · rw [e30, gRR, if_pos ⟨rfl, rfl⟩]
    · rw [show nx h30 = nx h29 by rw [e30]; rfl, n29] at h1; omega
    · rw [e30]; show sc h29 = _; rw [s29, e28, scN]
  refine ⟨by omega, fun h31 e31 => ⟨c30.nw' (by omega) e31 ha, fun h32 e32 => ?_⟩⟩
  have c32 : cF h h32 a 3 := by rw [e32]; exact c30.st (j := 1) (by omega) (by omega) e31
  refine ⟨by omega, fun h33 e33 => ⟨c32.nw' (by omega) e33 ha, fun h34 e34 => ?_⟩⟩
  have c34 : cF h h34 a 4 := by rw [e34]; exact c32.st (j := 2) (by omega) (by omega) e33
  refine ⟨by omega, fun h35 e35 => ⟨c34.nw' (by omega) e35 ha, fun h36 e36 => ?_⟩⟩
  have c36 : cF h h36 a 5 := by rw [e36]; exact c34.st (j := 3) (by omega) (by omega) e35
  refine ⟨by omega, fun h37 e37 => ⟨c36.nw' (by omega) e37 ha, fun h38 e38 => ?_⟩⟩
  have c38 : cF h h38 a 6 := by rw [e38]; exact c36.st (j := 4) (by omega) (by omega) e37
  refine ⟨by omega, fun h39 e39 => ⟨c38.nw' (by omega) e39 ha, fun h40 e40 => ?_⟩⟩
  have c40 : cF h h40 a 7 := by rw [e40]; exact c38.st (j := 5) (by omega) (by omega) e39
  refine ⟨by omega, fun h41 e41 => ⟨c40.nw' (by omega) e41 ha, fun h42 e42 => ?_⟩⟩
  have c42 : cF h h42 a 8 := by rw [e42]; exact c40.st (j := 6) (by omega) (by omega) e41
  refine ⟨by omega, fun h43 e43 => ⟨c42.nw' (by omega) e43 ha, fun h44 e44 => ?_⟩⟩
  have c44 : cF h h44 a 9 := by rw [e44]; exact c42.st (j := 7) (by omega) (by omega) e43
  refine ⟨by omega, fun h45 e45 => ⟨c44.nw' (by omega) e45 ha, fun h46 e46 => ?_⟩⟩
  have c46 : cF h h46 a 10 := by rw [e46]; exact c44.st (j := 8) (by omega) (by omega) e45
  refine ⟨by omega, fun h47 e47 => ⟨c46.nw' (by omega) e47 ha, fun h48 e48 => ?_⟩⟩
  have c48 : cF h h48 a 11 := by rw [e48]; exact c46.st (j := 9) (by omega) (by omega) e47
  refine ⟨by omega, fun h49 e49 => ⟨c48.nw' (by omega) e49 ha, fun h50 e50 => ?_⟩⟩
  have c50 : cF h h50 a 12 := by rw [e50]; exact c48.st (j := 10) (by omega) (by omega) e49
  refine ⟨by omega, fun h51 e51 => ⟨c50.nw' (by omega) e51 ha, fun h52 e52 => ?_⟩⟩
  have c52 : cF h h52 a 13 := by rw [e52]; exact c50.st (j := 11) (by omega) (by omega) e51
  refine ⟨by omega, fun h53 e53 => ⟨c52.nw' (by omega) e53 ha, ?_⟩⟩
  have c54 : cF h (sR h53 a 12 (nx h52)) a 14 := c52.st (j := 12) (by omega) (by omega) e53
  obtain ⟨x1, x2, x3, x4, x5, x6, x7, x8⟩ := c54
  have arr : ∀ b, a + 3 ≤ b → b < a + 15 → zty 4140 b (sR h53 a 12 (nx h52)) := fun b h0 h1 => by
    rw [zty_iff rfl, x1, (x6 b h0 (by omega)).1, (x6 b h0 (by omega)).2]
    exact ⟨by omega, by omega, rfl, Or.inr rfl⟩
  have txt : zty 101 (a + 1) (sR h53 a 12 (nx h52)) := by
    rw [zty_iff rfl, x1, x5.1]
    exact ⟨by omega, by omega, rfl, Or.inl rfl⟩
  refine ⟨x5.2.2, txt, x7 1 (by omega) (by omega), arr _ (by omega) (by omega), x7 2 (by omega) (by omega), arr _ (by omega) (by omega), x7 3 (by omega) (by omega), arr _ (by omega) (by omega), x7 4 (by omega) (by omega), arr _ (by omega) (by omega), x7 5 (by omega) (by omega), arr _ (by omega) (by omega), x7 6 (by omega) (by omega), arr _ (by omega) (by omega), x7 7 (by omega) (by omega), arr _ (by omega) (by omega), x7 8 (by omega) (by omega), arr _ (by omega) (by omega), x7 9 (by omega) (by omega), arr _ (by omega) (by omega), x7 10 (by omega) (by omega), arr _ (by omega) (by omega), x7 11 (by omega) (by omega), arr _ (by omega) (by omega), x7 12 (by omega) (by omega), arr _ (by omega) (by omega), fun h54 e54 => zq0 ?_⟩
  have g : ∀ b k, gI h54 b k = gI (sR h53 a 12 (nx h52)) b k ∧ gR h54 b k = gR (sR h53 a 12 (nx h52)) b k := fun b k => by rw [e54]; exact ⟨rfl, rfl⟩
  have gl : ∀ b, ln h54 b = ln (sR h53 a 12 (nx h52)) b := fun b => by rw [e54]; rfl
  have gt : ∀ b, ¬ b = a → tg h54 b = tg (sR h53 a 12 (nx h52)) b := fun b hb => by rw [e54, tgT, if_neg hb]
  have gx : nx h54 = nx (sR h53 a 12 (nx h52)) := by rw [e54]; rfl
  refine k h54 ⟨fun b hb => ⟨fun k => ?_, ?_, ?_⟩, by rw [gx, x1]; omega⟩ (by rw [gx, x1]) (by rw [e54]; show sc (sR h53 a 12 (nx h52)) = _; rw [x8]) ?_ ?_ ?_ (fun b k h0 h1 => ?_)
  · rw [(g b k).1, (g b k).2]; exact (x3 b hb).1 k
  · rw [gt b (by omega)]; exact (x3 b hb).2.1
  · rw [gl]; exact (x3 b hb).2.2
  · rw [zty_iff rfl, gx, x1, e54, tgT, if_pos rfl]
    exact ⟨ha, by omega, rfl, Or.inl rfl⟩
  · rw [zty_iff rfl] at txt ⊢
    rw [gx, gl, gt _ (by omega)]; exact txt
  · rw [gl]; exact x5.2.1
  · rw [(g b k).1]; exact x4 b k h0 (by omega)
