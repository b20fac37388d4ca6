/-! The model: two tests ask the same, at last. -/
section MM2
variable {h : zH} {w w2 : Int → Int} {m m2 x x2 : Int} {s s2 : pS}
theorem s215 {a b : Int} {L M : List Int} (ha : 0 ≤ a ∧ a < 320) (hb : 0 ≤ b ∧ b < 320) (l1 : lPt h 155 156 a L) (l2 : lPt h 155 156 b M) (hl : L.length ≤ 20) {K : Int → zH → Prop} (k : K (b2i (L = M)) h) : zC1 215 [vR 127 111, vI a, vI b] h K := by
  have stop : ∀ z : Int, ¬ L = M → zK 215 24 [vR 127 111, vI a, vI b, vI 0, vI z] [] h (fun r h1 => ∃ v : Int, r = some (Sum.inl v) ∧ K v h1) := by
    intro z c
    rw [b2i_neg c] at k
    exact k215_24 a b 0 z h _ ⟨fun _ => ⟨Or.inl rfl, zq1 k⟩, fun d => absurd rfl d⟩
  have key : ∀ (f z : Nat), z + f = L.length → L.length = M.length → (∀ q : Nat, q < z → L.getD q 0 = M.getD q 0) → zK 215 24 [vR 127 111, vI a, vI b, vI 1, vI (z : Nat)] [] h (fun r h1 => ∃ v : Int, r = some (Sum.inl v) ∧ K v h1) := by
    intro f
    induction f with
    | zero =>
      intro z hz e v
      rw [b2i_pos (lst_eq e (fun q hq => v q (by omega)))] at k
      refine k215_24 a b 1 z h _ ⟨fun d => absurd d (by omega), fun _ => ?_⟩
      rw [l1.1]
      exact ⟨ha.1, ha.2, fun _ => ⟨Or.inr rfl, zq1 k⟩, fun d => absurd (by omega) d⟩
    | succ f ih =>
      intro z hz e v
      refine k215_24 a b 1 z h _ ⟨fun d => absurd d (by omega), fun _ => ?_⟩
      rw [l1.1, l1.2 z (by omega), l2.2 z (by omega)]
      refine ⟨ha.1, ha.2, fun d => absurd d (by omega), fun _ => ⟨by unfold inR; omega, by unfold inR; omega, by omega, by omega, by unfold inR; omega, by unfold inR; omega, by omega, by omega, fun d => ⟨by unfold inR; omega, stop _ (fun q => d (by rw [q]))⟩, fun d => ⟨by unfold inR; omega, ih (z + 1) (by omega) e (fun q hq => ?_)⟩⟩⟩
      by_cases y : q = z
      · rw [y]; exact Classical.not_not.1 d
      · exact v q (by omega)
  refine cI (k215_0 a b h _ ?_)
  rw [l1.1, l2.1]
  exact ⟨ha.1, ha.2, hb.1, hb.2, fun c => stop 0 (fun q => c (by rw [q])), fun c => key L.length 0 (by omega) (by omega) (fun q hq => by omega)⟩
theorem s214 {k1 k2 : Nat} {y y2 : tst} (p : mPt h x w m s) (hm : m ≤ 300) (en : rEn w m 0 0 s) (p8 : rP8 s) (p2 : mPt h x2 w2 m2 s2) (hm2 : m2 ≤ 300) (en2 : rEn w2 m2 0 0 s2) (p82 : rP8 s2) (g : tRg s y) (g2 : tRg s2 y2) (hk1 : k1 < 40) (hk2 : k2 < 40) (e1 : mEn h x s k1 y) (o1 : plO s y) (e2 : mEn h x2 s2 k2 y2) (c : y.1 = y2.1) (d : pth s y.2.1 = pth s2 y2.2.1) {K : Int → zH → Prop} (k : K (b2i (tsm w w2 s s2 y y2)) h) : zC1 214 [vR 127 111, vI (40 * x + k1), vI (40 * x2 + k2)] h K := by
  have hx := p.1
  have hx2 := p2.1
  have t4 := en.t40
  have t42 := en2.t40
  have d1 : iDiv (40 * x + k1) 40 = x := div40 hx (by omega)
  have d2 : iDiv (40 * x2 + k2) 40 = x2 := div40 hx2 (by omega)
  obtain ⟨ga, gb, gc, gd, ge, gf⟩ := g
  obtain ⟨ga2, gb2, gc2, gd2, ge2, gf2⟩ := g2
  have tk := en.tk3 ga.1 ga.2
  have tk2 := en2.tk3 ga2.1 ga2.2
  have ct := en.ct ga.1 ga.2
  have ct2 := en2.ct ga2.1 ga2.2
  have hP : 0 ≤ s 4 y.2.1 0 ∧ s 4 y.2.1 0 < s 0 0 3 := ⟨tk.1, by omega⟩
  have hQ : 0 ≤ s2 4 y2.2.1 0 ∧ s2 4 y2.2.1 0 < s2 0 0 3 := ⟨tk2.1, by omega⟩
  have wdi : y.1 = 0 ∨ y.1 = 1 → (mWd w w2 s s2 (s 4 y.2.1 0) (s2 4 y2.2.1 0) ↔ sWd w w2 s s2 y.2.1 y2.2.1) := by
    have z : y.1 = 0 ∨ y.1 = 1 → s 3 (s 4 y.2.1 0) 3 = s 1 y.2.1 10 ∧ s 3 (s 4 y.2.1 0) 4 = s 1 y.2.1 11 ∧ s2 3 (s2 4 y2.2.1 0) 3 = s2 1 y2.2.1 10 ∧ s2 3 (s2 4 y2.2.1 0) 4 = s2 1 y2.2.1 11 := by
      intro q
      have o : s 1 y.2.1 0 = 3 ∨ s 1 y.2.1 0 = 4 := by omega
      have o2 : s2 1 y2.2.1 0 = 3 ∨ s2 1 y2.2.1 0 = 4 := by omega
      have a1 : s 3 (s 4 y.2.1 0) 3 = s 1 y.2.1 10 ∧ s 3 (s 4 y.2.1 0) 4 = s 1 y.2.1 11 := by clear ct2; omega
      have a2 : s2 3 (s2 4 y2.2.1 0) 3 = s2 1 y2.2.1 10 ∧ s2 3 (s2 4 y2.2.1 0) 4 = s2 1 y2.2.1 11 := by clear ct; omega
      exact ⟨a1.1, a1.2, a2.1, a2.2⟩
    exact fun q => by
      unfold mWd sWd
      rw [(z q).1, (z q).2.1, (z q).2.2.1, (z q).2.2.2]
  have wr : y.1 = 0 ∨ y.1 = 1 → (0 ≤ s 3 (s 4 y.2.1 0) 3 ∧ 0 ≤ s 3 (s 4 y.2.1 0) 4 ∧ s 3 (s 4 y.2.1 0) 3 + s 3 (s 4 y.2.1 0) 4 ≤ m) ∧ (0 ≤ s2 3 (s2 4 y2.2.1 0) 3 ∧ 0 ≤ s2 3 (s2 4 y2.2.1 0) 4 ∧ s2 3 (s2 4 y2.2.1 0) 3 + s2 3 (s2 4 y2.2.1 0) 4 ≤ m2) := by
    intro q
    have o : s 1 y.2.1 0 = 3 ∨ s 1 y.2.1 0 = 4 := by omega
    have o2 : s2 1 y2.2.1 0 = 3 ∨ s2 1 y2.2.1 0 = 4 := by omega
    exact ⟨wdT en hP.1 hP.2 (by clear ct2; omega), wdT en2 hQ.1 hQ.2 (by clear ct; omega)⟩
  have ow := own en en2 ga.1 ga.2 ga2.1 ga2.2
  have kd0 : y.1 = 0 → sWd w w2 s s2 y.2.1 y2.2.1 → s 3 (s 4 y.2.1 0) 0 = s2 3 (s2 4 y2.2.1 0) 0 := by
    intro q z
    have o := gd q
    have o2 := gd2 (by omega)
    have c2 := (en.c2 ga.1 ga.2).1 (by omega)
    have c22 := (en2.c2 ga2.1 ga2.2).1 (by omega)
    have b1 : s 1 y.2.1 1 = -1 := by clear ct2; omega
    have b2 : s2 1 y2.2.1 1 = -1 := by clear ct; omega
    exact (ow.2 ⟨by omega, by omega, by omega, z⟩).1
  have n1 : y.1 = 2 → s 3 (s 4 y.2.1 0) 1 = s 1 y.2.1 6 := by
    intro q
    have c := en.1.2.2.1 y.2.1 ga.1 ga.2
    unfold cIt at c
    rw [show kid 0 = 3 from rfl] at c
    exact (c.2.1 (ge (Or.inr q))).1
  have n2 : y.1 = 2 → s2 3 (s2 4 y2.2.1 0) 1 = s2 1 y2.2.1 6 := by
    intro q
    have c := en2.1.2.2.1 y2.2.1 ga2.1 ga2.2
    unfold cIt at c
    rw [show kid 0 = 3 from rfl] at c
    exact (c.2.1 (ge2 (Or.inr (by omega)))).1
  have m1 : y.1 = 3 → s 3 (s 4 y.2.1 0) 2 = s 1 y.2.1 2 := by intro q; have := gf q; clear ct2; omega
  have m2' : y.1 = 3 → s2 3 (s2 4 y2.2.1 0) 2 = s2 1 y2.2.1 2 := by intro q; have := gf2 (by omega); clear ct; omega
  clear ct ct2
  obtain ⟨e11, e12, e13, e14, e15⟩ := e1
  obtain ⟨e21, e22, e23, e24, e25⟩ := e2
  refine cI (k214_0 (40 * x + k1) (40 * x2 + k2) h _ ?_)
  rw [d1, d2, e11, e12, e22]
  refine ⟨by omega, by omega, by omega, by omega, by omega, by omega, by omega, by omega, fun t0 => s179 0 p hP t4 (by omega) (s179 0 p2 hQ t42 (by omega) ⟨fun z => ⟨Or.inl rfl, zq1 ?_⟩, fun z => s211 p hm t4 p2 hm2 t42 hP hQ (wr (Or.inl t0)).1 (wr (Or.inl t0)).2 ⟨fun z2 => ⟨Or.inl rfl, zq1 ?_⟩, fun z2 => ⟨Or.inr rfl, zq1 ?_⟩⟩⟩), fun t0 => ⟨fun t1 => s211 p hm t4 p2 hm2 t42 hP hQ (wr (Or.inr (by omega))).1 (wr (Or.inr (by omega))).2 ⟨b2i_01, zq1 ?_⟩, fun t1 => ⟨fun t2 => s179 1 p hP t4 (by omega) (s179 1 p2 hQ t42 (by omega) ⟨fun z => ⟨Or.inl rfl, zq1 ?_⟩, fun z => ⟨Or.inr rfl, zq1 ?_⟩⟩), fun t2 => ⟨fun t3 => s179 2 p hP t4 (by omega) (s179 2 p2 hQ t42 (by omega) ⟨fun z => ⟨Or.inl rfl, zq1 ?_⟩, fun z => ⟨Or.inr rfl, zq1 ?_⟩⟩), fun t3 => ⟨fun t4' => s215 (by omega) (by omega) (e14 (by omega)) (e24 (by omega)) (o1.2 (by omega)) ⟨b2i_01, zq1 ?_⟩, fun t4' => s213 p hm en p2 hm2 en2 ga.1 ga.2 ga2.1 ga2.2 ⟨b2i_01, zq1 ?_⟩⟩⟩⟩⟩⟩
  · rwa [b2i_neg (fun q => z (kd0 t0 (q.2.2.2.2.2.2 (Or.inl t0))))] at k
  · rw [b2i_eq0, wdi (Or.inl t0)] at z2
    rwa [b2i_neg (fun q => z2 (q.2.2.2.2.2.2 (Or.inl t0)))] at k
  · rw [b2i_ne0, wdi (Or.inl t0)] at z2
    rwa [b2i_pos (show tsm w w2 s s2 y y2 from ⟨c, d, fun q => by omega, fun q => by omega, fun q => by omega, fun q => by omega, fun _ => z2⟩)] at k
  · rw [b2i_congr (wdi (Or.inr (by omega)))]
    rwa [b2i_congr (show tsm w w2 s s2 y y2 ↔ sWd w w2 s s2 y.2.1 y2.2.1 from ⟨fun q => q.2.2.2.2.2.2 (by omega), fun z => ⟨c, d, fun q => by omega, fun q => by omega, fun q => by omega, fun q => by omega, fun _ => z⟩⟩)] at k
  · rw [n1 (by omega), n2 (by omega)] at z
    rwa [b2i_neg (fun q => z (q.2.2.1 (by omega)))] at k
  · rw [n1 (by omega), n2 (by omega)] at z
    rwa [b2i_pos (show tsm w w2 s s2 y y2 from ⟨c, d, fun _ => Classical.not_not.1 z, fun q => by omega, fun q => by omega, fun q => by omega, fun q => by omega⟩)] at k
  · rw [m1 (by omega), m2' (by omega)] at z
    rwa [b2i_neg (fun q => z (q.2.2.2.1 (by omega)))] at k
  · rw [m1 (by omega), m2' (by omega)] at z
    rwa [b2i_pos (show tsm w w2 s s2 y y2 from ⟨c, d, fun q => by omega, fun _ => Classical.not_not.1 z, fun q => by omega, fun q => by omega, fun q => by omega⟩)] at k
  · rwa [b2i_congr (show tsm w w2 s s2 y y2 ↔ pth s y.2.2 = pth s2 y2.2.2 from ⟨fun q => q.2.2.2.2.1 (by omega), fun z => ⟨c, d, fun q => by omega, fun q => by omega, fun _ => z, fun q => by omega, fun q => by omega⟩⟩)] at k
  · rw [b2i_congr (sTk_m en en2 p8 p82 ga.1 ga.2 ga2.1 ga2.2).symm]
    rwa [b2i_congr (show tsm w w2 s s2 y y2 ↔ sTk w w2 s s2 y.2.1 y2.2.1 from ⟨fun q => q.2.2.2.2.2.1 (by omega), fun z => ⟨c, d, fun q => by omega, fun q => by omega, fun q => by omega, fun _ => z, fun q => by omega⟩⟩)] at k
theorem s216 {k1 k2 : Nat} {y y2 : tst} (p : mPt h x w m s) (hm : m ≤ 300) (en : rEn w m 0 0 s) (p8 : rP8 s) (p2 : mPt h x2 w2 m2 s2) (hm2 : m2 ≤ 300) (en2 : rEn w2 m2 0 0 s2) (p82 : rP8 s2) (g : tRg s y) (g2 : tRg s2 y2) (hk1 : k1 < 40) (hk2 : k2 < 40) (e1 : mEn h x s k1 y) (o1 : plO s y) (e2 : mEn h x2 s2 k2 y2) {K : Int → zH → Prop} (k : K (b2i (tsm w w2 s s2 y y2)) h) : zC1 216 [vR 127 111, vI (40 * x + k1), vI (40 * x2 + k2)] h K := by
  have hx := p.1
  have hx2 := p2.1
  have l1 := e1.2.2.1
  have l2 := e2.2.2.1
  have hl := o1.1
  have stop : ∀ z : Int, ¬ tsm w w2 s s2 y y2 → zK 216 39 [vR 127 111, vI (40 * x + k1), vI (40 * x2 + k2), vI 0, vI z] [] h (fun r h1 => ∃ v : Int, r = some (Sum.inl v) ∧ K v h1) := by
    intro z c
    rw [b2i_neg c] at k
    exact k216_39 _ _ 0 z h _ ⟨fun _ => k216_93 _ _ 0 _ h _ ⟨fun _ => ⟨Or.inl rfl, zq1 k⟩, fun d => absurd rfl d⟩, fun d => absurd rfl d⟩
  have key : ∀ (f z : Nat), z + f = (pth s y.2.1).length → y.1 = y2.1 → (pth s y.2.1).length = (pth s2 y2.2.1).length → (∀ q : Nat, q < z → (pth s y.2.1).getD q 0 = (pth s2 y2.2.1).getD q 0) → zK 216 39 [vR 127 111, vI (40 * x + k1), vI (40 * x2 + k2), vI 1, vI (z : Nat)] [] h (fun r h1 => ∃ v : Int, r = some (Sum.inl v) ∧ K v h1) := by
    intro f
    induction f with
    | zero =>
      intro z hz c e v
      refine k216_39 _ _ 1 z h _ ⟨fun d => absurd d (by omega), fun _ => ?_⟩
      rw [l1.1]
      refine ⟨by omega, by omega, fun _ => k216_93 _ _ 1 _ h _ ⟨fun d => absurd d (by omega), fun _ => s214 p hm en p8 p2 hm2 en2 p82 g g2 hk1 hk2 e1 o1 e2 c (lst_eq e (fun q hq => v q (by omega))) ⟨fun z => ⟨Or.inl rfl, zq1 ?_⟩, fun z => ⟨Or.inr rfl, zq1 ?_⟩⟩⟩, fun d => absurd (by omega) d⟩
      · rwa [z] at k
      · rw [b2i_ne0] at z; rwa [b2i_pos z] at k
    | succ f ih =>
      intro z hz c e v
      refine k216_39 _ _ 1 z h _ ⟨fun d => absurd d (by omega), fun _ => ?_⟩
      rw [l1.1, l1.2 z (by omega), l2.2 z (by omega)]
      refine ⟨by omega, by omega, fun d => absurd d (by omega), fun _ => ⟨by unfold inR; omega, by unfold inR; omega, by omega, by omega, by unfold inR; omega, by unfold inR; omega, by omega, by omega, fun d => ⟨by unfold inR; omega, stop _ (fun q => d (by rw [q.2.1]))⟩, fun d => ⟨by unfold inR; omega, ih (z + 1) (by omega) c e (fun q hq => ?_)⟩⟩⟩
      by_cases y : q = z
      · rw [y]; exact Classical.not_not.1 d
      · exact v q (by omega)
  refine cI (k216_0 _ _ h _ ?_)
  rw [e1.1, e2.1, l1.1, l2.1]
  exact ⟨by omega, by omega, by omega, by omega, fun c => stop 0 (fun q => c q.1), fun c => ⟨by omega, by omega, by omega, by omega, fun d => stop 0 (fun q => d (by rw [q.2.1])), fun d => key (pth s y.2.1).length 0 (by omega) (Classical.not_not.1 c) (by omega) (fun q hq => by omega)⟩⟩
end MM2
