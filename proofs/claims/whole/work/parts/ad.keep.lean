/-! keep and again; a node. -/
section WT
variable {h h1 h2 : zH}
theorem mRu.rx {rn : Int → Int} {rt : Int → Int → Int} {rs : Int → pS} (u : mRu h rn rt rs) : mRx h rn rt := fun x x0 x1 => ⟨(u x x0 x1).1, fun z => ((u x x0 x1).2 z).1⟩
theorem g27 (x : CI h) {j : Int} : zC1 27 [vR 2 100, vI j] h (fun r h1 => ciM h h1 ∧ zC1 253 [vR 127 111, vI j] h1 (fun w h2 => r = w ∧ ciX h h2)) := by
  obtain ⟨a, a2, S, rn, rt, rs, ty, m, c, pt, pn, x⟩ := x
  have w7 := x.1.1.2.2.2.2.2.2
  have g := x.1.2.1
  have xF := x.2.2.2.2.2
  have l := xF.1
  have o := kAd_or j
  have kj : (0 ≤ j ∧ j < 2) → gR h 105 j = kAd j ∧ zty 110 (kAd j) h ∧ ln h (kAd j + 1 + 1) = 300 ∧ (kAd j = 107 ∨ kAd j = 111) := fun q => by
    have y := xF.2.2.2.2.2.2.2.2 j q.1 q.2
    exact ⟨y.1, y.2.1, y.2.2, o⟩
  refine s27 g.1 ⟨x.1.1.1, x.1.1.2.2.1, x.1.2.2.1⟩ (by omega) x.2.1.2.1 kj (fun q h1 f1 K1 => ?_) (fun q => ?_)
  · have M := x.mx f1.y (fun b k b0 b1 => by unfold txA; omega)
    refine ⟨x.mc f1.y (fun k => by unfold txA; omega), ?_⟩
    refine s253 x.2.1.1 ⟨g.1.1, g.1.2.1⟩ M.1.1 M.2.1.rx (fun _ h2 f2 z2 K2 => ⟨rfl, ?_⟩) (fun z => absurd q z)
    have F2 : frX (fun b k => (b = 127 ∧ k = 0) ∨ (b = 129 ∧ 2709 * j ≤ k ∧ k < 2709 * j + 2709) ∨ (b = 130 ∧ k = j)) nP h1 h2 := f2.x
    have F : frY (fun b k => (kAd j ≤ b ∧ b < kAd j + 3) ∨ (b = 127 ∧ k = 0) ∨ (b = 129 ∧ 2709 * j ≤ k ∧ k < 2709 * j + 2709) ∨ (b = 130 ∧ k = j)) (fun b _ => b = kAd j + 3) h h2 := (f1.y.mo (fun b k q => by unfold txA at q; omega) (fun _ _ q => q)).tr (F2.y.mo (fun b k q => Or.inr q) (fun _ _ q => q.elim))
    obtain ⟨xS, xR, xT, xP, xK, _⟩ := x
    refine ciX.mk F l (fun k => by omega) (by rw [F2.nn, f1.nn]; omega) (by rw [F2.cc, f1.cc]; omega) ⟨a, a2, S, rn, rt, rs, ty, m, c, pt, pn, ?_, ?_, ?_, ?_, ?_, ?_⟩
    · exact xS.fy F l (fun b k b0 b1 => by omega) (by omega) (fun b k q => by unfold nSm at q; omega)
    · exact xR.fy F xF (fun b k b0 => by omega) (fun k => by omega) (fun b k q => by unfold nRm at q; omega)
    · exact xT.fy F l (fun k => by omega) ⟨by omega, fun k => by omega⟩
    · exact xP.fy F l (fun b k q => by unfold xpA at q; omega) (fun k => by omega) (fun b k q => by unfold mpA at q; omega)
    · intro i i0 i1
      by_cases e : i = j
      · subst e
        have K3 : xKp h2 (kAd i) S.1 S.2 rn rt rs := ⟨by rw [f2.1 _ _ (by omega)]; exact K1.1, K1.2.1.fr f2 (fun k => by omega), K1.2.2.fx F2 (fun b k b0 _ => by omega) (fun k _ _ q => q)⟩
        exact ⟨by rw [K3.1, K2.1], fun _ => ⟨S, rn, rt, rs, g, xR.1, K3, K2⟩⟩
      · have d : kAd i + 4 ≤ kAd j ∨ kAd j + 4 ≤ kAd i := by
          unfold kAd
          by_cases z : i = 0
          · rw [if_pos z, if_neg (by omega)]; omega
          · rw [if_neg z, if_pos (by omega)]; omega
        have oi := kAd_or i
        exact (xK i i0 i1).fy F xF (fun b k b0 b1 => by omega) (fun b k b0 => by omega) (fun k => by omega) (fun k k0 k1 => by omega) (by omega)
    · exact xF.fy F (fun k => by omega)
  · exact ⟨x.m0, s253 x.2.1.1 ⟨g.1.1, g.1.2.1⟩ x.1.2.2.2.1 x.2.1.2.2.1.rx (fun z => absurd z q) (fun _ => ⟨rfl, x.r0⟩)⟩
theorem g28 (x : CI h) {j : Int} : zC1 28 [vR 2 100, vI j] h (fun r h1 => ciM h h1 ∧ zC1 254 [vR 127 111, vI j] h1 (fun w h2 => r = w ∧ ciX h h2)) := by
  obtain ⟨a, a2, S, rn, rt, rs, ty, m, c, pt, pn, x⟩ := x
  have w7 := x.1.1.2.2.2.2.2.2
  have g := x.1.2.1
  have xF := x.2.2.2.2.2
  have l := xF.1
  have o := kAd_or j
  have kj : (0 ≤ j ∧ j < 2) → gR h 105 j = kAd j ∧ zty 110 (kAd j) h ∧ (kAd j = 107 ∨ kAd j = 111) := fun q => by
    have y := xF.2.2.2.2.2.2.2.2 j q.1 q.2
    exact ⟨y.1, y.2.1, o⟩
  have U : xU h a S.1 S.2 (qN S) (qC S) (qT S) (qK S) := ⟨x.1.1.1, x.1.1.2.2.1, x.1.2.2.1⟩
  by_cases cc : (0 ≤ j ∧ j < 2) ∧ ¬ gI h 130 j = 0
  · have J := x.2.2.2.2.1 j cc.1.1 cc.1.2
    obtain ⟨S2, rn2, rt2, rs2, g2, o2, K1, K2⟩ := J.2 cc.2
    refine s28 U (by omega) x.1.1.2.2.2.2.1 kj (fun _ _ => ⟨g2, K1⟩) (fun q q2 h1 f1 z1 U1 R1 => ?_) (fun q => ?_)
    · have e0 : gI h1 130 j = gI h 130 j := f1.1 _ _ (by unfold srB srA txA; omega)
      have K3 : mKp h1 j S2.1 S2.2 rn2 rt2 := K2.fy f1.y l (fun k => by unfold srB srA txA; omega) (by unfold srB srA txA; omega)
      refine ⟨x.mc f1.y (fun k => by unfold srB srA txA; omega), ?_⟩
      refine s254 o2 (fun _ _ => ⟨g2, K3⟩) (fun _ _ h2 f2 z2 z5 N2 u2 t2 => ⟨rfl, ?_⟩) (fun z => absurd ⟨q, by rw [e0]; exact cc.2⟩ z)
      have F2 : frX agA nP h1 h2 := f2.x
      have F : frY (fun b k => (a ≤ b ∧ b < a + 16) ∨ (b = 87 ∧ k = 0) ∨ agA b k) (fun b _ => b = 53) h h2 := (f1.y.mo (fun b k q => by unfold srB srA txA at q; rcases q with q | q; exact Or.inl (by omega); exact Or.inr (Or.inl q)) (fun _ _ q => q)).tr (F2.y.mo (fun b k q => Or.inr (Or.inr q)) (fun _ _ q => q.elim))
      obtain ⟨xS, xR, xT, xP, xK, _⟩ := x
      refine ciX.mk F l (fun k => by unfold agA rdR rrA mtTs mRA mA; omega) (by rw [F2.nn, f1.nn]; omega) (by rw [F2.cc, f1.cc]; omega) ⟨a, a2, S2, rn2, rt2, rs2, ty, m, 0, pt, pn, ?_, ?_, ?_, ?_, ?_, ?_⟩
      · refine ⟨xS.1.fy F l (by omega), g2, ?_, N2⟩
        exact xN.fr U1.2.2 f2 (fun b k b0 b1 => by unfold agA rdR rrA mtTs mRA mA; omega)
      · exact ⟨o2, R1.fx F2 (fun b k b0 _ => by unfold agA rdR rrA mtTs mRA mA; omega) (fun k _ _ q => q), u2, t2⟩
      · exact xT.fy F l (fun k => by unfold agA rdR rrA mtTs mRA mA; omega) ⟨by unfold agA rdR rrA mtTs mRA mA; omega, fun k => by unfold agA rdR rrA mtTs mRA mA; omega⟩
      · obtain ⟨⟨p1, p2, p3, p4, p5, p6, p7⟩, -, -⟩ := xP
        have e1 : gI h2 87 1 = gI h 87 1 := F.1 _ _ (by omega) (by unfold agA rdR rrA mtTs mRA mA; omega)
        refine ⟨⟨p1.fy F l (fun k => by omega), ?_, by omega, by omega, by rw [e1]; exact p5, by rw [e1]; exact p6, fun i i0 i1 => by omega⟩, ⟨z5, by omega, by omega, fun i i0 i1 => by omega⟩, fun i i0 i1 => by omega⟩
        rw [f2.1 _ _ (by unfold agA rdR rrA mtTs mRA mA; omega)]; exact z1
      · exact xK.fy F xF (fun b k b0 b1 => by unfold agA rdR rrA mtTs mRA mA; omega) (fun b k b0 => by unfold agA rdR rrA mtTs mRA mA; omega) (fun k => by omega) (fun k => by unfold agA rdR rrA mtTs mRA mA; omega)
      · exact xF.fy F (fun k => by omega)
    · exact absurd ⟨cc.1, by rw [J.1]; exact cc.2⟩ q
  · have nf : ∀ {A : Prop}, (0 ≤ j ∧ j < 2) → ¬ gI h (kAd j) 0 = 0 → A := fun q q2 => absurd ⟨q, by rw [← (x.2.2.2.2.1 j q.1 q.2).1]; exact q2⟩ cc
    refine s28 (t2 := S.1) (n2 := S.2) (nd2 := qN S) (nc2 := qC S) (T2 := qT S) (C2 := qK S) (rn2 := rn) (rt2 := rt) (rs2 := rs) U (by omega) x.1.1.2.2.2.2.1 kj (fun q q2 => nf q q2) (fun q q2 => nf q q2) (fun q => ?_)
    exact ⟨x.m0, s254 (t := S.1) (n := S.2) (nd := qN S) (nc := qC S) (T := qT S) (C := qK S) x.2.1.1 (fun q q2 => absurd ⟨q, q2⟩ cc) (fun q q2 => absurd ⟨q, q2⟩ cc) (fun _ => ⟨rfl, x.r0⟩)⟩
end WT
