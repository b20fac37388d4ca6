/-! The calls that change what stands: rounds, after, rule, drop, keep, again. -/
section WS
variable {P R Q : Nat → Int → Prop} {h h1 h2 : zH} {a a2 b b2 : Nat} {S S2 : qS} {rn rn2 : Int → Int} {rt rt2 : Int → Int → Int} {rs rs2 : Int → pS} {ty ty2 : Int → Int} {m c m2 c2 : Int} {pt pt2 : Int → Int → Int} {pn pn2 : Int → Int}
/-- the same where the model's source was used and came back -/
theorem cia.ra (x : cia h a a2 S rn rt rs ty m c pt pn) (f : frX P R h h1) (d : ∀ b k, P b k → xSc a2 b) (r : ∀ b k, R b k → xRc b) (g : frP (fun b k => mwA b k ∨ mbA b k ∨ b = 169) h1 h2) (y : yS h2 S) : ciX h h2 := by
  obtain ⟨xS, xR, xT, xP, xK, xF⟩ := x
  have w := xS.1.2.2.2.2.2.2
  have l := xF.1
  have gx : frX (fun b k => mwA b k ∨ mbA b k ∨ b = 169) nP h1 h2 := g.x
  have F : frY (fun b k => xSc a2 b ∨ (mSc b k ∨ nSm b k)) (fun b _ => xRc b) h h2 := (f.y.mo (fun b k q => Or.inl (d b k q)) r).tr (gx.y.mo (fun b k q => Or.inr (by unfold mwA mST meA mcA edA cwA hlA gWB gWA bgA mbA mRA mA at q; unfold mSc nSm; omega)) (fun _ _ q => q.elim))
  refine ciX.mk F l (fun k => by unfold xSc mSc nSm; omega) (by rw [gx.nn, f.nn]; omega) (by rw [gx.cc, f.cc]; omega) ⟨a, a2, S, rn, rt, rs, ty, m, c, pt, pn, ⟨xS.1.fy F l (by unfold xRc; omega), xS.2.1, xN.fy xS.2.2.1 F (by omega) (fun b k b0 b1 => by unfold xSc mSc nSm; omega), y⟩, ?_, ?_, ?_, ?_, ?_⟩
  · exact xR.fy F xF (fun b k b0 => by unfold xSc mSc nSm; omega) (fun k => by unfold xRc; omega) (fun b k q => by unfold nRm at q; unfold xSc mSc nSm; omega)
  · exact xT.fy F l (fun k => by unfold xSc mSc nSm; omega) ⟨by unfold xSc mSc nSm; omega, fun k => by unfold xSc mSc nSm; omega⟩
  · exact xP.fy F l (fun b k q => by unfold xpA at q; unfold xSc mSc nSm; omega) (fun k => by unfold xRc; omega) (fun b k q => by unfold mpA at q; unfold xSc mSc nSm; omega)
  · exact xK.fy F xF (fun b k b0 b1 => by unfold xSc mSc nSm; omega) (fun b k b0 => by unfold xSc mSc nSm; omega) (fun k => by unfold xRc; omega) (fun k => by unfold xSc mSc nSm; omega)
  · exact xF.fy F (fun k => by unfold xRc; omega)
theorem g24 (x : CI h) {i j : Int} : zC1 24 [vR 2 100, vI i, vI j] h (fun r h1 => ciM h h1 ∧ zC1 250 [vR 127 111, vI i, vI j] h1 (fun w h2 => r = w ∧ ciX h h2)) := by
  obtain ⟨a, a2, S, rn, rt, rs, ty, m, c, pt, pn, x⟩ := x
  have w7 := x.1.1.2.2.2.2.2.2
  refine s24 x.1.1 x.1.2.1 x.1.2.2.1 x.2.2.2.2.2.2.2.1 x.2.2.2.1.1 x.2.1.1 x.2.1.2.1 (fun q1 q2 q3 q4 h1 b b2 f1 W1 y1 p1 => ?_) (fun q1 q2 q3 q4 h1 f1 => ?_) (fun q => ?_)
  · have M := x.mx f1.y (fun b k b0 b1 => by unfold xrA xAA xpA; omega)
    refine ⟨x.mc f1.y (fun k => by unfold xrA xAA xpA; omega), ?_⟩
    refine s250 x.1.2.1 M.1 M.2.2.2.2.2.2 M.2.2.2.2.1 x.2.1.1 M.2.1 (fun _ _ _ _ h2 f2 y2 p2 => ⟨rfl, x.rw f1 f2 W1 ?_ y1 y2 p1 p2⟩) (fun _ _ _ z => absurd q4 (by omega)) (fun z => absurd ⟨q1, q2, q3⟩ z)
    exact sqS_K x.1.2.1 x.2.1.1 j.toNat S x.1.2.1 _ (Nat.le_refl _)
  · have M := x.mx f1.y (fun b k b0 b1 => by unfold stA xAA; omega)
    refine ⟨x.mc f1.y (fun k => by unfold stA xAA; omega), ?_⟩
    exact s250 x.1.2.1 M.1 M.2.2.2.2.2.2 M.2.2.2.2.1 x.2.1.1 M.2.1 (fun _ _ _ z => absurd z (by omega)) (fun _ _ _ _ h2 f2 y2 => ⟨rfl, x.ra f1 (fun b k q => by unfold stA xAA at q; unfold xSc; omega) (fun b k q => by unfold fiR at q; unfold xRc; omega) f2 y2⟩) (fun z => absurd ⟨q1, q2, q3⟩ z)
  · exact ⟨x.m0, s250 x.1.2.1 x.1.2.2.2 x.2.2.2.2.2.2.2.2.2.2.2.2.1 x.2.2.2.1.2.1 x.2.1.1 x.2.1.2.2.1 (fun z1 z2 z3 => absurd ⟨z1, z2, z3⟩ q) (fun z1 z2 z3 => absurd ⟨z1, z2, z3⟩ q) (fun _ => ⟨rfl, x.r0⟩)⟩
theorem g25 (x : CI h) {i j q : Int} : zC1 25 [vR 2 100, vI i, vI j, vI q] h (fun r h1 => ciM h h1 ∧ zC1 251 [vR 127 111, vI i, vI j, vI q] h1 (fun w h2 => r = w ∧ ciX h h2)) := by
  obtain ⟨a, a2, S, rn, rt, rs, ty, m, c, pt, pn, x⟩ := x
  have w7 := x.1.1.2.2.2.2.2.2
  have xF := x.2.2.2.2.2
  refine s25 x.1.1 x.1.2.1 x.1.2.2.1 xF.2.2.1 xF.2.2.2.1 xF.2.2.2.2.1 xF.2.2.2.2.2.1 x.2.1.1 x.2.1.2.1 (fun h1 f1 => ?_)
  have M := x.mx f1.y (fun b k b0 b1 => by unfold afA xAA; omega)
  refine ⟨x.mc f1.y (fun k => by unfold afA xAA; omega), ?_⟩
  exact s251 x.1.2.1 M.1 x.2.1.1 M.2.1 (fun h2 f2 y2 => ⟨rfl, x.ra f1 (fun b k q => by unfold afA xAA at q; unfold xSc; omega) (fun b k q => by unfold fiR at q; unfold xRc; omega) f2 y2⟩)
/-- the rules alone -/
theorem cia.ru (x : cia h a a2 S rn rt rs ty m c pt pn) (F : frY P R h h2) (d : ∀ b k, P b k → b = 54 ∨ b = 55 ∨ (b = 3 ∧ k = 1) ∨ ruA b k) (r : ∀ b k, R b k → b = 53 ∨ b = 54 ∨ b = 55) (n : nx h2 ≤ nx h + 15) (s : sc h2 ≤ sc h + 798) (yR : ciR h2 rn2 rt2 rs2) (yT : ciT h2 ty2 m2) : ciX h h2 := by
  obtain ⟨xS, xR, xT, xP, xK, xF⟩ := x
  have w := xS.1.2.2.2.2.2.2
  have l := xF.1
  have F : frY (fun b k => b = 54 ∨ b = 55 ∨ (b = 3 ∧ k = 1) ∨ (127 ≤ b ∧ b ≤ 169 ∧ ¬ nSm b k ∧ ¬ (129 ≤ b ∧ b ≤ 131) ∧ ¬ (b = 127 ∧ k = 5))) (fun b _ => b = 53 ∨ b = 54 ∨ b = 55) h h2 := F.mo (fun b k q => by
    have q := d b k q
    unfold ruA mtB rrA mtTs at q
    unfold nSm
    omega) r
  refine ciX.mk F l (fun k => by omega) n s ⟨a, a2, S, rn2, rt2, rs2, ty2, m2, c, pt, pn, ?_, yR, yT, ?_, ?_, ?_⟩
  · exact xS.fy F l (fun b k b0 b1 => by omega) (by omega) (fun b k q z => by
      have q2 := q
      unfold nSm at q2
      rcases z with z | z | z | z
      · omega
      · omega
      · omega
      · exact z.2.2.1 q)
  · exact xP.fy F l (fun b k q => by unfold xpA at q; omega) (fun k => by omega) (fun b k q => by unfold mpA at q; omega)
  · exact xK.fy F xF (fun b k b0 b1 => by omega) (fun b k b0 => by omega) (fun k => by omega) (fun k => by omega)
  · exact xF.fy F (fun k => by omega)
theorem g4 (x : CI h) : zC1 4 [vR 2 100] h (fun r h1 => ciM h h1 ∧ zC1 175 [vR 127 111] h1 (fun w h2 => r = w ∧ ciX h h2)) := by
  obtain ⟨a, a2, S, rn, rt, rs, ty, m, c, pt, pn, x⟩ := x
  have o := x.2.2.1.1
  have l := x.2.2.2.2.2.1
  have o2 := x.2.1.1
  have key : ∀ h1 h2, frD (nx h) h h1 → gI h1 3 1 = 0 → frP ruA h1 h2 → gI h2 127 7 = 0 → ∀ {rn2 rt2 rs2}, ciR h2 rn2 rt2 rs2 → ciX h h2 := by
    intro h1 h2 f1 z1 f2 z2 rn2 rt2 rs2 y
    have F2 : frX ruA nP h1 h2 := f2.x
    have F : frY (fun b k => b = 54 ∨ b = 55 ∨ (b = 3 ∧ k = 1) ∨ ruA b k) (fun b _ => b = 53 ∨ b = 54 ∨ b = 55) h h2 := ((f1.y rfl).mo (fun b k q => by rcases q with q | q | q; exact Or.inl q; exact Or.inr (Or.inl q); exact Or.inr (Or.inr (Or.inl q))) (fun _ _ q => q)).tr (F2.y.mo (fun b k q => Or.inr (Or.inr (Or.inr q))) (fun _ _ q => q.elim))
    have n1 := f1.2.2.2.1
    have s1 := f1.2.2.2.2
    exact x.ru F (fun b k q => q) (fun b k q => q) (by rw [F2.nn, n1]; omega) (by rw [F2.cc, s1]; omega) y (ciT_0 (by rw [f2.1 _ _ (by unfold ruA mtB rrA mtTs; omega)]; exact z1) (F.le (by omega) x.2.2.1.2.1.2.1) z2)
  have ux : ∀ h1 h2 rn2 rt2 rs2, xRu h1 53 rn2 rt2 rs2 → frP ruA h1 h2 → xRu h2 53 rn2 rt2 rs2 := fun h1 h2 rn2 rt2 rs2 u f => u.fx (frP.x (R := nP) f) (fun b k b0 _ => by unfold ruA mtB rrA mtTs; omega) (fun k _ _ q => q)
  refine s4 x.2.2.1.2.1 o x.2.1.2.1 (by omega) rfl (fun s y e hy ey h1 f1 z1 u1 => ?_) (fun s e ey h1 f1 z1 u1 => ?_) (fun s e h1 f1 z1 u1 => ?_)
  · have M := x.mx (f1.y rfl) (fun b k b0 b1 => by omega)
    refine ⟨x.mc (f1.y rfl) (fun k => by omega), ?_⟩
    refine s175 M.2.2.2.1 o o2 M.2.1 M.2.2.1 (fun s2 y2 e2 hy2 ey2 h2 f2 z2 z3 u2 t2 => ?_) (fun s2 e2 ey2 => ?_) (fun s2 e2 => ?_)
    · have es : s2 = s := by rw [e] at e2; cases e2; rfl
      have eY : y = y2 := ey.trans ey2.symm
      subst es
      subst eY
      exact ⟨rfl, key h1 h2 f1 z1 f2 z2 ⟨o2.ad o (rread_pos o e) e, ux _ _ _ _ _ u1 f2, u2, t2⟩⟩
    · exfalso; rw [ey2] at ey; omega
    · rw [e] at e2; cases e2
  · have M := x.mx (f1.y rfl) (fun b k b0 b1 => by omega)
    refine ⟨x.mc (f1.y rfl) (fun k => by omega), ?_⟩
    refine s175 M.2.2.2.1 o o2 M.2.1 M.2.2.1 (fun s2 y2 e2 hy2 ey2 => ?_) (fun s2 e2 ey2 h2 f2 z2 z3 u2 t2 => ?_) (fun s2 e2 => ?_)
    · exfalso; rw [ey] at ey2; omega
    · exact ⟨rfl, key h1 h2 f1 z1 f2 z2 ⟨o2, ux _ _ _ _ _ u1 f2, u2, t2⟩⟩
    · rw [e] at e2; cases e2
  · have M := x.mx (f1.y rfl) (fun b k b0 b1 => by omega)
    refine ⟨x.mc (f1.y rfl) (fun k => by omega), ?_⟩
    refine s175 M.2.2.2.1 o o2 M.2.1 M.2.2.1 (fun s2 y2 e2 => ?_) (fun s2 e2 => ?_) (fun s2 e2 h2 f2 z2 z3 u2 t2 => ?_)
    · rw [e] at e2; cases e2
    · rw [e] at e2; cases e2
    · have es : s2 = s := by rw [e] at e2; cases e2; rfl
      subst es
      exact ⟨rfl, key h1 h2 f1 z1 f2 z2 ⟨o2, ux _ _ _ _ _ u1 f2, u2, t2⟩⟩
theorem g5 (x : CI h) {i : Int} : zC1 5 [vR 2 100, vI i] h (fun r h1 => ciM h h1 ∧ zC1 178 [vR 127 111, vI i] h1 (fun w h2 => r = w ∧ ciX h h2)) := by
  obtain ⟨a, a2, S, rn, rt, rs, ty, m, c, pt, pn, x⟩ := x
  have o2 := x.2.1.1
  have l := x.2.2.2.2.2.1
  refine s5 x.2.1.2.1 (fun q u1 => ?_) (fun q => ?_)
  · have F1 : frX nP (fun b _ => b = 53) h (sR h 53 i 0) := frX.rf.sr rfl
    have M := x.mx F1.y (fun b k b0 b1 q => q)
    refine ⟨x.mc F1.y (fun k q => q), ?_⟩
    refine s178 o2 M.2.1 (fun _ h2 f2 z2 u2 t2 => ⟨rfl, ?_⟩) (fun z => absurd q z)
    have F2 : frX (drA i) nP (sR h 53 i 0) h2 := f2.x
    have F : frY (drA i) (fun b _ => b = 53) h h2 := (F1.y.mo (fun _ _ q => q.elim) (fun _ _ q => q)).tr (F2.y.mo (fun _ _ q => q) (fun _ _ q => q.elim))
    refine x.ru F (fun b k z => ?_) (fun b k z => Or.inl z) (by rw [F2.nn, F1.nn]; omega) (by rw [F2.cc, F1.cc]; omega) ⟨o2.dr, u1.fx F2 (fun b k b0 _ => ?_) (fun k _ _ z => z), u2, t2⟩ (x.2.2.1.fy F l (fun k => ?_) ⟨?_, fun k => ?_⟩)
    · unfold drA mtTs at z
      unfold ruA mtB rrA mtTs
      omega
    · unfold drA mtTs; omega
    · unfold drA mtTs; omega
    · unfold drA mtTs; omega
    · unfold drA mtTs; omega
  · exact ⟨x.m0, s178 o2 x.2.1.2.2.1 (fun z => absurd z q) (fun _ => ⟨rfl, x.r0⟩)⟩
end WS
