/-! The calls that change what stands: class and model one behind the other. -/
section WR
variable {P R Q : Nat → Int → Prop} {h h1 h2 : zH} {a a2 b b2 : Nat} {S S2 : qS} {rn rn2 : Int → Int} {rt rt2 : Int → Int → Int} {rs rs2 : Int → pS} {ty ty2 : Int → Int} {m c m2 c2 : Int} {pt pt2 : Int → Int → Int} {pn pn2 : Int → Int}
abbrev nP : Nat → Int → Prop := fun _ _ => False
theorem ciT_0 (e1 : gI h 3 1 = 0) (e2 : ln h 4 = 300) (e3 : gI h 127 7 = 0) : ciT h (fun _ => -1) 0 :=
  ⟨⟨by omega, by omega, fun i => ⟨fun q => by omega, fun _ => rfl⟩⟩, ⟨e1, e2, fun i i0 i1 => by omega⟩, ⟨e3, fun i i0 i1 => by omega⟩⟩
/-- what is typed alone -/
theorem cia.tp (x : cia h a a2 S rn rt rs ty m c pt pn) (f1 : frP (txA 3) h h1) (f2 : frP mtA h1 h2) (t : ciT h2 ty2 m2) : ciX h h2 := by
  obtain ⟨xS, xR, xT, xP, xK, xF⟩ := x
  have w := xS.1.2.2.2.2.2.2
  have l := xF.1
  have g1 : frX (txA 3) nP h h1 := f1.x
  have g2 : frX mtA nP h1 h2 := f2.x
  have F : frY (fun b k => txA 3 b k ∨ mtA b k) nP h h2 := (g1.y.mo (fun b k q => Or.inl q) (fun _ _ q => q)).tr (g2.y.mo (fun b k q => Or.inr q) (fun _ _ q => q))
  refine ciX.mk F l (fun k => by unfold txA mtA; omega) (by rw [g2.nn, g1.nn]; omega) (by rw [g2.cc, g1.cc]; omega) ⟨a, a2, S, rn, rt, rs, ty2, m2, c, pt, pn, ?_, ?_, t, ?_, ?_, ?_⟩
  · exact xS.fy F l (fun b k b0 b1 => by unfold txA mtA; omega) ⟨fun q => q, fun q => q⟩ (fun b k q => by unfold nSm at q; unfold txA mtA; omega)
  · exact xR.fy F xF (fun b k b0 => by unfold txA mtA; omega) (fun k q => q) (fun b k q => by unfold nRm at q; unfold txA mtA; omega)
  · exact xP.fy F l (fun b k q => by unfold xpA at q; unfold txA mtA; omega) (fun k q => q) (fun b k q => by unfold mpA at q; unfold txA mtA; omega)
  · exact xK.fy F xF (fun b k b0 b1 => by unfold txA mtA; omega) (fun b k b0 => by unfold txA mtA; omega) (fun k => ⟨fun q => q, fun q => q⟩) (fun k => by unfold txA mtA; omega)
  · exact xF.fy F (fun k => ⟨fun q => q, fun q => q⟩)
theorem g1 (x : CI h) {v : Int} : zC1 1 [vR 2 100, vI v] h (fun r h1 => ciM h h1 ∧ zC1 146 [vR 127 111, vI v] h1 (fun w h2 => r = w ∧ ciX h h2)) := by
  obtain ⟨a, a2, S, rn, rt, rs, ty, m, c, pt, pn, x⟩ := x
  have o := x.2.2.1.1
  refine s1 x.2.2.1.2.1 o (fun d h1 f t1 => ?_) (fun d => ?_)
  · have M := x.mx (frP.y (R := nP) f) (fun b k b0 b1 => by unfold txA; omega)
    refine ⟨x.mc (frP.y (R := nP) f) (fun k => by unfold txA; omega), ?_⟩
    refine s146 M.2.2.2.1 o (fun d2 h2 f2 t2 => ⟨rfl, x.tp f f2 ⟨sgn_ok o d, ?_, t2⟩⟩) (fun d2 => absurd d d2)
    exact t1.fr f2 (fun k => by unfold mtA; omega)
  · exact ⟨x.m0, s146 x.2.2.1.2.2 o (fun d2 => absurd d2 d) (fun _ => ⟨rfl, x.r0⟩)⟩
theorem g2 (x : CI h) {v : Int} : zC1 2 [vR 2 100, vI v] h (fun r h1 => ciM h h1 ∧ zC1 147 [vR 127 111, vI v] h1 (fun w h2 => r = w ∧ ciX h h2)) := by
  obtain ⟨a, a2, S, rn, rt, rs, ty, m, c, pt, pn, x⟩ := x
  have o := x.2.2.1.1
  refine s2 x.2.2.1.2.1 o (fun d h1 f t1 => ?_) (fun d => ?_)
  · have M := x.mx (frP.y (R := nP) f) (fun b k b0 b1 => by unfold txA; omega)
    refine ⟨x.mc (frP.y (R := nP) f) (fun k => by unfold txA; omega), ?_⟩
    refine s147 M.2.2.2.1 o (fun d2 h2 f2 t2 => ⟨rfl, x.tp f f2 ⟨cut_ok o d, ?_, t2⟩⟩) (fun d2 => absurd d d2)
    exact t1.fr f2 (fun k => by unfold mtA; omega)
  · exact ⟨x.m0, s147 x.2.2.1.2.2 o (fun d2 => absurd d2 d) (fun _ => ⟨rfl, x.r0⟩)⟩
/-- source, undo, rounds: what may be changed -/
def wrP (b : Nat) (k : Int) : Prop := (54 ≤ b ∧ b ≤ 86) ∨ (5 ≤ b ∧ b < 37) ∨ xpA b k ∨ (b = 3 ∧ k = 1) ∨ (127 ≤ b ∧ b ≤ 169 ∧ ¬ nRm b k ∧ ¬ b = 129 ∧ ¬ b = 130)
theorem cia.st (x : cia h a a2 S rn rt rs ty m c pt pn) (F : frY P R h h2) (d : ∀ b k, P b k → wrP b k) (r : ∀ b k, R b k → xRc b ∨ b = 2) (n : nx h2 ≤ nx h + 15) (s : sc h2 ≤ sc h + 798) (yS : ciS h2 b b2 S2) (yT : ciT h2 ty2 m2) (yP : ciP h2 c2 pt2 pn2) : ciX h h2 := by
  obtain ⟨xS, xR, xT, xP, xK, xF⟩ := x
  have l := xF.1
  have F : frY wrP (fun b _ => xRc b ∨ b = 2) h h2 := F.mo d r
  refine ciX.mk F l (fun k => by unfold wrP xpA; omega) n s ⟨b, b2, S2, rn, rt, rs, ty2, m2, c2, pt2, pn2, yS, ?_, yT, yP, ?_, ?_⟩
  · exact xR.fy F xF (fun b k b0 => by unfold wrP xpA; omega) (fun k => by unfold xRc; omega) (fun b k q z => by
      have q2 := q
      unfold nRm at q2
      unfold wrP xpA at z
      rcases z with z | z | z | z | z
      · omega
      · omega
      · omega
      · omega
      · exact z.2.2.1 q)
  · exact xK.fy F xF (fun b k b0 b1 => by unfold wrP xpA; omega) (fun b k b0 => by unfold wrP xpA; omega) (fun k => by unfold xRc; omega) (fun k => by unfold wrP xpA; omega)
  · exact xF.fy F (fun k => by unfold xRc; omega)
theorem paT_sK (p : ∀ i, 0 ≤ i → i < c → sK (pt i, pn i)) (hc : 0 ≤ c ∧ c ≤ 8) (g : sK S) : ∀ i, 0 ≤ i → i < paN c → sK (paT c pt S.1 i, paT c pn S.2 i) := by
  intro i i0 i1
  unfold paN at i1
  unfold paT
  by_cases e : c = 8
  · rw [if_pos e] at i1
    rw [if_pos e, if_pos e]
    by_cases z : i = 7
    · rw [if_pos z, if_pos z]; exact g
    · rw [if_neg z, if_neg z]; exact p _ (by omega) (by omega)
  · rw [if_neg e] at i1
    rw [if_neg e, if_neg e]
    by_cases z : i = c
    · rw [if_pos z, if_pos z]; exact g
    · rw [if_neg z, if_neg z]; exact p _ (by omega) (by omega)
theorem g3 (x : CI h) : zC1 3 [vR 2 100] h (fun r h1 => ciM h h1 ∧ zC1 162 [vR 127 111] h1 (fun w h2 => r = w ∧ ciX h h2)) := by
  obtain ⟨a, a2, S, rn, rt, rs, ty, m, c, pt, pn, x⟩ := x
  have o := x.2.2.1.1
  have g := x.1.2.1
  have l := x.2.2.2.2.2.1
  have w7 := x.1.1.2.2.2.2.2.2
  have pc := x.2.2.2.1.1
  refine s3 x.1.1 g x.1.2.2.1 x.2.2.1.2.1 o x.2.2.2.1.1 (fun nd2 nc2 T2 C2 e2 h1 f1 W1 N1 P1 z1 => ?_) (fun e h1 f1 z1 => ?_)
  · have F1 : frX xsA xsR h h1 := f1
    have M := x.mx F1.y (fun b k b0 b1 => by unfold xsA xpA; omega)
    refine ⟨x.mc F1.y (fun k => by unfold xsA xpA; omega), ?_⟩
    refine s162 g M.1 M.2.2.2.1 o M.2.2.2.2.1 M.2.2.2.2.2.1 (fun nd3 nc3 T3 C3 e3 h2 f2 N2 P2 z2 => ?_) (fun e3 => ?_)
    · have F2 : frX msA nP h1 h2 := f2.x
      refine ⟨(sK_of e2).1.symm.trans (sK_of e3).1, ?_⟩
      have F : frY (fun b k => xsA b k ∨ msA b k) xsR h h2 := (F1.y.mo (fun b k q => Or.inl q) (fun _ _ q => q)).tr (F2.y.mo (fun b k q => Or.inr q) (fun _ _ q => q.elim))
      refine x.st (b := a2) (b2 := a) (S2 := (ty, m)) F (fun b k q => ?_) (fun b k q => Or.inr q.1) (by rw [F2.nn, F1.nn]; omega) (by rw [F2.cc, F1.cc]; omega) ⟨W1.fr f2, sK_i e2, xQs_i e2 (N1.fr f2 (fun b k b0 b1 => ?_)), yS_i e3 N2⟩ (ciT_0 (by rw [f2.1 _ _ (by unfold msA mbA mRA mA mpA mtB; omega)]; exact z1) (F.le (by omega) x.2.2.1.2.1.2.1) z2) ⟨P1.fr f2 (fun b k q => ?_), P2, paT_sK x.2.2.2.1.2.2 ⟨pc.2.2.1, pc.2.2.2.1⟩ g⟩
      · unfold xsA msA mbA mRA mA mpA mtB at q
        unfold wrP nRm
        rcases q with (q | q | q) | q
        · omega
        · omega
        · exact Or.inr (Or.inr (Or.inl q))
        · omega
      · unfold msA mbA mRA mA mpA mtB; omega
      · unfold xpA at q; unfold msA mbA mRA mA mpA mtB; omega
    · rw [e2.2] at e3; cases e3
  · have F1 : frX (fun b k => (b = 3 ∧ k = 1) ∨ (a2 ≤ b ∧ b < a2 + 16)) nP h h1 := f1
    have M := x.mx F1.y (fun b k b0 b1 => by omega)
    refine ⟨x.mc F1.y (fun k => by omega), ?_⟩
    refine s162 g M.1 M.2.2.2.1 o M.2.2.2.2.1 M.2.2.2.2.2.1 (fun nd3 nc3 T3 C3 e3 => ?_) (fun e3 h2 f2 N2 P2 z2 => ⟨rfl, ?_⟩)
    · rw [e3.2] at e; cases e
    · have F2 : frX (fun b k => mRA b k ∨ mtB b k ∨ (b = 127 ∧ k = 0)) nP h1 h2 := f2.x
      have F : frY (fun b k => ((b = 3 ∧ k = 1) ∨ (a2 ≤ b ∧ b < a2 + 16)) ∨ (mRA b k ∨ mtB b k ∨ (b = 127 ∧ k = 0))) nP h h2 := (F1.y.mo (fun b k q => Or.inl q) (fun _ _ q => q)).tr (F2.y.mo (fun b k q => Or.inr q) (fun _ _ q => q))
      refine x.st (b := a) (b2 := a2) (S2 := S) F (fun b k q => ?_) (fun b k q => q.elim) (by rw [F2.nn, F1.nn]; omega) (by rw [F2.cc, F1.cc]; omega) ⟨x.1.1.fy F l ⟨fun q => q, fun q => q⟩, g, xN.fy x.1.2.2.1 F (by omega) (fun b k b0 b1 => ?_), N2⟩ (ciT_0 (by rw [f2.1 _ _ (by unfold mRA mA mtB; omega)]; exact z1) (F.le (by omega) x.2.2.1.2.1.2.1) z2) ⟨x.2.2.2.1.1.fy F l (fun b k q => ?_) (fun k q => q), P2, x.2.2.2.1.2.2⟩
      · unfold mRA mA mtB at q
        unfold wrP nRm
        omega
      · unfold mRA mA mtB; omega
      · unfold xpA at q; unfold mRA mA mtB; omega
theorem g26 (x : CI h) : zC1 26 [vR 2 100] h (fun r h1 => ciM h h1 ∧ zC1 252 [vR 127 111] h1 (fun w h2 => r = w ∧ ciX h h2)) := by
  obtain ⟨a, a2, S, rn, rt, rs, ty, m, c, pt, pn, x⟩ := x
  have l := x.2.2.2.2.2.1
  have w7 := x.1.1.2.2.2.2.2.2
  have g : 0 < c → sK (pt (c - 1), pn (c - 1)) := fun q => x.2.2.2.1.2.2 _ (by omega) (by omega)
  refine s26 x.1.1 x.2.2.2.1.1 g (fun q h1 f1 N1 P1 => ?_) (fun q => ?_)
  · have F1 : frX (fun b k => (a ≤ b ∧ b < a + 16) ∨ xpA b k) nP h h1 := f1.x
    have M := x.mx F1.y (fun b k b0 b1 => by unfold xpA; omega)
    refine ⟨x.mc F1.y (fun k => by unfold xpA; omega), ?_⟩
    refine s252 M.2.2.2.2.1 g (fun q2 h2 f2 N2 P2 => ⟨rfl, ?_⟩) (fun q2 => absurd q q2)
    have F2 : frX (fun b k => mbA b k ∨ (b = 127 ∧ (k = 0 ∨ k = 5))) nP h1 h2 := f2.x
    have F : frY (fun b k => ((a ≤ b ∧ b < a + 16) ∨ xpA b k) ∨ (mbA b k ∨ (b = 127 ∧ (k = 0 ∨ k = 5)))) nP h h2 := (F1.y.mo (fun b k q => Or.inl q) (fun _ _ q => q)).tr (F2.y.mo (fun b k q => Or.inr q) (fun _ _ q => q))
    refine x.st (b := a) (b2 := a2) (S2 := (pt (c - 1), pn (c - 1))) F (fun b k q => ?_) (fun b k q => q.elim) (by rw [F2.nn, F1.nn]; omega) (by rw [F2.cc, F1.cc]; omega) ⟨x.1.1.fy F l ⟨fun q => q, fun q => q⟩, g q, xN.fr N1 f2 (fun b k b0 b1 => ?_), N2⟩ (x.2.2.1.fy F l (fun k => ?_) ⟨?_, fun k => ?_⟩) ⟨P1.fr f2 (fun b k q => ?_), P2, fun i i0 i1 => x.2.2.2.1.2.2 i i0 (by omega)⟩
    · unfold mbA mRA mA at q
      unfold wrP nRm
      rcases q with (q | q) | q
      · omega
      · exact Or.inr (Or.inr (Or.inl q))
      · omega
    · unfold mbA mRA mA; omega
    · unfold xpA mbA mRA mA; omega
    · unfold xpA mbA mRA mA; omega
    · unfold xpA mbA mRA mA; omega
    · unfold xpA at q; unfold mbA mRA mA; omega
  · exact ⟨x.m0, s252 x.2.2.2.1.2.1 g (fun q2 => absurd q2 q) (fun _ => ⟨rfl, x.r0⟩)⟩
/-- rounds -/
theorem cia.rw (x : cia h a a2 S rn rt rs ty m c pt pn) (f1 : frX xrA xrR h h1) (f2 : frP mrA h1 h2) (W : xW h1 b b2) (g : sK S2) (y : xQs h1 b S2) (y2 : yS h2 S2) (p1 : xPa h1 (paN c) (paT c pt S.1) (paT c pn S.2)) (p2 : mPa h2 (paN c) (paT c pt S.1) (paT c pn S.2)) : ciX h h2 := by
  have l := x.2.2.2.2.2.1
  have pc := x.2.2.2.1.1
  have w7 := W.2.2.2.2.2.2
  have F2 : frX mrA nP h1 h2 := f2.x
  have F : frY (fun b k => xrA b k ∨ mrA b k) xrR h h2 := (f1.y.mo (fun b k q => Or.inl q) (fun _ _ q => q)).tr (F2.y.mo (fun b k q => Or.inr q) (fun _ _ q => q.elim))
  refine x.st (b := b) (b2 := b2) (S2 := S2) F (fun b k q => ?_) (fun b k q => ?_) (by rw [F2.nn, f1.nn]; omega) (by rw [F2.cc, f1.cc]; omega) ⟨W.fr f2, g, xN.fr y f2 (fun b k b0 b1 => ?_), y2⟩ (x.2.2.1.fy F l (fun k => ?_) ⟨?_, fun k => ?_⟩) ⟨p1.fr f2 (fun b k q => ?_), p2, paT_sK x.2.2.2.1.2.2 ⟨pc.2.2.1, pc.2.2.2.1⟩ x.1.2.1⟩
  · unfold xrA xAA mrA mwA mST meA edA mcA cwA hlA gWB gWA bgA mbA mRA mA mpA at q
    unfold wrP nRm
    rcases q with (q | q | q) | q
    · omega
    · omega
    · exact Or.inr (Or.inr (Or.inl q))
    · omega
  · unfold xrR fiR at q; unfold xRc; omega
  · unfold mrA mwA mST meA edA mcA cwA hlA gWB gWA bgA mbA mRA mA mpA; omega
  · unfold xrA xAA xpA mrA mwA mST meA edA mcA cwA hlA gWB gWA bgA mbA mRA mA mpA; omega
  · unfold xrA xAA xpA mrA mwA mST meA edA mcA cwA hlA gWB gWA bgA mbA mRA mA mpA; omega
  · unfold xrA xAA xpA mrA mwA mST meA edA mcA cwA hlA gWB gWA bgA mbA mRA mA mpA; omega
  · unfold xpA at q; unfold mrA mwA mST meA edA mcA cwA hlA gWB gWA bgA mbA mRA mA mpA; omega
theorem cia.wk (x : cia h a a2 S rn rt rs ty m c pt pn) (f1 : frX (stA a2) fiR h h1) (f2 : frP mwA h1 h2) : ciX h h2 := x.ro f1 (fun b k q => by unfold stA xAA at q; unfold xSc; omega) (fun b k q => by unfold fiR at q; unfold xRc; omega) f2 (fun b k q => by unfold mwA mST meA mcA edA cwA hlA gWB gWA bgA mA at q; unfold mSc; omega)
theorem g23 (x : CI h) {i : Int} : zC1 23 [vR 2 100, vI i] h (fun r h1 => ciM h h1 ∧ zC1 246 [vR 127 111, vI i] h1 (fun w h2 => r = w ∧ ciX h h2)) := by
  obtain ⟨a, a2, S, rn, rt, rs, ty, m, c, pt, pn, x⟩ := x
  have w7 := x.1.1.2.2.2.2.2.2
  refine s23 x.1.1 x.1.2.1 x.1.2.2.1 x.2.2.2.2.2.2.2.1 x.2.2.2.1.1 x.2.1.1 x.2.1.2.1 (fun q1 q2 h1 f1 W1 y1 p1 => ?_) (fun q h1 f1 => ?_)
  · have M := x.mx f1.y (fun b k b0 b1 => by unfold xrA xAA xpA; omega)
    refine ⟨x.mc f1.y (fun k => by unfold xrA xAA xpA; omega), ?_⟩
    exact s246 x.1.2.1 M.1 M.2.2.2.2.2.1 M.2.2.2.2.1 x.2.1.1 M.2.1 (fun _ _ h2 f2 y2 p2 => ⟨rfl, x.rw f1 f2 W1 (nW_K x.1.2.1 x.2.1.1 q2.2) y1 y2 p1 p2⟩) (fun z => absurd ⟨q1, q2⟩ z)
  · have M := x.mx f1.y (fun b k b0 b1 => by unfold stA xAA; omega)
    refine ⟨x.mc f1.y (fun k => by unfold stA xAA; omega), ?_⟩
    exact s246 x.1.2.1 M.1 M.2.2.2.2.2.1 M.2.2.2.2.1 x.2.1.1 M.2.1 (fun z1 z2 => absurd ⟨z1, z2⟩ q) (fun _ h2 f2 => ⟨rfl, x.wk f1 f2⟩)
end WR
