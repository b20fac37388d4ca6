/-! source and undo. -/
/-- ints but at P, references but at R, have stayed; cells too -/
def frG (P R : Nat → Int → Prop) (h h1 : zH) : Prop := (∀ b k, ¬ P b k → gI h1 b k = gI h b k) ∧ (∀ b k, ¬ R b k → gR h1 b k = gR h b k) ∧ h1.2.2 = h.2.2
theorem frG.of {P R : Nat → Int → Prop} {h h1 : zH} (f : frP P h h1) : frG P R h h1 := ⟨f.1, fun b k _ => f.rr b k, by rw [f.2]⟩
theorem frG.tr {P R : Nat → Int → Prop} {h h1 h2 : zH} (x : frG P R h h1) (y : frG P R h1 h2) : frG P R h h2 := ⟨fun b k n => (y.1 b k n).trans (x.1 b k n), fun b k n => (y.2.1 b k n).trans (x.2.1 b k n), y.2.2.trans x.2.2⟩
theorem frG.mo {P R P' R' : Nat → Int → Prop} {h h1 : zH} (x : frG P R h h1) (i : ∀ b k, P b k → P' b k) (j : ∀ b k, R b k → R' b k) : frG P' R' h h1 := ⟨fun b k n => x.1 b k (fun q => n (i b k q)), fun b k n => x.2.1 b k (fun q => n (j b k q)), x.2.2⟩
theorem frG.ty {P R : Nat → Int → Prop} {h h1 : zH} (x : frG P R h h1) (t a : Nat) : zty t a h1 = zty t a h := by
  unfold zty nx tg ln; rw [x.2.2]
theorem frG.le {P R : Nat → Int → Prop} {h h1 : zH} (x : frG P R h h1) (a : Nat) : ln h1 a = ln h a := by unfold ln; rw [x.2.2]
/-- what source may change in the class -/
def xsA (b : Nat) (k : Int) : Prop := (b = 3 ∧ k = 1) ∨ (5 ≤ b ∧ b < 37) ∨ xpA b k
def xsR (b : Nat) (k : Int) : Prop := b = 2 ∧ (k = 1 ∨ k = 2)
section SO
variable {h : zH} {a a2 : Nat} {t : Int → Int} {n nd nc : Int} {T C : pT} {ty : Int → Int} {m c : Int} {pt : Int → Int → Int} {pn : Int → Int}
theorem s3 (w : xW h a a2) (g : sF t n nd nc T C) (x : xN h a t n nd nc T C) (y : Txt h 3 ty m) (o : tOk ty m) (p : xPa h c pt pn) {K : Int → zH → Prop}
    (k1 : ∀ nd2 nc2 T2 C2, sF ty m nd2 nc2 T2 C2 → ∀ h1, frG xsA xsR h h1 → xW h1 a2 a → xN h1 a2 ty m nd2 nc2 T2 C2 → xPa h1 (paN c) (paT c pt t) (paT c pn n) → gI h1 3 1 = 0 → K nd2 h1)
    (k2 : (pread ty m).1 = false → ∀ h1, frG (fun b k => (b = 3 ∧ k = 1) ∨ (a2 ≤ b ∧ b < a2 + 16)) (fun _ _ => False) h h1 → gI h1 3 1 = 0 → K (-1000 - (pread ty m).2.1) h1) : zC1 3 [vR 2 100] h K := by
  have o2 := o.2.1
  have rg := pread_rg o
  obtain ⟨w1, w2, w3, w4, w5, w6, w7⟩ := w
  have ww : xW h a a2 := ⟨w1, w2, w3, w4, w5, w6, w7⟩
  refine cI (k3_0 h _ ?_)
  rw [w2]
  refine ⟨w4, ?_⟩
  have sub : ∀ b k, srB a2 b k → (a2 ≤ b ∧ b < a2 + 16) := fun b k q => by unfold srB srA txA at q; omega
  by_cases ok : (pread ty m).1 = true
  · have g2 := sF_of o ok
    generalize (pread ty m).2.2.1 = nd2 at g2
    generalize (pread ty m).2.2.2.1 = nc2 at g2
    generalize (pread ty m).2.2.2.2.2.1 = T2 at g2
    generalize (pread ty m).2.2.2.2.2.2 = C2 at g2
    refine s50g g2 y w6 (by omega) (fun h5 f5 x5 h6 e6 => ⟨fun _ => ?_, fun q => absurd (by omega) q⟩)
    have f6 : frP (fun b k => (b = 3 ∧ k = 1) ∨ (a2 ≤ b ∧ b < a2 + 16)) h h6 := by rw [e6]; exact (f5.mo (fun b k q => Or.inr (sub b k q))).st (Or.inl ⟨rfl, rfl⟩)
    have w6' := ww.fr f6
    rw [w6'.1]
    have xt : Txt h6 (a + 1) t n := x.1.fr f6 (fun k => by omega)
    have p6 := p.fr f6 (fun b k q => by unfold xpA at q; omega)
    have n6 : xN h6 a2 ty m nd2 nc2 T2 C2 := x5.fr (P := fun b k => b = 3 ∧ k = 1) (by rw [e6]; exact frP.rf.st ⟨rfl, rfl⟩) (fun b k q1 q2 => by omega)
    refine ⟨w6'.2.2.1, s135 p6 xt g.1 (by omega) (fun h7 f7 p7 => ?_)⟩
    have w7' := w6'.fr f7
    have n7 := n6.fr f7 (fun b k q1 q2 => by unfold xpA; omega)
    refine s37 (by rw [w7'.1]; exact w7'.2.2.1) (by rw [w7'.2.1]; exact w7'.2.2.2.1) ?_
    rw [w7'.1, w7'.2.1]
    -- the heap with now and spare turned
    have i8 : ∀ b k, gI (sR (sR h7 2 1 a2) 2 2 a) b k = gI h7 b k := fun b k => rfl
    have r1 : gR (sR (sR h7 2 1 a2) 2 2 a) 2 1 = a2 := by rw [gRR, if_neg (by omega), gRR, if_pos ⟨rfl, rfl⟩]
    have r2 : gR (sR (sR h7 2 1 a2) 2 2 a) 2 2 = a := by rw [gRR, if_pos ⟨rfl, rfl⟩]
    have ro : ∀ b k, ¬ (b = 2 ∧ (k = 1 ∨ k = 2)) → gR (sR (sR h7 2 1 a2) 2 2 a) b k = gR h7 b k := fun b k q => by rw [gRR, if_neg (by omega), gRR, if_neg (by omega)]
    rw [r1]
    have z14 : gI (sR (sR h7 2 1 a2) 2 2 a) a2 14 = nd2 := n7.2.1
    rw [z14]
    refine ⟨w7'.2.2.2.1, zq1 (k1 nd2 nc2 T2 C2 g2 _ ?_ ?_ n7 ?_ ?_)⟩
    · refine ((frG.of f6).mo (fun b k q => ?_) (fun b k q => q)).tr (((frG.of f7).mo (fun b k q => ?_) (fun b k q => q)).tr ⟨fun b k _ => rfl, fun b k q => ro b k q, rfl⟩)
      · unfold xsA; omega
      · exact Or.inr (Or.inr q)
    · exact ⟨r1, r2, w7'.2.2.2.1, w7'.2.2.1, w7'.2.2.2.2.2.1, w7'.2.2.2.2.1, by omega⟩
    · obtain ⟨q1, q2⟩ := p7
      refine ⟨fun j h0 h1 => ?_, q2⟩
      have := q1 j h0 h1
      rw [ro _ _ (by omega)]
      exact this
    · show gI h7 3 1 = 0
      rw [f7.1 _ _ (by unfold xpA; omega), e6, gS1]
  · have ok : (pread ty m).1 = false := by simpa using ok
    refine s50b o ok y w6 (by omega) (fun h5 f5 g5 h6 e6 => ⟨fun q => absurd rfl q, fun _ => ?_⟩)
    have f6 : frP (fun b k => (b = 3 ∧ k = 1) ∨ (a2 ≤ b ∧ b < a2 + 16)) h h6 := by rw [e6]; exact (f5.mo (fun b k q => Or.inr (sub b k q))).st (Or.inl ⟨rfl, rfl⟩)
    have w6' := ww.fr f6
    have z : gI h6 a2 16 = (pread ty m).2.1 := by rw [e6, gS, if_neg (by omega)]; exact g5
    rw [w6'.2.1, z]
    exact ⟨w6'.2.2.2.1, by unfold inR; omega, zq1 (k2 ok h6 (frG.of f6) (by rw [e6, gS1]))⟩
theorem s26 (w : xW h a a2) (p : xPa h c pt pn) (g : 0 < c → sF (pt (c - 1)) (pn (c - 1)) nd nc T C) {K : Int → zH → Prop}
    (k1 : 0 < c → ∀ h1, frP (fun b k => (a ≤ b ∧ b < a + 16) ∨ xpA b k) h h1 → xN h1 a (pt (c - 1)) (pn (c - 1)) nd nc T C → xPa h1 (c - 1) pt pn → K (c - 1) h1) (k2 : ¬ 0 < c → K (-3) h) : zC1 26 [vR 2 100] h K := by
  have ww := w
  obtain ⟨w1, w2, w3, w4, w5, w6, w7⟩ := w
  refine cI (k26_0 h _ (s136 p (fun q b h3 f3 b0 b1 tb to tx p3 => ⟨fun _ => ?_, fun d => absurd (by omega) d⟩) (fun q => ⟨fun d => absurd rfl d, fun _ => zq1 (k2 q)⟩)))
  have w3' := ww.fr f3
  rw [w3'.1]
  refine ⟨w3'.2.2.1, tb, s50g (g q) tx w3'.2.2.2.2.1 (by omega) (fun h4 f4 x4 => ?_)⟩
  have F : frP (fun b k => (a ≤ b ∧ b < a + 16) ∨ xpA b k) h h4 := (f3.mo (fun b k q => Or.inr q)).tr (f4.mo (fun b k q => Or.inl (by unfold srB srA txA at q; omega)))
  have p4 := p3.fr f4 (fun b k q q2 => by unfold xpA at q; unfold srB srA txA at q2; omega)
  rw [p4.2.1]
  exact zq1 (k1 q h4 F x4 p4)
def msA (b : Nat) (k : Int) : Prop := mbA b k ∨ mpA b k ∨ mtB b k ∨ (b = 127 ∧ k = 0)
theorem s162 (g : sF t n nd nc T C) (x : mN h t n nd nc T C) (y : mTx h ty m) (o : tOk ty m) (p : mPa h c pt pn) (l : ln h 128 = 2709) {K : Int → zH → Prop}
    (k1 : ∀ nd2 nc2 T2 C2, sF ty m nd2 nc2 T2 C2 → ∀ h1, frP msA h h1 → mN h1 ty m nd2 nc2 T2 C2 → mPa h1 (paN c) (paT c pt t) (paT c pn n) → gI h1 127 7 = 0 → K nd2 h1)
    (k2 : (pread ty m).1 = false → ∀ h1, frP (fun b k => mRA b k ∨ mtB b k ∨ (b = 127 ∧ k = 0)) h h1 → mN h1 t n nd nc T C → mPa h1 c pt pn → gI h1 127 7 = 0 → K (-1000 - (pread ty m).2.1) h1) : zC1 162 [vR 127 111] h K := by
  have o2 := o.2.1
  have rg := pread_rg o
  have hn := g.hn
  refine cI (k162_0 h _ (fun h6 e6 => ?_))
  have f6 : frP (fun b k => b = 127 ∧ k = 0) h h6 := by rw [e6]; exact frP.rf.st ⟨rfl, rfl⟩
  have y6 := y.fr f6 ⟨by omega, fun k => by omega⟩
  refine s161 y6 o (fun h7 f7 b7 z7 => ?_)
  refine s155 o b7 (fun v h8 w8 ev => ?_)
  obtain ⟨f8, g8, b8⟩ := w8
  have F8 : frP (fun b k => mA b k ∨ mtB b k ∨ (b = 127 ∧ k = 0)) h h8 := ((f6.mo (fun b k q => Or.inr (Or.inr q))).tr (f7.mo (fun b k q => Or.inr (Or.inl q)))).tr (f8.mo (fun b k q => Or.inl q))
  have z8 : gI h8 127 7 = 0 := by rw [f8.1 _ _ (by unfold mA; omega)]; exact z7
  have p8 : mPa h8 c pt pn := by
    obtain ⟨p1, p2, p3, p4⟩ := p
    exact ⟨by rw [F8.1 _ _ (by unfold mA mtB; omega)]; exact p1, p2, p3, fun i i0 i1 => ⟨(p4 i i0 i1).1, rw3_of (p4 i i0 i1).2 (p4 i i0 i1).1.1 (p4 i i0 i1).1.2 (fun j _ _ => F8.1 _ _ (by unfold mA mtB; omega))⟩⟩
  have x8 : mN h8 t n nd nc T C := x.fr hn F8 (fun k _ _ => by unfold mA mtB; omega) (by unfold mA mtB; omega) (fun k => by unfold mA mtB; omega)
  by_cases ok : (pread ty m).1 = true
  · have g2 := sF_of o ok
    generalize (pread ty m).2.2.1 = nd2 at g2
    generalize (pread ty m).2.2.2.1 = nc2 at g2
    generalize (pread ty m).2.2.2.2.2.1 = T2 at g2
    generalize (pread ty m).2.2.2.2.2.2 = C2 at g2
    rw [b2i_pos ok] at ev
    refine ⟨fun _ => ?_, fun q => absurd (by omega) q⟩
    refine s159 p8 (mW_rw x8.1) hn (by omega) (by rw [F8.le, l]; omega) (fun h9 f9 p9 => ?_)
    have b9 : mB h9 ty m := (mBf f8 b7).fr f9 (by unfold mpA; constructor <;> omega)
    refine s160 g2 b9 (fun h10 f10 x10 => ?_)
    rw [x10.2.1]
    refine zq1 (k1 nd2 nc2 T2 C2 g2 h10 ?_ x10 ?_ ?_)
    · refine ((F8.mo (fun b k q => ?_)).tr (f9.mo (fun b k q => Or.inr (Or.inl q)))).tr (f10.mo (fun b k q => Or.inl q))
      rcases q with q | q | q
      · exact Or.inl (Or.inl (Or.inl q))
      · exact Or.inr (Or.inr (Or.inl q))
      · exact Or.inr (Or.inr (Or.inr q))
    · obtain ⟨p1, p2, p3, p4⟩ := p9
      exact ⟨by rw [f10.1 _ _ (by unfold mbA mRA mA; omega)]; exact p1, p2, p3, fun i i0 i1 => ⟨(p4 i i0 i1).1, rw3_of (p4 i i0 i1).2 (p4 i i0 i1).1.1 (p4 i i0 i1).1.2 (fun j _ _ => f10.1 _ _ (by unfold mbA mRA mA; omega))⟩⟩
    · rw [f10.1 _ _ (by unfold mbA mRA mA; omega), f9.1 _ _ (by unfold mpA; omega)]; exact z8
  · have ok : (pread ty m).1 = false := by simpa using ok
    rw [b2i_neg (by simp [ok])] at ev
    have b := b8 ok
    refine ⟨fun q => absurd ev q, fun _ => ?_⟩
    rw [b.2]
    refine ⟨by unfold inR; omega, zq1 (k2 ok h8 (F8.mo (fun b k q => ?_)) x8 p8 z8)⟩
    rcases q with q | q | q
    · exact Or.inl (Or.inl q)
    · exact Or.inr (Or.inl q)
    · exact Or.inr (Or.inr q)
end SO
