/-! Two tests ask the same: the pure answer, and that of the program. -/
def tRg (s : pS) (y : tst) : Prop := (0 ≤ y.2.1 ∧ y.2.1 < s 0 0 1) ∧ (0 ≤ y.1 ∧ y.1 ≤ 5) ∧ (y.1 = 4 → 0 ≤ y.2.2 ∧ y.2.2 < s 0 0 1) ∧ (y.1 = 0 → s 1 y.2.1 0 = 3) ∧ (y.1 = 1 ∨ y.1 = 2 → s 1 y.2.1 0 = 4) ∧ (y.1 = 3 → s 1 y.2.1 0 = 1)
theorem tGd.rg {s : pS} {A : List tst} {y : tst} (g : tGd s A y) : tRg s y := by
  obtain ⟨g1, _, g3⟩ := g
  unfold tRg
  refine ⟨g1, ?_, ?_, ?_, ?_, ?_⟩
  · rcases g3 with q | q | q | q | q <;> omega
  · intro c; rcases g3 with q | q | q | q | q
    · omega
    · omega
    · omega
    · omega
    · exact q.2.2.1
  · intro c; rcases g3 with q | q | q | q | q <;> omega
  · intro c; rcases g3 with q | q | q | q | q <;> omega
  · intro c; rcases g3 with q | q | q | q | q <;> omega
theorem rwG.rg {s : pS} : ∀ {L A : List tst}, rwG s A L → ∀ y, y ∈ L → tRg s y
  | [], _, _, y, hy => by cases hy
  | x :: L, A, g, y, hy => by
    rcases List.mem_cons.1 hy with q | q
    · rw [q]; exact g.1.rg
    · exact rwG.rg g.2 y q
def tsm (w w2 : Int → Int) (s s2 : pS) (y y2 : tst) : Prop := y.1 = y2.1 ∧ pth s y.2.1 = pth s2 y2.2.1 ∧ (y.1 = 2 → s 1 y.2.1 6 = s2 1 y2.2.1 6) ∧ (y.1 = 3 → s 1 y.2.1 2 = s2 1 y2.2.1 2) ∧ (y.1 = 4 → pth s y.2.2 = pth s2 y2.2.2) ∧ (y.1 = 5 → sTk w w2 s s2 y.2.1 y2.2.1) ∧ (y.1 = 0 ∨ y.1 = 1 → sWd w w2 s s2 y.2.1 y2.2.1)
section XM
variable {h : zH} {w w2 : Int → Int} {m m2 : Int} {s s2 : pS} {r r2 : Nat}
theorem nz103 {a : Nat} (q : zty 103 a h) : ¬ a = 0 := fun z => by
  have q : 2 ≤ a ∧ a < nx h ∧ tg h a = 3 ∧ (1 = 1 ∨ ln h a = 0) := q
  omega
theorem s111 {p1 p3 : Int} {y y2 : tst} (hp1 : 0 ≤ p1 ∧ p1 < 320) (hp3 : 0 ≤ p3 ∧ p3 < 40) (p : xPt h r w m s) (o : tOk w m) (x : rEn w m 0 0 s) (p8 : rP8 s) (p2 : xPt h r2 w2 m2 s2) (o2 : tOk w2 m2) (x2 : rEn w2 m2 0 0 s2) (p82 : rP8 s2) (g : tRg s y) (g2 : tRg s2 y2) (er : gR h 69 p1 = r) (e1 : gI h 68 p1 = y.1) (e2 : gI h 70 p1 = y.2.1) (e3 : gI h 71 p1 = y.2.2) (f1 : gI h 64 p3 = y2.1) (f2 : gI h 65 p3 = y2.2.1) (f3 : gI h 66 p3 = y2.2.2) {K : Int → zH → Prop} (k : K (b2i (tsm w w2 s s2 y y2)) h) : zC1 111 [vR 63 106, vI p1, vR r2 103, vI p3] h K := by
  have N := x.N
  have N2 := x2.N
  obtain ⟨ga, gb, gc, gd⟩ := g
  obtain ⟨ga2, gb2, gc2, gd2⟩ := g2
  have a6 : gI h (r + 9) y.2.1 = s 1 y.2.1 6 := p.2.2.1 _ 6 ga.1 ga.2 (by omega)
  have b6 : gI h (r2 + 9) y2.2.1 = s2 1 y2.2.1 6 := p2.2.2.1 _ 6 ga2.1 ga2.2 (by omega)
  have a2 : gI h (r + 5) y.2.1 = s 1 y.2.1 2 := p.2.2.1 _ 2 ga.1 ga.2 (by omega)
  have b2 : gI h (r2 + 5) y2.2.1 = s2 1 y2.2.1 2 := p2.2.2.1 _ 2 ga2.1 ga2.2 (by omega)
  refine cI (k111_0 p1 r2 p3 h _ ?_)
  rw [er, e1, f1, e2, f2]
  refine ⟨hp1.1, hp1.2, p.1, fun z => absurd z (nz103 p.1), fun _ => ⟨hp1.1, hp1.2, hp3.1, hp3.2, fun c => ⟨Or.inl rfl, zq1 ?_⟩, fun c => ⟨hp1.1, hp1.2, hp3.1, hp3.2, s73 p x p8 p2 x2 p82 ga.1 ga.2 ga2.1 ga2.2 ?_⟩⟩⟩
  · rwa [b2i_neg (fun q => c q.1)] at k
  have c := Classical.not_not.1 c
  rw [f1, e2, f2, e3, f3, a6, b6, a2, b2]
  refine ⟨fun d => ?_, fun d => ⟨Or.inl rfl, zq1 ?_⟩⟩
  · rw [b2i_ne0] at d
    refine ⟨hp3.1, hp3.2, fun t2 => ⟨hp1.1, hp1.2, ga.1, by omega, hp3.1, hp3.2, ga2.1, by omega, fun z => ⟨Or.inl rfl, zq1 ?_⟩, fun z => ⟨Or.inr rfl, zq1 ?_⟩⟩, fun t2 => ⟨fun t3 => ⟨hp1.1, hp1.2, ga.1, by omega, hp3.1, hp3.2, ga2.1, by omega, fun z => ⟨Or.inl rfl, zq1 ?_⟩, fun z => ⟨Or.inr rfl, zq1 ?_⟩⟩, fun t3 => ⟨fun t4 => ⟨hp1.1, hp1.2, hp3.1, hp3.2, s73 p x p8 p2 x2 p82 (gc (by omega)).1 (gc (by omega)).2 (gc2 (by omega)).1 (gc2 (by omega)).2 ⟨b2i_01, zq1 ?_⟩⟩, fun t4 => ⟨fun t5 => ⟨hp1.1, hp1.2, hp3.1, hp3.2, s72 p o x p2 o2 x2 ga.1 ga.2 ga2.1 ga2.2 ⟨b2i_01, zq1 ?_⟩⟩, fun t5 => ⟨hp1.1, hp1.2, hp3.1, hp3.2, s71 p o x p2 o2 x2 ga.1 ga.2 ga2.1 ga2.2 ⟨b2i_01, zq1 ?_⟩⟩⟩⟩⟩⟩
    · rwa [b2i_neg (fun q => z (q.2.2.1 (by omega)))] at k
    · rwa [b2i_pos (show tsm w w2 s s2 y y2 from ⟨c, d, fun _ => Classical.not_not.1 z, fun q => by omega, fun q => by omega, fun q => by omega, fun q => by omega⟩)] at k
    · rwa [b2i_neg (fun q => z (q.2.2.2.1 (by omega)))] at k
    · rwa [b2i_pos (show tsm w w2 s s2 y y2 from ⟨c, d, fun q => by omega, fun _ => Classical.not_not.1 z, fun q => by omega, fun q => by omega, fun q => by omega⟩)] at k
    · rwa [b2i_congr (show tsm w w2 s s2 y y2 ↔ pth s y.2.2 = pth s2 y2.2.2 from ⟨fun q => q.2.2.2.2.1 (by omega), fun z => ⟨c, d, fun q => by omega, fun q => by omega, fun _ => z, fun q => by omega, fun q => by omega⟩⟩)] at k
    · rwa [b2i_congr (show tsm w w2 s s2 y y2 ↔ sTk w w2 s s2 y.2.1 y2.2.1 from ⟨fun q => q.2.2.2.2.2.1 (by omega), fun z => ⟨c, d, fun q => by omega, fun q => by omega, fun q => by omega, fun _ => z, fun q => by omega⟩⟩)] at k
    · rwa [b2i_congr (show tsm w w2 s s2 y y2 ↔ sWd w w2 s s2 y.2.1 y2.2.1 from ⟨fun q => q.2.2.2.2.2.2 (by omega), fun z => ⟨c, d, fun q => by omega, fun q => by omega, fun q => by omega, fun q => by omega, fun _ => z⟩⟩)] at k
  · rw [b2i_ne0] at d
    rwa [b2i_neg (fun q => d q.2.1)] at k
end XM
