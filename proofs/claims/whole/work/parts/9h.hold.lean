/-! Whether a test comes out so at a node. -/
def hld (t w : Int → Int) (T : pT) (s : pS) (v : Int) (y : tst) : Prop :=
  (y.1 = 0 → ¬ T (ndP T v (pth s y.2.1)) 0 = 2 ∧ nmd t w T s (ndP T v (pth s y.2.1)) y.2.1) ∧ (y.1 = 1 → T (ndP T v (pth s y.2.1)) 0 = 2 ∧ nmd t w T s (ndP T v (pth s y.2.1)) y.2.1) ∧ (y.1 = 2 → T (ndP T v (pth s y.2.1)) 3 = s 1 y.2.1 6) ∧ (y.1 = 3 → T (ndP T v (pth s y.2.1)) 0 = s 1 y.2.1 2) ∧ (y.1 = 4 → alk t T (ndP T v (pth s y.2.1)) (ndP T v (pth s y.2.2))) ∧ (y.1 = 5 → ¬ wAl t w T s y.2.1 (ndP T v (pth s y.2.1)) = [])
def tR5 (s : pS) (y : tst) : Prop := y.1 = 5 → ¬ s 1 y.2.1 0 = 5
theorem rwG.r5 {s : pS} : ∀ {L A : List tst}, rwG s A L → ∀ y, y ∈ L → tR5 s y
  | [], _, _, y, hy => by cases hy
  | x :: L, A, g, y, hy => by
    rcases List.mem_cons.1 hy with q | q
    · rw [q]
      intro c
      rcases g.1.2.2 with z | z | z | z | z <;> omega
    · exact rwG.r5 g.2 y q
theorem alk_sy {t : Int → Int} {T : pT} {i j : Int} (q : alk t T i j) : alk t T j i := by
  obtain ⟨q1, q2⟩ := q
  refine ⟨q1.symm, fun z z0 z1 => ?_⟩
  obtain ⟨a1, a2, a3, a4⟩ := q2 z z0 (by omega)
  exact ⟨a1.symm, a2.symm, a3.symm, fun e e0 e1 => (a4 e e0 (by omega)).symm⟩
section HO
variable {h : zH} {t w : Int → Int} {n nd nc m : Int} {T C : pT} {s : pS} {a r : Nat} {v : Int} {y : tst}
theorem s114 {j : Int} (g : sF t n nd nc T C) (x : xN h a t n nd nc T C) (ty : zty 102 a h) (ha : a + 16 ≤ 56 ∨ 77 ≤ a) (p : xPt h r w m s) (hr : 77 ≤ r) (o : tOk w m) (en : rEn w m 0 0 s) (rg : tRg s y) (r5 : tR5 s y) (hj : 0 ≤ j ∧ j < 320) (hv : 0 ≤ v ∧ v < nd) (vd : vdP T v (pth s y.2.1)) (vd4 : y.1 = 4 → vdP T v (pth s y.2.2)) (e1 : gI h 68 j = y.1) (er : gR h 69 j = r) (e2 : gI h 70 j = y.2.1) (e3 : gI h 71 j = y.2.2) {K : Int → zH → Prop}
    (k : ∀ h1, frX (fun b k => b = 76 ∨ fiA b k) fiR h h1 → K (b2i (hld t w T s v y)) h1) : zC1 114 [vR 63 106, vI j, vR a 102, vI v, vR 56 105] h K := by
  have N := en.N
  have hd := g.hd
  obtain ⟨ga, gb, gc, gd, ge, gf⟩ := rg
  have vn := vd_n g hv vd
  have no : ∀ h1, frX (fun b k => b = 76 ∨ fiA b k) fiR h h1 → ¬ hld t w T s v y → K 0 h1 := fun h1 f1 z => by have := k h1 f1; rwa [b2i_neg z] at this
  have yes : ∀ h1, frX (fun b k => b = 76 ∨ fiA b k) fiR h h1 → hld t w T s v y → K 1 h1 := fun h1 f1 z => by have := k h1 f1; rwa [b2i_pos z] at this
  refine cI (k114_0 j a v h _ ?_)
  rw [er, e2]
  refine ⟨hj.1, hj.2, p.1, hj.1, hj.2, fun _ => s116 g x (by omega) p hr en ga.1 ga.2 hv vd (fun h7 f7 => k114_35 j a v r y.2.1 vU _ h7 _ ?_), fun z => absurd (nz103 p.1) z⟩
  have F7 : frX (fun b k => b = 76 ∨ fiA b k) fiR h h7 := (f7.mo (fun b k q => Or.inl q)).x
  have e1' : gI h7 68 j = y.1 := by rw [f7.1 _ _ (by omega)]; exact e1
  have e3' : gI h7 71 j = y.2.2 := by rw [f7.1 _ _ (by omega)]; exact e3
  have x7 : xN h7 a t n nd nc T C := x.fx (f7.x (R := fun _ _ => False)) (fun b k _ _ => by omega)
  have p7 : xPt h7 r w m s := p.fr f7 (fun b k _ _ => by omega)
  have y7 := x7.2.2.2.1 _ vn.1 vn.2
  have g6 : gI h7 (r + 9) y.2.1 = s 1 y.2.1 6 := p7.2.2.1 _ 6 ga.1 ga.2 (by omega)
  have g2 : gI h7 (r + 5) y.2.1 = s 1 y.2.1 2 := p7.2.2.1 _ 2 ga.1 ga.2 (by omega)
  have ty7 : zty 102 a h7 := by rw [f7.ty]; exact ty
  rw [e1', y7.1, y7.2.2.2.1, g6, g2, e3']
  refine ⟨fun _ => ⟨hj.1, hj.2, fun t1 => ⟨vn.1, by omega, fun z => ⟨Or.inl rfl, zq1 (no h7 F7 (fun q => z (q.2.1 t1).1))⟩, fun z => s63 g x7 p7 o en vn ga (Or.inr (ge (Or.inl t1))) ⟨fun z2 => ⟨Or.inl rfl, zq1 (no h7 F7 (fun q => ?_))⟩, fun z2 => ⟨Or.inr rfl, zq1 (yes h7 F7 ?_)⟩⟩⟩, fun t1 => ⟨fun t2 => ⟨vn.1, by omega, ga.1, by omega, fun z => ⟨Or.inl rfl, zq1 (no h7 F7 (fun q => z (q.2.2.1 (by omega))))⟩, fun z => ⟨Or.inr rfl, zq1 (yes h7 F7 ?_)⟩⟩, fun t2 => ⟨fun t3 => ⟨vn.1, by omega, ga.1, by omega, fun z => ⟨Or.inl rfl, zq1 (no h7 F7 (fun q => z (q.2.2.2.1 (by omega))))⟩, fun z => ⟨Or.inr rfl, zq1 (yes h7 F7 ?_)⟩⟩, fun t3 => ⟨fun t4 => ⟨hj.1, hj.2, ?_⟩, fun t4 => ⟨fun t5 => ?_, fun t5 => ⟨vn.1, by omega, fun z => ⟨Or.inl rfl, zq1 (no h7 F7 (fun q => (q.1 (by omega)).1 z))⟩, fun z => s63 g x7 p7 o en vn ga (Or.inl (gd (by omega))) ⟨fun z2 => ⟨Or.inl rfl, zq1 (no h7 F7 (fun q => ?_))⟩, fun z2 => ⟨Or.inr rfl, zq1 (yes h7 F7 ?_)⟩⟩⟩⟩⟩⟩⟩⟩, fun z => absurd (by omega) z⟩
  · rw [b2i_eq0] at z2; exact z2 (q.2.1 t1).2
  · rw [b2i_ne0] at z2
    exact ⟨fun q => by omega, fun _ => ⟨Classical.not_not.1 z, z2⟩, fun q => by omega, fun q => by omega, fun q => by omega, fun q => by omega⟩
  · exact ⟨fun q => by omega, fun q => by omega, fun _ => Classical.not_not.1 z, fun q => by omega, fun q => by omega, fun q => by omega⟩
  · exact ⟨fun q => by omega, fun q => by omega, fun q => by omega, fun _ => Classical.not_not.1 z, fun q => by omega, fun q => by omega⟩
  · have c4 : y.1 = 4 := by omega
    have vn4 := vd_n g hv (vd4 c4)
    refine s116 g x7 (by omega) p7 hr en (gc c4).1 (gc c4).2 hv (vd4 c4) (fun h8 f8 => ?_)
    have x8 : xN h8 a t n nd nc T C := x7.fx (f8.x (R := fun _ _ => False)) (fun b k _ _ => by omega)
    have F8 := F7.tr ((f8.mo (fun b k q => Or.inl q)).x (P := fun b k => b = 76 ∨ fiA b k) (R := fiR))
    refine cI (k115_0 a _ _ h8 _ ⟨fun z => absurd z (by omega), fun _ => s61 g x8 vn vn4 ⟨fun z => ⟨Or.inl rfl, 0, rfl, Or.inl rfl, 0, rfl, ?_⟩, fun z => ⟨Or.inr rfl, 1, rfl, Or.inr rfl, 1, rfl, ?_⟩⟩⟩)
    · rw [b2i_eq0] at z; exact no h8 F8 (fun q => z (q.2.2.2.2.1 c4))
    · rw [b2i_ne0] at z
      exact yes h8 F8 ⟨fun q => by omega, fun q => by omega, fun q => by omega, fun q => by omega, fun _ => z, fun q => by omega⟩
  · have c5 : y.1 = 5 := by omega
    refine s94 (M := 1) g x7 ty7 p7 o en ⟨ga.1, ga.2, r5 c5⟩ vn (by omega) (by omega) ⟨by omega, by omega⟩ (fun l h1 f1 => ⟨fun _ => ⟨Or.inl rfl, zq1 (no h1 (F7.tr (f1.mo (fun b k q => Or.inr q) (fun b k q => q))) (fun q => ?_))⟩, fun z => absurd (by omega) z⟩) (fun l h1 e _ _ f1 => ⟨fun z => absurd z (by omega), fun _ => ⟨Or.inr rfl, zq1 (yes h1 (F7.tr (f1.mo (fun b k q => Or.inr q) (fun b k q => q))) ?_)⟩⟩)
    · exact q.2.2.2.2.2 c5 (List.eq_nil_of_length_eq_zero (by omega))
    · refine ⟨fun q => by omega, fun q => by omega, fun q => by omega, fun q => by omega, fun q => by omega, fun _ z => ?_⟩
      rw [z] at l
      exact absurd l (by show ¬ 1 ≤ 0; omega)
  · rw [b2i_eq0] at z2; exact z2 (q.1 (by omega)).2
  · rw [b2i_ne0] at z2
    exact ⟨fun _ => ⟨z, z2⟩, fun q => by omega, fun q => by omega, fun q => by omega, fun q => by omega, fun q => by omega⟩
theorem s221 {x : Int} {k1 : Nat} (g : sF t n nd nc T C) (ym : mN h t n nd nc T C) (p : mPt h x w m s) (hm : m ≤ 300) (en : rEn w m 0 0 s) (rg : tRg s y) (r5 : tR5 s y) (hk : k1 < 40) (e : mEn h x s k1 y) (ol : plO s y) (hv : 0 ≤ v ∧ v < nd) (vd : vdP T v (pth s y.2.1)) (vd4 : y.1 = 4 → vdP T v (pth s y.2.2)) {K : Int → zH → Prop}
    (k : ∀ h1, frP gWB h h1 → K (b2i (hld t w T s v y)) h1) : zC1 221 [vR 127 111, vI (40 * x + k1), vI v] h K := by
  have hx := p.1
  have t4 := en.t40
  have d1 : iDiv (40 * x + k1) 40 = x := div40 hx (by omega)
  obtain ⟨ga, gb, gc, gd, ge, gf⟩ := rg
  have tk := en.tk3 ga.1 ga.2
  have ct := en.ct ga.1 ga.2
  have vn := vd_n g hv vd
  have hP : 0 ≤ s 4 y.2.1 0 ∧ s 4 y.2.1 0 < s 0 0 3 := ⟨tk.1, by omega⟩
  have nm := g.nm vn.1 vn.2
  obtain ⟨e1, e2, e3, e4, e5⟩ := e
  have l1 := ol.1
  have n6 : y.1 = 2 → s 3 (s 4 y.2.1 0) 1 = s 1 y.2.1 6 := by
    intro q
    have c := en.1.2.2.1 y.2.1 ga.1 ga.2
    unfold cIt at c
    rw [show kid 0 = 3 from rfl] at c
    exact (c.2.1 (ge (Or.inr q))).1
  have n2 : y.1 = 3 → s 3 (s 4 y.2.1 0) 2 = s 1 y.2.1 2 := by intro q; have := gf q; omega
  have wr : y.1 = 0 ∨ y.1 = 1 → (s 3 (s 4 y.2.1 0) 3 = s 1 y.2.1 10 ∧ s 3 (s 4 y.2.1 0) 4 = s 1 y.2.1 11) ∧ 0 ≤ s 3 (s 4 y.2.1 0) 3 ∧ s 3 (s 4 y.2.1 0) 3 + s 3 (s 4 y.2.1 0) 4 ≤ m ∧ m ≤ 300 := by
    intro q
    have o : s 1 y.2.1 0 = 3 ∨ s 1 y.2.1 0 = 4 := by omega
    omega
  have kds : y.1 = 0 → (s 3 (s 4 y.2.1 0) 0 = 3 ∧ isL (w (s 1 y.2.1 10))) ∨ (s 3 (s 4 y.2.1 0) 0 = 4 ∧ isD (w (s 1 y.2.1 10))) := by
    intro q
    have o := gd q
    rcases ct with z | z | z | z | z | z
    · omega
    · omega
    · omega
    · omega
    · exact z.2.2.2.2.2.2.2.2
    · omega
  clear ct
  have fin0 : y.1 = 0 → ∀ kd : Int, (kd = 1 ∧ isL (w (s 1 y.2.1 10))) ∨ (kd = 0 ∧ isD (w (s 1 y.2.1 10))) → zC1 183 [vR 127 111, vI x, vI (s 4 y.2.1 0), vI kd, vI (ndP T v (pth s y.2.1))] h (fun v9 h9 => ((v9 : Int) = 0 ∨ (v9 : Int) = 1) ∧ ∃ v' : Int, (some (vI v9) : Option zV) = some (Sum.inl v') ∧ K v' h9) := by
    intro c kd hk
    have wq := wr (Or.inl c)
    refine s183 g ym p hP t4 vn wq.2 ⟨b2i_01, zq1 ?_⟩
    have := k h frP.rf
    rwa [b2i_congr (show hld t w T s v y ↔ _ from ⟨fun q => ?_, fun q => ?_⟩)] at this
    · rw [wq.1.1, wq.1.2]
      have q0 := q.1 c
      exact ⟨(lit_k g vn nm.1 hk q0.2.2).2 q0.1, q0.2⟩
    · rw [wq.1.1, wq.1.2] at q
      exact ⟨fun _ => ⟨(lit_k g vn nm.1 hk q.2.2).1 q.1, q.2⟩, fun q => by omega, fun q => by omega, fun q => by omega, fun q => by omega, fun q => by omega⟩
  refine cI (k221_0 (40 * x + k1) v h _ ?_)
  rw [d1, e2, e3.1]
  refine ⟨by omega, by omega, by omega, by unfold inR; omega, by omega, by omega, s220 g ym hv vd ⟨by omega, by omega⟩ e3.2 ?_⟩
  rw [e1]
  refine ⟨by omega, by omega, fun t0 => s179 0 p hP t4 (by omega) ⟨fun z => fin0 t0 1 ?_, fun z => fin0 t0 0 ?_⟩, fun t0 => ⟨fun t1 => s183 g ym p hP t4 vn (wr (by omega)).2 ⟨b2i_01, zq1 ?_⟩, fun t1 => ⟨fun t2 => s158 3 (by omega) g ym vn (s179 1 p hP t4 (by omega) ⟨fun z => ⟨Or.inl rfl, zq1 ?_⟩, fun z => ⟨Or.inr rfl, zq1 ?_⟩⟩), fun t2 => ⟨fun t3 => s158 0 (by omega) g ym vn (s179 2 p hP t4 (by omega) ⟨fun z => ⟨Or.inl rfl, zq1 ?_⟩, fun z => ⟨Or.inr rfl, zq1 ?_⟩⟩), fun t3 => ⟨fun t4' => ?_, fun t4' => ?_⟩⟩⟩⟩⟩
  · rcases kds t0 with q | q
    · exact Or.inl ⟨rfl, q.2⟩
    · exact absurd q.1 z
  · rcases kds t0 with q | q
    · exact absurd (show ¬ s 3 (s 4 y.2.1 0) 0 = 4 by omega) z
    · exact Or.inr ⟨rfl, q.2⟩
  · have c1 : y.1 = 1 := by omega
    have wq := wr (Or.inr c1)
    have := k h frP.rf
    rwa [b2i_congr (show hld t w T s v y ↔ _ from ⟨fun q => ?_, fun q => ?_⟩)] at this
    · rw [wq.1.1, wq.1.2]; exact q.2.1 c1
    · rw [wq.1.1, wq.1.2] at q
      exact ⟨fun z => by omega, fun _ => q, fun q => by omega, fun q => by omega, fun q => by omega, fun q => by omega⟩
  · rw [n6 (by omega)] at z
    have := k h frP.rf
    rwa [b2i_neg (fun q => z (q.2.2.1 (by omega)))] at this
  · rw [n6 (by omega)] at z
    have := k h frP.rf
    rwa [b2i_pos (show hld t w T s v y from ⟨fun q => by omega, fun q => by omega, fun _ => Classical.not_not.1 z, fun q => by omega, fun q => by omega, fun q => by omega⟩)] at this
  · rw [n2 (by omega)] at z
    have := k h frP.rf
    rwa [b2i_neg (fun q => z (q.2.2.2.1 (by omega)))] at this
  · rw [n2 (by omega)] at z
    have := k h frP.rf
    rwa [b2i_pos (show hld t w T s v y from ⟨fun q => by omega, fun q => by omega, fun q => by omega, fun _ => Classical.not_not.1 z, fun q => by omega, fun q => by omega⟩)] at this
  · have c4 : y.1 = 4 := by omega
    have vn4 := vd_n g hv (vd4 c4)
    have l2 := ol.2 c4
    rw [(e4 c4).1]
    refine ⟨by unfold inR; omega, by omega, by omega, s220 g ym hv (vd4 c4) ⟨by omega, by omega⟩ (e4 c4).2 (s181 g ym vn4 vn ⟨b2i_01, zq1 ?_⟩)⟩
    have := k h frP.rf
    rwa [b2i_congr (show hld t w T s v y ↔ _ from ⟨fun q => alk_sy (q.2.2.2.2.1 c4), fun z => ⟨fun q => by omega, fun q => by omega, fun q => by omega, fun q => by omega, fun _ => alk_sy z, fun q => by omega⟩⟩)] at this
  · have c5 : y.1 = 5 := by omega
    refine s190 g en ⟨ga.1, ga.2, r5 c5⟩ vn ym p hm (fun z h1 f1 => ⟨Or.inl rfl, zq1 ?_⟩) (fun st L' z h1 f1 _ => ⟨Or.inr rfl, zq1 ?_⟩)
    · have := k h1 f1
      rwa [b2i_neg (fun q => q.2.2.2.2.2 c5 z)] at this
    · have := k h1 f1
      rwa [b2i_pos (show hld t w T s v y from ⟨fun q => by omega, fun q => by omega, fun q => by omega, fun q => by omega, fun q => by omega, fun _ q => by rw [q] at z; cases z⟩)] at this
end HO
