/-! Objects that hold a text. -/
section MC3
variable {h0 h h1 : zH} {a c q : Nat} {D : List (Nat × Nat)} {R : List (Int × Nat)}
theorem mkO.tx (x : mkO h0 h a c D R q) (e : h1 = nw h 21 2) (ha : 2 ≤ a) {K : zH → Prop} (k : ∀ h2 l, mkO h0 h2 a c (D ++ [(1, l)] ++ [(40, 300)]) R (q + 302) → K h2) : zC0 43 [vR (nx h) 0] h1 K := by
  have y := x.n e
  obtain ⟨x1, x2, x3, x4, x5, x6, x7⟩ := x
  have n1 : nx h1 = nx h + 1 := by rw [e, nxN]
  refine s43 (a := nx h) (by omega) n1 (by rw [e, tgN, if_pos rfl]) (fun k => by rw [e, gN, if_pos rfl]) (fun h2 ol m2 sc2 t2 t3 l3 z2 => k h2 (ln h2 (nx h)) ⟨?_, ?_, fun b hb => ?_, fun b k b0 b1 => ?_, fun i d hi => ?_, fun r hr => ?_, ?_⟩)
  · rw [m2, x1, List.length_append, List.length_append]; rfl
  · rw [(ol.1 a (by omega)).2.1]; exact y.2.1
  · have o := ol.1 b (by omega)
    have w := y.2.2.1 b hb
    exact ⟨fun k => ⟨(o.1 k).1.trans (w.1 k).1, (o.1 k).2.trans (w.1 k).2⟩, o.2.1.trans w.2.1, o.2.2.trans w.2.2⟩
  · by_cases c1 : b < nx h
    · rw [((ol.1 b c1).1 k).1]; exact y.2.2.2.1 b k b0 (by omega)
    · exact z2 b k (by omega)
  · rcases snoc_q.1 hi with r | ⟨r1, r2⟩
    · rcases snoc_q.1 r with s | ⟨s1, s2⟩
      · have lt := lt_q s
        have o := ol.1 (a + 1 + i) (by omega)
        rw [o.2.1, o.2.2]
        exact y.2.2.2.2.1 i d (snoc_q.2 (Or.inl s))
      · subst s1; subst s2
        rw [← x1]; exact ⟨t2, rfl⟩
    · subst r1; subst r2
      rw [List.length_append, show a + 1 + (D.length + [(1, ln h2 (nx h))].length) = nx h + 1 by rw [x1]; show a + 1 + (D.length + 1) = _; omega]
      exact ⟨t3, l3⟩
  · rw [((ol.1 a (by omega)).1 _).2]; exact y.2.2.2.2.2.1 r hr
  · rw [sc2, e, scN, x7]; omega
theorem s49 {K : zH → Prop} (ha : 2 ≤ a) (x : mkO h0 h a 22 [] [] q) (k : ∀ h1 l, mkO h0 h1 a 2 [(1, l), (40, 300), (40, 60), (40, 60), (40, 60), (40, 60), (40, 60), (40, 60), (40, 60), (40, 60), (40, 60), (40, 60), (40, 150), (40, 150), (40, 150)] [(13, 15), (12, 14), (11, 13), (10, 12), (9, 11), (8, 10), (7, 9), (6, 8), (5, 7), (4, 6), (3, 5), (2, 4), (1, 3), (0, 1)] (q + 1352) → K h1) : zC0 49 [vR a 0] h K := by
  have v0 : nx h = a + 1 := x.1
  refine cV (k49_0 a h _ ⟨by omega, fun g0 e0 => ⟨by omega, x.tx e0 ha (fun b0 l y0 => ?_)⟩⟩)
  have y0 : mkO h0 b0 a 22 [(1, l), (40, 300)] [] (q + 302) := y0
  refine ⟨y0.ty ha rfl rfl rfl, fun f0 d0 => ?_⟩
  have r0 : mkO h0 f0 a 22 [(1, l), (40, 300)] [(0, 1)] (q + 302) := y0.r (by decide) (by rw [d0, v0])
  refine ⟨⟨by omega, by omega⟩, fun g1 e1 => ?_⟩
  have n1 : mkO h0 g1 a 22 [(1, l), (40, 300), (40, 60)] [(0, 1)] (q + 362) := by have z := r0.n e1; rw [Nat.add_assoc] at z; exact z
  have v1 : nx f0 = a + 3 := r0.1.trans (by show a + 1 + 2 = a + 3; omega)
  refine ⟨n1.ty ha rfl rfl rfl, fun f1 d1 => ?_⟩
  have r1 : mkO h0 f1 a 22 [(1, l), (40, 300), (40, 60)] [(1, 3), (0, 1)] (q + 362) := n1.r (by decide) (by rw [d1, v1])
  refine ⟨⟨by omega, by omega⟩, fun g2 e2 => ?_⟩
  have n2 : mkO h0 g2 a 22 [(1, l), (40, 300), (40, 60), (40, 60)] [(1, 3), (0, 1)] (q + 422) := by have z := r1.n e2; rw [Nat.add_assoc] at z; exact z
  have v2 : nx f1 = a + 4 := r1.1.trans (by show a + 1 + 3 = a + 4; omega)
  refine ⟨n2.ty ha rfl rfl rfl, fun f2 d2 => ?_⟩
  have r2 : mkO h0 f2 a 22 [(1, l), (40, 300), (40, 60), (40, 60)] [(2, 4), (1, 3), (0, 1)] (q + 422) := n2.r (by decide) (by rw [d2, v2])
  refine ⟨⟨by omega, by omega⟩, fun g3 e3 => ?_⟩
  have n3 : mkO h0 g3 a 22 [(1, l), (40, 300), (40, 60), (40, 60), (40, 60)] [(2, 4), (1, 3), (0, 1)] (q + 482) := by have z := r2.n e3; rw [Nat.add_assoc] at z; exact z
  have v3 : nx f2 = a + 5 := r2.1.trans (by show a + 1 + 4 = a + 5; omega)
  refine ⟨n3.ty ha rfl rfl rfl, fun f3 d3 => ?_⟩
  have r3 : mkO h0 f3 a 22 [(1, l), (40, 300), (40, 60), (40, 60), (40, 60)] [(3, 5), (2, 4), (1, 3), (0, 1)] (q + 482) := n3.r (by decide) (by rw [d3, v3])
  refine ⟨⟨by omega, by omega⟩, fun g4 e4 => ?_⟩
  have n4 : mkO h0 g4 a 22 [(1, l), (40, 300), (40, 60), (40, 60), (40, 60), (40, 60)] [(3, 5), (2, 4), (1, 3), (0, 1)] (q + 542) := by have z := r3.n e4; rw [Nat.add_assoc] at z; exact z
  have v4 : nx f3 = a + 6 := r3.1.trans (by show a + 1 + 5 = a + 6; omega)
  refine ⟨n4.ty ha rfl rfl rfl, fun f4 d4 => ?_⟩
  have r4 : mkO h0 f4 a 22 [(1, l), (40, 300), (40, 60), (40, 60), (40, 60), (40, 60)] [(4, 6), (3, 5), (2, 4), (1, 3), (0, 1)] (q + 542) := n4.r (by decide) (by rw [d4, v4])
  refine ⟨⟨by omega, by omega⟩, fun g5 e5 => ?_⟩
  have n5 : mkO h0 g5 a 22 [(1, l), (40, 300), (40, 60), (40, 60), (40, 60), (40, 60), (40, 60)] [(4, 6), (3, 5), (2, 4), (1, 3), (0, 1)] (q + 602) := by have z := r4.n e5; rw [Nat.add_assoc] at z; exact z
  have v5 : nx f4 = a + 7 := r4.1.trans (by show a + 1 + 6 = a + 7; omega)
  refine ⟨n5.ty ha rfl rfl rfl, fun f5 d5 => ?_⟩
  have r5 : mkO h0 f5 a 22 [(1, l), (40, 300), (40, 60), (40, 60), (40, 60), (40, 60), (40, 60)] [(5, 7), (4, 6), (3, 5), (2, 4), (1, 3), (0, 1)] (q + 602) := n5.r (by decide) (by rw [d5, v5])
  refine ⟨⟨by omega, by omega⟩, fun g6 e6 => ?_⟩
  have n6 : mkO h0 g6 a 22 [(1, l), (40, 300), (40, 60), (40, 60), (40, 60), (40, 60), (40, 60), (40, 60)] [(5, 7), (4, 6), (3, 5), (2, 4), (1, 3), (0, 1)] (q + 662) := by have z := r5.n e6; rw [Nat.add_assoc] at z; exact z
  have v6 : nx f5 = a + 8 := r5.1.trans (by show a + 1 + 7 = a + 8; omega)
  refine ⟨n6.ty ha rfl rfl rfl, fun f6 d6 => ?_⟩
  have r6 : mkO h0 f6 a 22 [(1, l), (40, 300), (40, 60), (40, 60), (40, 60), (40, 60), (40, 60), (40, 60)] [(6, 8), (5, 7), (4, 6), (3, 5), (2, 4), (1, 3), (0, 1)] (q + 662) := n6.r (by decide) (by rw [d6, v6])
  refine ⟨⟨by omega, by omega⟩, fun g7 e7 => ?_⟩
  have n7 : mkO h0 g7 a 22 [(1, l), (40, 300), (40, 60), (40, 60), (40, 60), (40, 60), (40, 60), (40, 60), (40, 60)] [(6, 8), (5, 7), (4, 6), (3, 5), (2, 4), (1, 3), (0, 1)] (q + 722) := by have z := r6.n e7; rw [Nat.add_assoc] at z; exact z
  have v7 : nx f6 = a + 9 := r6.1.trans (by show a + 1 + 8 = a + 9; omega)
  refine ⟨n7.ty ha rfl rfl rfl, fun f7 d7 => ?_⟩
  have r7 : mkO h0 f7 a 22 [(1, l), (40, 300), (40, 60), (40, 60), (40, 60), (40, 60), (40, 60), (40, 60), (40, 60)] [(7, 9), (6, 8), (5, 7), (4, 6), (3, 5), (2, 4), (1, 3), (0, 1)] (q + 722) := n7.r (by decide) (by rw [d7, v7])
  refine ⟨⟨by omega, by omega⟩, fun g8 e8 => ?_⟩
  have n8 : mkO h0 g8 a 22 [(1, l), (40, 300), (40, 60), (40, 60), (40, 60), (40, 60), (40, 60), (40, 60), (40, 60), (40, 60)] [(7, 9), (6, 8), (5, 7), (4, 6), (3, 5), (2, 4), (1, 3), (0, 1)] (q + 782) := by have z := r7.n e8; rw [Nat.add_assoc] at z; exact z
  have v8 : nx f7 = a + 10 := r7.1.trans (by show a + 1 + 9 = a + 10; omega)
  refine ⟨n8.ty ha rfl rfl rfl, fun f8 d8 => ?_⟩
  have r8 : mkO h0 f8 a 22 [(1, l), (40, 300), (40, 60), (40, 60), (40, 60), (40, 60), (40, 60), (40, 60), (40, 60), (40, 60)] [(8, 10), (7, 9), (6, 8), (5, 7), (4, 6), (3, 5), (2, 4), (1, 3), (0, 1)] (q + 782) := n8.r (by decide) (by rw [d8, v8])
  refine ⟨⟨by omega, by omega⟩, fun g9 e9 => ?_⟩
  have n9 : mkO h0 g9 a 22 [(1, l), (40, 300), (40, 60), (40, 60), (40, 60), (40, 60), (40, 60), (40, 60), (40, 60), (40, 60), (40, 60)] [(8, 10), (7, 9), (6, 8), (5, 7), (4, 6), (3, 5), (2, 4), (1, 3), (0, 1)] (q + 842) := by have z := r8.n e9; rw [Nat.add_assoc] at z; exact z
  have v9 : nx f8 = a + 11 := r8.1.trans (by show a + 1 + 10 = a + 11; omega)
  refine ⟨n9.ty ha rfl rfl rfl, fun f9 d9 => ?_⟩
  have r9 : mkO h0 f9 a 22 [(1, l), (40, 300), (40, 60), (40, 60), (40, 60), (40, 60), (40, 60), (40, 60), (40, 60), (40, 60), (40, 60)] [(9, 11), (8, 10), (7, 9), (6, 8), (5, 7), (4, 6), (3, 5), (2, 4), (1, 3), (0, 1)] (q + 842) := n9.r (by decide) (by rw [d9, v9])
  refine ⟨⟨by omega, by omega⟩, fun g10 e10 => ?_⟩
  have n10 : mkO h0 g10 a 22 [(1, l), (40, 300), (40, 60), (40, 60), (40, 60), (40, 60), (40, 60), (40, 60), (40, 60), (40, 60), (40, 60), (40, 60)] [(9, 11), (8, 10), (7, 9), (6, 8), (5, 7), (4, 6), (3, 5), (2, 4), (1, 3), (0, 1)] (q + 902) := by have z := r9.n e10; rw [Nat.add_assoc] at z; exact z
  have v10 : nx f9 = a + 12 := r9.1.trans (by show a + 1 + 11 = a + 12; omega)
  refine ⟨n10.ty ha rfl rfl rfl, fun f10 d10 => ?_⟩
  have r10 : mkO h0 f10 a 22 [(1, l), (40, 300), (40, 60), (40, 60), (40, 60), (40, 60), (40, 60), (40, 60), (40, 60), (40, 60), (40, 60), (40, 60)] [(10, 12), (9, 11), (8, 10), (7, 9), (6, 8), (5, 7), (4, 6), (3, 5), (2, 4), (1, 3), (0, 1)] (q + 902) := n10.r (by decide) (by rw [d10, v10])
  refine ⟨⟨by omega, by omega⟩, fun g11 e11 => ?_⟩
  have n11 : mkO h0 g11 a 22 [(1, l), (40, 300), (40, 60), (40, 60), (40, 60), (40, 60), (40, 60), (40, 60), (40, 60), (40, 60), (40, 60), (40, 60), (40, 150)] [(10, 12), (9, 11), (8, 10), (7, 9), (6, 8), (5, 7), (4, 6), (3, 5), (2, 4), (1, 3), (0, 1)] (q + 1052) := by have z := r10.n e11; rw [Nat.add_assoc] at z; exact z
  have v11 : nx f10 = a + 13 := r10.1.trans (by show a + 1 + 12 = a + 13; omega)
  refine ⟨n11.ty ha rfl rfl rfl, fun f11 d11 => ?_⟩
  have r11 : mkO h0 f11 a 22 [(1, l), (40, 300), (40, 60), (40, 60), (40, 60), (40, 60), (40, 60), (40, 60), (40, 60), (40, 60), (40, 60), (40, 60), (40, 150)] [(11, 13), (10, 12), (9, 11), (8, 10), (7, 9), (6, 8), (5, 7), (4, 6), (3, 5), (2, 4), (1, 3), (0, 1)] (q + 1052) := n11.r (by decide) (by rw [d11, v11])
  refine ⟨⟨by omega, by omega⟩, fun g12 e12 => ?_⟩
  have n12 : mkO h0 g12 a 22 [(1, l), (40, 300), (40, 60), (40, 60), (40, 60), (40, 60), (40, 60), (40, 60), (40, 60), (40, 60), (40, 60), (40, 60), (40, 150), (40, 150)] [(11, 13), (10, 12), (9, 11), (8, 10), (7, 9), (6, 8), (5, 7), (4, 6), (3, 5), (2, 4), (1, 3), (0, 1)] (q + 1202) := by have z := r11.n e12; rw [Nat.add_assoc] at z; exact z
  have v12 : nx f11 = a + 14 := r11.1.trans (by show a + 1 + 13 = a + 14; omega)
  refine ⟨n12.ty ha rfl rfl rfl, fun f12 d12 => ?_⟩
  have r12 : mkO h0 f12 a 22 [(1, l), (40, 300), (40, 60), (40, 60), (40, 60), (40, 60), (40, 60), (40, 60), (40, 60), (40, 60), (40, 60), (40, 60), (40, 150), (40, 150)] [(12, 14), (11, 13), (10, 12), (9, 11), (8, 10), (7, 9), (6, 8), (5, 7), (4, 6), (3, 5), (2, 4), (1, 3), (0, 1)] (q + 1202) := n12.r (by decide) (by rw [d12, v12])
  refine ⟨⟨by omega, by omega⟩, fun g13 e13 => ?_⟩
  have n13 : mkO h0 g13 a 22 [(1, l), (40, 300), (40, 60), (40, 60), (40, 60), (40, 60), (40, 60), (40, 60), (40, 60), (40, 60), (40, 60), (40, 60), (40, 150), (40, 150), (40, 150)] [(12, 14), (11, 13), (10, 12), (9, 11), (8, 10), (7, 9), (6, 8), (5, 7), (4, 6), (3, 5), (2, 4), (1, 3), (0, 1)] (q + 1352) := by have z := r12.n e13; rw [Nat.add_assoc] at z; exact z
  have v13 : nx f12 = a + 15 := r12.1.trans (by show a + 1 + 14 = a + 15; omega)
  rw [v13]
  have r13 : mkO h0 (sR g13 a 13 (a + 15)) a 22 [(1, l), (40, 300), (40, 60), (40, 60), (40, 60), (40, 60), (40, 60), (40, 60), (40, 60), (40, 60), (40, 60), (40, 60), (40, 150), (40, 150), (40, 150)] [(13, 15), (12, 14), (11, 13), (10, 12), (9, 11), (8, 10), (7, 9), (6, 8), (5, 7), (4, 6), (3, 5), (2, 4), (1, 3), (0, 1)] (q + 1352) := n13.r (by decide) rfl
  exact ⟨n13.ty ha rfl rfl rfl, r13.2.2.2.2.2.1 (0, 1) (by decide), r13.el (i := 0) ha rfl rfl rfl (Or.inl rfl), r13.2.2.2.2.2.1 (1, 3) (by decide), r13.el (i := 2) ha rfl rfl rfl (Or.inr rfl), r13.2.2.2.2.2.1 (2, 4) (by decide), r13.el (i := 3) ha rfl rfl rfl (Or.inr rfl), r13.2.2.2.2.2.1 (3, 5) (by decide), r13.el (i := 4) ha rfl rfl rfl (Or.inr rfl), r13.2.2.2.2.2.1 (4, 6) (by decide), r13.el (i := 5) ha rfl rfl rfl (Or.inr rfl), r13.2.2.2.2.2.1 (5, 7) (by decide), r13.el (i := 6) ha rfl rfl rfl (Or.inr rfl), r13.2.2.2.2.2.1 (6, 8) (by decide), r13.el (i := 7) ha rfl rfl rfl (Or.inr rfl), r13.2.2.2.2.2.1 (7, 9) (by decide), r13.el (i := 8) ha rfl rfl rfl (Or.inr rfl), r13.2.2.2.2.2.1 (8, 10) (by decide), r13.el (i := 9) ha rfl rfl rfl (Or.inr rfl), r13.2.2.2.2.2.1 (9, 11) (by decide), r13.el (i := 10) ha rfl rfl rfl (Or.inr rfl), r13.2.2.2.2.2.1 (10, 12) (by decide), r13.el (i := 11) ha rfl rfl rfl (Or.inr rfl), r13.2.2.2.2.2.1 (11, 13) (by decide), r13.el (i := 12) ha rfl rfl rfl (Or.inr rfl), r13.2.2.2.2.2.1 (12, 14) (by decide), r13.el (i := 13) ha rfl rfl rfl (Or.inr rfl), r13.2.2.2.2.2.1 (13, 15) (by decide), r13.el (i := 14) ha rfl rfl rfl (Or.inr rfl), fun h9 e9 => zq0 (k h9 l (r13.s e9))⟩
theorem s122 {K : zH → Prop} (ha : 2 ≤ a) (x : mkO h0 h a 28 [] [] q) (k : ∀ h1 l, mkO h0 h1 a 8 [(1, l), (40, 300), (40, 40), (40, 40)] [(8, 4), (7, 3), (6, 1)] (q + 382) → K h1) : zC0 122 [vR a 0] h K := by
  have v0 : nx h = a + 1 := x.1
  refine cV (k122_0 a h _ ⟨by omega, fun g0 e0 => ⟨by omega, x.tx e0 ha (fun b0 l y0 => ?_)⟩⟩)
  have y0 : mkO h0 b0 a 28 [(1, l), (40, 300)] [] (q + 302) := y0
  refine ⟨y0.ty ha rfl rfl rfl, fun f0 d0 => ?_⟩
  have r0 : mkO h0 f0 a 28 [(1, l), (40, 300)] [(6, 1)] (q + 302) := y0.r (by decide) (by rw [d0, v0])
  refine ⟨⟨by omega, by omega⟩, fun g1 e1 => ?_⟩
  have n1 : mkO h0 g1 a 28 [(1, l), (40, 300), (40, 40)] [(6, 1)] (q + 342) := by have z := r0.n e1; rw [Nat.add_assoc] at z; exact z
  have v1 : nx f0 = a + 3 := r0.1.trans (by show a + 1 + 2 = a + 3; omega)
  refine ⟨n1.ty ha rfl rfl rfl, fun f1 d1 => ?_⟩
  have r1 : mkO h0 f1 a 28 [(1, l), (40, 300), (40, 40)] [(7, 3), (6, 1)] (q + 342) := n1.r (by decide) (by rw [d1, v1])
  refine ⟨⟨by omega, by omega⟩, fun g2 e2 => ?_⟩
  have n2 : mkO h0 g2 a 28 [(1, l), (40, 300), (40, 40), (40, 40)] [(7, 3), (6, 1)] (q + 382) := by have z := r1.n e2; rw [Nat.add_assoc] at z; exact z
  have v2 : nx f1 = a + 4 := r1.1.trans (by show a + 1 + 3 = a + 4; omega)
  rw [v2]
  have r2 : mkO h0 (sR g2 a 8 (a + 4)) a 28 [(1, l), (40, 300), (40, 40), (40, 40)] [(8, 4), (7, 3), (6, 1)] (q + 382) := n2.r (by decide) rfl
  exact ⟨n2.ty ha rfl rfl rfl, r2.2.2.2.2.2.1 (6, 1) (by decide), r2.el (i := 0) ha rfl rfl rfl (Or.inl rfl), r2.2.2.2.2.2.1 (7, 3) (by decide), r2.el (i := 2) ha rfl rfl rfl (Or.inr rfl), r2.2.2.2.2.2.1 (8, 4) (by decide), r2.el (i := 3) ha rfl rfl rfl (Or.inr rfl), fun h9 e9 => zq0 (k h9 l (r2.s e9))⟩
theorem s138 {K : zH → Prop} (ha : 2 ≤ a) (x : mkO h0 h a 30 [] [] q) (k : ∀ h1 l, mkO h0 h1 a 10 [(1, l), (40, 300), (44, 8)] [(2, 3), (1, 1)] (q + 310) → K h1) : zC0 138 [vR a 0] h K := by
  have v0 : nx h = a + 1 := x.1
  refine cV (k138_0 a h _ ⟨by omega, fun g0 e0 => ⟨by omega, x.tx e0 ha (fun b0 l y0 => ?_)⟩⟩)
  have y0 : mkO h0 b0 a 30 [(1, l), (40, 300)] [] (q + 302) := y0
  refine ⟨y0.ty ha rfl rfl rfl, fun f0 d0 => ?_⟩
  have r0 : mkO h0 f0 a 30 [(1, l), (40, 300)] [(1, 1)] (q + 302) := y0.r (by decide) (by rw [d0, v0])
  refine ⟨⟨by omega, by omega⟩, fun g1 e1 => ?_⟩
  have n1 : mkO h0 g1 a 30 [(1, l), (40, 300), (44, 8)] [(1, 1)] (q + 310) := by have z := r0.n e1; rw [Nat.add_assoc] at z; exact z
  have v1 : nx f0 = a + 3 := r0.1.trans (by show a + 1 + 2 = a + 3; omega)
  rw [v1]
  have r1 : mkO h0 (sR g1 a 2 (a + 3)) a 30 [(1, l), (40, 300), (44, 8)] [(2, 3), (1, 1)] (q + 310) := n1.r (by decide) rfl
  exact ⟨n1.ty ha rfl rfl rfl, r1.2.2.2.2.2.1 (1, 1) (by decide), r1.el (i := 0) ha rfl rfl rfl (Or.inl rfl), r1.2.2.2.2.2.1 (2, 3) (by decide), r1.el (i := 2) ha rfl rfl rfl (Or.inr rfl), fun h9 e9 => zq0 (k h9 l (r1.s e9))⟩
end MC3
