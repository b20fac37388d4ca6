/-! Constructors that make arrays. (Written by mkcon.py.) -/
section MC
variable {h0 h : zH} {a q : Nat}
theorem s90 {K : zH → Prop} (ha : 2 ≤ a) (x : mkO h0 h a 25 [] [] q) (k : ∀ h1, mkO h0 h1 a 5 [(40, 20), (40, 20), (40, 20), (40, 20), (40, 20), (40, 3)] [(5, 6), (4, 5), (3, 4), (2, 3), (1, 2), (0, 1)] (q + 103) → K h1) : zC0 90 [vR a 0] h K := by
  have r0 := x
  refine cV (k90_0 a h _ ⟨by omega, ?_⟩)
  refine ⟨⟨by omega, by omega⟩, fun g1 e1 => ?_⟩
  have n1 : mkO h0 g1 a 25 [(40, 20)] [] (q + 20) := r0.n e1
  have v1 : nx h = a + 1 := r0.1.trans (by show a + 1 + 0 = a + 1; omega)
  refine ⟨n1.ty ha rfl rfl rfl, fun f1 d1 => ?_⟩
  have r1 : mkO h0 f1 a 25 [(40, 20)] [(0, 1)] (q + 20) := n1.r (by decide) (by rw [d1, v1])
  refine ⟨⟨by omega, by omega⟩, fun g2 e2 => ?_⟩
  have n2 : mkO h0 g2 a 25 [(40, 20), (40, 20)] [(0, 1)] (q + 40) := by have z := r1.n e2; rw [Nat.add_assoc] at z; exact z
  have v2 : nx f1 = a + 2 := r1.1.trans (by show a + 1 + 1 = a + 2; omega)
  refine ⟨n2.ty ha rfl rfl rfl, fun f2 d2 => ?_⟩
  have r2 : mkO h0 f2 a 25 [(40, 20), (40, 20)] [(1, 2), (0, 1)] (q + 40) := n2.r (by decide) (by rw [d2, v2])
  refine ⟨⟨by omega, by omega⟩, fun g3 e3 => ?_⟩
  have n3 : mkO h0 g3 a 25 [(40, 20), (40, 20), (40, 20)] [(1, 2), (0, 1)] (q + 60) := by have z := r2.n e3; rw [Nat.add_assoc] at z; exact z
  have v3 : nx f2 = a + 3 := r2.1.trans (by show a + 1 + 2 = a + 3; omega)
  refine ⟨n3.ty ha rfl rfl rfl, fun f3 d3 => ?_⟩
  have r3 : mkO h0 f3 a 25 [(40, 20), (40, 20), (40, 20)] [(2, 3), (1, 2), (0, 1)] (q + 60) := n3.r (by decide) (by rw [d3, v3])
  refine ⟨⟨by omega, by omega⟩, fun g4 e4 => ?_⟩
  have n4 : mkO h0 g4 a 25 [(40, 20), (40, 20), (40, 20), (40, 20)] [(2, 3), (1, 2), (0, 1)] (q + 80) := by have z := r3.n e4; rw [Nat.add_assoc] at z; exact z
  have v4 : nx f3 = a + 4 := r3.1.trans (by show a + 1 + 3 = a + 4; omega)
  refine ⟨n4.ty ha rfl rfl rfl, fun f4 d4 => ?_⟩
  have r4 : mkO h0 f4 a 25 [(40, 20), (40, 20), (40, 20), (40, 20)] [(3, 4), (2, 3), (1, 2), (0, 1)] (q + 80) := n4.r (by decide) (by rw [d4, v4])
  refine ⟨⟨by omega, by omega⟩, fun g5 e5 => ?_⟩
  have n5 : mkO h0 g5 a 25 [(40, 20), (40, 20), (40, 20), (40, 20), (40, 20)] [(3, 4), (2, 3), (1, 2), (0, 1)] (q + 100) := by have z := r4.n e5; rw [Nat.add_assoc] at z; exact z
  have v5 : nx f4 = a + 5 := r4.1.trans (by show a + 1 + 4 = a + 5; omega)
  refine ⟨n5.ty ha rfl rfl rfl, fun f5 d5 => ?_⟩
  have r5 : mkO h0 f5 a 25 [(40, 20), (40, 20), (40, 20), (40, 20), (40, 20)] [(4, 5), (3, 4), (2, 3), (1, 2), (0, 1)] (q + 100) := n5.r (by decide) (by rw [d5, v5])
  refine ⟨⟨by omega, by omega⟩, fun g6 e6 => ?_⟩
  have n6 : mkO h0 g6 a 25 [(40, 20), (40, 20), (40, 20), (40, 20), (40, 20), (40, 3)] [(4, 5), (3, 4), (2, 3), (1, 2), (0, 1)] (q + 103) := by have z := r5.n e6; rw [Nat.add_assoc] at z; exact z
  have v6 : nx f5 = a + 6 := r5.1.trans (by show a + 1 + 5 = a + 6; omega)
  rw [v6]
  have r6 : mkO h0 (sR g6 a 5 (a + 6)) a 25 [(40, 20), (40, 20), (40, 20), (40, 20), (40, 20), (40, 3)] [(5, 6), (4, 5), (3, 4), (2, 3), (1, 2), (0, 1)] (q + 103) := n6.r (by decide) rfl
  exact ⟨n6.ty ha rfl rfl rfl, r6.2.2.2.2.2.1 (0, 1) (by decide), r6.el (i := 0) ha rfl rfl rfl (Or.inr rfl), r6.2.2.2.2.2.1 (1, 2) (by decide), r6.el (i := 1) ha rfl rfl rfl (Or.inr rfl), r6.2.2.2.2.2.1 (2, 3) (by decide), r6.el (i := 2) ha rfl rfl rfl (Or.inr rfl), r6.2.2.2.2.2.1 (3, 4) (by decide), r6.el (i := 3) ha rfl rfl rfl (Or.inr rfl), r6.2.2.2.2.2.1 (4, 5) (by decide), r6.el (i := 4) ha rfl rfl rfl (Or.inr rfl), r6.2.2.2.2.2.1 (5, 6) (by decide), r6.el (i := 5) ha rfl rfl rfl (Or.inr rfl), fun h9 e9 => zq0 (k h9 (r6.s e9))⟩
theorem s104 {K : zH → Prop} (ha : 2 ≤ a) (x : mkO h0 h a 26 [] [] q) (k : ∀ h1, mkO h0 h1 a 6 [(40, 40), (40, 40), (40, 40), (40, 26), (40, 320), (44, 320), (40, 320), (40, 320), (40, 320), (40, 320), (40, 320), (41, 320), (40, 20)] [(15, 13), (14, 12), (13, 11), (12, 10), (11, 9), (10, 8), (9, 7), (8, 6), (7, 5), (4, 4), (3, 3), (2, 2), (1, 1)] (q + 2726) → K h1) : zC0 104 [vR a 0] h K := by
  have r0 := x
  refine cV (k104_0 a h _ ⟨by omega, ?_⟩)
  refine ⟨⟨by omega, by omega⟩, fun g1 e1 => ?_⟩
  have n1 : mkO h0 g1 a 26 [(40, 40)] [] (q + 40) := r0.n e1
  have v1 : nx h = a + 1 := r0.1.trans (by show a + 1 + 0 = a + 1; omega)
  refine ⟨n1.ty ha rfl rfl rfl, fun f1 d1 => ?_⟩
  have r1 : mkO h0 f1 a 26 [(40, 40)] [(1, 1)] (q + 40) := n1.r (by decide) (by rw [d1, v1])
  refine ⟨⟨by omega, by omega⟩, fun g2 e2 => ?_⟩
  have n2 : mkO h0 g2 a 26 [(40, 40), (40, 40)] [(1, 1)] (q + 80) := by have z := r1.n e2; rw [Nat.add_assoc] at z; exact z
  have v2 : nx f1 = a + 2 := r1.1.trans (by show a + 1 + 1 = a + 2; omega)
  refine ⟨n2.ty ha rfl rfl rfl, fun f2 d2 => ?_⟩
  have r2 : mkO h0 f2 a 26 [(40, 40), (40, 40)] [(2, 2), (1, 1)] (q + 80) := n2.r (by decide) (by rw [d2, v2])
  refine ⟨⟨by omega, by omega⟩, fun g3 e3 => ?_⟩
  have n3 : mkO h0 g3 a 26 [(40, 40), (40, 40), (40, 40)] [(2, 2), (1, 1)] (q + 120) := by have z := r2.n e3; rw [Nat.add_assoc] at z; exact z
  have v3 : nx f2 = a + 3 := r2.1.trans (by show a + 1 + 2 = a + 3; omega)
  refine ⟨n3.ty ha rfl rfl rfl, fun f3 d3 => ?_⟩
  have r3 : mkO h0 f3 a 26 [(40, 40), (40, 40), (40, 40)] [(3, 3), (2, 2), (1, 1)] (q + 120) := n3.r (by decide) (by rw [d3, v3])
  refine ⟨⟨by omega, by omega⟩, fun g4 e4 => ?_⟩
  have n4 : mkO h0 g4 a 26 [(40, 40), (40, 40), (40, 40), (40, 26)] [(3, 3), (2, 2), (1, 1)] (q + 146) := by have z := r3.n e4; rw [Nat.add_assoc] at z; exact z
  have v4 : nx f3 = a + 4 := r3.1.trans (by show a + 1 + 3 = a + 4; omega)
  refine ⟨n4.ty ha rfl rfl rfl, fun f4 d4 => ?_⟩
  have r4 : mkO h0 f4 a 26 [(40, 40), (40, 40), (40, 40), (40, 26)] [(4, 4), (3, 3), (2, 2), (1, 1)] (q + 146) := n4.r (by decide) (by rw [d4, v4])
  refine ⟨⟨by omega, by omega⟩, fun g5 e5 => ?_⟩
  have n5 : mkO h0 g5 a 26 [(40, 40), (40, 40), (40, 40), (40, 26), (40, 320)] [(4, 4), (3, 3), (2, 2), (1, 1)] (q + 466) := by have z := r4.n e5; rw [Nat.add_assoc] at z; exact z
  have v5 : nx f4 = a + 5 := r4.1.trans (by show a + 1 + 4 = a + 5; omega)
  refine ⟨n5.ty ha rfl rfl rfl, fun f5 d5 => ?_⟩
  have r5 : mkO h0 f5 a 26 [(40, 40), (40, 40), (40, 40), (40, 26), (40, 320)] [(7, 5), (4, 4), (3, 3), (2, 2), (1, 1)] (q + 466) := n5.r (by decide) (by rw [d5, v5])
  refine ⟨⟨by omega, by omega⟩, fun g6 e6 => ?_⟩
  have n6 : mkO h0 g6 a 26 [(40, 40), (40, 40), (40, 40), (40, 26), (40, 320), (44, 320)] [(7, 5), (4, 4), (3, 3), (2, 2), (1, 1)] (q + 786) := by have z := r5.n e6; rw [Nat.add_assoc] at z; exact z
  have v6 : nx f5 = a + 6 := r5.1.trans (by show a + 1 + 5 = a + 6; omega)
  refine ⟨n6.ty ha rfl rfl rfl, fun f6 d6 => ?_⟩
  have r6 : mkO h0 f6 a 26 [(40, 40), (40, 40), (40, 40), (40, 26), (40, 320), (44, 320)] [(8, 6), (7, 5), (4, 4), (3, 3), (2, 2), (1, 1)] (q + 786) := n6.r (by decide) (by rw [d6, v6])
  refine ⟨⟨by omega, by omega⟩, fun g7 e7 => ?_⟩
  have n7 : mkO h0 g7 a 26 [(40, 40), (40, 40), (40, 40), (40, 26), (40, 320), (44, 320), (40, 320)] [(8, 6), (7, 5), (4, 4), (3, 3), (2, 2), (1, 1)] (q + 1106) := by have z := r6.n e7; rw [Nat.add_assoc] at z; exact z
  have v7 : nx f6 = a + 7 := r6.1.trans (by show a + 1 + 6 = a + 7; omega)
  refine ⟨n7.ty ha rfl rfl rfl, fun f7 d7 => ?_⟩
  have r7 : mkO h0 f7 a 26 [(40, 40), (40, 40), (40, 40), (40, 26), (40, 320), (44, 320), (40, 320)] [(9, 7), (8, 6), (7, 5), (4, 4), (3, 3), (2, 2), (1, 1)] (q + 1106) := n7.r (by decide) (by rw [d7, v7])
  refine ⟨⟨by omega, by omega⟩, fun g8 e8 => ?_⟩
  have n8 : mkO h0 g8 a 26 [(40, 40), (40, 40), (40, 40), (40, 26), (40, 320), (44, 320), (40, 320), (40, 320)] [(9, 7), (8, 6), (7, 5), (4, 4), (3, 3), (2, 2), (1, 1)] (q + 1426) := by have z := r7.n e8; rw [Nat.add_assoc] at z; exact z
  have v8 : nx f7 = a + 8 := r7.1.trans (by show a + 1 + 7 = a + 8; omega)
  refine ⟨n8.ty ha rfl rfl rfl, fun f8 d8 => ?_⟩
  have r8 : mkO h0 f8 a 26 [(40, 40), (40, 40), (40, 40), (40, 26), (40, 320), (44, 320), (40, 320), (40, 320)] [(10, 8), (9, 7), (8, 6), (7, 5), (4, 4), (3, 3), (2, 2), (1, 1)] (q + 1426) := n8.r (by decide) (by rw [d8, v8])
  refine ⟨⟨by omega, by omega⟩, fun g9 e9 => ?_⟩
  have n9 : mkO h0 g9 a 26 [(40, 40), (40, 40), (40, 40), (40, 26), (40, 320), (44, 320), (40, 320), (40, 320), (40, 320)] [(10, 8), (9, 7), (8, 6), (7, 5), (4, 4), (3, 3), (2, 2), (1, 1)] (q + 1746) := by have z := r8.n e9; rw [Nat.add_assoc] at z; exact z
  have v9 : nx f8 = a + 9 := r8.1.trans (by show a + 1 + 8 = a + 9; omega)
  refine ⟨n9.ty ha rfl rfl rfl, fun f9 d9 => ?_⟩
  have r9 : mkO h0 f9 a 26 [(40, 40), (40, 40), (40, 40), (40, 26), (40, 320), (44, 320), (40, 320), (40, 320), (40, 320)] [(11, 9), (10, 8), (9, 7), (8, 6), (7, 5), (4, 4), (3, 3), (2, 2), (1, 1)] (q + 1746) := n9.r (by decide) (by rw [d9, v9])
  refine ⟨⟨by omega, by omega⟩, fun g10 e10 => ?_⟩
  have n10 : mkO h0 g10 a 26 [(40, 40), (40, 40), (40, 40), (40, 26), (40, 320), (44, 320), (40, 320), (40, 320), (40, 320), (40, 320)] [(11, 9), (10, 8), (9, 7), (8, 6), (7, 5), (4, 4), (3, 3), (2, 2), (1, 1)] (q + 2066) := by have z := r9.n e10; rw [Nat.add_assoc] at z; exact z
  have v10 : nx f9 = a + 10 := r9.1.trans (by show a + 1 + 9 = a + 10; omega)
  refine ⟨n10.ty ha rfl rfl rfl, fun f10 d10 => ?_⟩
  have r10 : mkO h0 f10 a 26 [(40, 40), (40, 40), (40, 40), (40, 26), (40, 320), (44, 320), (40, 320), (40, 320), (40, 320), (40, 320)] [(12, 10), (11, 9), (10, 8), (9, 7), (8, 6), (7, 5), (4, 4), (3, 3), (2, 2), (1, 1)] (q + 2066) := n10.r (by decide) (by rw [d10, v10])
  refine ⟨⟨by omega, by omega⟩, fun g11 e11 => ?_⟩
  have n11 : mkO h0 g11 a 26 [(40, 40), (40, 40), (40, 40), (40, 26), (40, 320), (44, 320), (40, 320), (40, 320), (40, 320), (40, 320), (40, 320)] [(12, 10), (11, 9), (10, 8), (9, 7), (8, 6), (7, 5), (4, 4), (3, 3), (2, 2), (1, 1)] (q + 2386) := by have z := r10.n e11; rw [Nat.add_assoc] at z; exact z
  have v11 : nx f10 = a + 11 := r10.1.trans (by show a + 1 + 10 = a + 11; omega)
  refine ⟨n11.ty ha rfl rfl rfl, fun f11 d11 => ?_⟩
  have r11 : mkO h0 f11 a 26 [(40, 40), (40, 40), (40, 40), (40, 26), (40, 320), (44, 320), (40, 320), (40, 320), (40, 320), (40, 320), (40, 320)] [(13, 11), (12, 10), (11, 9), (10, 8), (9, 7), (8, 6), (7, 5), (4, 4), (3, 3), (2, 2), (1, 1)] (q + 2386) := n11.r (by decide) (by rw [d11, v11])
  refine ⟨⟨by omega, by omega⟩, fun g12 e12 => ?_⟩
  have n12 : mkO h0 g12 a 26 [(40, 40), (40, 40), (40, 40), (40, 26), (40, 320), (44, 320), (40, 320), (40, 320), (40, 320), (40, 320), (40, 320), (41, 320)] [(13, 11), (12, 10), (11, 9), (10, 8), (9, 7), (8, 6), (7, 5), (4, 4), (3, 3), (2, 2), (1, 1)] (q + 2706) := by have z := r11.n e12; rw [Nat.add_assoc] at z; exact z
  have v12 : nx f11 = a + 12 := r11.1.trans (by show a + 1 + 11 = a + 12; omega)
  refine ⟨n12.ty ha rfl rfl rfl, fun f12 d12 => ?_⟩
  have r12 : mkO h0 f12 a 26 [(40, 40), (40, 40), (40, 40), (40, 26), (40, 320), (44, 320), (40, 320), (40, 320), (40, 320), (40, 320), (40, 320), (41, 320)] [(14, 12), (13, 11), (12, 10), (11, 9), (10, 8), (9, 7), (8, 6), (7, 5), (4, 4), (3, 3), (2, 2), (1, 1)] (q + 2706) := n12.r (by decide) (by rw [d12, v12])
  refine ⟨⟨by omega, by omega⟩, fun g13 e13 => ?_⟩
  have n13 : mkO h0 g13 a 26 [(40, 40), (40, 40), (40, 40), (40, 26), (40, 320), (44, 320), (40, 320), (40, 320), (40, 320), (40, 320), (40, 320), (41, 320), (40, 20)] [(14, 12), (13, 11), (12, 10), (11, 9), (10, 8), (9, 7), (8, 6), (7, 5), (4, 4), (3, 3), (2, 2), (1, 1)] (q + 2726) := by have z := r12.n e13; rw [Nat.add_assoc] at z; exact z
  have v13 : nx f12 = a + 13 := r12.1.trans (by show a + 1 + 12 = a + 13; omega)
  rw [v13]
  have r13 : mkO h0 (sR g13 a 15 (a + 13)) a 26 [(40, 40), (40, 40), (40, 40), (40, 26), (40, 320), (44, 320), (40, 320), (40, 320), (40, 320), (40, 320), (40, 320), (41, 320), (40, 20)] [(15, 13), (14, 12), (13, 11), (12, 10), (11, 9), (10, 8), (9, 7), (8, 6), (7, 5), (4, 4), (3, 3), (2, 2), (1, 1)] (q + 2726) := n13.r (by decide) rfl
  exact ⟨n13.ty ha rfl rfl rfl, r13.2.2.2.2.2.1 (1, 1) (by decide), r13.el (i := 0) ha rfl rfl rfl (Or.inr rfl), r13.2.2.2.2.2.1 (2, 2) (by decide), r13.el (i := 1) ha rfl rfl rfl (Or.inr rfl), r13.2.2.2.2.2.1 (3, 3) (by decide), r13.el (i := 2) ha rfl rfl rfl (Or.inr rfl), r13.2.2.2.2.2.1 (4, 4) (by decide), r13.el (i := 3) ha rfl rfl rfl (Or.inr rfl), r13.2.2.2.2.2.1 (7, 5) (by decide), r13.el (i := 4) ha rfl rfl rfl (Or.inr rfl), r13.2.2.2.2.2.1 (8, 6) (by decide), r13.el (i := 5) ha rfl rfl rfl (Or.inr rfl), r13.2.2.2.2.2.1 (9, 7) (by decide), r13.el (i := 6) ha rfl rfl rfl (Or.inr rfl), r13.2.2.2.2.2.1 (10, 8) (by decide), r13.el (i := 7) ha rfl rfl rfl (Or.inr rfl), r13.2.2.2.2.2.1 (11, 9) (by decide), r13.el (i := 8) ha rfl rfl rfl (Or.inr rfl), r13.2.2.2.2.2.1 (12, 10) (by decide), r13.el (i := 9) ha rfl rfl rfl (Or.inr rfl), r13.2.2.2.2.2.1 (13, 11) (by decide), r13.el (i := 10) ha rfl rfl rfl (Or.inr rfl), r13.2.2.2.2.2.1 (14, 12) (by decide), r13.el (i := 11) ha rfl rfl rfl (Or.inr rfl), r13.2.2.2.2.2.1 (15, 13) (by decide), r13.el (i := 12) ha rfl rfl rfl (Or.inr rfl), fun h9 e9 => zq0 (k h9 (r13.s e9))⟩
theorem s117 {K : zH → Prop} (ha : 2 ≤ a) (x : mkO h0 h a 27 [] [] q) (k : ∀ h1, mkO h0 h1 a 7 [(40, 60), (40, 60), (40, 60), (41, 60)] [(4, 4), (3, 3), (2, 2), (1, 1)] (q + 240) → K h1) : zC0 117 [vR a 0] h K := by
  have r0 := x
  refine cV (k117_0 a h _ ⟨by omega, ?_⟩)
  refine ⟨⟨by omega, by omega⟩, fun g1 e1 => ?_⟩
  have n1 : mkO h0 g1 a 27 [(40, 60)] [] (q + 60) := r0.n e1
  have v1 : nx h = a + 1 := r0.1.trans (by show a + 1 + 0 = a + 1; omega)
  refine ⟨n1.ty ha rfl rfl rfl, fun f1 d1 => ?_⟩
  have r1 : mkO h0 f1 a 27 [(40, 60)] [(1, 1)] (q + 60) := n1.r (by decide) (by rw [d1, v1])
  refine ⟨⟨by omega, by omega⟩, fun g2 e2 => ?_⟩
  have n2 : mkO h0 g2 a 27 [(40, 60), (40, 60)] [(1, 1)] (q + 120) := by have z := r1.n e2; rw [Nat.add_assoc] at z; exact z
  have v2 : nx f1 = a + 2 := r1.1.trans (by show a + 1 + 1 = a + 2; omega)
  refine ⟨n2.ty ha rfl rfl rfl, fun f2 d2 => ?_⟩
  have r2 : mkO h0 f2 a 27 [(40, 60), (40, 60)] [(2, 2), (1, 1)] (q + 120) := n2.r (by decide) (by rw [d2, v2])
  refine ⟨⟨by omega, by omega⟩, fun g3 e3 => ?_⟩
  have n3 : mkO h0 g3 a 27 [(40, 60), (40, 60), (40, 60)] [(2, 2), (1, 1)] (q + 180) := by have z := r2.n e3; rw [Nat.add_assoc] at z; exact z
  have v3 : nx f2 = a + 3 := r2.1.trans (by show a + 1 + 2 = a + 3; omega)
  refine ⟨n3.ty ha rfl rfl rfl, fun f3 d3 => ?_⟩
  have r3 : mkO h0 f3 a 27 [(40, 60), (40, 60), (40, 60)] [(3, 3), (2, 2), (1, 1)] (q + 180) := n3.r (by decide) (by rw [d3, v3])
  refine ⟨⟨by omega, by omega⟩, fun g4 e4 => ?_⟩
  have n4 : mkO h0 g4 a 27 [(40, 60), (40, 60), (40, 60), (41, 60)] [(3, 3), (2, 2), (1, 1)] (q + 240) := by have z := r3.n e4; rw [Nat.add_assoc] at z; exact z
  have v4 : nx f3 = a + 4 := r3.1.trans (by show a + 1 + 3 = a + 4; omega)
  rw [v4]
  have r4 : mkO h0 (sR g4 a 4 (a + 4)) a 27 [(40, 60), (40, 60), (40, 60), (41, 60)] [(4, 4), (3, 3), (2, 2), (1, 1)] (q + 240) := n4.r (by decide) rfl
  exact ⟨n4.ty ha rfl rfl rfl, r4.2.2.2.2.2.1 (1, 1) (by decide), r4.el (i := 0) ha rfl rfl rfl (Or.inr rfl), r4.2.2.2.2.2.1 (2, 2) (by decide), r4.el (i := 1) ha rfl rfl rfl (Or.inr rfl), r4.2.2.2.2.2.1 (3, 3) (by decide), r4.el (i := 2) ha rfl rfl rfl (Or.inr rfl), r4.2.2.2.2.2.1 (4, 4) (by decide), r4.el (i := 3) ha rfl rfl rfl (Or.inr rfl), fun h9 e9 => zq0 (k h9 (r4.s e9))⟩
end MC
