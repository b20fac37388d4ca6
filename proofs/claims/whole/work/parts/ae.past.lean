/-! The past is made: eight texts in a row. (Written by gen134.py.) -/
section MP
variable {h0 h h1 : zH} {a c q : Nat} {D : List (Nat × Nat)} {R : List (Int × Nat)}
theorem mkO.ty2 (x : mkO h0 h a c D R q) (e : h1 = nw h 21 2) (ha : 2 ≤ a) {K : zH → Prop} (k : ∀ h2 l, mkO h0 h2 a c (D ++ [(1, l)] ++ [(40, 300)]) R (q + 302) → (∀ b, b < nx h → ∀ k, gR h2 b k = gR h b k) → K h2) : zC0 43 [vR (nx h) 0] h1 K := by
  have y := x.n e
  obtain ⟨x1, x2, x3, x4, x5, x6, x7⟩ := x
  have n1 : nx h1 = nx h + 1 := by rw [e, nxN]
  refine s43 (a := nx h) (by omega) n1 (by rw [e, tgN, if_pos rfl]) (fun k => by rw [e, gN, if_pos rfl]) (fun h2 ol m2 sc2 t2 t3 l3 z2 => k h2 (ln h2 (nx h)) ⟨?_, ?_, fun b hb => ?_, fun b k b0 b1 => ?_, fun i d hi => ?_, fun r hr => ?_, ?_⟩ (fun b hb k => ?_))
  · rw [m2, x1, List.length_append, List.length_append]; rfl
  · rw [(ol.1 a (by omega)).2.1]; exact y.2.1
  · have o := ol.1 b (by omega)
    have w := y.2.2.1 b hb
    exact ⟨fun k => ⟨(o.1 k).1.trans (w.1 k).1, (o.1 k).2.trans (w.1 k).2⟩, o.2.1.trans w.2.1, o.2.2.trans w.2.2⟩
  · by_cases c1 : b < nx h
    · rw [((ol.1 b c1).1 k).1]; exact y.2.2.2.1 b k b0 (by omega)
    · exact z2 b k (by omega)
  · rcases snoc_q.1 hi with r | ⟨r1, r2⟩
    · rcases snoc_q.1 r with s | ⟨s1, s2⟩
      · have lt := lt_q s
        have o := ol.1 (a + 1 + i) (by omega)
        rw [o.2.1, o.2.2]
        exact y.2.2.2.2.1 i d (snoc_q.2 (Or.inl s))
      · subst s1; subst s2
        rw [← x1]; exact ⟨t2, rfl⟩
    · subst r1; subst r2
      rw [List.length_append, show a + 1 + (D.length + [(1, ln h2 (nx h))].length) = nx h + 1 by rw [x1]; show a + 1 + (D.length + 1) = _; omega]
      exact ⟨t3, l3⟩
  · rw [((ol.1 a (by omega)).1 _).2]; exact y.2.2.2.2.2.1 r hr
  · rw [sc2, e, scN, x7]; omega
  · rw [((ol.1 b hb).1 k).2, e, gRN, if_neg (by omega)]
theorem mkO.w {b v : Nat} {f : Int} (x : mkO h0 h a c D R q) (hb : a < b) (e : h1 = sR h b f v) : mkO h0 h1 a c D R q := by
  obtain ⟨x1, x2, x3, x4, x5, x6, x7⟩ := x
  refine ⟨by rw [e]; exact x1, by rw [e]; exact x2, fun d hd => ?_, fun d k h0 h1 => ?_, fun i d hi => by rw [e]; exact x5 i d hi, fun r hr => ?_, by rw [e]; exact x7⟩
  · have y := x3 d hd
    refine ⟨fun k => ⟨by rw [e, gIR]; exact (y.1 k).1, by rw [e, gRR, if_neg (by omega)]; exact (y.1 k).2⟩, by rw [e]; exact y.2.1, by rw [e]; exact y.2.2⟩
  · rw [e, gIR]
    rw [e] at h1
    exact x4 d k h0 h1
  · rw [e, gRR, if_neg (by omega)]; exact x6 r hr
/-- with what stands in the row behind it -/
def mkW (h0 h : zH) (a c : Nat) (D : List (Nat × Nat)) (R W : List (Int × Nat)) (q : Nat) : Prop := mkO h0 h a c D R q ∧ ∀ w, w ∈ W → gR h (a + 1) w.1 = a + w.2
theorem mkW.st {h2 : zH} {W : List (Int × Nat)} {l v : Nat} {i : Int} (x : mkW h0 h a c D R W q) (hD : 0 < D.length) (y : mkO h0 h1 a c (D ++ [(1, l)] ++ [(40, 300)]) R (q + 302)) (o : ∀ b, b < nx h → ∀ k, gR h1 b k = gR h b k) (hi : ∀ w, w ∈ W → ¬ w.1 = i) (hv : nx h = a + v) (e : h2 = sR h1 (a + 1) i (nx h)) : mkW h0 h2 a c (D ++ [(1, l)] ++ [(40, 300)]) R ((i, v) :: W) (q + 302) := by
  refine ⟨y.w (by omega) e, fun w hw => ?_⟩
  have n := x.1.1
  rcases List.mem_cons.1 hw with z | z
  · rw [z, e, gRR, if_pos ⟨rfl, rfl⟩]; exact hv
  · rw [e, gRR, if_neg (fun u => hi w z u.2), o _ (by omega)]; exact x.2 w z
theorem s134 {K : zH → Prop} (ha : 2 ≤ a) (x : mkO h0 h a 29 [] [] q) (k : ∀ h1 l0 l1 l2 l3 l4 l5 l6 l7, mkW h0 h1 a 9 [(45, 8), (1, l0), (40, 300), (1, l1), (40, 300), (1, l2), (40, 300), (1, l3), (40, 300), (1, l4), (40, 300), (1, l5), (40, 300), (1, l6), (40, 300), (1, l7), (40, 300)] [(2, 1)] [(7, 16), (6, 14), (5, 12), (4, 10), (3, 8), (2, 6), (1, 4), (0, 2)] (q + 2424) → K h1) : zC0 134 [vR a 0] h K := by
  have v0 : nx h = a + 1 := x.1
  refine cV (k134_0 a h _ ⟨by omega, ⟨by omega, by omega⟩, fun g0 e0 => ?_⟩)
  have n0 : mkO h0 g0 a 29 [(45, 8)] [] (q + 8) := x.n e0
  rw [v0]
  have r0 : mkO h0 (sR g0 a 2 (a + 1)) a 29 [(45, 8)] [(2, 1)] (q + 8) := n0.r (by decide) rfl
  refine ⟨n0.ty ha rfl rfl rfl, r0.2.2.2.2.2.1 (2, 1) (by decide), r0.el (i := 0) ha rfl rfl rfl (Or.inr rfl), fun f0 d0 => ?_⟩
  have a0 : mkW h0 f0 a 9 [(45, 8)] [(2, 1)] [] (q + 8) := ⟨r0.s d0, fun w hw => by cases hw⟩
  have v1 : nx f0 = a + 2 := a0.1.1.trans (by show a + 1 + 1 = a + 2; omega)
  refine k134_15 a 0 f0 _ ⟨fun z => absurd z (by omega), fun _ => ⟨a0.1.ty ha rfl rfl rfl, fun t0 u0 => ⟨by omega, a0.1.ty2 u0 ha (fun b0 l0 y0 o0 => ⟨by omega, by omega, Or.inr ?_, fun f1 d1 => ⟨by unfold inR; omega, ?_⟩⟩)⟩⟩⟩
  · rw [v1, show a + 2 = a + 1 + 1 by omega]
    exact y0.el (i := 1) ha rfl rfl rfl (Or.inl rfl)
  have a1 : mkW h0 f1 a 9 [(45, 8), (1, l0), (40, 300)] [(2, 1)] [(0, 2)] (q + 310) := by have z := a0.st (i := 0) (Nat.succ_pos _) y0 o0 (by decide) v1 d1; rw [Nat.add_assoc] at z; exact z
  have v2 : nx f1 = a + 4 := a1.1.1.trans (by show a + 1 + 3 = a + 4; omega)
  refine k134_15 a 1 f1 _ ⟨fun z => absurd z (by omega), fun _ => ⟨a1.1.ty ha rfl rfl rfl, fun t1 u1 => ⟨by omega, a1.1.ty2 u1 ha (fun b1 l1 y1 o1 => ⟨by omega, by omega, Or.inr ?_, fun f2 d2 => ⟨by unfold inR; omega, ?_⟩⟩)⟩⟩⟩
  · rw [v2, show a + 4 = a + 1 + 3 by omega]
    exact y1.el (i := 3) ha rfl rfl rfl (Or.inl rfl)
  have a2 : mkW h0 f2 a 9 [(45, 8), (1, l0), (40, 300), (1, l1), (40, 300)] [(2, 1)] [(1, 4), (0, 2)] (q + 612) := by have z := a1.st (i := 1) (Nat.succ_pos _) y1 o1 (by decide) v2 d2; rw [Nat.add_assoc] at z; exact z
  have v3 : nx f2 = a + 6 := a2.1.1.trans (by show a + 1 + 5 = a + 6; omega)
  refine k134_15 a 2 f2 _ ⟨fun z => absurd z (by omega), fun _ => ⟨a2.1.ty ha rfl rfl rfl, fun t2 u2 => ⟨by omega, a2.1.ty2 u2 ha (fun b2 l2 y2 o2 => ⟨by omega, by omega, Or.inr ?_, fun f3 d3 => ⟨by unfold inR; omega, ?_⟩⟩)⟩⟩⟩
  · rw [v3, show a + 6 = a + 1 + 5 by omega]
    exact y2.el (i := 5) ha rfl rfl rfl (Or.inl rfl)
  have a3 : mkW h0 f3 a 9 [(45, 8), (1, l0), (40, 300), (1, l1), (40, 300), (1, l2), (40, 300)] [(2, 1)] [(2, 6), (1, 4), (0, 2)] (q + 914) := by have z := a2.st (i := 2) (Nat.succ_pos _) y2 o2 (by decide) v3 d3; rw [Nat.add_assoc] at z; exact z
  have v4 : nx f3 = a + 8 := a3.1.1.trans (by show a + 1 + 7 = a + 8; omega)
  refine k134_15 a 3 f3 _ ⟨fun z => absurd z (by omega), fun _ => ⟨a3.1.ty ha rfl rfl rfl, fun t3 u3 => ⟨by omega, a3.1.ty2 u3 ha (fun b3 l3 y3 o3 => ⟨by omega, by omega, Or.inr ?_, fun f4 d4 => ⟨by unfold inR; omega, ?_⟩⟩)⟩⟩⟩
  · rw [v4, show a + 8 = a + 1 + 7 by omega]
    exact y3.el (i := 7) ha rfl rfl rfl (Or.inl rfl)
  have a4 : mkW h0 f4 a 9 [(45, 8), (1, l0), (40, 300), (1, l1), (40, 300), (1, l2), (40, 300), (1, l3), (40, 300)] [(2, 1)] [(3, 8), (2, 6), (1, 4), (0, 2)] (q + 1216) := by have z := a3.st (i := 3) (Nat.succ_pos _) y3 o3 (by decide) v4 d4; rw [Nat.add_assoc] at z; exact z
  have v5 : nx f4 = a + 10 := a4.1.1.trans (by show a + 1 + 9 = a + 10; omega)
  refine k134_15 a 4 f4 _ ⟨fun z => absurd z (by omega), fun _ => ⟨a4.1.ty ha rfl rfl rfl, fun t4 u4 => ⟨by omega, a4.1.ty2 u4 ha (fun b4 l4 y4 o4 => ⟨by omega, by omega, Or.inr ?_, fun f5 d5 => ⟨by unfold inR; omega, ?_⟩⟩)⟩⟩⟩
  · rw [v5, show a + 10 = a + 1 + 9 by omega]
    exact y4.el (i := 9) ha rfl rfl rfl (Or.inl rfl)
  have a5 : mkW h0 f5 a 9 [(45, 8), (1, l0), (40, 300), (1, l1), (40, 300), (1, l2), (40, 300), (1, l3), (40, 300), (1, l4), (40, 300)] [(2, 1)] [(4, 10), (3, 8), (2, 6), (1, 4), (0, 2)] (q + 1518) := by have z := a4.st (i := 4) (Nat.succ_pos _) y4 o4 (by decide) v5 d5; rw [Nat.add_assoc] at z; exact z
  have v6 : nx f5 = a + 12 := a5.1.1.trans (by show a + 1 + 11 = a + 12; omega)
  refine k134_15 a 5 f5 _ ⟨fun z => absurd z (by omega), fun _ => ⟨a5.1.ty ha rfl rfl rfl, fun t5 u5 => ⟨by omega, a5.1.ty2 u5 ha (fun b5 l5 y5 o5 => ⟨by omega, by omega, Or.inr ?_, fun f6 d6 => ⟨by unfold inR; omega, ?_⟩⟩)⟩⟩⟩
  · rw [v6, show a + 12 = a + 1 + 11 by omega]
    exact y5.el (i := 11) ha rfl rfl rfl (Or.inl rfl)
  have a6 : mkW h0 f6 a 9 [(45, 8), (1, l0), (40, 300), (1, l1), (40, 300), (1, l2), (40, 300), (1, l3), (40, 300), (1, l4), (40, 300), (1, l5), (40, 300)] [(2, 1)] [(5, 12), (4, 10), (3, 8), (2, 6), (1, 4), (0, 2)] (q + 1820) := by have z := a5.st (i := 5) (Nat.succ_pos _) y5 o5 (by decide) v6 d6; rw [Nat.add_assoc] at z; exact z
  have v7 : nx f6 = a + 14 := a6.1.1.trans (by show a + 1 + 13 = a + 14; omega)
  refine k134_15 a 6 f6 _ ⟨fun z => absurd z (by omega), fun _ => ⟨a6.1.ty ha rfl rfl rfl, fun t6 u6 => ⟨by omega, a6.1.ty2 u6 ha (fun b6 l6 y6 o6 => ⟨by omega, by omega, Or.inr ?_, fun f7 d7 => ⟨by unfold inR; omega, ?_⟩⟩)⟩⟩⟩
  · rw [v7, show a + 14 = a + 1 + 13 by omega]
    exact y6.el (i := 13) ha rfl rfl rfl (Or.inl rfl)
  have a7 : mkW h0 f7 a 9 [(45, 8), (1, l0), (40, 300), (1, l1), (40, 300), (1, l2), (40, 300), (1, l3), (40, 300), (1, l4), (40, 300), (1, l5), (40, 300), (1, l6), (40, 300)] [(2, 1)] [(6, 14), (5, 12), (4, 10), (3, 8), (2, 6), (1, 4), (0, 2)] (q + 2122) := by have z := a6.st (i := 6) (Nat.succ_pos _) y6 o6 (by decide) v7 d7; rw [Nat.add_assoc] at z; exact z
  have v8 : nx f7 = a + 16 := a7.1.1.trans (by show a + 1 + 15 = a + 16; omega)
  refine k134_15 a 7 f7 _ ⟨fun z => absurd z (by omega), fun _ => ⟨a7.1.ty ha rfl rfl rfl, fun t7 u7 => ⟨by omega, a7.1.ty2 u7 ha (fun b7 l7 y7 o7 => ⟨by omega, by omega, Or.inr ?_, fun f8 d8 => ⟨by unfold inR; omega, ?_⟩⟩)⟩⟩⟩
  · rw [v8, show a + 16 = a + 1 + 15 by omega]
    exact y7.el (i := 15) ha rfl rfl rfl (Or.inl rfl)
  have a8 : mkW h0 f8 a 9 [(45, 8), (1, l0), (40, 300), (1, l1), (40, 300), (1, l2), (40, 300), (1, l3), (40, 300), (1, l4), (40, 300), (1, l5), (40, 300), (1, l6), (40, 300), (1, l7), (40, 300)] [(2, 1)] [(7, 16), (6, 14), (5, 12), (4, 10), (3, 8), (2, 6), (1, 4), (0, 2)] (q + 2424) := by have z := a7.st (i := 7) (Nat.succ_pos _) y7 o7 (by decide) v8 d8; rw [Nat.add_assoc] at z; exact z
  exact k134_15 a 8 f8 _ ⟨fun _ => zq0 (k f8 l0 l1 l2 l3 l4 l5 l6 l7 a8), fun z => absurd (by omega) z⟩
end MP
