/-! Objects that are being made: cells behind one another. -/
def mkO (h0 h : zH) (a c : Nat) (D : List (Nat × Nat)) (R : List (Int × Nat)) (q : Nat) : Prop := nx h = a + 1 + D.length ∧ tg h a = c ∧ (∀ b, b < a → (∀ k, gI h b k = gI h0 b k ∧ gR h b k = gR h0 b k) ∧ tg h b = tg h0 b ∧ ln h b = ln h0 b) ∧ (∀ b k, a ≤ b → b < nx h → gI h b k = 0) ∧ (∀ (i : Nat) (d : Nat × Nat), D[i]? = some d → tg h (a + 1 + i) = d.1 ∧ ln h (a + 1 + i) = d.2) ∧ (∀ r, r ∈ R → gR h a r.1 = a + r.2) ∧ sc h = sc h0 + q
section MK
variable {h0 h h1 h2 : zH} {a c : Nat} {D : List (Nat × Nat)} {R : List (Int × Nat)} {q : Nat}
theorem mkO.ty {t : Nat} (x : mkO h0 h a c D R q) (ha : 2 ≤ a) (ht : Nat.beq t 147 = false) (hc : c = t % 100) (h1 : t / 100 = 1) : zty t a h := by
  rw [zty_iff ht, x.1, x.2.1]
  exact ⟨ha, by omega, hc, Or.inl h1⟩
theorem mkO.el {t i : Nat} {d : Nat × Nat} (x : mkO h0 h a c D R q) (ha : 2 ≤ a) (ht : Nat.beq t 147 = false) (hi : D[i]? = some d) (h1 : d.1 = t % 100) (h2 : t / 100 = 1 ∨ d.2 = t / 100 - 1) : zty t (a + 1 + i) h := by
  have e := x.2.2.2.2.1 i d hi
  have lt := lt_q hi
  rw [zty_iff ht, x.1, e.1, e.2]
  exact ⟨by omega, by omega, h1, h2⟩
theorem mkO.n {t n : Nat} (x : mkO h0 h a c D R q) (e : h1 = nw h t n) : mkO h0 h1 a c (D ++ [(t, n)]) R (q + n) := by
  obtain ⟨x1, x2, x3, x4, x5, x6, x7⟩ := x
  refine ⟨by rw [e, nxN, List.length_append, x1]; rfl, by rw [e, tgN, if_neg (by omega)]; exact x2, fun b hb => ?_, fun b k h0 h1 => ?_, fun i d hi => ?_, fun r hr => ?_, by rw [e, scN, x7]; omega⟩
  · have y := x3 b hb
    refine ⟨fun k => ⟨by rw [e, gN, if_neg (by omega)]; exact (y.1 k).1, by rw [e, gRN, if_neg (by omega)]; exact (y.1 k).2⟩, by rw [e, tgN, if_neg (by omega)]; exact y.2.1, by rw [e, lnN, if_neg (by omega)]; exact y.2.2⟩
  · rw [e, gN]
    by_cases z : b = nx h
    · rw [if_pos z]
    · rw [if_neg z]
      rw [e, nxN] at h1
      exact x4 b k h0 (by omega)
  · rcases snoc_q.1 hi with r | ⟨r1, r2⟩
    · have lt := lt_q r
      rw [e, tgN, lnN, if_neg (by omega), if_neg (by omega)]
      exact x5 i d r
    · subst r1; subst r2
      rw [e, tgN, lnN, if_pos x1.symm, if_pos x1.symm]
      exact ⟨rfl, rfl⟩
  · rw [e, gRN, if_neg (by omega)]; exact x6 r hr
theorem mkO.r {f : Int} {v : Nat} (x : mkO h0 h a c D R q) (hf : ∀ r, r ∈ R → ¬ r.1 = f) (e : h1 = sR h a f (a + v)) : mkO h0 h1 a c D ((f, v) :: R) q := by
  obtain ⟨x1, x2, x3, x4, x5, x6, x7⟩ := x
  refine ⟨by rw [e]; exact x1, by rw [e]; exact x2, fun b hb => ?_, fun b k h0 h1 => ?_, fun i d hi => by rw [e]; exact x5 i d hi, fun r hr => ?_, by rw [e]; exact x7⟩
  · have y := x3 b hb
    refine ⟨fun k => ⟨by rw [e, gIR]; exact (y.1 k).1, by rw [e, gRR, if_neg (by omega)]; exact (y.1 k).2⟩, by rw [e]; exact y.2.1, by rw [e]; exact y.2.2⟩
  · rw [e, gIR]
    rw [e] at h1
    exact x4 b k h0 h1
  · rcases List.mem_cons.1 hr with z | z
    · rw [z, e, gRR, if_pos ⟨rfl, rfl⟩]
    · rw [e, gRR, if_neg (fun w => hf r z w.2)]; exact x6 r z
theorem mkO.s {t : Nat} (x : mkO h0 h a c D R q) (e : h1 = sT h a t) : mkO h0 h1 a t D R q := by
  obtain ⟨x1, x2, x3, x4, x5, x6, x7⟩ := x
  refine ⟨by rw [e]; exact x1, by rw [e, tgT, if_pos rfl], fun b hb => ?_, fun b k h0 h1 => by rw [e]; rw [e] at h1; exact x4 b k h0 h1, fun i d hi => ?_, fun r hr => by rw [e]; exact x6 r hr, by rw [e]; exact x7⟩
  · have y := x3 b hb
    exact ⟨fun k => by rw [e]; exact y.1 k, by rw [e, tgT, if_neg (by omega)]; exact y.2.1, by rw [e]; exact y.2.2⟩
  · rw [e, tgT, if_neg (by omega)]
    exact x5 i d hi
/-- the rule reader -/
theorem s74 {K : zH → Prop} (ha : 2 ≤ a) (x : mkO h0 h a 24 [] [] q) (k : ∀ h1, mkO h0 h1 a 4 [(40, 40)] [(10, 1)] (q + 40) → K h1) : zC0 74 [vR a 0] h K := by
  refine cV (k74_0 a h _ ⟨by omega, ⟨by omega, by omega⟩, fun h3 e3 => ?_⟩)
  have x3 : mkO h0 h3 a 24 [(40, 40)] [] (q + 40) := x.n e3
  have en : nx h = a + 1 := x.1
  rw [en]
  have x4 : mkO h0 (sR h3 a 10 (a + 1)) a 24 [(40, 40)] [(10, 1)] (q + 40) := x3.r (fun r hr => by cases hr) rfl
  exact ⟨x3.ty ha rfl rfl rfl, x4.2.2.2.2.2.1 (10, 1) (List.mem_cons.2 (Or.inl rfl)), x4.el (i := 0) ha rfl rfl rfl (Or.inr rfl), fun h4 e4 => zq0 (k h4 (x4.s e4))⟩
end MK
