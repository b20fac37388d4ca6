/-! The program: keep and again. -/
def xKp (h : zH) (A : Nat) (t : Int → Int) (n : Int) (rn : Int → Int) (rt : Int → Int → Int) (rs : Int → pS) : Prop := gI h A 0 = 1 ∧ Txt h (A + 1) t n ∧ xRu h (A + 3) rn rt rs
section XK
variable {h : zH} {t : Int → Int} {n nd nc : Int} {T C : pT} {rn : Int → Int} {rt : Int → Int → Int} {rs : Int → pS} {a A : Nat}
theorem xRu.to {B : Nat} (u : xRu h A rn rt rs) (e : ∀ x, 0 ≤ x → x < 8 → gR h B x = gR h A x) : xRu h B rn rt rs := fun x x0 x1 => by rw [e x x0 x1]; exact u x x0 x1
theorem xRu.rf (u : xRu h A rn rt rs) : ∀ x, 0 ≤ x → x < 8 → gR h A x = 0 ∨ zty 103 (gR h A x) h := fun x x0 x1 => by
  by_cases c : rn x = 0
  · exact Or.inl ((u x x0 x1).1 c)
  · exact Or.inr ((u x x0 x1).2 c).2.2.1
theorem s27 {j : Int} (o : tOk t n) (y : xU h a t n nd nc T C) (ha : a + 16 ≤ 53) (u : xRu h 53 rn rt rs) (kj : (0 ≤ j ∧ j < 2) → gR h 105 j = A ∧ zty 110 A h ∧ ln h (A + 1 + 1) = 300 ∧ (A = 107 ∨ A = 111)) {K : Int → zH → Prop} (k1 : (0 ≤ j ∧ j < 2) → ∀ h1, frX (fun b k => txA (A + 1) b k ∨ (b = A ∧ k = 0)) (fun b _ => b = A + 3) h h1 → xKp h1 A t n rn rt rs → K 1 h1) (k2 : ¬ (0 ≤ j ∧ j < 2) → K 0 h) : zC1 27 [vR 2 100, vI j] h K := by
  refine cI (k27_0 j h _ ⟨fun c => ⟨Or.inl rfl, zq1 (k2 (by omega))⟩, fun c => ⟨fun c2 => ?_, fun c2 => ⟨Or.inl rfl, zq1 (k2 (by omega))⟩⟩⟩)
  have hj : 0 ≤ j ∧ j < 2 := by omega
  obtain ⟨q1, q2, q3, q4⟩ := kj hj
  rw [q1, y.1]
  refine ⟨hj.1, hj.2, q2, y.2.1, s45 y.2.2.1 o q3 (by omega) (fun h4 f4 x4 => ?_)⟩
  have r4 : gR h4 105 j = A := by rw [f4.rr]; exact q1
  have u4 : xRu h4 53 rn rt rs := u.fx (f4.x (R := fun _ _ => False)) (fun b k _ _ => by unfold txA; omega) (fun k _ _ q => q)
  rw [r4]
  refine ⟨hj.1, hj.2, by rw [f4.ty]; exact q2, s42 u4.rf (by omega) (fun h5 i5 g5 e5 c5 => ?_)⟩
  have f5 : frX (fun _ _ => False) (fun b _ => b = A + 3) h4 h5 := ⟨fun b k _ => i5 b k, fun b k q => g5 b k (fun z => q z.1), e5⟩
  have r5 : gR h5 105 j = A := by rw [g5 _ _ (by omega)]; exact r4
  rw [r5]
  refine ⟨hj.1, hj.2, by rw [f5.ty, f4.ty]; exact q2, Or.inr rfl, fun h6 e6 => ⟨Or.inr rfl, zq1 (k1 hj h6 ?_ ⟨by rw [e6, gS1], ?_, ?_⟩)⟩⟩
  · rw [e6]
    exact (((f4.mo (fun b k q => Or.inl q)).x (R := fun b _ => b = A + 3)).tr (f5.mo (fun b k q => q.elim) (fun b k q => q))).st (Or.inr ⟨rfl, rfl⟩)
  · have f6 : frX (fun b k => b = A ∧ k = 0) (fun b _ => b = A + 3) h4 h6 := by rw [e6]; exact (f5.mo (fun b k q => q.elim) (fun b k q => q)).st ⟨rfl, rfl⟩
    exact x4.fx f6 (fun k => by omega)
  · have u5 : xRu h5 53 rn rt rs := u4.fx f5 (fun b k _ _ q => q) (fun k _ _ => by omega)
    have w5 : xRu h5 (A + 3) rn rt rs := u5.to (fun x x0 x1 => by rw [c5 x x0 x1, g5 _ _ (by omega)])
    have f6 : frX (fun b k => b = A ∧ k = 0) (fun _ _ => False) h5 h6 := by rw [e6]; exact frX.rf.st ⟨rfl, rfl⟩
    exact w5.fx f6 (fun b k _ _ => by omega) (fun k _ _ q => q)
theorem s28 {j : Int} {t2 : Int → Int} {n2 nd2 nc2 : Int} {T2 C2 : pT} {rn2 : Int → Int} {rt2 : Int → Int → Int} {rs2 : Int → pS} (y : xU h a t n nd nc T C) (ha : a + 16 ≤ 53) (la : ln h (a + 1 + 1) = 300) (kj : (0 ≤ j ∧ j < 2) → gR h 105 j = A ∧ zty 110 A h ∧ (A = 107 ∨ A = 111)) (g : (0 ≤ j ∧ j < 2) → ¬ gI h A 0 = 0 → sF t2 n2 nd2 nc2 T2 C2 ∧ xKp h A t2 n2 rn2 rt2 rs2) {K : Int → zH → Prop} (k1 : (0 ≤ j ∧ j < 2) → ¬ gI h A 0 = 0 → ∀ h1, frX (fun b k => srB a b k ∨ (b = 87 ∧ k = 0)) (fun b _ => b = 53) h h1 → gI h1 87 0 = 0 → xU h1 a t2 n2 nd2 nc2 T2 C2 → xRu h1 53 rn2 rt2 rs2 → K 1 h1) (k2 : ¬ ((0 ≤ j ∧ j < 2) ∧ ¬ gI h A 0 = 0) → K 0 h) : zC1 28 [vR 2 100, vI j] h K := by
  refine cI (k28_0 j h _ ⟨fun c => ⟨Or.inl rfl, zq1 (k2 (by omega))⟩, fun c => ⟨fun c2 => ⟨Or.inl rfl, zq1 (k2 (by omega))⟩, fun c2 => ?_⟩⟩)
  have hj : 0 ≤ j ∧ j < 2 := by omega
  obtain ⟨q1, q2, q4⟩ := kj hj
  rw [q1, y.1]
  refine ⟨hj.1, hj.2, q2, fun d => ?_, fun d => ⟨Or.inl rfl, zq1 (k2 (fun q => d q.2))⟩⟩
  obtain ⟨gs, kp⟩ := g hj d
  refine ⟨y.2.1, hj.1, hj.2, q2, s50g gs kp.2.1 la (by omega) (fun h4 f4 x4 => ?_)⟩
  have r4 : gR h4 105 j = A := by rw [f4.rr]; exact q1
  have u4 : xRu h4 (A + 3) rn2 rt2 rs2 := kp.2.2.fx (f4.x (R := fun _ _ => False)) (fun b k _ _ => by unfold srB srA txA; omega) (fun k _ _ q => q)
  rw [r4]
  refine ⟨hj.1, hj.2, by rw [f4.ty]; exact q2, s42 u4.rf (by omega) (fun h5 i5 g5 e5 c5 => s137 ⟨Or.inr rfl, zq1 (k1 hj d _ ?_ gS1 ?_ ?_)⟩)⟩
  · have f5 : frX (fun _ _ => False) (fun b _ => b = 53) h4 h5 := ⟨fun b k _ => i5 b k, fun b k q => g5 b k (fun z => q z.1), e5⟩
    exact (((f4.mo (fun b k q => Or.inl q)).x (R := fun b _ => b = 53)).tr (f5.mo (fun b k q => q.elim) (fun b k q => q))).st (Or.inr ⟨rfl, rfl⟩)
  · have f6 : frX (fun b k => b = 87 ∧ k = 0) (fun b _ => b = 53) h4 (sI h5 87 0 0) := frX.st ⟨fun b k _ => i5 b k, fun b k q => g5 b k (fun z => q z.1), e5⟩ ⟨rfl, rfl⟩
    refine ⟨by rw [f6.2.1 _ _ (by omega), f4.rr]; exact y.1, by rw [f6.ty, f4.ty]; exact y.2.1, x4.fx f6 (fun b k _ _ => by omega)⟩
  · have f5 : frX (fun _ _ => False) (fun b _ => b = 53) h4 h5 := ⟨fun b k _ => i5 b k, fun b k q => g5 b k (fun z => q z.1), e5⟩
    have u5 : xRu h5 (A + 3) rn2 rt2 rs2 := u4.fx f5 (fun b k _ _ q => q) (fun k _ _ => by omega)
    have w5 : xRu h5 53 rn2 rt2 rs2 := u5.to (fun x x0 x1 => by rw [c5 x x0 x1, g5 _ _ (by omega)])
    have f6 : frX (fun b k => b = 87 ∧ k = 0) (fun _ _ => False) h5 (sI h5 87 0 0) := frX.rf.st ⟨rfl, rfl⟩
    exact w5.fx f6 (fun b k _ _ => by omega) (fun k _ _ q => q)
end XK
