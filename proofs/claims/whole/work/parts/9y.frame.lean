/-! Both together: what stands between two calls; what a call leaves as it was. -/
def frY (P R : Nat → Int → Prop) (h h1 : zH) : Prop := (∀ b k, b < nx h → ¬ P b k → gI h1 b k = gI h b k) ∧ (∀ b k, b < nx h → ¬ R b k → gR h1 b k = gR h b k) ∧ (∀ b, b < nx h → tg h1 b = tg h b ∧ ln h1 b = ln h b) ∧ nx h ≤ nx h1
section FY
variable {P R P' R' : Nat → Int → Prop} {h h1 h2 : zH} {a A : Nat} {t ty0 : Int → Int} {n nd nc m0 c : Int} {T C : pT} {rn : Int → Int} {rt : Int → Int → Int} {rs : Int → pS} {S : qS} {pt : Int → Int → Int} {pn : Int → Int}
theorem frX.y (f : frX P R h h1) : frY P R h h1 := ⟨fun b k _ n => f.1 b k n, fun b k _ n => f.2.1 b k n, fun b _ => ⟨f.gg b, f.le b⟩, Nat.le_of_eq f.nn.symm⟩
theorem frP.y (f : frP P h h1) : frY P R h h1 := (frP.x (R := R) f).y
theorem frX.cc (f : frX P R h h1) : sc h1 = sc h := by unfold sc; rw [f.2.2]
theorem frD.y (f : frD a h h1) (e : nx h = a) : frY (fun b k => b = 54 ∨ b = 55 ∨ (b = 3 ∧ k = 1)) (fun b _ => b = 53 ∨ b = 54 ∨ b = 55) h h1 := by
  refine ⟨fun b k l n => ?_, fun b k l n => ?_, fun b l => f.2.2.1 b (by omega), by rw [f.2.2.2.1]; omega⟩
  · have n : ¬ (b = 54 ∨ b = 55 ∨ (b = 3 ∧ k = 1)) := n
    exact f.1 b (by omega) (by omega) (by omega) k (by omega)
  · have n : ¬ (b = 53 ∨ b = 54 ∨ b = 55) := n
    exact f.2.1 b (by omega) (by omega) (by omega) k (by omega)
theorem frY.tr (p : frY P R h h1) (q : frY P R h1 h2) : frY P R h h2 :=
  ⟨fun b k l n => (q.1 b k (Nat.lt_of_lt_of_le l p.2.2.2) n).trans (p.1 b k l n), fun b k l n => (q.2.1 b k (Nat.lt_of_lt_of_le l p.2.2.2) n).trans (p.2.1 b k l n), fun b l => ⟨((q.2.2.1 b (Nat.lt_of_lt_of_le l p.2.2.2)).1).trans (p.2.2.1 b l).1, ((q.2.2.1 b (Nat.lt_of_lt_of_le l p.2.2.2)).2).trans (p.2.2.1 b l).2⟩, Nat.le_trans p.2.2.2 q.2.2.2⟩
theorem frY.mo (p : frY P R h h1) (i : ∀ b k, P b k → P' b k) (j : ∀ b k, R b k → R' b k) : frY P' R' h h1 := ⟨fun b k l n => p.1 b k l (fun q => n (i b k q)), fun b k l n => p.2.1 b k l (fun q => n (j b k q)), p.2.2⟩
theorem frY.ty (f : frY P R h h1) {t x : Nat} (ht : Nat.beq t 147 = false) (z : zty t x h) : zty t x h1 := by
  rw [zty_iff ht] at z ⊢
  have e := f.2.2.1 x z.2.1
  have n := f.2.2.2
  rw [e.1, e.2]
  exact ⟨z.1, by omega, z.2.2⟩
theorem frY.le (f : frY P R h h1) {x v : Nat} (l : x < nx h) (e : ln h x = v) : ln h1 x = v := (f.2.2.1 x l).2.trans e
/-- the ints alone -/
theorem frY.m (f : frY P R h h1) : frP (fun b k => P b k ∨ nx h ≤ b) h (h1.1, h.2) := by
  refine ⟨fun b k n => ?_, rfl⟩
  have n : ¬ (P b k ∨ nx h ≤ b) := n
  exact f.1 b k (Nat.lt_of_not_le (fun q => n (Or.inr q))) (fun q => n (Or.inl q))
theorem nof {A : Prop} {a b : Nat} (x : ¬ A) (l : a < b) : ¬ (A ∨ b ≤ a) := fun q => q.elim x (fun z => by omega)
theorem Txt.fy (x : Txt h a t n) (f : frY P R h h1) (l : a + 1 < nx h) (d : ∀ k, ¬ P a k ∧ ¬ P (a + 1) k) : Txt h1 a t n :=
  ⟨(f.1 _ _ (by omega) (d _).1).trans x.1, f.le l x.2.1, fun i h0 h1 => (f.1 _ _ l (d _).2).trans (x.2.2 i h0 h1)⟩
theorem xN.fy (x : xN h a t n nd nc T C) (f : frY P R h h1) (l : a + 16 ≤ nx h) (d : ∀ b k, a ≤ b → b < a + 16 → ¬ P b k) : xN h1 a t n nd nc T C := by
  obtain ⟨x1, x2, x3, x4, x5⟩ := x
  have e : ∀ b k, a ≤ b → b < a + 16 → gI h1 b k = gI h b k := fun b k b0 b1 => f.1 b k (by omega) (d b k b0 b1)
  refine ⟨x1.fy f (by omega) (fun k => ⟨d _ _ (by omega) (by omega), d _ _ (by omega) (by omega)⟩), by rw [e _ _ (by omega) (by omega)]; exact x2, by rw [e _ _ (by omega) (by omega)]; exact x3, fun i h0 h1 => ?_, fun i h0 h1 => ?_⟩
  · have y := x4 i h0 h1
    repeat rw [e _ _ (by omega) (by omega)]
    exact y
  · have y := x5 i h0 h1
    repeat rw [e _ _ (by omega) (by omega)]
    exact y
theorem xRu.fy (u : xRu h A rn rt rs) (f : frY P R h h1) (g : tg h 170 = 43) (l : A < nx h) (d : ∀ b k, 171 ≤ b → ¬ P b k) (d2 : ∀ k, ¬ R A k) : xRu h1 A rn rt rs := by
  intro x x0 x1
  have y := u x x0 x1
  rw [f.2.1 _ _ l (d2 _)]
  refine ⟨y.1, fun c => ?_⟩
  have z := y.2 c
  have nn := f.2.2.2
  have ty := z.2.2.1
  have ty2 : zty 103 (gR h A x) h := ty
  rw [zty_iff rfl] at ty2
  have r : ¬ gR h A x = 170 := by
    intro e
    rw [e, g] at ty2
    exact absurd ty2.2.2.1 (by decide)
  refine ⟨z.1, by omega, z.2.2.cg (f.ty rfl ty) (fun b k q1 q2 => f.1 b k (by omega) (d b k (by omega))) (f.2.2.1 _ (by omega)).2⟩
theorem xSe.f7 (x : xSe h) (f : frY P R h h1) (l : 127 ≤ nx h) (d : ∀ k, ¬ R 106 k) : xSe h1 := fun j j0 j1 => by
  have y := x j j0 j1
  rw [f.2.1 _ _ (by omega) (d _)]
  exact ⟨y.1, f.ty rfl y.2.1, f.le (by unfold saj; omega) y.2.2⟩
theorem xSe.fy (x : xSe h) (f : frY P R h h1) (l : 171 ≤ nx h) (d : ∀ k, ¬ R 106 k) : xSe h1 := x.f7 f (by omega) d
theorem xPr.f7 (x : xPr h) (f : frY P R h h1) (l : 127 ≤ nx h) (d : ∀ k, ¬ R 88 k) : xPr h1 := fun j j0 j1 => by
  have y := x j j0 j1
  rw [f.2.1 _ _ (by omega) (d _)]
  exact ⟨y.1, f.ty rfl y.2.1, f.le (by unfold pad; omega) y.2.2⟩
theorem xPr.fy (x : xPr h) (f : frY P R h h1) (l : 171 ≤ nx h) (d : ∀ k, ¬ R 88 k) : xPr h1 := x.f7 f (by omega) d
theorem xPa.fy (x : xPa h c pt pn) (f : frY P R h h1) (l : 171 ≤ nx h) (d : ∀ b k, xpA b k → ¬ P b k) (d2 : ∀ k, ¬ R 88 k) : xPa h1 c pt pn := by
  obtain ⟨x1, x2, x3, x4, x5, x6, x7⟩ := x
  have e0 : gI h1 87 0 = gI h 87 0 := f.1 _ _ (by omega) (d _ _ (Or.inl ⟨rfl, Or.inl rfl⟩))
  have e1 : gI h1 87 1 = gI h 87 1 := f.1 _ _ (by omega) (d _ _ (Or.inl ⟨rfl, Or.inr rfl⟩))
  refine ⟨x1.fy f l d2, by rw [e0]; exact x2, x3, x4, by rw [e1]; exact x5, by rw [e1]; exact x6, fun i i0 i1 => ⟨(x7 i i0 i1).1, ?_⟩⟩
  rw [e1]
  have r : 0 ≤ (gI h 87 1 + i) % 8 ∧ (gI h 87 1 + i) % 8 < 8 := by omega
  refine (x7 i i0 i1).2.fy f (by unfold pad; omega) (fun k => ⟨d _ _ ?_, d _ _ ?_⟩)
  · unfold pad; right; omega
  · unfold pad; right; omega
theorem xW.f7 {a2 : Nat} (x : xW h a a2) (f : frY P R h h1) (l : 127 ≤ nx h) (d : ¬ R 2 1 ∧ ¬ R 2 2) : xW h1 a a2 := by
  obtain ⟨w1, w2, w3, w4, w5, w6, w7⟩ := x
  exact ⟨(f.2.1 _ _ (by omega) d.1).trans w1, (f.2.1 _ _ (by omega) d.2).trans w2, f.ty rfl w3, f.ty rfl w4, f.le (by omega) w5, f.le (by omega) w6, w7⟩
theorem xW.fy {a2 : Nat} (x : xW h a a2) (f : frY P R h h1) (l : 171 ≤ nx h) (d : ¬ R 2 1 ∧ ¬ R 2 2) : xW h1 a a2 := x.f7 f (by omega) d
def nSm (b : Nat) (k : Int) : Prop := (b = 128 ∧ k ≤ 300) ∨ (b = 127 ∧ (k = 20 ∨ k = 22)) ∨ b = 137 ∨ b = 138
theorem yS.fy (y : yS h S) (g : sK S) (f : frY P R h h1) (l : 171 ≤ nx h) (d : ∀ b k, nSm b k → ¬ P b k) : yS h1 S := by
  have z : yS (h1.1, h.2) S := mN.fr y ⟨g.1.1, g.1.2.1⟩ f.m (fun k k0 k1 => nof (d _ _ (Or.inl ⟨rfl, k1⟩)) (by omega)) ⟨nof (d _ _ (Or.inr (Or.inl ⟨rfl, Or.inl rfl⟩))) (by omega), nof (d _ _ (Or.inr (Or.inl ⟨rfl, Or.inr rfl⟩))) (by omega)⟩ (fun k => ⟨nof (d _ _ (Or.inr (Or.inr (Or.inl rfl)))) (by omega), nof (d _ _ (Or.inr (Or.inr (Or.inr rfl)))) (by omega)⟩)
  exact z
def nRm (b : Nat) (k : Int) : Prop := (b = 128 ∧ 301 ≤ k) ∨ (b = 139 ∨ b = 140) ∨ (b = 127 ∧ (k = 54 ∨ k = 55)) ∨ (150 ≤ b ∧ b ≤ 161)
theorem mRu.fy (u : mRu h rn rt rs) (o : slO rn rt rs) (f : frY P R h h1) (l : 171 ≤ nx h) (d : ∀ b k, nRm b k → ¬ P b k) : mRu h1 rn rt rs := by
  have z : mRu (h1.1, h.2) rn rt rs := mRu.fr u o f.m (fun k k0 => nof (d _ _ (Or.inl ⟨rfl, k0⟩)) (by omega)) (fun k => ⟨nof (d _ _ (Or.inr (Or.inl (Or.inl rfl)))) (by omega), nof (d _ _ (Or.inr (Or.inl (Or.inr rfl)))) (by omega)⟩)
  exact z
theorem mTs.fy (u : mTs h rn rt rs) (f : frY P R h h1) (l : 171 ≤ nx h) (d : ∀ b k, nRm b k → ¬ P b k) : mTs h1 rn rt rs := by
  have z : mTs (h1.1, h.2) rn rt rs := mTs.fr u f.m ⟨nof (d _ _ (Or.inr (Or.inr (Or.inl ⟨rfl, Or.inl rfl⟩)))) (by omega), nof (d _ _ (Or.inr (Or.inr (Or.inl ⟨rfl, Or.inr rfl⟩)))) (by omega)⟩ (fun b k b0 b1 => nof (d _ _ (Or.inr (Or.inr (Or.inr ⟨b0, b1⟩)))) (by omega))
  exact z
theorem mTx.fy (x : mTx h ty0 m0) (f : frY P R h h1) (l : 171 ≤ nx h) (d : ¬ P 127 7 ∧ ∀ k, ¬ P 132 k) : mTx h1 ty0 m0 := by
  have z : mTx (h1.1, h.2) ty0 m0 := mTx.fr x f.m ⟨nof d.1 (by omega), fun k => nof (d.2 k) (by omega)⟩
  exact z
theorem mPa.fy (x : mPa h c pt pn) (f : frY P R h h1) (l : 171 ≤ nx h) (d : ∀ b k, mpA b k → ¬ P b k) : mPa h1 c pt pn := by
  have z : mPa (h1.1, h.2) c pt pn := mPa.fr x f.m (fun b k q => nof (d b k q) (by unfold mpA at q; omega))
  exact z
theorem mKp.fy {j : Int} (x : mKp h j t n rn rt) (f : frY P R h h1) (l : 171 ≤ nx h) (d : ∀ k, ¬ P 129 k) (d2 : ¬ P 130 j) : mKp h1 j t n rn rt := by
  have e9 : ∀ k, gI h1 129 k = gI h 129 k := fun k => f.1 _ _ (by omega) (d k)
  have e0 : gI h1 130 j = gI h 130 j := f.1 _ _ (by omega) d2
  unfold mKp at x ⊢
  simp only [e9, e0]
  exact x
theorem xKp.fy (x : xKp h A t n rn rt rs) (f : frY P R h h1) (g : tg h 170 = 43) (l : 171 ≤ nx h) (hA : A + 3 < 170) (d : ∀ b k, A ≤ b → b < A + 3 → ¬ P b k) (d1 : ∀ b k, 171 ≤ b → ¬ P b k) (d2 : ∀ k, ¬ R (A + 3) k) : xKp h1 A t n rn rt rs :=
  ⟨(f.1 _ _ (by omega) (d _ _ (by omega) (by omega))).trans x.1, x.2.1.fy f (by omega) (fun k => ⟨d _ _ (by omega) (by omega), d _ _ (by omega) (by omega)⟩), x.2.2.fy f g (by omega) d1 d2⟩
end FY
