/-! What stands between two calls. -/
def kAd (j : Int) : Nat := if j = 0 then 107 else 111
def ciS (h : zH) (a a2 : Nat) (S : qS) : Prop := xW h a a2 ∧ sK S ∧ xQs h a S ∧ yS h S
def ciR (h : zH) (rn : Int → Int) (rt : Int → Int → Int) (rs : Int → pS) : Prop := slO rn rt rs ∧ xRu h 53 rn rt rs ∧ mRu h rn rt rs ∧ mTs h rn rt rs
def ciT (h : zH) (ty : Int → Int) (m : Int) : Prop := tOk ty m ∧ Txt h 3 ty m ∧ mTx h ty m
def ciP (h : zH) (c : Int) (pt : Int → Int → Int) (pn : Int → Int) : Prop := xPa h c pt pn ∧ mPa h c pt pn ∧ ∀ i, 0 ≤ i → i < c → sK (pt i, pn i)
def ciJ (h : zH) (j : Int) : Prop := gI h (kAd j) 0 = gI h 130 j ∧ (¬ gI h 130 j = 0 → ∃ (S : qS) (rn : Int → Int) (rt : Int → Int → Int) (rs : Int → pS), sK S ∧ slO rn rt rs ∧ xKp h (kAd j) S.1 S.2 rn rt rs ∧ mKp h j S.1 S.2 rn rt)
def ciK (h : zH) : Prop := ∀ j, 0 ≤ j → j < 2 → ciJ h j
def ciF (h : zH) : Prop := 171 ≤ nx h ∧ (zty 243 170 h ∧ zty 100 2 h ∧ zty 111 127 h) ∧ ln h 84 = 300 ∧ zty 102 37 h ∧ ln h 39 = 300 ∧ xSe h ∧ ln h 128 = 2709 ∧ ln h 169 = 2107 ∧ ∀ j, 0 ≤ j → j < 2 → gR h 105 j = kAd j ∧ zty 110 (kAd j) h ∧ ln h (kAd j + 1 + 1) = 300
def cia (h : zH) (a a2 : Nat) (S : qS) (rn : Int → Int) (rt : Int → Int → Int) (rs : Int → pS) (ty : Int → Int) (m c : Int) (pt : Int → Int → Int) (pn : Int → Int) : Prop := ciS h a a2 S ∧ ciR h rn rt rs ∧ ciT h ty m ∧ ciP h c pt pn ∧ ciK h ∧ ciF h
def CI (h : zH) : Prop := ∃ (a a2 : Nat) (S : qS) (rn : Int → Int) (rt : Int → Int → Int) (rs : Int → pS) (ty : Int → Int) (m c : Int) (pt : Int → Int → Int) (pn : Int → Int), cia h a a2 S rn rt rs ty m c pt pn
def ciX (h h2 : zH) : Prop := CI h2 ∧ nx h2 ≤ nx h + 15 ∧ sc h2 ≤ sc h + 798 ∧ (∀ k, gI h2 1 k = gI h 1 k) ∧ ln h2 1 = ln h 1
/-- behind the class's call -/
def ciM (h h1 : zH) : Prop := (∀ k, gI h1 1 k = gI h 1 k) ∧ ln h1 1 = ln h 1 ∧ zty 111 127 h1
section CI
variable {P R Q : Nat → Int → Prop} {h h1 h2 : zH} {a a2 : Nat} {S : qS} {rn : Int → Int} {rt : Int → Int → Int} {rs : Int → pS} {ty : Int → Int} {m c : Int} {pt : Int → Int → Int} {pn : Int → Int}
theorem kAd_or (j : Int) : kAd j = 107 ∨ kAd j = 111 := by
  unfold kAd
  by_cases e : j = 0
  · rw [if_pos e]; exact Or.inl rfl
  · rw [if_neg e]; exact Or.inr rfl
theorem ciF.t (x : ciF h) : tg h 170 = 43 := by
  have z := x.2.1.1
  rw [zty_iff rfl] at z
  exact z.2.2.1
theorem ciF.fy (x : ciF h) (f : frY P R h h1) (d : ∀ k, ¬ R 105 k ∧ ¬ R 106 k) : ciF h1 := by
  obtain ⟨l, x1, x2, x3, x4, x5, x6, x7, x8⟩ := x
  refine ⟨Nat.le_trans l f.2.2.2, ⟨f.ty rfl x1.1, f.ty rfl x1.2.1, f.ty rfl x1.2.2⟩, f.le (by omega) x2, f.ty rfl x3, f.le (by omega) x4, x5.fy f l (fun k => (d k).2), f.le (by omega) x6, f.le (by omega) x7, fun j j0 j1 => ?_⟩
  have y := x8 j j0 j1
  have o := kAd_or j
  exact ⟨(f.2.1 _ _ (by omega) (d _).1).trans y.1, f.ty rfl y.2.1, f.le (by omega) y.2.2⟩
theorem ciS.fy (x : ciS h a a2 S) (f : frY P R h h1) (l : 171 ≤ nx h) (d : ∀ b k, a ≤ b → b < a + 16 → ¬ P b k) (d2 : ¬ R 2 1 ∧ ¬ R 2 2) (d3 : ∀ b k, nSm b k → ¬ P b k) : ciS h1 a a2 S := by
  obtain ⟨w, g, x1, y⟩ := x
  have o := w.2.2.2.2.2.2
  exact ⟨w.fy f l d2, g, xN.fy x1 f (by omega) d, y.fy g f l d3⟩
theorem ciR.fy (x : ciR h rn rt rs) (f : frY P R h h1) (F : ciF h) (d : ∀ b k, 171 ≤ b → ¬ P b k) (d2 : ∀ k, ¬ R 53 k) (d3 : ∀ b k, nRm b k → ¬ P b k) : ciR h1 rn rt rs := by
  have l := F.1
  exact ⟨x.1, x.2.1.fy f F.t (by omega) d d2, x.2.2.1.fy x.1 f l d3, x.2.2.2.fy f l d3⟩
theorem ciT.fy (x : ciT h ty m) (f : frY P R h h1) (l : 171 ≤ nx h) (d : ∀ k, ¬ P 3 k ∧ ¬ P 4 k) (d2 : ¬ P 127 7 ∧ ∀ k, ¬ P 132 k) : ciT h1 ty m := ⟨x.1, x.2.1.fy f (by omega) d, x.2.2.fy f l d2⟩
theorem ciP.fy (x : ciP h c pt pn) (f : frY P R h h1) (l : 171 ≤ nx h) (d : ∀ b k, xpA b k → ¬ P b k) (d2 : ∀ k, ¬ R 88 k) (d3 : ∀ b k, mpA b k → ¬ P b k) : ciP h1 c pt pn := ⟨x.1.fy f l d d2, x.2.1.fy f l d3, x.2.2⟩
theorem ciJ.fy {j : Int} (x : ciJ h j) (f : frY P R h h1) (F : ciF h) (d : ∀ b k, kAd j ≤ b → b < kAd j + 3 → ¬ P b k) (d1 : ∀ b k, 171 ≤ b → ¬ P b k) (d2 : ∀ k, ¬ R (kAd j + 3) k) (d3 : ∀ k, 2709 * j ≤ k → k < 2709 * j + 2709 → ¬ P 129 k) (d4 : ¬ P 130 j) : ciJ h1 j := by
  have l := F.1
  have o := kAd_or j
  have e : gI h1 130 j = gI h 130 j := f.1 _ _ (by omega) d4
  refine ⟨by rw [e, f.1 _ _ (by omega) (d _ _ (by omega) (by omega))]; exact x.1, fun z => ?_⟩
  rw [e] at z
  obtain ⟨S, rn, rt, rs, g, s, k1, k2⟩ := x.2 z
  refine ⟨S, rn, rt, rs, g, s, k1.fy f F.t l (by omega) d d1 d2, ?_⟩
  have gn := g.1
  obtain ⟨q1, ⟨q2, q3, q4⟩, q5⟩ := k2
  have e9 : ∀ k, 2709 * j ≤ k → k < 2709 * j + 2709 → gI h1 129 k = gI h 129 k := fun k k0 k1 => f.1 _ _ (by omega) (d3 k k0 k1)
  have n0 := gn.1
  have n1 := gn.2.1
  refine ⟨by rw [e]; exact q1, ⟨by rw [e9 _ (by omega) (by omega)]; exact q2, fun i i0 i1 => by rw [e9 _ (by omega) (by omega)]; exact q3 i i0 i1, fun i i0 i1 => by rw [e9 _ (by omega) (by omega)]; exact q4 i i0 i1⟩, fun x x0 x1 => ⟨by rw [e9 _ (by omega) (by omega)]; exact (q5 x x0 x1).1, fun c i i0 i1 => ?_⟩⟩
  have rr : rn x ≤ 300 := by
    rcases s x x0 x1 with w | w
    · omega
    · exact w.2.1.2.1
  rw [e9 _ (by omega) (by omega)]
  exact (q5 x x0 x1).2 c i i0 i1
theorem ciK.fy (x : ciK h) (f : frY P R h h1) (F : ciF h) (d : ∀ b k, 107 ≤ b → b < 114 → ¬ P b k) (d1 : ∀ b k, 171 ≤ b → ¬ P b k) (d2 : ∀ k, ¬ R 110 k ∧ ¬ R 114 k) (d3 : ∀ k, ¬ P 129 k ∧ ¬ P 130 k) : ciK h1 := fun j j0 j1 => by
  have o := kAd_or j
  refine (x j j0 j1).fy f F (fun b k b0 b1 => d b k (by omega) (by omega)) d1 (fun k => ?_) (fun k _ _ => (d3 k).1) (d3 j).2
  rcases o with o | o
  · rw [o]; exact (d2 k).1
  · rw [o]; exact (d2 k).2
/-- what a call may use for itself -/
def xSc (a2 b : Nat) : Prop := (54 ≤ b ∧ b ≤ 86) ∨ (a2 ≤ b ∧ b < a2 + 16) ∨ (37 ≤ b ∧ b < 53) ∨ (115 ≤ b ∧ b ≤ 126)
def xRc (b : Nat) : Prop := b = 54 ∨ b = 56 ∨ b = 69
def mSc (b : Nat) (k : Int) : Prop := 127 ≤ b ∧ b ≤ 169 ∧ ¬ (128 ≤ b ∧ b ≤ 132) ∧ ¬ (137 ≤ b ∧ b ≤ 140) ∧ ¬ (150 ≤ b ∧ b ≤ 161) ∧ (b = 127 → ¬ k = 5 ∧ ¬ k = 7 ∧ ¬ k = 20 ∧ ¬ k = 22 ∧ ¬ k = 54 ∧ ¬ k = 55)
theorem ciX.mk (F : frY P R h h2) (l : 171 ≤ nx h) (d : ∀ k, ¬ P 1 k) (n : nx h2 ≤ nx h + 15) (s : sc h2 ≤ sc h + 798) (x : CI h2) : ciX h h2 := ⟨x, n, s, fun k => F.1 _ _ (by omega) (d k), (F.2.2.1 _ (by omega)).2⟩
/-- a call that only looks -/
theorem cia.ro (x : cia h a a2 S rn rt rs ty m c pt pn) (f : frX P R h h1) (d : ∀ b k, P b k → xSc a2 b) (r : ∀ b k, R b k → xRc b) (g : frP Q h1 h2) (e : ∀ b k, Q b k → mSc b k) : ciX h h2 := by
  obtain ⟨xS, xR, xT, xP, xK, xF⟩ := x
  have w := xS.1.2.2.2.2.2.2
  have l := xF.1
  have F : frY (fun b k => xSc a2 b ∨ mSc b k) (fun b _ => xRc b) h h2 := (f.y.mo (fun b k q => Or.inl (d b k q)) r).tr (g.y.mo (fun b k q => Or.inr (e b k q)) (fun _ _ q => q))
  have gx : frX Q (fun _ _ => False) h1 h2 := g.x
  refine ciX.mk F l (fun k => by unfold xSc mSc; omega) (by rw [gx.nn, f.nn]; omega) (by rw [gx.cc, f.cc]; omega) ⟨a, a2, S, rn, rt, rs, ty, m, c, pt, pn, ?_, ?_, ?_, ?_, ?_, ?_⟩
  · exact xS.fy F l (fun b k b0 b1 => by unfold xSc mSc; omega) (by unfold xRc; omega) (fun b k q => by unfold nSm at q; unfold xSc mSc; omega)
  · exact xR.fy F xF (fun b k b0 => by unfold xSc mSc; omega) (fun k => by unfold xRc; omega) (fun b k q => by unfold nRm at q; unfold xSc mSc; omega)
  · exact xT.fy F l (fun k => by unfold xSc mSc; omega) ⟨by unfold xSc mSc; omega, fun k => by unfold xSc mSc; omega⟩
  · exact xP.fy F l (fun b k q => by unfold xpA at q; unfold xSc mSc; omega) (fun k => by unfold xRc; omega) (fun b k q => by unfold mpA at q; unfold xSc mSc; omega)
  · exact xK.fy F xF (fun b k b0 b1 => by unfold xSc mSc; omega) (fun b k b0 => by unfold xSc mSc; omega) (fun k => by unfold xRc; omega) (fun k => by unfold xSc mSc; omega)
  · exact xF.fy F (fun k => by unfold xRc; omega)
end CI
