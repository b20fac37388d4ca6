/-! The model: items and sides of a rule. -/
def mR (h : zH) (sd b0 : Int) (t : Int → Int) (n : Int) (s : pS) : Prop := mY h t n (s 0 0 0) ∧ mQ0 h sd b0 s ∧ ((sd = 0 → gI h 127 28 = s 0 0 4 ∧ gI h 127 29 = s 0 0 5) ∧ 0 ≤ gI h 127 28 ∧ gI h 127 28 ≤ s 0 0 1) ∧ gI h 127 33 = b2i (¬ s 0 0 2 = -1 ∧ s 1 (s 0 0 2) 0 = 2)
def mZ (h : zH) (sd b0 : Int) (t : Int → Int) (n : Int) (z : Bool × pS) (h1 : zH) : Prop := frP (rmA sd) h h1 ∧ (z.1 = true → mR h1 sd b0 t n z.2) ∧ (z.1 = false → bd h1 ∧ gI h1 127 17 = z.2 0 0 0)
/-- how high the counts in tokens go -/
def rC (sd : Int) (s : pS) : Prop := ∀ k, 0 ≤ s (kid sd) k 1 ∧ s (kid sd) k 1 ≤ 30 + s 0 0 1
section MI
variable {h : zH} {sd b0 : Int} {t : Int → Int} {n : Int} {s : pS}
theorem mZ.ye {h1 : zH} {s' : pS} (f : frP (rmA sd) h h1) (x : mR h1 sd b0 t n s') : mZ h sd b0 t n (true, s') h1 := ⟨f, fun _ => x, by simp⟩
theorem mZ.no {h1 : zH} {s' : pS} (f : frP (rmA sd) h h1) (e : bd h1) (e1 : gI h1 127 17 = s' 0 0 0) : mZ h sd b0 t n (false, s') h1 := ⟨f, by simp, fun _ => ⟨e, e1⟩⟩
theorem mZ.tr {h1 h2 : zH} {z : Bool × pS} (f : frP (rmA sd) h h1) (x : mZ h1 sd b0 t n z h2) : mZ h sd b0 t n z h2 := ⟨f.tr x.1, x.2⟩
theorem mQ0.m4 {it v : Int} (x : mQ0 h sd b0 s) (hn : ∀ k, 0 ≤ k → k < s 0 0 6 → ¬ s 6 k 0 = it) : mQ0 h sd b0 (up s 4 it 0 v) := by
  have kn := kidn sd
  obtain ⟨x1, x2, x3, x4, x5, x6, x7⟩ := x
  have u : ∀ c i j, ¬ c = 4 → up s 4 it 0 v c i j = s c i j := fun c i j hc => by rw [upE, if_neg (by omega)]
  refine ⟨by rw [u _ _ _ (by omega)]; exact x1, x2, fun l h0 h1 => by rw [u _ _ _ (by omega)]; exact x3 l h0 h1, by rw [u _ _ _ (by omega)]; exact x4, fun k j h0 h1 h2 => ?_, by rw [u _ _ _ (by omega)]; exact x6, fun k h0 h1 => ?_⟩
  · rw [u _ _ _ (by omega)] at h1; rw [u _ _ _ (by omega)]; exact x5 k j h0 h1 h2
  · rw [u _ _ _ (by omega)] at h1
    rw [u 6 _ _ (by omega), upE, if_neg (by have := hn k h0 h1; omega)]; exact x7 k h0 h1
/-- where the open item stands in the model -/
theorem mR.ct (x : mR h sd b0 t n s) (v : rV n sd b0 s) : (s 0 0 2 = -1 → gI h 127 15 = 0 ∧ gI h 127 33 = 0) ∧ (¬ s 0 0 2 = -1 → s 1 (s 0 0 2) 0 = 2 → gI h 127 33 = 1) ∧ (¬ s 0 0 2 = -1 → s 1 (s 0 0 2) 0 = 4 → 0 < gI h 127 15 ∧ gI h 127 33 = 0) := by
  obtain ⟨y, x, r, bb⟩ := x
  have vo := v.2.2.1
  have i9 := v.1.2.2.2.2.2.2.2.2.1
  have i4 := v.1.2.2.2.1
  have i3 := v.1.2.2.1
  rw [x.2.2.2.2.2.1, bb]
  refine ⟨fun c => ⟨?_, b2i_neg (fun d => d.1 c)⟩, fun c d => b2i_pos ⟨c, d⟩, fun c d => ⟨?_, b2i_neg (fun e => by omega)⟩⟩
  · apply Classical.byContradiction; intro d
    have ct := vo.2
    rw [if_pos c, if_neg d] at ct
    have := vo.1 (s 0 0 6 - 1) (by omega) (by omega)
    omega
  · apply Classical.byContradiction; intro e
    have ct := vo.2
    rw [if_neg c, if_neg (by omega), if_pos (by omega)] at ct
    exact c ct
theorem opc_l {c : Int} (h : isL c ∨ isD c) : opc c = 3 := by
  unfold opc; rw [if_neg (by omega), if_neg (by omega), if_neg (by omega), if_neg (by omega), if_neg (by omega), if_pos h]
theorem opc_n {c : Int} (h : ¬ (isL c ∨ isD c)) (h1 : ¬ c = 40) (h2 : ¬ c = 42) (h3 : ¬ c = 63) (h4 : ¬ c = 94) (h5 : ¬ c = 95) : opc c = -1 := by
  unfold opc; rw [if_neg h1, if_neg h2, if_neg h3, if_neg h4, if_neg h5, if_neg h]
theorem s170 {c : Int} (x : mR h sd b0 t n s) (v : rV n sd b0 s) (hsd : sd = 0 ∨ sd = 1) {K : Int → zH → Prop}
    (k : K (b2i (¬ (opc c = -1 ∨ (opc c = 0 ∧ ¬ sd = 0) ∨ (opc c = 2 ∧ (¬ sd = 0 ∨ ¬ s 0 0 5 = 0)) ∨ (opc c = 5 ∧ (s 0 0 2 = -1 ∨ ¬ s 1 (s 0 0 2) 0 = 4 ∨ (sd = 0 ∧ 2 ≤ s 0 0 4)))))) h) : zC1 170 [vR 127 111, vI c] h K := by
  have ct := x.ct v
  have i8 := v.1.2.2.2.2.2.2.2.1
  obtain ⟨y, x, r, bb⟩ := x
  have x2 := x.2.1
  clear bb y
  have yes : ∀ q : Int, opc c = q → q = 1 ∨ q = 3 ∨ q = 4 → K 1 h := by
    intro q e hq
    rw [e] at k
    rwa [b2i_pos (by clear ct i8 r; omega)] at k
  refine cI (k170_0 c h _ ⟨fun c1 => ⟨Or.inr rfl, zq1 (yes 1 (by rw [c1]; rfl) (by decide))⟩, fun c1 => ⟨fun c2 => ⟨Or.inr rfl, zq1 (yes 4 (by rw [c2]; rfl) (by decide))⟩, fun c2 => s144 ⟨fun c3 => ⟨Or.inr rfl, zq1 (yes 3 (opc_l (Or.inl (b2i_ne0.mp c3))) (by decide))⟩, fun c3 => s145 ⟨fun c4 => ?_, fun c4 => ⟨Or.inr rfl, zq1 (yes 3 (opc_l (Or.inr (b2i_ne0.mp c4))) (by decide))⟩⟩⟩⟩⟩)
  have nl : ¬ (isL c ∨ isD c) := by
    rintro (g | g)
    · exact c3 (b2i_ne0.mpr g)
    · exact (b2i_eq0.mp c4) g
  rw [x2]
  refine ⟨fun d => ⟨fun e => ⟨Or.inl rfl, zq1 ?_⟩, fun e => ⟨fun f => ⟨Or.inr rfl, zq1 ?_⟩, fun f => ⟨fun g => ⟨Or.inl rfl, zq1 ?_⟩, fun g => ⟨fun q => ⟨Or.inl rfl, zq1 ?_⟩, fun q => ⟨Or.inr rfl, zq1 ?_⟩⟩⟩⟩⟩, fun d => ⟨fun e => ⟨Or.inl rfl, zq1 ?_⟩, fun e => ⟨fun f => ⟨Or.inl rfl, zq1 ?_⟩, fun f => ⟨fun g => ⟨Or.inr rfl, zq1 ?_⟩, fun g => ⟨fun q => ⟨Or.inl rfl, zq1 ?_⟩, fun q => ⟨Or.inr rfl, zq1 ?_⟩⟩⟩⟩⟩⟩
  · by_cases g1 : c = 95
    · rw [g1, show opc 95 = 0 from rfl] at k
      rwa [b2i_neg (by clear ct i8 r; omega)] at k
    · by_cases g2 : c = 94
      · rw [g2, show opc 94 = 2 from rfl] at k
        rwa [b2i_neg (by clear ct i8 r; omega)] at k
      · rw [opc_n nl c2 d c1 g2 g1] at k
        rwa [b2i_neg (by clear ct i8 r; omega)] at k
  · rw [f, show opc 95 = 0 from rfl] at k
    rwa [b2i_pos (by clear ct i8 r; omega)] at k
  · rw [opc_n nl c2 d c1 g f] at k
    rwa [b2i_neg (by clear ct i8 r; omega)] at k
  · rw [show c = 94 by clear ct i8 r; omega, show opc 94 = 2 from rfl] at k
    have r2 := (r.1 (by clear ct i8 r; omega)).2
    rw [r2] at q
    rwa [b2i_neg (by clear ct i8 r; omega)] at k
  · rw [show c = 94 by clear ct i8 r; omega, show opc 94 = 2 from rfl] at k
    have r2 := (r.1 (by clear ct i8 r; omega)).2
    rw [r2] at q
    rwa [b2i_pos (by clear ct i8 r; omega)] at k
  · rw [show c = 42 by clear ct i8 r; omega, show opc 42 = 5 from rfl] at k
    rwa [b2i_neg ?_] at k
    intro g; apply g; right; right; right
    refine ⟨rfl, ?_⟩
    by_cases g1 : s 0 0 2 = -1
    · exact Or.inl g1
    · right; left; intro g2; have := ct.2.2 g1 g2; clear r i8; omega
  · rw [show c = 42 by clear ct i8 r; omega, show opc 42 = 5 from rfl] at k
    rwa [b2i_neg ?_] at k
    intro g; apply g; right; right; right
    refine ⟨rfl, ?_⟩
    by_cases g1 : s 0 0 2 = -1
    · exact Or.inl g1
    · right; left; intro g2; have := ct.2.2 g1 g2; exact f this.2
  · rw [show c = 42 by clear ct i8 r; omega, show opc 42 = 5 from rfl] at k
    have g1 : ¬ s 0 0 2 = -1 := fun g1 => e (by have := (ct.1 g1).1; clear r i8 ct; omega)
    have g2 : s 1 (s 0 0 2) 0 = 4 := (i8 g1).2.resolve_left (fun g2 => f (by rw [ct.2.1 g1 g2]; decide))
    rwa [b2i_pos (by clear ct i8 r; omega)] at k
  · rw [show c = 42 by clear ct i8 r; omega, show opc 42 = 5 from rfl] at k
    have r1 := (r.1 (by clear ct i8 r; omega)).1
    rw [r1] at q
    rwa [b2i_neg (by clear ct i8 r; omega)] at k
  · rw [show c = 42 by clear ct i8 r; omega, show opc 42 = 5 from rfl] at k
    have r1 := (r.1 (by clear ct i8 r; omega)).1
    rw [r1] at q
    have g1 : ¬ s 0 0 2 = -1 := fun g1 => e (by have := (ct.1 g1).1; clear r i8 ct; omega)
    have g2 : s 1 (s 0 0 2) 0 = 4 := (i8 g1).2.resolve_left (fun g2 => f (by rw [ct.2.1 g1 g2]; decide))
    rwa [b2i_pos (by clear ct i8 r; omega)] at k
end MI
