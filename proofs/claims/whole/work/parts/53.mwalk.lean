/-! The model's walk along a pattern: names, holes, rows. -/
/-- a rule's pattern and text in the model -/
def mPt (h : zH) (x : Int) (w : Int → Int) (m : Int) (s : pS) : Prop := (0 ≤ x ∧ x < 8) ∧ (∀ i, 0 ≤ i → i < m → gI h 128 (301 + 301 * x + i) = w i) ∧ ∀ k (j : Nat), 0 ≤ k → k < s 0 0 3 → j < 6 → gI h 139 (246 * (2 * x) + 6 * k + j) = s 3 k j
/-- what the walk changes -/
def gWA (b : Nat) (k : Int) : Prop := (b = 127 ∧ (k = 35 ∨ k = 36)) ∨ b = 146 ∨ b = 147 ∨ b = 148 ∨ b = 149
theorem mPt.fr {h h1 : zH} {x : Int} {w : Int → Int} {m : Int} {s : pS} (p : mPt h x w m s) (hm : m ≤ 300) {P : Nat → Int → Prop} (f : frP P h h1) (d : ∀ k, 301 ≤ k → ¬ P 128 k) (d2 : ∀ k, ¬ P 139 k) : mPt h1 x w m s :=
  ⟨p.1, fun i h0 h1 => by rw [f.1 _ _ (d _ (by have := p.1; omega))]; exact p.2.1 i h0 h1, fun k j h0 h1 h2 => by rw [f.1 _ _ (d2 _)]; exact p.2.2 k j h0 h1 h2⟩
section MW
variable {h : zH} {t w : Int → Int} {n nd nc m x : Int} {T C : pT} {s : pS}
theorem s179 (j : Nat) {k : Int} (p : mPt h x w m s) (hk : 0 ≤ k ∧ k < s 0 0 3) (h3 : s 0 0 3 ≤ 40) (hj : j < 6) {K : Int → zH → Prop} (q : K (s 3 k j) h) : zC1 179 [vR 127 111, vI x, vI 0, vI k, vI j] h K := by
  have hx := p.1
  have e := p.2.2 k j hk.1 hk.2 hj
  refine cI (k179_0 x 0 k j h _ ⟨by unfold inR; omega, by unfold inR; omega, by unfold inR; omega, by unfold inR; omega, by unfold inR; omega, by unfold inR; omega, by omega, by omega, zq1 ?_⟩)
  rw [show 246 * (2 * x + 0) + 6 * k + (j : Int) = 246 * (2 * x) + 6 * k + j by omega, e]
  exact q
theorem s183l {a k : Int} {u3 : zV} (g : sF t n nd nc T C) (y : mN h t n nd nc T C) (p : mPt h x w m s) (hk : 0 ≤ k ∧ k < s 0 0 3) (h3 : s 0 0 3 ≤ 40) (ha : 0 ≤ a ∧ a < nd) (hw : 0 ≤ s 3 k 3 ∧ s 3 k 3 + s 3 k 4 ≤ m ∧ m ≤ 300) (e9 : T a 9 = s 3 k 4) {Q : Option zV → zH → Prop} (q : Q (some (vI (b2i (sameR t w (T a 8) (s 3 k 3) (T a 9))))) h) :
    ∀ (f : Nat) (z c : Int), 0 ≤ z → T a 9 - z ≤ f → c = b2i (∀ i, 0 ≤ i → i < z → t (T a 8 + i) = w (s 3 k 3 + i)) → z ≤ T a 9 → zK 183 44 [vR 127 111, vI x, vI k, u3, vI a, vI (s 3 k 4), vI c, vI z] [] h Q := by
  have hn := g.hn
  have n1 := g.nm ha.1 ha.2
  have hx := p.1
  have no : ∀ z, z ≤ T a 9 → ¬ (∀ i, 0 ≤ i → i < z → t (T a 8 + i) = w (s 3 k 3 + i)) → Q (some (vI 0)) h := by
    intro z hz c
    rwa [b2i_neg (fun d => c (fun i i0 i1 => d i i0 (by omega)))] at q
  intro f
  induction f with
  | zero =>
    intro z c h0 hf es hz
    refine k183_44 x k u3 a _ c z h Q ⟨fun c1 => ⟨by omega, ?_⟩, fun c1 => ⟨fun d => ⟨by rw [es]; exact b2i_01, ?_⟩, fun d => absurd (show s 3 k 4 ≤ z by omega) d⟩⟩
    · rw [c1]; rw [es, b2i_eq0] at c1; exact no z hz c1
    · rw [es, b2i_ne0] at c1
      rw [es, b2i_pos c1]
      rwa [b2i_pos (show sameR t w (T a 8) (s 3 k 3) (T a 9) from fun i i0 i1 => c1 i i0 (by omega))] at q
  | succ f ih =>
    intro z c h0 hf es hz
    refine k183_44 x k u3 a _ c z h Q ⟨fun c1 => ⟨by omega, ?_⟩, fun c1 => ⟨fun d => ⟨by rw [es]; exact b2i_01, ?_⟩, fun d => s158 8 (by omega) g y ha ⟨by unfold inR; omega, by omega, by omega, s142 (by omega) (s179 3 p hk h3 (by omega) ⟨by unfold inR; omega, by unfold inR; omega, by omega, by omega, fun d1 => ⟨by unfold inR; omega, ih (z + 1) 0 (by omega) (by omega) ?_ (by omega)⟩, fun d1 => ⟨by unfold inR; omega, ih (z + 1) 1 (by omega) (by omega) ?_ (by omega)⟩⟩)⟩⟩⟩
    · rw [c1]; rw [es, b2i_eq0] at c1; exact no z hz c1
    · rw [es, b2i_ne0] at c1
      rw [es, b2i_pos c1]
      rwa [b2i_pos (show sameR t w (T a 8) (s 3 k 3) (T a 9) from fun i i0 i1 => c1 i i0 (by omega))] at q
    · rw [b2i_neg (fun c2 => d1 ?_)]
      rw [y.1.2.1 _ (by omega) (by omega), show 301 + 301 * x + s 3 k 3 + z = 301 + 301 * x + (s 3 k 3 + z) by omega, p.2.1 _ (by omega) (by omega)]
      exact c2 z h0 (by omega)
    · rw [es, b2i_ne0] at c1
      rw [y.1.2.1 _ (by omega) (by omega), show 301 + 301 * x + s 3 k 3 + z = 301 + 301 * x + (s 3 k 3 + z) by omega, p.2.1 _ (by omega) (by omega)] at d1
      rw [b2i_pos]
      intro i i0 i1
      by_cases e : i = z
      · rw [e]; omega
      · exact c1 i i0 (by omega)
theorem s183 {a k kd : Int} (g : sF t n nd nc T C) (y : mN h t n nd nc T C) (p : mPt h x w m s) (hk : 0 ≤ k ∧ k < s 0 0 3) (h3 : s 0 0 3 ≤ 40) (ha : 0 ≤ a ∧ a < nd) (hw : 0 ≤ s 3 k 3 ∧ s 3 k 3 + s 3 k 4 ≤ m ∧ m ≤ 300) {K : Int → zH → Prop} (q : K (b2i (T a 0 = kd ∧ T a 9 = s 3 k 4 ∧ sameR t w (T a 8) (s 3 k 3) (T a 9))) h) : zC1 183 [vR 127 111, vI x, vI k, vI kd, vI a] h K := by
  refine cI (k183_0 x k kd a h _ (s179 4 p hk h3 (by omega) (s158 0 (by omega) g y ha ⟨fun c => ?_, fun c => s158 9 (by omega) g y ha ⟨fun c1 => ?_, fun c1 => ?_⟩⟩)))
  · rw [b2i_neg (fun d => c d.1)] at q
    exact k183_44 x k _ a _ 0 0 h _ ⟨fun _ => ⟨Or.inl rfl, zq1 q⟩, fun c1 => absurd rfl c1⟩
  · rw [b2i_neg (fun d => c1 d.2.1)] at q
    exact k183_44 x k _ a _ 0 0 h _ ⟨fun _ => ⟨Or.inl rfl, zq1 q⟩, fun c1 => absurd rfl c1⟩
  · have n1 := g.nm ha.1 ha.2
    refine s183l g y p hk h3 ha hw (by omega) (zq1 ?_) (T a 9).toNat 0 1 (by omega) (by omega) (by rw [b2i_pos]; intro i i0 i1; omega) (by omega)
    rwa [b2i_congr (show sameR t w (T a 8) (s 3 k 3) (T a 9) ↔ (T a 0 = kd ∧ T a 9 = s 3 k 4 ∧ sameR t w (T a 8) (s 3 k 3) (T a 9)) from ⟨fun d => ⟨by omega, by omega, d⟩, fun d => d.2.2⟩)]
theorem s184 {a k : Int} (g : sF t n nd nc T C) (y : mN h t n nd nc T C) (p : mPt h x w m s) (hk : 0 ≤ k ∧ k < s 0 0 3) (h3 : s 0 0 3 ≤ 40) (ha : 0 ≤ a ∧ a < nd) (hl : 0 ≤ s 3 k 1 ∧ s 3 k 1 < 26) (hh : ¬ gI h 147 (s 3 k 1) = -1 → 0 ≤ gI h 146 (s 3 k 1) ∧ gI h 146 (s 3 k 1) < nd) {K : Int → zH → Prop}
    (q0 : ¬ (s 3 k 2 = -1 ∨ s 3 k 2 = T a 0) → K 0 h) (q1 : (s 3 k 2 = -1 ∨ s 3 k 2 = T a 0) → gI h 147 (s 3 k 1) = -1 → K 1 (sI (sI h 146 (s 3 k 1) a) 147 (s 3 k 1) 1)) (q2 : (s 3 k 2 = -1 ∨ s 3 k 2 = T a 0) → ¬ gI h 147 (s 3 k 1) = -1 → K (b2i (alk t T (gI h 146 (s 3 k 1)) a)) h) : zC1 184 [vR 127 111, vI x, vI k, vI a] h K := by
  have go : (s 3 k 2 = -1 ∨ s 3 k 2 = T a 0) → zK 184 39 [vR 127 111, vI x, vI k, vI a, vI (s 3 k 1), vI (s 3 k 2)] [] h (fun r h1 => ∃ v, r = some (vI v) ∧ K v h1) := fun c => by
    refine k184_39 _ _ a (s 3 k 1) _ h _ ⟨hl.1, hl.2, fun d => ⟨hl.1, hl.2, fun h10 e10 => ⟨hl.1, hl.2, fun h11 e11 => ⟨Or.inr rfl, ?_⟩⟩⟩, fun d => ⟨hl.1, hl.2, s181 g y (hh d) ha ⟨b2i_01, ?_⟩⟩⟩
    · rw [e11, e10]; exact zq1 (q1 c d)
    · exact zq1 (q2 c d)
  refine cI (k184_0 x k a h _ (s179 1 p hk h3 (by omega) (s179 2 p hk h3 (by omega) ⟨fun c => go (Or.inl c), fun c => s158 0 (by omega) g y ha ⟨fun c1 => go (Or.inr c1.symm), fun c1 => ⟨Or.inl rfl, zq1 (q0 (fun d => by omega))⟩⟩⟩)))
/-- a row is taken -/
theorem s185l {a e c l top : Int} {u1 u2 : zV} (g : sF t n nd nc T C) (y : mN h t n nd nc T C) (ht : 0 ≤ top ∧ top < 21) (hl : 0 ≤ l ∧ l < 26) (hc : 0 ≤ c ∧ c ≤ 12) (hr : c ≤ gI h 149 top ∧ gI h 149 top ≤ 12) (va : vrw nd T e c.toNat a) (hh : ¬ gI h 147 l = -1 → gI h 147 l = c → ∃ e2, vrw nd T e2 c.toNat (gI h 146 l)) {Q : Option zV → zH → Prop}
    (q : ∀ h1, frP (fun b k => (b = 148 ∨ b = 149) ∧ k = top) h h1 → gI h1 148 top = e → gI h1 149 top = gI h 149 top - c →
      (gI h 147 l = -1 → Q (some (vI 1)) (sI (sI h1 146 l a) 147 l c)) ∧ (¬ gI h 147 l = -1 → Q (some (vI (b2i (gI h 147 l = c ∧ frl t T c.toNat (gI h 146 l) a)))) h1)) :
    ∀ (f : Nat) (z : Int) (b : Int) (h2 : zH), c - z = f → 0 ≤ z → vrw nd T e f b → frP (fun b k => b = 148 ∧ k = top) h h2 → gI h2 148 top = b → zK 185 60 [vR 127 111, u1, u2, vI top, vI l, vI c, vI a, vI z] [] h2 Q := by
  have hnd := g.hd
  intro f
  induction f with
  | zero =>
    intro z b h2 hf z0 vb f2 e2
    have vb : b = e := vb
    have g149 : gI h2 149 top = gI h 149 top := f2.1 _ _ (by omega)
    refine k185_60 u1 u2 top l c a z h2 Q ⟨fun _ => ⟨ht.1, ht.2, by unfold inR; omega, ht.1, ht.2, fun h13 e13 => ?_⟩, fun d => absurd (by omega) d⟩
    have f13 : frP (fun b k => (b = 148 ∨ b = 149) ∧ k = top) h h13 := by rw [e13]; exact (f2.mo (fun b k q => ⟨Or.inl q.1, q.2⟩)).st ⟨Or.inr rfl, rfl⟩
    have q := q h13 f13 (by rw [e13, gS, if_neg (by omega), e2, vb]) (by rw [e13, gS1, g149])
    have g147 : gI h13 147 l = gI h 147 l := f13.1 _ _ (by omega)
    have g146 : gI h13 146 l = gI h 146 l := f13.1 _ _ (by omega)
    rw [g147, g146]
    refine ⟨hl.1, hl.2, fun d => ⟨hl.1, hl.2, fun h14 e14 => ⟨hl.1, hl.2, fun h15 e15 => ⟨Or.inr rfl, by rw [e15, e14]; exact q.1 d⟩⟩⟩, fun d => ⟨hl.1, hl.2, fun d1 => ⟨Or.inl rfl, ?_⟩, fun d1 => ?_⟩⟩
    · have := q.2 d
      rwa [b2i_neg (fun w => d1 w.1)] at this
    · obtain ⟨e2, v2⟩ := hh d (by omega)
      have y13 : mN h13 t n nd nc T C := y.fr g.hn f13 (fun k _ _ => by omega) (by omega) (fun k => by omega)
      have qq := q.2 d
      rw [b2i_congr (show (gI h 147 l = c ∧ frl t T c.toNat (gI h 146 l) a) ↔ frl t T c.toNat (gI h 146 l) a from ⟨fun w => w.2, fun w => ⟨by omega, w⟩⟩)] at qq
      refine ⟨hl.1, hl.2, s182 g y13 (by omega) v2 va ⟨fun d2 => ⟨Or.inl rfl, ?_⟩, fun d2 => ⟨Or.inr rfl, ?_⟩⟩⟩
      · rwa [d2] at qq
      · rw [b2i_ne0] at d2; rwa [b2i_pos d2] at qq
  | succ f ih =>
    intro z b h2 hf z0 vb f2 e2
    obtain ⟨b0, b1, b2, b3⟩ := vb
    have y2 : mN h2 t n nd nc T C := y.fr g.hn f2 (fun k _ _ => by omega) (by omega) (fun k => by omega)
    have sz := g.sz b0 b1
    refine k185_60 u1 u2 top l c a z h2 Q ⟨fun d => absurd d (by omega), fun _ => ⟨ht.1, ht.2, ht.1, ht.2, ?_⟩⟩
    rw [e2]
    refine s158 6 (by omega) g y2 ⟨b0, b1⟩ ⟨by unfold inR; omega, ht.1, ht.2, fun h18 e18 => ⟨by unfold inR; omega, ?_⟩⟩
    exact ih (z + 1) (b + T b 6) h18 (by omega) (by omega) b3 (by rw [e18]; exact f2.st ⟨rfl, rfl⟩) (by rw [e18, gS1])
theorem s185 {a k top : Int} {c : Nat} (g : sF t n nd nc T C) (y : mN h t n nd nc T C) (p : mPt h x w m s) (hk : 0 ≤ k ∧ k < s 0 0 3) (h3 : s 0 0 3 ≤ 40) (ht : 0 ≤ top ∧ top < 21) (hl : 0 ≤ s 3 k 1 ∧ s 3 k 1 < 26) (h35 : 0 ≤ gI h 127 35 ∧ gI h 127 35 < 3) (ec : gI h 145 (gI h 127 35) = c) (ea : gI h 148 top = a) (hr : 0 ≤ gI h 149 top ∧ gI h 149 top ≤ 12)
    (va : (c : Int) ≤ gI h 149 top → vrw nd T (adv T c a) c a) (hh : ¬ gI h 147 (s 3 k 1) = -1 → gI h 147 (s 3 k 1) = c → ∃ e2, vrw nd T e2 c (gI h 146 (s 3 k 1))) {K : Int → zH → Prop}
    (q0 : gI h 149 top < c → K 0 (sI (sI h 127 35 (gI h 127 35 + 1)) 127 36 1))
    (q : (c : Int) ≤ gI h 149 top → ∀ h1, frP (fun b k => ((b = 148 ∨ b = 149) ∧ k = top) ∨ (b = 127 ∧ k = 35)) h h1 → gI h1 148 top = adv T c a → gI h1 149 top = gI h 149 top - c → gI h1 127 35 = gI h 127 35 + 1 →
      (gI h 147 (s 3 k 1) = -1 → K 1 (sI (sI h1 146 (s 3 k 1) a) 147 (s 3 k 1) c)) ∧ (¬ gI h 147 (s 3 k 1) = -1 → K (b2i (gI h 147 (s 3 k 1) = c ∧ frl t T c (gI h 146 (s 3 k 1)) a)) h1)) : zC1 185 [vR 127 111, vI x, vI k, vI top] h K := by
  refine cI (k185_0 x k top h _ (s179 1 p hk h3 (by omega) ⟨h35.1, h35.2, by unfold inR; omega, fun h11 e11 => ⟨ht.1, ht.2, ?_⟩⟩))
  have f11 : frP (fun b k => b = 127 ∧ k = 35) h h11 := by rw [e11]; exact frP.rf.st ⟨rfl, rfl⟩
  have g149 : gI h11 149 top = gI h 149 top := f11.1 _ _ (by omega)
  have g148 : gI h11 148 top = a := (f11.1 _ _ (by omega)).trans ea
  rw [ec, g149, g148]
  refine ⟨fun d => ⟨ht.1, ht.2, ?_⟩, fun d => ⟨Or.inr rfl, fun h12 e12 => ⟨Or.inl rfl, ?_⟩⟩⟩
  · have y11 : mN h11 t n nd nc T C := y.fr g.hn f11 (fun k _ _ => by omega) (by omega) (fun k => by omega)
    have g147 : ∀ l, gI h11 147 l = gI h 147 l := fun l => f11.1 _ _ (by omega)
    have g146 : ∀ l, gI h11 146 l = gI h 146 l := fun l => f11.1 _ _ (by omega)
    have v := va d
    refine s185l (e := adv T c a) g y11 ht hl (by omega) (by omega) (by rw [show ((c : Int)).toNat = c by omega]; exact v) (fun d1 d2 => ?_) (fun h1 f1 e1 e2 => ?_) c 0 a h11 (by omega) (by omega) v frP.rf g148
    · rw [g147] at d1 d2
      rw [g146, show ((c : Int)).toNat = c by omega]
      exact hh d1 d2
    · rw [g147, g146, show ((c : Int)).toNat = c by omega]
      have q := q d h1 ((f11.mo (fun b k q => Or.inr q)).tr (f1.mo (fun b k q => Or.inl q))) e1 (by rw [e2, g149]) (by rw [f1.1 _ _ (by omega), e11, gS1])
      exact ⟨fun d1 => zq1 (q.1 d1), fun d1 => zq1 (q.2 d1)⟩
  · rw [e12, e11]; exact zq1 (q0 (by omega))
end MW
