/-! The model: what there is. -/
section LM
variable {h : zH} {t : Int → Int} {n nd nc : Int} {T C : pT}
theorem s157 {i : Int} (g : sF t n nd nc T C) (x : gI h 127 20 = nd) {K : Int → zH → Prop} (k : K (b2i (0 ≤ i ∧ i < nd)) h) : zC1 157 [vR 127 111, vI i] h K := by
  have hnd := g.hd
  refine cI (k157_0 i h _ ?_)
  rw [x]
  refine ⟨by unfold inL; omega, s141 ⟨b2i_01, zq1 ?_⟩⟩
  rwa [b2i_congr (show (0 ≤ i ∧ i ≤ nd - 1) ↔ (0 ≤ i ∧ i < nd) by omega)]
theorem mN.col (x : mN h t n nd nc T C) {i : Int} (h0 : 0 ≤ i) (h1 : i < nd) : ∀ j : Nat, j < 10 → gI h 137 (10 * i + j) = T i j := by
  have y := x.2.2.2.1 i h0 h1
  intro j hj
  rcases (show j = 0 ∨ j = 1 ∨ j = 2 ∨ j = 3 ∨ j = 4 ∨ j = 5 ∨ j = 6 ∨ j = 7 ∨ j = 8 ∨ j = 9 by omega) with e | e | e | e | e | e | e | e | e | e <;> subst e
  · simpa using y.1
  · exact y.2.1
  · exact y.2.2.1
  · exact y.2.2.2.1
  · exact y.2.2.2.2.1
  · exact y.2.2.2.2.2.1
  · exact y.2.2.2.2.2.2.1
  · exact y.2.2.2.2.2.2.2.1
  · exact y.2.2.2.2.2.2.2.2.1
  · exact y.2.2.2.2.2.2.2.2.2
theorem s158 (j : Nat) {i : Int} (hj : j < 10) (g : sF t n nd nc T C) (x : mN h t n nd nc T C) (hi : 0 ≤ i ∧ i < nd) {K : Int → zH → Prop} (k : K (T i j) h) : zC1 158 [vR 127 111, vI i, vI j] h K := by
  have hnd := g.hd
  refine cI (k158_0 i j h _ ⟨by unfold inR; omega, by unfold inR; omega, by omega, by omega, zq1 ?_⟩)
  rwa [x.col hi.1 hi.2 j hj]
theorem s180l {i j : Int} (g : sF t n nd nc T C) (x : mN h t n nd nc T C) (hi : 0 ≤ i ∧ i < nd) (hj : 0 ≤ j ∧ j < nd) (e9 : T i 9 = T j 9) {Q : Option zV → zH → Prop} (k : Q (some (vI (b2i (sameR t t (T i 8) (T j 8) (T i 9))))) h) :
    ∀ (f : Nat) (z s : Int), 0 ≤ z → T i 9 - z ≤ f → s = b2i (∀ w, 0 ≤ w → w < z → t (T i 8 + w) = t (T j 8 + w)) → z ≤ T i 9 → zK 180 56 [vR 127 111, vI i, vI j, vI s, vI z] [] h Q := by
  have hn := g.hn
  have n1 := g.nm hi.1 hi.2
  have n2 := g.nm hj.1 hj.2
  have no : ∀ z, z ≤ T i 9 → ¬ (∀ w, 0 ≤ w → w < z → t (T i 8 + w) = t (T j 8 + w)) → Q (some (vI 0)) h := by
    intro z hz c
    rwa [b2i_neg (fun d => c (fun w w0 w1 => d w w0 (by omega)))] at k
  intro f
  induction f with
  | zero =>
    intro z s h0 hf es hz
    refine k180_56 i j s z h Q ⟨fun c => ⟨by omega, ?_⟩, fun c => s158 9 (by omega) g x hi ⟨fun d => ⟨by rw [es]; exact b2i_01, ?_⟩, fun d => absurd (show T i 9 ≤ z by omega) d⟩⟩
    · rw [c]; rw [es, b2i_eq0] at c; exact no z hz c
    · rw [es, b2i_ne0] at c
      rw [es, b2i_pos c]
      rwa [b2i_pos (show sameR t t (T i 8) (T j 8) (T i 9) from fun w w0 w1 => c w w0 (by omega))] at k
  | succ f ih =>
    intro z s h0 hf es hz
    refine k180_56 i j s z h Q ⟨fun c => ⟨by omega, ?_⟩, fun c => s158 9 (by omega) g x hi ⟨fun d => ⟨by rw [es]; exact b2i_01, ?_⟩, fun d => s158 8 (by omega) g x hi ⟨by unfold inR; omega, by omega, by omega, s158 8 (by omega) g x hj ⟨by unfold inR; omega, by omega, by omega, fun d1 => ⟨by unfold inR; omega, ih (z + 1) 0 (by omega) (by omega) ?_ (by omega)⟩, fun d1 => ⟨by unfold inR; omega, ih (z + 1) 1 (by omega) (by omega) ?_ (by omega)⟩⟩⟩⟩⟩
    · rw [c]; rw [es, b2i_eq0] at c; exact no z hz c
    · rw [es, b2i_ne0] at c
      rw [es, b2i_pos c]
      have d : T i 9 ≤ z := d
      rwa [b2i_pos (show sameR t t (T i 8) (T j 8) (T i 9) from fun w w0 w1 => c w w0 (by omega))] at k
    · rw [b2i_neg (fun c1 => d1 ?_)]
      rw [x.1.2.1 _ (by omega) (by omega), x.1.2.1 _ (by omega) (by omega)]
      exact c1 z h0 (by omega)
    · rw [es, b2i_ne0] at c
      rw [x.1.2.1 _ (by omega) (by omega), x.1.2.1 _ (by omega) (by omega)] at d1
      rw [b2i_pos]
      intro w w0 w1
      by_cases e : w = z
      · rw [e]; omega
      · exact c w w0 (by omega)
theorem s180 {i j : Int} (g : sF t n nd nc T C) (x : mN h t n nd nc T C) (hi : 0 ≤ i ∧ i < nd) (hj : 0 ≤ j ∧ j < nd) {K : Int → zH → Prop} (k : K (b2i (nsm t T i j)) h) : zC1 180 [vR 127 111, vI i, vI j] h K := by
  have n1 := g.nm hi.1 hi.2
  have bad : ¬ nsm t T i j → zK 180 56 [vR 127 111, vI i, vI j, vI 0, vI 0] [] h (fun r h1 => ∃ v : Int, r = some (Sum.inl v) ∧ K v h1) := by
    intro c
    rw [b2i_neg c] at k
    exact k180_56 i j 0 0 h _ ⟨fun _ => ⟨Or.inl rfl, zq1 k⟩, fun d => absurd rfl d⟩
  refine cI (k180_0 i j h _ (s158 0 (by omega) g x hi (s158 0 (by omega) g x hj ⟨fun c => bad (fun d => c d.1), fun c => s158 9 (by omega) g x hi (s158 9 (by omega) g x hj ⟨fun c1 => bad (fun d => c1 d.2.2.1), fun c1 => s158 3 (by omega) g x hi (s158 3 (by omega) g x hj ⟨fun c2 => bad (fun d => c2 d.2.1), fun c2 => ?_⟩)⟩)⟩)))
  refine s180l g x hi hj (by omega) (zq1 ?_) (T i 9).toNat 0 1 (by omega) (by omega) (by rw [b2i_pos]; intro w w0 w1; omega) (by omega)
  rwa [b2i_congr (show sameR t t (T i 8) (T j 8) (T i 9) ↔ nsm t T i j from ⟨fun d => ⟨by omega, by omega, by omega, d⟩, fun d => d.2.2.2⟩)]
theorem s181l {i j : Int} (g : sF t n nd nc T C) (x : mN h t n nd nc T C) (hi : 0 ≤ i ∧ i < nd) (hj : 0 ≤ j ∧ j < nd) (e6 : T i 6 = T j 6) {Q : Option zV → zH → Prop} (k : Q (some (vI (b2i (rsm t T i j (T i 6))))) h) :
    ∀ (f : Nat) (z s : Int), 0 ≤ z → T i 6 - z ≤ f → s = b2i (∀ w, 0 ≤ w → w < z → nsm t T (i + w) (j + w)) → z ≤ T i 6 → zK 181 26 [vR 127 111, vI i, vI j, vI s, vI z] [] h Q := by
  have hnd := g.hd
  have n1 := g.sz hi.1 hi.2
  have n2 := g.sz hj.1 hj.2
  have no : ∀ z, z ≤ T i 6 → ¬ (∀ w, 0 ≤ w → w < z → nsm t T (i + w) (j + w)) → Q (some (vI 0)) h := by
    intro z hz c
    rwa [b2i_neg (fun d => c (fun w w0 w1 => d w w0 (by omega)))] at k
  intro f
  induction f with
  | zero =>
    intro z s h0 hf es hz
    refine k181_26 i j s z h Q ⟨fun c => ⟨by omega, ?_⟩, fun c => s158 6 (by omega) g x hi ⟨fun d => ⟨by rw [es]; exact b2i_01, ?_⟩, fun d => absurd (show T i 6 ≤ z by omega) d⟩⟩
    · rw [c]; rw [es, b2i_eq0] at c; exact no z hz c
    · rw [es, b2i_ne0] at c
      rw [es, b2i_pos c]
      rwa [b2i_pos (show rsm t T i j (T i 6) from fun w w0 w1 => c w w0 (by omega))] at k
  | succ f ih =>
    intro z s h0 hf es hz
    refine k181_26 i j s z h Q ⟨fun c => ⟨by omega, ?_⟩, fun c => s158 6 (by omega) g x hi ⟨fun d => ⟨by rw [es]; exact b2i_01, ?_⟩, fun d => ⟨by unfold inR; omega, by unfold inR; omega, s180 g x (by omega) (by omega) ⟨by unfold inR; omega, ih (z + 1) _ (by omega) (by omega) ?_ (by omega)⟩⟩⟩⟩
    · rw [c]; rw [es, b2i_eq0] at c; exact no z hz c
    · rw [es, b2i_ne0] at c
      rw [es, b2i_pos c]
      have d : T i 6 ≤ z := d
      rwa [b2i_pos (show rsm t T i j (T i 6) from fun w w0 w1 => c w w0 (by omega))] at k
    · rw [es, b2i_ne0] at c
      apply b2i_congr
      refine ⟨fun d1 w w0 w1 => ?_, fun d1 => d1 z h0 (by omega)⟩
      by_cases e : w = z
      · rw [e]; exact d1
      · exact c w w0 (by omega)
theorem s181 {i j : Int} (g : sF t n nd nc T C) (x : mN h t n nd nc T C) (hi : 0 ≤ i ∧ i < nd) (hj : 0 ≤ j ∧ j < nd) {K : Int → zH → Prop} (k : K (b2i (alk t T i j)) h) : zC1 181 [vR 127 111, vI i, vI j] h K := by
  have n1 := g.sz hi.1 hi.2
  refine cI (k181_0 i j h _ (s158 6 (by omega) g x hi (s158 6 (by omega) g x hj ⟨fun c => ?_, fun c => ?_⟩)))
  · rw [b2i_neg (fun d => c d.1)] at k
    exact k181_26 i j 0 0 h _ ⟨fun _ => ⟨Or.inl rfl, zq1 k⟩, fun d => absurd rfl d⟩
  · refine s181l g x hi hj (by omega) (zq1 ?_) (T i 6).toNat 0 1 (by omega) (by omega) (by rw [b2i_pos]; intro w w0 w1; omega) (by omega)
    rwa [b2i_congr (show rsm t T i j (T i 6) ↔ alk t T i j from ⟨fun d => ⟨by omega, d⟩, fun d => d.2⟩)]
/-- rows of parts, part by part -/
def frl (t : Int → Int) (T : pT) : Nat → Int → Int → Prop
  | 0, _, _ => True
  | k + 1, a, b => alk t T a b ∧ frl t T k (a + T a 6) (b + T b 6)
theorem s182l {m : Int} {u1 u2 : zV} (g : sF t n nd nc T C) (x : mN h t n nd nc T C) (hm : m ≤ 60) {Q : Option zV → zH → Prop} :
    ∀ (f : Nat) (z a b s : Int) (ea eb : Int), m - z = f → 0 ≤ z → vrw nd T ea f a → vrw nd T eb f b → (s = 0 ∨ s = 1) → Q (some (vI (if s = 0 then 0 else b2i (frl t T f a b)))) h → zK 182 12 [vR 127 111, u1, u2, vI m, vI a, vI b, vI s, vI z] [] h Q := by
  have hnd := g.hd
  intro f
  induction f with
  | zero =>
    intro z a b s ea eb hz h0 va vb hs k
    refine k182_12 u1 u2 m a b s z h Q ⟨fun c => ⟨hs, ?_⟩, fun c => ⟨fun _ => ⟨hs, ?_⟩, fun d => absurd (by omega) d⟩⟩
    · rw [if_pos c] at k; rwa [c]
    · rw [if_neg c, b2i_pos (show frl t T 0 a b from trivial)] at k
      rwa [show s = 1 by omega]
  | succ f ih =>
    intro z a b s ea eb hz h0 va vb hs k
    have sa := g.sz va.1 va.2.1
    have sb := g.sz vb.1 vb.2.1
    refine k182_12 u1 u2 m a b s z h Q ⟨fun c => ⟨hs, ?_⟩, fun c => ⟨fun d => absurd d (by omega), fun _ => s181 g x ⟨va.1, va.2.1⟩ ⟨vb.1, vb.2.1⟩ (s158 6 (by omega) g x ⟨va.1, va.2.1⟩ ⟨?_, s158 6 (by omega) g x ⟨vb.1, vb.2.1⟩ ⟨?_, by unfold inR; omega, ih (z + 1) _ _ _ ea eb (by omega) (by omega) va.2.2.2 vb.2.2.2 b2i_01 ?_⟩⟩)⟩⟩
    · rw [if_pos c] at k; rwa [c]
    · have := va.2.1; have := va.1; unfold inR; omega
    · have := vb.2.1; have := vb.1; unfold inR; omega
    · rw [if_neg c] at k
      by_cases d : alk t T a b
      · rw [b2i_pos d, if_neg (by omega)]
        rwa [b2i_congr (show frl t T (f + 1) a b ↔ frl t T f (a + T a 6) (b + T b 6) from ⟨fun e => e.2, fun e => ⟨d, e⟩⟩)] at k
      · rw [b2i_neg d, if_pos rfl]
        rwa [b2i_neg (fun e => d e.1)] at k
theorem s182 {m a b ea eb : Int} (g : sF t n nd nc T C) (x : mN h t n nd nc T C) (hm : 0 ≤ m ∧ m ≤ 60) (va : vrw nd T ea m.toNat a) (vb : vrw nd T eb m.toNat b) {K : Int → zH → Prop} (k : K (b2i (frl t T m.toNat a b)) h) : zC1 182 [vR 127 111, vI a, vI b, vI m] h K := by
  refine cI (k182_0 a b m h _ (s182l g x hm.2 m.toNat 0 a b 1 ea eb (by omega) (by omega) va vb (Or.inr rfl) (zq1 ?_)))
  rwa [if_neg (by omega)]
/-- thrown is set back -/
theorem thr (x : mN h t n nd nc T C) (g : sF t n nd nc T C) (v : Int) : mN (sI h 127 0 v) t n nd nc T C :=
  x.fr (P := fun b k => b = 127 ∧ k = 0) g.hn (frP.rf.st ⟨rfl, rfl⟩) (fun k _ _ => by omega) (by omega) (fun k => by omega)
theorem s198 {i j : Int} (g : sF t n nd nc T C) (x : mN h t n nd nc T C) {K : Int → zH → Prop} (k : K (aName t nd T i j) (sI h 127 0 0)) : zC1 198 [vR 127 111, vI i, vI j] h K := by
  have hn := g.hn
  unfold aName at k
  have x6 := thr x g 0
  refine cI (k198_0 i j h _ (fun h6 e6 => ?_))
  rw [e6]
  refine s157 g x6.2.1 ⟨fun c => zq1 ?_, fun c => ?_⟩
  · rw [b2i_eq0] at c; rwa [if_neg (by omega)] at k
  · rw [b2i_ne0] at c
    have nm := g.nm c.1 c.2
    refine s158 9 (by omega) g x6 c ⟨by unfold inL; omega, s141 ⟨fun d => zq1 ?_, fun d => s158 8 (by omega) g x6 c ?_⟩⟩
    · rw [b2i_eq0] at d
      have d : ¬ (0 ≤ j ∧ j ≤ T i 9 - 1) := d
      rwa [if_neg (by omega)] at k
    · rw [b2i_ne0] at d
      have d : (0 ≤ j ∧ j ≤ T i 9 - 1) := d
      refine ⟨by unfold inR; omega, by omega, by omega, zq1 ?_⟩
      rw [x6.1.2.1 _ (by omega) (by omega)]
      rwa [if_pos ⟨c, by omega, by omega⟩] at k
theorem s199 {i w : Int} (g : sF t n nd nc T C) (x : mN h t n nd nc T C) {K : Int → zH → Prop} (k : K (aCom nc C i w) (sI h 127 0 0)) : zC1 199 [vR 127 111, vI i, vI w] h K := by
  have hnc := g.hc
  unfold aCom at k
  have x6 := thr x g 0
  refine cI (k199_0 i w h _ (fun h4 e4 => ?_))
  rw [e4, x6.2.2.1]
  refine ⟨fun c => ⟨by unfold inL; omega, s141 ⟨fun d => zq1 ?_, fun d => s141 ⟨fun e => zq1 ?_, fun e => ?_⟩⟩⟩, fun c => ⟨fun d => zq1 ?_, fun d => zq1 ?_⟩⟩
  · rw [b2i_eq0] at d; rwa [if_neg c, if_neg (by omega)] at k
  · rw [b2i_ne0] at d; rw [b2i_eq0] at e
    rw [if_neg c, if_pos (by omega), if_neg (by omega), if_neg (by omega), if_neg (by omega)] at k; exact k
  · rw [b2i_ne0] at d e
    rw [if_neg c, if_pos (by omega)] at k
    have y := x6.2.2.2.2 i (by omega) (by omega)
    refine ⟨by unfold inR; omega, by unfold inR; omega, by omega, by omega, zq1 ?_⟩
    rcases (show w = 0 ∨ w = 1 ∨ w = 2 by omega) with e1 | e1 | e1
    · rw [if_pos e1] at k; rw [e1, Int.add_zero, y.1]; exact k
    · rw [if_neg (by omega), if_pos e1] at k; rw [e1, y.2.1]; exact k
    · rw [if_neg (by omega), if_neg (by omega), if_pos e1] at k; rw [e1, y.2.2]; exact k
  · rwa [if_pos (by omega), if_neg d] at k
  · rwa [if_pos (by omega), if_pos (by omega)] at k
theorem s200 {i : Int} (g : sF t n nd nc T C) (x : mN h t n nd nc T C) {K : Int → zH → Prop} (k : K (t i) (sI h 127 0 0)) : zC1 200 [vR 127 111, vI i] h K := by
  have hn := g.hn
  have x6 := thr x g 0
  refine cI (k200_0 i h _ (fun h3 e3 => ?_))
  rw [e3, x6.1.1]
  refine ⟨by omega, by omega, by unfold inL; omega, s141 ⟨fun d => zq1 ?_, fun d => ?_⟩⟩
  · rw [b2i_eq0] at d; rwa [(g.1.2.2 i).2 (by omega)] at k
  · rw [b2i_ne0] at d
    refine ⟨by omega, by omega, zq1 ?_⟩
    rwa [x6.1.2.1 i (by omega) (by omega)]
theorem s201 {i j : Int} (g : sF t n nd nc T C) (x : mN h t n nd nc T C) {K : Int → zH → Prop} (k : K (aAlk t nd T i j) (sI h 127 0 0)) : zC1 201 [vR 127 111, vI i, vI j] h K := by
  unfold aAlk at k
  have x6 := thr x g 0
  refine cI (k201_0 i j h _ (fun h5 e5 => ?_))
  rw [e5]
  refine s157 g x6.2.1 ⟨fun c => zq1 ?_, fun c => s157 g x6.2.1 ⟨fun c1 => ?_, fun c1 => zq1 ?_⟩⟩
  · rw [b2i_eq0] at c; rwa [if_neg (by omega)] at k
  · rw [b2i_ne0] at c c1
    rw [if_pos ⟨c, c1⟩] at k
    refine s181 g x6 c c1 ⟨fun c2 => zq1 ?_, fun c2 => zq1 ?_⟩
    · rwa [c2] at k
    · rw [b2i_ne0] at c2; rwa [b2i_pos c2] at k
  · rw [b2i_ne0] at c1; rwa [if_neg (by omega)] at k
theorem s202l {i w : Int} (g : sF t n nd nc T C) (x : mN h t n nd nc T C) (hi : 0 ≤ i ∧ i < nd) (hw : w = 0 ∨ w = 1) {Q : Option zV → zH → Prop} :
    ∀ (f : Nat) (z c l : Int), nd - z = f → 0 ≤ z → 0 ≤ c → c ≤ z → -1 ≤ l → Q (some (vI (if w = 0 then c + cnt (alk t T i) f z else if l = -1 then fst (alk t T i) f z else l))) h → zK 202 33 [vR 127 111, vI i, vI w, vI c, vI l, vI z] [] h Q := by
  have hnd := g.hd
  intro f
  induction f with
  | zero =>
    intro z c l hz h0 c0 c1 hl k
    refine k202_33 i w c l z h Q ?_
    rw [x.2.1]
    refine ⟨fun _ => ⟨fun d => ?_, fun d => ?_⟩, fun d => absurd (by omega) d⟩
    · rw [if_neg d, fst] at k
      by_cases e : l = -1
      · rw [if_pos e] at k; rwa [e]
      · rwa [if_neg e] at k
    · rw [if_pos (by omega), cnt, Int.add_zero] at k; exact k
  | succ f ih =>
    intro z c l hz h0 c0 c1 hl k
    refine k202_33 i w c l z h Q ?_
    rw [x.2.1]
    refine ⟨fun d => absurd d (by omega), fun _ => s181 g x hi (by omega) ⟨fun d => ⟨by unfold inR; omega, ih (z + 1) c l (by omega) (by omega) c0 (by omega) hl ?_⟩, fun d => ⟨by unfold inR; omega, fun d1 => ⟨by unfold inR; omega, ih (z + 1) (c + 1) l (by omega) (by omega) (by omega) (by omega) hl ?_⟩, fun d1 => ⟨by unfold inR; omega, ih (z + 1) (c + 1) z (by omega) (by omega) (by omega) (by omega) (by omega) ?_⟩⟩⟩⟩
    · rw [b2i_eq0] at d
      rw [cnt_n d, fst_n d] at k; exact k
    · rw [b2i_ne0] at d
      rw [cnt_y d, if_neg d1] at k
      rw [if_neg d1, show c + 1 + cnt (alk t T i) f (z + 1) = c + (1 + cnt (alk t T i) f (z + 1)) by omega]; exact k
    · rw [b2i_ne0] at d
      rw [cnt_y d, if_pos (show l = -1 by omega), fst_y d] at k
      rw [if_neg (show ¬ z = -1 by omega), show c + 1 + cnt (alk t T i) f (z + 1) = c + (1 + cnt (alk t T i) f (z + 1)) by omega]; exact k
theorem s202 {i w : Int} (g : sF t n nd nc T C) (x : mN h t n nd nc T C) {K : Int → zH → Prop} (k : K (aTwn t nd T i w) (sI h 127 0 0)) : zC1 202 [vR 127 111, vI i, vI w] h K := by
  have hnd := g.hd
  unfold aTwn at k
  have x6 := thr x g 0
  refine cI (k202_0 i w h _ (fun h5 e5 => ?_))
  rw [e5]
  refine s157 g x6.2.1 ⟨fun c => zq1 ?_, fun c => s141 ⟨fun c1 => ?_, fun c1 => zq1 ?_⟩⟩
  · rw [b2i_eq0] at c; rwa [if_neg (by omega)] at k
  · rw [b2i_ne0] at c c1
    rw [if_pos ⟨c, c1⟩] at k
    refine s202l g x6 c (by omega) nd.toNat 0 0 (-1) (by omega) (by omega) (by omega) (by omega) (by omega) (zq1 ?_)
    rwa [Int.zero_add, if_pos rfl]
  · rw [b2i_ne0] at c1; rwa [if_neg (by omega)] at k
theorem s255l (g : sF t n nd nc T C) (x : mN h t n nd nc T C) {Q : Option zV → zH → Prop} : ∀ (f : Nat) (z m : Int), nd - z = f → 0 ≤ z → 0 ≤ m → m ≤ 16 → Q (some (vI (mxd T f z m + 1))) h → zK 255 4 [vR 127 111, vI (m + 1), vI z] [] h Q := by
  have hnd := g.hd
  intro f
  induction f with
  | zero =>
    intro z m hz h0 m0 m1 k
    refine k255_4 (m + 1) z h Q ?_
    rw [x.2.1]
    exact ⟨fun _ => k, fun d => absurd (by omega) d⟩
  | succ f ih =>
    intro z m hz h0 m0 m1 k
    have d := g.dp (i := z) (by omega) (by omega)
    refine k255_4 (m + 1) z h Q ?_
    rw [x.2.1]
    refine ⟨fun d => absurd d (by omega), fun _ => s158 7 (by omega) g x (by omega) ⟨by unfold inR; omega, fun e => ⟨by unfold inR; omega, ih (z + 1) m (by omega) (by omega) m0 m1 ?_⟩, fun e => s158 7 (by omega) g x (by omega) ⟨by unfold inR; omega, by unfold inR; omega, ih (z + 1) (T z 7) (by omega) (by omega) d.1 d.2 ?_⟩⟩⟩
    · have e : T z 7 + 1 ≤ m + 1 := e
      rw [mxd, iMax, if_neg (by omega)] at k; exact k
    · have e : ¬ T z 7 + 1 ≤ m + 1 := e
      rw [mxd, iMax, if_pos (by omega)] at k; exact k
theorem s255 (g : sF t n nd nc T C) (x : mN h t n nd nc T C) {K : Int → zH → Prop} (k : K (mxd T nd.toNat 0 0 + 1) h) : zC1 255 [vR 127 111] h K := by
  have hnd := g.hd
  refine cI (k255_0 h _ ?_)
  have d := g.dp (i := 0) (by omega) (by omega)
  refine k255_4 0 0 h _ ?_
  rw [x.2.1]
  refine ⟨fun d => absurd d (by omega), fun _ => s158 7 (by omega) g x (by omega) ⟨by unfold inR; omega, fun e => absurd (show T 0 7 + 1 ≤ 0 from e) (by omega), fun e => s158 7 (by omega) g x (by omega) ⟨by unfold inR; omega, by unfold inR; omega, s255l g x (nd.toNat - 1) 1 (T 0 7) (by omega) (by omega) d.1 d.2 (zq1 ?_)⟩⟩⟩
  rw [show nd.toNat = (nd.toNat - 1) + 1 by omega, mxd, iMax] at k
  by_cases e : (0 : Int) < T 0 7
  · rw [if_pos e] at k; exact k
  · rw [if_neg e] at k; rw [show T 0 7 = 0 by omega]; exact k
end LM
