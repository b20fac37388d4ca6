/-! What there is: names, comments, letters, alike, twins. -/
/-- two nodes are the same by themselves -/
def nsm (t : Int → Int) (T : pT) (x y : Int) : Prop := T x 0 = T y 0 ∧ T x 3 = T y 3 ∧ T x 9 = T y 9 ∧ sameR t t (T x 8) (T y 8) (T x 9)
def rsm (t : Int → Int) (T : pT) (a b m : Int) : Prop := ∀ x, 0 ≤ x → x < m → nsm t T (a + x) (b + x)
def alk (t : Int → Int) (T : pT) (a b : Int) : Prop := T a 6 = T b 6 ∧ rsm t T a b (T a 6)
theorem nsm_rf {t : Int → Int} {T : pT} (x : Int) : nsm t T x x := ⟨rfl, rfl, rfl, fun _ _ _ => rfl⟩
theorem rsm_rf {t : Int → Int} {T : pT} (a m : Int) : rsm t T a a m := fun _ _ _ => nsm_rf _
theorem alk_rf {t : Int → Int} {T : pT} (a : Int) : alk t T a a := ⟨rfl, rsm_rf _ _⟩
noncomputable def cnt (P : Int → Prop) : Nat → Int → Int
  | 0, _ => 0
  | k + 1, i => b2i (P i) + cnt P k (i + 1)
noncomputable def fst (P : Int → Prop) : Nat → Int → Int
  | 0, _ => -1
  | k + 1, i => if b2i (P i) = 1 then i else fst P k (i + 1)
theorem fst_y {P : Int → Prop} {k : Nat} {i : Int} (h : P i) : fst P (k + 1) i = i := by rw [fst, if_pos (b2i_pos h)]
theorem fst_n {P : Int → Prop} {k : Nat} {i : Int} (h : ¬ P i) : fst P (k + 1) i = fst P k (i + 1) := by rw [fst, if_neg (by rw [b2i_neg h]; omega)]
theorem cnt_y {P : Int → Prop} {k : Nat} {i : Int} (h : P i) : cnt P (k + 1) i = 1 + cnt P k (i + 1) := by rw [cnt, b2i_pos h]
theorem cnt_n {P : Int → Prop} {k : Nat} {i : Int} (h : ¬ P i) : cnt P (k + 1) i = cnt P k (i + 1) := by rw [cnt, b2i_neg h]; omega
theorem cnt_rg (P : Int → Prop) : ∀ (k : Nat) (i : Int), 0 ≤ cnt P k i ∧ cnt P k i ≤ k
  | 0, _ => ⟨Int.le_refl _, Int.le_refl _⟩
  | k + 1, i => by
    have := cnt_rg P k (i + 1)
    rcases b2i_01 (p := P i) with e | e <;> rw [cnt, e] <;> omega
section LX
variable {h : zH} {a : Nat} {t : Int → Int} {n nd nc : Int} {T C : pT}
theorem s62l {i j m : Int} (g : sF t n nd nc T C) (x : xN h a t n nd nc T C) (hi : 0 ≤ i ∧ i + m ≤ nd) (hj : 0 ≤ j ∧ j + m ≤ nd) {Q : Option zV → zH → Prop} (k : Q (some (vI (b2i (rsm t T i j m)))) h) :
    ∀ (f : Nat) (z : Int) (u v : zV), 0 ≤ z → m - z ≤ f → (∀ w, 0 ≤ w → w < z → nsm t T (i + w) (j + w)) → zK 62 3 [vR a 102, vI i, vI j, vI m, vI z, u, v] [] h Q := by
  have hnd := g.hd
  have hn := g.hn
  intro f
  induction f with
  | zero =>
    intro z u v h0 hz hw
    refine k62_3 a i j m z u v h Q ⟨fun q => ⟨Or.inr rfl, ?_⟩, fun q => absurd q (by omega)⟩
    rwa [b2i_pos (show rsm t T i j m from fun w w0 w1 => hw w w0 (by omega))] at k
  | succ f ih =>
    intro z u v h0 hz hw
    refine k62_3 a i j m z u v h Q ⟨fun q => ⟨Or.inr rfl, ?_⟩, fun q => ⟨fun q1 => ⟨Or.inr rfl, ?_⟩, fun q1 => ?_⟩⟩
    · rwa [b2i_pos (show rsm t T i j m from fun w w0 w1 => hw w w0 (by omega))] at k
    · rw [q1, b2i_pos (rsm_rf _ _)] at k; exact k
    · have y1 := x.2.2.2.1 (i + z) (by omega) (by omega)
      have y2 := x.2.2.2.1 (j + z) (by omega) (by omega)
      have n1 := g.nm (i := i + z) (by omega) (by omega)
      have n2 := g.nm (i := j + z) (by omega) (by omega)
      have no : ¬ nsm t T (i + z) (j + z) → Q (some (vI 0)) h := by
        intro c
        rwa [b2i_neg (fun d => c (d z h0 (by omega)))] at k
      rw [y1.1, y2.1, y1.2.2.2.1, y2.2.2.2.1, y1.2.2.2.2.2.2.2.2.1, y2.2.2.2.2.2.2.2.2.1, y1.2.2.2.2.2.2.2.2.2, y2.2.2.2.2.2.2.2.2.2]
      refine ⟨by unfold inR; omega, by unfold inR; omega, by omega, by omega, by omega, by omega, fun c1 => ⟨Or.inl rfl, no (fun d => c1 d.1)⟩, fun c1 => ⟨by omega, by omega, by omega, by omega, fun c2 => ⟨Or.inl rfl, no (fun d => c2 d.2.1)⟩, fun c2 => ⟨by omega, by omega, by omega, by omega, fun c3 => ⟨Or.inl rfl, no (fun d => c3 d.2.2.1)⟩, fun c3 => ⟨by omega, by omega, by omega, by omega, by omega, by omega, ?_⟩⟩⟩⟩
      refine s47 x.1 x.1 g.1 g.1 (by omega) (by omega) (by omega) ⟨fun c4 => ⟨by unfold inR; omega, ih (z + 1) _ _ (by omega) (by omega) ?_⟩, fun c4 => ⟨Or.inl rfl, no (fun d => ?_)⟩⟩
      · rw [b2i_ne0] at c4
        intro w w0 w1
        by_cases e : w = z
        · subst e; exact ⟨by omega, by omega, by omega, c4⟩
        · exact hw w w0 (by omega)
      · rw [b2i_ne0] at c4; exact c4 d.2.2.2
theorem s62 {i j m : Int} (g : sF t n nd nc T C) (x : xN h a t n nd nc T C) (hi : 0 ≤ i ∧ i + m ≤ nd) (hj : 0 ≤ j ∧ j + m ≤ nd) {K : Int → zH → Prop} (k : K (b2i (rsm t T i j m)) h) : zC1 62 [vR a 102, vI i, vI j, vI m] h K :=
  cI (k62_0 a i j m h _ (s62l g x hi hj (zq1 k) m.toNat 0 _ _ (by omega) (by omega) (fun w _ _ => by omega)))
theorem s61 {i j : Int} (g : sF t n nd nc T C) (x : xN h a t n nd nc T C) (hi : 0 ≤ i ∧ i < nd) (hj : 0 ≤ j ∧ j < nd) {K : Int → zH → Prop} (k : K (b2i (alk t T i j)) h) : zC1 61 [vR a 102, vI i, vI j] h K := by
  have hnd := g.hd
  have y1 := x.2.2.2.1 i hi.1 hi.2
  have y2 := x.2.2.2.1 j hj.1 hj.2
  have z1 := g.sz hi.1 hi.2
  have z2 := g.sz hj.1 hj.2
  refine cI (k61_0 a i j h _ ?_)
  rw [y1.2.2.2.2.2.2.1, y2.2.2.2.2.2.2.1]
  refine ⟨by omega, by omega, by omega, by omega, fun c => ⟨Or.inl rfl, zq1 ?_⟩, fun c => ⟨by omega, by omega, s62 g x (by omega) (by omega) ⟨fun c1 => ⟨Or.inl rfl, zq1 ?_⟩, fun c1 => ⟨Or.inr rfl, zq1 ?_⟩⟩⟩⟩
  · rwa [b2i_neg (fun d => c d.1)] at k
  · rw [b2i_eq0] at c1; rwa [b2i_neg (fun d => c1 d.2)] at k
  · rw [b2i_ne0] at c1; rwa [b2i_pos ⟨by omega, c1⟩] at k
/-- the class's own source -/
def xU (h : zH) (a : Nat) (t : Int → Int) (n nd nc : Int) (T C : pT) : Prop := gR h 2 1 = a ∧ zty 102 a h ∧ xN h a t n nd nc T C
theorem s30 {i : Int} (x : xU h a t n nd nc T C) {K : Int → zH → Prop} (k : K (b2i (0 ≤ i ∧ i < nd)) h) : zC1 30 [vR 2 100, vI i] h K := by
  refine cI (k30_0 i h _ ⟨fun c => ⟨Or.inl rfl, zq1 ?_⟩, fun c => ?_⟩)
  · rwa [b2i_neg (by omega)] at k
  · rw [x.1, x.2.2.2.1]
    refine ⟨x.2.1, fun c1 => ⟨Or.inl rfl, zq1 ?_⟩, fun c1 => ⟨Or.inr rfl, zq1 ?_⟩⟩
    · rwa [b2i_neg (by omega)] at k
    · rwa [b2i_pos (by omega)] at k
def aName (t : Int → Int) (nd : Int) (T : pT) (i j : Int) : Int := if (0 ≤ i ∧ i < nd) ∧ 0 ≤ j ∧ j < T i 9 then t (T i 8 + j) else -1
theorem s7 {i j : Int} (g : sF t n nd nc T C) (x : xU h a t n nd nc T C) {K : Int → zH → Prop} (k : K (aName t nd T i j) h) : zC1 7 [vR 2 100, vI i, vI j] h K := by
  have hnd := g.hd
  have hn := g.hn
  unfold aName at k
  refine cI (k7_0 i j h _ (s30 x ⟨fun c => zq1 ?_, fun c => ⟨fun c1 => zq1 ?_, fun c1 => ?_⟩⟩))
  · rw [b2i_eq0] at c; rwa [if_neg (by omega)] at k
  · rwa [if_neg (by omega)] at k
  · rw [b2i_ne0] at c
    have y := x.2.2.2.2.2.1 i c.1 c.2
    have nm := g.nm c.1 c.2
    rw [x.1, y.2.2.2.2.2.2.2.2.2, y.2.2.2.2.2.2.2.2.1]
    refine ⟨x.2.1, by omega, by omega, fun c2 => ⟨x.2.1, x.2.1, by omega, by omega, by unfold inR; omega, s44 x.2.2.1 g.1 (zq1 ?_)⟩, fun c2 => zq1 ?_⟩
    · rwa [if_pos ⟨c, by omega, c2⟩] at k
    · rwa [if_neg (by omega)] at k
def aCom (nc : Int) (C : pT) (i w : Int) : Int := if i = -1 then (if w = 0 then nc else -1) else if 0 ≤ i ∧ i < nc then (if w = 0 then C i 0 else if w = 1 then C i 1 else if w = 2 then C i 2 else -1) else -1
theorem s8 {i w : Int} (g : sF t n nd nc T C) (x : xU h a t n nd nc T C) {K : Int → zH → Prop} (k : K (aCom nc C i w) h) : zC1 8 [vR 2 100, vI i, vI w] h K := by
  have hnc := g.hc
  have go : ¬ (i = -1 ∧ w = 0) → zK 8 17 [vR 2 100, vI i, vI w] [] h (fun r h1 => ∃ v : Int, r = some (Sum.inl v) ∧ K v h1) := by
    intro hh
    unfold aCom at k
    refine k8_17 i w h _ ⟨fun c => zq1 ?_, fun c => ?_⟩
    · by_cases d : i = -1
      · rwa [if_pos d, if_neg (by omega)] at k
      · rwa [if_neg d, if_neg (by omega)] at k
    · rw [if_neg (by omega)] at k
      rw [x.1, x.2.2.2.2.1]
      refine ⟨x.2.1, fun c1 => ?_, fun c1 => zq1 ?_⟩
      · rw [if_pos (by omega)] at k
        have y := x.2.2.2.2.2.2 i (by omega) c1
        rw [y.1, y.2.1, y.2.2]
        refine ⟨fun d => ⟨x.2.1, by omega, by omega, zq1 ?_⟩, fun d => ⟨fun d1 => ⟨x.2.1, by omega, by omega, zq1 ?_⟩, fun d1 => ⟨fun d2 => ⟨x.2.1, by omega, by omega, zq1 ?_⟩, fun d2 => zq1 ?_⟩⟩⟩
        · rwa [if_pos d] at k
        · rwa [if_neg d, if_pos (by omega)] at k
        · rwa [if_neg d, if_neg (by omega), if_pos (by omega)] at k
        · rwa [if_neg d, if_neg (by omega), if_neg (by omega)] at k
      · rwa [if_neg (by omega)] at k
  refine cI (k8_0 i w h _ ⟨fun c => go (by omega), fun c => ⟨fun c1 => go (by omega), fun c1 => ?_⟩⟩)
  rw [x.1, x.2.2.2.2.1]
  unfold aCom at k
  rw [if_pos (by omega), if_pos (by omega)] at k
  exact ⟨x.2.1, zq1 k⟩
theorem s9 {i : Int} (g : sF t n nd nc T C) (x : xU h a t n nd nc T C) {K : Int → zH → Prop} (k : K (t i) h) : zC1 9 [vR 2 100, vI i] h K := by
  refine cI (k9_0 i h _ ?_)
  rw [x.1]
  exact ⟨x.2.1, s44 x.2.2.1 g.1 (zq1 k)⟩
noncomputable def aAlk (t : Int → Int) (nd : Int) (T : pT) (i j : Int) : Int := if (0 ≤ i ∧ i < nd) ∧ 0 ≤ j ∧ j < nd then b2i (alk t T i j) else -1
theorem s10 {i j : Int} (g : sF t n nd nc T C) (x : xU h a t n nd nc T C) {K : Int → zH → Prop} (k : K (aAlk t nd T i j) h) : zC1 10 [vR 2 100, vI i, vI j] h K := by
  unfold aAlk at k
  refine cI (k10_0 i j h _ (s30 x ⟨fun c => zq1 ?_, fun c => s30 x ⟨fun c1 => ?_, fun c1 => zq1 ?_⟩⟩))
  · rw [b2i_eq0] at c; rwa [if_neg (by omega)] at k
  · rw [b2i_ne0] at c c1
    rw [if_pos ⟨c, c1⟩] at k
    rw [x.1]
    refine ⟨x.2.1, s61 g x.2.2 c c1 ⟨fun c2 => zq1 ?_, fun c2 => zq1 ?_⟩⟩
    · rwa [c2] at k
    · rw [b2i_ne0] at c2; rwa [b2i_pos c2] at k
  · rw [b2i_ne0] at c1; rwa [if_neg (by omega)] at k
noncomputable def aTwn (t : Int → Int) (nd : Int) (T : pT) (i w : Int) : Int := if (0 ≤ i ∧ i < nd) ∧ 0 ≤ w ∧ w ≤ 1 then (if w = 0 then cnt (alk t T i) nd.toNat 0 else fst (alk t T i) nd.toNat 0) else -1
theorem s11l {i w : Int} (g : sF t n nd nc T C) (x : xU h a t n nd nc T C) (hi : 0 ≤ i ∧ i < nd) (hw : w = 0 ∨ w = 1) {Q : Option zV → zH → Prop} :
    ∀ (f : Nat) (z c : Int), nd - z = f → 0 ≤ z → 0 ≤ c → c ≤ z → (w = 1 → z ≤ i) → Q (some (vI (if w = 0 then c + cnt (alk t T i) f z else fst (alk t T i) f z))) h → zK 11 24 [vR 2 100, vI i, vI w, vI c, vI z] [] h Q := by
  have hnd := g.hd
  intro f
  induction f with
  | zero =>
    intro z c hz h0 c0 c1 hx k
    refine k11_24 i w c z h Q ?_
    rw [x.1, x.2.2.2.1]
    refine ⟨x.2.1, fun _ => ?_, fun d => absurd (by omega) d⟩
    rcases hw with e | e
    · rw [if_pos e, cnt, Int.add_zero] at k; exact k
    · have := hx e; omega
  | succ f ih =>
    intro z c hz h0 c0 c1 hx k
    refine k11_24 i w c z h Q ?_
    rw [x.1, x.2.2.2.1]
    refine ⟨x.2.1, fun d => absurd d (by omega), fun _ => ⟨x.2.1, s61 g x.2.2 hi (by omega) ⟨fun d => ⟨by unfold inR; omega, ih (z + 1) c (by omega) (by omega) c0 (by omega) ?_ ?_⟩, fun d => ⟨fun d1 => ⟨by unfold inR; omega, by unfold inR; omega, ih (z + 1) (c + 1) (by omega) (by omega) (by omega) (by omega) (by omega) ?_⟩, fun d1 => ?_⟩⟩⟩⟩
    · intro e
      have := hx e
      rw [b2i_eq0] at d
      by_cases e2 : z = i
      · exact absurd (by rw [e2]; exact alk_rf i) d
      · omega
    · rw [b2i_eq0] at d
      rw [cnt_n d, fst_n d] at k; exact k
    · rw [b2i_ne0] at d
      rw [cnt_y d] at k
      rcases hw with e | e
      · rw [if_pos e] at k ⊢
        rwa [show c + 1 + cnt (alk t T i) f (z + 1) = c + (1 + cnt (alk t T i) f (z + 1)) by omega]
      · exact absurd e d1
    · rw [b2i_ne0] at d
      rw [if_neg (by omega), fst_y d] at k; exact k
theorem s11 {i w : Int} (g : sF t n nd nc T C) (x : xU h a t n nd nc T C) {K : Int → zH → Prop} (k : K (aTwn t nd T i w) h) : zC1 11 [vR 2 100, vI i, vI w] h K := by
  have hnd := g.hd
  unfold aTwn at k
  refine cI (k11_0 i w h _ (s30 x ⟨fun c => zq1 ?_, fun c => ⟨fun c1 => zq1 ?_, fun c1 => ⟨fun c2 => ?_, fun c2 => zq1 ?_⟩⟩⟩))
  · rw [b2i_eq0] at c; rwa [if_neg (by omega)] at k
  · rwa [if_neg (by omega)] at k
  · rw [b2i_ne0] at c
    rw [if_pos ⟨c, by omega⟩] at k
    refine s11l g x c (by omega) nd.toNat 0 0 (by omega) (by omega) (by omega) (by omega) (fun _ => c.1) (zq1 ?_)
    rwa [Int.zero_add]
  · rwa [if_neg (by omega)] at k
/-- how deep it goes -/
def mxd (T : pT) : Nat → Int → Int → Int
  | 0, _, m => m
  | k + 1, i, m => mxd T k (i + 1) (iMax m (T i 7))
theorem s65l (g : sF t n nd nc T C) (x : xN h a t n nd nc T C) {Q : Option zV → zH → Prop} : ∀ (f : Nat) (z m : Int), nd - z = f → 0 ≤ z → 0 ≤ m → m ≤ 16 → Q (some (vI (mxd T f z m + 1))) h → zK 65 4 [vR a 102, vI m, vI z] [] h Q := by
  have hnd := g.hd
  intro f
  induction f with
  | zero =>
    intro z m hz h0 m0 m1 k
    refine k65_4 a m z h Q ?_
    rw [x.2.1]
    exact ⟨fun _ => ⟨by unfold inR; omega, k⟩, fun d => absurd (by omega) d⟩
  | succ f ih =>
    intro z m hz h0 m0 m1 k
    have d := g.dp (i := z) (by omega) (by omega)
    refine k65_4 a m z h Q ?_
    rw [x.2.1, (x.2.2.2.1 z h0 (by omega)).2.2.2.2.2.2.2.1]
    exact ⟨fun d => absurd d (by omega), fun _ => ⟨by omega, by omega, by unfold inR; omega, ih (z + 1) _ (by omega) (by omega) (by unfold iMax; split <;> omega) (by unfold iMax; split <;> omega) k⟩⟩
theorem s65 (g : sF t n nd nc T C) (x : xN h a t n nd nc T C) {K : Int → zH → Prop} (k : K (mxd T nd.toNat 0 0 + 1) h) : zC1 65 [vR a 102] h K := by
  have hnd := g.hd
  exact cI (k65_0 a h _ (s65l g x nd.toNat 0 0 (by omega) (by omega) (by omega) (by omega) (zq1 k)))
end LX
