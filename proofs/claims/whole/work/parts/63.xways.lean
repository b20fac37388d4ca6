/-! ways, held, found, rulesOf: the class. -/
section XV
variable {h : zH} {t : Int → Int} {n nd nc : Int} {T C : pT} {rn : Int → Int} {rt : Int → Int → Int} {rs : Int → pS} {a A : Nat}
theorem fiA_d {a : Nat} (ha : a + 16 ≤ 56 ∨ 63 ≤ a) : ∀ b k, a ≤ b → b < a + 16 → ¬ fiA b k := fun b k _ _ => by unfold fiA; omega
theorem fit_b {x v : Int} (hx : (0 ≤ x ∧ x < 8) ∧ ¬ rn x = 0) : b2i (fit t T rn rt rs x v) = b2i (¬ wAl t (rt x) T (sP rn rt rs x) 0 v = []) := b2i_congr ⟨fun c => c.2, fun c => ⟨hx, c⟩⟩
theorem s91x (g : sF t n nd nc T C) (y : xN h a t n nd nc T C) (ty : zty 102 a h) (ha : a + 16 ≤ 56 ∨ 63 ≤ a) (o : slO rn rt rs) (u : xRu h A rn rt rs) {x v : Int} (hx : (0 ≤ x ∧ x < 8) ∧ ¬ rn x = 0) (hv : 0 ≤ v ∧ v < nd) {K : Int → zH → Prop} (k0 : wAl t (rt x) T (sP rn rt rs x) 0 v = [] → ∀ h1, frX fiA fiR h h1 → K 0 h1) (k1 : ∀ e L, wAl t (rt x) T (sP rn rt rs x) 0 v = e :: L → ∀ h1, fS h1 e 0 (sP rn rt rs x 1 0 9) → frX fiA fiR h h1 → K 1 h1) : zC1 91 [vR 56 105, vR a 102, vR (gR h A x) 103, vI v] h K := by
  have gd := o.gd hx.1 hx.2
  have en := gd.1.en
  have pt := u.pt o hx.1 hx.2
  exact s91 g y ty pt.2 gd.2 en.1 en.2 hv ha (by omega) k0 k1
theorem s91b (g : sF t n nd nc T C) (y : xN h a t n nd nc T C) (ty : zty 102 a h) (ha : a + 16 ≤ 56 ∨ 63 ≤ a) (o : slO rn rt rs) (u : xRu h A rn rt rs) {x v : Int} (hx : (0 ≤ x ∧ x < 8) ∧ ¬ rn x = 0) (hv : 0 ≤ v ∧ v < nd) {K : Int → zH → Prop} (k : ∀ h1, frX fiA fiR h h1 → K (b2i (fit t T rn rt rs x v)) h1) : zC1 91 [vR 56 105, vR a 102, vR (gR h A x) 103, vI v] h K := by
  refine s91x g y ty ha o u hx hv (fun e h1 f1 => ?_) (fun e L el h1 _ f1 => ?_)
  · have := k h1 f1
    rwa [b2i_neg (fun d => d.2 e)] at this
  · have := k h1 f1
    rwa [b2i_pos ⟨hx, by rw [el]; simp⟩] at this
theorem s94b (g : sF t n nd nc T C) (y : xN h a t n nd nc T C) (ty : zty 102 a h) (ha : a + 16 ≤ 56 ∨ 63 ≤ a) (o : slO rn rt rs) (u : xRu h A rn rt rs) {x v : Int} (hx : (0 ≤ x ∧ x < 8) ∧ ¬ rn x = 0) (hv : 0 ≤ v ∧ v < nd) {K : Int → zH → Prop} (k : ∀ h1, frX fiA fiR h h1 → ∀ c : Int, (c ≤ 0 ↔ ¬ fit t T rn rt rs x v) → K c h1) : zC1 94 [vR 56 105, vR a 102, vR (gR h A x) 103, vI 0, vI v, vI 1] h K := by
  have gd := o.gd hx.1 hx.2
  have en := gd.1.en
  have pt := u.pt o hx.1 hx.2
  refine s94 (M := 1) g y ty pt.2 gd.2 en.1 en.2 hv ha (by omega) (by omega) (fun lt h1 f1 => ?_) (fun le h1 e ee fs f1 => ?_)
  · have e0 : wAl t (rt x) T (sP rn rt rs x) 0 v = [] := List.length_eq_zero_iff.1 (by omega)
    rw [e0]
    exact k h1 f1 _ ⟨fun _ d => d.2 e0, fun _ => by show (0 : Int) ≤ 0; omega⟩
  · refine k h1 f1 _ ⟨fun d => absurd d (by omega), fun d => absurd ⟨hx, fun e0 => ?_⟩ d⟩
    rw [e0] at le
    exact absurd le (by show ¬ 1 ≤ 0; omega)
theorem s92 (g : sF t n nd nc T C) (y : xN h a t n nd nc T C) (ty : zty 102 a h) (ha : a + 16 ≤ 56 ∨ 63 ≤ a) (o : slO rn rt rs) (u : xRu h A rn rt rs) {v : Int} (hv : 0 ≤ v ∧ v < nd) (hA : ¬ A = 56) {K : Int → zH → Prop} (k : ∀ h1, frX fiA fiR h h1 → K (bts (fun x => fit t T rn rt rs x v) 8 0 0) h1) : zC1 92 [vR 56 105, vR a 102, vR A 944, vI v] h K := by
  have key : ∀ (f : Nat) (z q : Int) (h1 : zH), 8 - z = f → 0 ≤ z → frX fiA fiR h h1 → (∀ h2, frX fiA fiR h h2 → K (bts (fun x => fit t T rn rt rs x v) f z q) h2) → zK 92 6 [vR 56 105, vR a 102, vR A 944, vI v, vI q, vI z] [] h1 (fun r h1 => ∃ v : Int, r = some (Sum.inl v) ∧ K v h1) := by
    intro f
    induction f with
    | zero =>
      intro z q h1 hz z0 f1 kk
      exact k92_6 a A v q z h1 _ ⟨fun _ => zq1 (kk h1 f1), fun e => absurd (by omega) e⟩
    | succ f ih =>
      intro z q h1 hz z0 f1 kk
      rw [bts] at kk
      have u1 : xRu h1 A rn rt rs := u.fx f1 (fun b k _ _ => by unfold fiA; omega) (fun k _ _ => by unfold fiR; omega)
      have w1 := u1 z z0 (by omega)
      refine k92_6 a A v q z h1 _ ⟨fun e => absurd e (by omega), fun _ => ⟨z0, by omega, fun e => ⟨by unfold inR; omega, ?_⟩, fun e => ?_⟩⟩
      · have rz : rn z = 0 := Classical.byContradiction (fun c => by have := (w1.2 c).1; omega)
        rw [b2i_neg (fun d => d.1.2 rz), if_neg (by omega)] at kk
        exact ih (z + 1) q h1 (by omega) (by omega) f1 kk
      · have rz : ¬ rn z = 0 := fun c => e (w1.1 c)
        have hx : (0 ≤ z ∧ z < 8) ∧ ¬ rn z = 0 := ⟨⟨z0, by omega⟩, rz⟩
        refine ⟨z0, by omega, (w1.2 rz).2.2.1, s94b g (y.fx f1 (fiA_d ha)) (by rw [f1.ty]; exact ty) ha o u1 hx hv (fun h2 f2 c hc => ⟨fun d => ⟨by unfold inR; omega, ?_⟩, fun d => ⟨by unfold inR; omega, ?_⟩⟩)⟩
        · rw [b2i_neg (hc.1 d), if_neg (by omega)] at kk
          exact ih (z + 1) q h2 (by omega) (by omega) (f1.tr f2) kk
        · rw [b2i_pos (Classical.not_not.1 (fun e => d (hc.2 e))), if_pos rfl] at kk
          exact ih (z + 1) _ h2 (by omega) (by omega) (f1.tr f2) kk
  exact cI (k92_0 a A v h _ (key 8 0 0 h (by omega) (by omega) frX.rf k))
end XV
section XY
variable {h : zH} {t : Int → Int} {n nd nc : Int} {T C : pT} {rn : Int → Int} {rt : Int → Int → Int} {rs : Int → pS} {a : Nat}
theorem xU.fx {P R : Nat → Int → Prop} {h h1 : zH} {a : Nat} {t : Int → Int} {n nd nc : Int} {T C : pT} (y : xU h a t n nd nc T C) (f : frX P R h h1) (d : ∀ b k, a ≤ b → b < a + 16 → ¬ P b k) (d2 : ¬ R 2 1) : xU h1 a t n nd nc T C := ⟨by rw [f.2.1 _ _ d2]; exact y.1, by rw [f.ty]; exact y.2.1, y.2.2.fx f d⟩
theorem s13 (g : sF t n nd nc T C) (y : xU h a t n nd nc T C) (ha : a + 16 ≤ 56 ∨ 63 ≤ a) (o : slO rn rt rs) (u : xRu h 53 rn rt rs) {x v : Int} {K : Int → zH → Prop} (k : ∀ h1, frX fiA fiR h h1 → K (aWays t nd T rn rt rs x v) h1) : zC1 13 [vR 2 100, vI x, vI v] h K := by
  unfold aWays at k
  refine cI (k13_0 x v h _ (s31 u ⟨fun c => zq1 ?_, fun c => s30 y ⟨fun d => ?_, fun d => zq1 ?_⟩⟩))
  · rw [b2i_eq0] at c
    have := k h frX.rf
    rwa [b2i_neg (fun d => c d.1), if_neg (by omega)] at this
  · rw [b2i_ne0] at c d
    rw [b2i_pos ⟨c, d⟩, if_pos rfl] at k
    have gd := o.gd c.1 c.2
    have en := gd.1.en
    have pt := u.pt o c.1 c.2
    rw [y.1]
    refine ⟨y.2.1, c.1.1, c.1.2, pt.2.1, s94 (M := 500) g y.2.2 y.2.1 pt.2 gd.2 en.1 en.2 d ha (by omega) (by omega) (fun lt h1 f1 => zq1 ?_) (fun le h1 e ee fs f1 => zq1 ?_)⟩
    · have := k h1 f1
      rwa [if_pos (by omega)] at this
    · have := k h1 f1
      rw [show (if (wAl t (rt x) T (sP rn rt rs x) 0 v).length ≤ 500 then ((wAl t (rt x) T (sP rn rt rs x) 0 v).length : Int) else 500) = 500 by split <;> omega] at this
      exact this
  · have d : ¬ (0 ≤ v ∧ v < nd) := fun e => d (b2i_ne0.2 e)
    have := k h frX.rf
    rwa [b2i_neg (fun e => d e.2), if_neg (by omega)] at this
theorem s14 (g : sF t n nd nc T C) (y : xU h a t n nd nc T C) (ha : a + 16 ≤ 56 ∨ 63 ≤ a) (o : slO rn rt rs) (u : xRu h 53 rn rt rs) {x v l w : Int} {K : Int → zH → Prop} (k : ∀ h1, frX fiA fiR h h1 → K (aHeld t nd T rn rt rs x v l w) h1) : zC1 14 [vR 2 100, vI x, vI v, vI l, vI w] h K := by
  unfold aHeld at k
  have no : ¬ ((((0 ≤ x ∧ x < 8) ∧ ¬ rn x = 0) ∧ 0 ≤ v ∧ v < nd) ∧ (0 ≤ l ∧ l ≤ 25) ∧ 0 ≤ w ∧ w ≤ 1) → K (-1) h := fun c => by
    have := k h frX.rf
    rwa [b2i_neg c, if_neg (by omega)] at this
  refine cI (k14_0 x v l w h _ (s31 u ⟨fun c => zq1 (no (fun d => ?_)), fun c => s30 y ⟨fun d => zq1 (no (fun e => ?_)), fun d => ⟨fun e => zq1 (no (fun z => by omega)), fun e => ⟨fun e1 => zq1 (no (fun z => by omega)), fun e1 => ⟨fun e2 => zq1 (no (fun z => by omega)), fun e2 => ⟨fun e3 => ?_, fun e3 => zq1 (no (fun z => by omega))⟩⟩⟩⟩⟩⟩))
  · rw [b2i_eq0] at c; exact c d.1.1
  · rw [b2i_eq0] at d; exact d e.1.2
  · rw [b2i_ne0] at c d
    rw [b2i_pos ⟨⟨c, d⟩, ⟨by omega, by omega⟩, by omega, by omega⟩, if_pos rfl] at k
    have gd := o.gd c.1 c.2
    have en := gd.1.en
    have pt := u.pt o c.1 c.2
    have rt0 := en.1.rt
    have N := en.1.N
    refine ⟨c.1.1, c.1.2, pt.2.1, s68 pt.2 en.1 ⟨Int.le_refl _, by omega⟩ ?_⟩
    rw [y.1]
    generalize sP rn rt rs x = s at *
    rw [show s 0 0 1 = s 1 0 9 by omega]
    by_cases hf : hF s 0 l (s 1 0 9) = -1
    · refine ⟨fun _ => zq1 ?_, fun q => absurd hf q⟩
      have := k h frX.rf
      unfold aHl at this
      cases hL : wAl t (rt x) T s 0 v with
      | nil => rw [hL] at this; exact this
      | cons e L => rw [hL] at this; dsimp only at this; rwa [if_pos hf] at this
    · refine ⟨fun q => absurd q hf, fun _ => ⟨y.2.1, c.1.1, c.1.2, pt.2.1, s91 g y.2.2 y.2.1 pt.2 gd.2 en.1 en.2 d ha (by omega) (fun el h1 f1 => ⟨fun q => absurd rfl q, fun _ => zq1 ?_⟩) (fun e L el h1 fs f1 => ⟨fun _ => ?_, fun q => absurd (by omega) q⟩)⟩⟩
      · have := k h1 f1
        rw [el] at this
        exact this
      · have kk := k h1 f1
        rw [el] at kk
        unfold aHl at kk
        dsimp only at kk
        rw [if_neg hf] at kk
        have vd := wAl_v g en.1 en.2 d el
        have h0 := held_0 (l := l) en.1 en.2 vd (by omega) (by rw [Int.zero_add]; exact hf)
        rw [Int.zero_add] at h0
        have fi := fs _ h0.1 h0.2.1
        refine ⟨fun q => ⟨by omega, by omega, zq1 ?_⟩, fun q => cI (k93_0 _ h1 _ ⟨by omega, by omega, fun q1 => ⟨by omega, by omega, ⟨_, rfl, zq1 ?_⟩⟩, fun q1 => ⟨-1, rfl, zq1 ?_⟩⟩)⟩
        · rw [if_pos (by omega)] at kk
          rw [fi.2.2.1]; exact kk
        · rw [fi.2.2.1] at q1
          rw [if_neg (by omega), if_neg q1] at kk
          rw [fi.1]; exact kk
        · rw [fi.2.2.1] at q1
          rw [if_neg (by omega), if_pos (Classical.not_not.1 q1)] at kk
          exact kk
theorem s15 (g : sF t n nd nc T C) (y : xU h a t n nd nc T C) (ha : a + 16 ≤ 56 ∨ 63 ≤ a) (o : slO rn rt rs) (u : xRu h 53 rn rt rs) {x i : Int} {K : Int → zH → Prop} (k : ∀ h1, frX fiA fiR h h1 → K (aFnd t nd T rn rt rs x i) h1) : zC1 15 [vR 2 100, vI x, vI i] h K := by
  have hnd := g.hd
  unfold aFnd at k
  refine cI (k15_0 x i h _ (s31 u ⟨fun c => zq1 ?_, fun c => ⟨fun d => ?_, fun d => zq1 ?_⟩⟩))
  · rw [b2i_eq0] at c
    have := k h frX.rf
    rwa [b2i_neg (fun d => c d.1), if_neg (by omega)] at this
  · rw [b2i_ne0] at c
    rw [b2i_pos ⟨c, d⟩, if_pos rfl] at k
    have key : ∀ (f : Nat) (z q : Int) (h1 : zH), nd - z = f → 0 ≤ z → 0 ≤ q → q ≤ z → frX fiA fiR h h1 → (∀ h2, frX fiA fiR h h2 → K (fnd (fun v => fit t T rn rt rs x v) i f z q) h2) → zK 15 20 [vR 2 100, vI x, vI i, vI q, vI z] [] h1 (fun r h1 => ∃ v : Int, r = some (Sum.inl v) ∧ K v h1) := by
      intro f
      induction f with
      | zero =>
        intro z q h1 hz z0 q0 q1 f1 kk
        have kk := kk h1 f1
        rw [fnd] at kk
        have y1 := y.fx f1 (fiA_d ha) (by unfold fiR; omega)
        refine k15_20 x i q z h1 _ ?_
        rw [y1.1, y1.2.2.2.1]
        refine ⟨y1.2.1, fun _ => ⟨fun e => zq1 ?_, fun e => zq1 ?_⟩, fun e => absurd (by omega) e⟩
        · rwa [if_neg e] at kk
        · rwa [if_pos (Classical.not_not.1 e)] at kk
      | succ f ih =>
        intro z q h1 hz z0 q0 q1 f1 kk
        rw [fnd] at kk
        have y1 := y.fx f1 (fiA_d ha) (by unfold fiR; omega)
        have u1 : xRu h1 53 rn rt rs := u.fx f1 (fun b k _ _ => by unfold fiA; omega) (fun k _ _ => by unfold fiR; omega)
        have pt := u1.pt o c.1 c.2
        refine k15_20 x i q z h1 _ ?_
        rw [y1.1, y1.2.2.2.1]
        refine ⟨y1.2.1, fun e => absurd e (by omega), fun _ => ⟨y1.2.1, c.1.1, c.1.2, pt.2.1, s91b g y1.2.2 y1.2.1 ha o u1 c ⟨z0, by omega⟩ (fun h2 f2 => ⟨fun e => ⟨by unfold inR; omega, ?_⟩, fun e => ⟨fun e1 => ⟨by unfold inR; omega, by unfold inR; omega, ?_⟩, fun e1 => zq1 ?_⟩⟩)⟩⟩
        · rw [b2i_eq0] at e
          rw [b2i_neg e, if_neg (by omega)] at kk
          exact ih (z + 1) q h2 (by omega) (by omega) q0 (by omega) (f1.tr f2) kk
        · rw [b2i_ne0] at e
          rw [b2i_pos e, if_pos rfl, if_neg e1] at kk
          exact ih (z + 1) (q + 1) h2 (by omega) (by omega) (by omega) (by omega) (f1.tr f2) kk
        · rw [b2i_ne0] at e
          rw [b2i_pos e, if_pos rfl, if_pos (Classical.not_not.1 e1)] at kk
          exact kk h2 (f1.tr f2)
    exact key nd.toNat 0 0 h (by omega) (by omega) (by omega) (by omega) frX.rf k
  · have := k h frX.rf
    rwa [b2i_neg (fun e => d e.2), if_neg (by omega)] at this
theorem s16 (g : sF t n nd nc T C) (y : xU h a t n nd nc T C) (ha : a + 16 ≤ 56 ∨ 63 ≤ a) (o : slO rn rt rs) (u : xRu h 53 rn rt rs) {v : Int} {K : Int → zH → Prop} (k : ∀ h1, frX fiA fiR h h1 → K (aRul t nd T rn rt rs v) h1) : zC1 16 [vR 2 100, vI v] h K := by
  unfold aRul at k
  refine cI (k16_0 v h _ (s30 y ⟨fun c => zq1 ?_, fun c => ?_⟩))
  · rw [b2i_eq0] at c
    have := k h frX.rf
    rwa [b2i_neg c, if_neg (by omega)] at this
  · rw [b2i_ne0] at c
    rw [b2i_pos c, if_pos rfl] at k
    rw [y.1]
    exact ⟨y.2.1, s92 g y.2.2 y.2.1 ha o u c (by omega) (fun h1 f1 => zq1 (k h1 f1))⟩
end XY
