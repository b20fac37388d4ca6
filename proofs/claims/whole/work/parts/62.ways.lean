/-! ways, held, found, rulesOf: the same answers. -/
theorem iOr0 {x : Int} (h : 0 ≤ x ∧ x < 2147483648) : iOr x 0 = x := by
  have := iOrN (x := x.toNat) (y := 0) (by omega) (by omega)
  rw [show ((x.toNat : Nat) : Int) = x by omega, show ((0 : Nat) : Int) = 0 from rfl] at this
  rw [this, Nat.or_zero]
  omega
/-- what the rules in their slots are held against -/
def fit (t : Int → Int) (T : pT) (rn : Int → Int) (rt : Int → Int → Int) (rs : Int → pS) (x v : Int) : Prop := ((0 ≤ x ∧ x < 8) ∧ ¬ rn x = 0) ∧ ¬ wAl t (rt x) T (sP rn rt rs x) 0 v = []
noncomputable def bts (P : Int → Prop) : Nat → Int → Int → Int
  | 0, _, a => a
  | k + 1, i, a => bts P k (i + 1) (if b2i (P i) = 1 then iOr a (iShl 1 i) else a)
noncomputable def fnd (P : Int → Prop) (g : Int) : Nat → Int → Int → Int
  | 0, _, c => if g = -1 then c else -1
  | k + 1, v, c => if b2i (P v) = 1 then (if c = g then v else fnd P g k (v + 1) (c + 1)) else fnd P g k (v + 1) c
theorem b2i_1 {p : Prop} : b2i p = 1 ↔ p := by
  by_cases h : p
  · rw [b2i_pos h]; simp [h]
  · rw [b2i_neg h]; simp [h]
section WV
variable {t w : Int → Int} {n nd nc m bs v : Int} {T C : pT} {s : pS}
/-- what is found is there -/
theorem Wm_v (g : sF t n nd nc T C) (x : rEn w m 0 0 s) (b : bsI s 0 bs) (hv : 0 ≤ v ∧ v < nd) : ∀ (f : Nat) (j : Int) (st : fZ), bs + s 1 bs 9 - j = f → bs ≤ j → fVd nd T s bs st j → ∀ e, e ∈ Wm t w T s bs v f j st → fVd nd T s bs e (bs + s 1 bs 9) := by
  have b1 := b.1
  have sp := x.sp b.1 b.2.1
  intro f
  induction f with
  | zero =>
    intro j st ef j0 vd e he
    have he : e ∈ [st] := he
    rw [List.mem_singleton] at he
    subst he
    rw [show bs + s 1 bs 9 = j by omega]
    exact vd
  | succ f ih =>
    intro j st ef j0 vd e he
    have vs := fVs_of g x b hv vd j0 (by omega)
    have go : ∀ st', fVd nd T s bs st' (j + 1) → e ∈ Nm t w T s bs v f j st' → fVd nd T s bs e (bs + s 1 bs 9) := by
      intro st' vd' hm
      unfold Nm at hm
      split at hm
      · exact ih (j + 1) st' (by omega) (by omega) vd' e hm
      · cases hm
    rw [Wm_s] at he
    by_cases c5 : s 1 j 0 = 5
    · rw [if_pos c5] at he
      obtain ⟨c, hc, hm⟩ := List.mem_flatMap.1 he
      have hc := List.mem_range.1 hc
      have jb : bs < j := by
        have : ¬ j = bs := fun c => b.2.2 (c ▸ c5)
        omega
      exact go _ (fVd_W x b vd vs jb (by omega) c5 (by omega)) hm
    · rw [if_neg c5] at he
      by_cases cr : fR T s bs st j < 1
      · rw [if_pos cr] at he; cases he
      · rw [if_neg cr] at he
        have va := vs.2.2.1 (by omega)
        have sz := g.sz va.1 va.2
        by_cases c2 : s 1 j 0 = 2
        · rw [if_pos c2] at he
          obtain ⟨c, hc, hm⟩ := List.mem_flatMap.1 he
          have hc := List.mem_range.1 hc
          exact go _ (fVd_O g x b vd vs j0 (by omega) c5 cr (by omega) (fun d => absurd c2 d)) hm
        · rw [if_neg c2] at he
          split at he
          · exact go _ (fVd_O g x b vd vs j0 (by omega) c5 cr (d := 0) (by omega) (fun _ => rfl)) he
          · cases he
theorem wAl_v (g : sF t n nd nc T C) (x : rEn w m 0 0 s) (b : bsI s 0 bs) (hv : 0 ≤ v ∧ v < nd) {e : fZ} {L : List fZ} (h : wAl t w T s bs v = e :: L) : fVd nd T s bs e (bs + s 1 bs 9) := by
  have sp := x.sp b.1 b.2.1
  refine Wm_v g x b hv (s 1 bs 9).toNat bs (fun _ _ => 0) (by omega) (by omega) fVd_0 e ?_
  show e ∈ wAl t w T s bs v
  rw [h]; simp
/-- a letter that stands holds something, or nothing -/
theorem held_0 (x : rEn w m 0 0 s) (b : bsI s 0 bs) {e : fZ} (vd : fVd nd T s bs e (bs + s 1 bs 9)) {l : Int} (hl : 0 ≤ l) (hf : ¬ hF s bs l (bs + s 1 bs 9) = -1) : bs ≤ hF s bs l (bs + s 1 bs 9) ∧ hF s bs l (bs + s 1 bs 9) < bs + s 1 bs 9 ∧ 0 ≤ e 2 (hF s bs l (bs + s 1 bs 9)) := by
  have b1 := b.1
  have sp := x.sp b.1 b.2.1
  rcases hF_rg (s := s) (bs := bs) (l := l) (show bs ≤ bs + s 1 bs 9 by omega) with q | q
  · exact absurd q hf
  generalize hF s bs l (bs + s 1 bs 9) = y at *
  refine ⟨q.1, q.2.1, ?_⟩
  have ct := x.ct (j := y) (by omega) (by omega)
  by_cases c5 : s 1 y 0 = 5
  · have ro := x.ro (y := y) (by omega) (by omega) c5
    have jb : bs < y := by
      have : ¬ y = bs := fun c => b.2.2 (c ▸ c5)
      omega
    exact ((vd y q.1 q.2.1).2 jb ro.2).2.1
  · have := (vd y q.1 q.2.1).1 c5
    omega
end WV
noncomputable def aWays (t : Int → Int) (nd : Int) (T : pT) (rn : Int → Int) (rt : Int → Int → Int) (rs : Int → pS) (x v : Int) : Int := if b2i (((0 ≤ x ∧ x < 8) ∧ ¬ rn x = 0) ∧ 0 ≤ v ∧ v < nd) = 1 then (if (wAl t (rt x) T (sP rn rt rs x) 0 v).length ≤ 500 then ((wAl t (rt x) T (sP rn rt rs x) 0 v).length : Nat) else 500) else -1
noncomputable def aHl (s : pS) (L : List fZ) (l w : Int) : Int := match L with
  | [] => -1
  | e :: _ => if hF s 0 l (s 1 0 9) = -1 then -1 else if w = 1 then e 2 (hF s 0 l (s 1 0 9)) else if e 2 (hF s 0 l (s 1 0 9)) = 0 then -1 else e 0 (hF s 0 l (s 1 0 9))
noncomputable def aHeld (t : Int → Int) (nd : Int) (T : pT) (rn : Int → Int) (rt : Int → Int → Int) (rs : Int → pS) (x v l w : Int) : Int := if b2i ((((0 ≤ x ∧ x < 8) ∧ ¬ rn x = 0) ∧ 0 ≤ v ∧ v < nd) ∧ (0 ≤ l ∧ l ≤ 25) ∧ 0 ≤ w ∧ w ≤ 1) = 1 then aHl (sP rn rt rs x) (wAl t (rt x) T (sP rn rt rs x) 0 v) l w else -1
noncomputable def aFnd (t : Int → Int) (nd : Int) (T : pT) (rn : Int → Int) (rt : Int → Int → Int) (rs : Int → pS) (x i : Int) : Int := if b2i (((0 ≤ x ∧ x < 8) ∧ ¬ rn x = 0) ∧ -1 ≤ i) = 1 then fnd (fun v => fit t T rn rt rs x v) i nd.toNat 0 0 else -1
noncomputable def aRul (t : Int → Int) (nd : Int) (T : pT) (rn : Int → Int) (rt : Int → Int → Int) (rs : Int → pS) (v : Int) : Int := if b2i (0 ≤ v ∧ v < nd) = 1 then bts (fun x => fit t T rn rt rs x v) 8 0 0 else -1
/-! The model. -/
section MV
variable {h : zH} {t : Int → Int} {n nd nc : Int} {T C : pT} {rn : Int → Int} {rt : Int → Int → Int} {rs : Int → pS}
def gWC (b : Nat) (k : Int) : Prop := gWB b k ∨ (b = 127 ∧ k = 0)
theorem mN.B {h1 : zH} (y : mN h t n nd nc T C) (g : sF t n nd nc T C) (f : frP gWC h h1) : mN h1 t n nd nc T C := y.fr g.hn f (fun k _ _ => by unfold gWC gWB gWA; omega) (by unfold gWC gWB gWA; omega) (fun k => by unfold gWC gWB gWA; omega)
theorem mRu.B {h1 : zH} (u : mRu h rn rt rs) (o : slO rn rt rs) (f : frP gWC h h1) : mRu h1 rn rt rs := u.fr o f (fun k _ => by unfold gWC gWB gWA; omega) (fun k => by unfold gWC gWB gWA; omega)
theorem gWC_B {h1 : zH} (f : frP gWB h h1) : frP gWC h h1 := f.mo (fun b k q => Or.inl q)
theorem s191 (g : sF t n nd nc T C) (y : mN h t n nd nc T C) (o : slO rn rt rs) (u : mRu h rn rt rs) {x v : Int} (hv : 0 ≤ v ∧ v < nd) {K : Int → zH → Prop} (k0 : ¬ fit t T rn rt rs x v → ∀ h1, frP gWB h h1 → K 0 h1) (k1 : ((0 ≤ x ∧ x < 8) ∧ ¬ rn x = 0) → ∀ e L, wAl t (rt x) T (sP rn rt rs x) 0 v = e :: L → ∀ h1, frP gWB h h1 → mIh h1 (sP rn rt rs x) 0 e (sP rn rt rs x 1 0 9) → K 1 h1) : zC1 191 [vR 127 111, vI x, vI v] h K := by
  refine cI (k191_0 x v h _ (s143 o u ⟨fun c => ⟨Or.inl rfl, zq1 (k0 (fun d => ?_) h frP.rf)⟩, fun c => ?_⟩))
  · rw [b2i_eq0] at c; exact c d.1
  · rw [b2i_ne0] at c
    have gd := o.gd c.1 c.2
    have en := gd.1.en
    have rt0 := en.1.rt
    have := s190 (bs := 0) (K := fun v4 h4 => (v4 = 0 → ((0 : Int) = 0 ∨ (0 : Int) = 1) ∧ ∃ v' : Int, (some (vI 0) : Option zV) = some (Sum.inl v') ∧ K v' h4) ∧ (¬ (v4 = 0) → ((1 : Int) = 0 ∨ (1 : Int) = 1) ∧ ∃ v' : Int, (some (vI 1) : Option zV) = some (Sum.inl v') ∧ K v' h4)) g en.1 en.2 hv y (u.pt o c.1 c.2) gd.2.2.1
      (fun e h1 f1 => ⟨fun _ => ⟨Or.inl rfl, zq1 (k0 (fun d => d.2 e) h1 f1)⟩, fun d => absurd rfl d⟩)
      (fun st L' e h1 f1 i => ⟨fun d => absurd d (by omega), fun _ => ⟨Or.inr rfl, zq1 (k1 c st L' e h1 f1 (by rw [Int.zero_add] at i; exact i))⟩⟩)
    rw [rt0.2.2.2] at this
    exact this
theorem s191b (g : sF t n nd nc T C) (y : mN h t n nd nc T C) (o : slO rn rt rs) (u : mRu h rn rt rs) {x v : Int} (hv : 0 ≤ v ∧ v < nd) {K : Int → zH → Prop} (k : ∀ h1, frP gWB h h1 → K (b2i (fit t T rn rt rs x v)) h1) : zC1 191 [vR 127 111, vI x, vI v] h K :=
  s191 g y o u hv (fun c h1 f1 => by have := k h1 f1; rwa [b2i_neg c] at this) (fun c e L el h1 f1 _ => by have := k h1 f1; rwa [b2i_pos ⟨c, by rw [el]; simp⟩] at this)
theorem s192 (g : sF t n nd nc T C) (y : mN h t n nd nc T C) (o : slO rn rt rs) (u : mRu h rn rt rs) {x v : Int} {K : Int → zH → Prop} (k : ∀ h1, frP gWC h h1 → K (aWays t nd T rn rt rs x v) h1) : zC1 192 [vR 127 111, vI x, vI v] h K := by
  refine cI (k192_0 x v h _ (fun h8 e8 => ?_))
  have f8 : frP gWC h h8 := by rw [e8]; exact frP.rf.st (Or.inr ⟨rfl, rfl⟩)
  have y8 := y.B g f8
  have u8 := u.B o f8
  unfold aWays at k
  refine s143 o u8 ⟨fun c => zq1 ?_, fun c => s157 g y8.2.1 ⟨fun d => ?_, fun d => zq1 ?_⟩⟩
  · rw [b2i_eq0] at c
    have := k h8 f8
    rwa [b2i_neg (fun d => c d.1), if_neg (by omega)] at this
  · rw [b2i_ne0] at c d
    have gd := o.gd c.1 c.2
    have en := gd.1.en
    rw [b2i_pos ⟨c, d⟩, if_pos rfl] at k
    refine s189 (fun h9 f9 c9 => ?_)
    have F9 : frP gWC h h9 := f8.tr (f9.mo (fun b k q => Or.inl (Or.inr q)))
    refine s192l g en.1 en.2 d (y.B g F9) ((u.B o F9).pt o c.1 c.2) gd.2.2.1 (enm_all _ _ _) rfl 0 h9 (fun h2 f2 => zq1 ?_) frP.rf c9 (fun i => by omega) (by omega)
    rw [Nat.zero_add]
    exact k h2 (F9.tr (gWC_B f2))
  · have d : ¬ (0 ≤ v ∧ v < nd) := fun e => d (b2i_ne0.2 e)
    have := k h8 f8
    rwa [b2i_neg (fun e => d e.2), if_neg (by omega)] at this
theorem s193 (g : sF t n nd nc T C) (y : mN h t n nd nc T C) (o : slO rn rt rs) (u : mRu h rn rt rs) {x v l w : Int} {K : Int → zH → Prop} (k : ∀ h1, frP gWC h h1 → K (aHeld t nd T rn rt rs x v l w) h1) : zC1 193 [vR 127 111, vI x, vI v, vI l, vI w] h K := by
  refine cI (k193_0 x v l w h _ (fun h8 e8 => ?_))
  have f8 : frP gWC h h8 := by rw [e8]; exact frP.rf.st (Or.inr ⟨rfl, rfl⟩)
  have y8 := y.B g f8
  have u8 := u.B o f8
  unfold aHeld at k
  have no : ¬ ((((0 ≤ x ∧ x < 8) ∧ ¬ rn x = 0) ∧ 0 ≤ v ∧ v < nd) ∧ (0 ≤ l ∧ l ≤ 25) ∧ 0 ≤ w ∧ w ≤ 1) → ∀ h9, frP gWC h h9 → K (-1) h9 := fun c h9 f9 => by
    have := k h9 f9
    rwa [b2i_neg c, if_neg (by omega)] at this
  refine s157 g y8.2.1 ⟨fun c => zq1 ?_, fun c => s141 ⟨fun c1 => zq1 ?_, fun c1 => s141 ⟨fun c2 => zq1 ?_, fun c2 => ?_⟩⟩⟩
  · rw [b2i_eq0] at c; exact no (fun d => c d.1.2) h8 f8
  · rw [b2i_eq0] at c1; exact no (fun d => c1 d.2.1) h8 f8
  · rw [b2i_eq0] at c2; exact no (fun d => c2 d.2.2) h8 f8
  · rw [b2i_ne0] at c c1 c2
    refine s191 g y8 o u8 c (fun nf h9 f9 => ⟨fun _ => zq1 ?_, fun d => absurd rfl d⟩) (fun cx e L el h9 f9 ih => ⟨fun d => absurd d (by omega), fun _ => ?_⟩)
    · have kk := k h9 (f8.tr (gWC_B f9))
      by_cases cx : (0 ≤ x ∧ x < 8) ∧ ¬ rn x = 0
      · rw [b2i_pos ⟨⟨cx, c⟩, c1, c2⟩, if_pos rfl] at kk
        have e0 : wAl t (rt x) T (sP rn rt rs x) 0 v = [] := Classical.byContradiction (fun d => nf ⟨cx, d⟩)
        rw [e0] at kk
        exact kk
      · exact no (fun d => cx d.1.1) h9 (f8.tr (gWC_B f9))
    · have kk := k h9 (f8.tr (gWC_B f9))
      rw [b2i_pos ⟨⟨cx, c⟩, c1, c2⟩, if_pos rfl, el] at kk
      have gd := o.gd cx.1 cx.2
      have en := gd.1.en
      have vd := wAl_v g en.1 en.2 c el
      have hl := ih l c1.1 (by omega)
      generalize sP rn rt rs x = s at *
      unfold aHl at kk
      dsimp only at kk
      by_cases hf : hF s 0 l (s 1 0 9) = -1
      · rw [hl.1 hf]
        rw [if_pos hf] at kk
        exact ⟨by omega, by omega, fun d => absurd rfl d, fun _ => zq1 kk⟩
      · have h0 := held_0 (l := l) en.1 en.2 vd c1.1 (by rw [Int.zero_add]; exact hf)
        rw [Int.zero_add] at h0
        rw [if_neg hf] at kk
        have hl := hl.2 hf
        rw [hl.1, hl.2]
        refine ⟨by omega, by omega, fun _ => ⟨fun d => ⟨by omega, by omega, fun d1 => ⟨by omega, by omega, zq1 ?_⟩, fun d1 => zq1 ?_⟩, fun d => ⟨by omega, by omega, zq1 ?_⟩⟩, fun d => by omega⟩
        · rw [if_neg d, if_neg d1] at kk; exact kk
        · rw [if_neg d, if_pos (Classical.not_not.1 d1)] at kk; exact kk
        · rw [if_pos (Classical.not_not.1 d)] at kk; exact kk
theorem s194 (g : sF t n nd nc T C) (y : mN h t n nd nc T C) (o : slO rn rt rs) (u : mRu h rn rt rs) {x i : Int} {K : Int → zH → Prop} (k : ∀ h1, frP gWC h h1 → K (aFnd t nd T rn rt rs x i) h1) : zC1 194 [vR 127 111, vI x, vI i] h K := by
  have hnd := g.hd
  refine cI (k194_0 x i h _ (fun h8 e8 => ?_))
  have f8 : frP gWC h h8 := by rw [e8]; exact frP.rf.st (Or.inr ⟨rfl, rfl⟩)
  unfold aFnd at k
  refine s143 o (u.B o f8) ⟨fun c => zq1 ?_, fun c => ⟨fun d => ?_, fun d => zq1 ?_⟩⟩
  · rw [b2i_eq0] at c
    have := k h8 f8
    rwa [b2i_neg (fun d => c d.1), if_neg (by omega)] at this
  · rw [b2i_ne0] at c
    rw [b2i_pos ⟨c, d⟩, if_pos rfl] at k
    have key : ∀ (f : Nat) (z q : Int) (h1 : zH), nd - z = f → 0 ≤ z → 0 ≤ q → q ≤ z → frP gWC h h1 → (∀ h2, frP gWC h h2 → K (fnd (fun v => fit t T rn rt rs x v) i f z q) h2) → zK 194 25 [vR 127 111, vI x, vI i, vI q, vI z] [] h1 (fun r h1 => ∃ v : Int, r = some (Sum.inl v) ∧ K v h1) := by
      intro f
      induction f with
      | zero =>
        intro z q h1 hz z0 q0 q1 f1 kk
        have kk := kk h1 f1
        rw [fnd] at kk
        refine k194_25 x i q z h1 _ ?_
        rw [(y.B g f1).2.1]
        refine ⟨fun _ => ⟨fun e => zq1 ?_, fun e => zq1 ?_⟩, fun e => absurd (by omega) e⟩
        · rwa [if_neg e] at kk
        · rwa [if_pos (Classical.not_not.1 e)] at kk
      | succ f ih =>
        intro z q h1 hz z0 q0 q1 f1 kk
        rw [fnd] at kk
        refine k194_25 x i q z h1 _ ?_
        rw [(y.B g f1).2.1]
        refine ⟨fun e => absurd e (by omega), fun _ => s191b g (y.B g f1) o (u.B o f1) ⟨z0, by omega⟩ (fun h2 f2 => ⟨fun e => ⟨by unfold inR; omega, ?_⟩, fun e => ⟨fun e1 => ⟨by unfold inR; omega, by unfold inR; omega, ?_⟩, fun e1 => zq1 ?_⟩⟩)⟩
        · rw [b2i_eq0] at e
          rw [b2i_neg e, if_neg (by omega)] at kk
          exact ih (z + 1) q h2 (by omega) (by omega) q0 (by omega) (f1.tr (gWC_B f2)) kk
        · rw [b2i_ne0] at e
          rw [b2i_pos e, if_pos rfl, if_neg e1] at kk
          exact ih (z + 1) (q + 1) h2 (by omega) (by omega) (by omega) (by omega) (f1.tr (gWC_B f2)) kk
        · rw [b2i_ne0] at e
          rw [b2i_pos e, if_pos rfl, if_pos (Classical.not_not.1 e1)] at kk
          exact kk h2 (f1.tr (gWC_B f2))
    exact key nd.toNat 0 0 h8 (by omega) (by omega) (by omega) (by omega) f8 k
  · have := k h8 f8
    rwa [b2i_neg (fun e => d e.2), if_neg (by omega)] at this
theorem s195 (g : sF t n nd nc T C) (y : mN h t n nd nc T C) (o : slO rn rt rs) (u : mRu h rn rt rs) {v : Int} (hv : 0 ≤ v ∧ v < nd) {K : Int → zH → Prop} (k : ∀ h1, frP gWB h h1 → K (bts (fun x => fit t T rn rt rs x v) 8 0 0) h1) : zC1 195 [vR 127 111, vI v] h K := by
  have key : ∀ (f : Nat) (z q : Int) (P : Int → Prop) (h1 : zH), 8 - z = f → 0 ≤ z → bO q P → frP gWB h h1 → (∀ h2, frP gWB h h2 → K (bts (fun x => fit t T rn rt rs x v) f z q) h2) → zK 195 4 [vR 127 111, vI v, vI q, vI z] [] h1 (fun r h1 => ∃ v : Int, r = some (Sum.inl v) ∧ K v h1) := by
    intro f
    induction f with
    | zero =>
      intro z q P h1 hz z0 bq f1 kk
      exact k195_4 v q z h1 _ ⟨fun _ => zq1 (kk h1 f1), fun e => absurd (by omega) e⟩
    | succ f ih =>
      intro z q P h1 hz z0 bq f1 kk
      rw [bts] at kk
      have F1 := gWC_B f1
      refine k195_4 v q z h1 _ ⟨fun e => absurd e (by omega), fun _ => s191b g (y.B g F1) o (u.B o F1) hv (fun h2 f2 => ⟨fun e => ⟨by unfold inR; omega, ?_⟩, fun e => ⟨by unfold inR; omega, ?_⟩⟩)⟩
      · rw [b2i_eq0] at e
        rw [b2i_neg e, if_neg (by omega)] at kk
        rw [iOr0 (by obtain ⟨N, e, hN, _⟩ := bq; omega)]
        exact ih (z + 1) q P h2 (by omega) (by omega) bq (f1.tr f2) kk
      · rw [b2i_ne0] at e
        rw [b2i_pos e, if_pos rfl] at kk
        exact ih (z + 1) _ (fun m => P m ∨ m = z) h2 (by omega) (by omega) (bO_or bq (by omega) (fun m => Iff.rfl)) (f1.tr f2) kk
  exact cI (k195_0 v h _ (key 8 0 0 (fun _ => False) h (by omega) (by omega) ⟨0, rfl, by omega, fun l _ => by simp⟩ frP.rf k))
theorem s196 (g : sF t n nd nc T C) (y : mN h t n nd nc T C) (o : slO rn rt rs) (u : mRu h rn rt rs) {v : Int} {K : Int → zH → Prop} (k : ∀ h1, frP gWC h h1 → K (aRul t nd T rn rt rs v) h1) : zC1 196 [vR 127 111, vI v] h K := by
  refine cI (k196_0 v h _ (fun h8 e8 => ?_))
  have f8 : frP gWC h h8 := by rw [e8]; exact frP.rf.st (Or.inr ⟨rfl, rfl⟩)
  have y8 := y.B g f8
  have u8 := u.B o f8
  unfold aRul at k
  refine s157 g y8.2.1 ⟨fun c => zq1 ?_, fun c => ?_⟩
  · rw [b2i_eq0] at c
    have := k h8 f8
    rwa [b2i_neg c, if_neg (by omega)] at this
  · rw [b2i_ne0] at c
    rw [b2i_pos c, if_pos rfl] at k
    exact s195 g y8 o u8 c (fun h1 f1 => zq1 (k h1 (f8.tr (gWC_B f1))))
end MV
