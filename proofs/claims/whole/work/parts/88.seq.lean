/-! Sources by their texts; a walk that is applied, again and again. -/
abbrev qS : Type := (Int → Int) × Int
noncomputable abbrev qN (S : qS) : Int := (pread S.1 S.2).2.2.1
noncomputable abbrev qC (S : qS) : Int := (pread S.1 S.2).2.2.2.1
noncomputable abbrev qT (S : qS) : pT := (pread S.1 S.2).2.2.2.2.2.1
noncomputable abbrev qK (S : qS) : pT := (pread S.1 S.2).2.2.2.2.2.2
def sK (S : qS) : Prop := sF S.1 S.2 (qN S) (qC S) (qT S) (qK S)
def xQs (h : zH) (a : Nat) (S : qS) : Prop := xN h a S.1 S.2 (qN S) (qC S) (qT S) (qK S)
def yS (h : zH) (S : qS) : Prop := mN h S.1 S.2 (qN S) (qC S) (qT S) (qK S)
theorem sK_of {t : Int → Int} {n nd nc : Int} {T C : pT} (g : sF t n nd nc T C) : qN (t, n) = nd ∧ qC (t, n) = nc ∧ qT (t, n) = T ∧ qK (t, n) = C := by
  have e := g.2
  unfold qN qC qT qK
  dsimp only
  rw [e]
  exact ⟨rfl, rfl, rfl, rfl⟩
theorem sK_i {t : Int → Int} {n nd nc : Int} {T C : pT} (g : sF t n nd nc T C) : sK (t, n) := by
  obtain ⟨e1, e2, e3, e4⟩ := sK_of g
  unfold sK
  rw [e1, e2, e3, e4]; exact g
theorem xQs_i {h : zH} {a : Nat} {t : Int → Int} {n nd nc : Int} {T C : pT} (g : sF t n nd nc T C) (x : xN h a t n nd nc T C) : xQs h a (t, n) := by
  obtain ⟨e1, e2, e3, e4⟩ := sK_of g
  unfold xQs
  rw [e1, e2, e3, e4]; exact x
theorem yS_i {h : zH} {t : Int → Int} {n nd nc : Int} {T C : pT} (g : sF t n nd nc T C) (x : mN h t n nd nc T C) : yS h (t, n) := by
  obtain ⟨e1, e2, e3, e4⟩ := sK_of g
  unfold yS
  rw [e1, e2, e3, e4]; exact x
section SQ
variable (rn : Int → Int) (rt : Int → Int → Int) (rs : Int → pS) (w : Int)
noncomputable abbrev eW (S : qS) : List Int := eL (lsR S.1 (qT S) rn rt rs) (qT S) (qN S) w
noncomputable abbrev oW (S : qS) : List Int := apO S.1 S.2 (qN S) (qC S) (qT S) (qK S) rn rt rs w
abbrev kW (S : qS) : Prop := apK S.1 S.2 (qN S) (qC S) (qT S) (qK S) rn rt rs w
noncomputable def nW (S : qS) : qS := (txL (oW rn rt rs w S), ((oW rn rt rs w S).length : Int))
def cnW (S : qS) : Prop := ¬ eW rn rt rs w S = [] ∧ kW rn rt rs w S
noncomputable def sqS : Nat → qS → qS
  | 0, S => S
  | k + 1, S => sqS k (nW rn rt rs w S)
noncomputable def mny : Nat → qS → Nat
  | 0, _ => 0
  | f + 1, S => if b2i (cnW rn rt rs w S) = 1 then mny f (nW rn rt rs w S) + 1 else 0
end SQ
section SR
variable {rn : Int → Int} {rt : Int → Int → Int} {rs : Int → pS} {w : Int}
theorem nW_K {S : qS} (g : sK S) (o : slO rn rt rs) (k : kW rn rt rs w S) : sK (nW rn rt rs w S) := by
  have oc := apO_c (rn := rn) (rt := rt) (rs := rs) g o w
  have o2 := txL_ok k.1 oc
  exact sK_i (sF_of o2 k.2)
theorem sqS_s : ∀ (k : Nat) (S : qS), sqS rn rt rs w (k + 1) S = nW rn rt rs w (sqS rn rt rs w k S)
  | 0, _ => rfl
  | k + 1, S => by rw [sqS, sqS_s k]; rfl
theorem mny_y {f : Nat} {S : qS} (h : cnW rn rt rs w S) : mny rn rt rs w (f + 1) S = mny rn rt rs w f (nW rn rt rs w S) + 1 := by rw [mny, b2i_pos h, if_pos rfl]
theorem mny_n {f : Nat} {S : qS} (h : ¬ cnW rn rt rs w S) : mny rn rt rs w (f + 1) S = 0 := by rw [mny, b2i_neg h, if_neg (by omega)]
theorem mny_l : ∀ (f : Nat) (S : qS), mny rn rt rs w f S ≤ f
  | 0, _ => Nat.le_refl _
  | f + 1, S => by
    by_cases c : cnW rn rt rs w S
    · rw [mny_y c]; have := mny_l f (nW rn rt rs w S); omega
    · rw [mny_n c]; omega
/-- all that came is a source -/
theorem sqS_K {S : qS} (g : sK S) (o : slO rn rt rs) : ∀ (f : Nat) (S : qS), sK S → ∀ k, k ≤ mny rn rt rs w f S → sK (sqS rn rt rs w k S)
  | 0, S, g, k, hk => by
    have : k = 0 := by unfold mny at hk; omega
    rw [this]; exact g
  | f + 1, S, g, k, hk => by
    by_cases c : cnW rn rt rs w S
    · rw [mny_y c] at hk
      cases k with
      | zero => exact g
      | succ k => exact sqS_K g o f (nW rn rt rs w S) (nW_K g o c.2) k (by omega)
    · rw [mny_n c] at hk
      have : k = 0 := by omega
      rw [this]; exact g
/-- nothing fits: the text is as it was -/
theorem ap_nil {S : qS} (g : sK S) (e : eW rn rt rs w S = []) : oW rn rt rs w S = rowS S.1 S.2.toNat 0 ∧ nW rn rt rs w S = S ∧ kW rn rt rs w S := by
  have hn := g.hn
  have e1 : oW rn rt rs w S = rowS S.1 S.2.toNat 0 := by
    unfold oW apO
    rw [show eL (lsR S.1 (qT S) rn rt rs) (qT S) (qN S) w = [] from e, aps, wr_0]
    dsimp only
    rw [List.nil_append, show S.2 - 0 = S.2 by omega]
  have gd : ∀ (k : Nat) (p : Int) (i : Nat), i < k → (rowS S.1 k p).getD i 0 = S.1 (p + i) := by
    intro k
    induction k with
    | zero => intro p i hi; omega
    | succ k ih =>
      intro p i hi
      rw [rowS]
      cases i with
      | zero => simp
      | succ i =>
        rw [List.getD_cons_succ, ih (p + 1) i (by omega), show p + 1 + (i : Int) = p + ((i + 1 : Nat) : Int) by omega]
  have e2 : nW rn rt rs w S = S := by
    unfold nW
    rw [e1, rowS_l]
    refine Prod.ext ?_ ?_
    · funext i
      dsimp only
      unfold txL
      rw [rowS_l]
      by_cases c : 0 ≤ i ∧ i < ((S.2.toNat : Nat) : Int)
      · rw [if_pos c, gd _ _ _ (by omega), show (0 : Int) + ((i.toNat : Nat) : Int) = i by omega]
      · rw [if_neg c]
        exact ((g.1.2.2 i).2 (by omega)).symm
    · dsimp only; omega
  refine ⟨e1, e2, ?_⟩
  have l : (oW rn rt rs w S).length ≤ 300 := by rw [e1, rowS_l]; omega
  refine ⟨l, ?_⟩
  have : (pread (nW rn rt rs w S).1 (nW rn rt rs w S).2).1 = true := by rw [e2, g.2]
  exact this
end SR
section SS
variable {h : zH} {rn : Int → Int} {rt : Int → Int → Int} {rs : Int → pS} {w : Int} {a a2 : Nat} {S : qS}
theorem s40s (g : sK S) (y : xQs h a S) (ty : zty 102 a h) (ha : a + 16 ≤ 53) (ha2 : a2 + 16 ≤ 53) (l2 : ln h (a2 + 2) = 300) (l84 : ln h 84 = 300) (o : slO rn rt rs) (u : xRu h 53 rn rt rs) {K : Int → zH → Prop}
    (k0 : eW rn rt rs w S = [] → ∀ h1, frX xAA fiR h h1 → K 0 h1)
    (k1 : cnW rn rt rs w S → ∀ h1, frX (stA a2) fiR h h1 → xQs h1 a2 (nW rn rt rs w S) → K (eW rn rt rs w S).length h1)
    (k2 : ¬ eW rn rt rs w S = [] → ¬ kW rn rt rs w S → ∀ h1, frX (stA a2) fiR h h1 → K (-3) h1) : zC1 40 [vR 2 100, vR a 102, vR a2 102, vI w] h K :=
  s40 g y ty ha ha2 l2 l84 o u k0 (fun ne ak nd2 nc2 T2 C2 g2 h1 f1 x1 => k1 ⟨ne, ak⟩ h1 f1 (xQs_i g2 x1)) k2
noncomputable def aWld (rn : Int → Int) (rt : Int → Int → Int) (rs : Int → pS) (S : qS) (w q : Int) : Int := if (w = 0 ∨ w = 1) ∧ 0 ≤ q ∧ q ≤ 2 then (if b2i (kW rn rt rs w S) = 1 then (if q = 0 then (nW rn rt rs w S).2 else if q = 1 then qN (nW rn rt rs w S) else qC (nW rn rt rs w S)) else -3) else -1
theorem s22 {q : Int} (W : xW h a a2) (g : sK S) (y : xQs h a S) (l84 : ln h 84 = 300) (o : slO rn rt rs) (u : xRu h 53 rn rt rs) {K : Int → zH → Prop} (k : ∀ h1, frX (stA a2) fiR h h1 → K (aWld rn rt rs S w q) h1) : zC1 22 [vR 2 100, vI w, vI q] h K := by
  obtain ⟨w1, w2, w3, w4, w5, w6, w7⟩ := W
  have rf : frX (stA a2) fiR h h := frX.rf
  unfold aWld at k
  refine cI (k22_0 w q h _ (s32 ⟨fun c => zq1 ?_, fun c => ⟨fun d => zq1 ?_, fun d => ⟨fun d1 => ?_, fun d1 => zq1 ?_⟩⟩⟩))
  · rw [b2i_eq0] at c
    have := k h rf
    rwa [if_neg (fun z => c z.1)] at this
  · have := k h rf
    rwa [if_neg (by omega)] at this
  · rw [b2i_ne0] at c
    rw [if_pos ⟨c, by omega, d1⟩] at k
    rw [w1, w2]
    refine ⟨w3, w4, s40s g y w3 (by omega) (by omega) w6 l84 o u (fun e h4 f4 => ⟨fun _ => ⟨fun z => absurd rfl z, fun _ => ?_⟩, fun z => absurd (by omega) z⟩) (fun cw h4 f4 x4 => ⟨fun _ => ⟨fun _ => ?_, fun z => ?_⟩, fun z => ?_⟩) (fun ne nk h4 f4 => ⟨fun z => absurd rfl z, fun _ => zq1 ?_⟩)⟩
    · have f4' : frX (stA a2) fiR h h4 := f4.mo (fun b k q => Or.inl q) (fun b k q => q)
      have ap := ap_nil g e
      rw [b2i_pos ap.2.2, if_pos rfl, ap.2.1] at k
      have y4 := y.fx f4 (fun b k _ _ => by unfold xAA; omega)
      have e1 : gR h4 2 1 = a := by rw [f4.2.1 _ _ (by unfold fiR; omega)]; exact w1
      rw [e1]
      refine ⟨by rw [f4.ty]; exact w3, k22_56 _ _ q _ _ a h4 _ ⟨fun z => ⟨fun z1 => zq1 ?_, fun z1 => zq1 ?_⟩, fun z => zq1 ?_⟩⟩
      · have := k h4 f4'
        rw [if_neg z, if_neg z1] at this
        rw [y4.2.2.1]; exact this
      · have := k h4 f4'
        rw [if_neg z, if_pos (Classical.not_not.1 z1)] at this
        rw [y4.2.1]; exact this
      · have := k h4 f4'
        rw [if_pos (Classical.not_not.1 z)] at this
        rw [y4.1.1]; exact this
    · rw [b2i_pos cw.2, if_pos rfl] at k
      have e2 : gR h4 2 2 = a2 := by rw [f4.2.1 _ _ (by unfold fiR; omega)]; exact w2
      rw [e2]
      refine ⟨by rw [f4.ty]; exact w4, k22_56 _ _ q _ _ a2 h4 _ ⟨fun z => ⟨fun z1 => zq1 ?_, fun z1 => zq1 ?_⟩, fun z => zq1 ?_⟩⟩
      · have := k h4 f4
        rw [if_neg z, if_neg z1] at this
        rw [x4.2.2.1]; exact this
      · have := k h4 f4
        rw [if_neg z, if_pos (Classical.not_not.1 z1)] at this
        rw [x4.2.1]; exact this
      · have := k h4 f4
        rw [if_pos (Classical.not_not.1 z)] at this
        rw [x4.1.1]; exact this
    · have := Classical.not_not.1 z
      exact absurd (List.length_eq_zero_iff.1 (by omega)) cw.1
    · have := Classical.not_not.1 z; omega
    · have := k h4 f4
      rwa [b2i_neg nk, if_neg (by omega)] at this
  · have := k h rf
    rwa [if_neg (by omega)] at this
noncomputable def aApp (rn : Int → Int) (rt : Int → Int → Int) (rs : Int → pS) (S : qS) (w : Int) : Int := if w = 0 ∨ w = 1 then (if (eW rn rt rs w S).length = 0 then 0 else if b2i (kW rn rt rs w S) = 1 then ((eW rn rt rs w S).length : Int) else -3) else -1
/-- what rounds may change -/
def xrA (b : Nat) (k : Int) : Prop := xAA b k ∨ (5 ≤ b ∧ b < 37) ∨ xpA b k
theorem stA_xr {a2 : Nat} (h : 5 ≤ a2 ∧ a2 + 16 ≤ 37) : ∀ b k, stA a2 b k → xrA b k := fun b k q => by
  rcases q with q | q
  · exact Or.inl q
  · exact Or.inr (Or.inl (by omega))
def xrR (b : Nat) (k : Int) : Prop := fiR b k ∨ (b = 2 ∧ (k = 1 ∨ k = 2))
theorem xPa.fx {P R : Nat → Int → Prop} {h1 : zH} {c : Int} {pt : Int → Int → Int} {pn : Int → Int} (x : xPa h c pt pn) (f : frX P R h h1) (d : ∀ b k, xpA b k → ¬ P b k) (d2 : ∀ b k, ¬ b = 2 → ¬ b = 56 → ¬ R b k) : xPa h1 c pt pn := by
  obtain ⟨x1, x2, x3, x4, x5, x6, x7⟩ := x
  have e0 : gI h1 87 0 = gI h 87 0 := f.1 _ _ (d _ _ (Or.inl ⟨rfl, Or.inl rfl⟩))
  have e1 : gI h1 87 1 = gI h 87 1 := f.1 _ _ (d _ _ (Or.inl ⟨rfl, Or.inr rfl⟩))
  refine ⟨fun j j0 j1 => ?_, by rw [e0]; exact x2, x3, x4, by rw [e1]; exact x5, by rw [e1]; exact x6, fun i i0 i1 => ⟨(x7 i i0 i1).1, ?_⟩⟩
  · have := x1 j j0 j1
    rw [f.2.1 _ _ (d2 _ _ (by omega) (by omega)), f.ty, f.le]; exact this
  · rw [e1]
    have r : 0 ≤ (gI h 87 1 + i) % 8 ∧ (gI h 87 1 + i) % 8 < 8 := by omega
    refine (x7 i i0 i1).2.fx f (fun k => ⟨d _ _ ?_, d _ _ ?_⟩)
    · unfold pad; right; omega
    · unfold pad; right; omega
theorem xW.fx {P R : Nat → Int → Prop} {h1 : zH} (x : xW h a a2) (f : frX P R h h1) (d : ¬ R 2 1 ∧ ¬ R 2 2) : xW h1 a a2 := by
  unfold xW; rw [f.2.1 _ _ d.1, f.2.1 _ _ d.2, f.ty, f.ty, f.le, f.le]; exact x
/-- now and spare are turned -/
theorem s37s {c : Int} {pt : Int → Int → Int} {pn : Int → Int} (W : xW h a a2) (y : xQs h a2 S) (p : xPa h c pt pn) {K : zH → Prop} (k : ∀ h1, frX (fun _ _ => False) (fun b k => b = 2 ∧ (k = 1 ∨ k = 2)) h h1 → xW h1 a2 a → xQs h1 a2 S → xPa h1 c pt pn → K h1) : zC0 37 [vR 2 100] h K := by
  have WW := W
  obtain ⟨w1, w2, w3, w4, w5, w6, w7⟩ := W
  refine s37 (by rw [w1]; exact w3) (by rw [w2]; exact w4) ?_
  rw [w1, w2]
  have f : frX (fun _ _ => False) (fun b k => b = 2 ∧ (k = 1 ∨ k = 2)) h (sR (sR h 2 1 a2) 2 2 a) := (frX.rf.sr ⟨rfl, Or.inl rfl⟩).sr ⟨rfl, Or.inr rfl⟩
  have r1 : gR (sR (sR h 2 1 a2) 2 2 a) 2 1 = a2 := by rw [gRR, if_neg (by omega), gRR, if_pos ⟨rfl, rfl⟩]
  have r2 : gR (sR (sR h 2 1 a2) 2 2 a) 2 2 = a := by rw [gRR, if_pos ⟨rfl, rfl⟩]
  refine k _ f ⟨r1, r2, by rw [f.ty]; exact w4, by rw [f.ty]; exact w3, by rw [f.le]; exact w6, by rw [f.le]; exact w5, by omega⟩ (y.fx f (fun b k _ _ q => q)) (p.fx f (fun b k _ q => q) (fun b k q1 q2 => by omega))
theorem s23 {c : Int} {pt : Int → Int → Int} {pn : Int → Int} (W : xW h a a2) (g : sK S) (y : xQs h a S) (l84 : ln h 84 = 300) (p : xPa h c pt pn) (o : slO rn rt rs) (u : xRu h 53 rn rt rs) {K : Int → zH → Prop}
    (k1 : (w = 0 ∨ w = 1) → cnW rn rt rs w S → ∀ h1, frX xrA xrR h h1 → xW h1 a2 a → xQs h1 a2 (nW rn rt rs w S) → xPa h1 (paN c) (paT c pt S.1) (paT c pn S.2) → K (aApp rn rt rs S w) h1)
    (k2 : ¬ ((w = 0 ∨ w = 1) ∧ cnW rn rt rs w S) → ∀ h1, frX (stA a2) fiR h h1 → K (aApp rn rt rs S w) h1) : zC1 23 [vR 2 100, vI w] h K := by
  have WW := W
  obtain ⟨w1, w2, w3, w4, w5, w6, w7⟩ := W
  unfold aApp at k1 k2
  refine cI (k23_0 w h _ (s32 ⟨fun c => ?_, fun c => zq1 ?_⟩))
  · rw [b2i_ne0] at c
    rw [if_pos c] at k1 k2
    rw [w1, w2]
    refine ⟨w3, w4, s40s g y w3 (by omega) (by omega) w6 l84 o u (fun e h4 f4 => ⟨fun _ => zq1 ?_, fun z => absurd (Int.le_refl _) z⟩) (fun cw h4 f4 x4 => ⟨fun z => ?_, fun _ => ?_⟩) (fun ne nk h4 f4 => ⟨fun _ => zq1 ?_, fun z => absurd (by omega) z⟩)⟩
    · have := k2 (fun z => z.2.1 e) h4 (f4.mo (fun b k q => Or.inl q) (fun b k q => q))
      rwa [if_pos (by rw [e]; rfl)] at this
    · exact absurd (List.length_eq_zero_iff.1 (by omega)) cw.1
    · have ln0 : ¬ (eW rn rt rs w S).length = 0 := fun z => cw.1 (List.length_eq_zero_iff.1 z)
      have k1 := k1 c cw
      rw [if_neg ln0, b2i_pos cw.2, if_pos rfl] at k1
      have W4 := WW.fx f4 (by unfold fiR; omega)
      have y4 : xQs h4 a S := y.fx f4 (fun b k _ _ => by unfold stA xAA; omega)
      have p4 := p.fx f4 (fun b k q => by unfold xpA at q; unfold stA xAA; omega) (fun b k q1 q2 => by unfold fiR; omega)
      rw [W4.1]
      refine ⟨W4.2.2.1, s135 p4 y4.1 g.1 (by omega) (fun h7 f7 p7 => s37s (W4.fr f7) (x4.fr f7 (fun b k _ _ => by unfold xpA; omega)) p7 (fun h8 f8 W8 x8 p8 => zq1 (k1 h8 ?_ W8 x8 p8)))⟩
      exact ((f4.mo (stA_xr (by omega)) (fun b k q => Or.inl q)).tr ((f7.x).mo (fun b k q => Or.inr (Or.inr q)) (fun b k q => q))).tr (f8.mo (fun b k q => q.elim) (fun b k q => Or.inr q))
    · have ln0 : ¬ (eW rn rt rs w S).length = 0 := fun z => ne (List.length_eq_zero_iff.1 z)
      have := k2 (fun z => nk z.2.2) h4 f4
      rwa [if_neg ln0, b2i_neg nk, if_neg (by omega)] at this
  · have c : ¬ (w = 0 ∨ w = 1) := fun d => c (by rw [b2i_ne0]; exact d)
    have := k2 (fun z => c z.1) h frX.rf
    rwa [if_neg c] at this
theorem s24 {c q : Int} {pt : Int → Int → Int} {pn : Int → Int} (W : xW h a a2) (g : sK S) (y : xQs h a S) (l84 : ln h 84 = 300) (p : xPa h c pt pn) (o : slO rn rt rs) (u : xRu h 53 rn rt rs) {K : Int → zH → Prop}
    (k1 : (w = 0 ∨ w = 1) → 1 ≤ q → q ≤ 6 → 0 < mny rn rt rs w q.toNat S → ∀ h1 b b2, frX xrA xrR h h1 → xW h1 b b2 → xQs h1 b (sqS rn rt rs w (mny rn rt rs w q.toNat S) S) → xPa h1 (paN c) (paT c pt S.1) (paT c pn S.2) → K (mny rn rt rs w q.toNat S) h1)
    (k2 : (w = 0 ∨ w = 1) → 1 ≤ q → q ≤ 6 → mny rn rt rs w q.toNat S = 0 → ∀ h1, frX (stA a2) fiR h h1 → K 0 h1)
    (k3 : ¬ ((w = 0 ∨ w = 1) ∧ 1 ≤ q ∧ q ≤ 6) → K (-1) h) : zC1 24 [vR 2 100, vI w, vI q] h K := by
  refine cI (k24_0 w q h _ (s32 ⟨fun d => zq1 (k3 (fun z => ?_)), fun d => ⟨fun d1 => zq1 (k3 (by omega)), fun d1 => ⟨fun d2 => ?_, fun d2 => zq1 (k3 (by omega))⟩⟩⟩))
  · rw [b2i_eq0] at d; exact d z.1
  · rw [b2i_ne0] at d
    have k1 := k1 d (by omega) d2
    have k2 := k2 d (by omega) d2
    -- from the first round on
    have key : ∀ (f j : Nat) (h1 : zH) (b b2 : Nat), (j : Int) + f = q → 1 ≤ j → frX xrA xrR h h1 → xW h1 b b2 → sK (sqS rn rt rs w j S) → xQs h1 b (sqS rn rt rs w j S) → xPa h1 (paN c) (paT c pt S.1) (paT c pn S.2) → mny rn rt rs w q.toNat S = j + mny rn rt rs w f (sqS rn rt rs w j S) → zK 24 22 [vR 2 100, vI w, vI q, vI (j : Nat)] [] h1 (fun r h1 => ∃ v : Int, r = some (Sum.inl v) ∧ K v h1) := by
      intro f
      induction f with
      | zero =>
        intro j h1 b b2 hj j1 f1 W1 g1 y1 p1 e
        have e : mny rn rt rs w q.toNat S = j := e
        refine k24_22 w q _ h1 _ ⟨fun _ => zq1 ?_, fun z => absurd (by omega) z⟩
        have := k1 (by omega) h1 b b2 f1 W1 (by rw [e]; exact y1) p1
        rw [e] at this
        rw [show q = (j : Nat) by omega]; exact this
      | succ f ih =>
        intro j h1 b b2 hj j1 f1 W1 g1 y1 p1 e
        have WW := W1
        obtain ⟨w1, w2, w3, w4, w5, w6, w7⟩ := W1
        have u1 : xRu h1 53 rn rt rs := u.fx f1 (fun b k _ _ => by unfold xrA xAA xpA; omega) (fun k _ _ => by unfold xrR fiR; omega)
        have stop : ¬ cnW rn rt rs w (sqS rn rt rs w j S) → ∀ h4, frX (stA b2) fiR h1 h4 → K (j : Nat) h4 := by
          intro nc h4 f4
          rw [mny_n nc, Nat.add_zero] at e
          have F4 : frX xrA xrR h h4 := f1.tr (f4.mo (stA_xr (by omega)) (fun b k q => Or.inl q))
          have := k1 (by omega) h4 b b2 F4 (WW.fx f4 (by unfold fiR; omega)) (by rw [e]; exact y1.fx f4 (fun b k _ _ => by unfold stA xAA; omega)) (p1.fx f4 (fun b k q => by unfold xpA at q; unfold stA xAA; omega) (fun b k q1 q2 => by unfold fiR; omega))
          rw [e] at this; exact this
        refine k24_22 w q _ h1 _ ⟨fun z => absurd z (by omega), fun _ => ?_⟩
        rw [w1, w2]
        refine ⟨w3, w4, s40s g1 y1 w3 (by omega) (by omega) w6 (by rw [f1.le]; exact l84) o u1 (fun e0 h4 f4 => ⟨fun z => absurd z (by omega), fun _ => zq1 (stop (fun z => z.1 e0) h4 (f4.mo (fun b k q => Or.inl q) (fun b k q => q)))⟩) (fun cw h4 f4 x4 => ⟨fun _ => ⟨fun _ => ?_, fun z => absurd (by omega) z⟩, fun z => absurd (by have := cw.1; have : ¬ (eW rn rt rs w (sqS rn rt rs w j S)).length = 0 := fun z => cw.1 (List.length_eq_zero_iff.1 z); omega) z⟩) (fun ne nk h4 f4 => ⟨fun z => absurd z (by omega), fun _ => zq1 (stop (fun z => nk z.2) h4 f4)⟩)⟩
        rw [mny_y cw] at e
        have F4 : frX xrA xrR h h4 := f1.tr (f4.mo (stA_xr (by omega)) (fun b k q => Or.inl q))
        refine s37s (WW.fx f4 (by unfold fiR; omega)) x4 (p1.fx f4 (fun b k q => by unfold xpA at q; unfold stA xAA; omega) (fun b k q1 q2 => by unfold fiR; omega)) (fun h8 f8 W8 x8 p8 => ⟨by unfold inR; omega, ?_⟩)
        have := ih (j + 1) h8 b2 b (by omega) (by omega) (F4.tr (f8.mo (fun b k q => q.elim) (fun b k q => Or.inr q))) W8 (by rw [sqS_s]; exact nW_K g1 o cw.2) (by rw [sqS_s]; exact x8) p8 (by rw [sqS_s]; omega)
        exact this
    have WW := W
    obtain ⟨w1, w2, w3, w4, w5, w6, w7⟩ := W
    obtain ⟨m, hm⟩ : ∃ m : Nat, q.toNat = m + 1 := ⟨q.toNat - 1, by omega⟩
    refine k24_22 w q 0 h _ ⟨fun z => absurd z (by omega), fun _ => ?_⟩
    rw [w1, w2]
    refine ⟨w3, w4, s40s g y w3 (by omega) (by omega) w6 l84 o u (fun e0 h4 f4 => ⟨fun z => absurd z (by omega), fun _ => zq1 (k2 (by rw [hm, mny_n (fun z => z.1 e0)]) h4 (f4.mo (fun b k q => Or.inl q) (fun b k q => q)))⟩) (fun cw h4 f4 x4 => ⟨fun _ => ⟨fun z => absurd rfl z, fun _ => ?_⟩, fun z => absurd (by have : ¬ (eW rn rt rs w S).length = 0 := fun z => cw.1 (List.length_eq_zero_iff.1 z); omega) z⟩) (fun ne nk h4 f4 => ⟨fun z => absurd z (by omega), fun _ => zq1 (k2 (by rw [hm, mny_n (fun z => nk z.2)]) h4 f4)⟩)⟩
    have W4 := WW.fx f4 (by unfold fiR; omega)
    have y4 : xQs h4 a S := y.fx f4 (fun b k _ _ => by unfold stA xAA; omega)
    have p4 := p.fx f4 (fun b k q => by unfold xpA at q; unfold stA xAA; omega) (fun b k q1 q2 => by unfold fiR; omega)
    rw [W4.1]
    refine ⟨W4.2.2.1, s135 p4 y4.1 g.1 (by omega) (fun h7 f7 p7 => s37s (W4.fr f7) (x4.fr f7 (fun b k _ _ => by unfold xpA; omega)) p7 (fun h8 f8 W8 x8 p8 => ⟨by unfold inR; omega, ?_⟩))⟩
    have := key m 1 h8 a2 a (by omega) (by omega) (((f4.mo (stA_xr (by omega)) (fun b k q => Or.inl q)).tr ((f7.x).mo (fun b k q => Or.inr (Or.inr q)) (fun b k q => q))).tr (f8.mo (fun b k q => q.elim) (fun b k q => Or.inr q))) W8 (nW_K g o cw.2) x8 p8 (by rw [hm, mny_y cw]; show _ = 1 + mny rn rt rs w m (nW rn rt rs w S); omega)
    exact this
end SS
