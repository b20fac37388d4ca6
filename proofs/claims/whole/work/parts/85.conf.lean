/-! edit, comes, conflicts: the same answers. -/
section EA
variable (t : Int → Int) (nd nc : Int) (T C : pT) (rn : Int → Int) (rt : Int → Int → Int) (rs : Int → pS)
noncomputable def aEdt (w i q : Int) : Int := if w = 0 ∨ w = 1 then (if i = -1 then (if q = 0 then ((eL (lsR t T rn rt rs) T nd w).length : Int) else -1) else if 0 ≤ i ∧ i < (eL (lsR t T rn rt rs) T nd w).length then (if q = 0 then lsR t T rn rt rs ((eL (lsR t T rn rt rs) T nd w).getD i.toNat 0) else if q = 1 then (eL (lsR t T rn rt rs) T nd w).getD i.toNat 0 else if q = 2 then ((cgS t nc T C rn rt rs ((eL (lsR t T rn rt rs) T nd w).getD i.toNat 0)).length : Int) else if q = 3 then crS t nc T C rn rt rs ((eL (lsR t T rn rt rs) T nd w).getD i.toNat 0) else -1) else -1) else -1
noncomputable def aCms (w i q : Int) : Int := if (w = 0 ∨ w = 1) ∧ 0 ≤ i ∧ i < (eL (lsR t T rn rt rs) T nd w).length ∧ 0 ≤ q ∧ q < (cgS t nc T C rn rt rs ((eL (lsR t T rn rt rs) T nd w).getD i.toNat 0)).length then (cgS t nc T C rn rt rs ((eL (lsR t T rn rt rs) T nd w).getD i.toNat 0)).getD q.toNat 0 else -1
end EA
def fOr (B : Int → Int) : Nat → Int → Int → Int
  | 0, _, a => a
  | k + 1, i, a => fOr B k (i + 1) (iOr a (B i))
section EA2
variable (t : Int → Int) (nd : Int) (T : pT) (rn : Int → Int) (rt : Int → Int → Int) (rs : Int → pS)
noncomputable def aCon (w q : Int) : Int := if (w = 0 ∨ w = 1) ∧ 0 ≤ q ∧ q ≤ 2 then (if q = 0 then cnt (fun v => ¬ ftB t T rn rt rs v = 0 ∧ ¬ v ∈ eL (lsR t T rn rt rs) T nd w) nd.toNat 0 else if q = 1 then cnt (fun v => 1 < pcN 26 (ftB t T rn rt rs v).toNat ∧ v ∈ eL (lsR t T rn rt rs) T nd w) nd.toNat 0 else iAnd (fOr (ftB t T rn rt rs) nd.toNat 0 0) (iXor ((eL (lsR t T rn rt rs) T nd w).foldl (fun a v => iOr a (iShl 1 (lsR t T rn rt rs v))) 0) (-1))) else -1
end EA2
def mAA (b : Nat) (k : Int) : Prop := meA b k ∨ mcA b k ∨ (b = 127 ∧ k = 0)
def xAA (b : Nat) (_ : Int) : Prop := (56 ≤ b ∧ b ≤ 62) ∨ (77 ≤ b ∧ b ≤ 86)
section EB
variable {h : zH} {t : Int → Int} {n nd nc : Int} {T C : pT} {rn : Int → Int} {rt : Int → Int → Int} {rs : Int → pS} {a : Nat}
theorem eL_h {w : Int} (hn : 0 ≤ nd) : ∀ v, v ∈ eL (lsR t T rn rt rs) T nd w → (0 ≤ v ∧ v < nd) ∧ ¬ lsR t T rn rt rs v = -1 := fun v hv => by
  have := (eL_m hn).1 hv
  exact ⟨this.2, eP_F this.1⟩
theorem eL_60 {w : Int} (g : sF t n nd nc T C) : (eL (lsR t T rn rt rs) T nd w).length ≤ 60 := by
  have := sel_l (P := eP (lsR t T rn rt rs) T nd w) nd.toNat 0
  have := g.hd
  unfold eL
  omega
theorem mN.aa {h1 : zH} (y : mN h t n nd nc T C) (g : sF t n nd nc T C) (f : frP mAA h h1) : mN h1 t n nd nc T C := y.fr g.hn f (fun k _ _ => by unfold mAA meA edA mcA cwA hlA gWB gWA; omega) (by unfold mAA meA edA mcA cwA hlA gWB gWA; omega) (fun k => by unfold mAA meA edA mcA cwA hlA gWB gWA; omega)
theorem mRu.aa {h1 : zH} (u : mRu h rn rt rs) (o : slO rn rt rs) (f : frP mAA h h1) : mRu h1 rn rt rs := u.fr o f (fun k _ => by unfold mAA meA edA mcA cwA hlA gWB gWA; omega) (fun k => by unfold mAA meA edA mcA cwA hlA gWB gWA; omega)
theorem xU.aa {h1 : zH} (y : xU h a t n nd nc T C) (ha : a + 16 ≤ 53) (f : frX xAA fiR h h1) : xU h1 a t n nd nc T C := y.fx f (fun b k _ _ => by unfold xAA; omega) (by unfold fiR; omega)
theorem xRu.aa {h1 : zH} (u : xRu h 53 rn rt rs) (f : frX xAA fiR h h1) : xRu h1 53 rn rt rs := u.fx f (fun b k _ _ => by unfold xAA; omega) (fun k _ _ => by unfold fiR; omega)
theorem wk_aa {h1 : zH} (f : frX wkA fiR h h1) : frX xAA fiR h h1 := f.mo (fun b k q => by unfold wkA at q; unfold xAA; omega) (fun b k q => q)
theorem we_aa {h1 : zH} (f : frX weA fiR h h1) : frX xAA fiR h h1 := f.mo (fun b k q => by unfold weA fiA wsA at q; unfold xAA; omega) (fun b k q => q)
theorem s19 {w i q : Int} (g : sF t n nd nc T C) (y : xU h a t n nd nc T C) (ha : a + 16 ≤ 53) (o : slO rn rt rs) (u : xRu h 53 rn rt rs) {K : Int → zH → Prop} (k : ∀ h1, frX xAA fiR h h1 → K (aEdt t nd nc T C rn rt rs w i q) h1) : zC1 19 [vR 2 100, vI w, vI i, vI q] h K := by
  have hnd := g.hd
  have hL := eL_h (t := t) (T := T) (rn := rn) (rt := rt) (rs := rs) (w := w) (nd := nd) (by omega)
  have l60 := eL_60 (rn := rn) (rt := rt) (rs := rs) (w := w) g
  unfold aEdt at k
  refine cI (k19_0 w i q h _ (s32 ⟨fun c => ?_, fun c => zq1 ?_⟩))
  · rw [b2i_ne0] at c
    rw [if_pos c] at k
    rw [y.1]
    refine ⟨y.2.1, s118 g y.2.2 y.2.1 ha o u (fun h7 f7 xw => ?_)⟩
    have F7 := wk_aa f7
    have go : ¬ (i = -1 ∧ q = 0) → zK 19 46 [vR 2 100, vI w, vI i, vI q] [] h7 (fun r h1 => ∃ v : Int, r = some (Sum.inl v) ∧ K v h1) := by
      intro ni
      refine k19_46 (vI w) i q h7 _ ⟨fun d => zq1 ?_, fun d => ?_⟩
      · have := k h7 F7
        by_cases e : i = -1
        · rwa [if_pos e, if_neg (by omega)] at this
        · rwa [if_neg e, if_neg (by omega)] at this
      · rw [xw.1]
        refine ⟨fun d1 => ?_, fun d1 => zq1 ?_⟩
        · rw [if_neg (by omega), if_pos ⟨by omega, d1⟩] at k
          refine ⟨fun q0 => s121 xw (fun v hv => (hL v hv).1) hnd.2 l60 (by omega) d1 (zq1 ?_), fun q0 => ⟨fun q1 => ⟨by omega, by omega, zq1 ?_⟩, fun q1 => ⟨fun q2 => s38 g (y.aa ha F7) ha o (u.aa F7) xw hL l60 (by omega) d1 (fun h9 f9 x9 => zq1 ?_), fun q2 => ⟨fun q3 => s38 g (y.aa ha F7) ha o (u.aa F7) xw hL l60 (by omega) d1 (fun h8 f8 x8 => zq1 ?_), fun q3 => zq1 ?_⟩⟩⟩⟩
          · have := k h7 F7
            rwa [if_pos q0] at this
          · have := k h7 F7
            rw [if_neg q0, if_pos (by omega)] at this
            have e := xw.2.1 i.toNat (by omega)
            rw [show ((i.toNat : Nat) : Int) = i by omega] at e
            rw [e]; exact this
          · have := k h9 (F7.tr (we_aa f9))
            rw [if_neg q0, if_neg (by omega), if_pos (by omega)] at this
            rw [x9.1]; exact this
          · have := k h8 (F7.tr (we_aa f8))
            rw [if_neg q0, if_neg (by omega), if_neg (by omega), if_pos (by omega)] at this
            rw [x8.2.1]; exact this
          · have := k h7 F7
            rwa [if_neg q0, if_neg (by omega), if_neg (by omega), if_neg (by omega)] at this
        · have := k h7 F7
          rwa [if_neg (by omega), if_neg (fun z => d1 z.2)] at this
    refine ⟨fun d => go (by omega), fun d => ⟨fun d1 => go (by omega), fun d1 => zq1 ?_⟩⟩
    have := k h7 F7
    rw [if_pos (Classical.not_not.1 d), if_pos (Classical.not_not.1 d1)] at this
    rw [xw.1]; exact this
  · have c : ¬ (w = 0 ∨ w = 1) := fun d => c (by rw [b2i_ne0]; exact d)
    have := k h frX.rf
    rwa [if_neg c] at this
theorem s236 {w i q : Int} (g : sF t n nd nc T C) (y : mN h t n nd nc T C) (o : slO rn rt rs) (u : mRu h rn rt rs) {K : Int → zH → Prop} (k : ∀ h1, frP mAA h h1 → K (aEdt t nd nc T C rn rt rs w i q) h1) : zC1 236 [vR 127 111, vI w, vI i, vI q] h K := by
  have hnd := g.hd
  have hL := eL_h (t := t) (T := T) (rn := rn) (rt := rt) (rs := rs) (w := w) (nd := nd) (by omega)
  have l60 := eL_60 (rn := rn) (rt := rt) (rs := rs) (w := w) g
  unfold aEdt at k
  refine cI (k236_0 w i q h _ (fun h7 e7 => s228 ⟨fun c => ?_, fun c => zq1 ?_⟩))
  · have f7 : frP mAA h h7 := by rw [e7]; exact frP.rf.st (Or.inr (Or.inr ⟨rfl, rfl⟩))
    rw [b2i_ne0] at c
    rw [if_pos c] at k
    refine s229 g (y.aa g f7) o (u.aa o f7) (fun h9 f9 e9 => ?_)
    have F9 : frP mAA h h9 := f7.tr (f9.mo (fun b k q => Or.inl q))
    rw [e9.1]
    refine ⟨fun d => ⟨by unfold inL; omega, s141 ⟨fun d1 => zq1 ?_, fun d1 => s141 ⟨fun d2 => ⟨fun d3 => ?_, fun d3 => ⟨fun d4 => ⟨?_, ?_, zq1 ?_⟩, fun d4 => ⟨?_, ?_, zq1 ?_⟩⟩⟩, fun d2 => zq1 ?_⟩⟩⟩, fun d => ⟨fun d1 => zq1 ?_, fun d1 => zq1 ?_⟩⟩
    · rw [b2i_eq0] at d1
      have := k h9 F9
      rwa [if_neg d, if_neg (by omega)] at this
    · rw [b2i_ne0] at d1 d2
      rw [if_neg d, if_pos (by omega)] at k
      refine s235 g (y.aa g F9) o (u.aa o F9) e9 hL l60 d1.1 (by omega) (fun h12 f12 co c63 => ⟨fun d5 => zq1 ?_, fun d5 => zq1 ?_⟩)
      · have := k h12 (F9.tr (f12.mo (fun b k q => Or.inr (Or.inl q))))
        rw [if_neg (by omega), if_neg (by omega), if_neg (by omega), if_pos (by omega)] at this
        rw [c63]; exact this
      · have := k h12 (F9.tr (f12.mo (fun b k q => Or.inr (Or.inl q))))
        rw [if_neg (by omega), if_neg (by omega), if_pos (by omega)] at this
        rw [co.1]; exact this
    · rw [b2i_ne0] at d1; omega
    · rw [b2i_ne0] at d1; omega
    · rw [b2i_ne0] at d1 d2
      have := k h9 F9
      rw [if_neg d, if_pos (by omega), if_neg (by omega), if_pos (by omega)] at this
      have e := e9.2.1 i.toNat (by omega)
      rw [show ((i.toNat : Nat) : Int) = i by omega] at e
      rw [e]; exact this
    · rw [b2i_ne0] at d1; omega
    · rw [b2i_ne0] at d1; omega
    · rw [b2i_ne0] at d1 d2
      have := k h9 F9
      rw [if_neg d, if_pos (by omega), if_pos (by omega)] at this
      have e := e9.2.2 i.toNat (by omega)
      rw [show ((i.toNat : Nat) : Int) = i by omega] at e
      rw [e]; exact this
    · rw [b2i_ne0] at d1
      have d2 : ¬ (0 ≤ q ∧ q ≤ 3) := fun z => d2 (by rw [b2i_ne0]; exact z)
      have := k h9 F9
      rwa [if_neg d, if_pos (by omega), if_neg (by omega), if_neg (by omega), if_neg (by omega), if_neg (by omega)] at this
    · have := k h9 F9
      rwa [if_pos (Classical.not_not.1 d), if_neg d1] at this
    · have := k h9 F9
      rwa [if_pos (Classical.not_not.1 d), if_pos (Classical.not_not.1 d1)] at this
  · have f7 : frP mAA h h7 := by rw [e7]; exact frP.rf.st (Or.inr (Or.inr ⟨rfl, rfl⟩))
    have c : ¬ (w = 0 ∨ w = 1) := fun d => c (by rw [b2i_ne0]; exact d)
    have := k h7 f7
    rwa [if_neg c] at this
theorem s20 {w i q : Int} (g : sF t n nd nc T C) (y : xU h a t n nd nc T C) (ha : a + 16 ≤ 53) (o : slO rn rt rs) (u : xRu h 53 rn rt rs) {K : Int → zH → Prop} (k : ∀ h1, frX xAA fiR h h1 → K (aCms t nd nc T C rn rt rs w i q) h1) : zC1 20 [vR 2 100, vI w, vI i, vI q] h K := by
  have hnd := g.hd
  have hL := eL_h (t := t) (T := T) (rn := rn) (rt := rt) (rs := rs) (w := w) (nd := nd) (by omega)
  have l60 := eL_60 (rn := rn) (rt := rt) (rs := rs) (w := w) g
  unfold aCms at k
  refine cI (k20_0 w i q h _ (s32 ⟨fun c => zq1 ?_, fun c => ⟨fun d => ?_, fun d => zq1 ?_⟩⟩))
  · rw [b2i_eq0] at c
    have := k h frX.rf
    rwa [if_neg (fun z => c z.1)] at this
  · rw [b2i_ne0] at c
    rw [y.1]
    refine ⟨y.2.1, s118 g y.2.2 y.2.1 ha o u (fun h7 f7 xw => ?_)⟩
    have F7 := wk_aa f7
    rw [xw.1]
    refine ⟨fun d1 => zq1 ?_, fun d1 => ⟨fun d2 => s38 g (y.aa ha F7) ha o (u.aa F7) xw hL l60 (by omega) d2 (fun h9 f9 x9 => zq1 ?_), fun d2 => zq1 ?_⟩⟩
    · have := k h7 F7
      rwa [if_neg (by omega)] at this
    · have := k h9 (F7.tr (we_aa f9))
      rw [x9.2.2.1]
      by_cases e : 0 ≤ q ∧ q < (cgS t nc T C rn rt rs ((eL (lsR t T rn rt rs) T nd w).getD i.toNat 0)).length
      · rw [if_pos ⟨c, by omega, d2, e.1, e.2⟩] at this
        rw [if_pos e]; exact this
      · rw [if_neg (fun z => e ⟨z.2.2.2.1, z.2.2.2.2⟩)] at this
        rw [if_neg e]; exact this
    · have := k h7 F7
      rwa [if_neg (fun z => d2 z.2.2.1)] at this
  · have := k h frX.rf
    rwa [if_neg (fun z => d z.2.2.2.1)] at this
theorem cgS_l {v : Int} (g : sF t n nd nc T C) (o : slO rn rt rs) (hv : 0 ≤ v ∧ v < nd) (hl : ¬ lsR t T rn rt rs v = -1) : (cgS t nc T C rn rt rs v).length ≤ 6490 := by
  obtain ⟨hx, e, L', hw⟩ := lsR_f hl
  unfold cgS
  rw [hw]
  dsimp only
  generalize lsR t T rn rt rs v = x at *
  have gd := o.gd hx.1 hx.2
  have hlo : hlG n nc C (hBg T (sP rn rt rs x) e) (hEn T (sP rn rt rs x) e) := hl_ok g gd.1.en.1 gd.1.en.2 hv hw
  have hn := g.hn
  have hc := g.hc
  have a := tkL_all (t := t) (B := hBg T (sP rn rt rs x) e) (E := hEn T (sP rn rt rs x) e) gd.1.e1.1 (fun l => by rcases hlo l with z | z <;> omega)
  have b := cmL_450 g (P := crP T C (rs x) (hBg T (sP rn rt rs x) e) (hEn T (sP rn rt rs x) e) v) nc.toNat (by omega)
  unfold cmg
  rw [List.length_append]
  omega
theorem s237 {w i q : Int} (g : sF t n nd nc T C) (y : mN h t n nd nc T C) (o : slO rn rt rs) (u : mRu h rn rt rs) {K : Int → zH → Prop} (k : ∀ h1, frP mAA h h1 → K (aCms t nd nc T C rn rt rs w i q) h1) : zC1 237 [vR 127 111, vI w, vI i, vI q] h K := by
  have hnd := g.hd
  have hL := eL_h (t := t) (T := T) (rn := rn) (rt := rt) (rs := rs) (w := w) (nd := nd) (by omega)
  have l60 := eL_60 (rn := rn) (rt := rt) (rs := rs) (w := w) g
  unfold aCms at k
  refine cI (k237_0 w i q h _ (fun h7 e7 => s228 ⟨fun c => ?_, fun c => zq1 ?_⟩))
  · have f7 : frP mAA h h7 := by rw [e7]; exact frP.rf.st (Or.inr (Or.inr ⟨rfl, rfl⟩))
    rw [b2i_ne0] at c
    refine s229 g (y.aa g f7) o (u.aa o f7) (fun h9 f9 e9 => ?_)
    have F9 : frP mAA h h9 := f7.tr (f9.mo (fun b k q => Or.inl q))
    rw [e9.1]
    refine ⟨by unfold inL; omega, s141 ⟨fun d1 => ?_, fun d1 => zq1 ?_⟩⟩
    · rw [b2i_ne0] at d1
      refine s235 g (y.aa g F9) o (u.aa o F9) e9 hL l60 d1.1 (by omega) (fun h12 f12 co c63 => ?_)
      have kk := k h12 (F9.tr (f12.mo (fun b k q => Or.inr (Or.inl q))))
      have mv := hL _ (getD_m (L := eL (lsR t T rn rt rs) T nd w) (k := i.toNat) (by omega))
      have l7 := cgS_l g o mv.1 mv.2
      rw [co.1]
      refine ⟨by unfold inL; omega, s141 ⟨fun d2 => zq1 ?_, fun d2 => ?_⟩⟩
      · rw [b2i_eq0] at d2
        rwa [if_neg (by omega)] at kk
      · rw [b2i_ne0] at d2
        refine ⟨by omega, by omega, zq1 ?_⟩
        rw [if_pos (by omega)] at kk
        have e := co.2 q.toNat (by omega)
        rw [show ((q.toNat : Nat) : Int) = q by omega] at e
        rw [e]; exact kk
    · have d1 : ¬ (0 ≤ i ∧ i ≤ ((eL (lsR t T rn rt rs) T nd w).length : Int) - 1) := fun z => d1 (by rw [b2i_ne0]; exact z)
      have := k h9 F9
      rwa [if_neg (by omega)] at this
  · have f7 : frP mAA h h7 := by rw [e7]; exact frP.rf.st (Or.inr (Or.inr ⟨rfl, rfl⟩))
    have c : ¬ (w = 0 ∨ w = 1) := fun d => c (by rw [b2i_ne0]; exact d)
    have := k h7 f7
    rwa [if_neg (fun z => c z.1)] at this
end EB
