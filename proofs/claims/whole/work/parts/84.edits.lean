/-! What comes for an edit: both. -/
section CG
variable (t : Int → Int) (nc : Int) (T C : pT) (rn : Int → Int) (rt : Int → Int → Int) (rs : Int → pS)
noncomputable def cgS (v : Int) : List Int := match wAl t (rt (lsR t T rn rt rs v)) T (sP rn rt rs (lsR t T rn rt rs v)) 0 v with
  | [] => []
  | e :: _ => cmg t (rt (lsR t T rn rt rs v)) nc T C (rs (lsR t T rn rt rs v)) (sP rn rt rs (lsR t T rn rt rs v)) e v
noncomputable def crS (v : Int) : Int := match wAl t (rt (lsR t T rn rt rs v)) T (sP rn rt rs (lsR t T rn rt rs v)) 0 v with
  | [] => 0
  | e :: _ => cnt (crP T C (rs (lsR t T rn rt rs v)) (hBg T (sP rn rt rs (lsR t T rn rt rs v)) e) (hEn T (sP rn rt rs (lsR t T rn rt rs v)) e) v) nc.toNat 0
end CG
def mcA (b : Nat) (k : Int) : Prop := gWB b k ∨ cwA b k ∨ (b = 127 ∧ k = 63) ∨ hlA b k
section ED
variable {h : zH} {t : Int → Int} {n nd nc : Int} {T C : pT} {rn : Int → Int} {rt : Int → Int → Int} {rs : Int → pS} {a : Nat}
theorem lsR_f {v : Int} (h : ¬ lsR t T rn rt rs v = -1) : ((0 ≤ lsR t T rn rt rs v ∧ lsR t T rn rt rs v < 8) ∧ ¬ rn (lsR t T rn rt rs v) = 0) ∧ ∃ e L, wAl t (rt (lsR t T rn rt rs v)) T (sP rn rt rs (lsR t T rn rt rs v)) 0 v = e :: L := by
  rcases fst_rg (P := fun x => fit t T rn rt rs x v) 8 0 with q | q
  · exact absurd q h
  · have f : fit t T rn rt rs (lsR t T rn rt rs v) v := q.2.2
    refine ⟨f.1, ?_⟩
    cases hL : wAl t (rt (lsR t T rn rt rs v)) T (sP rn rt rs (lsR t T rn rt rs v)) 0 v with
    | nil => exact absurd hL f.2
    | cons e L => exact ⟨e, L, rfl⟩
theorem mRu.pp {x : Int} (u : mRu h rn rt rs) (hx : 0 ≤ x ∧ x < 8) (hn : ¬ rn x = 0) : mPp h x (rt x) (rn x) (rs x) := by
  have q := (u x hx.1 hx.2).2 hn
  exact ⟨hx, q.1, q.2.2.1, q.2.2.2⟩
theorem slO.rd {x : Int} (o : slO rn rt rs) (hx : 0 ≤ x ∧ x < 8) (hn : ¬ rn x = 0) : rread (rt x) (rn x) = (true, rs x) := by
  rcases o x hx.1 hx.2 with q | q
  · exact absurd q hn
  · exact q.2.2
theorem mN.cc {h1 : zH} (y : mN h t n nd nc T C) (g : sF t n nd nc T C) (f : frP mcA h h1) : mN h1 t n nd nc T C := y.fr g.hn f (fun k _ _ => by unfold mcA cwA hlA gWB gWA; omega) (by unfold mcA cwA hlA gWB gWA; omega) (fun k => by unfold mcA cwA hlA gWB gWA; omega)
theorem mRu.cc {h1 : zH} (u : mRu h rn rt rs) (o : slO rn rt rs) (f : frP mcA h h1) : mRu h1 rn rt rs := u.fr o f (fun k _ => by unfold mcA cwA hlA gWB gWA; omega) (fun k => by unfold mcA cwA hlA gWB gWA; omega)
theorem mEd.cc {h1 : zH} {L : List Int} {F : Int → Int} (e : mEd h L F) (f : frP mcA h h1) : mEd h1 L F := e.fr f (by unfold mcA cwA hlA gWB gWA; omega) (fun k => by unfold mcA cwA hlA gWB gWA; omega)
theorem s235 {L : List Int} {i : Int} (g : sF t n nd nc T C) (y : mN h t n nd nc T C) (o : slO rn rt rs) (u : mRu h rn rt rs) (ed : mEd h L (lsR t T rn rt rs)) (hL : ∀ v, v ∈ L → (0 ≤ v ∧ v < nd) ∧ ¬ lsR t T rn rt rs v = -1) (hl : L.length ≤ 60) (h0 : 0 ≤ i) (h1 : i < L.length) {K : zH → Prop}
    (k : ∀ h1, frP mcA h h1 → mCo h1 (cgS t nc T C rn rt rs (L.getD i.toNat 0)) → gI h1 127 63 = crS t nc T C rn rt rs (L.getD i.toNat 0) → K h1) : zC0 235 [vR 127 111, vI i] h K := by
  have hnc := g.hc
  have hnd := g.hd
  have hn := g.hn
  have e3 := ed.2.1 i.toNat (by omega)
  have e4 := ed.2.2 i.toNat (by omega)
  rw [show ((i.toNat : Nat) : Int) = i by omega] at e3 e4
  have mv := hL _ (getD_m (L := L) (k := i.toNat) (by omega))
  generalize L.getD i.toNat 0 = v at *
  obtain ⟨hx, e, L', hw⟩ := lsR_f mv.2
  unfold cgS crS at k
  rw [hw] at k
  dsimp only at k
  generalize hxx : lsR t T rn rt rs v = x at *
  have gd := o.gd hx.1 hx.2
  have en := gd.1.en
  have e1 := gd.1.e1
  have wd := wd_read gd.2 (o.rd hx.1 hx.2)
  rw [e1.2.1] at wd
  have hlo : hlG n nc C (hBg T (sP rn rt rs x) e) (hEn T (sP rn rt rs x) e) := hl_ok g en.1 en.2 mv.1 hw
  unfold cmg at k
  obtain ⟨B, hB⟩ : ∃ B, B = hBg T (sP rn rt rs x) e := ⟨_, rfl⟩
  obtain ⟨E, hE⟩ : ∃ E, E = hEn T (sP rn rt rs x) e := ⟨_, rfl⟩
  rw [← hB, ← hE] at k hlo
  have hE3 : ∀ l, 0 ≤ B l ∧ E l ≤ 300 := fun l => by rcases hlo l with z | z <;> omega
  have t4 := e1.1.t41
  have tl := tkL_all (t := t) e1.1 hE3
  refine cV (k235_0 i h _ ⟨h0, by omega, h0, by omega, ?_⟩)
  rw [e3, e4]
  refine s191 g y o u mv.1 (fun c => absurd ⟨hx, by rw [hw]; simp⟩ c) (fun _ e' L2 hw' h13 f13 mi => ?_)
  have ee : e' = e := by rw [hw] at hw'; cases hw'; rfl
  subst ee
  have F13 : frP mcA h h13 := f13.mo (fun b k q => Or.inl q)
  refine s232 g (y.cc g F13) en.1 en.2 mv.1 hw mi (fun h14 f14 mh h15 e15 h16 e16 => ?_)
  rw [← hB, ← hE] at mh
  have F16 : frP mcA h h16 := by
    rw [e16, e15]
    exact ((F13.tr (f14.mo (fun b k q => Or.inr (Or.inr (Or.inr q))))).st (Or.inr (Or.inl (Or.inl ⟨rfl, rfl⟩)))).st (Or.inr (Or.inr (Or.inl ⟨rfl, rfl⟩)))
  have mh16 : mHl h16 B E := fun l l0 l1 => by
    have : ∀ b, ¬ b = 127 → gI h16 b l = gI h14 b l := fun b q => by rw [e16, gS, if_neg (by omega), e15, gS, if_neg (by omega)]
    rw [this _ (by omega), this _ (by omega)]; exact mh l l0 l1
  have co16 : mCo h16 [] := ⟨by rw [e16, gS, if_neg (by omega), e15, gS1]; rfl, fun k hk => absurd hk (by simp)⟩
  have c16 : gI h16 127 63 = 0 := by rw [e16, gS1]
  have mhf : ∀ h2 : zH, frP (fun b k => cwA b k ∨ (b = 127 ∧ k = 63)) h16 h2 → mHl h2 B E := fun h2 f2 l l0 l1 => by
    rw [f2.1 _ _ (by unfold cwA; omega), f2.1 _ _ (by unfold cwA; omega)]; exact mh16 l l0 l1
  have FF : ∀ h2 : zH, frP (fun b k => cwA b k ∨ (b = 127 ∧ k = 63)) h16 h2 → frP mcA h h2 := fun h2 f2 => F16.tr (f2.mo (fun b k q => by rcases q with q | q; exact Or.inr (Or.inl q); exact Or.inr (Or.inr (Or.inl q))))
  -- the tokens
  have tok : ∀ (f : Nat) (j : Int) (h2 : zH) (u1 u3 u5 : zV), rs x 0 0 7 - j = f → 0 ≤ j → frP (fun b k => cwA b k ∨ (b = 127 ∧ k = 63)) h16 h2 → gI h2 127 63 = cnt (crP T C (rs x) B E v) nc.toNat 0 → mCo h2 (cmL t C (crP T C (rs x) B E v) nc.toNat 0 ++ tkL t (rt x) (rs x) B E j.toNat 0) → zK 235 164 [vR 127 111, u1, vI x, u3, vI j, u5] [] h2 (fun r h1 => r = none ∧ K h1) := by
    intro f
    induction f with
    | zero =>
      intro j h2 u1 u3 u5 hj j0 f2 c2 co2
      have p2 := (u.cc o (FF h2 f2)).pp hx.1 hx.2
      refine k235_164 u1 x u3 j u5 h2 _ ?_
      rw [p2.2.2.1]
      refine ⟨by unfold inR; omega, by unfold inR; omega, by omega, by omega, fun _ => zq0 (k h2 (FF h2 f2) ?_ c2), fun c => absurd (by omega) c⟩
      rw [show (rs x 0 0 7).toNat = j.toNat by omega]; exact co2
    | succ f ih =>
      intro j h2 u1 u3 u5 hj j0 f2 c2 co2
      have p2 := (u.cc o (FF h2 f2)).pp hx.1 hx.2
      have cl := cmL_450 g (P := crP T C (rs x) B E v) nc.toNat (by omega)
      have tp := tkL_p (t := t) e1.1 hE3 j.toNat (by omega)
      have go : ∀ (z : Int), (z = if j = 0 then 1 else 0) → zC0 234 [vR 127 111, vI x, vI j, vI z] h2 (fun h23 => (inR (j + 1)) ∧ zK 235 164 [vR 127 111, u1, vI x, u3, vI (j + 1), u5] [] h23 (fun r h1 => r = none ∧ K h1)) := by
        intro z hz
        refine s234 g (y.cc g (FF h2 f2)) p2 gd.2.2.1 e1.1 wd hlo (mhf h2 f2) ⟨j0, by omega⟩ hz co2 (by rw [List.length_append]; omega) (fun h3 f3 co3 => ⟨by unfold inR; omega, ih (j + 1) h3 u1 u3 u5 (by omega) (by omega) (f2.tr (f3.mo (fun b k q => Or.inl q))) (by rw [f3.1 _ _ (by unfold cwA; omega)]; exact c2) ?_⟩)
        rw [show (j + 1).toNat = j.toNat + 1 by omega, tkL_ap, tkL, tkL, List.append_nil, show (0 : Int) + ((j.toNat : Nat) : Int) = j by omega, ← List.append_assoc]; exact co3
      refine k235_164 u1 x u3 j u5 h2 _ ?_
      rw [p2.2.2.1]
      exact ⟨by unfold inR; omega, by unfold inR; omega, by omega, by omega, fun c => absurd c (by omega), fun _ => ⟨fun c => go 0 (by rw [if_neg c]), fun c => go 1 (by rw [if_pos (Classical.not_not.1 c)])⟩⟩
  -- the comments
  have com : ∀ (f : Nat) (j : Int) (h2 : zH) (u1 u5 : zV), nc - j = f → 0 ≤ j → frP (fun b k => cwA b k ∨ (b = 127 ∧ k = 63)) h16 h2 → gI h2 127 63 = cnt (crP T C (rs x) B E v) j.toNat 0 → mCo h2 (cmL t C (crP T C (rs x) B E v) j.toNat 0) → zK 235 38 [vR 127 111, u1, vI x, vI v, vI j, u5] [] h2 (fun r h1 => r = none ∧ K h1) := by
    intro f
    induction f with
    | zero =>
      intro j h2 u1 u5 hj j0 f2 c2 co2
      have y2 := y.cc g (FF h2 f2)
      rw [show j.toNat = nc.toNat by omega] at c2 co2
      refine k235_38 u1 x v j u5 h2 _ ⟨fun _ => tok (rs x 0 0 7).toNat 0 h2 _ _ _ (by omega) (by omega) f2 c2 ?_, fun c => absurd (by rw [y2.2.2.1]; omega) c⟩
      rw [show (0 : Int).toNat = 0 from rfl, tkL, List.append_nil]; exact co2
    | succ f ih =>
      intro j h2 u1 u5 hj j0 f2 c2 co2
      have y2 := y.cc g (FF h2 f2)
      have p2 := (u.cc o (FF h2 f2)).pp hx.1 hx.2
      have yc := y2.2.2.2.2 j j0 (by omega)
      have cm := g.cm j0 (show j < nc by omega)
      have cl := cmL_450 g (P := crP T C (rs x) B E v) j.toNat (by omega)
      have ap := cmL_ap (t := t) (C := C) (P := crP T C (rs x) B E v) j.toNat 1 0
      have aq := cnt_ap (P := crP T C (rs x) B E v) j.toNat 1 0
      have cr := cnt_rg (crP T C (rs x) B E v) j.toNat 0
      rw [show j.toNat + 1 = (j + 1).toNat by omega, show (0 : Int) + ((j.toNat : Nat) : Int) = j by omega] at ap aq
      have no : ¬ crP T C (rs x) B E v j → ∀ u5, zK 235 38 [vR 127 111, u1, vI x, vI v, vI (j + 1), u5] [] h2 (fun r h1 => r = none ∧ K h1) := by
        intro c u5
        rw [cmL_n c, cmL, List.append_nil] at ap
        rw [cnt_n c, cnt, Int.add_zero] at aq
        exact ih (j + 1) h2 u1 u5 (by omega) (by omega) f2 (by rw [aq]; exact c2) (by rw [ap]; exact co2)
      have jn : ∀ z : Int, (z = 0 ↔ ¬ (T v 4 ≤ C j 0 ∧ C j 0 < T v 5)) → ∀ u5, zK 235 88 [vR 127 111, u1, vI x, vI v, vI j, u5] [vI z] h2 (fun r h1 => r = none ∧ K h1) := by
        intro z hz u5
        refine k235_88 u1 x v j u5 z h2 _ ⟨fun c => ⟨by unfold inR; omega, no (fun d => hz.1 c d.1) _⟩, fun c => s233 g y2 p2 e1.1 (mhf h2 f2) j0 (by omega) ⟨fun d => ⟨by unfold inR; omega, no (fun u => ?_) _⟩, fun d => ?_⟩⟩
        · rw [b2i_ne0] at d; exact u.2 d
        · have d := Classical.not_not.1 d
          rw [b2i_eq0] at d
          have cp : crP T C (rs x) B E v j := ⟨Classical.not_not.1 (fun u => c (hz.2 u)), d⟩
          rw [yc.1, yc.2.1]
          refine ⟨by unfold inR; omega, by omega, by omega, by unfold inR; omega, by omega, by omega, by unfold inR; omega, by unfold inR; omega, by omega, by omega, by unfold inR; omega, ?_⟩
          have rl := rowS_l t (C j 0 + C j 1 - C j 0).toNat (C j 0)
          have := s231 (h := h2) (R := cmL t C (crP T C (rs x) B E v) j.toNat 0) (u := t) (off := 0) (p := C j 0) (e := C j 0 + C j 1) (K := fun h20 => zC0 230 [vR 127 111, vI 32] h20 (fun h21 => (inR ((gI h21 127 63) + 1)) ∧ ∀ h22 : zH, h22 = sI h21 127 63 ((gI h21 127 63) + 1) → (inR (j + 1)) ∧ zK 235 38 [vR 127 111, u1, vI x, vI v, vI (j + 1), vI z] [] h22 (fun r h1 => r = none ∧ K h1))) co2 (fun q q0 q1 => ?_) (by omega) (by omega) (fun h20 f20 co20 => ?_)
          · rw [Int.zero_add, Int.zero_add] at this; exact this
          · rw [Int.zero_add]
            exact ⟨by omega, y2.1.2.1 q (by omega) (by omega), g.ch1 q (by omega) (by omega)⟩
          · refine s230 co20 (by rw [List.length_append, rl]; omega) (by unfold chO; omega) (fun h21 f21 co21 => ?_)
            have z21 : gI h21 127 63 = cnt (crP T C (rs x) B E v) j.toNat 0 := by rw [f21.1 _ _ (by unfold cwA; omega), f20.1 _ _ (by unfold cwA; omega)]; exact c2
            rw [z21]
            refine ⟨by unfold inR; omega, fun h22 e22 => ⟨by unfold inR; omega, ih (j + 1) h22 u1 _ (by omega) (by omega) ?_ ?_ ?_⟩⟩
            · rw [e22]; exact ((f2.tr (f20.mo (fun b k q => Or.inl q))).tr (f21.mo (fun b k q => Or.inl q))).st (Or.inr ⟨rfl, rfl⟩)
            · rw [cnt_y cp, cnt, Int.add_zero] at aq
              rw [e22, gS1, aq]
            · rw [cmL_y cp, cmL, List.append_nil, show (C j 1).toNat = (C j 0 + C j 1 - C j 0).toNat by omega] at ap
              rw [ap, ← List.append_assoc]
              exact co21.fr (show frP (fun b k => b = 127 ∧ k = 63) h21 h22 by rw [e22]; exact frP.rf.st ⟨rfl, rfl⟩) (by omega) (fun k => by omega)
      refine k235_38 u1 x v j u5 h2 _ ?_
      rw [y2.2.2.1, yc.1]
      refine ⟨fun c => absurd c (by omega), fun _ => ⟨by unfold inR; omega, by omega, by omega, s158 4 (by omega) g y2 mv.1 ⟨fun c => k235_87 u1 x v j u5 h2 _ (jn 0 ⟨fun _ => by omega, fun _ => rfl⟩ _), fun c => ⟨by unfold inR; omega, by omega, by omega, s158 5 (by omega) g y2 mv.1 ?_⟩⟩⟩⟩
      rw [yc.1]
      exact ⟨fun d => k235_87 u1 x v j u5 h2 _ (jn 0 ⟨fun _ => by omega, fun _ => rfl⟩ _), fun d => jn 1 ⟨fun q => by omega, fun q => absurd ⟨by omega, by omega⟩ q⟩ _⟩
  exact com nc.toNat 0 h16 _ _ (by omega) (by omega) frP.rf c16 co16
/-! The class. -/
def weA (b : Nat) (k : Int) : Prop := fiA b k ∨ wsA b k
theorem s39 {L R : List Int} {Fb : Int → Int} {i sm cg ca : Int} (g : sF t n nd nc T C) (y : xN h a t n nd nc T C) (ty : zty 102 a h) (ha : a + 16 ≤ 53) (o : slO rn rt rs) (u : xRu h 53 rn rt rs) (xw : xWk h nd (lsR t T rn rt rs) Fb L) (hL : ∀ v, v ∈ L → (0 ≤ v ∧ v < nd) ∧ ¬ lsR t T rn rt rs v = -1) (hl : L.length ≤ 60) (h0 : 0 ≤ i) (h1 : i < L.length) (wx : xWr h R sm cg ca) (hR : R.length < 600000) (hca : 0 ≤ ca ∧ ca ≤ 100000) {K : zH → Prop}
    (k : ∀ h1, frX weA fiR h h1 → xWr h1 (wr R sm (cgS t nc T C rn rt rs (L.getD i.toNat 0))).1 (wr R sm (cgS t nc T C rn rt rs (L.getD i.toNat 0))).2 cg (ca + crS t nc T C rn rt rs (L.getD i.toNat 0)) → K h1) : zC0 39 [vR 2 100, vR a 102, vI i] h K := by
  have hnd := g.hd
  have e8 := xw.2.1 i.toNat (by omega)
  rw [show ((i.toNat : Nat) : Int) = i by omega] at e8
  have mv := hL _ (getD_m (L := L) (k := i.toNat) (by omega))
  have x121 := s121 (h := h) (i := i) xw (fun v hv => (hL v hv).1) hnd.2 hl h0 h1 (K := fun v4 h4 => (0 ≤ (v4 : Int)) ∧ ((v4 : Int) < 8) ∧ (((gR h4 53 v4) : Nat) = 0 → (none : Option zV) = none ∧ K h4) ∧ (¬ (((gR h4 53 v4) : Nat) = 0) → (0 ≤ (i : Int)) ∧ ((i : Int) < 60) ∧ (zty 103 (gR h4 53 v4) h4) ∧ zC1 91 [vR 56 105, vR a 102, vR (gR h4 53 v4) 103, vI (gI h4 78 i)] h4 (fun v5 h5 => (v5 = 0 → (none : Option zV) = none ∧ K h5) ∧ (¬ (v5 = 0) → (0 ≤ (i : Int)) ∧ ((i : Int) < 60) ∧ (zty 103 (gR h4 53 v4) h5) ∧ zC0 126 [vR 82 108, vR a 102, vR (gR h4 53 v4) 103, vI (gI h5 78 i), vR 56 105] h5 (fun h6 => (none : Option zV) = none ∧ K h6)))))
  refine cV (k39_0 a i h _ (x121 ?_))
  generalize L.getD i.toNat 0 = v at *
  obtain ⟨hx, e, L', hw⟩ := lsR_f mv.2
  unfold cgS crS at k
  rw [hw] at k
  dsimp only at k
  generalize hxx : lsR t T rn rt rs v = x at *
  have gd := o.gd hx.1 hx.2
  have ux := (u x hx.1.1 hx.1.2).2 hx.2
  refine ⟨hx.1.1, hx.1.2, fun c => by omega, fun _ => ⟨h0, by omega, ux.2.2.1, ?_⟩⟩
  rw [e8]
  refine s91x g y ty (by omega) o u hx mv.1 (fun c => by rw [hw] at c; cases c) (fun e' L2 hw' h5 fs f5 => ⟨fun c => by omega, fun _ => ⟨h0, by omega, ?_, ?_⟩⟩)
  · rw [f5.ty]; exact ux.2.2.1
  · have ee : e' = e := by rw [hw] at hw'; cases hw'; rfl
    subst ee
    have e85 : gI h5 78 i = v := by rw [f5.1 _ _ (by unfold fiA; omega)]; exact e8
    have y5 := y.fx f5 (fun b k _ _ => by unfold fiA; omega)
    have q5 : xQ h5 (gR h 53 x) (rt x) (rn x) (rs x) := ux.2.2.cg (by rw [f5.ty]; exact ux.2.2.1) (fun b k q1 q2 => f5.1 _ _ (by unfold fiA; omega)) (f5.le _)
    have wx5 : xWr h5 R sm cg ca := by
      obtain ⟨w0, w1, w2, w3, w4, w5, w6⟩ := wx
      have d : ∀ b k, 82 ≤ b → gI h5 b k = gI h b k := fun b k q => f5.1 _ _ (by unfold fiA; omega)
      refine ⟨?_, ?_, ?_, ?_, ?_, ?_, fun i i0 i1 => ?_⟩
      · rw [d _ _ (by omega)]; exact w0
      · rw [d _ _ (by omega)]; exact w1
      · rw [d _ _ (by omega)]; exact w2
      · rw [d _ _ (by omega)]; exact w3
      · rw [d _ _ (by omega)]; exact w4
      · rw [d _ _ (by omega)]; exact w5
      · rw [d _ _ (by omega)]; exact w6 i i0 i1
    rw [e85]
    refine s126 g y5 ha q5 gd.2 gd.1 (by omega) mv.1 hw fs wx5 hR hca (fun h6 f6 x6 => zq0 (k h6 ?_ x6))
    exact (f5.mo (fun b k q => Or.inl q) (fun b k q => q)).tr ((f6.x).mo (fun b k q => Or.inr q) (fun b k q => q))
theorem wr_nil {R : List Int} : wr [] 0 R = (R, 0) := by rw [wr_0]; rfl
theorem s38 {L : List Int} {Fb : Int → Int} {i cg : Int} (g : sF t n nd nc T C) (y : xU h a t n nd nc T C) (ha : a + 16 ≤ 53) (o : slO rn rt rs) (u : xRu h 53 rn rt rs) (xw : xWk h nd (lsR t T rn rt rs) Fb L) (hL : ∀ v, v ∈ L → (0 ≤ v ∧ v < nd) ∧ ¬ lsR t T rn rt rs v = -1) (hl : L.length ≤ 60) (h0 : 0 ≤ i) (h1 : i < L.length) {K : Nat → zH → Prop}
    (k : ∀ h1, frX weA fiR h h1 → xWr h1 (cgS t nc T C rn rt rs (L.getD i.toNat 0)) 0 cg (crS t nc T C rn rt rs (L.getD i.toNat 0)) → K 82 h1) : zCr 38 108 [vR 2 100, vI i, vI cg] h K := by
  refine cA (k38_0 i cg h _ (s123 (fun h3 f3 x3 => ?_)))
  have F3 : frX weA fiR h h3 := (f3.x).mo (fun b k q => Or.inr (by unfold wrA at q; unfold wsA; omega)) (fun b k q => q)
  have y3 := y.fx F3 (fun b k _ _ => by unfold weA fiA wsA; omega) (by unfold fiR; omega)
  have u3 : xRu h3 53 rn rt rs := u.fx F3 (fun b k _ _ => by unfold weA fiA wsA; omega) (fun k _ _ => by unfold fiR; omega)
  have xw3 : xWk h3 nd (lsR t T rn rt rs) Fb L := by
    refine ⟨by rw [f3.1 _ _ (by unfold wrA; omega)]; exact xw.1, fun k hk => by rw [f3.1 _ _ (by unfold wrA; omega)]; exact xw.2.1 k hk, fun v v0 v1 => ?_⟩
    rw [f3.1 _ _ (by unfold wrA; omega), f3.1 _ _ (by unfold wrA; omega)]; exact xw.2.2 v v0 v1
  rw [y3.1]
  refine ⟨y3.2.1, s39 g y3.2.2 y3.2.1 ha o u3 xw3 hL hl h0 h1 x3 (by simp) (by omega) (fun h4 f4 x4 => zqr (k h4 (F3.tr f4) ?_))⟩
  rw [wr_nil, Int.zero_add] at x4; exact x4
end ED
