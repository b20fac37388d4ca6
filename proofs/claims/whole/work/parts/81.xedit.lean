/-! The class: an edit is written. -/
section XE
variable {h : zH} {t w : Int → Int} {n nd nc m b0 v : Int} {T C : pT} {s s1 : pS} {a r : Nat} {B E : Int → Int} {L : List Int} {sm cg ca : Int} {e : fZ}
theorem s127 (g : sF t n nd nc T C) (y : xN h a t n nd nc T C) (ha : a + 16 ≤ 53) (q : xQ h r w m s) (gd : rGd w m s1 s) (x : rEn w m 1 b0 s) (hN : s 0 0 1 ≤ 40) (hr : 87 ≤ r) (hv : 0 ≤ v ∧ v < nd) {L' : List fZ} (hw : wAl t w T s1 0 v = e :: L') (fs : fS h e 0 (s1 1 0 9)) {i : Int} (i0 : b0 ≤ i) (i1 : i < s 0 0 1) {K : zH → Prop}
    (k : ∀ h1, frP (fun b k => (b = 85 ∨ b = 86) ∧ k = i) h h1 → ((s 1 i 1 = -1 → gI h1 85 i = 0 ∧ gI h1 86 i = 0) ∧ (¬ s 1 i 1 = -1 → gI h1 85 i = hBg T s1 e (s 1 i 1) ∧ gI h1 86 i = hEn T s1 e (s 1 i 1))) → K h1) : zC0 127 [vR 82 108, vR a 102, vR r 103, vI i, vR 56 105] h K := by
  have N := x.N
  have en := gd.en
  have N1 := en.1.N
  have rt := en.1.rt
  have ct := x.ct1 i0 i1
  have hnd := g.hd
  refine cV (k127_0 a r i h _ ⟨by omega, by omega, fun h6 e6 => ⟨by omega, by omega, fun h7 e7 => ⟨by omega, by omega, ?_⟩⟩⟩)
  have f7 : frP (fun b k => (b = 85 ∨ b = 86) ∧ k = i) h h7 := by rw [e7, e6]; exact (frP.rf.st ⟨Or.inl rfl, rfl⟩).st ⟨Or.inr rfl, rfl⟩
  have q7 := q.fr f7 (fun b k _ _ => by omega)
  have z7 : gI h7 85 i = 0 ∧ gI h7 86 i = 0 := by
    rw [e7, gS1, gS, if_neg (by omega), e6, gS1]; exact ⟨rfl, rfl⟩
  have e1 : gI h7 (r + 4) i = s 1 i 1 := q7.2.2.1 i 1 (by omega) (by omega) (by omega)
  rw [e1]
  refine ⟨fun c => ⟨by omega, by omega, s68 (gd.xp q7) en.1 ⟨Int.le_refl _, by omega⟩ ?_⟩, fun c => ?_⟩
  · rw [show s1 0 0 1 = s1 1 0 9 by omega]
    have l0 : 0 ≤ s 1 i 1 := by omega
    have fs7 := fs.fr f7 (fun b k _ _ _ _ => by omega)
    have y7 := y.fr f7 (fun b k _ _ => by omega)
    refine k127_39 a _ i _ _ h7 _ ⟨fun d => zq0 (k h7 f7 ⟨fun z => absurd z c, fun _ => ?_⟩), fun d => ?_⟩
    · unfold hBg hEn; rw [if_pos (Or.inl d), if_pos (Or.inl d)]; exact z7
    · rcases hF_rg (s := s1) (bs := 0) (l := s 1 i 1) (show 0 ≤ s1 1 0 9 by omega) with z | z
      · exact absurd z d
      have fy := fs7 _ z.1 z.2.1
      rw [fy.2.2.1]
      refine ⟨z.1, by omega, fun d1 => zq0 (k h7 f7 ⟨fun u => absurd u c, fun _ => ?_⟩), fun d1 => ?_⟩
      · unfold hBg hEn; rw [if_pos (Or.inr (Or.inl d1)), if_pos (Or.inr (Or.inl d1))]; exact z7
      · have hr' := held_r g en.1 en.2 hv hw l0 d d1
        have r0 : 0 ≤ e 0 (hF s1 0 (s 1 i 1) (s1 1 0 9)) ∧ e 0 (hF s1 0 (s 1 i 1) (s1 1 0 9)) < nd := hr'.2.2.1 0 (by omega)
        have r1 := hr'.2.2.1 (e 2 (hF s1 0 (s 1 i 1) (s1 1 0 9)) - 1).toNat (by omega)
        rw [← hr'.2.2.2] at r1
        have nc' : ¬ (hF s1 0 (s 1 i 1) (s1 1 0 9) = -1 ∨ e 2 (hF s1 0 (s 1 i 1) (s1 1 0 9)) ≤ 0 ∨ s 1 i 1 < 0) := by omega
        have kk := fun h1 f1 p => k h1 f1 ⟨fun u => absurd u c, fun _ => p⟩
        unfold hBg hEn at kk
        rw [if_neg nc', if_neg nc'] at kk
        clear nc'
        generalize hF s1 0 (s 1 i 1) (s1 1 0 9) = p at *
        have yb := y7.2.2.2.1 (e 0 p) r0.1 r0.2
        rw [fy.1, yb.2.2.2.2.1]
        refine ⟨z.1, by omega, r0.1, by omega, by omega, by omega, fun h9 e9 => ?_⟩
        have f9 : frP (fun b k => (b = 85 ∨ b = 86) ∧ k = i) h h9 := by rw [e9]; exact f7.st ⟨Or.inl rfl, rfl⟩
        have p58 : gI h9 58 p = e 1 p := by rw [e9, gS, if_neg (by omega)]; exact fy.2.1
        have y9 := y.fr f9 (fun b k _ _ => by omega)
        have ye := y9.2.2.2.1 (e 1 p) r1.1 r1.2
        rw [p58, ye.2.2.2.2.2.1]
        refine ⟨z.1, by omega, r1.1, by omega, by omega, by omega, fun h10 e10 => zq0 (kk h10 (by rw [e10]; exact f9.st ⟨Or.inr rfl, rfl⟩) ⟨?_, ?_⟩)⟩
        · rw [e10, gS, if_neg (by omega), e9, gS1]
        · rw [e10, gS1]
  · have c := Classical.not_not.1 c
    exact k127_39 a _ i _ _ h7 _ ⟨fun _ => zq0 (k h7 f7 ⟨fun _ => z7, fun z => absurd c z⟩), fun d => absurd rfl d⟩
theorem s128 (g : sF t n nd nc T C) (q : xQ h r w m s) (x : rEn w m 1 b0 s) (h8 : s 0 0 8 = b0) (hN : s 0 0 1 ≤ 40) (hl : hlG n nc C B E) (xh : xHl h s b0 B E) {j : Int} (j0 : 0 ≤ j) (j1 : j < nc) {K : Int → zH → Prop} (k : K (b2i (hdC C s B E j)) h) : zC1 128 [vR 82 108, vR r 103, vI (C j 0), vI (C j 0 + C j 1)] h K := by
  have N := x.N
  have cm := g.cm j0 j1
  have rt := x.rt
  have iff : ∀ i, b0 ≤ i → i < s 0 0 1 → ((gI h 85 i ≤ C j 0 ∧ C j 0 + C j 1 ≤ gI h 86 i) ↔ (isLt s (s 4 i 0) ∧ B (s 7 (s 4 i 0) 1) ≤ C j 0 ∧ C j 0 < E (s 7 (s 4 i 0) 1))) := by
    intro i i0 i1
    have ct := x.ct1 i0 i1
    have hi := xh i i0 i1
    by_cases c : s 1 i 1 = -1
    · have z := hi.1 c
      rw [z.1, z.2]
      exact ⟨fun u => by omega, fun u => by unfold isLt at u; omega⟩
    · have z := hi.2 c
      have lt : isLt s (s 4 i 0) ∧ s 7 (s 4 i 0) 1 = s 1 i 1 := by unfold isLt; omega
      rw [z.1, z.2, lt.2]
      refine ⟨fun u => ⟨lt.1, u.1, by omega⟩, fun u => ⟨u.2.1, ?_⟩⟩
      rcases hl (s 1 i 1) with p | p
      · omega
      · exact p.2.2.2 j j0 j1 u.2.2
  have key : ∀ (f : Nat) (i : Int), s 0 0 1 - i = f → b0 ≤ i → ((∃ p, i ≤ p ∧ p < s 0 0 1 ∧ (gI h 85 p ≤ C j 0 ∧ C j 0 + C j 1 ≤ gI h 86 p)) ↔ hdC C s B E j) → zK 128 6 [vR 82 108, vR r 103, vI (C j 0), vI (C j 0 + C j 1), vI i] [] h (fun r h1 => ∃ v : Int, r = some (Sum.inl v) ∧ K v h1) := by
    intro f
    induction f with
    | zero =>
      intro i hi i0 hd
      refine k128_6 r _ _ i h _ ?_
      rw [q.2.2.2.1]
      refine ⟨fun _ => ⟨Or.inl rfl, zq1 ?_⟩, fun c => absurd (by omega) c⟩
      rwa [b2i_neg (fun z => by obtain ⟨p, p0, p1, _⟩ := hd.2 z; omega)] at k
    | succ f ih =>
      intro i hi i0 hd
      have no : ¬ (gI h 85 i ≤ C j 0 ∧ C j 0 + C j 1 ≤ gI h 86 i) → zK 128 6 [vR 82 108, vR r 103, vI (C j 0), vI (C j 0 + C j 1), vI (i + 1)] [] h (fun r h1 => ∃ v : Int, r = some (Sum.inl v) ∧ K v h1) := by
        intro c
        refine ih (i + 1) (by omega) (by omega) ?_
        rw [← hd]
        constructor
        · rintro ⟨p, p0, p1, z⟩
          exact ⟨p, by omega, p1, z⟩
        · rintro ⟨p, p0, p1, z⟩
          refine ⟨p, ?_, p1, z⟩
          by_cases d : p = i
          · subst d; exact absurd z c
          · omega
      refine k128_6 r _ _ i h _ ?_
      rw [q.2.2.2.1]
      refine ⟨fun c => absurd c (by omega), fun _ => ⟨by omega, by omega, fun c => ⟨by unfold inR; omega, no (by omega)⟩, fun c => ⟨by omega, by omega, fun d => ⟨by unfold inR; omega, no (by omega)⟩, fun d => ⟨Or.inr rfl, zq1 ?_⟩⟩⟩⟩
      rwa [b2i_pos (hd.1 ⟨i, by omega, by omega, by omega, by omega⟩)] at k
  refine cI (k128_0 r _ _ h _ ?_)
  rw [q.2.2.2.2.1, h8]
  refine key (s 0 0 1 - b0).toNat b0 (by omega) (by omega) ⟨?_, ?_⟩
  · rintro ⟨p, p0, p1, z⟩
    have tk := x.tk p0 p1
    rw [show kid 1 = 7 from rfl] at tk
    have z := (iff p p0 p1).1 z
    exact ⟨s 4 p 0, tk.1, by omega, z⟩
  · rintro ⟨p, p0, p1, z⟩
    obtain ⟨i, i0, i1, ei⟩ := tok_it x (s 0 0 1 - b0).toNat b0 p (by omega) (by omega) N.2.1 (by omega) p1 (by have := z.1; unfold isLt at this; omega)
    exact ⟨i, i0, i1, (iff i i0 i1).2 (by rw [ei]; exact z)⟩
/-- all that comes for an edit -/
noncomputable def cmg (t w : Int → Int) (nc : Int) (T C : pT) (s s1 : pS) (e : fZ) (v : Int) : List Int := cmL t C (crP T C s (hBg T s1 e) (hEn T s1 e) v) nc.toNat 0 ++ tkL t w s (hBg T s1 e) (hEn T s1 e) (s 0 0 7).toNat 0
theorem rGd.e1 (gd : rGd w m s1 s) : rEn w m 1 (s1 0 0 1) s ∧ s 0 0 8 = s1 0 0 1 ∧ s 0 0 1 ≤ 40 := by
  have N1 := gd.en.1.N
  have e : rEn w m 1 (s1 0 0 1) s := ⟨gd.2.2.2.1, gd.2.2.2.2.1, gd.2.2.2.2.2.1⟩
  have N := e.N
  exact ⟨e, gd.2.2.2.2.2.2.1, by omega⟩
theorem s126 (g : sF t n nd nc T C) (y : xN h a t n nd nc T C) (ha : a + 16 ≤ 53) (q : xQ h r w m s) (o : tOk w m) (gd : rGd w m s1 s) (hr : 87 ≤ r) (hv : 0 ≤ v ∧ v < nd) {L' : List fZ} (hw : wAl t w T s1 0 v = e :: L') (fs : fS h e 0 (s1 1 0 9)) (wx : xWr h L sm cg ca) (hL : L.length < 600000) (hca : 0 ≤ ca ∧ ca ≤ 100000) {K : zH → Prop}
    (k : ∀ h1, frP wsA h h1 → xWr h1 (wr L sm (cmg t w nc T C s s1 e v)).1 (wr L sm (cmg t w nc T C s s1 e v)).2 cg (ca + cnt (crP T C s (hBg T s1 e) (hEn T s1 e) v) nc.toNat 0) → K h1) : zC0 126 [vR 82 108, vR a 102, vR r 103, vI v, vR 56 105] h K := by
  obtain ⟨x, h8, hN⟩ := gd.e1
  have N := x.N
  have hnd := g.hd
  have hnc := g.hc
  have hn := g.hn
  have hlo : hlG n nc C (hBg T s1 e) (hEn T s1 e) := hl_ok g gd.en.1 gd.en.2 hv hw
  obtain ⟨B, hB⟩ : ∃ B, B = hBg T s1 e := ⟨_, rfl⟩
  obtain ⟨E, hE⟩ : ∃ E, E = hEn T s1 e := ⟨_, rfl⟩
  unfold cmg at k
  rw [← hB, ← hE] at k hlo
  have hE3 : ∀ l, 0 ≤ B l ∧ E l ≤ 300 := fun l => by rcases hlo l with z | z <;> omega
  -- behind the held texts
  have com : ∀ (f : Nat) (j : Int) (h1 : zH) (u6 u7 u8 : zV), nc - j = f → 0 ≤ j → frP wsA h h1 → xHl h1 s (s1 0 0 1) B E → xWr h1 (wr L sm (cmL t C (crP T C s B E v) j.toNat 0)).1 (wr L sm (cmL t C (crP T C s B E v) j.toNat 0)).2 cg (ca + cnt (crP T C s B E v) j.toNat 0) → zK 126 34 [vR 82 108, vR a 102, vR r 103, vI v, vR 56 105, vI j, u6, u7, u8] [] h1 (fun r h1 => r = none ∧ K h1) := by
    intro f
    induction f with
    | zero =>
      intro j h1 u6 u7 u8 hj j0 f1 xh x1
      have y1 := y.fr f1 (fun b k _ _ => by unfold wsA; omega)
      have q1 := q.fr f1 (fun b k _ _ => by unfold wsA; omega)
      have ej : j.toNat = nc.toNat := by omega
      rw [ej] at x1
      have cl := cmL_450 g (P := crP T C s B E v) nc.toNat (by omega)
      refine k126_34 a r v (vR 56 105) j u6 u7 u8 h1 _ ⟨fun _ => s129 g y1 ha q1 o x h8 hN hr hlo xh x1 (by have := (wr_l (L := L) (sm := sm) (cmL t C (crP T C s B E v) nc.toNat 0)).1; omega) (fun h2 f2 x2 => zq0 (k h2 (f1.tr (f2.mo (fun b k z => by unfold wrA at z; unfold wsA; omega))) ?_)), fun c => absurd (by rw [y1.2.2.1]; omega) c⟩
      rw [wr_ap] at x2; exact x2
    | succ f ih =>
      intro j h1 u6 u7 u8 hj j0 f1 xh x1
      have y1 := y.fr f1 (fun b k _ _ => by unfold wsA; omega)
      have q1 := q.fr f1 (fun b k _ _ => by unfold wsA; omega)
      have cm := g.cm j0 (show j < nc by omega)
      have yc := y1.2.2.2.2 j j0 (by omega)
      have yv := y1.2.2.2.1 v hv.1 hv.2
      have cl := cmL_450 g (P := crP T C s B E v) j.toNat (by omega)
      have wl := (wr_l (L := L) (sm := sm) (cmL t C (crP T C s B E v) j.toNat 0)).1
      have cr := cnt_rg (crP T C s B E v) j.toNat 0
      have ap := cmL_ap (t := t) (C := C) (P := crP T C s B E v) j.toNat 1 0
      have aq := cnt_ap (P := crP T C s B E v) j.toNat 1 0
      rw [show j.toNat + 1 = (j + 1).toNat by omega, show (0 : Int) + ((j.toNat : Nat) : Int) = j by omega] at ap aq
      -- not carried
      have no : ¬ crP T C s B E v j → ∀ u6 u7 u8, zK 126 34 [vR 82 108, vR a 102, vR r 103, vI v, vR 56 105, vI (j + 1), u6, u7, u8] [] h1 (fun r h1 => r = none ∧ K h1) := by
        intro c u6 u7 u8
        refine ih (j + 1) h1 u6 u7 u8 (by omega) (by omega) f1 xh ?_
        rw [cmL_n c, cmL, List.append_nil] at ap
        rw [cnt_n c, cnt, Int.add_zero] at aq
        rw [ap, aq]; exact x1
      have jn : ∀ z : Int, (z = 0 ↔ ¬ (T v 4 ≤ C j 0 ∧ C j 0 < T v 5)) → ∀ u8, zK 126 91 [vR 82 108, vR a 102, vR r 103, vI v, vR 56 105, vI j, vI (C j 0), vI (C j 0 + C j 1), u8] [vI z] h1 (fun r h1 => r = none ∧ K h1) := by
        intro z hz u8
        refine k126_91 a r v (vR 56 105) j _ _ u8 z h1 _ ⟨fun c => ⟨by unfold inR; omega, no (fun d => hz.1 c d.1) _ _ _⟩, fun c => s128 g q1 x h8 hN hlo xh j0 (by omega) ⟨fun d => ⟨by unfold inR; omega, no (fun u => ?_) _ _ _⟩, fun d => ?_⟩⟩
        · rw [b2i_ne0] at d; exact u.2 d
        · have d := Classical.not_not.1 d
          rw [b2i_eq0] at d
          have cp : crP T C s B E v j := ⟨Classical.not_not.1 (fun u => c (hz.2 u)), d⟩
          refine s131 y1.1 g.1 (by omega) (by omega) x1 (by omega) (fun h2 f2 x2 => ?_)
          have rl := rowS_l t (C j 0 + C j 1 - C j 0).toNat (C j 0)
          have wl2 := (wr_l (L := (wr L sm (cmL t C (crP T C s B E v) j.toNat 0)).1) (sm := (wr L sm (cmL t C (crP T C s B E v) j.toNat 0)).2) (rowS t (C j 0 + C j 1 - C j 0).toNat (C j 0))).1
          refine s132 x2 (by omega) (fun h3 f3 x3 => ?_)
          rw [x3.2.1]
          refine ⟨by unfold inR; omega, fun h12 e12 => ⟨by unfold inR; omega, ih (j + 1) h12 _ _ _ (by omega) (by omega) ?_ ?_ ?_⟩⟩
          · rw [e12]; exact (f1.tr ((f2.tr f3).mo (fun b k z => by unfold wrA at z; unfold wsA; omega))).st (by unfold wsA; omega)
          · exact xh.fr (show frP wrA h1 h12 by rw [e12]; exact (f2.tr f3).st (by unfold wrA; omega)) (fun k => by unfold wrA; omega)
          · rw [cmL_y cp, cmL, List.append_nil, show (C j 1).toNat = (C j 0 + C j 1 - C j 0).toNat by omega] at ap
            rw [cnt_y cp, cnt, Int.add_zero] at aq
            rw [ap, aq]
            have s0 : (wr L sm (cmL t C (crP T C s B E v) j.toNat 0 ++ (rowS t (C j 0 + C j 1 - C j 0).toNat (C j 0) ++ [32]))).2 = 0 := by
              rw [← List.append_assoc, ← wr_ap]; rfl
            rw [s0, ← List.append_assoc, ← wr_ap, ← wr_ap, ← Int.add_assoc, e12]
            exact x3.cary
      refine k126_34 a r v (vR 56 105) j u6 u7 u8 h1 _ ?_
      rw [y1.2.2.1, yc.1, yc.2.1, yv.2.2.2.2.1, yv.2.2.2.2.2.1]
      refine ⟨fun c => absurd c (by omega), fun _ => ⟨by omega, by omega, by omega, by omega, by unfold inR; omega, by omega, by omega, fun c => k126_90 a r v _ j _ _ _ h1 _ (jn 0 ⟨fun _ => by omega, fun _ => rfl⟩ _), fun c => ⟨by omega, by omega, fun d => k126_90 a r v _ j _ _ _ h1 _ (jn 0 ⟨fun _ u => ?_, fun _ => rfl⟩ _), fun d => jn 1 ⟨fun u => by omega, fun u => absurd ⟨by omega, by omega⟩ u⟩ _⟩⟩⟩
      have := g.ce j0 (show j < nc by omega) hv.1 hv.2 u.2
      omega
  have hel : ∀ (f : Nat) (i : Int) (h1 : zH) (u6 u7 u8 : zV), s 0 0 1 - i = f → s1 0 0 1 ≤ i → frP (fun b _ => b = 85 ∨ b = 86) h h1 → (∀ p, s1 0 0 1 ≤ p → p < i → (s 1 p 1 = -1 → gI h1 85 p = 0 ∧ gI h1 86 p = 0) ∧ (¬ s 1 p 1 = -1 → gI h1 85 p = B (s 1 p 1) ∧ gI h1 86 p = E (s 1 p 1))) → zK 126 6 [vR 82 108, vR a 102, vR r 103, vI v, vR 56 105, vI i, u6, u7, u8] [] h1 (fun r h1 => r = none ∧ K h1) := by
    intro f
    induction f with
    | zero =>
      intro i h1 u6 u7 u8 hi i0 f1 xh
      have q1 := q.fr f1 (fun b k _ _ => by omega)
      refine k126_6 a r v i u6 u7 u8 h1 _ ?_
      rw [q1.2.2.2.1]
      refine ⟨fun _ => com nc.toNat 0 h1 _ _ _ (by omega) (by omega) (f1.mo (fun b k z => by unfold wsA; omega)) (fun p p0 p1 => xh p p0 (by omega)) ?_, fun c => absurd (by omega) c⟩
      rw [show (0 : Int).toNat = 0 from rfl, cmL, cnt, Int.add_zero]
      exact wx.fr f1 (fun k => by omega)
    | succ f ih =>
      intro i h1 u6 u7 u8 hi i0 f1 xh
      have q1 := q.fr f1 (fun b k _ _ => by omega)
      refine k126_6 a r v i u6 u7 u8 h1 _ ?_
      rw [q1.2.2.2.1]
      refine ⟨fun c => absurd c (by omega), fun _ => s127 g (y.fr f1 (fun b k _ _ => by omega)) ha q1 gd x hN hr hv hw (fs.fr f1 (fun b k _ _ _ _ => by omega)) i0 (by omega) (fun h2 f2 p2 => ⟨by unfold inR; omega, ih (i + 1) h2 u6 u7 u8 (by omega) (by omega) (f1.tr (f2.mo (fun b k z => z.1))) (fun p p0 p1 => ?_)⟩)⟩
      by_cases c : p = i
      · subst c; rw [hB, hE]; exact p2
      · rw [f2.1 _ _ (by omega), f2.1 _ _ (by omega)]; exact xh p p0 (by omega)
  refine cV (k126_0 a r v h _ ?_)
  rw [q.2.2.2.2.1, h8]
  exact hel (s 0 0 1 - s1 0 0 1).toNat _ h _ _ _ (by omega) (by omega) frP.rf (fun p p0 p1 => by omega)
end XE
