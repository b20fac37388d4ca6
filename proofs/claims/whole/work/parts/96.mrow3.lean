/-! The model: the tests of a pattern. -/
section MT3
variable {w : Int → Int} {m x : Int} {s : pS}
/-- on to what lies behind item a -/
theorem tn_at {h : zH} {a t l4 : Int} {u3 : zV} {Q : Option zV → zH → Prop} (en : rEn w m 0 0 s) (a0 : 0 ≤ a) (a1 : a < s 0 0 1) (nc : ncS s a) (pa : pAt h (pth s a)) (hl : (pth s a).length ≤ l4) (k : ∀ h1, frP opA h h1 → pAt h1 (nxP s a) → ∀ u3 u4, zK 210 35 [vR 127 111, vI x, vI t, u3, u4] [] h1 Q) : zK 210 99 [vR 127 111, vI x, vI t, u3, vI l4] [] h Q := by
  have l20 := pth_20 en a0 a1
  refine k210_99 x t u3 l4 h Q ?_
  rw [pa.1]
  by_cases c : a = 0
  · subst c
    have e := pth_0 en
    have e2 : nxP s 0 = [] := by unfold nxP; rw [if_pos rfl]
    rw [e] at pa ⊢
    rw [e2] at k
    exact ⟨fun _ => k h frP.rf pa _ _, fun d => absurd (by show (0 : Int) ≤ 0; omega) d⟩
  · have e := pth_s en (i := a) (by omega) a1
    have q := ncS_p en nc (by omega) a1
    have par := en.par (j := a) (by omega) a1
    have pi := en.pi par.1 ⟨par.2.1, a1, rfl⟩ q.1
    have m0 := en.m0 par.1 (by omega)
    have N := en.N
    have ll : (pth s a).length = (pth s (s 1 a 3)).length + 1 := by rw [e, List.length_append]; rfl
    have z : gI h 157 ((pth s a).length - 1) = s 1 a 5 := by
      rw [show ((pth s a).length : Int) - 1 = ((pth s (s 1 a 3)).length : Nat) by omega, pa.2 _ (by omega), e, getD_e]
    rw [z]
    refine ⟨fun d => absurd d (by omega), fun _ => ⟨fun d => absurd d (by omega), fun _ => ⟨by unfold inR; omega, by omega, by omega, by unfold inR; omega, by omega, by omega, fun h14 e14 => ?_⟩⟩⟩
    refine k h14 (by rw [e14]; exact frP.rf.st (Or.inr rfl)) ?_ _ _
    rw [e14, show ((pth s a).length : Int) - 1 = ((pth s (s 1 a 3)).length : Nat) by omega]
    unfold nxP
    rw [if_neg c]
    rw [e] at pa
    exact pAt_in pa
/-- a term is closed -/
theorem cl_at {h : zH} {p c : Int} {Q : Option zV → zH → Prop} (en : rEn w m 0 0 s) (hm : m ≤ 300) (y : mPt h x w m s) (tc : gI h 140 (2 * x) = s 0 0 3) (p0 : 0 ≤ p) (p1 : p < s 0 0 1) (h4 : s 1 p 0 = 4) (nc : ncS s p) (pa : pAt h (pth s p ++ [c])) (k : ∀ h1, frP opA h h1 → pAt h1 (nxP s p) → ∀ u3 u4, zK 210 35 [vR 127 111, vI x, vI (bT 0 s p), u3, u4] [] h1 Q) (u3 u4 : zV) : zK 210 35 [vR 127 111, vI x, vI (s 3 (s 4 p 0) 2), u3, u4] [] h Q := by
  have l20 := pth_20 en p0 p1
  have hx := y.1
  have t4 := en.t40
  have cl := en.cl p0 p1 h4
  rw [show kid 0 = 3 from rfl] at cl
  have tk := en.tk3 p0 p1
  refine k210_35 x (s 3 (s 4 p 0) 2) u3 u4 h Q ?_
  rw [tc]
  refine ⟨by unfold inR; omega, by omega, by omega, fun d => absurd d (by omega), fun _ => s179 0 y ⟨by omega, by omega⟩ t4 (by omega) ⟨fun d => absurd cl.1 d, fun _ => ?_⟩⟩
  refine k210_65 x _ u3 u4 1 h Q ⟨fun d => absurd d (by omega), fun _ => ?_⟩
  have z : gI h 127 49 = ((pth s p).length : Int) + 1 := by rw [pa.1, List.length_append]; rfl
  rw [z]
  refine ⟨by unfold inR; omega, fun h13 e13 => ⟨by unfold inR; omega, ?_⟩⟩
  rw [show ((pth s p).length : Int) + 1 - 1 = ((pth s p).length : Nat) by omega] at e13
  rw [← cl.2]
  refine tn_at en p0 p1 nc (by rw [e13]; exact pAt_up pa) (by omega) (fun h1 f1 q1 u3 u4 => k h1 (frP.tr (by rw [e13]; exact frP.rf.st (Or.inl ⟨rfl, rfl⟩)) f1) q1 u3 u4)
/-- behind an item: on to the next, or the end -/
theorem bh_at (en : rEn w m 0 0 s) (hm : m ≤ 300) {Q : Option zV → zH → Prop} : ∀ (f : Nat) (a : Int) (h : zH), a < f → 0 ≤ a → a < s 0 0 1 → ncS s a → mPt h x w m s → gI h 140 (2 * x) = s 0 0 3 → pAt h (nxP s a) →
    (a + s 1 a 9 < s 0 0 1 → ∀ h1, frP opA h h1 → pAt h1 (pth s (a + s 1 a 9)) → ∀ u3 u4, zK 210 35 [vR 127 111, vI x, vI (s 4 (a + s 1 a 9) 0), u3, u4] [] h1 Q) →
    (¬ a + s 1 a 9 < s 0 0 1 → ∀ h1, frP opA h h1 → ∀ u3 u4, zK 210 35 [vR 127 111, vI x, vI (s 0 0 3), u3, u4] [] h1 Q) → ∀ u3 u4, zK 210 35 [vR 127 111, vI x, vI (bT 0 s a), u3, u4] [] h Q := by
  intro f
  induction f with
  | zero => intro a h h0 h1; omega
  | succ f ih =>
    intro a h hf a0 a1 nc y tc pa k1 k2 u3 u4
    by_cases c : a = 0
    · subst c
      have rt := en.rt
      rw [show kid 0 = 3 from rfl] at rt
      rw [← rt.2.2.1]
      exact k2 (by omega) h frP.rf u3 u4
    · have q := ncS_p en nc (by omega) a1
      have par := en.par (j := a) (by omega) a1
      have ip : iP s (s 1 a 3) a := ⟨par.2.1, a1, rfl⟩
      have en1 : nxP s a = pth s (s 1 a 3) ++ [s 1 a 5 + 1] := by unfold nxP; rw [if_neg c]
      rw [en1] at pa
      by_cases d : s 1 a 5 + 1 < s 1 (s 1 a 3) 6
      · have nx := en.nx par.1 ip q.1 d
        obtain ⟨n1, n2, n3, n4, n5, n6⟩ := nx
        rw [← n4]
        refine k1 n1.2.1 h frP.rf ?_ u3 u4
        have := n1.1
        rw [pth_s en (by omega) n1.2.1, n2, n1.2.2]
        exact pa
      · have ls := en.ls par.1 ip q.1 d
        rw [show kid 0 = 3 from rfl] at ls
        obtain ⟨l1, l2, l3, l4, l5⟩ := ls
        rw [l3] at k1 k2
        rw [← l4]
        refine cl_at en hm y tc par.1 (by omega) q.1 q.2.2 pa (fun h1 f1 p1 => ih (s 1 a 3) h1 (by omega) par.1 (by omega) q.2.2 (y.fr hm f1 (fun k _ => by unfold opA; omega) (fun k => by unfold opA; omega)) (by rw [f1.1 _ _ (by unfold opA; omega)]; exact tc) p1 (fun z h2 f2 => k1 z h2 (f1.tr f2)) (fun z h2 f2 => k2 z h2 (f1.tr f2))) u3 u4
theorem s210 {h : zH} (y : mPt h x w m s) (hm : m ≤ 300) (tc : gI h 140 (2 * x) = s 0 0 3) (en : rEn w m 0 0 s) (p8 : rP8 s) {K : zH → Prop} (k : ∀ h1, frP (mtR x) h h1 → mRw h1 x s (tRw s) → K h1) : zC0 210 [vR 127 111, vI x] h K := by
  have hx := y.1
  have N := en.N
  have t4 := en.t40
  have l40 := tRw_l (s := s)
  have fin : ∀ (h1 : zH), frP (mtR x) h h1 → mRw h1 x s (tRw s) → ∀ u3 u4, zK 210 35 [vR 127 111, vI x, vI (s 0 0 3), u3, u4] [] h1 (fun r h1 => r = none ∧ K h1) := by
    intro h1 f1 r1 u3 u4
    refine k210_35 x _ u3 u4 h1 _ ?_
    rw [f1.1 140 _ (by unfold mtR; omega), tc]
    exact ⟨by unfold inR; omega, by omega, by omega, fun _ => zq0 (k h1 f1 r1), fun d => absurd (by omega) d⟩
  have key : ∀ (f : Nat) (i : Int) (fa : Int → Int) (R : List tst) (h1 : zH), s 0 0 1 - i ≤ f → 0 ≤ i → i < s 0 0 1 → ncS s i → frP (mtR x) h h1 → mRw h1 x s R → mSd h1 s fa → pAt h1 (pth s i) → R ++ tS s f i fa = tRw s → ∀ u3 u4, zK 210 35 [vR 127 111, vI x, vI (s 4 i 0), u3, u4] [] h1 (fun r h1 => r = none ∧ K h1) := by
    intro f
    induction f with
    | zero => intro i fa R h1 hf i0 i1; omega
    | succ f ih =>
      intro i fa R h1 hf i0 i1 nc f1 r1 sd1 pa1 eR u3 u4
      have tk := en.tk3 i0 i1
      have ct := en.ct i0 i1
      have n7 : ¬ s 3 (s 4 i 0) 0 = 7 := by omega
      clear ct
      have sp := en.sp i0 i1
      have l20 := pth_20 en i0 i1
      have y1 : mPt h1 x w m s := y.fr hm f1 (fun k _ => by unfold mtR; omega) (fun k => by unfold mtR; omega)
      have tc1 : gI h1 140 (2 * x) = s 0 0 3 := by rw [f1.1 140 _ (by unfold mtR; omega)]; exact tc
      -- behind item i
      have go : ∀ (h2 : zH) (R2 : List tst) (fa2 : Int → Int), frP (mtR x) h h2 → mRw h2 x s R2 → mSd h2 s fa2 → R2 ++ tS s f (i + s 1 i 9) fa2 = tRw s → pAt h2 (nxP s i) → ∀ u3 u4, zK 210 35 [vR 127 111, vI x, vI (bT 0 s i), u3, u4] [] h2 (fun r h1 => r = none ∧ K h1) := by
        intro h2 R2 fa2 f2 r2 sd2 e2 pa2
        have y2 : mPt h2 x w m s := y.fr hm f2 (fun k _ => by unfold mtR; omega) (fun k => by unfold mtR; omega)
        have tc2 : gI h2 140 (2 * x) = s 0 0 3 := by rw [f2.1 140 _ (by unfold mtR; omega)]; exact tc
        refine bh_at en hm (i + 1).toNat i h2 (by omega) i0 i1 nc y2 tc2 pa2 (fun z h3 f3 pa3 => ih _ fa2 R2 h3 (by omega) (by omega) z (ncS_n en nc i0 i1 (Or.inl rfl) z) (f2.tr (f3.mo (fun b k q => by unfold opA at q; unfold mtR; omega))) (r2.fr f3 (by unfold opA; omega) (fun b k _ _ => by unfold opA; omega)) (sd2.fr f3 (fun k => by unfold opA; omega)) pa3 e2) (fun z h3 f3 => fin h3 (f2.tr (f3.mo (fun b k q => by unfold opA at q; unfold mtR; omega))) ?_)
        have e3 : tS s f (i + s 1 i 9) fa2 = [] := by
          cases f with
          | zero => rfl
          | succ f => rw [tS, if_pos (by omega)]
        rw [e3, List.append_nil] at e2
        rw [← e2]
        exact r2.fr f3 (by unfold opA; omega) (fun b k _ _ => by unfold opA; omega)
      refine k210_35 x _ u3 u4 h1 _ ?_
      rw [tc1]
      refine ⟨by unfold inR; omega, by omega, by omega, fun d => absurd d (by omega), fun _ => s179 0 y1 ⟨tk.1, by omega⟩ t4 (by omega) ⟨fun _ => ?_, fun d => absurd n7 d⟩⟩
      refine k210_65 x _ u3 u4 0 h1 _ ⟨fun _ => ?_, fun d => absurd rfl d⟩
      rw [pa1.1]
      refine s209 hx y1 hm en p8 i0 i1 nc r1 pa1 sd1 (by rw [eR]; exact l40) (fun _ h2 R2 fa2 f2 r2 sd2 e2 => ?_) (fun o4 o7 h2 R2 f2 r2 sd2 pa2 e2 => ?_)
      · refine tn_at en i0 i1 nc (pa1.fr f2 (by omega) (fun k => by omega)) (by omega) (fun h3 f3 pa3 => go h3 R2 fa2 ((f1.tr (f2.mo (fun b k q => q.1))).tr (f3.mo (fun b k q => by unfold opA at q; unfold mtR; omega))) (r2.fr f3 (by unfold opA; omega) (fun b k _ _ => by unfold opA; omega)) (sd2.fr f3 (fun k => by unfold opA; omega)) (by rw [← e2]; exact eR) pa3)
      · have f2 := f1.tr f2
        have z : gI h2 127 49 = ((pth s i).length : Int) + 1 := by rw [pa2.1, List.length_append]; rfl
        refine k210_99 x _ _ _ h2 _ ?_
        rw [z]
        refine ⟨fun d => absurd d (by omega), fun _ => ⟨fun _ => ?_, fun d => absurd (by omega) d⟩⟩
        have m0 := en.m0 i0 i1
        by_cases c : s 1 i 6 = 0
        · have f0 := en.f0 i0 i1 o4 c
          rw [show kid 0 = 3 from rfl] at f0
          have y2 : mPt h2 x w m s := y.fr hm f2 (fun k _ => by unfold mtR; omega) (fun k => by unfold mtR; omega)
          have tc2 : gI h2 140 (2 * x) = s 0 0 3 := by rw [f2.1 140 _ (by unfold mtR; omega)]; exact tc
          rw [← f0.2.1]
          refine cl_at en hm y2 tc2 i0 i1 o4 nc pa2 (fun h3 f3 pa3 => go h3 R2 fa (f2.tr (f3.mo (fun b k q => by unfold opA at q; unfold mtR; omega))) (r2.fr f3 (by unfold opA; omega) (fun b k _ _ => by unfold opA; omega)) (sd2.fr f3 (fun k => by unfold opA; omega)) (by rw [f0.1, ← e2]; exact eR) pa3) _ _
        · have f1' := en.f1 i0 i1 o4 (by omega)
          obtain ⟨g1, g2, g3, g4, g5⟩ := f1'
          rw [← g4]
          refine ih (i + 1) fa R2 h2 (by omega) (by omega) g1.2.1 (ncS_n en nc i0 i1 (Or.inr ⟨rfl, o4, o7⟩) g1.2.1) f2 r2 sd2 ?_ (by rw [← e2]; exact eR) _ _
          rw [pth_s en (by omega) g1.2.1, g2, g1.2.2]
          exact pa2
  refine cV (k210_0 x h _ ⟨hx.1, hx.2, fun h8 e8 h9 e9 => ?_⟩)
  have f9 : frP (mtR x) h h9 := by rw [e9, e8]; exact (frP.rf.st (by unfold mtR; omega)).st (by unfold mtR; omega)
  have r9 : gI h9 150 x = 0 := by rw [e9, gS, if_neg (by omega), e8, gS1]
  have o9 : gI h9 127 49 = 0 := by rw [e9, gS1]
  have lp : ∀ (f : Nat) (l : Int) (h1 : zH), l + f = 26 → 0 ≤ l → frP (fun b _ => b = 158) h9 h1 → (∀ q, 0 ≤ q → q < l → gI h1 158 q = -1) → zK 210 14 [vR 127 111, vI x, vI l, vU, vU] [] h1 (fun r h1 => r = none ∧ K h1) := by
    intro f
    induction f with
    | zero =>
      intro l h1 hl l0 f1 v1
      refine k210_14 x l _ _ h1 _ ⟨fun _ => ?_, fun d => absurd (by omega) d⟩
      have rt := en.rt
      have := key 20 0 (fun _ => -1) [] h1 (by omega) (by omega) (by omega) (fun p p0 p1 => by omega) (f9.tr (f1.mo (fun b k q => by unfold mtR; omega))) ⟨by rw [f1.1 _ _ (by omega)]; exact r9, fun k y hy => by cases hy⟩ (fun l l0 l1 => ⟨fun _ => v1 l l0 (by omega), fun d => absurd rfl d⟩) (by rw [pth_0 en]; exact ⟨by rw [f1.1 _ _ (by omega)]; exact o9, fun k hk => absurd hk (by show ¬ k < 0; omega)⟩) rfl vU vU
      rw [rt.2.2.2] at this
      exact this
    | succ f ih =>
      intro l h1 hl l0 f1 v1
      refine k210_14 x l _ _ h1 _ ⟨fun d => absurd d (by omega), fun _ => ⟨l0, by omega, fun h10 e10 => ⟨by unfold inR; omega, ih (l + 1) h10 (by omega) (by omega) (by rw [e10]; exact f1.st rfl) (fun q q0 q1 => ?_)⟩⟩⟩
      rw [e10, gS]
      by_cases d : q = l
      · rw [if_pos ⟨rfl, d⟩]
      · rw [if_neg (by omega)]; exact v1 q q0 (by omega)
  exact lp 26 0 h9 (by omega) (by omega) frP.rf (fun q q0 q1 => by omega)
end MT3
