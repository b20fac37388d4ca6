/-! The model's walk along a pattern, from item to item. -/
section WC
variable {h h0 : zH} {t w : Int → Int} {n nd nc m z bs v : Int} {T C : pT} {s : pS} {ch : Nat → Nat}
theorem fA_b {st : fZ} {j : Int} (c : ¬ j = bs) (h4 : s 1 (s 1 j 3) 0 = 4) (hb : ¬ s 1 j 4 = -1) : fA s bs v st j = st 3 (s 1 j 4) ∧ fR T s bs st j = st 4 (s 1 j 4) := by
  constructor
  · unfold fA; rw [if_neg c, if_neg (by omega), if_neg hb]
  · unfold fR; rw [if_neg c, if_neg (by omega), if_neg hb]
theorem fA_f {st : fZ} {j : Int} (c : ¬ j = bs) (h4 : s 1 (s 1 j 3) 0 = 4) (hb : s 1 j 4 = -1) : fA s bs v st j = st 0 (s 1 j 3) + 1 ∧ fR T s bs st j = T (st 0 (s 1 j 3)) 3 := by
  constructor
  · unfold fA; rw [if_neg c, if_neg (by omega), if_pos hb]
  · unfold fR; rw [if_neg c, if_neg (by omega), if_pos hb]
/-- a leaf is held against a node -/
theorem s186 (g : sF t n nd nc T C) (x : rEn w m 0 0 s) (b : bsI s 0 bs) (y : mN h t n nd nc T C) (p : mPt h z w m s) (hm : m ≤ 300) {st : fZ} {j a r : Int} (j0 : bs ≤ j) (h1 : j < bs + s 1 bs 9) (vd : fVd nd T s bs st j) (ih : mIh h s bs st j) (ha : 0 ≤ a ∧ a < nd) (ho : ¬ s 1 j 0 = 2 ∧ ¬ s 1 j 0 = 4 ∧ ¬ s 1 j 0 = 5) {K : Int → zH → Prop}
    (q0 : ¬ (okI t w T s a j ∧ asb t T s bs (fO T st j a r 0) j) → K 0 h) (q1 : okI t w T s a j → asb t T s bs (fO T st j a r 0) j → ∀ h3, frP (fun b _ => b = 146 ∨ b = 147) h h3 → mIh h3 s bs (fO T st j a r 0) (j + 1) → K 1 h3) : zC1 186 [vR 127 111, vI z, vI (s 4 j 0), vI a] h K := by
  have b1 := b.1
  have t4 := x.t40
  have sp := x.sp b.1 b.2.1
  have tj := x.tk3 (j := j) (by omega) (by omega)
  have ct := x.ct (j := j) (by omega) (by omega)
  refine cI (k186_0 z (s 4 j 0) a h _ (s179 0 p (by omega) t4 (by omega) ?_))
  have emp : mIh h s bs (fO T st j a r 0) (j + 1) ∨ ¬ s 1 j 1 = -1 := by
    by_cases c : s 1 j 1 = -1
    · exact Or.inl (mIh_n (P := fun _ _ => False) b1 j0 ih c frP.rf (fun _ => ⟨id, id⟩))
    · exact Or.inr c
  rcases ct with q | q | q | q | q | q
  · have e1 : s 1 j 1 = -1 := q.2.2
    have k1 := q1 ⟨fun c => by omega, fun c => by omega, fun c => by omega⟩ (Or.inl e1) h frP.rf (by rcases emp with c | c; exact c; exact absurd e1 c)
    exact ⟨fun _ => ⟨Or.inr rfl, zq1 k1⟩, fun c => absurd q.2.1 c⟩
  · omega
  · obtain ⟨o1, w1, l0, l1, t1, t2, l5⟩ := q
    refine ⟨fun c => by omega, fun _ => ⟨fun _ => ?_, fun c => absurd (show s 3 (s 4 j 0) 0 = (0 : Int) + 1 by omega) c⟩⟩
    have hh := ih (s 1 j 1) l0 l1
    have ok : okI t w T s a j ↔ (s 1 j 2 = -1 ∨ s 1 j 2 = T a 0) := ⟨fun c => c.1 o1, fun c => ⟨fun _ => c, fun c => by omega, fun c => by omega⟩⟩
    have ah := asb_h (t := t) (T := T) (nd := nd) (a := a) (r := r) x b j0 h1 vd o1
    have my := mIh_y (l := a) (a := a) (r := 1) (y := a + T a 6) (f := r - 1) (P := fun _ _ => False) b1 j0 ih frP.rf (fun _ => ⟨id, id⟩) ⟨l0, l1⟩
    have ef : fU st j a a 1 (a + T a 6) (r - 1) = fO T st j a r 0 := by unfold fO; rw [show a + ((0 : Nat) : Int) = a by omega]
    rw [ef] at my
    refine s184 g y p (by omega) t4 ha (by omega) (fun c => ?_) (fun c => ⟨Or.inl rfl, zq1 ?_⟩) (fun c c1 => ⟨Or.inr rfl, zq1 ?_⟩) (fun c c1 => ⟨b2i_01, zq1 ?_⟩)
    · rw [t1] at c ⊢
      have hf : ¬ hF s bs (s 1 j 1) j = -1 := fun d => c (hh.1 d)
      rw [(hh.2 hf).2]; exact (ah hf).1
    · rw [t2] at c
      exact q0 (fun d => c (ok.1 d.1))
    · rw [t1] at c1 ⊢
      rw [t2] at c
      have hf : hF s bs (s 1 j 1) j = -1 := Classical.byContradiction (fun d => by
        have e := hh.2 d
        rcases hF_rg (s := s) (bs := bs) (l := s 1 j 1) j0 with q | q
        · exact d q
        · have cf := x.ct (j := hF s bs (s 1 j 1) j) (by omega) (by omega)
          rw [q.2.2] at cf
          have vf := (vd _ q.1 q.2.1).1 (by omega)
          omega)
      exact q1 (ok.2 c) (Or.inr (Or.inl hf)) _ ((frP.rf.st (Or.inl rfl)).st (Or.inr rfl)) (my.1 hf)
    · rw [t1] at c1 ⊢
      rw [t2] at c
      have hf : ¬ hF s bs (s 1 j 1) j = -1 := fun d => c1 (hh.1 d)
      rw [(hh.2 hf).2]
      by_cases ak : alk t T (st 0 (hF s bs (s 1 j 1) j)) a
      · rw [b2i_pos ak]
        exact q1 (ok.2 c) ((ah hf).2.2 ak) h frP.rf (my.2 hf)
      · rw [b2i_neg ak]
        exact q0 (fun d => ak ((ah hf).2.1 d.2))
  · omega
  · obtain ⟨o1, e1, t3, t4', w0, w1, w2, w3, wk⟩ := q
    have nm := g.nm ha.1 ha.2
    have em : mIh h s bs (fO T st j a r 0) (j + 1) := by rcases emp with c | c; exact c; exact absurd e1 c
    have fin : ∀ kd : Int, (kd = 1 ∧ isL (w (s 1 j 10))) ∨ (kd = 0 ∧ isD (w (s 1 j 10))) → zC1 183 [vR 127 111, vI z, vI (s 4 j 0), vI kd, vI a] h (fun v9 h9 => (v9 = 0 ∨ v9 = 1) ∧ ∃ v' : Int, (some (vI v9) : Option zV) = some (Sum.inl v') ∧ K v' h9) := by
      intro kd hk
      refine s183 g y p (by omega) t4 ha (by omega) ⟨b2i_01, zq1 ?_⟩
      rw [t3, t4']
      by_cases c : okI t w T s a j
      · have c3 := c.2.1 o1
        have lk := lit_k g ha nm.1 hk c3.2.2
        rw [b2i_pos ⟨lk.2 c3.1, c3.2.1, c3.2.2⟩]
        exact q1 c (Or.inl e1) h frP.rf em
      · rw [b2i_neg (fun d => c ⟨fun e => by omega, fun e => ⟨(lit_k g ha nm.1 hk d.2.2).1 d.1, d.2⟩, fun e => by omega⟩)]
        exact q0 (fun d => c d.1)
    rcases wk with q | q
    · exact ⟨fun c => by omega, fun _ => ⟨fun c => by omega, fun _ => ⟨fun c => by omega, fun _ => ⟨fun _ => fin 1 (Or.inl ⟨rfl, q.2⟩), fun c => absurd (show s 3 (s 4 j 0) 0 = (0 : Int) + 1 + 1 + 1 by omega) c⟩⟩⟩⟩
    · exact ⟨fun c => by omega, fun _ => ⟨fun c => by omega, fun _ => ⟨fun c => by omega, fun _ => ⟨fun c => by omega, fun _ => fin 0 (Or.inr ⟨rfl, q.2⟩)⟩⟩⟩⟩
  · omega
theorem pck_in (x : rEn w m 0 0 s) (b : bsI s 0 bs) {st : fZ} {j : Int} (j0 : bs ≤ j) (h1 : j < bs + s 1 bs 9) (h2 : 2 ≤ s 1 j 9) : pck2 s bs st j := by
  intro y y0 y1 y2 y3 y4
  have b1 := b.1
  by_cases c : y = j
  · subst c; omega
  · have := x.within (e := j) (p := y) (by omega) (by omega) (by omega)
    omega
theorem gQ_f {f k : Nat} {j : Int} {st : fZ} {u : Int → Int} (c : ¬ (asb t T s bs st j ∧ pck T s bs st j)) : gQ t u T s bs v f j st k ch = (none, k, false) := by
  unfold gQ; rw [b2i_neg c, if_neg (by omega)]
theorem gQ_t {f k : Nat} {j : Int} {st : fZ} {u : Int → Int} (c : asb t T s bs st j) (d : pck T s bs st j) : gQ t u T s bs v f j st k ch = gW t u T s bs v f (j + 1) st k ch := by
  unfold gQ; rw [b2i_pos ⟨c, d⟩, if_pos rfl]
theorem pSt_n {k : Nat} (e1 : gI h 127 35 = k) (e2 : gI h 127 36 = 0) : pSt s bs (none, k, false) 0 h := ⟨e1, by rw [e2]; rfl, fun _ => rfl, fun _ c => by cases c⟩
theorem walk (g : sF t n nd nc T C) (x : rEn w m 0 0 s) (b : bsI s 0 bs) (hv : 0 ≤ v ∧ v < nd) (y0 : mN h0 t n nd nc T C) (p0 : mPt h0 z w m s) (hm : m ≤ 300) (c0 : ∀ i : Nat, i < 3 → gI h0 145 i = ch i) (cs : ∀ i, ch i ≤ 1000) {u3 : zV} {Q : Option zV → zH → Prop} :
    ∀ (f : Nat) (j : Int) (st : fZ) (k : Nat) (h1 : zH) (u7 u8 : zV), bs + s 1 bs 9 - j = f → bs ≤ j → j < bs + s 1 bs 9 → frP gWA h0 h1 → fVd nd T s bs st j → mIa h1 s bs st j → mIb h1 T s bs v st j → mIh h1 s bs st j → gI h1 127 35 = k → gI h1 127 36 = 0 → (k : Int) = kcn s bs j →
      (∀ vv h9, frP gWA h0 h9 → pSt s bs (gW t w T s bs v f j st k ch) vv h9 → Q (some (vI vv)) h9) → zK 187 61 [vR 127 111, vI z, vI (s 4 bs 0), u3, vI (lD s bs j), vI (nxv s bs v st j), vI (s 4 j 0), u7, u8] [] h1 Q := by
  have N := x.N
  have t4 := x.t40
  have b1 := b.1
  have sp := x.sp b.1 b.2.1
  have hnd := g.hd
  have mNf : ∀ h1, frP gWA h0 h1 → mN h1 t n nd nc T C := fun h1 f => y0.fr g.hn f (fun k _ _ => by unfold gWA; omega) (by unfold gWA; omega) (fun k => by unfold gWA; omega)
  have mPf : ∀ h1, frP gWA h0 h1 → mPt h1 z w m s := fun h1 f => p0.fr hm f (fun k _ => by unfold gWA; omega) (fun k => by unfold gWA; omega)
  intro f
  induction f with
  | zero => intro j st k h1 u7 u8 e; omega
  | succ f ih =>
    intro j st k h1 u7 u8 e j0 j1 fr vd ia ib ihl e35 e36 ek q
    have vs := fVs_of g x b hv vd j0 j1
    have tj := x.tk3 (j := j) (by omega) (by omega)
    have y1 := mNf h1 fr
    have p1 := mPf h1 fr
    have k3 := kcn_3 x b1 (j := j + 1) (by omega) (by omega)
    have ks := kcn_s (s := s) j0
    have lj := lD_19 x b j0 j1
    have spj := x.sp (j := j) (by omega) (by omega)
    have gs := gW_s t w T s bs v f j st k ch
    -- behind an item
    have AF : ∀ (st' : fZ) (k' : Nat) (h2 : zH) (u7 u8 : zV), frP gWA h0 h2 → fVd nd T s bs st' (j + 1) → mIc h2 s bs st' j → mIh h2 s bs st' (j + 1) → gI h2 127 35 = k' → gI h2 127 36 = 0 → (k' : Int) = kcn s bs (j + 1) → s 1 j 9 = 1 → asb t T s bs st' j → (s 1 j 0 = 4 → s 1 j 6 = 0 → T (st' 0 j) 3 = 0) →
        gW t w T s bs v (f + 1) j st k ch = gQ t w T s bs v f j st' k' ch → zK 187 43 [vR 127 111, vI z, vI (s 4 bs 0), u3, vI (lD s bs j), vI (-1), vI (bT 0 s j), u7, u8] [] h2 Q := by
      intro st' k' h2 u7 u8 f2 vd2 ic2 ih2 a35 a36 ak sp1 as2 pa2 eG
      refine close g x b (mPf h2 f2) j1 vd2 ic2 (fun np => ?_) (fun pk jn p4 u7 u8 => ?_) (fun pk je => ?_) (j - bs).toNat j u7 u8 (by omega) j0 (by omega) (by omega) (fun y' e0 e1 => by omega)
      · refine q 0 h2 f2 ?_
        rw [eG, gQ_f (fun d => np d.2.2)]
        exact pSt_n a35 a36
      · have en : nxv s bs v st' (j + 1) = -1 := by unfold nxv; rw [if_neg (by omega), if_neg (by omega)]
        have := ih (j + 1) st' k' h2 u7 u8 (by omega) (by omega) jn f2 vd2 (fun y a1 a2 a3 a4 => ic2 y a1 (by omega) (by omega) a4) (fun _ _ => ?_) ih2 a35 a36 ak (fun vv h9 f9 pp => q vv h9 f9 (by rw [eG, gQ_t as2 ⟨pa2, pk⟩]; exact pp))
        · rw [en] at this; exact this
        · have bj := x.bj b (j := j + 1) (by omega) jn
          rcases x.wh (y := j + 1) (by omega) bj.1 p4 with qq | qq
          · have ns := x.ns (y := j + 1) (by omega) bj.1
            have e3 : s 1 (j + 1) 3 = j := by omega
            rw [e3] at ns
            omega
          · have bb := x.bj b (j := s 1 (j + 1) 4) (by omega) (by omega)
            have i := ic2 (s 1 (j + 1) 4) (by omega) (by omega) (by omega) (by rw [qq.2.2.2.1]; exact p4)
            have l1 := lD_s x b (y := j + 1) (by omega) jn
            have l2 := lD_s x b (y := s 1 (j + 1) 4) (by omega) (by omega)
            rw [qq.2.2.2.1, ← l1] at l2
            rw [l2] at i
            have fb := fA_b (T := T) (v := v) (st := st') (show ¬ j + 1 = bs by omega) p4 qq.1
            rw [fb.1, fb.2]
            exact i
      · refine q 1 h2 f2 ?_
        have f0 : f = 0 := by omega
        rw [eG, gQ_t as2 ⟨pa2, pk⟩, f0]
        refine ⟨a35, (by rw [a36]; rfl), (fun c => by cases c), fun st9 c => ?_⟩
        have c : some st' = some st9 := c
        injection c with c
        subst c
        rw [← je]
        exact ⟨rfl, ih2⟩
    -- into an item
    have IN : ∀ (st' : fZ) (k' : Nat) (h2 : zH) (u7 u8 : zV) (top nn : Int), frP gWA h0 h2 → fVd nd T s bs st' (j + 1) → mIc h2 s bs st' j → mIh h2 s bs st' (j + 1) → gI h2 127 35 = k' → gI h2 127 36 = 0 → (k' : Int) = kcn s bs (j + 1) → 2 ≤ s 1 j 9 → s 1 (j + 1) 3 = j → asb t T s bs st' j → ¬ (s 1 j 0 = 4 ∧ s 1 j 6 = 0) → mIb h2 T s bs v st' (j + 1) → top = lD s bs (j + 1) → nn = nxv s bs v st' (j + 1) → (¬ top = -1 ∨ ¬ nn = -1) → s 4 (j + 1) 0 = s 4 j 0 + 1 →
        gW t w T s bs v (f + 1) j st k ch = gQ t w T s bs v f j st' k' ch → zK 187 43 [vR 127 111, vI z, vI (s 4 bs 0), u3, vI top, vI nn, vI (s 4 j 0 + 1), u7, u8] [] h2 Q := by
      intro st' k' h2 u7 u8 top nn f2 vd2 ic2 ih2 a35 a36 ak sp1 pj as2 pa2 ib2 et en tn tk eG
      have bs2 : j + 1 < bs + s 1 bs 9 := by
        by_cases c : j = bs
        · rw [c] at sp1 ⊢; omega
        · have := x.bj b (j := j) (by omega) j1; omega
      have := fun u7 u8 => ih (j + 1) st' k' h2 u7 u8 (by omega) (by omega) bs2 f2 vd2 (fun y a1 a2 a3 a4 => ic2 y a1 (by omega) (by omega) a4) ib2 ih2 a35 a36 ak (fun vv h9 f9 pp => q vv h9 f9 (by rw [eG, gQ_t as2 ⟨fun c d => absurd ⟨c, d⟩ pa2, pck_in x b j0 j1 sp1⟩]; exact pp))
      rw [← et, ← en, tk] at this
      refine k187_43 z (s 4 bs 0) u3 top nn (s 4 j 0 + 1) u7 u8 h2 Q ⟨fun _ => this u7 u8, fun _ => ⟨fun _ => this u7 u8, fun c => ⟨fun d => ?_, fun _ => this u7 u8⟩⟩⟩
      rcases tn with a | a
      · exact absurd a c
      · exact absurd d a
    have ct := x.ct (j := j) (by omega) (by omega)
    by_cases c5 : s 1 j 0 = 5
    · -- a row
      have ro := x.ro (y := j) (by omega) (by omega) c5
      have jb : bs < j := by
        have : ¬ j = bs := fun c => b.2.2 (c ▸ c5)
        omega
      have lf := x.lf (p := j) (by omega) (by omega) (by omega) (by omega)
      have w6 : s 3 (s 4 j 0) 0 = 6 ∧ 0 ≤ s 1 j 1 ∧ s 1 j 1 < 26 ∧ s 3 (s 4 j 0) 1 = s 1 j 1 := by omega
      clear ct
      have e := ib jb ro.2
      have vb := vs.1 jb ro.2
      have r12 := vs.2.2.2
      have bj := x.bj b jb j1
      have ld := lD_s x b jb j1
      rw [if_pos ro.2] at ld
      have lp := lD_19 x b (y := s 1 j 3) (by omega) (by omega)
      have en : nxv s bs v st j = -1 := by unfold nxv; rw [if_neg (by omega), if_neg (by omega)]
      rw [if_pos (Or.inl c5)] at ks
      rw [if_pos c5] at gs
      rw [en]
      have e145 : gI h1 145 (gI h1 127 35) = (ch k : Nat) := by
        rw [e35, fr.1 _ _ (by unfold gWA; omega)]; exact c0 k (by omega)
      refine k187_61 z (s 4 bs 0) u3 (lD s bs j) (-1) (s 4 j 0) u7 u8 h1 Q (s179 0 p1 (by omega) t4 (by omega) ⟨fun _ => ⟨fun c => absurd w6.1 c, fun _ => ?_⟩, fun c => absurd (show ¬ s 3 (s 4 j 0) 0 = 7 by omega) c⟩)
      have hh := ihl (s 1 j 1) w6.2.1 w6.2.2.1
      have stb : ∀ hf : ¬ hF s bs (s 1 j 1) j = -1, ¬ st 2 (hF s bs (s 1 j 1) j) = -1 := by
        intro hf
        rcases hF_rg (s := s) (bs := bs) (l := s 1 j 1) j0 with q | q
        · exact absurd q hf
        · have cf := x.ct (j := hF s bs (s 1 j 1) j) (by omega) (by omega)
          have cj := x.ct (j := j) (by omega) (by omega)
          rw [q.2.2] at cf
          have f1 : s 1 (hF s bs (s 1 j 1) j) 0 = 5 := by omega
          clear cf cj
          have rf := x.ro (y := hF s bs (s 1 j 1) j) (by omega) (by omega) f1
          have fb : bs < hF s bs (s 1 j 1) j := by
            have : ¬ hF s bs (s 1 j 1) j = bs := fun c => b.2.2 (c ▸ f1)
            omega
          have := (vd _ q.1 q.2.1).2 fb rf.2
          omega
      refine s185 (c := ch k) g y1 p1 (by omega) t4 (by omega) (by omega) (by omega) e145 e.1 (by rw [e.2]; omega) (fun hc => ?_) (fun d1 d2 => ?_) (fun hc => ?_) (fun hc h2 f2 a1 a2 a3 => ⟨fun d1 => ?_, fun d1 => ?_⟩)
      · rw [e.2] at hc
        have := g.vk vb.1 vb.2.1 (k := (T (st 0 (s 1 j 3)) 3 - fR T s bs st j).toNat) (c := ch k) (by omega)
        rw [adv_add, ← vb.2.2.2.2] at this
        exact this
      · rw [w6.2.2.2] at d1 d2 ⊢
        have hf : ¬ hF s bs (s 1 j 1) j = -1 := fun d => d1 (hh.1 d)
        rw [(hh.2 hf).1] at d2
        rw [(hh.2 hf).2]
        by_cases hc : ((ch k : Nat) : Int) ≤ fR T s bs st j
        · exact (asb_r (t := t) g x b hv jb j1 vd c5 ro.2 hc hf).1 d2
        · rcases hF_rg (s := s) (bs := bs) (l := s 1 j 1) j0 with qq | qq
          · exact absurd qq hf
          · have cf := x.ct (j := hF s bs (s 1 j 1) j) (by omega) (by omega)
            have cj := x.ct (j := j) (by omega) (by omega)
            rw [qq.2.2] at cf
            have f1 : s 1 (hF s bs (s 1 j 1) j) 0 = 5 := by omega
            clear cf cj
            have rf := x.ro (y := hF s bs (s 1 j 1) j) (by omega) (by omega) f1
            have fb : bs < hF s bs (s 1 j 1) j := by
              have : ¬ hF s bs (s 1 j 1) j = bs := fun c => b.2.2 (c ▸ f1)
              omega
            have vf := (vd _ qq.1 qq.2.1).2 fb rf.2
            have bf := x.bj b fb (by omega)
            have pf := (vd (s 1 (hF s bs (s 1 j 1) j) 3) (by omega) (by omega)).1 (by omega)
            generalize hF s bs (s 1 j 1) j = y at *
            have := g.vk pf.1 pf.2.1 (k := (T (st 0 (s 1 y 3)) 3 - st 4 y - st 2 y).toNat) (c := ch k) (by omega)
            rw [← vf.2.2.2.2 f1] at this
            exact ⟨_, this⟩
      · rw [e.2] at hc
        rw [if_pos (by omega)] at gs
        refine ⟨fun c => absurd rfl c, fun _ => ⟨Or.inl rfl, q 0 _ ((fr.st (by unfold gWA; omega)).st (by unfold gWA; omega)) ?_⟩⟩
        rw [gs]
        refine ⟨?_, by rw [gS1]; rfl, fun _ => rfl, fun _ c => by cases c⟩
        rw [gS, if_neg (by omega), gS1, e35]
        simp
      · rw [w6.2.2.2] at d1 ⊢
        rw [e.2] at hc a2
        have hf : hF s bs (s 1 j 1) j = -1 := Classical.byContradiction (fun d => stb d (by rw [← (hh.2 d).1]; exact d1))
        rw [if_neg (by omega)] at gs
        refine ⟨fun _ => ⟨by unfold inR; omega, ?_⟩, fun c => absurd (by omega) c⟩
        have my := (mIh_y (h2 := h2) (a := fA s bs v st j) (l := if ch k = 0 then -1 else adv T (ch k - 1) (fA s bs v st j)) (r := (ch k : Int)) (y := adv T (ch k) (fA s bs v st j)) (f := fR T s bs st j - (ch k : Int)) b1 j0 ihl f2 (fun k => by omega) ⟨w6.2.1, w6.2.2.1⟩).1 hf
        have F2 : frP gWA h0 (sI (sI h2 146 (s 1 j 1) (fA s bs v st j)) 147 (s 1 j 1) (ch k : Int)) := ((fr.tr (f2.mo (fun b k q => by unfold gWA; omega))).st (by unfold gWA; omega)).st (by unfold gWA; omega)
        rw [← lf.2]
        refine AF (fW T st j (fA s bs v st j) (fR T s bs st j) (ch k)) (k + 1) _ _ _ F2 (fVd_W x b vd vs jb j1 c5 hc) ?_ my ?_ ?_ (by omega) lf.1 (Or.inr (Or.inl hf)) (fun c => by omega) gs
        · intro y a4 a5 a6 a7
          rw [gS, if_neg (by omega), gS, if_neg (by omega), gS, if_neg (by omega), gS, if_neg (by omega)]
          unfold fW
          by_cases c : y = j
          · subst c; rw [fU_3, fU_4]; exact ⟨a1, a2⟩
          · rw [fU_o c, fU_o c]
            have i := ia y a4 (by omega) a6 a7
            have la := lD_an x b (j - bs).toNat y j (by omega) (by omega) (by omega) a6 j1
            rw [f2.1 _ _ (by omega), f2.1 _ _ (by omega)]
            exact i
        · rw [gS, if_neg (by omega), gS, if_neg (by omega), a3, e35]; simp
        · rw [gS, if_neg (by omega), gS, if_neg (by omega), f2.1 _ _ (by omega)]; exact e36
      · rw [w6.2.2.2] at d1 ⊢
        rw [e.2] at hc a2
        have hf : ¬ hF s bs (s 1 j 1) j = -1 := fun d => d1 (hh.1 d)
        rw [if_neg (by omega)] at gs
        have ar := (asb_r (t := t) g x b hv jb j1 vd c5 ro.2 hc hf).2
        rw [(hh.2 hf).1, (hh.2 hf).2]
        have F2 : frP gWA h0 h2 := fr.tr (f2.mo (fun b k q => by unfold gWA; omega))
        have a35 : gI h2 127 35 = ((k + 1 : Nat) : Int) := by rw [a3, e35]; simp
        have a36 : gI h2 127 36 = 0 := by rw [f2.1 _ _ (by omega)]; exact e36
        refine ⟨fun c => ⟨by unfold inR; omega, ?_⟩, fun c => ⟨Or.inl rfl, ?_⟩⟩
        · rw [b2i_ne0] at c
          have my := (mIh_y (h2 := h2) (a := fA s bs v st j) (l := if ch k = 0 then -1 else adv T (ch k - 1) (fA s bs v st j)) (r := (ch k : Int)) (y := adv T (ch k) (fA s bs v st j)) (f := fR T s bs st j - (ch k : Int)) b1 j0 ihl f2 (fun k => by omega) ⟨w6.2.1, w6.2.2.1⟩).2 hf
          rw [← lf.2]
          refine AF (fW T st j (fA s bs v st j) (fR T s bs st j) (ch k)) (k + 1) _ _ _ F2 (fVd_W x b vd vs jb j1 c5 hc) ?_ my a35 a36 (by omega) lf.1 (ar.2 c) (fun c => by omega) gs
          intro y a4 a5 a6 a7
          unfold fW
          by_cases c : y = j
          · subst c; rw [fU_3, fU_4]; exact ⟨a1, a2⟩
          · rw [fU_o c, fU_o c]
            have i := ia y a4 (by omega) a6 a7
            have la := lD_an x b (j - bs).toNat y j (by omega) (by omega) (by omega) a6 j1
            rw [f2.1 _ _ (by omega), f2.1 _ _ (by omega)]
            exact i
        · have c : ¬ (st 2 (hF s bs (s 1 j 1) j) = (ch k : Int) ∧ frl t T (ch k) (st 0 (hF s bs (s 1 j 1) j)) (fA s bs v st j)) := fun d => c (b2i_ne0.2 d)
          refine q 0 h2 F2 ?_
          rw [gs, gQ_f (fun d => c (ar.1 d.1))]
          exact pSt_n a35 a36
    · rw [if_neg c5] at gs
      have k76 : ¬ s 3 (s 4 j 0) 0 = 7 ∧ ¬ s 3 (s 4 j 0) 0 = 6 := by omega
      refine takes g x b p1 y1 hv j0 j1 vd ia ib k76 (fun cr => ?_) (fun cr h2 u5 f2 ic => ?_)
      · rw [if_pos cr] at gs
        refine q 0 h1 fr ?_
        rw [gs]
        exact pSt_n e35 e36
      · rw [if_neg cr] at gs
        have F2 : frP gWA h0 h2 := fr.tr (f2.mo (fun b k q => by unfold gWA; omega))
        have a35 : gI h2 127 35 = k := by rw [f2.1 _ _ (by omega)]; exact e35
        have a36 : gI h2 127 36 = 0 := by rw [f2.1 _ _ (by omega)]; exact e36
        have ih2 : mIh h2 s bs st j := fun l l0 l1 => by rw [f2.1 147 l (by omega), f2.1 146 l (by omega)]; exact ihl l l0 l1
        have y2 := mNf h2 F2
        have p2 := mPf h2 F2
        have va := vs.2.2.1 (by omega)
        have sz := g.sz va.1 va.2
        by_cases c2 : s 1 j 0 = 2
        · -- something deep
          have w2 : s 3 (s 4 j 0) 0 = 2 ∧ s 1 j 1 = -1 := by omega
          clear ct
          rw [if_pos c2] at gs
          rw [if_pos (Or.inr c2)] at ks
          have dp := x.dp (p := j) (by omega) (by omega) c2
          have s1 := x.sp (j := j + 1) (by omega) dp.1
          have e145 : gI h2 145 (gI h2 127 35) = (ch k : Nat) := by
            rw [a35, F2.1 _ _ (by unfold gWA; omega)]; exact c0 k (by omega)
          have cs := cs k
          refine k187_178 z (s 4 bs 0) u3 (lD s bs j) u5 (s 4 j 0) _ (fA s bs v st j) h2 Q ⟨fun c => absurd w2.1 c, fun _ => ?_⟩
          rw [e145, a35]
          refine ⟨by omega, by omega, by unfold inR; omega, by unfold inR; omega, fun h3 e3 => ?_⟩
          have F3 : frP gWA h0 h3 := by rw [e3]; exact F2.st (by unfold gWA; omega)
          refine s158 6 (by omega) g (mNf h3 F3) va ⟨by unfold inR; omega, fun c => ⟨by unfold inR; omega, ?_⟩, fun c => ⟨Or.inr rfl, fun h4 e4 => ⟨Or.inl rfl, ?_⟩⟩⟩
          · rw [if_neg (by omega)] at gs
            have bs2 : j + 1 < bs + s 1 bs 9 := by
              by_cases c : j = bs
              · rw [c] at dp s1 ⊢; omega
              · have := x.bj b (j := j) (by omega) j1; omega
            have ls := lD_s x b (y := j + 1) (by omega) bs2
            rw [dp.2.1, if_neg (by omega), Int.add_zero] at ls
            have fo : fO T st j (fA s bs v st j) (fR T s bs st j) (ch k) 0 j = fA s bs v st j + (ch k : Int) := by unfold fO; rw [fU_0]
            refine IN (fO T st j (fA s bs v st j) (fR T s bs st j) (ch k)) (k + 1) h3 _ _ (lD s bs j) _ F3 (fVd_O g x b vd vs j0 j1 c5 cr (by omega) (fun d => absurd c2 d)) (fun y a1 a2 a3 a4 => ?_) ?_ ?_ ?_ (by omega) (by omega) dp.2.1 (Or.inl w2.2) (fun d => by omega) (fun d0 d1 => ?_) ls.symm ?_ (Or.inr (by omega)) dp.2.2.2.1 gs
            · have := ic (fA s bs v st j + (ch k : Int)) (fA s bs v st j) 1 y a1 a2 a3 a4
              rw [e3, gS, if_neg (by omega), gS, if_neg (by omega)]
              exact this
            · exact mIh_n (P := fun b k => b = 127) b1 j0 ih2 w2.2 (by rw [e3]; exact frP.rf.st rfl) (fun k => by omega)
            · rw [e3, gS1]; simp
            · rw [e3, gS, if_neg (by omega)]; exact a36
            · rw [dp.2.1] at d1; omega
            · unfold nxv
              rw [if_neg (by omega), dp.2.1, if_pos c2, fo]
          · rw [if_pos (by omega)] at gs
            refine q 0 h4 (by rw [e4]; exact F3.st (by unfold gWA; omega)) ?_
            rw [gs]
            refine ⟨?_, by rw [e4, gS1]; rfl, fun _ => rfl, fun _ c => by cases c⟩
            rw [e4, gS, if_neg (by omega), e3, gS1]
            simp
        · rw [if_neg c2] at gs
          rw [if_neg (by omega), Int.add_zero] at ks
          by_cases c4 : s 1 j 0 = 4
          · -- a term
            have w5 : s 3 (s 4 j 0) 0 = 5 ∧ s 1 j 1 = -1 ∧ s 3 (s 4 j 0) 3 = s 1 j 10 ∧ s 3 (s 4 j 0) 4 = s 1 j 11 ∧ 0 ≤ s 1 j 10 ∧ s 1 j 10 + s 1 j 11 ≤ m := by omega
            clear ct
            refine k187_178 z (s 4 bs 0) u3 (lD s bs j) u5 (s 4 j 0) _ (fA s bs v st j) h2 Q ⟨fun _ => ⟨fun c => absurd w5.1 c, fun _ => ?_⟩, fun c => absurd (show ¬ s 3 (s 4 j 0) 0 = 2 by omega) c⟩
            refine s183 g y2 p2 (by omega) t4 va (by omega) ?_
            rw [w5.2.2.1, w5.2.2.2.1]
            have ok : okI t w T s (fA s bs v st j) j ↔ (T (fA s bs v st j) 0 = 2 ∧ T (fA s bs v st j) 9 = s 1 j 11 ∧ sameR t w (T (fA s bs v st j) 8) (s 1 j 10) (T (fA s bs v st j) 9)) := ⟨fun c => c.2.2 c4, fun c => ⟨fun d => by omega, fun d => by omega, fun _ => c⟩⟩
            rw [b2i_congr ok.symm]
            have mn := g.mn va.1 va.2
            refine ⟨fun c => ?_, fun c => ⟨Or.inl rfl, ?_⟩⟩
            · rw [b2i_ne0] at c
              rw [b2i_pos c, if_pos rfl] at gs
              refine ⟨by unfold inR; omega, by unfold inR; omega, by omega, by omega, fun h3 e3 => ?_⟩
              have F3 : frP gWA h0 h3 := by rw [e3]; exact F2.st (by unfold gWA; omega)
              refine s158 3 (by omega) g (mNf h3 F3) va ⟨by omega, by omega, fun h4 e4 => ⟨by unfold inR; omega, ?_⟩⟩
              have F4 : frP gWA h0 h4 := by rw [e4]; exact F3.st (by unfold gWA; omega)
              have f24 : frP (fun b k => (b = 148 ∨ b = 149) ∧ k = lD s bs j + 1) h2 h4 := by rw [e4, e3]; exact (frP.rf.st ⟨Or.inl rfl, rfl⟩).st ⟨Or.inr rfl, rfl⟩
              have b35 : gI h4 127 35 = k := by rw [f24.1 _ _ (by omega)]; exact a35
              have b36 : gI h4 127 36 = 0 := by rw [f24.1 _ _ (by omega)]; exact a36
              have fo : fO T st j (fA s bs v st j) (fR T s bs st j) 0 0 j = fA s bs v st j := by unfold fO; rw [fU_0]; omega
              have vd4 := fVd_O g x b vd vs j0 j1 c5 cr (d := 0) (by omega) (fun _ => rfl)
              have ih4 : mIh h4 s bs (fO T st j (fA s bs v st j) (fR T s bs st j) 0) (j + 1) := mIh_n b1 j0 ih2 w5.2.1 f24 (fun k => by omega)
              have ic4 : mIc h4 s bs (fO T st j (fA s bs v st j) (fR T s bs st j) 0) j := by
                intro y a1 a2 a3 a4
                have := ic (fA s bs v st j + ((0 : Nat) : Int)) (fA s bs v st j) 1 y a1 a2 a3 a4
                have ly : lD s bs y ≤ lD s bs j := by
                  by_cases c : y = j
                  · rw [c]; omega
                  · have la := lD_an x b (j - bs).toNat y j (by omega) (by omega) (by omega) a3 j1
                    have ls := lD_s x b (y := j) (by omega) j1
                    split at ls <;> omega
                rw [f24.1 _ _ (by omega), f24.1 _ _ (by omega)]
                exact this
              by_cases m0 : s 1 j 6 = 0
              · have f0 := x.f0 (p := j) (by omega) (by omega) c4 m0
                have cl := x.cl (p := j) (by omega) (by omega) c4
                rw [show kid 0 = 3 from rfl] at f0 cl
                rw [f0.2.1] at cl
                have at61 : ∀ u7 u8, zK 187 61 [vR 127 111, vI z, vI (s 4 bs 0), u3, vI (lD s bs j + 1), vI (-1), vI (s 4 j 0 + 1), u7, u8] [] h4 Q := by
                  intro u7 u8
                  refine k187_61 z (s 4 bs 0) u3 (lD s bs j + 1) (-1) (s 4 j 0 + 1) u7 u8 h4 Q (s179 0 (mPf h4 F4) (by omega) t4 (by omega) ⟨fun d => absurd cl.1 d, fun _ => ⟨by omega, by omega, ?_⟩⟩)
                  have e9 : gI h4 149 (lD s bs j + 1) = T (fA s bs v st j) 3 := by rw [e4, gS1]
                  rw [e9]
                  refine ⟨fun d => ⟨by unfold inR; omega, by unfold inR; omega, ?_⟩, fun d => ⟨Or.inl rfl, q 0 h4 F4 ?_⟩⟩
                  · have := AF (fO T st j (fA s bs v st j) (fR T s bs st j) 0) k h4 (vI (s 3 (s 4 j 0 + 1) 0)) u8 F4 vd4 ic4 ih4 b35 b36 (by omega) f0.1 (Or.inl w5.2.1) (fun _ _ => by rw [fo]; omega) gs
                    rw [cl.2] at this
                    rw [show lD s bs j + 1 + -1 = lD s bs j by omega]
                    exact this
                  · rw [gs, gQ_f (fun e => d (by have := e.2.1 c4 m0; rw [fo] at this; omega))]
                    exact pSt_n b35 b36
                exact k187_43 z (s 4 bs 0) u3 (lD s bs j + 1) (-1) (s 4 j 0 + 1) _ _ h4 Q ⟨fun _ => at61 _ _, fun _ => ⟨fun _ => at61 _ _, fun c => absurd (show ¬ lD s bs j + 1 = -1 by omega) c⟩⟩
              · have mm := x.m0 (j := j) (by omega) (by omega)
                have f1 := x.f1 (p := j) (by omega) (by omega) c4 (by omega)
                have ns := x.ns (y := j + 1) (by omega) f1.1.2.1
                have s1 := x.sp (j := j + 1) (by omega) f1.1.2.1
                rw [f1.1.2.2] at ns
                have bs2 : j + 1 < bs + s 1 bs 9 := by
                  by_cases c : j = bs
                  · rw [c] at ns s1 ⊢; omega
                  · have := x.bj b (j := j) (by omega) j1; omega
                have ls := lD_s x b (y := j + 1) (by omega) bs2
                rw [f1.1.2.2, if_pos c4] at ls
                refine IN (fO T st j (fA s bs v st j) (fR T s bs st j) 0) k h4 _ _ (lD s bs j + 1) (-1) F4 vd4 ic4 ih4 b35 b36 (by omega) (by omega) f1.1.2.2 (Or.inl w5.2.1) (fun d => m0 d.2) (fun d0 d1 => ?_) ls.symm ?_ (Or.inl (by omega)) f1.2.2.2.1 gs
                · have fb := fA_f (T := T) (v := v) (st := fO T st j (fA s bs v st j) (fR T s bs st j) 0) (show ¬ j + 1 = bs by omega) d1 f1.2.2.1
                  rw [fb.1, fb.2, f1.1.2.2, ls, fo]
                  exact ⟨by rw [e4, gS, if_neg (by omega), e3, gS1], by rw [e4, gS1]⟩
                · unfold nxv; rw [if_neg (by omega), f1.1.2.2, if_neg (by omega)]
            · have c : ¬ okI t w T s (fA s bs v st j) j := fun d => c (b2i_ne0.2 d)
              rw [b2i_neg c, if_neg (by omega)] at gs
              refine q 0 h2 F2 ?_
              rw [gs]
              exact pSt_n a35 a36
          · -- a leaf
            have wk : ¬ s 3 (s 4 j 0) 0 = 2 ∧ ¬ s 3 (s 4 j 0) 0 = 5 := by omega
            clear ct
            have lf := x.lf (p := j) (by omega) (by omega) c2 c4
            refine k187_178 z (s 4 bs 0) u3 (lD s bs j) u5 (s 4 j 0) _ (fA s bs v st j) h2 Q ⟨fun _ => ⟨fun _ => ?_, fun c => absurd wk.2 c⟩, fun c => absurd wk.1 c⟩
            refine s186 (r := fR T s bs st j) g x b y2 p2 hm j0 j1 vd ih2 va ⟨c2, c4, c5⟩ (fun d => ⟨fun c => absurd rfl c, fun _ => ⟨Or.inl rfl, q 0 h2 F2 ?_⟩⟩) (fun ok as h3 f3 ih3 => ⟨fun _ => ⟨by unfold inR; omega, ?_⟩, fun c => absurd (by omega) c⟩)
            · by_cases ok : okI t w T s (fA s bs v st j) j
              · rw [b2i_pos ok, if_pos rfl] at gs
                rw [gs, gQ_f (fun e => d ⟨ok, e.1⟩)]
                exact pSt_n a35 a36
              · rw [b2i_neg ok, if_neg (by omega)] at gs
                rw [gs]
                exact pSt_n a35 a36
            · rw [b2i_pos ok, if_pos rfl] at gs
              rw [← lf.2]
              refine AF (fO T st j (fA s bs v st j) (fR T s bs st j) 0) k h3 _ _ (F2.tr (f3.mo (fun b k q => by unfold gWA; omega))) (fVd_O g x b vd vs j0 j1 c5 cr (d := 0) (by omega) (fun _ => rfl)) (fun y a1 a2 a3 a4 => ?_) ih3 (by rw [f3.1 _ _ (by omega)]; exact a35) (by rw [f3.1 _ _ (by omega)]; exact a36) (by omega) lf.1 as (fun c => absurd c c4) gs
              have := ic (fA s bs v st j + ((0 : Nat) : Int)) (fA s bs v st j) 1 y a1 a2 a3 a4
              rw [f3.1 _ _ (by omega), f3.1 _ _ (by omega)]
              exact this
end WC
