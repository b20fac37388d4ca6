/-! The model: whether a pattern fits, in how many ways. -/
def gWB (b : Nat) (k : Int) : Prop := gWA b k ∨ b = 145
section MF
variable {h : zH} {t w : Int → Int} {n nd nc m z bs v : Int} {T C : pT} {s : pS} {ch : Nat → Nat}
theorem gW_b (g : sF t n nd nc T C) (x : rEn w m 0 0 s) (b : bsI s 0 bs) (hv : 0 ≤ v ∧ v < nd) : ∀ (f : Nat) (j : Int) (st : fZ) (k : Nat), bs + s 1 bs 9 - j = f → bs ≤ j → fVd nd T s bs st j → (k : Int) = kcn s bs j →
    (gW t w T s bs v f j st k ch).2.1 ≤ 3 ∧ ((gW t w T s bs v f j st k ch).2.2 = true → 1 ≤ (gW t w T s bs v f j st k ch).2.1) ∧ ∀ i, k ≤ i → i < eix (gW t w T s bs v f j st k ch) → ch i ≤ 60 := by
  have N := x.N
  have b1 := b.1
  have sp := x.sp b.1 b.2.1
  have hnd := g.hd
  intro f
  induction f with
  | zero =>
    intro j st k e j0 vd ek
    have k3 := kcn_3 x b1 (j := j) (by omega) (by omega)
    refine ⟨by show k ≤ 3; omega, (fun c => by cases c), fun i i0 i1 => ?_⟩
    have i1 : i < k := i1
    omega
  | succ f ih =>
    intro j st k e j0 vd ek
    have vs := fVs_of g x b hv vd j0 (by omega)
    have k3 := kcn_3 x b1 (j := j + 1) (by omega) (by omega)
    have k3' := kcn_3 x b1 (j := j) (by omega) (by omega)
    have ks := kcn_s (s := s) j0
    have nx : ∀ (st' : fZ) (k' : Nat), fVd nd T s bs st' (j + 1) → (k' : Int) = kcn s bs (j + 1) → k ≤ k' → (∀ i, k ≤ i → i < k' → ch i ≤ 60) → (gQ t w T s bs v f j st' k' ch).2.1 ≤ 3 ∧ ((gQ t w T s bs v f j st' k' ch).2.2 = true → 1 ≤ (gQ t w T s bs v f j st' k' ch).2.1) ∧ ∀ i, k ≤ i → i < eix (gQ t w T s bs v f j st' k' ch) → ch i ≤ 60 := by
      intro st' k' vd' ek' hk hc
      by_cases c : asb t T s bs st' j ∧ pck T s bs st' j
      · rw [gQ_t c.1 c.2]
        have i := ih (j + 1) st' k' (by omega) (by omega) vd' ek'
        refine ⟨i.1, i.2.1, fun a a0 a1 => ?_⟩
        by_cases d : a < k'
        · exact hc a a0 d
        · exact i.2.2 a (by omega) a1
      · rw [gQ_f c]
        exact ⟨by show k' ≤ 3; omega, (fun c => by cases c), fun i i0 i1 => hc i i0 i1⟩
    rw [gW_s]
    by_cases c5 : s 1 j 0 = 5
    · rw [if_pos c5]
      rw [if_pos (Or.inl c5)] at ks
      by_cases c : fR T s bs st j < ch k
      · rw [if_pos c]
        refine ⟨by show k + 1 ≤ 3; omega, fun _ => by show 1 ≤ k + 1; omega, fun i i0 i1 => ?_⟩
        have i1 : i < k + 1 - 1 := i1
        omega
      · rw [if_neg c]
        have jb : bs < j := by
          have : ¬ j = bs := fun c => b.2.2 (c ▸ c5)
          omega
        refine nx _ (k + 1) (fVd_W x b vd vs jb (by omega) c5 (by omega)) (by omega) (by omega) (fun i i0 i1 => ?_)
        have := vs.2.2.2
        rw [show i = k by omega]
        omega
    · rw [if_neg c5]
      by_cases cr : fR T s bs st j < 1
      · rw [if_pos cr]
        refine ⟨by show k ≤ 3; omega, (fun c => by cases c), fun i i0 i1 => ?_⟩
        have i1 : i < k := i1
        omega
      · rw [if_neg cr]
        have va := vs.2.2.1 (by omega)
        have sz := g.sz va.1 va.2
        by_cases c2 : s 1 j 0 = 2
        · rw [if_pos c2]
          rw [if_pos (Or.inr c2)] at ks
          by_cases c : T (fA s bs v st j) 6 ≤ ch k
          · rw [if_pos c]
            refine ⟨by show k + 1 ≤ 3; omega, fun _ => by show 1 ≤ k + 1; omega, fun i i0 i1 => ?_⟩
            have i1 : i < k + 1 - 1 := i1
            omega
          · rw [if_neg c]
            refine nx _ (k + 1) (fVd_O g x b vd vs j0 (by omega) c5 cr (by omega) (fun d => absurd c2 d)) (by omega) (by omega) (fun i i0 i1 => ?_)
            rw [show i = k by omega]
            omega
        · rw [if_neg c2]
          rw [if_neg (by omega), Int.add_zero] at ks
          by_cases ok : b2i (okI t w T s (fA s bs v st j) j) = 1
          · rw [if_pos ok]
            exact nx _ k (fVd_O g x b vd vs j0 (by omega) c5 cr (d := 0) (by omega) (fun _ => rfl)) (by omega) (by omega) (fun i i0 i1 => by omega)
          · rw [if_neg ok]
            refine ⟨by show k ≤ 3; omega, (fun c => by cases c), fun i i0 i1 => ?_⟩
            have i1 : i < k := i1
            omega
/-- the walk from item bs on -/
noncomputable def gAl (t w : Int → Int) (T : pT) (s : pS) (bs v : Int) : (Nat → Nat) → Option fZ × Nat × Bool := gW t w T s bs v (s 1 bs 9).toNat bs (fun _ _ => 0) 0
noncomputable def wAl (t w : Int → Int) (T : pT) (s : pS) (bs v : Int) : List fZ := Wm t w T s bs v (s 1 bs 9).toNat bs (fun _ _ => 0)
theorem fVd_0 : fVd nd T s bs (fun _ _ => 0) bs := fun y y0 y1 => by omega
theorem kcn_0 : kcn s bs bs = 0 := by unfold kcn; rw [show (bs - bs).toNat = 0 by omega]; rfl
theorem s187 (g : sF t n nd nc T C) (x : rEn w m 0 0 s) (b : bsI s 0 bs) (hv : 0 ≤ v ∧ v < nd) (y : mN h t n nd nc T C) (p : mPt h z w m s) (hm : m ≤ 300) (c0 : ∀ i : Nat, i < 3 → gI h 145 i = ch i) (cs : ∀ i, ch i ≤ 1000) {K : Int → zH → Prop} (q : ∀ vv h9, frP gWA h h9 → pSt s bs (gAl t w T s bs v ch) vv h9 → K vv h9) : zC1 187 [vR 127 111, vI z, vI (s 4 bs 0), vI v] h K := by
  have sp := x.sp b.1 b.2.1
  refine cI (k187_0 z (s 4 bs 0) v h _ (fun h17 e17 => ⟨Or.inl rfl, fun h18 e18 => ?_⟩))
  have f18 : frP gWA h h18 := by rw [e18, e17]; exact (frP.rf.st (by unfold gWA; omega)).st (by unfold gWA; omega)
  refine cploop h18 147 0 26 (fun _ => -1) (fun l hh => zK 187 13 [vR 127 111, vI z, vI (s 4 bs 0), vI v, vI l, vU, vU, vU, vU] [] hh _) (fun l h1 l0 l1 f1 kk => ?_) (fun h1 f1 v1 => ?_) (by omega)
  · exact k187_13 z (s 4 bs 0) v l _ _ _ _ h1 _ ⟨fun d => absurd d (by omega), fun _ => ⟨l0, l1, fun h19 e19 => ⟨by unfold inR; omega, by rw [e19]; exact kk⟩⟩⟩
  · have F1 : frP gWA h h1 := f18.tr (f1.mo (fun b k q => by unfold gWA; omega))
    refine k187_13 z (s 4 bs 0) v 26 _ _ _ _ h1 _ ⟨fun _ => ?_, fun d => absurd (by omega) d⟩
    have W := fun u7 u8 => walk (u3 := vI v) (Q := fun r h1 => ∃ v : Int, r = some (Sum.inl v) ∧ K v h1) g x b hv y p hm c0 cs (s 1 bs 9).toNat bs (fun _ _ => 0) 0 h1 u7 u8 (by omega) (by omega) (by omega) F1 fVd_0 (fun y y0 y1 => by omega) (fun d => by omega) (fun l l0 l1 => ⟨fun _ => v1 l l0 l1, fun c => absurd hF_0 c⟩) (by rw [f1.1 _ _ (by omega), e18, gS, if_neg (by omega), e17, gS1]; rfl) (by rw [f1.1 _ _ (by omega), e18, gS1]) (by rw [kcn_0]; rfl) (fun vv h9 f9 pp => zq1 (q vv h9 f9 pp))
    rw [lD_0, show nxv s bs v (fun _ _ => 0) bs = v by unfold nxv; rw [if_pos rfl]] at W
    exact k187_43 z (s 4 bs 0) (vI v) (-1) v (s 4 bs 0) _ _ h1 _ ⟨fun _ => W _ _, fun d => absurd rfl d⟩
theorem s189 {K : zH → Prop} (k : ∀ h1, frP (fun b _ => b = 145) h h1 → (∀ i : Nat, i < 3 → gI h1 145 i = 0) → K h1) : zC0 189 [vR 127 111] h K := by
  refine cV (k189_0 h _ ?_)
  refine cploop h 145 0 3 (fun _ => 0) (fun l hh => zK 189 2 [vR 127 111, vI l] [] hh _) (fun l h1 l0 l1 f1 kk => ?_) (fun h1 f1 v1 => ?_) (by omega)
  · exact k189_2 l h1 _ ⟨fun d => absurd d (by omega), fun _ => ⟨l0, l1, fun h2 e2 => ⟨by unfold inR; omega, by rw [e2]; exact kk⟩⟩⟩
  · exact k189_2 3 h1 _ ⟨fun _ => zq0 (k h1 (f1.mo (fun b k q => q.1)) (fun i hi => v1 i (by omega) (by omega))), fun d => absurd (by omega) d⟩
theorem s188 {R : Option fZ × Nat × Bool} (e35 : gI h 127 35 = R.2.1) (e36 : gI h 127 36 = (if R.2.2 then 1 else 0)) (h3 : R.2.1 ≤ 3) (h1' : R.2.2 = true → 1 ≤ R.2.1) (c0 : ∀ i : Nat, i < 3 → gI h 145 i = ch i) (cs : ∀ i, ch i ≤ 1000) {K : Int → zH → Prop}
    (k0 : eix R = 0 → K 0 h) (k1 : ∀ i, eix R = i + 1 → ∀ h1, frP (fun b _ => b = 145) h h1 → (∀ j : Nat, j < 3 → gI h1 145 j = inC i ch j) → K 1 h1) : zC1 188 [vR 127 111] h K := by
  obtain ⟨o, k, bb⟩ := R
  dsimp only at *
  have main : zK 188 22 [vR 127 111, vU, vU] [vI ((eix (o, k, bb) : Int) - 1)] h (fun r h1 => ∃ v : Int, r = some (Sum.inl v) ∧ K v h1) := by
    have e3 : eix (o, k, bb) ≤ 3 := by unfold eix; dsimp only; split <;> omega
    refine k188_22 _ _ _ h _ ⟨fun d => ?_, fun d => ⟨Or.inl rfl, zq1 (k0 (by omega))⟩⟩
    generalize eix (o, k, bb) = e at *
    obtain ⟨i, hi⟩ : ∃ i : Nat, e = i + 1 := ⟨e - 1, by omega⟩
    subst hi
    rw [show ((i + 1 : Nat) : Int) - 1 = (i : Int) by omega]
    have ci := cs i
    rw [c0 i (by omega)]
    refine ⟨by omega, by omega, by unfold inR; omega, by omega, by omega, fun h3 e3 => ⟨by unfold inR; omega, ?_⟩⟩
    refine cploop h3 145 ((i : Int) + 1) 3 (fun _ => 0) (fun l hh => zK 188 43 [vR 127 111, vI (i : Int), vI l] [] hh _) (fun l h1 l0 l1 f1 kk => ?_) (fun h1 f1 v1 => ?_) (by omega)
    · exact k188_43 _ l h1 _ ⟨fun d => absurd d (by omega), fun _ => ⟨by omega, by omega, fun h4 e4 => ⟨by unfold inR; omega, by rw [e4]; exact kk⟩⟩⟩
    · refine k188_43 _ 3 h1 _ ⟨fun _ => ⟨Or.inr rfl, zq1 (k1 i rfl h1 ?_ (fun j hj => ?_))⟩, fun d => absurd (by omega) d⟩
      · exact (show frP (fun b _ => b = 145) h h3 by rw [e3]; exact frP.rf.st rfl).tr (f1.mo (fun b k q => q.1))
      · unfold inC
        by_cases c : j < i
        · rw [if_pos c, f1.1 _ _ (by omega), e3, gS, if_neg (by omega)]; exact c0 j hj
        · rw [if_neg c]
          by_cases d : j = i
          · rw [if_pos d, d, f1.1 _ _ (by omega), e3, gS1]; omega
          · rw [if_neg d]; exact v1 j (by omega) (by omega)
  refine cI (k188_0 h _ ?_)
  rw [e36, e35]
  cases bb with
  | false =>
    refine ⟨fun _ => ⟨by unfold inR; omega, main⟩, fun d => absurd rfl d⟩
  | true =>
    have := h1' rfl
    refine ⟨fun d => by simp at d, fun _ => ⟨by unfold inR; omega, ?_⟩⟩
    rw [show eix (o, k, true) = k - 1 from rfl, show ((k - 1 : Nat) : Int) - 1 = (k : Int) - 2 by omega] at main
    exact main
theorem gW_B {P : Nat → Int → Prop} {h1 h2 : zH} (f : frP gWB h h1) (f2 : frP P h1 h2) (d : ∀ b k, P b k → gWB b k) : frP gWB h h2 := f.tr (f2.mo d)
section FT
theorem s190l (g : sF t n nd nc T C) (x : rEn w m 0 0 s) (b : bsI s 0 bs) (hv : 0 ≤ v ∧ v < nd) (y : mN h t n nd nc T C) (p : mPt h z w m s) (hm : m ≤ 300) {Q : Option zV → zH → Prop} {ch : Nat → Nat} {L : List fZ} (en : Enm (gAl t w T s bs v) ch L) (q0 : L = [] → ∀ h1, frP gWB h h1 → Q (some (vI 0)) h1) (q1 : ∀ st L', L = st :: L' → ∀ h1, frP gWB h h1 → mIh h1 s bs st (bs + s 1 bs 9) → Q (some (vI 1)) h1) :
    ∀ h1, frP gWB h h1 → (∀ i : Nat, i < 3 → gI h1 145 i = ch i) → (∀ i, ch i ≤ 61) → zC1 187 [vR 127 111, vI z, vI (s 4 bs 0), vI v] h1 (fun v6 h6 => zK 190 13 [vR 127 111, vI z, vI (s 4 bs 0), vI v, vI v6] [] h6 Q) := by
  have sp := x.sp b.1 b.2.1
  induction en using Enm.ind with
  | stop ch e =>
    intro h1 f1 c1 cb
    have y1 : mN h1 t n nd nc T C := y.fr g.hn f1 (fun k _ _ => by unfold gWB gWA; omega) (by unfold gWB gWA; omega) (fun k => by unfold gWB gWA; omega)
    have p1 : mPt h1 z w m s := p.fr hm f1 (fun k _ => by unfold gWB gWA; omega) (fun k => by unfold gWB gWA; omega)
    have gb := gW_b (ch := ch) g x b hv (s 1 bs 9).toNat bs (fun _ _ => 0) 0 (by omega) (by omega) fVd_0 (by rw [kcn_0]; rfl)
    refine s187 g x b hv y1 p1 hm c1 (fun i => by have := cb i; omega) (fun vv h9 f9 ps => ?_)
    have F9 : frP gWB h h9 := gW_B f1 f9 (fun b k q => Or.inl q)
    obtain ⟨p35, p36, pn, ps⟩ := ps
    rcases hR : (gAl t w T s bs v ch).1 with _ | st
    · rw [pn hR]
      refine k190_13 z (s 4 bs 0) v 0 h9 Q ⟨fun c => absurd rfl c, fun _ => s188 (ch := ch) p35 p36 gb.1 gb.2.1 (fun i hi => by rw [f9.1 _ _ (by unfold gWA; omega)]; exact c1 i hi) (fun i => by have := cb i; omega) (fun e0 => ⟨fun _ => ⟨Or.inl rfl, q0 (by rw [hR]; rfl) h9 F9⟩, fun c => absurd rfl c⟩) (fun i ei h10 f10 c10 => by rw [e] at ei; omega)⟩
    · have := ps st hR
      rw [this.1]
      exact k190_13 z (s 4 bs 0) v 1 h9 Q ⟨fun _ => ⟨Or.inr rfl, q1 st [] (by rw [hR]; rfl) h9 F9 this.2⟩, fun c => absurd (by omega) c⟩
  | go ch i L e en ih =>
    intro h1 f1 c1 cb
    have y1 : mN h1 t n nd nc T C := y.fr g.hn f1 (fun k _ _ => by unfold gWB gWA; omega) (by unfold gWB gWA; omega) (fun k => by unfold gWB gWA; omega)
    have p1 : mPt h1 z w m s := p.fr hm f1 (fun k _ => by unfold gWB gWA; omega) (fun k => by unfold gWB gWA; omega)
    have gb := gW_b (ch := ch) g x b hv (s 1 bs 9).toNat bs (fun _ _ => 0) 0 (by omega) (by omega) fVd_0 (by rw [kcn_0]; rfl)
    refine s187 g x b hv y1 p1 hm c1 (fun i => by have := cb i; omega) (fun vv h9 f9 ps => ?_)
    have F9 : frP gWB h h9 := gW_B f1 f9 (fun b k q => Or.inl q)
    obtain ⟨p35, p36, pn, ps⟩ := ps
    rcases hR : (gAl t w T s bs v ch).1 with _ | st
    · rw [hR] at q0 q1
      rw [pn hR]
      refine k190_13 z (s 4 bs 0) v 0 h9 Q ⟨fun c => absurd rfl c, fun _ => s188 (ch := ch) p35 p36 gb.1 gb.2.1 (fun i hi => by rw [f9.1 _ _ (by unfold gWA; omega)]; exact c1 i hi) (fun i => by have := cb i; omega) (fun e0 => by rw [e] at e0; omega) (fun i' ei h10 f10 c10 => ⟨fun c => absurd c (by omega), fun _ => ?_⟩)⟩
      rw [e] at ei
      have ei : i' = i := by omega
      subst ei
      refine ih q0 q1 h10 (gW_B F9 f10 (fun b k q => Or.inr q)) c10 (fun a => ?_)
      have ci := gb.2.2 i' (by omega) (by show i' < eix (gAl t w T s bs v ch); omega)
      unfold inC
      have ca := cb a
      split
      · omega
      · split <;> omega
    · have := ps st hR
      rw [this.1]
      exact k190_13 z (s 4 bs 0) v 1 h9 Q ⟨fun _ => ⟨Or.inr rfl, q1 st L (by rw [hR]; rfl) h9 F9 this.2⟩, fun c => absurd (by omega) c⟩
theorem s190 (g : sF t n nd nc T C) (x : rEn w m 0 0 s) (b : bsI s 0 bs) (hv : 0 ≤ v ∧ v < nd) (y : mN h t n nd nc T C) (p : mPt h z w m s) (hm : m ≤ 300) {K : Int → zH → Prop} (q0 : wAl t w T s bs v = [] → ∀ h1, frP gWB h h1 → K 0 h1) (q1 : ∀ st L', wAl t w T s bs v = st :: L' → ∀ h1, frP gWB h h1 → mIh h1 s bs st (bs + s 1 bs 9) → K 1 h1) : zC1 190 [vR 127 111, vI z, vI (s 4 bs 0), vI v] h K := by
  refine cI (k190_0 z (s 4 bs 0) v h _ (s189 (fun h1 f1 c1 => ?_)))
  exact s190l g x b hv y p hm (enm_all _ _ _) (fun e h2 f2 => zq1 (q0 e h2 f2)) (fun st L' e h2 f2 i => zq1 (q1 st L' e h2 f2 i)) h1 (f1.mo (fun b k q => Or.inr q)) c1 (fun i => by omega)
/-- counted up to 500 -/
theorem s192l (g : sF t n nd nc T C) (x : rEn w m 0 0 s) (b : bsI s 0 bs) (hv : 0 ≤ v ∧ v < nd) (y : mN h t n nd nc T C) (p : mPt h z w m s) (hm : m ≤ 300) {Q : Option zV → zH → Prop} {ch : Nat → Nat} {L : List fZ} (en : Enm (gAl t w T s 0 v) ch L) (hb : bs = 0) :
    ∀ (c : Nat) h1, (∀ h2, frP gWB h h2 → Q (some (vI (if c + L.length ≤ 500 then ((c + L.length : Nat) : Int) else 500))) h2) → frP gWB h h1 → (∀ i : Nat, i < 3 → gI h1 145 i = ch i) → (∀ i, ch i ≤ 61) → c ≤ 500 → zK 192 32 [vR 127 111, vI z, vI v, vI c, vI 1] [] h1 Q := by
  subst hb
  have sp := x.sp b.1 b.2.1
  have rt := x.rt
  induction en using Enm.ind with
  | stop ch e =>
    intro c h1 q f1 c1 cb cm
    have y1 : mN h1 t n nd nc T C := y.fr g.hn f1 (fun k _ _ => by unfold gWB gWA; omega) (by unfold gWB gWA; omega) (fun k => by unfold gWB gWA; omega)
    have p1 : mPt h1 z w m s := p.fr hm f1 (fun k _ => by unfold gWB gWA; omega) (fun k => by unfold gWB gWA; omega)
    have gb := gW_b (ch := ch) g x b hv (s 1 0 9).toNat 0 (fun _ _ => 0) 0 (by omega) (by omega) fVd_0 (by rw [kcn_0]; rfl)
    refine k192_32 z v c 1 h1 Q ⟨fun d => absurd d (by omega), fun _ => ⟨fun d => ?_, fun d => ?_⟩⟩
    · have := q h1 f1
      rw [show (if c + (gAl t w T s 0 v ch).1.toList.length ≤ 500 then ((c + (gAl t w T s 0 v ch).1.toList.length : Nat) : Int) else 500) = (c : Int) by split <;> omega] at this
      exact this
    · have s7 := s187 (K := fun v12 h12 => (v12 = 0 → (inR ((c : Int) + 0)) ∧ zC1 188 [vR 127 111] h12 (fun v13 h13 => zK 192 32 [vR 127 111, vI z, vI v, vI ((c : Int) + 0), vI v13] [] h13 Q)) ∧ (¬ (v12 = 0) → (inR ((c : Int) + 1)) ∧ zC1 188 [vR 127 111] h12 (fun v14 h14 => zK 192 32 [vR 127 111, vI z, vI v, vI ((c : Int) + 1), vI v14] [] h14 Q))) g x b hv y1 p1 hm c1 (fun i => by have := cb i; omega) (fun vv h9 f9 ps => ?_)
      · rw [rt.2.2.2] at s7; exact s7
      · have F9 : frP gWB h h9 := gW_B f1 f9 (fun b k q => Or.inl q)
        obtain ⟨p35, p36, pn, ps⟩ := ps
        have c9 : ∀ i : Nat, i < 3 → gI h9 145 i = ch i := fun i hi => by rw [f9.1 _ _ (by unfold gWA; omega)]; exact c1 i hi
        have q := q h9 F9
        rcases hR : (gAl t w T s 0 v ch).1 with _ | st
        · rw [pn hR]
          rw [hR] at q
          refine ⟨fun _ => ⟨by unfold inR; omega, s188 (ch := ch) p35 p36 gb.1 gb.2.1 c9 (fun i => by have := cb i; omega) (fun e0 => ?_) (fun i ei h10 f10 c10 => by rw [e] at ei; omega)⟩, fun d => absurd rfl d⟩
          refine k192_32 z v _ 0 h9 Q ⟨fun _ => ?_, fun d => absurd rfl d⟩
          rw [show (if c + (none : Option fZ).toList.length ≤ 500 then ((c + (none : Option fZ).toList.length : Nat) : Int) else 500) = (c : Int) + 0 by simp; omega] at q
          exact q
        · rw [(ps st hR).1]
          rw [hR] at q
          refine ⟨fun d => absurd d (by omega), fun _ => ⟨by unfold inR; omega, s188 (ch := ch) p35 p36 gb.1 gb.2.1 c9 (fun i => by have := cb i; omega) (fun e0 => ?_) (fun i ei h10 f10 c10 => by rw [e] at ei; omega)⟩⟩
          refine k192_32 z v _ 0 h9 Q ⟨fun _ => ?_, fun d => absurd rfl d⟩
          rw [show (if c + (some st).toList.length ≤ 500 then ((c + (some st).toList.length : Nat) : Int) else 500) = (c : Int) + 1 by simp; omega] at q
          exact q
  | go ch i L e en ih =>
    intro c h1 q f1 c1 cb cm
    have y1 : mN h1 t n nd nc T C := y.fr g.hn f1 (fun k _ _ => by unfold gWB gWA; omega) (by unfold gWB gWA; omega) (fun k => by unfold gWB gWA; omega)
    have p1 : mPt h1 z w m s := p.fr hm f1 (fun k _ => by unfold gWB gWA; omega) (fun k => by unfold gWB gWA; omega)
    have gb := gW_b (ch := ch) g x b hv (s 1 0 9).toNat 0 (fun _ _ => 0) 0 (by omega) (by omega) fVd_0 (by rw [kcn_0]; rfl)
    refine k192_32 z v c 1 h1 Q ⟨fun d => absurd d (by omega), fun _ => ⟨fun d => ?_, fun d => ?_⟩⟩
    · have := q h1 f1
      rw [show (if c + ((gAl t w T s 0 v ch).1.toList ++ L).length ≤ 500 then ((c + ((gAl t w T s 0 v ch).1.toList ++ L).length : Nat) : Int) else 500) = (c : Int) by split <;> omega] at this
      exact this
    · have s7 := s187 (K := fun v12 h12 => (v12 = 0 → (inR ((c : Int) + 0)) ∧ zC1 188 [vR 127 111] h12 (fun v13 h13 => zK 192 32 [vR 127 111, vI z, vI v, vI ((c : Int) + 0), vI v13] [] h13 Q)) ∧ (¬ (v12 = 0) → (inR ((c : Int) + 1)) ∧ zC1 188 [vR 127 111] h12 (fun v14 h14 => zK 192 32 [vR 127 111, vI z, vI v, vI ((c : Int) + 1), vI v14] [] h14 Q))) g x b hv y1 p1 hm c1 (fun i => by have := cb i; omega) (fun vv h9 f9 ps => ?_)
      · rw [rt.2.2.2] at s7; exact s7
      · have F9 : frP gWB h h9 := gW_B f1 f9 (fun b k q => Or.inl q)
        obtain ⟨p35, p36, pn, ps⟩ := ps
        have c9 : ∀ i : Nat, i < 3 → gI h9 145 i = ch i := fun i hi => by rw [f9.1 _ _ (by unfold gWA; omega)]; exact c1 i hi
        have bd : ∀ i', i' = i → ∀ a, inC i' ch a ≤ 61 := by
          intro i' ei a
          subst ei
          have ci := gb.2.2 i' (by omega) (by show i' < eix (gAl t w T s 0 v ch); omega)
          unfold inC
          have ca := cb a
          split
          · omega
          · split <;> omega
        rcases hR : (gAl t w T s 0 v ch).1 with _ | st
        · rw [pn hR]
          rw [hR] at q
          refine ⟨fun _ => ⟨by unfold inR; omega, s188 (ch := ch) p35 p36 gb.1 gb.2.1 c9 (fun i => by have := cb i; omega) (fun e0 => by rw [e] at e0; omega) (fun i' ei h10 f10 c10 => ?_)⟩, fun d => absurd rfl d⟩
          rw [e] at ei
          have ei : i' = i := by omega
          rw [Int.add_zero]
          refine ih c h10 (fun h2 f2 => q h2 f2) (gW_B F9 f10 (fun b k q => Or.inr q)) (by rw [← ei]; exact c10) (by rw [← ei]; exact bd i' ei) cm
        · rw [(ps st hR).1]
          rw [hR] at q
          refine ⟨fun d => absurd d (by omega), fun _ => ⟨by unfold inR; omega, s188 (ch := ch) p35 p36 gb.1 gb.2.1 c9 (fun i => by have := cb i; omega) (fun e0 => by rw [e] at e0; omega) (fun i' ei h10 f10 c10 => ?_)⟩⟩
          rw [e] at ei
          have ei : i' = i := by omega
          rw [show (c : Int) + 1 = ((c + 1 : Nat) : Int) by omega]
          refine ih (c + 1) h10 (fun h2 f2 => ?_) (gW_B F9 f10 (fun b k q => Or.inr q)) (by rw [← ei]; exact c10) (by rw [← ei]; exact bd i' ei) (by omega)
          have := q h2 f2
          rw [show c + ((some st).toList ++ L).length = c + 1 + L.length by simp; omega] at this
          exact this
end FT
end MF
