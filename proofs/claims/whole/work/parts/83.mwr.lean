/-! The model: what comes for an edit. -/
def mCo (h : zH) (R : List Int) : Prop := gI h 127 62 = R.length ∧ lAt h 166 R
def cwA (b : Nat) (k : Int) : Prop := (b = 127 ∧ k = 62) ∨ b = 166
theorem byteO : ∀ c : Nat, c < 128 → iByte (c : Int) = c := by decide
theorem byte_c {c : Int} (h : chO c) : iByte c = c := by
  have := byteO c.toNat (by unfold chO at h; omega)
  rwa [show ((c.toNat : Nat) : Int) = c by unfold chO at h; omega] at this
section MP
variable {h : zH} {R : List Int}
theorem mCo.fr {P : Nat → Int → Prop} {h1 : zH} (x : mCo h R) (f : frP P h h1) (d : ¬ P 127 62) (d2 : ∀ k, ¬ P 166 k) : mCo h1 R := ⟨by rw [f.1 _ _ d]; exact x.1, fun k hk => by rw [f.1 _ _ (d2 _)]; exact x.2 k hk⟩
theorem s230 {c : Int} (x : mCo h R) (hl : R.length < 7000) (hc : chO c) {K : zH → Prop} (k : ∀ h1, frP cwA h h1 → mCo h1 (R ++ [c]) → K h1) : zC0 230 [vR 127 111, vI c] h K := by
  refine cV (k230_0 c h _ ?_)
  rw [x.1, byte_c hc]
  unfold chO at hc
  refine ⟨by omega, by omega, by omega, fun h3 e3 => ?_⟩
  have z : gI h3 127 62 = R.length := by rw [e3, gS, if_neg (by omega)]; exact x.1
  rw [z]
  refine ⟨by unfold inR; omega, fun h4 e4 => zq0 (k h4 ?_ ⟨?_, ?_⟩)⟩
  · rw [e4, e3]; exact (frP.rf.st (Or.inr rfl)).st (Or.inl ⟨rfl, rfl⟩)
  · rw [e4, gS1, List.length_append]; rfl
  · have := lAt_s (x := c) x.2
    rw [← e3] at this
    exact this.cg (fun k _ _ => by rw [e4, gS, if_neg (by omega)])
theorem s231 {u : Int → Int} {off p e : Int} (x : mCo h R) (hu : ∀ z, p ≤ z → z < e → (0 ≤ off + z ∧ off + z < 2709) ∧ gI h 128 (off + z) = u z ∧ chO (u z)) (hl : R.length + (e - p).toNat < 7000) (hp : -10000 ≤ p ∧ e ≤ 10000 ∧ 0 ≤ off ∧ off ≤ 10000) {K : zH → Prop} (k : ∀ h1, frP cwA h h1 → mCo h1 (R ++ rowS u (e - p).toNat p) → K h1) : zC0 231 [vR 127 111, vI (off + p), vI (off + e)] h K := by
  have key : ∀ (f : Nat) (z : Int) (R1 : List Int) (h1 : zH), (e - z).toNat = f → p ≤ z → z ≤ e ∨ f = 0 → R1.length + f < 7000 → frP cwA h h1 → mCo h1 R1 → (∀ h2, frP cwA h h2 → mCo h2 (R1 ++ rowS u f z) → K h2) → zK 231 2 [vR 127 111, vI (off + p), vI (off + e), vI (off + z)] [] h1 (fun r h1 => r = none ∧ K h1) := by
    intro f
    induction f with
    | zero =>
      intro z R1 h1 hz pz _ hl1 f1 x1 kk
      refine k231_2 _ _ _ h1 _ ⟨fun _ => zq0 (kk h1 f1 ?_), fun c => absurd (by omega) c⟩
      rw [rowS, List.append_nil]; exact x1
    | succ f ih =>
      intro z R1 h1 hz pz _ hl1 f1 x1 kk
      have q := hu z pz (by omega)
      refine k231_2 _ _ _ h1 _ ⟨fun c => absurd c (by omega), fun _ => ⟨q.1.1, q.1.2, ?_⟩⟩
      rw [f1.1 _ _ (by unfold cwA; omega), q.2.1]
      refine s230 x1 (by omega) q.2.2 (fun h2 f2 x2 => ⟨by unfold inR; omega, ?_⟩)
      rw [show off + z + 1 = off + (z + 1) by omega]
      refine ih (z + 1) (R1 ++ [u z]) h2 (by omega) (by omega) (by omega) (by rw [List.length_append]; simp; omega) (f1.tr f2) x2 (fun h3 f3 x3 => kk h3 f3 ?_)
      rw [rowS]
      rw [List.append_assoc] at x3; exact x3
  exact cV (k231_0 _ _ h _ (key (e - p).toNat p R h rfl (by omega) (by omega) (by omega) frP.rf x k))
end MP
section MQ
variable {h : zH} {t w : Int → Int} {n nd nc m v x : Int} {T C : pT} {s s1 : pS} {e : fZ} {R : List Int} {B E : Int → Int}
/-- the tokens of a put in the model -/
def mPp (h : zH) (x : Int) (w : Int → Int) (m : Int) (s : pS) : Prop := (0 ≤ x ∧ x < 8) ∧ (∀ i, 0 ≤ i → i < m → gI h 128 (301 + 301 * x + i) = w i) ∧ gI h 140 (2 * x + 1) = s 0 0 7 ∧ ∀ k (j : Nat), 0 ≤ k → k < s 0 0 7 → j < 6 → gI h 139 (246 * (2 * x + 1) + 6 * k + j) = s 7 k j
theorem mPp.fr {P : Nat → Int → Prop} {h1 : zH} (p : mPp h x w m s) (f : frP P h h1) (d : ∀ k, ¬ P 128 k ∧ ¬ P 139 k ∧ ¬ P 140 k) : mPp h1 x w m s :=
  ⟨p.1, fun i i0 i1 => by rw [f.1 _ _ (d _).1]; exact p.2.1 i i0 i1, by rw [f.1 _ _ (d _).2.2]; exact p.2.2.1, fun k j h0 h1 h2 => by rw [f.1 _ _ (d _).2.1]; exact p.2.2.2 k j h0 h1 h2⟩
theorem s179b (j : Nat) {k : Int} (p : mPp h x w m s) (hk : 0 ≤ k ∧ k < s 0 0 7) (h7 : s 0 0 7 ≤ 40) (hj : j < 6) {K : Int → zH → Prop} (q : K (s 7 k j) h) : zC1 179 [vR 127 111, vI x, vI 1, vI k, vI j] h K := by
  have hx := p.1
  have e := p.2.2.2 k j hk.1 hk.2 hj
  refine cI (k179_0 x 1 k j h _ ⟨by unfold inR; omega, by unfold inR; omega, by unfold inR; omega, by unfold inR; omega, by unfold inR; omega, by unfold inR; omega, by omega, by omega, zq1 ?_⟩)
  rw [e]; exact q
def hlA (b : Nat) (_ : Int) : Prop := b = 167 ∨ b = 168
/-- the texts that letters hold, ready -/
def mHl (h : zH) (B E : Int → Int) : Prop := ∀ l, 0 ≤ l → l < 26 → gI h 167 l = B l ∧ gI h 168 l = E l
theorem s232 (g : sF t n nd nc T C) (y : mN h t n nd nc T C) (en : rEn w m 0 0 s1) (b : bsI s1 0 0) (hv : 0 ≤ v ∧ v < nd) {L' : List fZ} (hw : wAl t w T s1 0 v = e :: L') (mi : mIh h s1 0 e (s1 1 0 9)) {K : zH → Prop} (k : ∀ h1, frP hlA h h1 → mHl h1 (hBg T s1 e) (hEn T s1 e) → K h1) : zC0 232 [vR 127 111] h K := by
  have hnd := g.hd
  have key : ∀ (f : Nat) (l : Int) (h1 : zH) (u2 u3 : zV), 26 - l = f → 0 ≤ l → frP hlA h h1 → (∀ i, 0 ≤ i → i < l → gI h1 167 i = hBg T s1 e i ∧ gI h1 168 i = hEn T s1 e i) → zK 232 2 [vR 127 111, vI l, u2, u3] [] h1 (fun r h1 => r = none ∧ K h1) := by
    intro f
    induction f with
    | zero =>
      intro l h1 u2 u3 hl l0 f1 b1
      exact k232_2 l u2 u3 h1 _ ⟨fun _ => zq0 (k h1 f1 (fun i i0 i1 => b1 i i0 (by omega))), fun c => absurd (by omega) c⟩
    | succ f ih =>
      intro l h1 u2 u3 hl l0 f1 b1
      have ml := mi l l0 (by omega)
      refine k232_2 l u2 u3 h1 _ ⟨fun c => absurd c (by omega), fun _ => ⟨l0, by omega, fun h8 e8 => ⟨l0, by omega, fun h9 e9 => ⟨l0, by omega, ?_⟩⟩⟩⟩
      have f9 : frP hlA h h9 := by rw [e9, e8]; exact (f1.st (Or.inl rfl)).st (Or.inr rfl)
      have e147 : gI h9 147 l = gI h 147 l := f9.1 _ _ (by unfold hlA; omega)
      have e146 : gI h9 146 l = gI h 146 l := f9.1 _ _ (by unfold hlA; omega)
      have b9 : ∀ i, 0 ≤ i → i < l → gI h9 167 i = hBg T s1 e i ∧ gI h9 168 i = hEn T s1 e i := fun i i0 i1 => by
        rw [e9, gS, if_neg (by omega), gS, if_neg (by omega), e8, gS, if_neg (by omega), gS, if_neg (by omega)]; exact b1 i i0 i1
      rw [e147, e146]
      refine ⟨fun c => ⟨by unfold inR; omega, ih (l + 1) h9 u2 u3 (by omega) (by omega) f9 (fun i i0 i1 => ?_)⟩, fun c => ⟨l0, by omega, ?_⟩⟩
      · by_cases d : i = l
        · subst d
          have nn : hF s1 0 i (s1 1 0 9) = -1 ∨ e 2 (hF s1 0 i (s1 1 0 9)) ≤ 0 ∨ i < 0 := by
            by_cases z : hF s1 0 i (s1 1 0 9) = -1
            · exact Or.inl z
            · right; left; rw [← (ml.2 z).1]; exact c
          unfold hBg hEn
          rw [if_pos nn, if_pos nn, e9, gS1, gS, if_neg (by omega), e8, gS1]; exact ⟨rfl, rfl⟩
        · exact b9 i i0 (by omega)
      · have z : ¬ hF s1 0 l (s1 1 0 9) = -1 := fun z => by rw [ml.1 z] at c; omega
        have mz := ml.2 z
        rw [mz.1] at c
        have hr := held_r g en b hv hw l0 z c
        have nn : ¬ (hF s1 0 l (s1 1 0 9) = -1 ∨ e 2 (hF s1 0 l (s1 1 0 9)) ≤ 0 ∨ l < 0) := by omega
        have eB : hBg T s1 e l = T (e 0 (hF s1 0 l (s1 1 0 9))) 4 := by unfold hBg; rw [if_neg nn]
        have eE : hEn T s1 e l = T (e 1 (hF s1 0 l (s1 1 0 9))) 5 := by unfold hEn; rw [if_neg nn]
        clear nn
        generalize hF s1 0 l (s1 1 0 9) = p at *
        have y9 : mN h9 t n nd nc T C := y.fr g.hn f9 (fun k _ _ => by unfold hlA; omega) (by unfold hlA; omega) (fun k => by unfold hlA; omega)
        have r0 : 0 ≤ e 0 p ∧ e 0 p < nd := hr.2.2.1 0 (by omega)
        have r1 := hr.2.2.1 (e 2 p - 1).toNat (by omega)
        have lp : ∀ (d j : Nat), (j : Int) + d = e 2 p → 1 ≤ j → zK 232 40 [vR 127 111, vI l, vI (adv T (j - 1) (e 0 p)), vI (j : Nat)] [] h9 (fun r h1 => r = none ∧ K h1) := by
          intro d
          induction d with
          | zero =>
            intro j hj j1
            refine k232_40 l _ _ h9 _ ?_
            rw [e147, e146, mz.1, mz.2]
            refine ⟨l0, by omega, fun _ => ⟨l0, by omega, s158 4 (by omega) g y9 r0 ⟨l0, by omega, fun h11 e11 => ?_⟩⟩, fun c => absurd (by omega) c⟩
            have f11 : frP hlA h h11 := by rw [e11]; exact f9.st (Or.inl rfl)
            have y11 : mN h11 t n nd nc T C := y.fr g.hn f11 (fun k _ _ => by unfold hlA; omega) (by unfold hlA; omega) (fun k => by unfold hlA; omega)
            have ej : j - 1 = (e 2 p - 1).toNat := by omega
            rw [ej, ← hr.2.2.2]
            rw [← hr.2.2.2] at r1
            refine s158 5 (by omega) g y11 r1 ⟨l0, by omega, fun h13 e13 => ⟨by unfold inR; omega, ih (l + 1) h13 _ _ (by omega) (by omega) (by rw [e13]; exact f11.st (Or.inr rfl)) (fun i i0 i1 => ?_)⟩⟩
            by_cases d : i = l
            · subst d
              rw [eB, eE, e13, gS1, gS, if_neg (by omega), e11, gS1]; exact ⟨rfl, rfl⟩
            · rw [e13, gS, if_neg (by omega), gS, if_neg (by omega), e11, gS, if_neg (by omega), gS, if_neg (by omega)]; exact b9 i i0 (by omega)
          | succ d ihd =>
            intro j hj j1
            have rj := hr.2.2.1 (j - 1) (by omega)
            have sz := g.sz rj.1 rj.2
            refine k232_40 l _ _ h9 _ ?_
            rw [e147, mz.1]
            refine ⟨l0, by omega, fun c => absurd c (by omega), fun _ => s158 6 (by omega) g y9 rj ⟨by unfold inR; omega, by unfold inR; omega, ?_⟩⟩
            have := ihd (j + 1) (by omega) (by omega)
            rw [show j + 1 - 1 = (j - 1) + 1 by omega, adv_s] at this
            exact this
        have := lp (e 2 p - 1).toNat 1 (by omega) (by omega)
        rw [mz.2]
        exact this
  exact cV (k232_0 h _ (key 26 0 h _ _ (by omega) (by omega) frP.rf (fun i i0 i1 => by omega)))
theorem s233 {b0 : Int} (g : sF t n nd nc T C) (y : mN h t n nd nc T C) (p : mPp h x w m s) (en : rEn w m 1 b0 s) (mh : mHl h B E) {j : Int} (j0 : 0 ≤ j) (j1 : j < nc) {K : Int → zH → Prop} (k : K (b2i (hdC C s B E j)) h) : zC1 233 [vR 127 111, vI x, vI j] h K := by
  have t4 := en.t41
  have hx := p.1
  have hnc := g.hc
  have N := en.N
  have yc := y.2.2.2.2 j j0 j1
  have key : ∀ (f : Nat) (i : Int) (c : Prop) (u5 u6 : zV), s 0 0 7 - i = f → 0 ≤ i → ((c ∨ ∃ q, i ≤ q ∧ q < s 0 0 7 ∧ isLt s q ∧ B (s 7 q 1) ≤ C j 0 ∧ C j 0 < E (s 7 q 1)) ↔ hdC C s B E j) → zK 233 5 [vR 127 111, vI x, vI j, vI (b2i c), vI i, u5, u6] [] h (fun r h1 => ∃ v : Int, r = some (Sum.inl v) ∧ K v h1) := by
    intro f
    induction f with
    | zero =>
      intro i c u5 u6 hi i0 hc
      refine k233_5 x j _ i u5 u6 h _ ?_
      rw [p.2.2.1]
      refine ⟨by unfold inR; omega, by unfold inR; omega, by omega, by omega, fun _ => ⟨b2i_01, zq1 ?_⟩, fun d => absurd (by omega) d⟩
      rw [← b2i_congr hc] at k
      rwa [b2i_congr (show (c ∨ ∃ q, i ≤ q ∧ q < s 0 0 7 ∧ isLt s q ∧ B (s 7 q 1) ≤ C j 0 ∧ C j 0 < E (s 7 q 1)) ↔ c from ⟨fun q => by rcases q with q | ⟨m, m0, m1, _⟩; exact q; omega, Or.inl⟩)] at k
    | succ f ih =>
      intro i c u5 u6 hi i0 hc
      have st : ∀ (c' : Prop), (c' ↔ (c ∨ (isLt s i ∧ B (s 7 i 1) ≤ C j 0 ∧ C j 0 < E (s 7 i 1)))) → ∀ u5 u6, zK 233 5 [vR 127 111, vI x, vI j, vI (b2i c'), vI (i + 1), u5, u6] [] h (fun r h1 => ∃ v : Int, r = some (Sum.inl v) ∧ K v h1) := by
        intro c' hc' u5 u6
        refine ih (i + 1) c' u5 u6 (by omega) (by omega) ?_
        rw [hc', ← hc]
        constructor
        · rintro ((q | q) | ⟨z, z0, z1, q⟩)
          · exact Or.inl q
          · exact Or.inr ⟨i, by omega, by omega, q⟩
          · exact Or.inr ⟨z, by omega, z1, q⟩
        · rintro (q | ⟨z, z0, z1, q⟩)
          · exact Or.inl (Or.inl q)
          · by_cases d : z = i
            · subst d; exact Or.inl (Or.inr q)
            · exact Or.inr ⟨z, by omega, z1, q⟩
      -- a letter
      have le : ¬ c → isLt s i → ∀ (u3 : zV) (w3 : Int), zK 233 59 [vR 127 111, vI x, vI j, u3, vI i, vI w3, vI (s 7 i 1)] [] h (fun r h1 => ∃ v : Int, r = some (Sum.inl v) ∧ K v h1) := by
        intro nc' lt u3 w3
        obtain ⟨q, q0, q1, eq⟩ := tok_it en (s 0 0 1 - b0).toNat b0 i (by omega) (by omega) N.2.1 (by rw [en.rt.2.2.2]; exact i0) (by omega) (by unfold isLt at lt; omega)
        have ct := en.ct1 q0 q1
        rw [eq] at ct
        have lr : 0 ≤ s 7 i 1 ∧ s 7 i 1 < 26 := by unfold isLt at lt; omega
        have hh := mh _ lr.1 lr.2
        refine k233_59 x j u3 i (vI w3) (s 7 i 1) h _ ?_
        rw [yc.1, hh.1, hh.2]
        refine ⟨by unfold inR; omega, by omega, by omega, lr.1, lr.2, fun d => ⟨by unfold inR; omega, ?_⟩, fun d => ⟨by unfold inR; omega, by omega, by omega, lr.1, lr.2, fun d1 => ⟨by unfold inR; omega, ?_⟩, fun d1 => ⟨by unfold inR; omega, ?_⟩⟩⟩
        · have := st False ⟨fun q => q.elim, fun q => by rcases q with q | q; exact nc' q; omega⟩ (vI w3) (vI (s 7 i 1))
          rwa [b2i_neg (fun q => q)] at this
        · have := st False ⟨fun q => q.elim, fun q => by rcases q with q | q; exact nc' q; omega⟩ (vI w3) (vI (s 7 i 1))
          rwa [b2i_neg (fun q => q)] at this
        · have := st True ⟨fun _ => Or.inr ⟨lt, by omega, by omega⟩, fun _ => trivial⟩ (vI w3) (vI (s 7 i 1))
          rwa [b2i_pos trivial] at this
      refine k233_5 x j _ i u5 u6 h _ ?_
      rw [p.2.2.1]
      refine ⟨by unfold inR; omega, by unfold inR; omega, by omega, by omega, fun d => absurd d (by omega), fun _ => s179b 0 p ⟨i0, by omega⟩ t4.1 (by omega) (s179b 1 p ⟨i0, by omega⟩ t4.1 (by omega) ⟨fun d => ⟨by unfold inR; omega, ?_⟩, fun d => ⟨fun d1 => le (by rw [← b2i_eq0]; exact Classical.not_not.1 d) (Or.inl d1) _ _, fun d1 => ⟨fun d2 => ⟨by unfold inR; omega, ?_⟩, fun d2 => le (by rw [← b2i_eq0]; exact Classical.not_not.1 d) (Or.inr (Classical.not_not.1 d2)) _ _⟩⟩⟩)⟩
      · rw [b2i_ne0] at d
        have := st True ⟨fun _ => Or.inl d, fun _ => trivial⟩ (vI (s 7 i 0)) (vI (s 7 i 1))
        rwa [b2i_pos trivial] at this
      · have d := Classical.not_not.1 d
        rw [b2i_eq0] at d
        have := st False ⟨fun q => q.elim, fun q => by rcases q with q | q; exact d q; unfold isLt at q; omega⟩ (vI (s 7 i 0)) (vI (s 7 i 1))
        rwa [b2i_neg (fun q => q)] at this
  have := key (s 0 0 7).toNat 0 False vU vU (by omega) (by omega) ⟨fun q => ?_, fun q => ?_⟩
  · rw [b2i_neg (fun q => q)] at this
    exact cI (k233_0 x j h _ this)
  · rcases q with q | q
    · exact q.elim
    · exact q
  · exact Or.inr q
/-- one token is put -/
theorem s234 {b0 k1 z : Int} (g : sF t n nd nc T C) (y : mN h t n nd nc T C) (p : mPp h x w m s) (hm : m ≤ 300) (en : rEn w m 1 b0 s) (wd : wdA w b0 s) (hl : hlG n nc C B E) (mh : mHl h B E) (hk : 0 ≤ k1 ∧ k1 < s 0 0 7) (hz : z = if k1 = 0 then 1 else 0) (co : mCo h R) (hR : R.length < 6600) {K : zH → Prop} (k : ∀ h1, frP cwA h h1 → mCo h1 (R ++ tkS t w s B E k1) → K h1) : zC0 234 [vR 127 111, vI x, vI k1, vI z] h K := by
  have t4 := en.t41
  have hx := p.1
  have hn := g.hn
  have N := en.N
  have c32 : chO 32 := by unfold chO; omega
  have c40 : chO 40 := by unfold chO; omega
  have c41 : chO 41 := by unfold chO; omega
  by_cases c7 : s 7 k1 0 = 7
  · have e : tkS t w s B E k1 = [41] := by rw [tkS, if_pos c7]
    rw [e] at k
    refine cV (k234_0 x k1 z h _ (s179b 0 p hk t4.1 (by omega) (s179b 1 p hk t4.1 (by omega) ⟨fun d => by omega, fun _ => ⟨fun _ => ?_, fun d => by omega⟩⟩)))
    have fin : ∀ u3 u7, zK 234 72 [vR 127 111, vI x, vI k1, u3, vI (s 7 k1 0), vI (s 7 k1 1), vI 0, u7] [] h (fun r h1 => r = none ∧ K h1) := fun u3 u7 => k234_72 x k1 u3 _ _ 0 u7 h _ ⟨fun d => absurd c7 d, fun _ => s230 co (by omega) c41 (fun h2 f2 x2 => zq0 (k h2 f2 x2))⟩
    exact k234_38 x k1 z _ _ _ _ 0 h _ ⟨fun _ => fin _ _, fun _ => ⟨fun _ => fin _ _, fun d => absurd c7 d⟩⟩
  · obtain ⟨i, i0, i1, ei⟩ := tok_it en (s 0 0 1 - b0).toNat b0 k1 (by omega) (by omega) N.2.1 (by rw [en.rt.2.2.2]; exact hk.1) hk.2 c7
    have ct := en.ct1 i0 i1
    have wi := wd i i0 i1
    unfold wdO at wi
    rw [ei] at ct
    -- behind the blank
    have row : ∀ (R1 : List Int) (h1 : zH) (l6 : Int) (u3 u7 : zV), frP cwA h h1 → mCo h1 R1 → R1 = R ++ (if k1 = 0 ∨ (isLt s k1 ∧ E (s 7 k1 1) = 0) then [] else [32]) → (l6 = 0 ↔ ¬ isLt s k1) → zK 234 72 [vR 127 111, vI x, vI k1, u3, vI (s 7 k1 0), vI (s 7 k1 1), vI l6, u7] [] h1 (fun r h1 => r = none ∧ K h1) := by
      intro R1 h1 l6 u3 u7 f1 x1 eR h6
      have l1 : R1.length ≤ R.length + 1 := by
        rw [eR, List.length_append]
        have : (if k1 = 0 ∨ (isLt s k1 ∧ E (s 7 k1 1) = 0) then ([] : List Int) else [32]).length ≤ 1 := by split <;> simp
        omega
      have p1 := p.fr f1 (fun k => by unfold cwA; omega)
      have mh1 : mHl h1 B E := fun l l0 l1 => by rw [f1.1 _ _ (by unfold cwA; omega), f1.1 _ _ (by unfold cwA; omega)]; exact mh l l0 l1
      have y1 : mN h1 t n nd nc T C := y.fr g.hn f1 (fun k _ _ => by unfold cwA; omega) (by unfold cwA; omega) (fun k => by unfold cwA; omega)
      -- a word
      have wrd : ¬ isLt s k1 → ∀ (R2 : List Int) (h2 : zH) (u3 u4 u5 u6 u7 : zV), frP cwA h h2 → mCo h2 R2 → R2 = R1 ++ (if s 7 k1 0 = 5 then [40] else []) → zK 234 126 [vR 127 111, vI x, vI k1, u3, u4, u5, u6, u7] [] h2 (fun r h1 => r = none ∧ K h1) := by
        intro nl R2 h2 u3 u4 u5 u6 u7 f2 x2 eR2
        have p2 := p.fr f2 (fun k => by unfold cwA; omega)
        have l2 : R2.length ≤ R1.length + 1 := by
          rw [eR2, List.length_append]
          have : (if s 7 k1 0 = 5 then ([40] : List Int) else []).length ≤ 1 := by split <;> simp
          omega
        have w3 : s 7 k1 3 = s 1 i 10 ∧ s 7 k1 4 = s 1 i 11 ∧ 0 ≤ s 1 i 10 ∧ 1 ≤ s 1 i 11 ∧ s 1 i 11 ≤ 8 ∧ s 1 i 10 + s 1 i 11 ≤ m := by unfold isLt at nl; omega
        refine k234_126 x k1 u3 u4 u5 u6 u7 h2 _ (s142 (by omega) (s179b 3 p2 hk t4.1 (by omega) ⟨by unfold inR; omega, s179b 4 p2 hk t4.1 (by omega) ⟨by unfold inR; omega, ?_⟩⟩))
        rw [show 301 + 301 * x + s 7 k1 3 + s 7 k1 4 = (301 + 301 * x) + (s 7 k1 3 + s 7 k1 4) by omega]
        refine s231 (u := w) x2 (fun z z0 z1 => ⟨by omega, p2.2.1 z (by omega) (by omega), ?_⟩) (by omega) (by omega) (fun h3 f3 x3 => zq0 (k h3 (f2.tr f3) ?_))
        · have := wi (z - s 1 i 10) (by omega) (by omega)
          rwa [show s 1 i 10 + (z - s 1 i 10) = z by omega] at this
        · rw [tkS, if_neg c7, if_neg nl, ← List.append_assoc, ← List.append_assoc, ← eR, ← eR2, show (s 7 k1 4).toNat = (s 7 k1 3 + s 7 k1 4 - s 7 k1 3).toNat by omega]; exact x3
      refine k234_72 x k1 u3 _ _ l6 u7 h1 _ ⟨fun _ => ⟨fun d => ⟨fun d5 => wrd (h6.1 d) R1 h1 _ _ _ _ _ f1 x1 (by rw [if_neg d5, List.append_nil]), fun d5 => s230 x1 (by omega) c40 (fun h2 f2 x2 => wrd (h6.1 d) (R1 ++ [40]) h2 _ _ _ _ _ (f1.tr f2) x2 (by rw [if_pos (Classical.not_not.1 d5)]))⟩, fun d => ?_⟩, fun d => absurd c7 (fun z => d z)⟩
      have lt : isLt s k1 := Classical.not_not.1 (fun z => d (h6.2 z))
      have lr : 0 ≤ s 7 k1 1 ∧ s 7 k1 1 < 26 := by unfold isLt at lt; omega
      have hh := mh1 _ lr.1 lr.2
      have hb : 0 ≤ B (s 7 k1 1) ∧ E (s 7 k1 1) ≤ n := by rcases hl (s 7 k1 1) with q | q <;> omega
      rw [hh.1, hh.2]
      refine ⟨lr.1, lr.2, lr.1, lr.2, ?_⟩
      have := s231 (h := h1) (R := R1) (u := t) (off := 0) (p := B (s 7 k1 1)) (e := E (s 7 k1 1)) (K := fun h15 => (none : Option zV) = none ∧ K h15) x1 (fun z z0 z1 => ?_) (by omega) (by omega) (fun h3 f3 x3 => zq0 (k h3 (f1.tr f3) ?_))
      · rw [Int.zero_add, Int.zero_add] at this; exact this
      · rw [Int.zero_add]
        exact ⟨by omega, y1.1.2.1 z (by omega) (by omega), g.ch1 z (by omega) (by omega)⟩
      · rw [tkS, if_neg c7, if_pos lt, ← List.append_assoc, ← eR]; exact x3
    have bl : ∀ s0 : Int, (s0 = 0 ↔ ¬ isLt s k1) → ∀ u6 u7, zK 234 38 [vR 127 111, vI x, vI k1, vI z, vI (s 7 k1 0), vI (s 7 k1 1), u6, u7] [vI s0] h (fun r h1 => r = none ∧ K h1) := by
      intro s0 h0 u6 u7
      have put : ¬ (k1 = 0 ∨ (isLt s k1 ∧ E (s 7 k1 1) = 0)) → zK 234 66 [vR 127 111, vI x, vI k1, vI z, vI (s 7 k1 0), vI (s 7 k1 1), vI s0, u7] [] h (fun r h1 => r = none ∧ K h1) := fun q => k234_66 x k1 _ _ _ s0 u7 h _ (s230 co (by omega) c32 (fun h2 f2 x2 => row (R ++ [32]) h2 s0 _ _ f2 x2 (by rw [if_neg q]) h0))
      refine k234_38 x k1 z _ _ u6 u7 s0 h _ ⟨fun d => row R h s0 _ _ frP.rf co ?_ h0, fun d => ⟨fun d7 => absurd d7 c7, fun _ => ⟨fun d0 => put ?_, fun d0 => ?_⟩⟩⟩
      · have : k1 = 0 := by apply Classical.byContradiction; intro q; rw [if_neg q] at hz; exact d hz
        rw [if_pos (Or.inl this), List.append_nil]
      · have nl := h0.1 d0
        have : ¬ k1 = 0 := fun q => by rw [if_pos q] at hz; exact d (by omega)
        rintro (q | q)
        · exact this q
        · exact nl q.1
      · have lt : isLt s k1 := Classical.not_not.1 (fun q => d0 (h0.2 q))
        have lr : 0 ≤ s 7 k1 1 ∧ s 7 k1 1 < 26 := by unfold isLt at lt; omega
        have nk : ¬ k1 = 0 := fun q => by rw [if_pos q] at hz; exact d (by omega)
        rw [(mh _ lr.1 lr.2).2]
        refine ⟨lr.1, lr.2, fun q => row R h s0 _ _ frP.rf co (by rw [if_pos (Or.inr ⟨lt, q⟩), List.append_nil]) h0, fun q => put ?_⟩
        rintro (u | u)
        · exact nk u
        · exact q u.2
    refine cV (k234_0 x k1 z h _ (s179b 0 p hk t4.1 (by omega) (s179b 1 p hk t4.1 (by omega) ⟨fun d => k234_33 x k1 z _ _ _ _ h _ (bl 1 ⟨fun q => by omega, fun q => absurd (Or.inl d) q⟩ _ _), fun d => ⟨fun d1 => bl 0 ⟨fun _ q => by unfold isLt at q; omega, fun _ => rfl⟩ _ _, fun d1 => k234_33 x k1 z _ _ _ _ h _ (bl 1 ⟨fun q => by omega, fun q => absurd (Or.inr (Classical.not_not.1 d1)) q⟩ _ _)⟩⟩)))
end MQ
