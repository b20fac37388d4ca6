/-! The model: the sources that can be had back. -/
theorem cploopo (h : zH) (A : Nat) (off N : Int) (f : Int → Int) (Kp : Int → zH → Prop)
    (step : ∀ l h1, 0 ≤ l → l < N → frP (fun b k => b = A ∧ off ≤ k ∧ k < off + l) h h1 → Kp (l + 1) (sI h1 A (off + l) (f l)) → Kp l h1)
    (fin : ∀ h1, frP (fun b k => b = A ∧ off ≤ k ∧ k < off + N) h h1 → (∀ i, 0 ≤ i → i < N → gI h1 A (off + i) = f i) → Kp N h1) (hN : 0 ≤ N) : Kp 0 h := by
  have key : ∀ (d : Nat) (l : Int) (h1 : zH), N - l = d → 0 ≤ l → frP (fun b k => b = A ∧ off ≤ k ∧ k < off + l) h h1 → (∀ i, 0 ≤ i → i < l → gI h1 A (off + i) = f i) → Kp l h1 := by
    intro d
    induction d with
    | zero =>
      intro l h1 e hl fr v
      have e : l = N := by omega
      subst e
      exact fin h1 fr v
    | succ d ih =>
      intro l h1 e hl fr v
      refine step l h1 hl (by omega) fr (ih (l + 1) _ (by omega) (by omega) ?_ ?_)
      · exact (fr.mo (fun b k q => by omega)).st (by omega)
      · intro i i0 i1
        by_cases c : i = l
        · rw [c, gS1]
        · rw [gS, if_neg (by omega)]; exact v i i0 (by omega)
  exact key N.toNat 0 h (by omega) (by omega) frP.rf (fun i _ _ => by omega)
/-- a text as a row of 301, from off on -/
def rw3 (h : zH) (A : Nat) (off : Int) (t : Int → Int) (n : Int) : Prop := gI h A (off + 300) = n ∧ (∀ j, 0 ≤ j → j < n → gI h A (off + j) = t j) ∧ (∀ j, n ≤ j → j < 300 → gI h A (off + j) = 0)
theorem rw3_of {h h1 : zH} {A B : Nat} {o1 o2 : Int} {t : Int → Int} {n : Int} (x : rw3 h A o1 t n) (hn : 0 ≤ n) (hn2 : n ≤ 300) (e : ∀ j, 0 ≤ j → j < 301 → gI h1 B (o2 + j) = gI h A (o1 + j)) : rw3 h1 B o2 t n :=
  ⟨by rw [e 300 (by omega) (by omega)]; exact x.1, fun j h0 h1 => by rw [e j h0 (by omega)]; exact x.2.1 j h0 h1, fun j h0 h1 => by rw [e j (by omega) (by omega)]; exact x.2.2 j h0 h1⟩
theorem mW_rw {h : zH} {t : Int → Int} {n : Int} (x : mW h t n) : rw3 h 128 0 t n :=
  ⟨by rw [show (0 : Int) + 300 = 300 from rfl]; exact x.1, fun j h0 h1 => by rw [Int.zero_add]; exact x.2.1 j h0 h1, fun j h0 h1 => by rw [Int.zero_add]; exact x.2.2 j h0 h1⟩
theorem rw_mW {h : zH} {t : Int → Int} {n : Int} (x : rw3 h 128 0 t n) : mW h t n :=
  ⟨by have := x.1; rw [Int.zero_add] at this; exact this, fun j h0 h1 => by have := x.2.1 j h0 h1; rw [Int.zero_add] at this; exact this, fun j h0 h1 => by have := x.2.2 j h0 h1; rw [Int.zero_add] at this; exact this⟩
/-- the past: how many, their texts, the oldest first -/
def mPa (h : zH) (c : Int) (pt : Int → Int → Int) (pn : Int → Int) : Prop := gI h 127 5 = c ∧ 0 ≤ c ∧ c ≤ 8 ∧ ∀ i, 0 ≤ i → i < c → (0 ≤ pn i ∧ pn i ≤ 300) ∧ rw3 h 131 (301 * i) (pt i) (pn i)
def paN (c : Int) : Int := if c = 8 then 8 else c + 1
def paT {α : Type} (c : Int) (pt : Int → α) (t : α) : Int → α := fun i => if c = 8 then (if i = 7 then t else pt (i + 1)) else (if i = c then t else pt i)
def mpA (b : Nat) (k : Int) : Prop := (b = 127 ∧ k = 5) ∨ b = 131
theorem s159 {h : zH} {A : Nat} {c n : Int} {t : Int → Int} {pt : Int → Int → Int} {pn : Int → Int} (x : mPa h c pt pn) (r : rw3 h A 0 t n) (hn : 0 ≤ n ∧ n ≤ 300) (hA : ¬ A = 131 ∧ ¬ A = 127) (hl : 301 ≤ ln h A) {K : zH → Prop}
    (k : ∀ h1, frP mpA h h1 → mPa h1 (paN c) (paT c pt t) (paT c pn n) → K h1) : zC0 159 [vR 127 111, vR A 140] h K := by
  obtain ⟨x1, x2, x3, x4⟩ := x
  -- the latest is written
  have put : ∀ (h2 : zH) (d : Int), frP mpA h h2 → gI h2 127 5 = d → 0 ≤ d → d ≤ 7 → (∀ h1, frP (fun b k => (b = 127 ∧ k = 5) ∨ (b = 131 ∧ 301 * d ≤ k)) h2 h1 → gI h1 127 5 = d + 1 → rw3 h1 131 (301 * d) t n → K h1) → zK 159 57 [vR 127 111, vR A 140, vI 0] [] h2 (fun r h1 => r = none ∧ K h1) := by
    intro h2 d f2 e2 d0 d1 kk
    have l2 : 301 ≤ ln h2 A := by rw [f2.le]; exact hl
    refine cploopo h2 131 (301 * d) 301 (fun j => gI h2 A j) (fun l hh => zK 159 57 [vR 127 111, vR A 140, vI l] [] hh _) (fun l h3 l0 l1 f3 k3 => ?_) (fun h3 f3 v3 => ?_) (by omega)
    · have y5 : gI h3 127 5 = d := by rw [f3.1 _ _ (by omega)]; exact e2
      have yA : gI h3 A l = gI h2 A l := f3.1 _ _ (by omega)
      have l3 : ln h3 A = ln h2 A := f3.le A
      refine k159_57 A l h3 _ ⟨fun q => absurd q (by omega), fun _ => ?_⟩
      rw [y5, yA, l3]
      refine ⟨by unfold inR; omega, by unfold inR; omega, l0, by show l < (ln h2 A : Int); omega, by omega, by omega, fun h8 e8 => ⟨by unfold inR; omega, ?_⟩⟩
      rw [e8]; exact k3
    · have y5 : gI h3 127 5 = d := by rw [f3.1 _ _ (by omega)]; exact e2
      refine k159_57 A 301 h3 _ ⟨fun _ => ?_, fun q => absurd (by omega) q⟩
      rw [y5]
      refine ⟨by unfold inR; omega, fun h7 e7 => zq0 (kk h7 ?_ (by rw [e7, gS1]) ?_)⟩
      · rw [e7]; exact (f3.mo (fun b k q => by omega)).st (by omega)
      · have f2A : ∀ j, gI h2 A j = gI h A j := fun j => f2.1 _ _ (by unfold mpA; omega)
        refine rw3_of r hn.1 hn.2 (fun j j0 j1 => ?_)
        rw [e7, gS, if_neg (by omega), v3 j j0 j1, f2A, Int.zero_add]
  refine cV (k159_0 A h _ ⟨fun q => ?_, fun q => ?_⟩)
  · rw [x1] at q
    refine put h c frP.rf x1 x2 (by omega) (fun h1 f1 e1 r1 => k h1 (f1.mo (fun b k q => by unfold mpA; omega)) ?_)
    have eN : paN c = c + 1 := by unfold paN; rw [if_neg q]
    refine ⟨by rw [eN]; exact e1, by rw [eN]; omega, by rw [eN]; omega, fun i i0 i1 => ?_⟩
    rw [eN] at i1
    unfold paT
    rw [if_neg q, if_neg q]
    by_cases ci : i = c
    · rw [if_pos ci, if_pos ci, ci]; exact ⟨hn, r1⟩
    · rw [if_neg ci, if_neg ci]
      have y := x4 i i0 (by omega)
      exact ⟨y.1, rw3_of y.2 y.1.1 y.1.2 (fun j j0 j1 => f1.1 _ _ (by omega))⟩
  · have q : c = 8 := by rw [x1] at q; omega
    rw [x1, q]
    refine ⟨by unfold inR; omega, fun h5 e5 => ?_⟩
    have f5 : frP mpA h h5 := by rw [e5]; exact frP.rf.st (by unfold mpA; omega)
    have z5 : gI h5 127 5 = 7 := by rw [e5, gS1]; rfl
    refine cploop h5 131 0 (301 * 7) (fun j => gI h5 131 (j + 301)) (fun l hh => zK 159 21 [vR 127 111, vR A 140, vI l] [] hh _) (fun l h3 l0 l1 f3 k3 => ?_) (fun h3 f3 v3 => ?_) (by omega)
    · have y5 : gI h3 127 5 = 7 := by rw [f3.1 _ _ (by omega)]; exact z5
      have yA : gI h3 131 (l + 301) = gI h5 131 (l + 301) := f3.1 _ _ (by omega)
      refine k159_21 A l h3 _ ?_
      rw [y5, yA]
      refine ⟨by unfold inR; omega, fun q => absurd q (by omega), fun _ => ⟨by unfold inR; omega, by omega, by omega, by omega, by omega, fun h6 e6 => ⟨by unfold inR; omega, ?_⟩⟩⟩
      rw [e6]; exact k3
    · have y5 : gI h3 127 5 = 7 := by rw [f3.1 _ _ (by omega)]; exact z5
      have F3 : frP mpA h h3 := f5.tr (f3.mo (fun b k q => by unfold mpA; omega))
      refine k159_21 A (301 * 7) h3 _ ?_
      rw [y5]
      refine ⟨by unfold inR; omega, fun _ => ?_, fun q => absurd (by omega) q⟩
      refine put h3 7 F3 y5 (by omega) (by omega) (fun h1 f1 e1 r1 => k h1 (F3.tr (f1.mo (fun b k q => by unfold mpA; omega))) ?_)
      have eN : paN c = 8 := by unfold paN; rw [if_pos q]
      refine ⟨by rw [eN]; exact e1, by rw [eN]; omega, by rw [eN]; omega, fun i i0 i1 => ?_⟩
      rw [eN] at i1
      unfold paT
      rw [if_pos q, if_pos q]
      by_cases ci : i = 7
      · rw [if_pos ci, if_pos ci, ci]; exact ⟨hn, r1⟩
      · rw [if_neg ci, if_neg ci]
        have y := x4 (i + 1) (by omega) (by omega)
        refine ⟨y.1, rw3_of y.2 y.1.1 y.1.2 (fun j j0 j1 => ?_)⟩
        rw [f1.1 _ _ (by omega), v3 _ (by omega) (by omega), e5, gS, if_neg (by omega)]
        congr 1; omega
def mbA (b : Nat) (k : Int) : Prop := mRA b k ∨ (b = 128 ∧ k ≤ 300)
/-- the bytes become the source -/
theorem s160 {h : zH} {t : Int → Int} {n nd nc : Int} {T C : pT} (g : sF t n nd nc T C) (x : mB h t n) {K : zH → Prop} (k : ∀ h1, frP mbA h h1 → mN h1 t n nd nc T C → K h1) : zC0 160 [vR 127 111] h K := by
  have hn := g.hn
  refine cV (k160_0 h _ ?_)
  refine cploop h 128 0 300 (fun j => if j < n then t j else 0) (fun l hh => zK 160 2 [vR 127 111, vI l] [] hh _) (fun l h3 l0 l1 f3 k3 => ?_) (fun h3 f3 v3 => ?_) (by omega)
  · have y9 : gI h3 127 9 = n := by rw [f3.1 _ _ (by omega)]; exact x.1
    refine k160_2 l h3 _ ⟨fun q => absurd q (by omega), fun _ => ?_⟩
    rw [y9]
    refine ⟨fun q => ⟨by omega, by omega, fun h7 e7 => ⟨by unfold inR; omega, ?_⟩⟩, fun q => ⟨by omega, by omega, by omega, by omega, fun h8 e8 => ⟨by unfold inR; omega, ?_⟩⟩⟩
    · rw [if_neg (by omega)] at k3; rw [e7]; exact k3
    · have yt : gI h3 133 l = t l := by rw [f3.1 _ _ (by omega)]; exact x.2 l l0 (by omega)
      rw [if_pos (by omega)] at k3
      rw [yt] at e8
      rw [e8]; exact k3
  · have y9 : gI h3 127 9 = n := by rw [f3.1 _ _ (by omega)]; exact x.1
    refine k160_2 300 h3 _ ⟨fun _ => ⟨by omega, by omega, fun h5 e5 => ?_⟩, fun q => absurd (by omega) q⟩
    rw [y9] at e5
    have w : mW h5 t n := by
      refine ⟨by rw [e5, gS1], fun i h0 h1 => ?_, fun i h0 h1 => ?_⟩
      · rw [e5, gS, if_neg (by omega), v3 i h0 (by omega), if_pos h1]
      · rw [e5, gS, if_neg (by omega), v3 i (by omega) h1, if_neg (by omega)]
    have f5 : frP mbA h h5 := by rw [e5]; exact (f3.mo (fun b k q => by unfold mbA; omega)).st (by unfold mbA; omega)
    exact s156 g w (fun h6 f6 y6 => zq0 (k h6 (f5.tr (f6.mo (fun b k q => Or.inl q))) y6))
/-- one is taken back -/
theorem s252 {h : zH} {c : Int} {pt : Int → Int → Int} {pn : Int → Int} {nd nc : Int} {T C : pT} (x : mPa h c pt pn) (g : 0 < c → sF (pt (c - 1)) (pn (c - 1)) nd nc T C) {K : Int → zH → Prop}
    (k1 : 0 < c → ∀ h1, frP (fun b k => mbA b k ∨ (b = 127 ∧ (k = 0 ∨ k = 5))) h h1 → mN h1 (pt (c - 1)) (pn (c - 1)) nd nc T C → mPa h1 (c - 1) pt pn → K (c - 1) h1) (k2 : ¬ 0 < c → K (-3) (sI h 127 0 0)) : zC1 252 [vR 127 111] h K := by
  obtain ⟨x1, x2, x3, x4⟩ := x
  refine cI (k252_0 h _ (fun h5 e5 => ?_))
  have z5 : gI h5 127 5 = c := by rw [e5, gS, if_neg (by omega)]; exact x1
  rw [z5]
  refine ⟨fun q => ⟨by unfold inR; omega, fun h6 e6 => ?_⟩, fun q => zq1 (by rw [e5]; exact k2 (by omega))⟩
  have q : 0 < c := by omega
  have g := g q
  have y := x4 (c - 1) (by omega) (by omega)
  have z6 : gI h6 127 5 = c - 1 := by rw [e6, gS1]
  have f6 : frP (fun b k => mbA b k ∨ (b = 127 ∧ (k = 0 ∨ k = 5))) h h6 := by rw [e6, e5]; exact (frP.rf.st (by omega)).st (by omega)
  have o6 : ∀ b i, ¬ b = 127 → gI h6 b i = gI h b i := fun b i hb => by rw [e6, gS, if_neg (by omega), e5, gS, if_neg (by omega)]
  refine cploop h6 128 0 301 (fun j => gI h6 131 (301 * (c - 1) + j)) (fun l hh => zK 252 27 [vR 127 111, vI l] [] hh _) (fun l h3 l0 l1 f3 k3 => ?_) (fun h3 f3 v3 => ?_) (by omega)
  · have y5 : gI h3 127 5 = c - 1 := by rw [f3.1 _ _ (by omega)]; exact z6
    have yA : gI h3 131 (301 * (c - 1) + l) = gI h6 131 (301 * (c - 1) + l) := f3.1 _ _ (by omega)
    refine k252_27 l h3 _ ⟨fun q => absurd q (by omega), fun _ => ?_⟩
    rw [y5, yA]
    refine ⟨by unfold inR; omega, by unfold inR; omega, by omega, by omega, by omega, by omega, fun h8 e8 => ⟨by unfold inR; omega, ?_⟩⟩
    rw [e8]; exact k3
  · refine k252_27 301 h3 _ ⟨fun _ => ?_, fun q => absurd (by omega) q⟩
    have F3 : frP (fun b k => mbA b k ∨ (b = 127 ∧ (k = 0 ∨ k = 5))) h h3 := f6.tr (f3.mo (fun b k q => by unfold mbA; omega))
    have w : mW h3 (pt (c - 1)) (pn (c - 1)) := rw_mW (rw3_of y.2 y.1.1 y.1.2 (fun j j0 j1 => by rw [Int.zero_add, v3 j j0 j1, o6 _ _ (by omega)]))
    refine s156 g w (fun h7 f7 y7 => ?_)
    have z7 : gI h7 127 5 = c - 1 := by rw [f7.1 _ _ (by unfold mRA mA; omega), f3.1 _ _ (by omega)]; exact z6
    rw [z7]
    refine zq1 (k1 q h7 (F3.tr (f7.mo (fun b k q => Or.inl (Or.inl q)))) y7 ⟨z7, by omega, by omega, fun i i0 i1 => ?_⟩)
    have yi := x4 i i0 (by omega)
    exact ⟨yi.1, rw3_of yi.2 yi.1.1 yi.1.2 (fun j j0 j1 => by rw [f7.1 _ _ (by unfold mRA mA; omega), f3.1 _ _ (by omega), o6 _ _ (by omega)])⟩
