/-! A walk that is applied: the text that comes. -/
noncomputable def aps (t : Int → Int) (T : pT) (n : Int) (G : Int → List Int) : List Int → Int → List Int → Int → List Int
  | [], p, L, sm => (wr L sm (rowS t (n - p).toNat p)).1
  | v :: vs, p, L, sm => aps t T n G vs (T v 5) (wr (wr L sm (rowS t (T v 4 - p).toNat p)).1 1 (G v)).1 1
/-- a row of signs as a text -/
def txL (L : List Int) : Int → Int := fun i => if 0 ≤ i ∧ i < L.length then L.getD i.toNat 0 else -1
theorem txL_ok {L : List Int} (h : L.length ≤ 300) (hc : ∀ c, c ∈ L → chO c) : tOk (txL L) L.length := by
  refine ⟨by omega, by omega, fun i => ⟨fun c => ?_, fun c => ?_⟩⟩
  · unfold txL
    rw [if_pos c]
    have := hc _ (getD_m (L := L) (k := i.toNat) (by omega))
    unfold chO at this
    omega
  · unfold txL; rw [if_neg c]
theorem drop_c {L : List Int} {k : Nat} (h : k < L.length) : L.drop k = L.getD k 0 :: L.drop (k + 1) := by
  rw [List.drop_eq_getElem_cons h, List.getD_eq_getElem?_getD, List.getElem?_eq_getElem h]
  rfl
section AP
variable {h : zH} {t : Int → Int} {n nd nc : Int} {T C : pT} {rn : Int → Int} {rt : Int → Int → Int} {rs : Int → pS} {a a2 : Nat}
theorem rowS_c : ∀ (k : Nat) (p : Int), (∀ i, p ≤ i → i < p + k → chO (t i)) → ∀ c, c ∈ rowS t k p → chO c
  | 0, p, _, c, hc => by cases hc
  | k + 1, p, h, c, hc => by
    rw [rowS] at hc
    rcases List.mem_cons.1 hc with q | q
    · rw [q]; exact h p (by omega) (by omega)
    · exact rowS_c k (p + 1) (fun i h0 h1 => h i (by omega) (by omega)) c q
theorem wr_c {L : List Int} {sm : Int} : ∀ R : List Int, (∀ c, c ∈ L → chO c) → (∀ c, c ∈ R → chO c) → ∀ c, c ∈ (wr L sm R).1 → chO c
  | [], hL, _, c, hc => hL c hc
  | x :: R, hL, hR, c, hc => by
    rw [wr] at hc
    dsimp only at hc
    rcases List.mem_append.1 hc with q | q
    · split at q
      · rcases List.mem_append.1 q with z | z
        · exact hL c z
        · have : c = 32 := by simpa using z
          rw [this]; unfold chO; omega
      · exact hL c q
    · exact hR c q
theorem aps_c (g : sF t n nd nc T C) {G : Int → List Int} : ∀ (V : List Int) (p : Int) (L : List Int) (sm : Int), (∀ v, v ∈ V → (0 ≤ v ∧ v < nd) ∧ ∀ c, c ∈ G v → chO c) → 0 ≤ p → (∀ c, c ∈ L → chO c) → ∀ c, c ∈ aps t T n G V p L sm → chO c
  | [], p, L, sm, hV, hp, hL, c, hc => by
    rw [aps] at hc
    exact wr_c _ hL (rowS_c _ p (fun i i0 i1 => g.ch1 i (by omega) (by omega))) c hc
  | v :: V, p, L, sm, hV, hp, hL, c, hc => by
    rw [aps] at hc
    have hv := hV v (by simp)
    have be := g.be hv.1.1 hv.1.2
    exact aps_c g V (T v 5) _ 1 (fun u hu => hV u (by simp [hu])) (by omega) (wr_c _ (wr_c _ hL (rowS_c _ p (fun i i0 i1 => g.ch1 i (by omega) (by omega)))) hv.2) c hc
theorem aps_l {G : Int → List Int} : ∀ (V : List Int) (p : Int) (L : List Int) (sm : Int), L.length ≤ (aps t T n G V p L sm).length
  | [], p, L, sm => by
    rw [aps]
    have := (wr_l (L := L) (sm := sm) (rowS t (n - p).toNat p)).2
    omega
  | v :: V, p, L, sm => by
    rw [aps]
    have r := aps_l (G := G) V (T v 5) (wr (wr L sm (rowS t (T v 4 - p).toNat p)).1 1 (G v)).1 1
    have a := (wr_l (L := L) (sm := sm) (rowS t (T v 4 - p).toNat p)).2
    have b := (wr_l (L := (wr L sm (rowS t (T v 4 - p).toNat p)).1) (sm := 1) (G v)).2
    omega
theorem tkS_c {w : Int → Int} {s : pS} {B E : Int → Int} {m b0 k : Int} (g : sF t n nd nc T C) (x : rEn w m 1 b0 s) (wd : wdA w b0 s) (hl : hlG n nc C B E) (k0 : 0 ≤ k) (k1 : k < s 0 0 7) : ∀ c, c ∈ tkS t w s B E k → chO c := by
  have N := x.N
  intro c hc
  unfold tkS at hc
  split at hc
  · have : c = 41 := by simpa using hc
    rw [this]; unfold chO; omega
  · rename_i c7
    rcases List.mem_append.1 hc with q | q
    · split at q
      · cases q
      · have : c = 32 := by simpa using q
        rw [this]; unfold chO; omega
    · split at q
      · have := hl (s 7 k 1)
        exact rowS_c _ _ (fun i i0 i1 => g.ch1 i (by omega) (by omega)) c q
      · rename_i nl
        obtain ⟨i, i0, i1, ei⟩ := tok_it x (s 0 0 1 - b0).toNat b0 k (by omega) (by omega) N.2.1 (by rw [x.rt.2.2.2]; exact k0) k1 c7
        have ct := x.ct1 i0 i1
        have wi := wd i i0 i1
        unfold wdO at wi
        rw [ei] at ct
        rcases List.mem_append.1 q with z | z
        · split at z
          · have : c = 40 := by simpa using z
            rw [this]; unfold chO; omega
          · cases z
        · have w3 : s 7 k 3 = s 1 i 10 ∧ s 7 k 4 = s 1 i 11 := by unfold isLt at nl; omega
          rw [w3.1, w3.2] at z
          refine rowS_c _ _ (fun j j0 j1 => ?_) c z
          have := wi (j - s 1 i 10) (by omega) (by omega)
          rwa [show s 1 i 10 + (j - s 1 i 10) = j by omega] at this
theorem tkL_c {w : Int → Int} {s : pS} {B E : Int → Int} {m b0 : Int} (g : sF t n nd nc T C) (x : rEn w m 1 b0 s) (wd : wdA w b0 s) (hl : hlG n nc C B E) : ∀ (f : Nat) (k : Int), 0 ≤ k → k + f ≤ s 0 0 7 → ∀ c, c ∈ tkL t w s B E f k → chO c
  | 0, k, _, _, c, hc => by cases hc
  | f + 1, k, k0, k1, c, hc => by
    rw [tkL] at hc
    rcases List.mem_append.1 hc with q | q
    · exact tkS_c g x wd hl k0 (by omega) c q
    · exact tkL_c g x wd hl f (k + 1) (by omega) (by omega) c q
theorem cmL_c (g : sF t n nd nc T C) {P : Int → Prop} : ∀ (f : Nat) (k : Int), 0 ≤ k → k + f ≤ nc → ∀ c, c ∈ cmL t C P f k → chO c
  | 0, k, _, _, c, hc => by cases hc
  | f + 1, k, k0, k1, c, hc => by
    have cm := g.cm k0 (show k < nc by omega)
    by_cases p : P k
    · rw [cmL_y p] at hc
      rcases List.mem_append.1 hc with q | q
      · rcases List.mem_append.1 q with z | z
        · exact rowS_c _ _ (fun i i0 i1 => g.ch1 i (by omega) (by omega)) c z
        · have : c = 32 := by simpa using z
          rw [this]; unfold chO; omega
      · exact cmL_c g f (k + 1) (by omega) (by omega) c q
    · rw [cmL_n p] at hc
      exact cmL_c g f (k + 1) (by omega) (by omega) c hc
theorem cgS_c {v : Int} (g : sF t n nd nc T C) (o : slO rn rt rs) (hv : 0 ≤ v ∧ v < nd) (hl : ¬ lsR t T rn rt rs v = -1) : ∀ c, c ∈ cgS t nc T C rn rt rs v → chO c := by
  obtain ⟨hx, e, L', hw⟩ := lsR_f hl
  unfold cgS
  rw [hw]
  dsimp only
  generalize lsR t T rn rt rs v = x at *
  have gd := o.gd hx.1 hx.2
  have hlo : hlG n nc C (hBg T (sP rn rt rs x) e) (hEn T (sP rn rt rs x) e) := hl_ok g gd.1.en.1 gd.1.en.2 hv hw
  have hc := g.hc
  have wd := wd_read gd.2 (o.rd hx.1 hx.2)
  have e1 := gd.1.e1
  rw [e1.2.1] at wd
  have t4 := e1.1.t41
  unfold cmg
  intro c hcc
  rcases List.mem_append.1 hcc with q | q
  · exact cmL_c g nc.toNat 0 (by omega) (by omega) c q
  · exact tkL_c g e1.1 wd hlo (rs x 0 0 7).toNat 0 (by omega) (by omega) c q
end AP
section AQ
variable (t : Int → Int) (n nd nc : Int) (T C : pT) (rn : Int → Int) (rt : Int → Int → Int) (rs : Int → pS)
noncomputable def apO (w : Int) : List Int := aps t T n (cgS t nc T C rn rt rs) (eL (lsR t T rn rt rs) T nd w) 0 [] 0
def apK (w : Int) : Prop := (apO t n nd nc T C rn rt rs w).length ≤ 300 ∧ (pread (txL (apO t n nd nc T C rn rt rs w)) (apO t n nd nc T C rn rt rs w).length).1 = true
end AQ
section AR
variable {h : zH} {t : Int → Int} {n nd nc : Int} {T C : pT} {rn : Int → Int} {rt : Int → Int → Int} {rs : Int → pS} {a a2 : Nat}
theorem apO_c (g : sF t n nd nc T C) (o : slO rn rt rs) (w : Int) : ∀ c, c ∈ apO t n nd nc T C rn rt rs w → chO c := by
  have hnd := g.hd
  have hL := eL_h (t := t) (T := T) (rn := rn) (rt := rt) (rs := rs) (w := w) (nd := nd) (by omega)
  exact aps_c g _ 0 [] 0 (fun v hv => ⟨(hL v hv).1, cgS_c g o (hL v hv).1 (hL v hv).2⟩) (by omega) (fun c hc => by cases hc)
theorem xWr.fx {P R : Nat → Int → Prop} {h1 : zH} {L : List Int} {sm cg ca : Int} (x : xWr h L sm cg ca) (f : frX P R h h1) (d : ∀ k, ¬ P 82 k ∧ ¬ P 84 k) : xWr h1 L sm cg ca := by
  obtain ⟨x0, x1, x2, x3, x4, x5, x6⟩ := x
  refine ⟨?_, ?_, ?_, ?_, ?_, ?_, fun i i0 i1 => ?_⟩
  · rw [f.1 _ _ (d _).1]; exact x0
  · rw [f.1 _ _ (d _).1]; exact x1
  · rw [f.1 _ _ (d _).1]; exact x2
  · rw [f.1 _ _ (d _).1]; exact x3
  · rw [f.1 _ _ (d _).1]; exact x4
  · rw [f.1 _ _ (d _).1]; exact x5
  · rw [f.1 _ _ (d _).2]; exact x6 i i0 i1
theorem xWk.fx {P R : Nat → Int → Prop} {h1 : zH} {F B : Int → Int} {L : List Int} (x : xWk h nd F B L) (f : frX P R h h1) (d : ∀ b k, 77 ≤ b → b ≤ 80 → ¬ P b k) : xWk h1 nd F B L := by
  refine ⟨by rw [f.1 _ _ (d _ _ (by omega) (by omega))]; exact x.1, fun k hk => by rw [f.1 _ _ (d _ _ (by omega) (by omega))]; exact x.2.1 k hk, fun v v0 v1 => ?_⟩
  rw [f.1 _ _ (d _ _ (by omega) (by omega)), f.1 _ _ (d _ _ (by omega) (by omega))]; exact x.2.2 v v0 v1
def stA (a2 b : Nat) (k : Int) : Prop := xAA b k ∨ (a2 ≤ b ∧ b < a2 + 16)
theorem s40 {w : Int} (g : sF t n nd nc T C) (y : xN h a t n nd nc T C) (ty : zty 102 a h) (ha : a + 16 ≤ 53) (ha2 : a2 + 16 ≤ 53) (l2 : ln h (a2 + 2) = 300) (l84 : ln h 84 = 300) (o : slO rn rt rs) (u : xRu h 53 rn rt rs) {K : Int → zH → Prop}
    (k0 : eL (lsR t T rn rt rs) T nd w = [] → ∀ h1, frX xAA fiR h h1 → K 0 h1)
    (k1 : ¬ eL (lsR t T rn rt rs) T nd w = [] → apK t n nd nc T C rn rt rs w → ∀ nd2 nc2 T2 C2, sF (txL (apO t n nd nc T C rn rt rs w)) (apO t n nd nc T C rn rt rs w).length nd2 nc2 T2 C2 → ∀ h1, frX (stA a2) fiR h h1 → xN h1 a2 (txL (apO t n nd nc T C rn rt rs w)) (apO t n nd nc T C rn rt rs w).length nd2 nc2 T2 C2 → K (eL (lsR t T rn rt rs) T nd w).length h1)
    (k2 : ¬ eL (lsR t T rn rt rs) T nd w = [] → ¬ apK t n nd nc T C rn rt rs w → ∀ h1, frX (stA a2) fiR h h1 → K (-3) h1) : zC1 40 [vR 2 100, vR a 102, vR a2 102, vI w] h K := by
  have hnd := g.hd
  have hn := g.hn
  have hL := eL_h (t := t) (T := T) (rn := rn) (rt := rt) (rs := rs) (w := w) (nd := nd) (by omega)
  have l60 := eL_60 (rn := rn) (rt := rt) (rs := rs) (w := w) g
  have oc := apO_c (rn := rn) (rt := rt) (rs := rs) g o w
  refine cI (k40_0 a a2 w h _ (s118 g y ty ha o u (fun h10 f10 xw => ?_)))
  have F10 := wk_aa f10
  rw [xw.1]
  refine ⟨fun c => ?_, fun c => zq1 (k0 (List.length_eq_zero_iff.1 (by omega)) h10 F10)⟩
  have ne : ¬ eL (lsR t T rn rt rs) T nd w = [] := fun d => c (by rw [d]; rfl)
  refine s123 (fun h11 f11 x11 => ?_)
  have W : ∀ h1 h2 : zH, frP wrA h1 h2 → frX xAA fiR h1 h2 := fun h1 h2 f => (f.x).mo (fun b k q => by unfold wrA at q; unfold xAA; omega) (fun b k q => q)
  have key : ∀ (f j : Nat) (h1 : zH) (p : Int) (L : List Int) (sm : Int) (u3 : zV), j + f = (eL (lsR t T rn rt rs) T nd w).length → 0 ≤ p → p ≤ n → (sm = 0 ∨ sm = 1) → L.length ≤ 7000 * j → frX xAA fiR h h1 → xWk h1 nd (lsR t T rn rt rs) (ftB t T rn rt rs) (eL (lsR t T rn rt rs) T nd w) → (∃ ca : Int, xWr h1 L sm (-1) ca ∧ 0 ≤ ca ∧ ca ≤ 150 * j) → aps t T n (cgS t nc T C rn rt rs) ((eL (lsR t T rn rt rs) T nd w).drop j) p L sm = apO t n nd nc T C rn rt rs w → zK 40 43 [vR 2 100, vR a 102, vR a2 102, u3, vI p, vI (j : Nat)] [] h1 (fun r h1 => ∃ v : Int, r = some (Sum.inl v) ∧ K v h1) := by
    intro f
    induction f with
    | zero =>
      intro j h1 p L sm u3 hj p0 p1 sm1 ll f1 xw1 hx ea
      obtain ⟨ca, x1, ca0, ca1⟩ := hx
      have y1 := y.fx f1 (fun b k _ _ => by unfold xAA; omega)
      refine k40_43 a a2 u3 p _ h1 _ ?_
      rw [xw1.1, y1.1.1]
      refine ⟨fun _ => s131 y1.1 g.1 (by omega) (by omega) x1 (by omega) (fun h12 f12 x12 => ?_), fun d => absurd (by omega) d⟩
      rw [show (eL (lsR t T rn rt rs) T nd w).drop j = [] from List.drop_eq_nil_of_le (by omega), aps] at ea
      rw [ea] at x12
      have F12 := f1.tr (W _ _ f12)
      rw [x12.1]
      refine ⟨fun d => zq1 (k2 ne (fun q => by have := q.1; omega) h12 (F12.mo (fun b k q => Or.inl q) (fun b k q => q))), fun d => cA (k124_0 h12 _ (fun h2 e2 => ⟨83, rfl, ?_⟩))⟩
      have d : (apO t n nd nc T C rn rt rs w).length ≤ 300 := by omega
      have o2 := txL_ok d oc
      have F2 : frX xAA fiR h h2 := by rw [e2]; exact F12.st (by unfold xAA; omega)
      have tx : Txt h2 83 (txL (apO t n nd nc T C rn rt rs w)) (apO t n nd nc T C rn rt rs w).length := by
        refine ⟨?_, by rw [F2.le]; exact l84, fun i i0 i1 => ?_⟩
        · rw [e2, gS1, x12.1]; unfold iMin; rw [if_neg (by omega)]
        · have q := x12.2.2.2.2.2.2 i.toNat (by omega) (by omega)
          rw [show ((i.toNat : Nat) : Int) = i by omega] at q
          rw [e2, gS, if_neg (by omega), q]
          unfold txL; rw [if_pos ⟨i0, i1⟩]
      have sub : ∀ b k, srB a2 b k → (a2 ≤ b ∧ b < a2 + 16) := fun b k q => by unfold srB srA txA at q; omega
      by_cases ok : (pread (txL (apO t n nd nc T C rn rt rs w)) (apO t n nd nc T C rn rt rs w).length).1 = true
      · have ak : apK t n nd nc T C rn rt rs w := ⟨d, ok⟩
        have g2 := sF_of o2 ok
        have kk := k1 ne ak _ _ _ _ g2
        revert kk g2
        generalize (pread (txL (apO t n nd nc T C rn rt rs w)) (apO t n nd nc T C rn rt rs w).length).2.2.1 = nd2
        generalize (pread (txL (apO t n nd nc T C rn rt rs w)) (apO t n nd nc T C rn rt rs w).length).2.2.2.1 = nc2
        generalize (pread (txL (apO t n nd nc T C rn rt rs w)) (apO t n nd nc T C rn rt rs w).length).2.2.2.2.2.1 = T2
        generalize (pread (txL (apO t n nd nc T C rn rt rs w)) (apO t n nd nc T C rn rt rs w).length).2.2.2.2.2.2 = C2
        intro g2 kk
        refine s50g g2 tx (by rw [F2.le]; exact l2) (by omega) (fun h5 f5 x5 => ⟨fun _ => zq1 ?_, fun q => absurd (by omega) q⟩)
        have e77 : gI h5 77 0 = (eL (lsR t T rn rt rs) T nd w).length := by
          rw [f5.1 _ _ (fun q => by have := sub _ _ q; omega), e2, gS, if_neg (by omega), f12.1 _ _ (by unfold wrA; omega)]; exact xw1.1
        rw [e77]
        exact kk h5 ((F2.mo (fun b k q => Or.inl q) (fun b k q => q)).tr ((f5.x).mo (fun b k q => Or.inr (sub b k q)) (fun b k q => q))) x5
      · have ok' : (pread (txL (apO t n nd nc T C rn rt rs w)) (apO t n nd nc T C rn rt rs w).length).1 = false := by simpa using ok
        refine s50b o2 ok' tx (by rw [F2.le]; exact l2) (by omega) (fun h5 f5 g5 => ⟨fun q => absurd rfl q, fun _ => zq1 (k2 ne (fun q => ok q.2) h5 ?_)⟩)
        exact (F2.mo (fun b k q => Or.inl q) (fun b k q => q)).tr ((f5.x).mo (fun b k q => Or.inr (sub b k q)) (fun b k q => q))
    | succ f ih =>
      intro j h1 p L sm u3 hj p0 p1 sm1 ll f1 xw1 hx ea
      obtain ⟨ca, x1, ca0, ca1⟩ := hx
      have y1 := y.fx f1 (fun b k _ _ => by unfold xAA; omega)
      have mv := hL _ (getD_m (L := eL (lsR t T rn rt rs) T nd w) (k := j) (by omega))
      have cl := cgS_l g o mv.1 mv.2
      have be := g.be mv.1.1 mv.1.2
      have e78 := xw1.2.1 j (by omega)
      have yv := y1.2.2.2.1 _ mv.1.1 mv.1.2
      rw [drop_c (show j < (eL (lsR t T rn rt rs) T nd w).length by omega), aps] at ea
      refine k40_43 a a2 u3 p _ h1 _ ?_
      rw [xw1.1, e78, yv.2.2.2.2.1]
      refine ⟨fun d => absurd d (by omega), fun _ => ⟨by omega, by omega, mv.1.1, by omega, s131 y1.1 g.1 (by omega) (by omega) x1 (by omega) (fun h15 f15 x15 => s125 x15 (fun h16 f16 x16 => ?_))⟩⟩
      have F16 := f1.tr ((W _ _ f15).tr (W _ _ f16))
      have xw16 : xWk h16 nd (lsR t T rn rt rs) (ftB t T rn rt rs) (eL (lsR t T rn rt rs) T nd w) := xw1.fx (R := fiR) ((f15.tr f16).x) (fun b k q1 q2 => by unfold wrA; omega)
      have wl := (wr_l (L := L) (sm := sm) (rowS t (T ((eL (lsR t T rn rt rs) T nd w).getD j 0) 4 - p).toNat p)).1
      rw [rowS_l] at wl
      have := s39 (h := h16) (i := (j : Int)) (L := eL (lsR t T rn rt rs) T nd w) g (y.fx F16 (fun b k _ _ => by unfold xAA; omega)) (by rw [F16.ty]; exact ty) ha o (u.aa F16) xw16 hL l60 (by omega) (by omega) x16 (by omega) (by omega) (K := fun h17 => zC0 125 [vR 82 108] h17 (fun h18 => (0 ≤ ((j : Nat) : Int)) ∧ (((j : Nat) : Int) < 60) ∧ (0 ≤ (gI h18 78 (j : Nat) : Int)) ∧ ((gI h18 78 (j : Nat) : Int) < 60) ∧ (inR (((j : Nat) : Int) + 1)) ∧ zK 40 43 [vR 2 100, vR a 102, vR a2 102, u3, vI (gI h18 (a + 8) (gI h18 78 (j : Nat))), vI (((j : Nat) : Int) + 1)] [] h18 (fun r h1 => ∃ v : Int, r = some (Sum.inl v) ∧ K v h1)))
      refine this (fun h17 f17 x17 => s125 x17 (fun h18 f18 x18 => ?_))
      rw [show (((j : Nat) : Int)).toNat = j by omega] at x18
      have F18 := F16.tr ((we_aa f17).tr (W _ _ f18))
      have xw18 : xWk h18 nd (lsR t T rn rt rs) (ftB t T rn rt rs) (eL (lsR t T rn rt rs) T nd w) := (xw16.fx f17 (fun b k q1 q2 => by unfold weA fiA wsA; omega)).fx (R := fiR) (f18.x) (fun b k q1 q2 => by unfold wrA; omega)
      have e18 := xw18.2.1 j (by omega)
      have y18 := y.fx F18 (fun b k _ _ => by unfold xAA; omega)
      have yv18 := y18.2.2.2.1 _ mv.1.1 mv.1.2
      rw [e18, yv18.2.2.2.2.2.1]
      have wl2 := (wr_l (L := (wr L sm (rowS t (T ((eL (lsR t T rn rt rs) T nd w).getD j 0) 4 - p).toNat p)).1) (sm := 1) (cgS t nc T C rn rt rs ((eL (lsR t T rn rt rs) T nd w).getD j 0))).1
      have cr : 0 ≤ crS t nc T C rn rt rs ((eL (lsR t T rn rt rs) T nd w).getD j 0) ∧ crS t nc T C rn rt rs ((eL (lsR t T rn rt rs) T nd w).getD j 0) ≤ 150 := by
        unfold crS
        split
        · omega
        · rename_i e _ _
          have hc := g.hc
          have := cnt_rg (crP T C (rs (lsR t T rn rt rs ((eL (lsR t T rn rt rs) T nd w).getD j 0))) (hBg T (sP rn rt rs (lsR t T rn rt rs ((eL (lsR t T rn rt rs) T nd w).getD j 0))) e) (hEn T (sP rn rt rs (lsR t T rn rt rs ((eL (lsR t T rn rt rs) T nd w).getD j 0))) e) ((eL (lsR t T rn rt rs) T nd w).getD j 0)) nc.toNat 0
          omega
      refine ⟨by omega, by omega, mv.1.1, by omega, by unfold inR; omega, ?_⟩
      have := ih (j + 1) h18 (T ((eL (lsR t T rn rt rs) T nd w).getD j 0) 5) _ 1 u3 (by omega) (by omega) (by omega) (Or.inr rfl) ?_ F18 xw18 ⟨_, x18, by omega, by omega⟩ ea
      · exact this
      · omega
  exact key (eL (lsR t T rn rt rs) T nd w).length 0 h11 0 [] 0 _ (by omega) (by omega) (by omega) (Or.inl rfl) (by simp) (F10.tr (W _ _ f11)) (xw.fx (R := fiR) (f11.x) (fun b k q1 q2 => by unfold wrA; omega)) ⟨0, x11, by omega, by omega⟩ (by rw [List.drop_zero]; rfl)
end AR
