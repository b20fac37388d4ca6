/-! Nodes at paths. -/
def ndP (T : pT) (v : Int) (L : List Int) : Int := L.foldl (fun a k => adv T k.toNat (a + 1)) v
def vdP (T : pT) (v : Int) (L : List Int) : Prop := ∀ j : Nat, j < L.length → 0 ≤ L.getD j 0 ∧ L.getD j 0 < T (ndP T v (L.take j)) 3
theorem takeS : ∀ (L : List Int) (j : Nat), j < L.length → L.take (j + 1) = L.take j ++ [L.getD j 0]
  | [], j, h => absurd h (by show ¬ j < 0; omega)
  | a :: L, 0, _ => rfl
  | a :: L, j + 1, h => by
    have h : j + 1 < L.length + 1 := h
    show a :: L.take (j + 1) = a :: (L.take j ++ [L.getD j 0])
    rw [takeS L j (by omega)]
theorem take_a : ∀ (L M : List Int) (j : Nat), j ≤ L.length → (L ++ M).take j = L.take j
  | _, _, 0, _ => rfl
  | [], M, j + 1, h => absurd h (by show ¬ j + 1 ≤ 0; omega)
  | a :: L, M, j + 1, h => by
    have h : j + 1 ≤ L.length + 1 := h
    show a :: (L ++ M).take j = a :: L.take j
    rw [take_a L M j (by omega)]
theorem take_l : ∀ (L : List Int), L.take L.length = L
  | [] => rfl
  | a :: L => by show a :: L.take L.length = a :: L; rw [take_l L]
section PP
variable {h : zH} {t w : Int → Int} {n nd nc m : Int} {T C : pT} {s : pS} {a r : Nat} {v : Int} {L : List Int}
theorem ndP_s {k : Int} : ndP T v (L ++ [k]) = adv T k.toNat (ndP T v L + 1) := by unfold ndP; rw [List.foldl_append]; rfl
theorem vdP_s {k : Int} (d : vdP T v L) (h0 : 0 ≤ k) (h1 : k < T (ndP T v L) 3) : vdP T v (L ++ [k]) := by
  intro j hj
  rw [List.length_append] at hj
  have hj : j < L.length + 1 := hj
  rw [take_a _ _ _ (by omega)]
  by_cases c : j = L.length
  · subst c; rw [getD_e, take_l]; exact ⟨h0, h1⟩
  · rw [getD_l (by omega)]; exact d j (by omega)
theorem vd_nd (g : sF t n nd nc T C) (hv : 0 ≤ v ∧ v < nd) (d : vdP T v L) : ∀ j : Nat, j ≤ L.length → 0 ≤ ndP T v (L.take j) ∧ ndP T v (L.take j) < nd := by
  intro j
  induction j with
  | zero => intro _; exact hv
  | succ j ih =>
    intro hj
    have q := ih (by omega)
    have dj := d j (by omega)
    rw [takeS L j (by omega), ndP_s]
    have := g.pt q.1 q.2 (k := (L.getD j 0).toNat) (by omega)
    omega
theorem vd_n (g : sF t n nd nc T C) (hv : 0 ≤ v ∧ v < nd) (d : vdP T v L) : 0 ≤ ndP T v L ∧ ndP T v L < nd := by
  have := vd_nd g hv d L.length (Nat.le_refl _)
  rwa [take_l] at this
theorem pts60 (g : sF t n nd nc T C) (hv : 0 ≤ v ∧ v < nd) : T v 3 ≤ 60 := by
  have hd := g.hd
  have q := vrw_le (fun i h0 h1 => (g.sz h0 h1).1) _ (g.vr hv.1 hv.2)
  have z := g.sz hv.1 hv.2
  omega
theorem s64 {k : Int} (g : sF t n nd nc T C) (x : xN h a t n nd nc T C) (hv : 0 ≤ v ∧ v < nd) (hk : 0 ≤ k ∧ k < T v 3) {K : Int → zH → Prop} (q : K (adv T k.toNat (v + 1)) h) : zC1 64 [vR a 102, vI v, vI k] h K := by
  have hd := g.hd
  have p60 := pts60 g hv
  have y := x.2.2.2.1 v hv.1 hv.2
  have key : ∀ (f j : Nat) (u1 : zV), j + f = k.toNat → zK 64 23 [vR a 102, u1, vI k, vI (adv T j (v + 1)), vI (j : Nat)] [] h (fun r h1 => ∃ v : Int, r = some (Sum.inl v) ∧ K v h1) := by
    intro f
    induction f with
    | zero =>
      intro j u1 hj
      rw [show j = k.toNat by omega]
      exact k64_23 a u1 k _ _ h _ ⟨fun _ => zq1 q, fun d => absurd (by omega) d⟩
    | succ f ih =>
      intro j u1 hj
      have p := g.pt hv.1 hv.2 (k := j) (by omega)
      have yj := (x.2.2.2.1 (adv T j (v + 1)) (by omega) p.2.1).2.2.2.2.2.2.1
      have z := g.sz (i := adv T j (v + 1)) (by omega) p.2.1
      refine k64_23 a u1 k _ _ h _ ?_
      rw [yj]
      refine ⟨fun d => absurd d (by omega), fun _ => ⟨by omega, by omega, by unfold inR; omega, by unfold inR; omega, ?_⟩⟩
      rw [← adv_s]
      exact ih (j + 1) u1 (by omega)
  refine cI (k64_0 a v k h _ ?_)
  rw [y.2.2.2.1]
  exact ⟨fun d => absurd d (by omega), fun _ => ⟨hv.1, by omega, fun _ => ⟨by unfold inR; omega, key k.toNat 0 _ (by omega)⟩, fun d => absurd hk.2 d⟩⟩
theorem s116 {i : Int} (g : sF t n nd nc T C) (x : xN h a t n nd nc T C) (ha : a + 16 ≤ 63 ∨ 77 ≤ a) (p : xPt h r w m s) (hr : 77 ≤ r) (en : rEn w m 0 0 s) (i0 : 0 ≤ i) (i1 : i < s 0 0 1) (hv : 0 ≤ v ∧ v < nd) (d : vdP T v (pth s i)) {K : Int → zH → Prop} (q : ∀ h1, frP (fun b _ => b = 76) h h1 → K (ndP T v (pth s i)) h1) : zC1 116 [vR 63 106, vR r 103, vI i, vR a 102, vI v] h K := by
  have N := en.N
  have l20 := pth_20 en i0 i1
  have down : ∀ (f j : Nat) (h1 : zH) (u1 u2 u4 u5 u6 : zV), j + f = (pth s i).length → frP (fun b _ => b = 76) h h1 → (∀ e : Nat, e < (pth s i).length → gI h1 76 e = (pth s i).getD ((pth s i).length - 1 - e) 0) → zK 116 63 [vR 63 106, u1, u2, vR a 102, u4, u5, u6, vI (ndP T v ((pth s i).take j)), vI (((pth s i).length : Int) - 1 - j)] [] h1 (fun r h1 => ∃ v : Int, r = some (Sum.inl v) ∧ K v h1) := by
    intro f
    induction f with
    | zero =>
      intro j h1 u1 u2 u4 u5 u6 hj f1 v1
      rw [show j = (pth s i).length by omega, take_l]
      exact k116_63 u1 u2 a u4 u5 u6 _ _ h1 _ ⟨fun _ => zq1 (q h1 f1), fun z => absurd (by omega) z⟩
    | succ f ih =>
      intro j h1 u1 u2 u4 u5 u6 hj f1 v1
      have vn := vd_nd g hv d j (by omega)
      have dj := d j (by omega)
      have x1 : xN h1 a t n nd nc T C := x.fx (f1.x (R := fun _ _ => False)) (fun b k _ _ => by omega)
      have e := v1 ((pth s i).length - 1 - j) (by omega)
      rw [show (pth s i).length - 1 - ((pth s i).length - 1 - j) = j by omega, show (((pth s i).length - 1 - j : Nat) : Int) = ((pth s i).length : Int) - 1 - j by omega] at e
      refine k116_63 u1 u2 a u4 u5 u6 _ _ h1 _ ?_
      rw [e]
      refine ⟨fun z => absurd z (by omega), fun _ => ⟨fun z => absurd z (by omega), fun _ => ⟨by omega, by omega, s64 g x1 vn dj ⟨by unfold inR; omega, ?_⟩⟩⟩⟩
      rw [← ndP_s, ← takeS _ _ (by omega), show ((pth s i).length : Int) - 1 - j + -1 = ((pth s i).length : Int) - 1 - (j + 1 : Nat) by omega]
      exact ih (j + 1) h1 _ _ _ _ _ (by omega) f1 v1
  have up : ∀ (f : Nat) (j : Int) (l : Nat) (h1 : zH) (u2 u7 u8 : zV), j < f → 0 ≤ j → j < s 0 0 1 → (∃ M : List Int, pth s i = pth s j ++ M ∧ M.length = l) → frP (fun b _ => b = 76) h h1 → (∀ e : Nat, e < l → gI h1 76 e = (pth s i).getD ((pth s i).length - 1 - e) 0) → zK 116 6 [vR 63 106, vR r 103, u2, vR a 102, vI v, vI (l : Nat), vI j, u7, u8] [] h1 (fun r h1 => ∃ v : Int, r = some (Sum.inl v) ∧ K v h1) := by
    intro f
    induction f with
    | zero => intro j l h1 u2 u7 u8 hf j0; omega
    | succ f ih =>
      intro j l h1 u2 u7 u8 hf j0 j1 hM f1 v1
      obtain ⟨M, eM, lM⟩ := hM
      have ll := congrArg List.length eM
      rw [List.length_append] at ll
      have p1 : xPt h1 r w m s := p.fr f1 (fun b k _ _ => by omega)
      have g3 : gI h1 (r + 6) j = s 1 j 3 := p1.2.2.1 j 3 j0 j1 (by omega)
      have g5 : gI h1 (r + 8) j = s 1 j 5 := p1.2.2.1 j 5 j0 j1 (by omega)
      have fin : pth s j = [] → zK 116 63 [vR 63 106, vR r 103, u2, vR a 102, vI v, vI (l : Nat), vI j, vI v, vI ((l : Int) - 1)] [] h1 (fun r h1 => ∃ v : Int, r = some (Sum.inl v) ∧ K v h1) := by
        intro e
        rw [e] at ll
        have ll : (pth s i).length = 0 + M.length := ll
        have := down (pth s i).length 0 h1 (vR r 103) u2 (vI v) (vI (l : Nat)) (vI j) (by omega) f1 (fun e he => v1 e (by omega))
        rw [show ((pth s i).length : Int) - 1 - (0 : Nat) = (l : Int) - 1 by omega] at this
        exact this
      refine k116_6 r u2 a v l j u7 u8 h1 _ ?_
      rw [g3, g5]
      refine ⟨fun z => absurd z (by omega), fun _ => ⟨j0, by omega, fun z => ⟨by unfold inR; omega, fin ?_⟩, fun z => ⟨j0, by omega, by omega, by omega, fun h3 e3 => ⟨by unfold inR; omega, j0, by omega, ?_⟩⟩⟩⟩
      · by_cases c : j = 0
        · rw [c]; exact pth_0 en
        · have := en.par (j := j) (by omega) j1; omega
      · have pn := en.pn j0 j1 z
        have par := en.par pn j1
        have ej := pth_s en pn j1
        have f3 : frP (fun b _ => b = 76) h h3 := by rw [e3]; exact f1.st rfl
        have g3' : gI h3 (r + 6) j = s 1 j 3 := by rw [e3, gS, if_neg (by omega)]; exact g3
        rw [g3']
        have lj := congrArg List.length ej
        rw [List.length_append] at lj
        have lj : (pth s j).length = (pth s (s 1 j 3)).length + 1 := lj
        refine ih (s 1 j 3) (l + 1) h3 u2 u7 u8 (by omega) par.1 (by omega) ⟨s 1 j 5 :: M, by rw [eM, ej, List.append_assoc]; rfl, by show M.length + 1 = l + 1; omega⟩ f3 (fun e he => ?_)
        rw [e3, gS]
        by_cases c : e = l
        · subst c
          rw [if_pos ⟨rfl, rfl⟩, show (pth s i).length - 1 - e = (pth s (s 1 j 3)).length by omega, eM, ej, List.append_assoc, List.getD_eq_getElem?_getD, List.getElem?_append_right (Nat.le_refl _), Nat.sub_self]
          rfl
        · rw [if_neg (by omega)]; exact v1 e (by omega)
  exact cI (k116_0 r i a v h _ (up (i + 1).toNat i 0 h _ _ _ (by omega) i0 i1 ⟨[], by rw [List.append_nil], rfl⟩ frP.rf (fun e he => by omega)))
theorem s220 {b : Nat} {off : Int} (g : sF t n nd nc T C) (y : mN h t n nd nc T C) (hv : 0 ≤ v ∧ v < nd) (d : vdP T v L) (ho : 0 ≤ off ∧ off + L.length ≤ 6720) (c : ∀ j : Nat, j < L.length → gI h b (off + j) = L.getD j 0) {K : Int → zH → Prop} (q : K (ndP T v L) h) : zC1 220 [vR 127 111, vI v, vR b 672140, vI off, vI (L.length : Nat)] h K := by
  have hd := g.hd
  have key : ∀ (f j : Nat) (u1 u7 u8 : zV), j + f = L.length → zK 220 6 [vR 127 111, u1, vR b 672140, vI off, vI (L.length : Nat), vI (ndP T v (L.take j)), vI (j : Nat), u7, u8] [] h (fun r h1 => ∃ v : Int, r = some (Sum.inl v) ∧ K v h1) := by
    intro f
    induction f with
    | zero =>
      intro j u1 u7 u8 hj
      rw [show j = L.length by omega, take_l]
      exact k220_6 u1 b off _ _ _ u7 u8 h _ ⟨fun _ => zq1 q, fun z => absurd (by omega) z⟩
    | succ f ih =>
      intro j u1 u7 u8 hj
      have vn := vd_nd g hv d j (by omega)
      have dj := d j (by omega)
      have p60 := pts60 g vn
      have inn : ∀ (f2 e : Nat) (u5 : zV), e + f2 = (L.getD j 0).toNat → zK 220 22 [vR 127 111, u1, vR b 672140, vI off, vI (L.length : Nat), u5, vI (j : Nat), vI (adv T e (ndP T v (L.take j) + 1)), vI (e : Nat)] [] h (fun r h1 => ∃ v : Int, r = some (Sum.inl v) ∧ K v h1) := by
        intro f2
        induction f2 with
        | zero =>
          intro e u5 he
          refine k220_22 u1 b off _ u5 _ _ _ h _ ?_
          rw [c j (by omega), show e = (L.getD j 0).toNat by omega]
          refine ⟨by unfold inR; omega, by omega, by omega, fun _ => ⟨by unfold inR; omega, ?_⟩, fun z => absurd (by omega) z⟩
          have := ih (j + 1) u1 (vI (adv T (L.getD j 0).toNat (ndP T v (L.take j) + 1))) (vI ((L.getD j 0).toNat : Nat)) (by omega)
          rw [takeS _ _ (by omega), ndP_s] at this
          exact this
        | succ f2 ih2 =>
          intro e u5 he
          have p := g.pt vn.1 vn.2 (k := e) (by omega)
          have z := g.sz (i := adv T e (ndP T v (L.take j) + 1)) (by omega) p.2.1
          refine k220_22 u1 b off _ u5 _ _ _ h _ ?_
          rw [c j (by omega)]
          refine ⟨by unfold inR; omega, by omega, by omega, fun z => absurd z (by omega), fun _ => s158 6 (by omega) g y ⟨by omega, p.2.1⟩ ⟨by unfold inR; omega, by unfold inR; omega, ?_⟩⟩
          rw [← adv_s]
          exact ih2 (e + 1) u5 (by omega)
      exact k220_6 u1 b off _ _ _ u7 u8 h _ ⟨fun z => absurd z (by omega), fun _ => ⟨by unfold inR; omega, inn (L.getD j 0).toNat 0 _ (by omega)⟩⟩
  exact cI (k220_0 v b off _ h _ (key L.length 0 _ _ _ (by omega)))
end PP
