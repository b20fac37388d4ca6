/-! The program: a test is hung, a rule's row, all rules. -/
section XH
variable {h : zH} {rn : Int → Int} {rt : Int → Int → Int} {rs : Int → pS} {G : List tnd} {c x : Int}
theorem xTg_s {P : Nat → Int → Prop} {h1 : zH} {rf : Int → Nat} {y : tst} (t : xTg h rf G) (g : ∀ (j : Nat) (n : tnd), G[j]? = some n → n.1 = -1 ∨ (0 ≤ n.1 ∧ n.1 < j)) (hc : c = -1 ∨ (0 ≤ c ∧ c < G.length))
    (f : frX (fun b k => (b = 63 ∧ (k = 5 ∨ k = 6)) ∨ (68 ≤ b ∧ b ≤ 74 ∧ k = G.length) ∨ (b = 73 ∧ k = c)) (fun b k => b = 69 ∧ k = G.length) h h1)
    (v5 : gI h1 63 5 = G.length + 1) (v6 : gI h1 63 6 = if c = -1 then (G.length : Int) else lc G (-1) G.length) (v68 : gI h1 68 G.length = y.1) (v69 : gR h1 69 G.length = rf x) (v70 : gI h1 70 G.length = y.2.1) (v71 : gI h1 71 G.length = y.2.2) (v72 : gI h1 72 G.length = c) (v73 : gI h1 73 G.length = -1) (v74 : gI h1 74 G.length = lc G c G.length) (v3 : ¬ c = -1 → gI h1 73 c = G.length) : xTg h1 rf (G ++ [(c, x, y)]) := by
  have ll : (G ++ [(c, x, y)]).length = G.length + 1 := by rw [List.length_append]; rfl
  refine ⟨by rw [v5, ll]; rfl, by rw [v6, ll, lc_e], fun k n e => ?_⟩
  rw [ll]
  rcases snoc_q.1 e with q | ⟨q1, q2⟩
  · have lt := lt_q q
    have tk := t.2.2 k n q
    rw [lc_e, lc_l _ (by omega), f.1 68 _ (by omega), f.2.1 69 _ (by omega), f.1 70 _ (by omega), f.1 71 _ (by omega), f.1 72 _ (by omega), f.1 74 _ (by omega)]
    refine ⟨tk.1, tk.2.1, tk.2.2.1, tk.2.2.2.1, tk.2.2.2.2.1, tk.2.2.2.2.2.1, ?_⟩
    by_cases d : c = k
    · rw [if_pos d, ← d]; exact v3 (by omega)
    · rw [if_neg d, f.1 73 _ (by omega)]; exact tk.2.2.2.2.2.2
  · subst q1; subst q2
    refine ⟨v68, v69, v70, v71, v72, by rw [lc_l _ (Nat.le_refl _)]; exact v74, ?_⟩
    rw [lc_e, if_neg (by show ¬ c = _; omega), v73, lc_no]
    intro i hi e
    have hl : i < G.length := hi
    have en : G[i]? = some (G[i]'hl) := List.getElem?_eq_getElem hl
    rw [abv_s en] at e
    have := g i _ en
    omega
theorem s112 {R : List tst} {kk : Nat} {y : tst} (t : xTg h (fun z => gR h 53 z) G) (g : ∀ (j : Nat) (n : tnd), G[j]? = some n → n.1 = -1 ∨ (0 ≤ n.1 ∧ n.1 < j)) (hG : G.length < 320) (hc : c = -1 ∨ (0 ≤ c ∧ c < G.length)) (xr : xRw h R) (hy : R[kk]? = some y) (hR : R.length ≤ 40) {K : Int → zH → Prop}
    (k : ∀ h1, frX (fun b k => (b = 63 ∧ (k = 5 ∨ k = 6)) ∨ (68 ≤ b ∧ b ≤ 74)) teR h h1 → xTg h1 (fun z => gR h1 53 z) (G ++ [(c, x, y)]) → K G.length h1) : zC1 112 [vR 63 106, vI c, vR (gR h 53 x) 103, vI kk] h K := by
  have lk := lt_q hy
  have ry := xr.2 kk y hy
  have t6 := t.2.1
  have tc : ¬ c = -1 → gI h 73 c = lc G c G.length := by
    intro d
    obtain ⟨nn, en⟩ : ∃ nn, G[c.toNat]? = some nn := ⟨G[c.toNat]'(by omega), List.getElem?_eq_getElem (by omega)⟩
    have tj := (t.2.2 c.toNat nn en).2.2.2.2.2.2
    rwa [show ((c.toNat : Nat) : Int) = c by omega] at tj
  refine cI (k112_0 c _ kk h _ ?_)
  rw [t.1]
  refine ⟨fun _ => ⟨by unfold inR; omega, fun h12 e12 => ?_⟩, fun d => absurd (by omega) d⟩
  have w64 : gI h12 64 kk = y.1 := by rw [e12, gS, if_neg (by omega)]; exact ry.1
  rw [w64]
  refine ⟨by omega, by omega, by omega, by omega, fun h13 e13 => ⟨by omega, by omega, fun h14 e14 => ?_⟩⟩
  have w65 : gI h14 65 kk = y.2.1 := by rw [e14, gIR, e13, gS, if_neg (by omega), e12, gS, if_neg (by omega)]; exact ry.2.1
  rw [w65]
  refine ⟨by omega, by omega, by omega, by omega, fun h15 e15 => ?_⟩
  have w66 : gI h15 66 kk = y.2.2 := by rw [e15, gS, if_neg (by omega), e14, gIR, e13, gS, if_neg (by omega), e12, gS, if_neg (by omega)]; exact ry.2.2
  rw [w66]
  refine ⟨by omega, by omega, by omega, by omega, fun h16 e16 => ⟨by omega, by omega, fun h17 e17 => ⟨by omega, by omega, fun h18 e18 => ?_⟩⟩⟩
  have F : frX (fun b k => (b = 63 ∧ k = 5) ∨ (68 ≤ b ∧ b ≤ 73 ∧ k = G.length)) (fun b k => b = 69 ∧ k = G.length) h h18 := by
    rw [e18, e17, e16, e15, e14, e13, e12]
    exact ((((((frX.rf.st (by omega)).st (by omega)).sr ⟨rfl, rfl⟩).st (by omega)).st (by omega)).st (by omega)).st (by omega)
  have a5 : gI h18 63 5 = G.length + 1 := by rw [e18, gS, if_neg (by omega), e17, gS, if_neg (by omega), e16, gS, if_neg (by omega), e15, gS, if_neg (by omega), e14, gIR, e13, gS, if_neg (by omega), e12, gS1]
  have a68 : gI h18 68 G.length = y.1 := by rw [e18, gS, if_neg (by omega), e17, gS, if_neg (by omega), e16, gS, if_neg (by omega), e15, gS, if_neg (by omega), e14, gIR, e13, gS1]
  have a69 : gR h18 69 G.length = gR h 53 x := by rw [e18, gRS, e17, gRS, e16, gRS, e15, gRS, e14, gRR, if_pos ⟨rfl, rfl⟩]
  have a70 : gI h18 70 G.length = y.2.1 := by rw [e18, gS, if_neg (by omega), e17, gS, if_neg (by omega), e16, gS, if_neg (by omega), e15, gS1]
  have a71 : gI h18 71 G.length = y.2.2 := by rw [e18, gS, if_neg (by omega), e17, gS, if_neg (by omega), e16, gS1]
  have a72 : gI h18 72 G.length = c := by rw [e18, gS, if_neg (by omega), e17, gS1]
  have a73 : gI h18 73 G.length = -1 := by rw [e18, gS1]
  clear e12 e13 e14 e15 e16 e17 e18 w64 w65 w66
  have fin : ∀ h2, frX (fun b k => (b = 63 ∧ k = 6) ∨ (b = 74 ∧ k = G.length) ∨ (b = 73 ∧ k = c)) (fun _ _ => False) h18 h2 → gI h2 63 6 = (if c = -1 then (G.length : Int) else lc G (-1) G.length) → gI h2 74 G.length = lc G c G.length → (¬ c = -1 → gI h2 73 c = G.length) → K G.length h2 := by
    intro h2 f2 v6 v74 v3
    have F2 : frX (fun b k => (b = 63 ∧ (k = 5 ∨ k = 6)) ∨ (68 ≤ b ∧ b ≤ 74 ∧ k = G.length) ∨ (b = 73 ∧ k = c)) (fun b k => b = 69 ∧ k = G.length) h h2 := (F.mo (fun b k q => by omega) (fun b k q => q)).tr (f2.mo (fun b k q => by omega) (fun b k q => q.elim))
    refine k h2 (F2.mo (fun b k q => by omega) (fun b k q => q.1)) ?_
    have e53 : (fun z => gR h2 53 z) = (fun z => gR h 53 z) := funext (fun z => F2.2.1 53 z (by omega))
    rw [e53]
    have a69' : gR h2 69 G.length = gR h 53 x := by rw [f2.2.1 _ _ (fun q => q)]; exact a69
    exact xTg_s (P := fun _ _ => False) (rf := fun z => gR h 53 z) t g hc F2 (by rw [f2.1 _ _ (by omega)]; exact a5) v6 (by rw [f2.1 _ _ (by omega)]; exact a68) a69' (by rw [f2.1 _ _ (by omega)]; exact a70) (by rw [f2.1 _ _ (by omega)]; exact a71) (by rw [f2.1 _ _ (by omega)]; exact a72) (by rw [f2.1 _ _ (by omega)]; exact a73) v74 v3
  refine ⟨fun d => ⟨by omega, by omega, by omega, by omega, fun h19 e19 => ⟨by omega, by omega, fun h20 e20 => zq1 (fin h20 ?_ ?_ ?_ ?_)⟩⟩, fun d => ⟨by omega, by omega, fun h21 e21 h22 e22 => zq1 (fin h22 ?_ ?_ ?_ ?_)⟩⟩
  · rw [e20, e19]; exact (frX.rf.st (by omega)).st (by omega)
  · rw [if_neg d, e20, gS, if_neg (by omega), e19, gS, if_neg (by omega), F.1 _ _ (by omega)]; exact t6
  · rw [e20, gS, if_neg (by omega), e19, gS1, F.1 _ _ (by omega)]; exact tc d
  · intro _; rw [e20, gS1]
  · rw [e22, e21]; exact (frX.rf.st (by omega)).st (by omega)
  · rw [if_pos (Classical.not_not.1 d), e22, gS1]
  · rw [e22, gS, if_neg (by omega), e21, gS1, F.1 _ _ (by omega), Classical.not_not.1 d]; exact t6
  · intro z; exact absurd z d
/-- a rule's row of tests is hung -/
theorem s109 (o : slO rn rt rs) (u : xRu h 53 rn rt rs) (t : xTg h (fun z => gR h 53 z) G) (g : tGk (tEq rn rt rs) G) (gr : tGr rn (fun x => tRw (sP rn rt rs x)) G) (hG : G.length ≤ 280) (hx : 0 ≤ x ∧ x < 8) (hn : ¬ rn x = 0) {K : zH → Prop}
    (k : ∀ h1, frX teA teR h h1 → xTg h1 (fun z => gR h1 53 z) (trw (tEq rn rt rs) x G (-1) (tRw (sP rn rt rs x))).1 → tGk (tEq rn rt rs) (trw (tEq rn rt rs) x G (-1) (tRw (sP rn rt rs x))).1 → tGr rn (fun x => tRw (sP rn rt rs x)) (trw (tEq rn rt rs) x G (-1) (tRw (sP rn rt rs x))).1 → (trw (tEq rn rt rs) x G (-1) (tRw (sP rn rt rs x))).1.length ≤ G.length + 40 → K h1) : zC0 109 [vR 63 106, vR (gR h 53 x) 103] h K := by
  have fx := o.tr hx hn
  have pt := u.pt o hx hn
  have l40 := tRw_l (s := sP rn rt rs x)
  refine cV (k109_0 _ h _ (s105 pt.2 fx.1 (by omega) (fun h4 f4 r4 => ?_)))
  have key : ∀ (f j : Nat) (G2 : List tnd) (c : Int) (h1 : zH) (u4 : zV), j + f = (tRw (sP rn rt rs x)).length → frX teA teR h h1 → xRw h1 (tRw (sP rn rt rs x)) → xTg h1 (fun z => gR h1 53 z) G2 → tGk (tEq rn rt rs) G2 → tGr rn (fun x => tRw (sP rn rt rs x)) G2 → G2.length ≤ G.length + j → (c = -1 ∨ (0 ≤ c ∧ c < G2.length)) → (trw (tEq rn rt rs) x G2 c ((tRw (sP rn rt rs x)).drop j)).1 = (trw (tEq rn rt rs) x G (-1) (tRw (sP rn rt rs x))).1 → zK 109 10 [vR 63 106, vR (gR h 53 x) 103, vI c, vI (j : Nat), u4] [] h1 (fun r h1 => r = none ∧ K h1) := by
    intro f
    induction f with
    | zero =>
      intro j G2 c h1 u4 hj f1 r1 t1 g1 gr1 hG1 hc e
      rw [List.drop_eq_nil_of_le (by omega), trw] at e
      refine k109_10 _ c j u4 h1 _ ?_
      rw [r1.1]
      refine ⟨fun _ => zq0 (k h1 f1 ?_ ?_ ?_ ?_), fun d => absurd (by omega) d⟩
      · rw [← e]; exact t1
      · rw [← e]; exact g1
      · rw [← e]; exact gr1
      · rw [← e]; show G2.length ≤ _; omega
    | succ f ih =>
      intro j G2 c h1 u4 hj f1 r1 t1 g1 gr1 hG1 hc e
      have hl : j < (tRw (sP rn rt rs x)).length := by omega
      have ey : (tRw (sP rn rt rs x))[j]? = some ((tRw (sP rn rt rs x))[j]'hl) := List.getElem?_eq_getElem hl
      have ym : (tRw (sP rn rt rs x))[j]'hl ∈ tRw (sP rn rt rs x) := List.getElem_mem hl
      rw [List.drop_eq_getElem_cons hl, trw] at e
      have u1 : xRu h1 53 rn rt rs := u.fx f1 (fun b k _ _ => by unfold teA; omega) (fun k _ _ => by unfold teR; omega)
      have e53 : gR h1 53 x = gR h 53 x := f1.2.1 _ _ (by unfold teR; omega)
      have g2 := tst1_g (a := (x, (tRw (sP rn rt rs x))[j]'hl)) g1 hc
      have gr2 := tst1_r (E := tEq rn rt rs) (c := c) (a := (x, (tRw (sP rn rt rs x))[j]'hl)) gr1 ⟨hx, hn, ym⟩
      refine k109_10 _ c j u4 h1 _ ?_
      rw [r1.1, ← e53]
      refine ⟨fun d => absurd d (by omega), fun _ => s110 o u1 t1 g1 gr1 (by omega) hc hx hn r1 ey l40 ym ⟨fun d => ⟨by unfold inR; omega, ?_⟩, fun d => ?_⟩⟩
      · have z : tst1 (tEq rn rt rs) G2 c (x, (tRw (sP rn rt rs x))[j]'hl) = (G2, fC (tEq rn rt rs) G2 c (x, (tRw (sP rn rt rs x))[j]'hl)) := by unfold tst1; rw [if_neg d]
        rw [z] at e g2 gr2
        rw [e53]
        exact ih (j + 1) _ _ h1 _ (by omega) f1 r1 t1 g1 gr1 (by omega) g2.2.1 e
      · have z : tst1 (tEq rn rt rs) G2 c (x, (tRw (sP rn rt rs x))[j]'hl) = (G2 ++ [(c, x, (tRw (sP rn rt rs x))[j]'hl)], (G2.length : Int)) := by unfold tst1; rw [if_pos (Classical.not_not.1 d)]
        rw [z] at e g2 gr2
        refine s112 t1 g1.2 (by omega) hc r1 ey l40 (fun h6 f6 t6 => ⟨by unfold inR; omega, ?_⟩)
        rw [e53]
        have l2 : (G2 ++ [(c, x, (tRw (sP rn rt rs x))[j]'hl)]).length = G2.length + 1 := by rw [List.length_append]; rfl
        refine ih (j + 1) _ _ h6 _ (by omega) (f1.tr (f6.mo (fun b k q => by unfold teA; omega) (fun b k q => q))) ?_ t6 g2.1 gr2 (by omega) g2.2.1 e
        refine ⟨by rw [f6.1 _ _ (by omega)]; exact r1.1, fun i yy hyy => ?_⟩
        rw [f6.1 64 _ (by omega), f6.1 65 _ (by omega), f6.1 66 _ (by omega)]
        exact r1.2 i yy hyy
  have fx4 : frX teA teR h h4 := (f4.mo (fun b k q => by unfold trA at q; unfold teA; omega)).x
  have e53 : (fun z => gR h4 53 z) = (fun z => gR h 53 z) := funext (fun z => fx4.2.1 53 z (by unfold teR; omega))
  have t4 : xTg h4 (fun z => gR h4 53 z) G := by
    rw [e53]
    exact t.fx (f4.x (R := fun _ _ => False)) (by unfold trA; omega) (fun b k _ _ => by unfold trA; omega) (fun k q => q)
  exact key _ 0 G (-1) h4 _ (Nat.zero_add _) fx4 r4 t4 g gr (by omega) (Or.inl rfl) rfl
end XH
