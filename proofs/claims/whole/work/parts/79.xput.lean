/-! The class: what comes for an edit. -/
/-- where the texts of letters begin and end -/
def hlG (n nc : Int) (C : pT) (B E : Int → Int) : Prop := ∀ l, (B l = 0 ∧ E l = 0) ∨ (0 ≤ B l ∧ B l < E l ∧ E l ≤ n ∧ ∀ m, 0 ≤ m → m < nc → C m 0 < E l → C m 0 + C m 1 ≤ E l)
def wsA (b : Nat) (_ : Int) : Prop := 82 ≤ b ∧ b ≤ 86
/-- the held texts, by items -/
def xHl (h : zH) (s : pS) (b0 : Int) (B E : Int → Int) : Prop := ∀ i, b0 ≤ i → i < s 0 0 1 → (s 1 i 1 = -1 → gI h 85 i = 0 ∧ gI h 86 i = 0) ∧ (¬ s 1 i 1 = -1 → gI h 85 i = B (s 1 i 1) ∧ gI h 86 i = E (s 1 i 1))
section XP
variable {h : zH} {t w : Int → Int} {n nd nc m b0 : Int} {T C : pT} {s : pS} {a r : Nat} {B E : Int → Int} {L : List Int} {sm cg ca : Int}
theorem xHl.fr {P : Nat → Int → Prop} {h1 : zH} (x : xHl h s b0 B E) (f : frP P h h1) (d : ∀ k, ¬ P 85 k ∧ ¬ P 86 k) : xHl h1 s b0 B E := fun i i0 i1 => by
  rw [f.1 _ _ (d _).1, f.1 _ _ (d _).2]; exact x i i0 i1
theorem xQ.fr {P : Nat → Int → Prop} {h1 : zH} (x : xQ h r w m s) (f : frP P h h1) (d : ∀ b k, r ≤ b → b < r + 15 → ¬ P b k) : xQ h1 r w m s :=
  x.cg (by rw [f.ty]; exact x.1) (fun b k q1 q2 => f.1 _ _ (d b k q1 q2)) (f.le _)
theorem hlG.e (g : hlG n nc C B E) (l : Int) : (B l = E l ↔ E l = 0) ∧ 0 ≤ B l ∧ B l ≤ E l := by
  rcases g l with q | q <;> omega
theorem s130 (q : xQ h r w m s) (x : rEn w m 1 b0 s) (hN : s 0 0 1 ≤ 40) (hr : 87 ≤ r) {it : Int} (i0 : b0 ≤ it) (i1 : it < s 0 0 1) (wx : xWr h L sm cg ca) (hl : L.length < 800000) {K : zH → Prop}
    (k : ∀ h1, frP wrA h h1 → xWr h1 (wr L sm (tkL t w s B E (psT s it - (s 4 it 0 + 1)).toNat (s 4 it 0 + 1))).1 (wr L sm (tkL t w s B E (psT s it - (s 4 it 0 + 1)).toNat (s 4 it 0 + 1))).2 cg ca → K h1) : zC0 130 [vR 82 108, vR r 103, vI it] h K := by
  have N := x.N
  have gp := x.gap i0 i1
  have t4 := x.t41
  have pb : psT s it ≤ 40 := by
    unfold psT
    split
    · have := x.tk (j := it + 1) (by omega) (by assumption)
      rw [show kid 1 = 7 from rfl] at this
      omega
    · omega
  have tki := x.tk i0 i1
  have key : ∀ (f : Nat) (z : Int) (y p : Int) (h1 : zH) (L1 : List Int) (s1 : Int), z + f = 20 → 0 ≤ z → y = -1 ∨ (b0 ≤ y ∧ y < s 0 0 1 ∧ y ≤ it - z) → preT s it y p → s 4 it 0 + 1 ≤ p → p ≤ psT s it → L1.length ≤ L.length + 2 * (p - (s 4 it 0 + 1)).toNat → frP wrA h h1 → xWr h1 L1 s1 cg ca →
      (∀ h2, frP wrA h h2 → xWr h2 (wr L1 s1 (tkL t w s B E (psT s it - p).toNat p)).1 (wr L1 s1 (tkL t w s B E (psT s it - p).toNat p)).2 cg ca → K h2) → zK 130 5 [vR 82 108, vR r 103, vI it, vI y, vI z] [] h1 (fun r h1 => r = none ∧ K h1) := by
    intro f
    induction f with
    | zero =>
      intro z y p h1 L1 s1 hz z0 hy pr p0 p1 ll f1 x1 kk
      refine k130_5 r it y z h1 _ ⟨fun _ => zq0 (kk h1 f1 ?_), fun c => absurd (by omega) c⟩
      have yn : y = -1 := by omega
      have := pr.1 yn
      rw [show (psT s it - p).toNat = 0 by omega]; exact x1
    | succ f ih =>
      intro z y p h1 L1 s1 hz z0 hy pr p0 p1 ll f1 x1 kk
      have q1 := q.fr f1 (fun b k _ _ => by unfold wrA; omega)
      refine k130_5 r it y z h1 _ ⟨fun c => absurd c (by omega), fun _ => ⟨fun c => zq0 (kk h1 f1 ?_), fun c => ?_⟩⟩
      · have := pr.1 c
        rw [show (psT s it - p).toNat = 0 by omega]; exact x1
      · have hy : b0 ≤ y ∧ y < s 0 0 1 ∧ y ≤ it - z := by omega
        have e9 : gI h1 (r + 12) y = s 1 y 9 := q1.2.2.1 y 9 (by omega) (by omega) (by omega)
        have e0 : gI h1 (r + 3) y = s 1 y 0 := q1.2.2.1 y 0 (by omega) (by omega) (by omega)
        have e3 : gI h1 (r + 6) y = s 1 y 3 := q1.2.2.1 y 3 (by omega) (by omega) (by omega)
        have sp := x.sp hy.1 hy.2.1
        have up : s 1 y 3 = -1 ∨ (b0 ≤ s 1 y 3 ∧ s 1 y 3 < s 0 0 1 ∧ s 1 y 3 ≤ it - (z + 1)) := by
          by_cases u : s 1 y 3 = -1
          · exact Or.inl u
          · have := x.par (x.pn hy.1 hy.2.1 u) hy.2.1
            right; omega
        rw [e9, e0, e3]
        refine ⟨by omega, by omega, by unfold inR; omega, by unfold inR; omega, fun d => ?_, fun d => zq0 (kk h1 f1 ?_)⟩
        · have st := pre_s x hy.1 hy.2.1 d pr
          refine ⟨by omega, by omega, fun c4 => ⟨by omega, by omega, by unfold inR; omega, ih (z + 1) (s 1 y 3) p h1 L1 s1 (by omega) (by omega) up (st.2 c4) p0 p1 ll f1 x1 kk⟩, fun c4 => ?_⟩
          have st := st.1 (Classical.not_not.1 c4)
          have pa := pre_all x (s 0 0 1 - b0).toNat (s 1 y 3) (p + 1) (by omega) (by omega) st.2
          refine s132 x1 (by omega) (fun h2 f2 x2 => ?_)
          have q2 := q.fr (f1.tr f2) (fun b k _ _ => by unfold wrA; omega)
          have e32 : gI h2 (r + 6) y = s 1 y 3 := q2.2.2.1 y 3 (by omega) (by omega) (by omega)
          rw [e32]
          refine ⟨by omega, by omega, by unfold inR; omega, ih (z + 1) (s 1 y 3) (p + 1) h2 _ 0 (by omega) (by omega) up st.2 (by omega) pa.1 ?_ (f1.tr f2) x2 (fun h3 f3 x3 => kk h3 f3 ?_)⟩
          · have := (wr_l (L := L1) (sm := s1) [41]).1
            simp at this; omega
          · have ap := wr_ap (L := L1) (sm := s1) [41] (tkL t w s B E (psT s it - (p + 1)).toNat (p + 1))
            rw [show (wr L1 s1 [41]).2 = 0 from rfl] at ap
            rw [show (psT s it - p).toNat = (psT s it - (p + 1)).toNat + 1 by omega, tkL, tkS, if_pos st.1, ← ap]; exact x3
        · have := (pr.2 c).2 d
          rw [show (psT s it - p).toNat = 0 by omega]; exact x1
  exact cV (k130_0 r it h _ (key 20 0 it _ h L sm (by omega) (by omega) (Or.inr ⟨i0, i1, by omega⟩) (pre_0 x i0 i1) (by omega) gp.1 (by omega) frP.rf wx k))
/-- all of the put -/
theorem s129 (g : sF t n nd nc T C) (y : xN h a t n nd nc T C) (ha : a + 16 ≤ 53) (q : xQ h r w m s) (o : tOk w m) (x : rEn w m 1 b0 s) (h8 : s 0 0 8 = b0) (hN : s 0 0 1 ≤ 40) (hr : 87 ≤ r) (hl : hlG n nc C B E) (xh : xHl h s b0 B E) (wx : xWr h L sm cg ca) (hL : L.length < 700000) {K : zH → Prop}
    (k : ∀ h1, frP wrA h h1 → xWr h1 (wr L sm (tkL t w s B E (s 0 0 7).toNat 0)).1 (wr L sm (tkL t w s B E (s 0 0 7).toNat 0)).2 cg ca → K h1) : zC0 129 [vR 82 108, vR a 102, vR r 103] h K := by
  have N := x.N
  have hn := g.hn
  have mm := o.2.1
  have t4 := x.t41
  have rt := x.rt
  have hE : ∀ l, 0 ≤ B l ∧ E l ≤ 300 := fun l => by rcases hl l with z | z <;> omega
  have key : ∀ (f : Nat) (i : Int) (h1 : zH) (u4 u5 : zV), s 0 0 1 - i = f → b0 ≤ i → frP wrA h h1 →
      (i < s 0 0 1 → xWr h1 (wr L sm (tkL t w s B E (s 4 i 0).toNat 0)).1 (wr L sm (tkL t w s B E (s 4 i 0).toNat 0)).2 cg ca) → (¬ i < s 0 0 1 → xWr h1 (wr L sm (tkL t w s B E (s 0 0 7).toNat 0)).1 (wr L sm (tkL t w s B E (s 0 0 7).toNat 0)).2 cg ca) → zK 129 5 [vR 82 108, vR a 102, vR r 103, vI i, u4, u5] [] h1 (fun r h1 => r = none ∧ K h1) := by
    intro f
    induction f with
    | zero =>
      intro i h1 u4 u5 hi i0 f1 x1 x2
      have q1 := q.fr f1 (fun b k _ _ => by unfold wrA; omega)
      refine k129_5 a r i u4 u5 h1 _ ?_
      rw [q1.2.2.2.1]
      exact ⟨fun _ => zq0 (k h1 f1 (x2 (by omega))), fun c => absurd (by omega) c⟩
    | succ f ih =>
      intro i h1 u4 u5 hi i0 f1 x1 x2
      have i1 : i < s 0 0 1 := by omega
      have x1 := x1 i1
      have q1 := q.fr f1 (fun b k _ _ => by unfold wrA; omega)
      have xh1 := xh.fr f1 (fun k => by unfold wrA; omega)
      have hi1 := xh1 i i0 i1
      have e1 : gI h1 (r + 4) i = s 1 i 1 := q1.2.2.1 i 1 (by omega) (by omega) (by omega)
      have e3 : gI h1 (r + 6) i = s 1 i 3 := q1.2.2.1 i 3 (by omega) (by omega) (by omega)
      have ct := x.ct1 i0 i1
      have tk := x.tk i0 i1
      rw [show kid 1 = 7 from rfl] at tk
      have tl := tkL_p (t := t) x hE (s 4 i 0).toNat (by omega)
      have gp := x.gap i0 i1
      have ps1 : psT s i ≤ s 0 0 7 := by
        unfold psT
        split
        · have := x.tk (j := i + 1) (by omega) (by assumption)
          rw [show kid 1 = 7 from rfl] at this
          omega
        · omega
      have lb : ∀ R, R.length ≤ 6500 → (wr L sm R).1.length < 710000 := fun R hR => by have := (wr_l (L := L) (sm := sm) R).1; omega
      have z0 : s 4 i 0 = 0 ↔ s 1 i 3 = -1 := by
        constructor
        · intro e
          apply Classical.byContradiction; intro c
          have pn := x.pn i0 i1 c
          have := x.tl1 (i := b0) (j := i) (Int.le_refl _) pn i1
          omega
        · intro e; exact ((x.A i0 i1).1 e).2
      -- behind the item's own signs
      have cls : ∀ (h2 : zH) (u4 u5 : zV), frP wrA h h2 → xWr h2 (wr L sm (tkL t w s B E (s 4 i 0).toNat 0 ++ tkS t w s B E (s 4 i 0))).1 (wr L sm (tkL t w s B E (s 4 i 0).toNat 0 ++ tkS t w s B E (s 4 i 0))).2 cg ca → zC0 130 [vR 82 108, vR r 103, vI i] h2 (fun h3 => (inR (i + 1)) ∧ zK 129 5 [vR 82 108, vR a 102, vR r 103, vI (i + 1), u4, u5] [] h3 (fun r h1 => r = none ∧ K h1)) := by
        intro h2 u4 u5 f2 x2'
        have l1 : (tkL t w s B E ((s 4 i 0).toNat + 1) 0).length ≤ 6040 := tkL_p x hE _ (by omega)
        have e1 : tkL t w s B E ((s 4 i 0).toNat + 1) 0 = tkL t w s B E (s 4 i 0).toNat 0 ++ tkS t w s B E (s 4 i 0) := by
          rw [tkL_ap, tkL, tkL, List.append_nil, show (0 : Int) + ((s 4 i 0).toNat : Nat) = s 4 i 0 by omega]
        rw [← e1] at x2'
        refine s130 (t := t) (B := B) (E := E) (q.fr f2 (fun b k _ _ => by unfold wrA; omega)) x hN hr i0 i1 x2' (by have := lb _ (Nat.le_trans l1 (by omega)); omega) (fun h3 f3 x3 => ⟨by unfold inR; omega, ?_⟩)
        rw [wr_ap, show s 4 i 0 + 1 = 0 + (((s 4 i 0).toNat + 1 : Nat) : Int) by omega, ← tkL_ap, show (s 4 i 0).toNat + 1 + (psT s i - (0 + (((s 4 i 0).toNat + 1 : Nat) : Int))).toNat = (psT s i).toNat by omega] at x3
        refine ih (i + 1) h3 u4 u5 (by omega) (by omega) (f2.tr f3) (fun c => ?_) (fun c => ?_)
        · unfold psT at x3; rw [if_pos c] at x3; exact x3
        · unfold psT at x3; rw [if_neg c] at x3; exact x3
      -- the signs themselves
      have own : ∀ (h2 : zH) (R : List Int) (v u5 : Int), frP wrA h h2 → R = (if s 4 i 0 = 0 ∨ (isLt s (s 4 i 0) ∧ E (s 7 (s 4 i 0) 1) = 0) then [] else [32]) → xWr h2 (wr L sm (tkL t w s B E (s 4 i 0).toNat 0 ++ R)).1 (wr L sm (tkL t w s B E (s 4 i 0).toNat 0 ++ R)).2 cg ca → (v = 0 ↔ s 1 i 1 = -1) → zK 129 78 [vR 82 108, vR a 102, vR r 103, vI i, vI v, vI u5] [] h2 (fun r h1 => r = none ∧ K h1) := by
        intro h2 R v u5 f2 eR x2' hv
        have rl : R.length ≤ 1 := by rw [eR]; split <;> simp
        have q2 := q.fr f2 (fun b k _ _ => by unfold wrA; omega)
        have xh2 := xh.fr f2 (fun k => by unfold wrA; omega)
        have hi2 := xh2 i i0 i1
        have e0 : gI h2 (r + 3) i = s 1 i 0 := q2.2.2.1 i 0 (by omega) (by omega) (by omega)
        have lR : (tkL t w s B E (s 4 i 0).toNat 0 ++ R).length ≤ 6100 := by rw [List.length_append]; omega
        have n7 : ¬ s 7 (s 4 i 0) 0 = 7 := by omega
        have wd : ∀ (h3 : zH) (P : List Int) (u4 u5 : zV), frP wrA h h3 → P = (if s 7 (s 4 i 0) 0 = 5 then [40] else []) → s 1 i 1 = -1 → xWr h3 (wr L sm (tkL t w s B E (s 4 i 0).toNat 0 ++ R ++ P)).1 (wr L sm (tkL t w s B E (s 4 i 0).toNat 0 ++ R ++ P)).2 cg ca → zK 129 122 [vR 82 108, vR a 102, vR r 103, vI i, u4, u5] [] h3 (fun r h1 => r = none ∧ K h1) := by
          intro h3 P u4 u5 f3 eP hm1 x3
          have pl : P.length ≤ 1 := by rw [eP]; split <;> simp
          have q3 := q.fr f3 (fun b k _ _ => by unfold wrA; omega)
          have e10 : gI h3 (r + 13) i = s 1 i 10 := q3.2.2.1 i 10 (by omega) (by omega) (by omega)
          have e11 : gI h3 (r + 14) i = s 1 i 11 := q3.2.2.1 i 11 (by omega) (by omega) (by omega)
          have w3 : s 7 (s 4 i 0) 3 = s 1 i 10 ∧ s 7 (s 4 i 0) 4 = s 1 i 11 ∧ 0 ≤ s 1 i 10 ∧ 1 ≤ s 1 i 11 ∧ s 1 i 11 ≤ 8 ∧ s 1 i 10 + s 1 i 11 ≤ m ∧ ¬ isLt s (s 4 i 0) := by unfold isLt; omega
          refine k129_122 a r i u4 u5 h3 _ ?_
          rw [e10, e11]
          refine ⟨by omega, by omega, by omega, by omega, by omega, by omega, by unfold inR; omega, s131 q3.2.1 o (by omega) (by omega) x3 (by have := lb (tkL t w s B E (s 4 i 0).toNat 0 ++ R ++ P) (by rw [List.length_append]; omega); omega) (fun h4 f4 x4 => cls h4 u4 u5 (f3.tr f4) ?_)⟩
          rw [wr_ap] at x4
          rw [show tkS t w s B E (s 4 i 0) = R ++ (P ++ rowS w (s 1 i 10 + s 1 i 11 - s 1 i 10).toNat (s 1 i 10)) from ?_]
          · rw [← List.append_assoc, ← List.append_assoc]; exact x4
          · rw [tkS, if_neg n7, ← eR, if_neg w3.2.2.2.2.2.2, ← eP, w3.1, w3.2.1, show s 1 i 10 + s 1 i 11 - s 1 i 10 = s 1 i 11 by omega]
        refine k129_78 a r i v (vI u5) h2 _ ?_
        rw [e0]
        refine ⟨fun c => ⟨by omega, by omega, fun d => ?_, fun d => ?_⟩, fun c => ⟨by omega, by omega, by omega, by omega, ?_⟩⟩
        · have c1 := hv.1 c
          refine wd h2 [] _ _ f2 ?_ c1 (by rw [List.append_nil]; exact x2')
          rw [if_neg (by omega)]
        · have c1 := hv.1 c
          refine s132 x2' (by have := lb _ (Nat.le_trans lR (by omega)); omega) (fun h3 f3 x3 => wd h3 [40] _ _ (f2.tr f3) ?_ c1 ?_)
          · rw [if_pos (by omega)]
          · have ap := wr_ap (L := L) (sm := sm) (tkL t w s B E (s 4 i 0).toNat 0 ++ R) [40]
            have s0 : (wr L sm (tkL t w s B E (s 4 i 0).toNat 0 ++ R ++ [40])).2 = 0 := by rw [← ap]; rfl
            rw [s0, ← ap]; exact x3
        · have c1 : ¬ s 1 i 1 = -1 := fun d => c (hv.2 d)
          have hh := hi2.2 c1
          rw [hh.1, hh.2]
          have le := hl.e (s 1 i 1)
          have hb := hE (s 1 i 1)
          have lt : isLt s (s 4 i 0) ∧ s 7 (s 4 i 0) 1 = s 1 i 1 := by unfold isLt; omega
          refine s131 (y.fr f2 (fun b k _ _ => by unfold wrA; omega)).1 g.1 (by omega) (by omega) x2' (by have := lb _ (Nat.le_trans lR (by omega)); omega) (fun h3 f3 x3 => cls h3 _ _ (f2.tr f3) ?_)
          rw [wr_ap] at x3
          rw [show tkS t w s B E (s 4 i 0) = R ++ rowS t (E (s 1 i 1) - B (s 1 i 1)).toNat (B (s 1 i 1)) from ?_]
          · rw [← List.append_assoc]; exact x3
          · rw [tkS, if_neg n7, ← eR, if_pos lt.1, lt.2]
      -- the blank ahead
      have bl : ∀ (v em : Int) (u5 : zV), (v = 0 ↔ s 1 i 1 = -1) → (em = 0 ↔ ¬ (¬ s 1 i 1 = -1 ∧ E (s 1 i 1) = 0)) → zK 129 55 [vR 82 108, vR a 102, vR r 103, vI i, vI v, u5] [vI em] h1 (fun r h1 => r = none ∧ K h1) := by
        intro v em u5 hv he
        have lq : (isLt s (s 4 i 0) ∧ E (s 7 (s 4 i 0) 1) = 0) ↔ (¬ s 1 i 1 = -1 ∧ E (s 1 i 1) = 0) := by
          rcases ct with z | z | z | z
          · rw [z.2.2.2.2]; exact ⟨fun u => ⟨by omega, u.2⟩, fun u => ⟨Or.inl z.2.1, u.2⟩⟩
          · rw [z.2.2.2.2]; exact ⟨fun u => ⟨by omega, u.2⟩, fun u => ⟨Or.inr z.2.1, u.2⟩⟩
          · exact ⟨fun u => by unfold isLt at u; omega, fun u => absurd z.2.2.1 u.1⟩
          · exact ⟨fun u => by unfold isLt at u; omega, fun u => absurd z.2.2.1 u.1⟩
        refine k129_55 a r i v u5 em h1 _ ?_
        rw [e3]
        refine ⟨by omega, by omega, fun c => own h1 [] v em f1 ?_ (by rw [List.append_nil]; exact x1) hv, fun c => ⟨fun d => own h1 [] v em f1 ?_ (by rw [List.append_nil]; exact x1) hv, fun d => ?_⟩⟩
        · rw [if_pos (Or.inl (z0.2 c))]
        · rw [if_pos (Or.inr (lq.2 (Classical.not_not.1 (fun u => d (he.2 u)))))]
        · have d := Classical.not_not.1 d
          refine s132 x1 (by have := lb _ (Nat.le_trans tl (by omega)); omega) (fun h2 f2 x2' => own h2 [32] v em (f1.tr f2) ?_ ?_ hv)
          · rw [if_neg]
            rintro (u | u)
            · exact c (z0.1 u)
            · exact (he.1 d) (lq.1 u)
          · have ap := wr_ap (L := L) (sm := sm) (tkL t w s B E (s 4 i 0).toNat 0) [32]
            have s0 : (wr L sm (tkL t w s B E (s 4 i 0).toNat 0 ++ [32])).2 = 0 := by rw [← ap]; rfl
            rw [s0, ← ap]; exact x2'
      refine k129_5 a r i u4 u5 h1 _ ?_
      rw [q1.2.2.2.1, e1]
      refine ⟨fun c => absurd c (by omega), fun _ => ⟨by omega, by omega, fun c => ?_, fun c => ?_⟩⟩
      · refine k129_28 a r i u4 u5 0 h1 _ ⟨fun _ => k129_54 a r i 0 u5 h1 _ (bl 0 0 u5 ⟨fun _ => c, fun _ => rfl⟩ ⟨fun _ u => u.1 c, fun _ => rfl⟩), fun d => absurd rfl d⟩
      · have hh := hi1.2 c
        have le := hl.e (s 1 i 1)
        refine k129_28 a r i u4 u5 1 h1 _ ⟨fun d => by omega, fun _ => ?_⟩
        rw [hh.1, hh.2]
        refine ⟨by omega, by omega, by omega, by omega, fun d => k129_54 a r i 1 u5 h1 _ (bl 1 0 u5 ⟨fun u => by omega, fun u => absurd u c⟩ ⟨fun _ u => d (le.1.2 u.2), fun _ => rfl⟩), fun d => bl 1 1 u5 ⟨fun u => by omega, fun u => absurd u c⟩ ⟨fun u => by omega, fun u => absurd ⟨c, le.1.1 (Classical.not_not.1 d)⟩ u⟩⟩
  refine cV (k129_0 a r h _ ?_)
  rw [q.2.2.2.2.1, h8]
  refine key (s 0 0 1 - b0).toNat b0 h _ _ (by omega) (by omega) frP.rf (fun _ => ?_) (fun c => absurd N.2.1 c)
  rw [rt.2.2.2]; exact wx
end XP
