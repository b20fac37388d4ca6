/-! The model: a walk that is applied. -/
def mBy (h : zH) (L : List Int) : Prop := gI h 127 9 = L.length ∧ lAt h 133 L
def bgA (b : Nat) (k : Int) : Prop := (b = 127 ∧ (k = 9 ∨ k = 66)) ∨ b = 133
/-- what was brought, or that it is too much -/
def mFl (h : zH) (L : List Int) : Prop := (gI h 127 66 = 0 ∧ mBy h L ∧ L.length ≤ 300) ∨ (¬ gI h 127 66 = 0 ∧ 300 < L.length)
theorem lsD_g {L : List Int} (h : 0 < L.length) : lsD L = L.getD (L.length - 1) 0 := by
  unfold lsD
  cases hL : L.reverse with
  | nil => have : L = [] := by simpa using hL
           rw [this] at h; simp at h
  | cons c R =>
    have e : L = R.reverse ++ [c] := by rw [← List.reverse_reverse L, hL, List.reverse_cons]
    rw [e]
    have l : (R.reverse ++ [c]).length - 1 = R.reverse.length := by simp
    rw [l, getD_e]
    simp
theorem rowS_s (t : Int → Int) : ∀ (k : Nat) (p : Int), rowS t (k + 1) p = rowS t k p ++ [t (p + k)]
  | 0, p => by rw [rowS, rowS, rowS]; simp
  | k + 1, p => by
    rw [rowS, rowS_s t k (p + 1), rowS, List.cons_append, show p + 1 + (k : Int) = p + ((k + 1 : Nat) : Int) by omega]
theorem take_s {L : List Int} {k : Nat} (h : k < L.length) : L.take (k + 1) = L.take k ++ [L.getD k 0] := by
  rw [List.take_succ, List.getElem?_eq_getElem h, List.getD_eq_getElem?_getD, List.getElem?_eq_getElem h]
  rfl
section MB
variable {h : zH}
theorem s241 {x y : Int} {K : Int → zH → Prop} (k : K (b2i (besd x y)) h) : zC1 241 [vI x, vI y] h K := by
  have sec : ¬ (isL x ∧ isL y) → zK 241 14 [vI x, vI y] [] h (fun r h1 => ∃ v : Int, r = some (Sum.inl v) ∧ K v h1) := by
    intro q
    refine k241_14 x y h _ (s145 ⟨fun c => ⟨Or.inl rfl, zq1 ?_⟩, fun c => s145 ⟨fun d => ⟨Or.inl rfl, zq1 ?_⟩, fun d => ⟨Or.inr rfl, zq1 ?_⟩⟩⟩)
    · rw [b2i_eq0] at c
      rwa [b2i_neg (fun z => by rcases z with z | z; exact q z; exact c z.1)] at k
    · rw [b2i_eq0] at d
      rwa [b2i_neg (fun z => by rcases z with z | z; exact q z; exact d z.2)] at k
    · rw [b2i_ne0] at c d
      rwa [b2i_pos (show besd x y from Or.inr ⟨c, d⟩)] at k
  refine cI (k241_0 x y h _ (s144 ⟨fun c => sec ?_, fun c => s144 ⟨fun d => ⟨Or.inr rfl, zq1 ?_⟩, fun d => sec ?_⟩⟩))
  · rw [b2i_eq0] at c; exact fun z => c z.1
  · rw [b2i_ne0] at c d
    rwa [b2i_pos (show besd x y from Or.inl ⟨c, d⟩)] at k
  · exact fun z => d (by rw [b2i_ne0]; exact z.2)
theorem s242 {L : List Int} {c e : Int} (z : gI h 127 66 = 0) (x : mBy h L) (hl : L.length ≤ 300) {K : zH → Prop} (k : ∀ h1, frP bgA h h1 → mFl h1 (wr L e [c]).1 → K h1) : zC0 242 [vR 127 111, vI c, vI e] h K := by
  -- behind the blank
  have fin : ∀ (L1 : List Int) (h1 : zH) (u2 u3 : zV), frP bgA h h1 → gI h1 127 66 = 0 → mBy h1 L1 → L1 ++ [c] = (wr L e [c]).1 → (L1 ++ [c]).length ≤ 300 → zK 242 86 [vR 127 111, vI c, u2, u3] [] h1 (fun r h1 => r = none ∧ K h1) := by
    intro L1 h1 u2 u3 f1 z1 x1 eL ll
    have l1 : L1.length + 1 ≤ 300 := by simpa using ll
    refine k242_86 c u2 u3 h1 _ ?_
    rw [x1.1]
    refine ⟨by omega, by omega, fun h11 e11 => ?_⟩
    have q : gI h11 127 9 = L1.length := by rw [e11, gS, if_neg (by omega)]; exact x1.1
    rw [q]
    refine ⟨by unfold inR; omega, fun h12 e12 => zq0 (k h12 ?_ (Or.inl ⟨?_, ⟨?_, ?_⟩, by rw [← eL]; exact ll⟩))⟩
    · rw [e12, e11]; exact (f1.st (Or.inr rfl)).st (Or.inl ⟨rfl, Or.inl rfl⟩)
    · rw [e12, gS, if_neg (by omega), e11, gS, if_neg (by omega)]; exact z1
    · rw [e12, gS1, ← eL, List.length_append]; rfl
    · rw [← eL]
      have := lAt_s (x := c) x1.2
      rw [← e11] at this
      exact this.cg (fun k _ _ => by rw [e12, gS, if_neg (by omega)])
  have mid : ∀ (b : Int) (u3 : zV), (b = 0 ∧ ¬ (¬ e = 0 ∧ besd (lsD L) c)) ∨ (b = 1 ∧ ¬ e = 0 ∧ besd (lsD L) c) → zK 242 34 [vR 127 111, vI c, vI e, u3] [vI b] h (fun r h1 => r = none ∧ K h1) := by
    intro b u3 hb
    rcases hb with q | q
    · have ew : (wr L e [c]).1 = L ++ [c] := by rw [wr, b2i_neg q.2, if_neg (by omega)]
      refine k242_34 c _ u3 b h _ ⟨fun _ => k242_48 c _ b 1 _ h _ ?_, fun d => absurd q.1 d⟩
      rw [x.1]
      refine ⟨by unfold inR; omega, fun d => ⟨fun _ => fin L h _ _ frP.rf z x ew.symm (by simp; omega), fun d1 => absurd q.1 d1⟩, fun d => ⟨Or.inr rfl, fun h10 e10 => zq0 (k h10 ?_ (Or.inr ⟨?_, ?_⟩))⟩⟩
      · rw [e10]; exact frP.rf.st (Or.inl ⟨rfl, Or.inr rfl⟩)
      · rw [e10, gS1]; omega
      · rw [ew]; simp; omega
    · have ew : (wr L e [c]).1 = L ++ [32] ++ [c] := by rw [wr, b2i_pos q.2, if_pos rfl]
      refine k242_34 c _ u3 b h _ ⟨fun d => by omega, fun _ => k242_48 c _ b 2 _ h _ ?_⟩
      rw [x.1]
      refine ⟨by unfold inR; omega, fun d => ⟨fun d1 => by omega, fun _ => ⟨by omega, by omega, fun h8 e8 => ?_⟩⟩, fun d => ⟨Or.inr rfl, fun h10 e10 => zq0 (k h10 ?_ (Or.inr ⟨?_, ?_⟩))⟩⟩
      · have q8 : gI h8 127 9 = L.length := by rw [e8, gS, if_neg (by omega)]; exact x.1
        rw [q8]
        refine ⟨by unfold inR; omega, fun h9 e9 => fin (L ++ [32]) h9 _ _ ?_ ?_ ⟨?_, ?_⟩ ew.symm (by simp; omega)⟩
        · rw [e9, e8]; exact (frP.rf.st (Or.inr rfl)).st (Or.inl ⟨rfl, Or.inl rfl⟩)
        · rw [e9, gS, if_neg (by omega), e8, gS, if_neg (by omega)]; exact z
        · rw [e9, gS1, List.length_append]; rfl
        · have := lAt_s (x := 32) x.2
          rw [← e8] at this
          exact this.cg (fun k _ _ => by rw [e9, gS, if_neg (by omega)])
      · rw [e10]; exact frP.rf.st (Or.inl ⟨rfl, Or.inr rfl⟩)
      · rw [e10, gS1]; omega
      · rw [ew]; simp; omega
  refine cV (k242_0 c e h _ ?_)
  rw [x.1]
  refine ⟨fun d => k242_33 c _ _ h _ (mid 0 _ (Or.inl ⟨rfl, fun q => q.1 d⟩)), fun d => ⟨fun d1 => k242_33 c _ _ h _ (mid 0 _ (Or.inl ⟨rfl, fun q => ?_⟩)), fun d1 => ⟨by unfold inR; omega, by omega, by omega, ?_⟩⟩⟩
  · have : L = [] := List.length_eq_zero_iff.1 (by omega)
    rw [this] at q
    have := q.2
    unfold besd lsD isL isD at this
    simp at this
  · have e1 := x.2 (L.length - 1) (by omega)
    rw [show ((L.length - 1 : Nat) : Int) = (L.length : Int) - 1 by omega] at e1
    rw [e1, ← lsD_g (by omega)]
    refine s241 ⟨fun q => k242_33 c _ _ h _ (mid 0 _ (Or.inl ⟨rfl, fun z => ?_⟩)), fun q => mid 1 _ (Or.inr ⟨rfl, d, ?_⟩)⟩
    · rw [b2i_eq0] at q; exact q z.2
    · rw [b2i_ne0] at q; exact q
/-- one sign more of a row -/
theorem s242w {L R : List Int} {c sm : Int} (z : gI h 127 66 = 0) (x : mFl h (wr L sm R).1) {K : zH → Prop} (k : ∀ h1, frP bgA h h1 → mFl h1 (wr L sm (R ++ [c])).1 → K h1) : zC0 242 [vR 127 111, vI c, vI (wr L sm R).2] h K := by
  rcases x with x | x
  · refine s242 z x.2.1 x.2.2 (fun h1 f1 x1 => k h1 f1 ?_)
    rw [wr_ap] at x1; exact x1
  · exact absurd z x.1
end MB
def mST (b : Nat) (k : Int) : Prop := meA b k ∨ mcA b k ∨ bgA b k ∨ mA b k
section MS
variable {h : zH} {t : Int → Int} {n nd nc : Int} {T C : pT} {rn : Int → Int} {rt : Int → Int → Int} {rs : Int → pS}
theorem mN.st {h1 : zH} (y : mN h t n nd nc T C) (g : sF t n nd nc T C) (f : frP mST h h1) : mN h1 t n nd nc T C := y.fr g.hn f (fun k _ _ => by unfold mST meA edA mcA cwA hlA gWB gWA bgA mA; omega) (by unfold mST meA edA mcA cwA hlA gWB gWA bgA mA; omega) (fun k => by unfold mST meA edA mcA cwA hlA gWB gWA bgA mA; omega)
theorem mRu.st {h1 : zH} (u : mRu h rn rt rs) (o : slO rn rt rs) (f : frP mST h h1) : mRu h1 rn rt rs := u.fr o f (fun k _ => by unfold mST meA edA mcA cwA hlA gWB gWA bgA mA; omega) (fun k => by unfold mST meA edA mcA cwA hlA gWB gWA bgA mA; omega)
theorem mFl.fr {P : Nat → Int → Prop} {h1 : zH} {L : List Int} (x : mFl h L) (f : frP P h h1) (d : ¬ P 127 9 ∧ ¬ P 127 66) (d2 : ∀ k, ¬ P 133 k) : mFl h1 L := by
  unfold mFl mBy
  rw [f.1 _ _ d.2, f.1 _ _ d.1]
  rcases x with x | x
  · exact Or.inl ⟨x.1, ⟨x.2.1.1, fun k hk => by rw [f.1 _ _ (d2 _)]; exact x.2.1.2 k hk⟩, x.2.2⟩
  · exact Or.inr x
theorem mFl.up {L L2 : List Int} (x : mFl h L) (z : ¬ gI h 127 66 = 0) (l : L.length ≤ L2.length) : mFl h L2 := by
  rcases x with x | x
  · exact absurd x.1 z
  · exact Or.inr ⟨z, by omega⟩
/-- a row of the source -/
theorem s243r {L : List Int} {p q j : Int} {u1 : zV} (g : sF t n nd nc T C) (y : mN h t n nd nc T C) (hp : 0 ≤ p ∧ p ≤ n ∧ q ≤ n) (hj : 0 ≤ j) {sm : Int} (hs : sm = if 0 < j then 1 else 0) (x : mFl h L) {Q : Option zV → zH → Prop} (k : ∀ h1 l5, frP bgA h h1 → mFl h1 (wr L sm (rowS t (q - p).toNat p)).1 → zK 243 115 [vR 127 111, u1, vI p, vI j, vI q, vI l5] [] h1 Q) : zK 243 69 [vR 127 111, u1, vI p, vI j, vI q, vI p] [] h Q := by
  have hn := g.hn
  have key : ∀ (f : Nat) (z : Int) (h1 : zH), (q - z).toNat = f → p ≤ z → z ≤ q ∨ z = p → frP bgA h h1 → mFl h1 (wr L sm (rowS t (z - p).toNat p)).1 → zK 243 69 [vR 127 111, u1, vI p, vI j, vI q, vI z] [] h1 Q := by
    intro f
    induction f with
    | zero =>
      intro z h1 hz z0 z1 f1 x1
      refine k243_69 u1 p j q z h1 Q ⟨fun _ => k h1 z f1 ?_, fun c => absurd (by omega) c⟩
      rw [show (q - p).toNat = (z - p).toNat by omega]; exact x1
    | succ f ih =>
      intro z h1 hz z0 z1 f1 x1
      have y1 : mN h1 t n nd nc T C := y.fr g.hn f1 (fun k _ _ => by unfold bgA; omega) (by unfold bgA; omega) (fun k => by unfold bgA; omega)
      have e128 := y1.1.2.1 z (by omega) (by omega)
      refine k243_69 u1 p j q z h1 Q ⟨fun c => absurd c (by omega), fun _ => ⟨fun c => k h1 z f1 (x1.up c ?_), fun c => ?_⟩⟩
      · have a := (wr_l (L := L) (sm := sm) (rowS t (z - p).toNat p)).1
        have b := (wr_l (L := L) (sm := sm) (rowS t (q - p).toNat p)).2
        rw [rowS_l] at a b
        omega
      · have c := Classical.not_not.1 c
        rw [e128]
        have st : zC0 242 [vR 127 111, vI (t z), vI (wr L sm (rowS t (z - p).toNat p)).2] h1 (fun h2 => (inR (z + 1)) ∧ zK 243 69 [vR 127 111, u1, vI p, vI j, vI q, vI (z + 1)] [] h2 Q) := by
          refine s242w c x1 (fun h2 f2 x2 => ⟨by unfold inR; omega, ih (z + 1) h2 (by omega) (by omega) (by omega) (f1.tr f2) ?_⟩)
          rw [show (z + 1 - p).toNat = (z - p).toNat + 1 by omega, rowS_s, show p + ((z - p).toNat : Nat) = z by omega]; exact x2
        refine ⟨by omega, by omega, fun d => ?_, fun d => ⟨fun d1 => ?_, fun d1 => ?_⟩⟩
        · obtain ⟨m, hm⟩ : ∃ m : Nat, (z - p).toNat = m + 1 := ⟨(z - p).toNat - 1, by omega⟩
          rw [hm, rowS, wr] at st
          exact st
        · rw [show (z - p).toNat = 0 by omega, rowS, wr] at st
          rw [hs, if_neg (by omega)] at st; exact st
        · rw [show (z - p).toNat = 0 by omega, rowS, wr] at st
          rw [hs, if_pos (by omega)] at st; exact st
  refine key (q - p).toNat p h rfl (by omega) (Or.inr rfl) frP.rf ?_
  rw [show (p - p).toNat = 0 by omega]; exact x
/-- what comes for an edit -/
theorem s243c {L G : List Int} {j : Int} {u1 u2 u4 : zV} (hc : mCo h G) (hl : G.length < 7000) (x : mFl h L) {Q : Option zV → zH → Prop} (k : ∀ h1 l5, frP bgA h h1 → mFl h1 (wr L 1 G).1 → zK 243 174 [vR 127 111, u1, u2, vI j, u4, vI l5] [] h1 Q) : zK 243 131 [vR 127 111, u1, u2, vI j, u4, vI 0] [] h Q := by
  have key : ∀ (f z : Nat) (h1 : zH), z + f = G.length → frP bgA h h1 → mFl h1 (wr L 1 (G.take z)).1 → zK 243 131 [vR 127 111, u1, u2, vI j, u4, vI (z : Nat)] [] h1 Q := by
    intro f
    induction f with
    | zero =>
      intro z h1 hz f1 x1
      have c1 := hc.fr f1 (by unfold bgA; omega) (fun k => by unfold bgA; omega)
      refine k243_131 u1 u2 j u4 z h1 Q ?_
      rw [c1.1]
      refine ⟨fun _ => k h1 z f1 ?_, fun c => absurd (by omega) c⟩
      rw [List.take_of_length_le (by omega)] at x1; exact x1
    | succ f ih =>
      intro z h1 hz f1 x1
      have c1 := hc.fr f1 (by unfold bgA; omega) (fun k => by unfold bgA; omega)
      refine k243_131 u1 u2 j u4 z h1 Q ?_
      rw [c1.1, c1.2 z (by omega)]
      refine ⟨fun c => absurd c (by omega), fun _ => ⟨fun c => k h1 z f1 (x1.up c ?_), fun c => ?_⟩⟩
      · have a := (wr_l (L := L) (sm := 1) (G.take z)).1
        have b := (wr_l (L := L) (sm := 1) G).2
        rw [List.length_take] at a
        omega
      · have c := Classical.not_not.1 c
        have st : zC0 242 [vR 127 111, vI (G.getD z 0), vI (wr L 1 (G.take z)).2] h1 (fun h2 => (inR ((z : Int) + 1)) ∧ zK 243 131 [vR 127 111, u1, u2, vI j, u4, vI ((z : Int) + 1)] [] h2 Q) := by
          refine s242w c x1 (fun h2 f2 x2 => ⟨by unfold inR; omega, ih (z + 1) h2 (by omega) (f1.tr f2) ?_⟩)
          rw [take_s (by omega)]; exact x2
        refine ⟨by omega, by omega, fun d => ?_, fun d => ?_⟩
        · have e : (wr L 1 (G.take z)).2 = 0 := by
            cases hG : G.take z with
            | nil => have := congrArg List.length hG
                     rw [List.length_take, List.length_nil] at this
                     omega
            | cons a b => rfl
          rw [e] at st; exact st
        · have z0 : z = 0 := by omega
          subst z0
          exact st
  exact key G.length 0 h (by omega) frP.rf (by rw [List.take_zero]; exact x)
theorem s243 {w : Int} (g : sF t n nd nc T C) (y : mN h t n nd nc T C) (o : slO rn rt rs) (u : mRu h rn rt rs) {K : Int → zH → Prop}
    (k : ∀ h1, frP mST h h1 → mEd h1 (eL (lsR t T rn rt rs) T nd w) (lsR t T rn rt rs) → (apK t n nd nc T C rn rt rs w → mB h1 (txL (apO t n nd nc T C rn rt rs w)) (apO t n nd nc T C rn rt rs w).length ∧ gI h1 127 11 = (pread (txL (apO t n nd nc T C rn rt rs w)) (apO t n nd nc T C rn rt rs w).length).2.2.1 ∧ gI h1 127 13 = (pread (txL (apO t n nd nc T C rn rt rs w)) (apO t n nd nc T C rn rt rs w).length).2.2.2.1) → K (b2i (apK t n nd nc T C rn rt rs w)) h1) : zC1 243 [vR 127 111, vI w] h K := by
  have hnd := g.hd
  have hn := g.hn
  have hL := eL_h (t := t) (T := T) (rn := rn) (rt := rt) (rs := rs) (w := w) (nd := nd) (by omega)
  have l60 := eL_60 (rn := rn) (rt := rt) (rs := rs) (w := w) g
  have oc := apO_c (rn := rn) (rt := rt) (rs := rs) g o w
  refine cI (k243_0 w h _ (s229 g y o u (fun h13 f13 e13 h14 e14 => ⟨Or.inl rfl, fun h15 e15 => ?_⟩)))
  have F15 : frP mST h h15 := by rw [e15, e14]; exact ((f13.mo (P' := mST) (fun b k q => Or.inl q)).st (show mST 127 9 from Or.inr (Or.inr (Or.inl (Or.inl ⟨rfl, Or.inl rfl⟩))))).st (show mST 127 66 from Or.inr (Or.inr (Or.inl (Or.inl ⟨rfl, Or.inr rfl⟩))))
  have ed15 : mEd h15 (eL (lsR t T rn rt rs) T nd w) (lsR t T rn rt rs) := e13.fr (show frP bgA h13 h15 by rw [e15, e14]; exact (frP.rf.st (Or.inl ⟨rfl, Or.inl rfl⟩)).st (Or.inl ⟨rfl, Or.inr rfl⟩)) (by unfold bgA; omega) (fun k => by unfold bgA; omega)
  have x15 : mFl h15 [] := Or.inl ⟨by rw [e15, gS1], ⟨by rw [e15, gS, if_neg (by omega), e14, gS1]; rfl, fun k hk => absurd hk (by simp)⟩, by simp⟩
  -- the end
  have fin : ∀ (h1 : zH) (u1 u2 u3 u4 u5 : zV), frP mST h h1 → mEd h1 (eL (lsR t T rn rt rs) T nd w) (lsR t T rn rt rs) → mFl h1 (apO t n nd nc T C rn rt rs w) → zK 243 192 [vR 127 111, u1, u2, u3, u4, u5] [] h1 (fun r h1 => ∃ v : Int, r = some (Sum.inl v) ∧ K v h1) := by
    intro h1 u1 u2 u3 u4 u5 f1 ed1 x1
    refine k243_192 u1 u2 u3 u4 u5 h1 _ ⟨fun c => ⟨Or.inl rfl, zq1 ?_⟩, fun c => ?_⟩
    · rcases x1 with x1 | x1
      · exact absurd x1.1 c
      · have nk : ¬ apK t n nd nc T C rn rt rs w := fun q => by have := q.1; omega
        have := k h1 f1 ed1 (fun q => absurd q nk)
        rwa [b2i_neg nk] at this
    · have c := Classical.not_not.1 c
      rcases x1 with x1 | x1
      · have o2 := txL_ok x1.2.2 oc
        have mb : mB h1 (txL (apO t n nd nc T C rn rt rs w)) (apO t n nd nc T C rn rt rs w).length := by
          refine ⟨x1.2.1.1, fun i i0 i1 => ?_⟩
          have q := x1.2.1.2 i.toNat (by omega)
          rw [show ((i.toNat : Nat) : Int) = i by omega] at q
          rw [q]; unfold txL; rw [if_pos ⟨i0, i1⟩]
        refine s155 o2 mb (fun v h2 w2 ev => ?_)
        obtain ⟨f2, g2, b2⟩ := w2
        have F2 : frP mST h h2 := f1.tr (f2.mo (fun b k q => Or.inr (Or.inr (Or.inr q))))
        have ed2 := ed1.fr f2 (by unfold mA; omega) (fun k => by unfold mA; omega)
        have kk := k h2 F2 ed2 (fun q => by
          have s := g2 q.2
          exact ⟨mBf f2 mb, s.2.2.1, s.2.2.2.1⟩)
        by_cases ok : (pread (txL (apO t n nd nc T C rn rt rs w)) (apO t n nd nc T C rn rt rs w).length).1 = true
        · rw [b2i_pos ok] at ev
          rw [b2i_pos (show apK t n nd nc T C rn rt rs w from ⟨x1.2.2, ok⟩)] at kk
          exact ⟨fun d => by omega, fun _ => ⟨Or.inr rfl, zq1 kk⟩⟩
        · rw [b2i_neg ok] at ev
          rw [b2i_neg (fun q : apK t n nd nc T C rn rt rs w => ok q.2)] at kk
          exact ⟨fun _ => ⟨Or.inl rfl, zq1 kk⟩, fun d => absurd ev d⟩
      · exact absurd c x1.1
  have key : ∀ (f j : Nat) (h1 : zH) (p : Int) (L : List Int) (u1 u4 u5 : zV), j + f = (eL (lsR t T rn rt rs) T nd w).length → 0 ≤ p → p ≤ n → frP mST h h1 → mEd h1 (eL (lsR t T rn rt rs) T nd w) (lsR t T rn rt rs) → mFl h1 L → aps t T n (cgS t nc T C rn rt rs) ((eL (lsR t T rn rt rs) T nd w).drop j) p L (if (0 : Int) < (j : Nat) then 1 else 0) = apO t n nd nc T C rn rt rs w → zK 243 19 [vR 127 111, u1, vI p, vI (j : Nat), u4, u5] [] h1 (fun r h1 => ∃ v : Int, r = some (Sum.inl v) ∧ K v h1) := by
    intro f
    induction f with
    | zero =>
      intro j h1 p L u1 u4 u5 hj p0 p1 f1 ed1 x1 ea
      have y1 := y.st g f1
      have al := aps_l (t := t) (T := T) (n := n) (G := cgS t nc T C rn rt rs) ((eL (lsR t T rn rt rs) T nd w).drop j) p L (if (0 : Int) < (j : Nat) then 1 else 0)
      rw [ea] at al
      rw [show (eL (lsR t T rn rt rs) T nd w).drop j = [] from List.drop_eq_nil_of_le (by omega), aps] at ea
      refine k243_19 u1 p _ u4 u5 h1 _ ?_
      rw [ed1.1]
      refine ⟨fun c => absurd c (by omega), fun _ => ⟨fun c => fin h1 _ _ _ _ _ f1 ed1 (x1.up c al), fun c => ⟨fun d => absurd (by omega) d, fun _ => ⟨by omega, by omega, ?_⟩⟩⟩⟩
      rw [y1.1.1]
      refine s243r g y1 ⟨p0, p1, by omega⟩ (by omega) rfl x1 (fun h2 l5 f2 x2 => ?_)
      have F2 : frP mST h h2 := f1.tr (f2.mo (fun b k q => Or.inr (Or.inr (Or.inl q))))
      have ed2 := ed1.fr f2 (by unfold bgA; omega) (fun k => by unfold bgA; omega)
      refine k243_115 u1 p _ _ _ h2 _ ?_
      rw [ed2.1]
      refine ⟨fun _ => ⟨by unfold inR; omega, k243_19 u1 p _ _ _ h2 _ ?_⟩, fun d => absurd (by omega) d⟩
      rw [ed2.1]
      refine ⟨fun _ => fin h2 _ _ _ _ _ F2 ed2 (by rw [← ea]; exact x2), fun d => absurd (by omega) d⟩
    | succ f ih =>
      intro j h1 p L u1 u4 u5 hj p0 p1 f1 ed1 x1 ea
      have y1 := y.st g f1
      have mv := hL _ (getD_m (L := eL (lsR t T rn rt rs) T nd w) (k := j) (by omega))
      have cl := cgS_l g o mv.1 mv.2
      have be := g.be mv.1.1 mv.1.2
      have e163 := ed1.2.1 j (by omega)
      have al := aps_l (t := t) (T := T) (n := n) (G := cgS t nc T C rn rt rs) ((eL (lsR t T rn rt rs) T nd w).drop j) p L (if (0 : Int) < (j : Nat) then 1 else 0)
      rw [ea] at al
      rw [drop_c (show j < (eL (lsR t T rn rt rs) T nd w).length by omega), aps] at ea
      refine k243_19 u1 p _ u4 u5 h1 _ ?_
      rw [ed1.1, e163]
      refine ⟨fun c => absurd c (by omega), fun _ => ⟨fun c => fin h1 _ _ _ _ _ f1 ed1 (x1.up c al), fun c => ⟨fun d => ⟨by omega, by omega, s158 4 (by omega) g y1 mv.1 ?_⟩, fun d => absurd (by omega) d⟩⟩⟩
      refine s243r g y1 ⟨p0, p1, by omega⟩ (by omega) rfl x1 (fun h2 l5 f2 x2 => ?_)
      have F2 : frP mST h h2 := f1.tr (f2.mo (fun b k q => Or.inr (Or.inr (Or.inl q))))
      have ed2 := ed1.fr f2 (by unfold bgA; omega) (fun k => by unfold bgA; omega)
      refine k243_115 u1 p _ _ _ h2 _ ?_
      rw [ed2.1]
      refine ⟨fun d => absurd d (by omega), fun _ => ?_⟩
      refine s235 (i := (j : Int)) g (y.st g F2) o (u.st o F2) ed2 hL l60 (by omega) (by omega) (fun h3 f3 co3 c3 => ?_)
      rw [show (((j : Nat) : Int)).toNat = j by omega] at co3
      have F3 : frP mST h h3 := F2.tr (f3.mo (fun b k q => Or.inr (Or.inl q)))
      have ed3 := ed2.cc f3
      have x3 := x2.fr f3 (by unfold mcA cwA hlA gWB gWA; omega) (fun k => by unfold mcA cwA hlA gWB gWA; omega)
      refine s243c co3 (by omega) x3 (fun h4 l5 f4 x4 => ?_)
      have F4 : frP mST h h4 := F3.tr (f4.mo (fun b k q => Or.inr (Or.inr (Or.inl q))))
      have ed4 := ed3.fr f4 (by unfold bgA; omega) (fun k => by unfold bgA; omega)
      refine k243_174 u1 _ _ _ _ h4 _ ?_
      rw [ed4.2.1 j (by omega)]
      refine ⟨by omega, by omega, s158 5 (by omega) g (y.st g F4) mv.1 ⟨by unfold inR; omega, ?_⟩⟩
      refine ih (j + 1) h4 (T ((eL (lsR t T rn rt rs) T nd w).getD j 0) 5) _ u1 _ _ (by omega) (by omega) (by omega) F4 ed4 x4 ?_
      rw [if_pos (show (0 : Int) < ((j + 1 : Nat) : Int) by omega)]; exact ea
  refine key (eL (lsR t T rn rt rs) T nd w).length 0 h15 0 [] _ _ _ (by omega) (by omega) (by omega) F15 ed15 x15 ?_
  rw [List.drop_zero, if_neg (by omega)]; rfl
end MS
