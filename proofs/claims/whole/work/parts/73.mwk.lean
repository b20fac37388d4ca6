/-! The model: a walk is laid. -/
theorem getD_ins {A B : List Int} {v : Int} (k : Nat) : (A ++ v :: B).getD k 0 = if k < A.length then (A ++ B).getD k 0 else if k = A.length then v else (A ++ B).getD (k - 1) 0 := by
  simp only [List.getD_eq_getElem?_getD]
  by_cases c : k < A.length
  · rw [if_pos c, List.getElem?_append_left c, List.getElem?_append_left c]
  · rw [if_neg c, List.getElem?_append_right (by omega)]
    by_cases d : k = A.length
    · rw [if_pos d, show k - A.length = 0 by omega]; rfl
    · rw [if_neg d, List.getElem?_append_right (by omega), show k - A.length = (k - 1 - A.length) + 1 by omega]; rfl
theorem mem_getD {L : List Int} {x : Int} : x ∈ L ↔ ∃ k : Nat, k < L.length ∧ L.getD k 0 = x := by
  constructor
  · intro h
    obtain ⟨k, hk, e⟩ := List.getElem_of_mem h
    exact ⟨k, hk, by rw [List.getD_eq_getElem?_getD, List.getElem?_eq_getElem hk]; exact e⟩
  · rintro ⟨k, hk, e⟩
    rw [← e]; exact getD_m hk
theorem sel_ins {P Q : Int → Prop} {nd v : Int} (h0 : 0 ≤ v) (h1 : v < nd) (hv : ¬ P v) (hQ : ∀ x, 0 ≤ x → x < nd → (Q x ↔ (P x ∨ x = v))) : ∃ A B, sel P nd.toNat 0 = A ++ B ∧ sel Q nd.toNat 0 = A ++ v :: B ∧ (∀ x, x ∈ A → x < v) ∧ (∀ x, x ∈ B → v < x) := by
  have e : nd.toNat = v.toNat + ((nd - v - 1).toNat + 1) := by omega
  have vv : (0 : Int) + ((v.toNat : Nat) : Int) = v := by omega
  refine ⟨sel P v.toNat 0, sel P (nd - v - 1).toNat (v + 1), ?_, ?_, fun x hx => ?_, fun x hx => ?_⟩
  · rw [e, sel_ap, vv, sel_n hv]
  · rw [e, sel_ap, vv, sel_y ((hQ v h0 h1).2 (Or.inr rfl))]
    congr 1
    · refine sel_cg _ _ (fun x x0 x1 => ?_)
      rw [hQ x (by omega) (by omega)]
      exact ⟨fun q => by rcases q with q | q; exact q; omega, Or.inl⟩
    · congr 1
      refine sel_cg _ _ (fun x x0 x1 => ?_)
      rw [hQ x (by omega) (by omega)]
      exact ⟨fun q => by rcases q with q | q; exact q; omega, Or.inl⟩
  · have := (sel_m _ _).1 hx; omega
  · have := (sel_m _ _).1 hx; omega
/-- the edits that lie ready -/
def mEd (h : zH) (L : List Int) (F : Int → Int) : Prop := gI h 127 59 = L.length ∧ lAt h 163 L ∧ ∀ k : Nat, k < L.length → gI h 164 k = F (L.getD k 0)
def edA (b : Nat) (k : Int) : Prop := (b = 127 ∧ k = 59) ∨ b = 163 ∨ b = 164
def meA (b : Nat) (k : Int) : Prop := gWB b k ∨ edA b k ∨ b = 165
section MW
variable {h : zH} {t : Int → Int} {n nd nc : Int} {T C : pT} {rn : Int → Int} {rt : Int → Int → Int} {rs : Int → pS}
theorem mEd.fr {P : Nat → Int → Prop} {h1 : zH} {L : List Int} {F : Int → Int} (e : mEd h L F) (f : frP P h h1) (d : ¬ P 127 59) (d2 : ∀ k, ¬ P 163 k ∧ ¬ P 164 k) : mEd h1 L F :=
  ⟨by rw [f.1 _ _ d]; exact e.1, fun k hk => by rw [f.1 _ _ (d2 _).1]; exact e.2.1 k hk, fun k hk => by rw [f.1 _ _ (d2 _).2]; exact e.2.2 k hk⟩
theorem mN.W {h1 : zH} (y : mN h t n nd nc T C) (g : sF t n nd nc T C) (f : frP meA h h1) : mN h1 t n nd nc T C := y.fr g.hn f (fun k _ _ => by unfold meA edA gWB gWA; omega) (by unfold meA edA gWB gWA; omega) (fun k => by unfold meA edA gWB gWA; omega)
theorem mRu.W {h1 : zH} (u : mRu h rn rt rs) (o : slO rn rt rs) (f : frP meA h h1) : mRu h1 rn rt rs := u.fr o f (fun k _ => by unfold meA edA gWB gWA; omega) (fun k => by unfold meA edA gWB gWA; omega)
theorem s223 (g : sF t n nd nc T C) (y : mN h t n nd nc T C) (o : slO rn rt rs) (u : mRu h rn rt rs) {v : Int} (hv : 0 ≤ v ∧ v < nd) {K : Int → zH → Prop} (k : ∀ h1, frP gWB h h1 → K (lsR t T rn rt rs v) h1) : zC1 223 [vR 127 111, vI v] h K := by
  have key : ∀ (f : Nat) (z : Int) (h1 : zH), 8 - z = f → 0 ≤ z → frP gWB h h1 → fst (fun x => fit t T rn rt rs x v) f z = lsR t T rn rt rs v → zK 223 2 [vR 127 111, vI v, vI z] [] h1 (fun r h1 => ∃ v : Int, r = some (Sum.inl v) ∧ K v h1) := by
    intro f
    induction f with
    | zero =>
      intro z h1 hz z0 f1 e
      refine k223_2 v z h1 _ ⟨fun _ => zq1 ?_, fun c => absurd (by omega) c⟩
      have := k h1 f1
      rw [← e] at this; exact this
    | succ f ih =>
      intro z h1 hz z0 f1 e
      have F1 := gWC_B f1
      refine k223_2 v z h1 _ ⟨fun c => absurd c (by omega), fun _ => s191b g (y.B g F1) o (u.B o F1) hv (fun h2 f2 => ⟨fun c => ⟨by unfold inR; omega, ih (z + 1) h2 (by omega) (by omega) (f1.tr f2) ?_⟩, fun c => zq1 ?_⟩)⟩
      · rw [b2i_eq0] at c
        rw [← e, fst_n (P := fun x => fit t T rn rt rs x v) c]
      · rw [b2i_ne0] at c
        have := k h2 (f1.tr f2)
        rw [← e, fst_y (P := fun x => fit t T rn rt rs x v) c] at this; exact this
  exact cI (k223_0 v h _ (key 8 0 h (by omega) (by omega) frP.rf rfl))
/-- an edit is put among the others -/
theorem s224 {A B : List Int} {F : Int → Int} {v r : Int} (e : mEd h (A ++ B) F) (hA : ∀ x, x ∈ A → x < v) (hB : ∀ x, x ∈ B → v < x) (hl : (A ++ B).length < 60) (hr : F v = r) {K : zH → Prop} (k : ∀ h1, frP edA h h1 → mEd h1 (A ++ v :: B) F → K h1) : zC0 224 [vR 127 111, vI v, vI r] h K := by
  obtain ⟨e1, e2, e3⟩ := e
  have ll : (A ++ B).length = A.length + B.length := List.length_append
  have put : ∀ h1 : zH, frP edA h h1 → gI h1 127 59 = (A ++ B).length → (∀ j : Nat, j < A.length → gI h1 163 j = (A ++ B).getD j 0 ∧ gI h1 164 j = F ((A ++ B).getD j 0)) → (∀ j : Nat, A.length < j → j ≤ (A ++ B).length → gI h1 163 j = (A ++ B).getD (j - 1) 0 ∧ gI h1 164 j = F ((A ++ B).getD (j - 1) 0)) → zK 224 55 [vR 127 111, vI v, vI r, vI (A.length : Nat)] [] h1 (fun r h1 => r = none ∧ K h1) := by
    intro h1 f1 c1 c2 c3
    refine k224_55 v r _ h1 _ ⟨by omega, by omega, fun h8 e8 => ⟨by omega, by omega, fun h9 e9 => ?_⟩⟩
    have z : gI h9 127 59 = (A ++ B).length := by rw [e9, gS, if_neg (by omega), e8, gS, if_neg (by omega)]; exact c1
    rw [z]
    refine ⟨by unfold inR; omega, fun h10 e10 => zq0 (k h10 ?_ ⟨?_, fun j hj => ?_, fun j hj => ?_⟩)⟩
    · rw [e10, e9, e8]; exact ((f1.st (Or.inr (Or.inl rfl))).st (Or.inr (Or.inr rfl))).st (Or.inl ⟨rfl, rfl⟩)
    · rw [e10, gS1]; simp; omega
    · rw [e10, gS, if_neg (by omega), e9, gS, if_neg (by omega), e8, gS, getD_ins]
      have hj : j < A.length + B.length + 1 := by simp at hj; omega
      by_cases c : j = A.length
      · rw [if_pos ⟨rfl, by omega⟩, if_neg (by omega), if_pos c]
      · rw [if_neg (by omega)]
        by_cases d : j < A.length
        · rw [if_pos d]; exact (c2 j d).1
        · rw [if_neg d, if_neg c]; exact (c3 j (by omega) (by omega)).1
    · rw [e10, gS, if_neg (by omega), e9, gS, getD_ins]
      have hj : j < A.length + B.length + 1 := by simp at hj; omega
      by_cases c : j = A.length
      · rw [if_pos ⟨rfl, by omega⟩, if_neg (by omega), if_pos c, hr]
      · rw [if_neg (by omega), e8, gS, if_neg (by omega)]
        by_cases d : j < A.length
        · rw [if_pos d]; exact (c2 j d).2
        · rw [if_neg d, if_neg c]; exact (c3 j (by omega) (by omega)).2
  have key : ∀ (f : Nat) (p : Nat) (h1 : zH), p = A.length + f → p ≤ (A ++ B).length → frP edA h h1 → gI h1 127 59 = (A ++ B).length → (∀ j : Nat, j < p → gI h1 163 j = (A ++ B).getD j 0 ∧ gI h1 164 j = F ((A ++ B).getD j 0)) → (∀ j : Nat, p < j → j ≤ (A ++ B).length → gI h1 163 j = (A ++ B).getD (j - 1) 0 ∧ gI h1 164 j = F ((A ++ B).getD (j - 1) 0)) → zK 224 5 [vR 127 111, vI v, vI r, vI (p : Nat)] [] h1 (fun r h1 => r = none ∧ K h1) := by
    intro f
    induction f with
    | zero =>
      intro p h1 hp p1 f1 c1 c2 c3
      have hp : p = A.length := by omega
      subst hp
      refine k224_5 v r _ h1 _ ⟨fun c => put h1 f1 c1 c2 c3, fun c => ⟨by unfold inR; omega, by omega, by omega, fun d => put h1 f1 c1 c2 c3, fun d => ?_⟩⟩
      exfalso
      have q := (c2 (A.length - 1) (by omega)).1
      rw [show ((A.length - 1 : Nat) : Int) = (A.length : Int) - 1 by omega] at q
      rw [q] at d
      have m : (A ++ B).getD (A.length - 1) 0 ∈ A := by
        rw [List.getD_eq_getElem?_getD, List.getElem?_append_left (by omega), ← List.getD_eq_getElem?_getD]
        exact getD_m (by omega)
      have := hA _ m
      omega
    | succ f ih =>
      intro p h1 hp p1 f1 c1 c2 c3
      have q := c2 (p - 1) (by omega)
      rw [show ((p - 1 : Nat) : Int) = (p : Int) - 1 by omega] at q
      have m : (A ++ B).getD (p - 1) 0 ∈ B := by
        rw [List.getD_eq_getElem?_getD, List.getElem?_append_right (by omega), ← List.getD_eq_getElem?_getD]
        exact getD_m (by omega)
      have hb := hB _ m
      refine k224_5 v r _ h1 _ ⟨fun c => absurd c (by omega), fun c => ⟨by unfold inR; omega, by omega, by omega, fun d => absurd d (by rw [q.1]; omega), fun d => ⟨by unfold inR; omega, by omega, by omega, by omega, by omega, fun h6 e6 => ⟨by unfold inR; omega, by omega, by omega, by omega, by omega, fun h7 e7 => ⟨by unfold inR; omega, ?_⟩⟩⟩⟩⟩
      have i6 : gI h6 164 ((p : Int) - 1) = F ((A ++ B).getD (p - 1) 0) := by rw [e6, gS, if_neg (by omega)]; exact q.2
      rw [i6] at e7
      rw [q.1] at e6
      rw [show (p : Int) + (-1) = ((p - 1 : Nat) : Int) by omega]
      refine ih (p - 1) h7 (by omega) (by omega) ?_ ?_ (fun j hj => ?_) (fun j h0 h1' => ?_)
      · rw [e7, e6]; exact (f1.st (Or.inr (Or.inl rfl))).st (Or.inr (Or.inr rfl))
      · rw [e7, gS, if_neg (by omega), e6, gS, if_neg (by omega)]; exact c1
      · rw [e7, gS, if_neg (by omega), e6, gS, if_neg (by omega), gS, if_neg (by omega), gS, if_neg (by omega)]
        exact c2 j (by omega)
      · rw [e7, gS, if_neg (by omega), e6, gS, gS]
        by_cases c : j = p
        · subst c
          rw [if_pos ⟨rfl, rfl⟩, if_pos ⟨rfl, rfl⟩]; exact ⟨rfl, rfl⟩
        · rw [if_neg (by omega), if_neg (by omega), gS, if_neg (by omega)]
          exact c3 j (by omega) h1'
  refine cV (k224_0 v r h _ ?_)
  rw [e1]
  exact key B.length _ h ll (Nat.le_refl _) frP.rf e1 (fun j hj => ⟨e2 j hj, e3 j hj⟩) (fun j h0 h1 => by omega)
theorem oF_le {F : Int → Int} : ∀ (k : Nat) (i r q : Int), r ≤ i → q ≤ i → oF F T k i r = oF F T k i q
  | 0, _, _, _, _, _ => rfl
  | k + 1, i, r, q, hr, hq => by
    unfold oF
    by_cases c : F i = -1
    · rw [if_neg (fun d => d.2 c), if_neg (fun d => d.2 c)]
      exact oF_le k (i + 1) r q (by omega) (by omega)
    · rw [if_pos ⟨hr, c⟩, if_pos ⟨hq, c⟩]
theorem s225 (g : sF t n nd nc T C) (y : mN h t n nd nc T C) (o : slO rn rt rs) (u : mRu h rn rt rs) (e0 : gI h 127 59 = 0) {K : zH → Prop} (k : ∀ h1, frP meA h h1 → mEd h1 (oF (lsR t T rn rt rs) T nd.toNat 0 0) (lsR t T rn rt rs) → K h1) : zC0 225 [vR 127 111] h K := by
  have hnd := g.hd
  have key : ∀ (f : Nat) (i : Int) (A : List Int) (h1 : zH) (u2 : zV), nd - i ≤ f → 0 ≤ i → i ≤ nd → frP meA h h1 → mEd h1 A (lsR t T rn rt rs) → (∀ x, x ∈ A → x < i) → A.length ≤ i → (∀ h2, frP meA h h2 → mEd h2 (A ++ oF (lsR t T rn rt rs) T (nd - i).toNat i i) (lsR t T rn rt rs) → K h2) → zK 225 2 [vR 127 111, vI i, u2] [] h1 (fun r h1 => r = none ∧ K h1) := by
    intro f
    induction f with
    | zero =>
      intro i A h1 u2 hi i0 i1 f1 e1 hA al kk
      have y1 := y.W g f1
      refine k225_2 i u2 h1 _ ⟨fun _ => zq0 (kk h1 f1 ?_), fun c => absurd (by rw [y1.2.1]; omega) c⟩
      rw [show (nd - i).toNat = 0 by omega, oF, List.append_nil]; exact e1
    | succ f ih =>
      intro i A h1 u2 hi i0 i1 f1 e1 hA al kk
      have y1 := y.W g f1
      by_cases cd : nd ≤ i
      · refine k225_2 i u2 h1 _ ⟨fun _ => zq0 (kk h1 f1 ?_), fun c => absurd (by rw [y1.2.1]; omega) c⟩
        rw [show (nd - i).toNat = 0 by omega, oF, List.append_nil]; exact e1
      · have sz := g.sz i0 (show i < nd by omega)
        obtain ⟨m, hm⟩ : ∃ m : Nat, (nd - i).toNat = m + 1 := ⟨(nd - i).toNat - 1, by omega⟩
        rw [hm, oF] at kk
        refine k225_2 i u2 h1 _ ⟨fun c => absurd c (by rw [y1.2.1]; omega), fun _ => s223 g y1 o (u.W o f1) ⟨i0, by omega⟩ (fun h4 f4 => ?_)⟩
        have F4 : frP meA h h4 := f1.tr (f4.mo (fun b k q => Or.inl q))
        have e4 := e1.fr f4 (by unfold gWB gWA; omega) (fun k => by unfold gWB gWA; omega)
        refine ⟨fun c => ?_, fun c => ⟨by unfold inR; omega, ?_⟩⟩
        · rw [if_pos ⟨Int.le_refl _, c⟩] at kk
          have := s224 (h := h4) (A := A) (B := []) (v := i) (F := lsR t T rn rt rs) (r := lsR t T rn rt rs i) (K := fun h5 => zC1 158 [vR 127 111, vI i, vI 6] h5 (fun v6 h6 => (inR (i + v6)) ∧ zK 225 2 [vR 127 111, vI (i + v6), vI (lsR t T rn rt rs i)] [] h6 (fun r h1 => r = none ∧ K h1))) (by rw [List.append_nil]; exact e4) hA (fun x hx => by cases hx) (by rw [List.append_nil]; omega) rfl (fun h5 f5 e5 => ?_)
          · exact this
          · have F5 : frP meA h h5 := F4.tr (f5.mo (fun b k q => Or.inr (Or.inl q)))
            refine s158 6 (by omega) g (y.W g F5) ⟨i0, by omega⟩ ⟨by unfold inR; omega, ih (i + T i 6) (A ++ [i]) h5 _ (by omega) (by omega) (by omega) F5 e5 (fun x hx => ?_) ?_ (fun h2 f2 e2 => kk h2 f2 ?_)⟩
            · rcases List.mem_append.1 hx with q | q
              · have := hA x q; omega
              · have : x = i := by simpa using q
                omega
            · rw [List.length_append]; show ((A.length + 1 : Nat) : Int) ≤ _; omega
            · have sk := oF_sk (F := lsR t T rn rt rs) (T := T) (T i 6 - 1).toNat (nd - (i + T i 6)).toNat (i + 1) (i + T i 6) (by omega)
              rw [show (T i 6 - 1).toNat + (nd - (i + T i 6)).toNat = m by omega] at sk
              rw [sk]
              rw [List.append_assoc] at e2; exact e2
        · have c := Classical.not_not.1 c
          rw [if_neg (fun q => q.2 c), oF_le m (i + 1) i (i + 1) (by omega) (by omega)] at kk
          refine ih (i + 1) A h4 _ (by omega) (by omega) (by omega) F4 e4 (fun x hx => by have := hA x hx; omega) (by omega) (fun h2 f2 e2 => kk h2 f2 ?_)
          rw [show (nd - (i + 1)).toNat = m by omega] at e2; exact e2
  refine cV (k225_0 h _ (key nd.toNat 0 [] h _ (by omega) (by omega) (by omega) frP.rf ⟨e0, fun k hk => absurd hk (by simp), fun k hk => absurd hk (by simp)⟩ (fun x hx => by cases hx) (by simp) (fun h2 f2 e2 => k h2 f2 ?_)))
  rw [show (nd - 0).toNat = nd.toNat by omega, List.nil_append] at e2; exact e2
/-- a node that has an edit in it -/
theorem s226 {L : List Int} {F : Int → Int} (g : sF t n nd nc T C) (y : mN h t n nd nc T C) (e : mEd h L F) (hl : L.length ≤ 60) {v : Int} (hv : 0 ≤ v ∧ v < nd) {K : Int → zH → Prop} (k : K (b2i (∃ x, x ∈ L ∧ v ≤ x ∧ x < v + T v 6)) h) : zC1 226 [vR 127 111, vI v] h K := by
  have hnd := g.hd
  have sz := g.sz hv.1 hv.2
  have key : ∀ (f j : Nat) (c : Prop), j + f = L.length → ((c ∨ ∃ m : Nat, j ≤ m ∧ m < L.length ∧ v ≤ L.getD m 0 ∧ L.getD m 0 < v + T v 6) ↔ (∃ x, x ∈ L ∧ v ≤ x ∧ x < v + T v 6)) → zK 226 4 [vR 127 111, vI v, vI (b2i c), vI (j : Nat)] [] h (fun r h1 => ∃ v : Int, r = some (Sum.inl v) ∧ K v h1) := by
    intro f
    induction f with
    | zero =>
      intro j c hj hc
      refine k226_4 v _ j h _ ?_
      rw [e.1]
      refine ⟨fun _ => ⟨b2i_01, zq1 ?_⟩, fun d => absurd (by omega) d⟩
      rw [← b2i_congr hc] at k
      rwa [b2i_congr (show (c ∨ ∃ m : Nat, j ≤ m ∧ m < L.length ∧ v ≤ L.getD m 0 ∧ L.getD m 0 < v + T v 6) ↔ c from ⟨fun q => by rcases q with q | ⟨m, m0, m1, _⟩; exact q; omega, Or.inl⟩)] at k
    | succ f ih =>
      intro j c hj hc
      have el := e.2.1 j (by omega)
      -- the step
      have st : ∀ (c' : Prop), (c' ↔ (c ∨ (v ≤ L.getD j 0 ∧ L.getD j 0 < v + T v 6))) → zK 226 4 [vR 127 111, vI v, vI (b2i c'), vI ((j : Int) + 1)] [] h (fun r h1 => ∃ v : Int, r = some (Sum.inl v) ∧ K v h1) := by
        intro c' hc'
        refine ih (j + 1) c' (by omega) ?_
        rw [hc', ← hc]
        constructor
        · rintro ((q | q) | ⟨m, m0, m1, q⟩)
          · exact Or.inl q
          · exact Or.inr ⟨j, by omega, by omega, q⟩
          · exact Or.inr ⟨m, by omega, m1, q⟩
        · rintro (q | ⟨m, m0, m1, q⟩)
          · exact Or.inl (Or.inl q)
          · by_cases d : m = j
            · subst d; exact Or.inl (Or.inr q)
            · exact Or.inr ⟨m, by omega, m1, q⟩
      refine k226_4 v _ j h _ ?_
      rw [e.1, el]
      refine ⟨fun d => absurd d (by omega), fun _ => ⟨fun d => ⟨by unfold inR; omega, ?_⟩, fun d => ⟨by omega, by omega, fun d1 => ⟨by unfold inR; omega, ?_⟩, fun d1 => ⟨by omega, by omega, s158 6 (by omega) g y hv ⟨by unfold inR; omega, fun d2 => ⟨by unfold inR; omega, ?_⟩, fun d2 => ⟨by unfold inR; omega, ?_⟩⟩⟩⟩⟩⟩
      · rw [b2i_ne0] at d
        have := st True ⟨fun _ => Or.inl d, fun _ => trivial⟩
        rwa [b2i_pos trivial] at this
      · have d := Classical.not_not.1 d
        rw [b2i_eq0] at d
        have := st False ⟨fun q => q.elim, fun q => by rcases q with q | q; exact d q; omega⟩
        rwa [b2i_neg (fun q => q)] at this
      · have d := Classical.not_not.1 d
        rw [b2i_eq0] at d
        have := st False ⟨fun q => q.elim, fun q => by rcases q with q | q; exact d q; omega⟩
        rwa [b2i_neg (fun q => q)] at this
      · have := st True ⟨fun _ => Or.inr ⟨by omega, by omega⟩, fun _ => trivial⟩
        rwa [b2i_pos trivial] at this
  have := key L.length 0 False (by omega) ⟨fun q => ?_, fun q => ?_⟩
  · rw [b2i_neg (fun q => q)] at this
    exact cI (k226_0 v h _ this)
  · rcases q with q | ⟨m, m0, m1, q⟩
    · exact q.elim
    · exact ⟨_, getD_m m1, q⟩
  · obtain ⟨x, hx, q⟩ := q
    obtain ⟨m, m1, em⟩ := mem_getD.1 hx
    exact Or.inr ⟨m, by omega, m1, by rw [em]; exact q⟩
end MW
