/-! The model: nodes in the order of their ends; a walk from inside. -/
/-- nodes, those with smaller ends ahead -/
def srt (T : pT) (S : List Int) : Prop := ∀ i j : Nat, i < j → j < S.length → T (S.getD i 0) 5 ≤ T (S.getD j 0) 5
section MX
variable {h : zH} {t : Int → Int} {n nd nc : Int} {T C : pT} {rn : Int → Int} {rt : Int → Int → Int} {rs : Int → pS}
theorem srt_ins {S A B : List Int} {v : Int} (s : srt T S) (e : S = A ++ B) (hA : ¬ A.length = 0 → T (S.getD (A.length - 1) 0) 5 ≤ T v 5) (hB : ∀ j : Nat, A.length ≤ j → j < S.length → T v 5 < T (S.getD j 0) 5) : srt T (A ++ v :: B) := by
  have ll : S.length = A.length + B.length := by rw [e, List.length_append]
  intro i j ij hj
  have hj : j < A.length + B.length + 1 := by simp at hj; omega
  rw [getD_ins, getD_ins, ← e]
  by_cases c1 : j < A.length
  · rw [if_pos c1, if_pos (by omega)]; exact s i j ij (by omega)
  · rw [if_neg c1]
    by_cases c2 : j = A.length
    · rw [if_pos c2, if_pos (by omega)]
      have q := hA (by omega)
      by_cases d : i = A.length - 1
      · rw [d]; exact q
      · have := s i (A.length - 1) (by omega) (by omega); omega
    · rw [if_neg c2]
      by_cases d1 : i < A.length
      · rw [if_pos d1]; exact s i (j - 1) (by omega) (by omega)
      · rw [if_neg d1]
        by_cases d2 : i = A.length
        · rw [if_pos d2]; have := hB (j - 1) (by omega) (by omega); omega
        · rw [if_neg d2]; exact s (i - 1) (j - 1) (by omega) (by omega)
/-- nodes in the order of their ends -/
def byE (T : pT) (S : List Int) (m : Int) : Prop := srt T S ∧ S.length = m.toNat ∧ ∀ x, x ∈ S ↔ (0 ≤ x ∧ x < m)
theorem s227a (g : sF t n nd nc T C) (y : mN h t n nd nc T C) {Q : Option zV → zH → Prop} (kk : ∀ h1 S u2, frP (fun b _ => b = 165) h h1 → byE T S nd → lAt h1 165 S → zK 227 73 [vR 127 111, vI 0, u2] [] h1 Q) : zK 227 2 [vR 127 111, vI 0, vU] [] h Q := by
  have hnd := g.hd
  have key : ∀ (f : Nat) (i : Int) (S : List Int) (h1 : zH) (u2 : zV), nd - i = f → 0 ≤ i → frP (fun b _ => b = 165) h h1 → byE T S i → lAt h1 165 S → zK 227 2 [vR 127 111, vI i, u2] [] h1 Q := by
    intro f
    induction f with
    | zero =>
      intro i S h1 u2 hi i0 f1 b1 a1
      have y1 : mN h1 t n nd nc T C := y.fr g.hn f1 (fun k _ _ => by omega) (by omega) (fun k => by omega)
      refine k227_2 i u2 h1 _ ⟨fun _ => kk h1 S u2 f1 (by rw [show nd = i by omega]; exact b1) a1, fun c => absurd (by rw [y1.2.1]; omega) c⟩
    | succ f ih =>
      intro i S h1 u2 hi i0 f1 b1 a1
      have y1 : mN h1 t n nd nc T C := y.fr g.hn f1 (fun k _ _ => by omega) (by omega) (fun k => by omega)
      refine k227_2 i u2 h1 _ ⟨fun c => absurd c (by rw [y1.2.1]; omega), fun _ => ?_⟩
      -- the place is found, from behind
      have ins : ∀ (p : Nat) (h2 : zH), p ≤ S.length → frP (fun b _ => b = 165) h h2 → (∀ j : Nat, j < p → gI h2 165 j = S.getD j 0) → (∀ j : Nat, p < j → j ≤ S.length → gI h2 165 j = S.getD (j - 1) 0) → (∀ j : Nat, p ≤ j → j < S.length → T i 5 < T (S.getD j 0) 5) → (¬ p = 0 → T (S.getD (p - 1) 0) 5 ≤ T i 5) → ∀ h9, h9 = sI h2 165 (p : Nat) i → ∀ u, zK 227 2 [vR 127 111, vI (i + 1), u] [] h9 Q := by
        intro p h2 hp f2 c1 c2 c3 c4 h9 e9 u
        have tl : (S.take p).length = p := by rw [List.length_take]; omega
        have e : S = S.take p ++ S.drop p := (List.take_append_drop p S).symm
        refine ih (i + 1) (S.take p ++ i :: S.drop p) h9 u (by omega) (by omega) (by rw [e9]; exact f2.st rfl) ⟨srt_ins b1.1 e (by rw [tl]; exact c4) (by rw [tl]; exact c3), ?_, fun x => ?_⟩ (fun j hj => ?_)
        · have : S.length = (S.take p).length + (S.drop p).length := by rw [← List.length_append, ← e]
          rw [List.length_append, List.length_cons]
          have := b1.2.1
          omega
        · have m := b1.2.2 x
          rw [e, List.mem_append] at m
          rw [List.mem_append, List.mem_cons]
          constructor
          · rintro (q | q | q)
            · have := m.1 (Or.inl q); omega
            · omega
            · have := m.1 (Or.inr q); omega
          · intro q
            by_cases d : x = i
            · exact Or.inr (Or.inl d)
            · rcases m.2 (by omega) with w | w
              · exact Or.inl w
              · exact Or.inr (Or.inr w)
        · have hj : j ≤ S.length := by
            have : S.length = (S.take p).length + (S.drop p).length := by rw [← List.length_append, ← e]
            simp at hj; omega
          rw [getD_ins, tl, ← e, e9, gS]
          by_cases d : j = p
          · rw [if_pos ⟨rfl, by omega⟩, if_neg (by omega), if_pos d]
          · rw [if_neg (by omega)]
            by_cases d1 : j < p
            · rw [if_pos d1]; exact c1 j d1
            · rw [if_neg d1, if_neg d]; exact c2 j (by omega) hj
      have lp : ∀ (p : Nat) (h2 : zH), p ≤ S.length → frP (fun b _ => b = 165) h h2 → (∀ j : Nat, j < p → gI h2 165 j = S.getD j 0) → (∀ j : Nat, p < j → j ≤ S.length → gI h2 165 j = S.getD (j - 1) 0) → (∀ j : Nat, p ≤ j → j < S.length → T i 5 < T (S.getD j 0) 5) → zK 227 12 [vR 127 111, vI i, vI (p : Nat)] [] h2 Q := by
        intro p
        induction p with
        | zero =>
          intro h2 hp f2 c1 c2 c3
          exact k227_12 i _ h2 Q ⟨fun _ => ⟨by omega, by omega, fun h9 e9 => ⟨by unfold inR; omega, ins 0 h2 hp f2 c1 c2 c3 (fun q => absurd rfl q) h9 e9 _⟩⟩, fun c => absurd (by omega) c⟩
        | succ p ihp =>
          intro h2 hp f2 c1 c2 c3
          have y2 : mN h2 t n nd nc T C := y.fr g.hn f2 (fun k _ _ => by omega) (by omega) (fun k => by omega)
          have ep := c1 p (by omega)
          have sl := b1.2.1
          have mp := (b1.2.2 (S.getD p 0)).1 (getD_m (by omega))
          refine k227_12 i _ h2 Q ⟨fun c => absurd c (by omega), fun _ => ⟨by unfold inR; omega, by omega, by omega, ?_⟩⟩
          rw [show ((p + 1 : Nat) : Int) - 1 = (p : Int) by omega, ep]
          refine s158 5 (by omega) g y2 ⟨mp.1, by omega⟩ (s158 5 (by omega) g y2 ⟨i0, by omega⟩ ⟨fun c => ⟨by omega, by omega, fun h9 e9 => ⟨by unfold inR; omega, ins (p + 1) h2 hp f2 c1 c2 c3 (fun _ => by rw [Nat.add_sub_cancel]; exact c) h9 e9 _⟩⟩, fun c => ⟨by unfold inR; omega, by omega, by omega, by omega, by omega, fun h13 e13 => ⟨by unfold inR; omega, ?_⟩⟩⟩)
          rw [ep] at e13
          rw [show ((p + 1 : Nat) : Int) + (-1) = (p : Int) by omega]
          refine ihp h13 (by omega) (by rw [e13]; exact f2.st rfl) (fun j hj => ?_) (fun j h0 h1' => ?_) (fun j h0 h1' => ?_)
          · rw [e13, gS, if_neg (by omega)]; exact c1 j (by omega)
          · rw [e13, gS]
            by_cases d : j = p + 1
            · subst d; rw [if_pos ⟨rfl, rfl⟩]; rfl
            · rw [if_neg (by omega)]; exact c2 j (by omega) h1'
          · by_cases d : j = p
            · subst d; omega
            · exact c3 j (by omega) h1'
      have := lp S.length h1 (Nat.le_refl _) f1 a1 (fun j h0 h1' => by omega) (fun j h0 h1' => by omega)
      rw [b1.2.1, show ((i.toNat : Nat) : Int) = i by omega] at this
      exact this
  exact key nd.toNat 0 [] h _ (by omega) (by omega) frP.rf ⟨fun i j _ hj => absurd hj (by simp), rfl, fun x => ⟨fun q => (by cases q), fun q => by omega⟩⟩ (fun k hk => absurd hk (by simp))
theorem s227 (g : sF t n nd nc T C) (y : mN h t n nd nc T C) (o : slO rn rt rs) (u : mRu h rn rt rs) (e0 : gI h 127 59 = 0) {w : Int} (hw : ¬ w = 0) {K : zH → Prop} (k : ∀ h1, frP meA h h1 → mEd h1 (eL (lsR t T rn rt rs) T nd w) (lsR t T rn rt rs) → K h1) : zC0 227 [vR 127 111] h K := by
  have hnd := g.hd
  have hz : ∀ i, 0 ≤ i → i < nd → i + T i 6 ≤ nd := fun i i0 i1 => (g.sz i0 i1).2
  have pg := g.pw.2.1.2
  refine cV (k227_0 h _ (s227a g y (fun h1 S u2 f1 b1 a1 => ?_)))
  have F1 : frP meA h h1 := f1.mo (fun b k q => Or.inr (Or.inr q))
  have sl := b1.2.1
  -- the set of those that were gone through
  have key : ∀ (f j : Nat) (h2 : zH) (u2 : zV), j + f = S.length → frP (fun b k => gWB b k ∨ edA b k) h1 h2 → mEd h2 (sel (fun x => iE (lsR t T rn rt rs) T (nd.toNat + 1) x ∧ ∃ m : Nat, m < j ∧ S.getD m 0 = x) nd.toNat 0) (lsR t T rn rt rs) → zK 227 73 [vR 127 111, vI (j : Nat), u2] [] h2 (fun r h1 => r = none ∧ K h1) := by
    intro f
    induction f with
    | zero =>
      intro j h2 u2 hj f2 e2
      have F2 : frP meA h h2 := F1.tr (f2.mo (fun b k q => by rcases q with q | q; exact Or.inl q; exact Or.inr (Or.inl q)))
      have y2 := y.W g F2
      refine k227_73 _ u2 h2 _ ⟨fun _ => zq0 (k h2 F2 ?_), fun c => absurd (by rw [y2.2.1]; omega) c⟩
      rw [show eL (lsR t T rn rt rs) T nd w = sel (fun x => iE (lsR t T rn rt rs) T (nd.toNat + 1) x ∧ ∃ m : Nat, m < j ∧ S.getD m 0 = x) nd.toNat 0 from ?_]
      · exact e2
      · refine sel_cg _ _ (fun x x0 x1 => ?_)
        unfold eP
        constructor
        · rintro (q | q)
          · exact absurd q.1 hw
          · obtain ⟨m, m1, em⟩ := mem_getD.1 ((b1.2.2 x).2 ⟨x0, by omega⟩)
            exact ⟨q.2, m, by omega, em⟩
        · exact fun q => Or.inr ⟨hw, q.1⟩
    | succ f ih =>
      intro j h2 u2 hj f2 e2
      have F2 : frP meA h h2 := F1.tr (f2.mo (fun b k q => by rcases q with q | q; exact Or.inl q; exact Or.inr (Or.inl q)))
      have y2 := y.W g F2
      have ej : gI h2 165 j = S.getD j 0 := by rw [f2.1 _ _ (by unfold gWB gWA edA; omega)]; exact a1 j (by omega)
      have mv := (b1.2.2 (S.getD j 0)).1 (getD_m (by omega))
      have sz := g.sz mv.1 mv.2
      have hl := sel_l (P := fun x => iE (lsR t T rn rt rs) T (nd.toNat + 1) x ∧ ∃ m : Nat, m < j ∧ S.getD m 0 = x) nd.toNat 0
      have hm : ∀ x, x ∈ sel (fun x => iE (lsR t T rn rt rs) T (nd.toNat + 1) x ∧ ∃ m : Nat, m < j ∧ S.getD m 0 = x) nd.toNat 0 ↔ (iE (lsR t T rn rt rs) T (nd.toNat + 1) x ∧ ∃ m : Nat, m < j ∧ S.getD m 0 = x) := by
        intro x
        rw [sel_m]
        refine ⟨fun q => q.1, fun q => ⟨q, ?_⟩⟩
        obtain ⟨m, m1, em⟩ := q.2
        have := (b1.2.2 (S.getD m 0)).1 (getD_m (by omega))
        omega
      -- what lies in a node was gone through
      have inn : ∀ x, S.getD j 0 < x → x < S.getD j 0 + T (S.getD j 0) 6 → ∃ m : Nat, m < j ∧ S.getD m 0 = x := by
        intro x x0 x1
        obtain ⟨m, m1, em⟩ := mem_getD.1 ((b1.2.2 x).2 ⟨by omega, by omega⟩)
        refine ⟨m, ?_, em⟩
        have q := ((pg (S.getD j 0) x mv.1 x0 (by omega)).2 (g.cl mv.1 mv.2)).1 x1
        apply Classical.byContradiction
        intro c
        by_cases d : m = j
        · subst d; omega
        · have := b1.1 j m (by omega) m1
          rw [em] at this
          omega
      have hs : (∃ x, x ∈ sel (fun x => iE (lsR t T rn rt rs) T (nd.toNat + 1) x ∧ ∃ m : Nat, m < j ∧ S.getD m 0 = x) nd.toNat 0 ∧ S.getD j 0 ≤ x ∧ x < S.getD j 0 + T (S.getD j 0) 6) ↔ ((∃ x, S.getD j 0 < x ∧ x < S.getD j 0 + T (S.getD j 0) 6 ∧ iE (lsR t T rn rt rs) T (nd.toNat + 1) x) ∨ (iE (lsR t T rn rt rs) T (nd.toNat + 1) (S.getD j 0) ∧ ∃ m : Nat, m < j ∧ S.getD m 0 = S.getD j 0)) := by
        constructor
        · rintro ⟨x, hx, x0, x1⟩
          have hx := (hm x).1 hx
          by_cases d : x = S.getD j 0
          · rw [d] at hx; exact Or.inr hx
          · exact Or.inl ⟨x, by omega, x1, hx.1⟩
        · rintro (⟨x, x0, x1, hx⟩ | q)
          · exact ⟨x, (hm x).2 ⟨hx, inn x x0 x1⟩, by omega, x1⟩
          · exact ⟨_, (hm _).2 q, by omega, by omega⟩
      -- nothing is added
      have no : ∀ h3 : zH, frP (fun b k => gWB b k ∨ edA b k) h1 h3 → mEd h3 (sel (fun x => iE (lsR t T rn rt rs) T (nd.toNat + 1) x ∧ ∃ m : Nat, m < j ∧ S.getD m 0 = x) nd.toNat 0) (lsR t T rn rt rs) → (iE (lsR t T rn rt rs) T (nd.toNat + 1) (S.getD j 0) → ∃ m : Nat, m < j ∧ S.getD m 0 = S.getD j 0) → zK 227 73 [vR 127 111, vI ((j : Int) + 1), vI (-1)] [] h3 (fun r h1 => r = none ∧ K h1) := by
        intro h3 f3 e3 c
        refine ih (j + 1) h3 _ (by omega) f3 ?_
        rw [show sel (fun x => iE (lsR t T rn rt rs) T (nd.toNat + 1) x ∧ ∃ m : Nat, m < j + 1 ∧ S.getD m 0 = x) nd.toNat 0 = sel (fun x => iE (lsR t T rn rt rs) T (nd.toNat + 1) x ∧ ∃ m : Nat, m < j ∧ S.getD m 0 = x) nd.toNat 0 from ?_]
        · exact e3
        · refine sel_cg _ _ (fun x _ _ => ⟨fun q => ⟨q.1, ?_⟩, fun q => ⟨q.1, ?_⟩⟩)
          · obtain ⟨q, m, m1, em⟩ := q
            by_cases d : m = j
            · subst d; rw [em] at c; exact c q
            · exact ⟨m, by omega, em⟩
          · obtain ⟨q, m, m1, em⟩ := q
            exact ⟨m, by omega, em⟩
      refine k227_73 _ u2 h2 _ ⟨fun c => absurd c (by rw [y2.2.1]; omega), fun _ => ⟨by omega, by omega, ?_⟩⟩
      rw [ej]
      have j0 : (0 : Int) ≤ (j : Nat) ∧ ((j : Nat) : Int) < 60 := by omega
      have jr : inR (((j : Nat) : Int) + 1) := by unfold inR; omega
      have jf : j + 1 + f = S.length := by omega
      refine s226 g y2 e2 (by omega) mv ⟨fun c => ⟨by omega, by omega, ?_⟩, fun c => ?_⟩
      · rw [ej]
        rw [b2i_eq0, hs] at c
        refine s223 g y2 o (u.W o F2) mv (fun h3 f3 => ?_)
        have F3 : frP (fun b k => gWB b k ∨ edA b k) h1 h3 := f2.tr (f3.mo (fun b k q => Or.inl q))
        have e3 := e2.fr f3 (by unfold gWB gWA; omega) (fun k => by unfold gWB gWA; omega)
        have ej3 : gI h3 165 j = S.getD j 0 := by rw [F3.1 _ _ (by unfold gWB gWA edA; omega)]; exact a1 j (by omega)
        refine k227_108 _ u2 _ h3 _ ⟨fun d => ⟨jr, ?_⟩, fun d => ⟨j0.1, j0.2, ?_⟩⟩
        · rw [d]
          exact no h3 F3 e3 (fun q => absurd d ((iE_e hz mv.1 mv.2).1 q).1)
        · rw [ej3]
          have il : iE (lsR t T rn rt rs) T (nd.toNat + 1) (S.getD j 0) := (iE_e hz mv.1 mv.2).2 ⟨d, fun x x0 x1 q => c (Or.inl ⟨x, x0, x1, q⟩)⟩
          have hq : ∀ x, 0 ≤ x → x < nd → ((iE (lsR t T rn rt rs) T (nd.toNat + 1) x ∧ ∃ m : Nat, m < j + 1 ∧ S.getD m 0 = x) ↔ ((iE (lsR t T rn rt rs) T (nd.toNat + 1) x ∧ ∃ m : Nat, m < j ∧ S.getD m 0 = x) ∨ x = S.getD j 0)) := by
            intro x _ _
            constructor
            · rintro ⟨q, m, m1, em⟩
              by_cases d : m = j
              · subst d; exact Or.inr em.symm
              · exact Or.inl ⟨q, m, by omega, em⟩
            · rintro (⟨q, m, m1, em⟩ | q)
              · exact ⟨q, m, by omega, em⟩
              · rw [q]; exact ⟨il, j, by omega, rfl⟩
          obtain ⟨A, B, eA, eB, hA, hB⟩ := sel_ins (P := fun x => iE (lsR t T rn rt rs) T (nd.toNat + 1) x ∧ ∃ m : Nat, m < j ∧ S.getD m 0 = x) (Q := fun x => iE (lsR t T rn rt rs) T (nd.toNat + 1) x ∧ ∃ m : Nat, m < j + 1 ∧ S.getD m 0 = x) (nd := nd) (v := S.getD j 0) mv.1 mv.2 (fun q => c (Or.inr q)) hq
          rw [eA] at e3 hl
          have hlt : (A ++ B).length < 60 := by
            clear c hs no il e0 inn hm
            have hn60 : nd.toNat ≤ 60 := by omega
            clear hl
            have l2 := sel_l (P := fun x => iE (lsR t T rn rt rs) T (nd.toNat + 1) x ∧ ∃ m : Nat, m < j + 1 ∧ S.getD m 0 = x) nd.toNat 0
            rw [eB] at l2
            rw [List.length_append, List.length_cons] at l2
            rw [List.length_append]
            omega
          refine s224 e3 hA hB hlt rfl (fun h4 f4 e4 => ⟨jr, ih (j + 1) h4 _ jf (F3.tr (f4.mo (fun b k q => Or.inr q))) ?_⟩)
          rw [eB]; exact e4
      · rw [b2i_ne0, hs] at c
        refine k227_108 _ u2 _ h2 _ ⟨fun d => ⟨jr, no h2 f2 e2 (fun q => ?_)⟩, fun d => absurd rfl d⟩
        rcases c with ⟨x, x0, x1, hx⟩ | c
        · exact absurd hx (((iE_e hz mv.1 mv.2).1 q).2 x x0 x1)
        · exact c.2
  refine key S.length 0 h1 u2 (by omega) frP.rf ?_
  have e : sel (fun x => iE (lsR t T rn rt rs) T (nd.toNat + 1) x ∧ ∃ m : Nat, m < 0 ∧ S.getD m 0 = x) nd.toNat 0 = [] := by
    rw [List.eq_nil_iff_forall_not_mem]
    intro x hx
    obtain ⟨m, m1, _⟩ := ((sel_m _ _).1 hx).1.2
    omega
  rw [e]
  exact ⟨by rw [f1.1 _ _ (by omega)]; exact e0, fun k hk => absurd hk (by simp), fun k hk => absurd hk (by simp)⟩
theorem s229 (g : sF t n nd nc T C) (y : mN h t n nd nc T C) (o : slO rn rt rs) (u : mRu h rn rt rs) {w : Int} {K : zH → Prop} (k : ∀ h1, frP meA h h1 → mEd h1 (eL (lsR t T rn rt rs) T nd w) (lsR t T rn rt rs) → K h1) : zC0 229 [vR 127 111, vI w] h K := by
  refine cV (k229_0 w h _ (fun h4 e4 => ?_))
  have f4 : frP meA h h4 := by rw [e4]; exact frP.rf.st (Or.inr (Or.inl (Or.inl ⟨rfl, rfl⟩)))
  have z4 : gI h4 127 59 = 0 := by rw [e4, gS1]
  refine ⟨fun c => s227 g (y.W g f4) o (u.W o f4) z4 c (fun h1 f1 e1 => zq0 (k h1 (f4.tr f1) e1)), fun c => s225 g (y.W g f4) o (u.W o f4) z4 (fun h1 f1 e1 => zq0 (k h1 (f4.tr f1) ?_))⟩
  have c := Classical.not_not.1 c
  rw [c, eL_o]; exact e1
end MX
