/-! conflicts: the same answers. -/
theorem allO : (Int32.ofInt (-1)).toBitVec = BitVec.allOnes 32 := by decide
theorem bAx (f b c : Int) : iAnd (iAnd f (iXor b (-1))) (iXor c (-1)) = iAnd f (iXor (iOr b c) (-1)) := by
  unfold iAnd iXor iOr
  rw [Int32.ofInt_toInt, Int32.ofInt_toInt, Int32.ofInt_toInt, Int32.ofInt_toInt, Int32.ofInt_toInt]
  congr 1
  apply Int32.toBitVec_inj.1
  rw [Int32.toBitVec_and, Int32.toBitVec_and, Int32.toBitVec_and, Int32.toBitVec_xor, Int32.toBitVec_xor, Int32.toBitVec_xor, Int32.toBitVec_or, allO]
  apply BitVec.eq_of_getLsbD_eq
  intro i hi
  simp only [BitVec.getLsbD_and, BitVec.getLsbD_xor, BitVec.getLsbD_or, BitVec.getLsbD_allOnes, hi, decide_true]
  cases (Int32.ofInt f).toBitVec.getLsbD i <;> cases (Int32.ofInt b).toBitVec.getLsbD i <;> cases (Int32.ofInt c).toBitVec.getLsbD i <;> rfl
theorem bA0 (z : Int32) : iAnd z.toInt (iXor 0 (-1)) = z.toInt := by
  unfold iAnd iXor
  rw [Int32.ofInt_toInt, Int32.ofInt_toInt]
  congr 1
  apply Int32.toBitVec_inj.1
  rw [Int32.toBitVec_and, Int32.toBitVec_xor, allO]
  apply BitVec.eq_of_getLsbD_eq
  intro i hi
  have h0 : (Int32.ofInt 0).toBitVec = 0#32 := by decide
  rw [h0]
  simp only [BitVec.getLsbD_and, BitVec.getLsbD_xor, BitVec.getLsbD_allOnes, hi, decide_true]
  cases z.toBitVec.getLsbD i <;> simp
theorem fOr_z (B : Int → Int) : ∀ (k : Nat) (i a : Int), (∃ z : Int32, a = z.toInt) → ∃ z : Int32, fOr B k i a = z.toInt
  | 0, _, _, h => h
  | k + 1, i, a, _ => fOr_z B k (i + 1) _ ⟨_, rfl⟩
theorem fold_x (G : Int → Int) : ∀ (L : List Int) (f b : Int), L.foldl (fun a v => iAnd a (iXor (G v) (-1))) (iAnd f (iXor b (-1))) = iAnd f (iXor (L.foldl (fun a v => iOr a (G v)) b) (-1))
  | [], _, _ => rfl
  | v :: L, f, b => by
    rw [List.foldl_cons, List.foldl_cons, bAx]
    exact fold_x G L f (iOr b (G v))
section CF
variable {h : zH} {t : Int → Int} {n nd nc : Int} {T C : pT} {rn : Int → Int} {rt : Int → Int → Int} {rs : Int → pS} {a : Nat}
theorem ftB_V (v : Int) : ∃ V : Nat, ftB t T rn rt rs v = V ∧ V < 67108864 := by
  obtain ⟨V, e, hV, _⟩ := bts_8 (fun x => fit t T rn rt rs x v)
  exact ⟨V, e, by omega⟩
theorem eL_sel {w : Int} (hn : 0 ≤ nd) : sel (fun v => v ∈ eL (lsR t T rn rt rs) T nd w) nd.toNat 0 = eL (lsR t T rn rt rs) T nd w := by
  have : eL (lsR t T rn rt rs) T nd w = sel (eP (lsR t T rn rt rs) T nd w) nd.toNat 0 := rfl
  conv => rhs; rw [this]
  refine sel_cg _ _ (fun v v0 v1 => ?_)
  rw [eL_m hn]
  exact ⟨fun q => q.1, fun q => ⟨q, by omega, by omega⟩⟩
theorem s21 {w q : Int} (g : sF t n nd nc T C) (y : xU h a t n nd nc T C) (ha : a + 16 ≤ 53) (o : slO rn rt rs) (u : xRu h 53 rn rt rs) {K : Int → zH → Prop} (k : ∀ h1, frX xAA fiR h h1 → K (aCon t nd T rn rt rs w q) h1) : zC1 21 [vR 2 100, vI w, vI q] h K := by
  have hnd := g.hd
  unfold aCon at k
  refine cI (k21_0 w q h _ (s32 ⟨fun c => zq1 ?_, fun c => ⟨fun d => zq1 ?_, fun d => ⟨fun d1 => ?_, fun d1 => zq1 ?_⟩⟩⟩))
  · rw [b2i_eq0] at c
    have := k h frX.rf
    rwa [if_neg (fun z => c z.1)] at this
  · have := k h frX.rf
    rwa [if_neg (by omega)] at this
  · rw [b2i_ne0] at c
    rw [if_pos ⟨c, by omega, d1⟩] at k
    rw [y.1]
    refine ⟨y.2.1, s118 g y.2.2 y.2.1 ha o u (fun h5 f5 xw => ?_)⟩
    have F5 := wk_aa f5
    have y5 := y.aa ha F5
    have k := k h5 F5
    have es := eL_sel (t := t) (T := T) (rn := rn) (rt := rt) (rs := rs) (w := w) (nd := nd) (by omega)
    have key : ∀ (f : Nat) (v l3 l4 l5 l6 : Int) (u8 : zV), nd - v = f → 0 ≤ v → 0 ≤ l3 → l3 ≤ v → 0 ≤ l4 → l4 ≤ v →
        K (if q = 0 then l3 + cnt (fun v => ¬ ftB t T rn rt rs v = 0 ∧ ¬ v ∈ eL (lsR t T rn rt rs) T nd w) f v else if q = 1 then l4 + cnt (fun v => 1 < pcN 26 (ftB t T rn rt rs v).toNat ∧ v ∈ eL (lsR t T rn rt rs) T nd w) f v else iAnd (fOr (ftB t T rn rt rs) f v l5) (iXor ((sel (fun v => v ∈ eL (lsR t T rn rt rs) T nd w) f v).foldl (fun a v => iOr a (iShl 1 (lsR t T rn rt rs v))) l6) (-1))) h5 → zK 21 52 [vR 2 100, vI w, vI q, vI l3, vI l4, vI l5, vI l6, vI v, u8] [] h5 (fun r h1 => ∃ v : Int, r = some (Sum.inl v) ∧ K v h1) := by
      intro f
      induction f with
      | zero =>
        intro v l3 l4 l5 l6 u8 hv v0 _ _ _ _ kk
        refine k21_52 (vI w) q l3 l4 l5 l6 v u8 h5 _ ?_
        rw [y5.1, y5.2.2.2.1]
        refine ⟨y5.2.1, fun _ => ⟨fun e => ⟨fun e1 => zq1 ?_, fun e1 => zq1 ?_⟩, fun e => zq1 ?_⟩, fun e => absurd (by omega) e⟩
        · rw [if_neg e, if_neg e1] at kk; exact kk
        · rw [if_neg e, if_pos (Classical.not_not.1 e1), cnt, Int.add_zero] at kk; exact kk
        · rw [if_pos (Classical.not_not.1 e), cnt, Int.add_zero] at kk; exact kk
      | succ f ih =>
        intro v l3 l4 l5 l6 u8 hv v0 a1 a2 a3 a4 kk
        have xv := xw.2.2 v v0 (by omega)
        obtain ⟨V, eV, hV⟩ := ftB_V (t := t) (T := T) (rn := rn) (rt := rt) (rs := rs) v
        have rg := lsR_rg (t := t) (T := T) (rn := rn) (rt := rt) (rs := rs) (v := v)
        refine k21_52 (vI w) q l3 l4 l5 l6 v u8 h5 _ ?_
        rw [y5.1, y5.2.2.2.1, xv.1, xv.2]
        by_cases m : v ∈ eL (lsR t T rn rt rs) T nd w
        · have ne : ¬ lsR t T rn rt rs v = -1 := (eL_h (by omega) v m).2
          rw [if_pos m]
          rw [cnt_n (P := fun v => ¬ ftB t T rn rt rs v = 0 ∧ ¬ v ∈ eL (lsR t T rn rt rs) T nd w) (fun z => z.2 m), sel_y (P := fun v => v ∈ eL (lsR t T rn rt rs) T nd w) m, List.foldl_cons, fOr] at kk
          refine ⟨y5.2.1, fun e => absurd e (by omega), fun _ => ⟨v0, by omega, v0, by omega, fun e => absurd e ne, fun _ => ⟨v0, by omega, ?_⟩⟩⟩
          rw [eV]
          refine s258 hV ⟨fun e => ⟨by unfold inR; omega, by unfold inR; omega, ?_⟩, fun e => ⟨by unfold inR; omega, by unfold inR; omega, ?_⟩⟩
          · rw [Int.add_zero]
            refine ih (v + 1) l3 l4 _ _ _ (by omega) (by omega) a1 (by omega) a3 (by omega) ?_
            rw [cnt_n (P := fun v => 1 < pcN 26 (ftB t T rn rt rs v).toNat ∧ v ∈ eL (lsR t T rn rt rs) T nd w) (fun z => by have := z.1; rw [eV, Int.toNat_natCast] at this; omega)] at kk
            rw [← eV]; exact kk
          · refine ih (v + 1) l3 (l4 + 1) _ _ _ (by omega) (by omega) a1 (by omega) (by omega) (by omega) ?_
            rw [cnt_y (P := fun v => 1 < pcN 26 (ftB t T rn rt rs v).toNat ∧ v ∈ eL (lsR t T rn rt rs) T nd w) ⟨by rw [eV, Int.toNat_natCast]; omega, m⟩] at kk
            rw [← eV, Int.add_assoc]; exact kk
        · rw [if_neg m]
          rw [cnt_n (P := fun v => 1 < pcN 26 (ftB t T rn rt rs v).toNat ∧ v ∈ eL (lsR t T rn rt rs) T nd w) (fun z => m z.2), sel_n (P := fun v => v ∈ eL (lsR t T rn rt rs) T nd w) m, fOr] at kk
          refine ⟨y5.2.1, fun e => absurd e (by omega), fun _ => ⟨v0, by omega, v0, by omega, fun _ => ⟨fun e => ⟨by unfold inR; omega, ?_⟩, fun e => ⟨by unfold inR; omega, by unfold inR; omega, ?_⟩⟩, fun e => absurd rfl e⟩⟩
          · refine ih (v + 1) l3 l4 _ _ _ (by omega) (by omega) a1 (by omega) a3 (by omega) ?_
            rw [cnt_n (P := fun v => ¬ ftB t T rn rt rs v = 0 ∧ ¬ v ∈ eL (lsR t T rn rt rs) T nd w) (fun z => z.1 e)] at kk
            exact kk
          · refine ih (v + 1) (l3 + 1) l4 _ _ _ (by omega) (by omega) (by omega) (by omega) a3 (by omega) ?_
            rw [cnt_y (P := fun v => ¬ ftB t T rn rt rs v = 0 ∧ ¬ v ∈ eL (lsR t T rn rt rs) T nd w) ⟨e, m⟩] at kk
            rw [Int.add_assoc]; exact kk
    refine key nd.toNat 0 0 0 0 0 _ (by omega) (by omega) (by omega) (by omega) (by omega) (by omega) ?_
    rw [Int.zero_add, Int.zero_add, es]; exact k
  · have := k h frX.rf
    rwa [if_neg (by omega)] at this
theorem s239 {L : List Int} {F : Int → Int} {v : Int} (e : mEd h L F) (hl : L.length ≤ 60) {K : Int → zH → Prop} (k : K (b2i (v ∈ L)) h) : zC1 239 [vR 127 111, vI v] h K := by
  have key : ∀ (f j : Nat) (c : Prop), j + f = L.length → ((c ∨ ∃ m : Nat, j ≤ m ∧ m < L.length ∧ L.getD m 0 = v) ↔ v ∈ L) → zK 239 4 [vR 127 111, vI v, vI (b2i c), vI (j : Nat)] [] h (fun r h1 => ∃ v : Int, r = some (Sum.inl v) ∧ K v h1) := by
    intro f
    induction f with
    | zero =>
      intro j c hj hc
      refine k239_4 v _ j h _ ?_
      rw [e.1]
      refine ⟨fun _ => ⟨b2i_01, zq1 ?_⟩, fun d => absurd (by omega) d⟩
      rw [← b2i_congr hc] at k
      rwa [b2i_congr (show (c ∨ ∃ m : Nat, j ≤ m ∧ m < L.length ∧ L.getD m 0 = v) ↔ c from ⟨fun q => by rcases q with q | ⟨m, m0, m1, _⟩; exact q; omega, Or.inl⟩)] at k
    | succ f ih =>
      intro j c hj hc
      have el := e.2.1 j (by omega)
      have st : ∀ (c' : Prop), (c' ↔ (c ∨ L.getD j 0 = v)) → zK 239 4 [vR 127 111, vI v, vI (b2i c'), vI ((j : Int) + 1)] [] h (fun r h1 => ∃ v : Int, r = some (Sum.inl v) ∧ K v h1) := by
        intro c' hc'
        refine ih (j + 1) c' (by omega) ?_
        rw [hc', ← hc]
        constructor
        · rintro ((q | q) | ⟨m, m0, m1, q⟩)
          · exact Or.inl q
          · exact Or.inr ⟨j, by omega, by omega, q⟩
          · exact Or.inr ⟨m, by omega, m1, q⟩
        · rintro (q | ⟨m, m0, m1, q⟩)
          · exact Or.inl (Or.inl q)
          · by_cases d : m = j
            · subst d; exact Or.inl (Or.inr q)
            · exact Or.inr ⟨m, by omega, m1, q⟩
      refine k239_4 v _ j h _ ?_
      rw [e.1, el]
      refine ⟨fun d => absurd d (by omega), fun _ => ⟨fun d => ⟨by unfold inR; omega, ?_⟩, fun d => ⟨by omega, by omega, fun d1 => ⟨by unfold inR; omega, ?_⟩, fun d1 => ⟨by unfold inR; omega, ?_⟩⟩⟩⟩
      · rw [b2i_ne0] at d
        have := st True ⟨fun _ => Or.inl d, fun _ => trivial⟩
        rwa [b2i_pos trivial] at this
      · have d := Classical.not_not.1 d
        rw [b2i_eq0] at d
        have := st False ⟨fun q => q.elim, fun q => by rcases q with q | q; exact d q; exact d1 q⟩
        rwa [b2i_neg (fun q => q)] at this
      · have := st True ⟨fun _ => Or.inr (Classical.not_not.1 d1), fun _ => trivial⟩
        rwa [b2i_pos trivial] at this
  have := key L.length 0 False (by omega) ⟨fun q => ?_, fun q => ?_⟩
  · rw [b2i_neg (fun q => q)] at this
    exact cI (k239_0 v h _ this)
  · rcases q with q | ⟨m, m0, m1, q⟩
    · exact q.elim
    · rw [← q]; exact getD_m m1
  · obtain ⟨m, m1, em⟩ := mem_getD.1 q
    exact Or.inr ⟨m, by omega, m1, em⟩
theorem s240 {w q : Int} (g : sF t n nd nc T C) (y : mN h t n nd nc T C) (o : slO rn rt rs) (u : mRu h rn rt rs) {K : Int → zH → Prop} (k : ∀ h1, frP mAA h h1 → K (aCon t nd T rn rt rs w q) h1) : zC1 240 [vR 127 111, vI w, vI q] h K := by
  have hnd := g.hd
  have l60 := eL_60 (rn := rn) (rt := rt) (rs := rs) (w := w) g
  unfold aCon at k
  refine cI (k240_0 w q h _ (fun h9 e9 => ?_))
  have f9 : frP mAA h h9 := by rw [e9]; exact frP.rf.st (Or.inr (Or.inr ⟨rfl, rfl⟩))
  refine s228 ⟨fun c => zq1 ?_, fun c => s141 ⟨fun d => ?_, fun d => zq1 ?_⟩⟩
  · rw [b2i_eq0] at c
    have := k h9 f9
    rwa [if_neg (fun z => c z.1)] at this
  · rw [b2i_ne0] at c d
    rw [if_pos ⟨c, d⟩] at k
    refine s229 g (y.aa g f9) o (u.aa o f9) (fun h12 f12 e12 => ?_)
    have F12 : frP mAA h h12 := f9.tr (f12.mo (fun b k q => Or.inl q))
    -- behind the nodes
    have fin : ∀ (l3 l4 : Int) (h1 : zH) (u7 : zV), frP mAA h h1 → mEd h1 (eL (lsR t T rn rt rs) T nd w) (lsR t T rn rt rs) → K (if q = 0 then l3 else if q = 1 then l4 else iAnd (fOr (ftB t T rn rt rs) nd.toNat 0 0) (iXor ((eL (lsR t T rn rt rs) T nd w).foldl (fun a v => iOr a (iShl 1 (lsR t T rn rt rs v))) 0) (-1))) h1 → zK 240 126 [vR 127 111, vI w, vI q, vI l3, vI l4, vI (fOr (ftB t T rn rt rs) nd.toNat 0 0), vI 0, u7] [] h1 (fun r h1 => ∃ v : Int, r = some (Sum.inl v) ∧ K v h1) := by
      intro l3 l4 h1 u7 f1 e1 kk
      have lp : ∀ (f j : Nat) (x : Int), j + f = (eL (lsR t T rn rt rs) T nd w).length → ((eL (lsR t T rn rt rs) T nd w).drop j).foldl (fun a v => iAnd a (iXor (iShl 1 (lsR t T rn rt rs v)) (-1))) x = iAnd (fOr (ftB t T rn rt rs) nd.toNat 0 0) (iXor ((eL (lsR t T rn rt rs) T nd w).foldl (fun a v => iOr a (iShl 1 (lsR t T rn rt rs v))) 0) (-1)) → zK 240 126 [vR 127 111, vI w, vI q, vI l3, vI l4, vI x, vI (j : Nat), u7] [] h1 (fun r h1 => ∃ v : Int, r = some (Sum.inl v) ∧ K v h1) := by
        intro f
        induction f with
        | zero =>
          intro j x hj ex
          rw [List.drop_eq_nil_of_le (by omega)] at ex
          have ex : x = _ := ex
          refine k240_126 (vI w) q l3 l4 x _ u7 h1 _ ?_
          rw [e1.1]
          refine ⟨fun _ => ⟨fun z => ⟨fun z1 => zq1 ?_, fun z1 => zq1 ?_⟩, fun z => zq1 ?_⟩, fun z => absurd (by omega) z⟩
          · rw [if_neg z, if_neg z1] at kk
            rw [ex]; exact kk
          · rw [if_neg z, if_pos (Classical.not_not.1 z1)] at kk; exact kk
          · rw [if_pos (Classical.not_not.1 z)] at kk; exact kk
        | succ f ih =>
          intro j x hj ex
          have e4 := e1.2.2 j (by omega)
          rw [drop_c (show j < (eL (lsR t T rn rt rs) T nd w).length by omega), List.foldl_cons] at ex
          refine k240_126 (vI w) q l3 l4 x _ u7 h1 _ ?_
          rw [e1.1, e4]
          exact ⟨fun z => absurd z (by omega), fun _ => ⟨by omega, by omega, by unfold inR; omega, ih (j + 1) _ (by omega) ex⟩⟩
      have e0 : fOr (ftB t T rn rt rs) nd.toNat 0 0 = iAnd (fOr (ftB t T rn rt rs) nd.toNat 0 0) (iXor 0 (-1)) := by
        obtain ⟨z, ez⟩ := fOr_z (ftB t T rn rt rs) nd.toNat 0 0 ⟨0, rfl⟩
        rw [ez, bA0]
      refine lp (eL (lsR t T rn rt rs) T nd w).length 0 _ (by omega) ?_
      rw [List.drop_zero]
      have fx := fold_x (fun v => iShl 1 (lsR t T rn rt rs v)) (eL (lsR t T rn rt rs) T nd w) (fOr (ftB t T rn rt rs) nd.toNat 0 0) 0
      rw [← e0] at fx
      exact fx
    have key : ∀ (f : Nat) (v l3 l4 l5 : Int) (h1 : zH) (u7 : zV), nd - v = f → 0 ≤ v → 0 ≤ l3 → l3 ≤ v → 0 ≤ l4 → l4 ≤ v → frP mAA h h1 → mEd h1 (eL (lsR t T rn rt rs) T nd w) (lsR t T rn rt rs) → fOr (ftB t T rn rt rs) f v l5 = fOr (ftB t T rn rt rs) nd.toNat 0 0 →
        (∀ h2, frP mAA h h2 → K (if q = 0 then l3 + cnt (fun v => ¬ ftB t T rn rt rs v = 0 ∧ ¬ v ∈ eL (lsR t T rn rt rs) T nd w) f v else if q = 1 then l4 + cnt (fun v => 1 < pcN 26 (ftB t T rn rt rs v).toNat ∧ v ∈ eL (lsR t T rn rt rs) T nd w) f v else iAnd (fOr (ftB t T rn rt rs) nd.toNat 0 0) (iXor ((eL (lsR t T rn rt rs) T nd w).foldl (fun a v => iOr a (iShl 1 (lsR t T rn rt rs v))) 0) (-1))) h2) → zK 240 42 [vR 127 111, vI w, vI q, vI l3, vI l4, vI l5, vI v, u7] [] h1 (fun r h1 => ∃ v : Int, r = some (Sum.inl v) ∧ K v h1) := by
      intro f
      induction f with
      | zero =>
        intro v l3 l4 l5 h1 u7 hv v0 _ _ _ _ f1 e1 eo kk
        have y1 := y.aa g f1
        have eo : l5 = _ := eo
        rw [eo]
        refine k240_42 (vI w) q l3 l4 _ v u7 h1 _ ⟨fun _ => fin l3 l4 h1 _ f1 e1 ?_, fun z => absurd (by rw [y1.2.1]; omega) z⟩
        have := kk h1 f1
        rw [cnt, cnt, Int.add_zero, Int.add_zero] at this; exact this
      | succ f ih =>
        intro v l3 l4 l5 h1 u7 hv v0 a1 a2 a3 a4 f1 e1 eo kk
        have y1 := y.aa g f1
        obtain ⟨V, eV, hV⟩ := ftB_V (t := t) (T := T) (rn := rn) (rt := rt) (rs := rs) v
        rw [fOr] at eo
        refine k240_42 (vI w) q l3 l4 l5 v u7 h1 _ ⟨fun z => absurd z (by rw [y1.2.1]; omega), fun _ => s195 g y1 o (u.aa o f1) ⟨v0, by omega⟩ (fun h13 f13 => ?_)⟩
        have F13 : frP mAA h h13 := f1.tr (f13.mo (fun b k q => Or.inl (Or.inl q)))
        have e13 := e1.fr f13 (by unfold gWB gWA; omega) (fun k => by unfold gWB gWA; omega)
        have bq : bts (fun x => fit t T rn rt rs x v) 8 0 0 = ftB t T rn rt rs v := rfl
        rw [bq]
        -- behind what is left
        have sev : ∀ (s0 : Int), ((s0 = 1 ∧ ¬ ftB t T rn rt rs v = 0 ∧ ¬ v ∈ eL (lsR t T rn rt rs) T nd w) ∨ (s0 = 0 ∧ ¬ (¬ ftB t T rn rt rs v = 0 ∧ ¬ v ∈ eL (lsR t T rn rt rs) T nd w))) → zK 240 86 [vR 127 111, vI w, vI q, vI l3, vI l4, vI (iOr l5 (ftB t T rn rt rs v)), vI v, vI (ftB t T rn rt rs v)] [vI s0, vI l3] h13 (fun r h1 => ∃ v : Int, r = some (Sum.inl v) ∧ K v h1) := by
          intro s0 hs
          have e3 : ∀ X, l3 + cnt (fun v => ¬ ftB t T rn rt rs v = 0 ∧ ¬ v ∈ eL (lsR t T rn rt rs) T nd w) (f + 1) v = X → l3 + s0 + cnt (fun v => ¬ ftB t T rn rt rs v = 0 ∧ ¬ v ∈ eL (lsR t T rn rt rs) T nd w) f (v + 1) = X := by
            intro X hX
            rcases hs with z | z
            · rw [cnt_y (P := fun v => ¬ ftB t T rn rt rs v = 0 ∧ ¬ v ∈ eL (lsR t T rn rt rs) T nd w) z.2] at hX
              omega
            · rw [cnt_n (P := fun v => ¬ ftB t T rn rt rs v = 0 ∧ ¬ v ∈ eL (lsR t T rn rt rs) T nd w) z.2] at hX
              omega
          have e3 := e3 _ rfl
          have s01 : 0 ≤ s0 ∧ s0 ≤ 1 := by omega
          have go : ∀ (s2 : Int), ((s2 = 1 ∧ 1 < pcN 26 (ftB t T rn rt rs v).toNat ∧ v ∈ eL (lsR t T rn rt rs) T nd w) ∨ (s2 = 0 ∧ ¬ (1 < pcN 26 (ftB t T rn rt rs v).toNat ∧ v ∈ eL (lsR t T rn rt rs) T nd w))) → (inR (l4 + s2)) ∧ (inR (v + 1)) ∧ zK 240 42 [vR 127 111, vI w, vI q, vI (l3 + s0), vI (l4 + s2), vI (iOr l5 (ftB t T rn rt rs v)), vI (v + 1), vI (ftB t T rn rt rs v)] [] h13 (fun r h1 => ∃ v : Int, r = some (Sum.inl v) ∧ K v h1) := by
            intro s2 hs2
            have s21 : 0 ≤ s2 ∧ s2 ≤ 1 := by omega
            have e4 : l4 + s2 + cnt (fun v => 1 < pcN 26 (ftB t T rn rt rs v).toNat ∧ v ∈ eL (lsR t T rn rt rs) T nd w) f (v + 1) = l4 + cnt (fun v => 1 < pcN 26 (ftB t T rn rt rs v).toNat ∧ v ∈ eL (lsR t T rn rt rs) T nd w) (f + 1) v := by
              rcases hs2 with z | z
              · rw [cnt_y (P := fun v => 1 < pcN 26 (ftB t T rn rt rs v).toNat ∧ v ∈ eL (lsR t T rn rt rs) T nd w) z.2]; omega
              · rw [cnt_n (P := fun v => 1 < pcN 26 (ftB t T rn rt rs v).toNat ∧ v ∈ eL (lsR t T rn rt rs) T nd w) z.2]; omega
            refine ⟨by unfold inR; omega, by unfold inR; omega, ih (v + 1) (l3 + s0) (l4 + s2) _ h13 _ (by omega) (by omega) (by omega) (by omega) (by omega) (by omega) F13 e13 eo (fun h2 f2 => ?_)⟩
            have := kk h2 f2
            rw [← e4, ← e3] at this
            exact this
          refine k240_86 (vI w) q (vI l3) l4 _ v _ s0 l3 h13 _ ⟨by unfold inR; omega, ?_⟩
          rw [eV]
          refine s238 hV ?_
          rw [← eV]
          have pv : pcN 26 (ftB t T rn rt rs v).toNat = pcN 26 V := by rw [eV, Int.toNat_natCast]
          refine ⟨fun z => go 0 (Or.inr ⟨rfl, fun q => by omega⟩), fun z => s239 e13 l60 ⟨fun z1 => go 0 (Or.inr ⟨rfl, fun q => ?_⟩), fun z1 => go 1 (Or.inl ⟨rfl, by omega, ?_⟩)⟩⟩
          · rw [b2i_eq0] at z1; exact z1 q.2
          · rw [b2i_ne0] at z1; exact z1
        refine ⟨fun z => k240_85 _ _ _ _ _ _ _ _ h13 _ (sev 0 (Or.inr ⟨rfl, fun q => q.1 z⟩)), fun z => s239 e13 l60 ⟨fun z1 => k240_85 _ _ _ _ _ _ _ _ h13 _ (sev 0 (Or.inr ⟨rfl, fun q => ?_⟩)), fun z1 => sev 1 (Or.inl ⟨rfl, z, fun q => ?_⟩)⟩⟩
        · rw [b2i_ne0] at z1; exact q.2 z1
        · exact z1 (by rw [b2i_ne0]; exact q)
    refine key nd.toNat 0 0 0 0 h12 _ (by omega) (by omega) (by omega) (by omega) (by omega) (by omega) F12 e12 rfl (fun h2 f2 => ?_)
    rw [Int.zero_add, Int.zero_add]; exact k h2 f2
  · have d : ¬ (0 ≤ q ∧ q ≤ 2) := fun z => d (by rw [b2i_ne0]; exact z)
    have := k h9 f9
    rwa [if_neg (fun z => d z.2)] at this
end CF
