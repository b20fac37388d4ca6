/-! The class: its writer. -/
def wrA (b : Nat) (_ : Int) : Prop := 82 ≤ b ∧ b ≤ 84
/-- what was written, whether a seam is here, what is to be caught, how many were carried -/
def xWr (h : zH) (L : List Int) (sm cg ca : Int) : Prop := gI h 82 0 = L.length ∧ gI h 82 1 = ca ∧ gI h 82 2 = (if 0 ≤ cg ∧ cg < L.length then L.getD cg.toNat 0 else -1) ∧ gI h 82 3 = cg ∧ gI h 82 4 = lsD L ∧ gI h 82 5 = sm ∧ ∀ i : Nat, i < L.length → i < 300 → gI h 84 i = L.getD i 0
section XR
variable {h : zH} {L : List Int} {sm cg ca : Int}
theorem xWr.fr {P : Nat → Int → Prop} {h1 : zH} (x : xWr h L sm cg ca) (f : frP P h h1) (d : ∀ k, ¬ P 82 k ∧ ¬ P 84 k) : xWr h1 L sm cg ca := by
  obtain ⟨x0, x1, x2, x3, x4, x5, x6⟩ := x
  refine ⟨?_, ?_, ?_, ?_, ?_, ?_, fun i i0 i1 => ?_⟩
  · rw [f.1 _ _ (d _).1]; exact x0
  · rw [f.1 _ _ (d _).1]; exact x1
  · rw [f.1 _ _ (d _).1]; exact x2
  · rw [f.1 _ _ (d _).1]; exact x3
  · rw [f.1 _ _ (d _).1]; exact x4
  · rw [f.1 _ _ (d _).1]; exact x5
  · rw [f.1 _ _ (d _).2]; exact x6 i i0 i1
theorem s133 {c : Int} (x : xWr h L sm cg ca) (hl : L.length < 1000000) {K : zH → Prop} (k : ∀ h1, frP wrA h h1 → xWr h1 (L ++ [c]) sm cg ca → K h1) : zC0 133 [vR 82 108, vI c] h K := by
  obtain ⟨x0, x1, x2, x3, x4, x5, x6⟩ := x
  have ll : (L ++ [c]).length = L.length + 1 := by simp
  -- the last step
  have fin : ∀ h2 : zH, frP wrA h h2 → gI h2 82 0 = L.length → gI h2 82 1 = ca → gI h2 82 3 = cg → gI h2 82 5 = sm → gI h2 82 2 = (if 0 ≤ cg ∧ cg < L.length + 1 then (L ++ [c]).getD cg.toNat 0 else -1) → (∀ i : Nat, i < L.length + 1 → i < 300 → gI h2 84 i = (L ++ [c]).getD i 0) → zK 133 39 [vR 82 108, vI c] [] h2 (fun r h1 => r = none ∧ K h1) := by
    intro h2 f2 a0 a1 a3 a5 a2 a6
    refine k133_39 c h2 _ (fun h7 e7 => ?_)
    have z : gI h7 82 0 = L.length := by rw [e7, gS, if_neg (by omega)]; exact a0
    rw [z]
    refine ⟨by unfold inR; omega, fun h8 e8 => zq0 (k h8 ?_ ⟨?_, ?_, ?_, ?_, ?_, ?_, fun i i0 i1 => ?_⟩)⟩
    · rw [e8, e7]; exact (f2.st (by unfold wrA; omega)).st (by unfold wrA; omega)
    · rw [e8, gS1, ll]; rfl
    · rw [e8, gS, if_neg (by omega), e7, gS, if_neg (by omega)]; exact a1
    · rw [e8, gS, if_neg (by omega), e7, gS, if_neg (by omega), a2, ll]; rfl
    · rw [e8, gS, if_neg (by omega), e7, gS, if_neg (by omega)]; exact a3
    · rw [e8, gS, if_neg (by omega), e7, gS1, lsD_s]
    · rw [e8, gS, if_neg (by omega), e7, gS, if_neg (by omega)]; exact a5
    · rw [e8, gS, if_neg (by omega), e7, gS, if_neg (by omega)]; exact a6 i (by omega) i1
  have mid : ∀ h2 : zH, frP wrA h h2 → (∀ j, gI h2 82 j = gI h 82 j) → (∀ i : Nat, i < L.length + 1 → i < 300 → gI h2 84 i = (L ++ [c]).getD i 0) → zK 133 23 [vR 82 108, vI c] [] h2 (fun r h1 => r = none ∧ K h1) := by
    intro h2 f2 a a6
    refine k133_23 c h2 _ ?_
    rw [a, a, x0, x3]
    refine ⟨fun d => fin h2 f2 (by rw [a]; exact x0) (by rw [a]; exact x1) (by rw [a]; exact x3) (by rw [a]; exact x5) ?_ a6, fun d h6 e6 => fin h6 ?_ ?_ ?_ ?_ ?_ ?_ (fun i i0 i1 => ?_)⟩
    · rw [a, x2]
      by_cases q : 0 ≤ cg ∧ cg < L.length
      · rw [if_pos q, if_pos (by omega), getD_l (by omega)]
      · rw [if_neg q, if_neg (by omega)]
    · rw [e6]; exact f2.st (by unfold wrA; omega)
    · rw [e6, gS, if_neg (by omega), a]; exact x0
    · rw [e6, gS, if_neg (by omega), a]; exact x1
    · rw [e6, gS, if_neg (by omega), a]; exact x3
    · rw [e6, gS, if_neg (by omega), a]; exact x5
    · have d := Classical.not_not.1 d
      rw [e6, gS1, if_pos (by omega), show cg.toNat = L.length by omega, getD_e]
    · rw [e6, gS, if_neg (by omega)]; exact a6 i i0 i1
  refine cV (k133_0 c h _ ?_)
  rw [x0]
  refine ⟨fun d => mid h frP.rf (fun _ => rfl) (fun i i0 i1 => ?_), fun d => ⟨by omega, by omega, fun h5 e5 => mid h5 ?_ (fun j => ?_) (fun i i0 i1 => ?_)⟩⟩
  · rw [getD_l (by omega)]; exact x6 i (by omega) i1
  · rw [e5]; exact frP.rf.st (by unfold wrA; omega)
  · rw [e5, gS, if_neg (by omega)]
  · rw [e5, gS]
    by_cases q : i = L.length
    · rw [if_pos ⟨rfl, by omega⟩, q, getD_e]
    · rw [if_neg (by omega), getD_l (by omega)]; exact x6 i (by omega) i1
theorem xWr.seam {v : Int} (x : xWr h L sm cg ca) : xWr (sI h 82 5 v) L v cg ca := by
  obtain ⟨x0, x1, x2, x3, x4, x5, x6⟩ := x
  refine ⟨?_, ?_, ?_, ?_, ?_, gS1, fun i i0 i1 => ?_⟩
  · rw [gS, if_neg (by omega)]; exact x0
  · rw [gS, if_neg (by omega)]; exact x1
  · rw [gS, if_neg (by omega)]; exact x2
  · rw [gS, if_neg (by omega)]; exact x3
  · rw [gS, if_neg (by omega)]; exact x4
  · rw [gS, if_neg (by omega)]; exact x6 i i0 i1
theorem xWr.cary {v : Int} (x : xWr h L sm cg ca) : xWr (sI h 82 1 v) L sm cg v := by
  obtain ⟨x0, x1, x2, x3, x4, x5, x6⟩ := x
  refine ⟨?_, gS1, ?_, ?_, ?_, ?_, fun i i0 i1 => ?_⟩
  · rw [gS, if_neg (by omega)]; exact x0
  · rw [gS, if_neg (by omega)]; exact x2
  · rw [gS, if_neg (by omega)]; exact x3
  · rw [gS, if_neg (by omega)]; exact x4
  · rw [gS, if_neg (by omega)]; exact x5
  · rw [gS, if_neg (by omega)]; exact x6 i i0 i1
theorem s132 {c : Int} (x : xWr h L sm cg ca) (hl : L.length < 900000) {K : zH → Prop} (k : ∀ h1, frP wrA h h1 → xWr h1 (wr L sm [c]).1 0 cg ca → K h1) : zC0 132 [vR 82 108, vI c] h K := by
  have x4 := x.2.2.2.2.1
  have x5 := x.2.2.2.2.2.1
  -- no blank
  have no : ¬ (¬ sm = 0 ∧ besd (lsD L) c) → ∀ h1, h1 = sI h 82 5 0 → zC0 133 [vR 82 108, vI c] h1 (fun h2 => (none : Option zV) = none ∧ K h2) := by
    intro q h1 e1
    refine s133 (L := L) (sm := 0) (cg := cg) (ca := ca) (by rw [e1]; exact x.seam) (by omega) (fun h2 f2 x2 => zq0 (k h2 ?_ ?_))
    · exact (show frP wrA h h1 by rw [e1]; exact frP.rf.st (by unfold wrA; omega)).tr f2
    · rw [wr, b2i_neg q, if_neg (by omega)]; exact x2
  have yes : ¬ sm = 0 ∧ besd (lsD L) c → zK 132 41 [vR 82 108, vI c] [] h (fun r h1 => r = none ∧ K h1) := by
    intro q
    refine k132_41 c h _ (s133 x (by omega) (fun h2 f2 x2 => ⟨Or.inl rfl, fun h25 e25 => s133 (L := L ++ [32]) (sm := 0) (cg := cg) (ca := ca) (by rw [e25]; exact x2.seam) (by simp; omega) (fun h3 f3 x3 => zq0 (k h3 ?_ ?_))⟩))
    · exact f2.tr ((show frP wrA h2 h25 by rw [e25]; exact frP.rf.st (by unfold wrA; omega)).tr f3)
    · rw [wr, b2i_pos q, if_pos rfl]; exact x3
  have sec : ¬ sm = 0 → ¬ (isL (lsD L) ∧ isL c) → zK 132 24 [vR 82 108, vI c] [] h (fun r h1 => r = none ∧ K h1) := by
    intro q1 q2
    refine k132_24 c h _ ?_
    rw [x4]
    refine s34 ⟨fun d => ⟨Or.inl rfl, fun h19 e19 => no ?_ h19 e19⟩, fun d => s34 ⟨fun d1 => ⟨Or.inl rfl, fun h22 e22 => no ?_ h22 e22⟩, fun d1 => yes ?_⟩⟩
    · rw [b2i_eq0] at d
      rintro ⟨_, q | q⟩
      · exact q2 q
      · exact d q.1
    · rw [b2i_eq0] at d1
      rintro ⟨_, q | q⟩
      · exact q2 q
      · exact d1 q.2
    · rw [b2i_ne0] at d d1
      exact ⟨q1, Or.inr ⟨d, d1⟩⟩
  refine cV (k132_0 c h _ ?_)
  rw [x5, x4]
  refine ⟨fun d => ⟨Or.inl rfl, fun h14 e14 => no (fun q => q.1 d) h14 e14⟩, fun d => s33 ⟨fun d1 => sec d ?_, fun d1 => s33 ⟨fun d2 => yes ?_, fun d2 => sec d ?_⟩⟩⟩
  · rw [b2i_eq0] at d1; exact fun q => d1 q.1
  · rw [b2i_ne0] at d1 d2; exact ⟨d, Or.inl ⟨d1, d2⟩⟩
  · exact fun q => d2 (by rw [b2i_ne0]; exact q.2)
theorem s131 {b : Nat} {u : Int → Int} {m p e : Int} (y : Txt h b u m) (o : tOk u m) (hb : b + 1 < 82 ∨ 87 ≤ b) (hp : 0 ≤ p ∧ p ≤ 1000 ∧ e ≤ 1000) (x : xWr h L sm cg ca) (hl : L.length < 800000) {K : zH → Prop} (k : ∀ h1, frP wrA h h1 → xWr h1 (wr L sm (rowS u (e - p).toNat p)).1 (wr L sm (rowS u (e - p).toNat p)).2 cg ca → K h1) : zC0 131 [vR 82 108, vR b 101, vI p, vI e] h K := by
  have key : ∀ (f : Nat) (z : Int) (L1 : List Int) (s1 : Int) (h1 : zH), (e - z).toNat = f → p ≤ z → L1.length + 2 * f ≤ 802000 → frP wrA h h1 → xWr h1 L1 s1 cg ca → (∀ h2, frP wrA h h2 → xWr h2 (wr L1 s1 (rowS u f z)).1 (wr L1 s1 (rowS u f z)).2 cg ca → K h2) → zK 131 3 [vR 82 108, vR b 101, vI p, vI e, vI z] [] h1 (fun r h1 => r = none ∧ K h1) := by
    intro f
    induction f with
    | zero =>
      intro z L1 s1 h1 hz pz hl1 f1 x1 kk
      exact k131_3 b (vI p) e z h1 _ ⟨fun _ => zq0 (kk h1 f1 x1), fun c => absurd (by omega) c⟩
    | succ f ih =>
      intro z L1 s1 h1 hz pz hl1 f1 x1 kk
      have y1 : Txt h1 b u m := y.fr f1 (fun k => by unfold wrA; omega)
      refine k131_3 b (vI p) e z h1 _ ⟨fun c => absurd c (by omega), fun _ => s44 y1 o (s132 x1 (by omega) (fun h2 f2 x2 => ⟨by unfold inR; omega, ih (z + 1) _ 0 h2 (by omega) (by omega) ?_ (f1.tr f2) x2 (fun h3 f3 x3 => kk h3 f3 ?_)⟩))⟩
      · have := (wr_l (L := L1) (sm := s1) [u z]).1
        simp at this; omega
      · have ap := wr_ap (L := L1) (sm := s1) [u z] (rowS u f (z + 1))
        rw [show (wr L1 s1 [u z]).2 = 0 from rfl] at ap
        rw [rowS, ← List.singleton_append, ← ap]; exact x3
  exact cV (k131_0 b p e h _ (key (e - p).toNat p L sm h rfl (by omega) (by omega) frP.rf x k))
theorem s125 (x : xWr h L sm cg ca) {K : zH → Prop} (k : ∀ h1, frP wrA h h1 → xWr h1 L 1 cg ca → K h1) : zC0 125 [vR 82 108] h K := by
  refine cV (k125_0 h _ ⟨Or.inr rfl, fun h2 e2 => zq0 (k h2 ?_ ?_)⟩)
  · rw [e2]; exact frP.rf.st (by unfold wrA; omega)
  · rw [e2]; exact x.seam
theorem s123 {K : zH → Prop} (k : ∀ h1, frP wrA h h1 → xWr h1 [] 0 cg 0 → K h1) : zC0 123 [vR 82 108, vI cg] h K := by
  refine cV (k123_0 cg h _ (fun h7 e7 h8 e8 h9 e9 h10 e10 h11 e11 => ⟨Or.inl rfl, fun h12 e12 => zq0 (k h12 ?_ ?_)⟩))
  · rw [e12, e11, e10, e9, e8, e7]
    exact (((((frP.rf.st (by unfold wrA; omega)).st (by unfold wrA; omega)).st (by unfold wrA; omega)).st (by unfold wrA; omega)).st (by unfold wrA; omega)).st (by unfold wrA; omega)
  · refine ⟨?_, ?_, ?_, ?_, ?_, ?_, fun i i0 => absurd i0 (by simp)⟩
    · simp [e12, e11, e10, e9, e8, e7, gS]
    · simp [e12, e11, e10, e9, e8, e7, gS]
    · rw [if_neg (fun q => absurd q.2 (by simp; omega))]; simp [e12, e11, e10, e9, e8, e7, gS]
    · simp [e12, e11, e10, e9, e8, e7, gS]
    · simp [e12, e11, e10, e9, e8, e7, gS, lsD]
    · simp [e12, e11, e10, e9, e8, e7, gS]
end XR
