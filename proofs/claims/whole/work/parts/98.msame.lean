/-! The model: two tests ask the same. -/
theorem div40 {x k : Int} (hx : 0 ≤ x ∧ x < 8) (hk : 0 ≤ k ∧ k < 40) : iDiv (40 * x + k) 40 = x := by
  have q : ∀ j : Fin 320, iDiv ((j.val : Nat) : Int) 40 = ((j.val : Nat) : Int) / 40 := by decide +kernel
  have := q ⟨(40 * x + k).toNat, by omega⟩
  rw [show (((⟨(40 * x + k).toNat, by omega⟩ : Fin 320).val : Nat) : Int) = 40 * x + k by show (((40 * x + k).toNat : Nat) : Int) = _; omega] at this
  omega
theorem lst_eq {L M : List Int} (hl : L.length = M.length) (e : ∀ j : Nat, j < L.length → L.getD j 0 = M.getD j 0) : L = M := by
  apply List.ext_getElem? 
  intro j
  by_cases c : j < L.length
  · have := e j c
    rw [List.getD_eq_getElem?_getD, List.getD_eq_getElem?_getD, List.getElem?_eq_getElem c, List.getElem?_eq_getElem (by omega)] at this
    rw [List.getElem?_eq_getElem c, List.getElem?_eq_getElem (by omega)]
    exact congrArg some this
  · rw [List.getElem?_eq_none (by omega), List.getElem?_eq_none (by omega)]
section MM
variable {h : zH} {w w2 : Int → Int} {m m2 x x2 : Int} {s s2 : pS}
/-- every token of a pattern that isn't a closing is an item's own -/
theorem tok0 (x : rEn w m 0 0 s) : ∀ (f : Nat) (i : Int), s 1 i 9 ≤ f → 0 ≤ i → i < s 0 0 1 → ∀ k, s 4 i 0 ≤ k → k < bT 0 s i → s 3 k 0 = 7 ∨ ∃ j, i ≤ j ∧ j < i + s 1 i 9 ∧ s 4 j 0 = k := by
  intro f
  induction f with
  | zero => intro i hf i0 i1; have := x.sp i0 i1; omega
  | succ f ih =>
    intro i hf i0 i1 k k0 k1
    have sp := x.sp i0 i1
    by_cases ck : k = s 4 i 0
    · exact Or.inr ⟨i, by omega, by omega, ck.symm⟩
    · by_cases c4 : s 1 i 0 = 4
      · have cl := x.cl i0 i1 c4
        rw [show kid 0 = 3 from rfl] at cl
        by_cases ce : k = s 3 (s 4 i 0) 2
        · exact Or.inl (by rw [ce]; exact cl.1)
        · have m0 := x.m0 i0 i1
          by_cases c6 : s 1 i 6 = 0
          · have f0 := x.f0 i0 i1 c4 c6
            rw [show kid 0 = 3 from rfl] at f0
            omega
          · have f1 := x.f1 i0 i1 c4 (by omega)
            have G : ∀ (d : Nat) (y : Int), s 1 i 6 - 1 - s 1 y 5 = d → iP s i y → s 4 y 0 ≤ k → s 3 k 0 = 7 ∨ ∃ j, i ≤ j ∧ j < i + s 1 i 9 ∧ s 4 j 0 = k := by
              intro d
              induction d with
              | zero =>
                intro y hd hy hk
                have ls := x.ls i0 hy c4 (by omega)
                rw [show kid 0 = 3 from rfl] at ls
                have hy1 := hy.1
                rcases ih y (by omega) (by omega) hy.2.1 k hk (by omega) with q | ⟨j, j0, j1, j2⟩
                · exact Or.inl q
                · exact Or.inr ⟨j, by omega, by omega, j2⟩
              | succ d ihd =>
                intro y hd hy hk
                have nx := x.nx i0 hy c4 (by omega)
                have hy1 := hy.1
                by_cases c : k < bT 0 s y
                · rcases ih y (by omega) (by omega) hy.2.1 k hk c with q | ⟨j, j0, j1, j2⟩
                  · exact Or.inl q
                  · exact Or.inr ⟨j, by omega, by omega, j2⟩
                · exact ihd (y + s 1 y 9) (by omega) nx.1 (by omega)
            exact G (s 1 i 6 - 1).toNat (i + 1) (by omega) f1.1 (by omega)
      · by_cases c2 : s 1 i 0 = 2
        · have dp := x.dp i0 i1 c2
          rcases ih (i + 1) (by omega) (by omega) dp.1 k (by omega) (by omega) with q | ⟨j, j0, j1, j2⟩
          · exact Or.inl q
          · exact Or.inr ⟨j, by omega, by omega, j2⟩
        · have lf := x.lf i0 i1 c2 c4
          omega
theorem tk_it0 (x : rEn w m 0 0 s) {k : Int} (k0 : 0 ≤ k) (k1 : k < s 0 0 3) (k7 : ¬ s 3 k 0 = 7) : ∃ j, 0 ≤ j ∧ j < s 0 0 1 ∧ s 4 j 0 = k := by
  have rt := x.rt
  have N := x.N
  rw [show kid 0 = 3 from rfl] at rt
  rcases tok0 x (s 1 0 9).toNat 0 (by omega) (by omega) (by omega) k (by omega) (by omega) with q | ⟨j, j0, j1, j2⟩
  · exact absurd q k7
  · exact ⟨j, j0, by omega, j2⟩
theorem wdT (x : rEn w m 0 0 s) {k : Int} (k0 : 0 ≤ k) (k1 : k < s 0 0 3) (c : s 3 k 0 = 3 ∨ s 3 k 0 = 4 ∨ s 3 k 0 = 5) : 0 ≤ s 3 k 3 ∧ 0 ≤ s 3 k 4 ∧ s 3 k 3 + s 3 k 4 ≤ m := by
  obtain ⟨j, j0, j1, j2⟩ := tk_it0 x k0 k1 (by omega)
  have ct := x.ct j0 j1
  rw [j2] at ct
  omega
theorem s211 {P Q : Int} (p : mPt h x w m s) (hm : m ≤ 300) (t4 : s 0 0 3 ≤ 40) (p2 : mPt h x2 w2 m2 s2) (hm2 : m2 ≤ 300) (t42 : s2 0 0 3 ≤ 40) (hP : 0 ≤ P ∧ P < s 0 0 3) (hQ : 0 ≤ Q ∧ Q < s2 0 0 3) (wP : 0 ≤ s 3 P 3 ∧ 0 ≤ s 3 P 4 ∧ s 3 P 3 + s 3 P 4 ≤ m) (wQ : 0 ≤ s2 3 Q 3 ∧ 0 ≤ s2 3 Q 4 ∧ s2 3 Q 3 + s2 3 Q 4 ≤ m2) {K : Int → zH → Prop} (k : K (b2i (mWd w w2 s s2 P Q)) h) : zC1 211 [vR 127 111, vI x, vI P, vI x2, vI Q] h K := by
  have hx := p.1
  have hx2 := p2.1
  have stop : ∀ j : Int, ¬ mWd w w2 s s2 P Q → zK 211 30 [vR 127 111, vI x, vI P, vI x2, vI Q, vI 0, vI j] [] h (fun r h1 => ∃ v : Int, r = some (Sum.inl v) ∧ K v h1) := by
    intro j c
    rw [b2i_neg c] at k
    exact k211_30 x P x2 Q 0 j h _ ⟨fun _ => ⟨Or.inl rfl, zq1 k⟩, fun d => absurd rfl d⟩
  have key : ∀ (f : Nat) (j : Int), j + f = s 3 P 4 → 0 ≤ j → s 3 P 4 = s2 3 Q 4 → (∀ q, 0 ≤ q → q < j → w (s 3 P 3 + q) = w2 (s2 3 Q 3 + q)) → zK 211 30 [vR 127 111, vI x, vI P, vI x2, vI Q, vI 1, vI j] [] h (fun r h1 => ∃ v : Int, r = some (Sum.inl v) ∧ K v h1) := by
    intro f
    induction f with
    | zero =>
      intro j hj j0 e v
      rw [b2i_pos (show mWd w w2 s s2 P Q from ⟨e, fun q q0 q1 => v q q0 (by omega)⟩)] at k
      exact k211_30 x P x2 Q 1 j h _ ⟨fun d => absurd d (by omega), fun _ => s179 4 p hP t4 (by omega) ⟨fun _ => ⟨Or.inr rfl, zq1 k⟩, fun d => absurd (by omega) d⟩⟩
    | succ f ih =>
      intro j hj j0 e v
      refine k211_30 x P x2 Q 1 j h _ ⟨fun d => absurd d (by omega), fun _ => s179 4 p hP t4 (by omega) ⟨fun d => absurd d (by omega), fun _ => s142 (by omega) (s179 3 p hP t4 (by omega) ⟨by unfold inR; omega, by unfold inR; omega, by omega, by omega, s142 (by omega) (s179 3 p2 hQ t42 (by omega) ⟨by unfold inR; omega, by unfold inR; omega, by omega, by omega, ?_⟩)⟩)⟩⟩
      rw [show 301 + 301 * x + s 3 P 3 + j = 301 + 301 * x + (s 3 P 3 + j) by omega, show 301 + 301 * x2 + s2 3 Q 3 + j = 301 + 301 * x2 + (s2 3 Q 3 + j) by omega, p.2.1 _ (by omega) (by omega), p2.2.1 _ (by omega) (by omega)]
      refine ⟨fun d => ⟨by unfold inR; omega, stop _ (fun z => d (z.2 j j0 (by omega)))⟩, fun d => ⟨by unfold inR; omega, ih (j + 1) (by omega) (by omega) e (fun q q0 q1 => ?_)⟩⟩
      by_cases z : q = j
      · rw [z]; exact Classical.not_not.1 d
      · exact v q q0 (by omega)
  refine cI (k211_0 x P x2 Q h _ (s179 4 p hP t4 (by omega) (s179 4 p2 hQ t42 (by omega) ⟨fun c => stop 0 (fun z => c z.1), fun c => key (s 3 P 4).toNat 0 (by omega) (by omega) (Classical.not_not.1 c) (fun q q0 q1 => by omega)⟩)))
theorem s212 {P Q : Int} (p : mPt h x w m s) (hm : m ≤ 300) (en : rEn w m 0 0 s) (p2 : mPt h x2 w2 m2 s2) (hm2 : m2 ≤ 300) (en2 : rEn w2 m2 0 0 s2) (hP : 0 ≤ P ∧ P < s 0 0 3) (hQ : 0 ≤ Q ∧ Q < s2 0 0 3) {K : Int → zH → Prop} (k : K (b2i (mTo w w2 s s2 P Q)) h) : zC1 212 [vR 127 111, vI x, vI P, vI x2, vI Q] h K := by
  have t4 := en.t40
  have t42 := en2.t40
  have wd : s 3 P 0 = s2 3 Q 0 → s 3 P 0 = 3 ∨ s 3 P 0 = 4 ∨ s 3 P 0 = 5 → zC1 211 [vR 127 111, vI x, vI P, vI x2, vI Q] h (fun v18 h18 => ((v18 : Int) = 0 ∨ (v18 : Int) = 1) ∧ (∃ v : Int, some (vI v18) = some (Sum.inl v) ∧ K v h18)) := by
    intro e c
    refine s211 p hm t4 p2 hm2 t42 hP hQ (wdT en hP.1 hP.2 c) (wdT en2 hQ.1 hQ.2 (by omega)) ⟨b2i_01, zq1 ?_⟩
    rwa [b2i_congr (show mTo w w2 s s2 P Q ↔ mWd w w2 s s2 P Q from ⟨fun q => q.2.2.2 c, fun q => ⟨e, fun z => by omega, fun z => by omega, fun _ => q⟩⟩)] at k
  refine cI (k212_0 x P x2 Q h _ (s179 0 p hP t4 (by omega) (s179 0 p2 hQ t42 (by omega) ⟨fun e => ⟨fun c1 => s179 1 p hP t4 (by omega) (s179 1 p2 hQ t42 (by omega) ⟨fun d => ⟨Or.inl rfl, zq1 ?_⟩, fun d => s179 2 p hP t4 (by omega) (s179 2 p2 hQ t42 (by omega) ⟨fun d2 => ⟨Or.inl rfl, zq1 ?_⟩, fun d2 => ⟨Or.inr rfl, zq1 ?_⟩⟩)⟩), fun c1 => ⟨fun c2 => ⟨Or.inr rfl, zq1 ?_⟩, fun c2 => ⟨fun c3 => wd e (by omega), fun c3 => ⟨fun c4 => wd e (by omega), fun c4 => ⟨fun c5 => wd e (by omega), fun c5 => ⟨fun c6 => s179 1 p hP t4 (by omega) (s179 1 p2 hQ t42 (by omega) ⟨fun d => ⟨Or.inl rfl, zq1 ?_⟩, fun d => ⟨Or.inr rfl, zq1 ?_⟩⟩), fun c6 => ⟨Or.inr rfl, zq1 ?_⟩⟩⟩⟩⟩⟩⟩, fun e => ⟨Or.inl rfl, zq1 ?_⟩⟩)))
  · rwa [b2i_neg (fun q => d (q.2.1 c1).1)] at k
  · rwa [b2i_neg (fun q => d2 (q.2.1 c1).2)] at k
  · rwa [b2i_pos (show mTo w w2 s s2 P Q from ⟨e, fun _ => ⟨Classical.not_not.1 d, Classical.not_not.1 d2⟩, fun z => by omega, fun z => by omega⟩)] at k
  · rwa [b2i_pos (show mTo w w2 s s2 P Q from ⟨e, fun z => by omega, fun z => by omega, fun z => by omega⟩)] at k
  · rwa [b2i_neg (fun q => d (q.2.2.1 (by omega)))] at k
  · rwa [b2i_pos (show mTo w w2 s s2 P Q from ⟨e, fun z => by omega, fun _ => Classical.not_not.1 d, fun z => by omega⟩)] at k
  · rwa [b2i_pos (show mTo w w2 s s2 P Q from ⟨e, fun z => by omega, fun z => by omega, fun z => by omega⟩)] at k
  · rwa [b2i_neg (fun q => e q.1)] at k
theorem s213 {i j : Int} (p : mPt h x w m s) (hm : m ≤ 300) (en : rEn w m 0 0 s) (p2 : mPt h x2 w2 m2 s2) (hm2 : m2 ≤ 300) (en2 : rEn w2 m2 0 0 s2) (i0 : 0 ≤ i) (i1 : i < s 0 0 1) (j0 : 0 ≤ j) (j1 : j < s2 0 0 1) {K : Int → zH → Prop} (k : K (b2i (sTm w w2 s s2 i j)) h) : zC1 213 [vR 127 111, vI x, vI (s 4 i 0), vI x2, vI (s2 4 j 0)] h K := by
  have t4 := en.t40
  have t42 := en2.t40
  have tk := en.tk3 i0 i1
  have tk2 := en2.tk3 j0 j1
  have stop : ∀ z : Int, ¬ sTm w w2 s s2 i j → zK 213 35 [vR 127 111, vI x, vI (s 4 i 0), vI x2, vI (s2 4 j 0), vI (bT 0 s i - s 4 i 0), vI 0, vI z] [] h (fun r h1 => ∃ v : Int, r = some (Sum.inl v) ∧ K v h1) := by
    intro z c
    rw [b2i_neg c] at k
    exact k213_35 x _ x2 _ _ 0 z h _ ⟨fun _ => ⟨Or.inl rfl, zq1 k⟩, fun d => absurd rfl d⟩
  have key : ∀ (f : Nat) (z : Int), z + f = bT 0 s i - s 4 i 0 → 0 ≤ z → bT 0 s2 j - s2 4 j 0 = bT 0 s i - s 4 i 0 → (∀ q, 0 ≤ q → q < z → mTo w w2 s s2 (s 4 i 0 + q) (s2 4 j 0 + q)) → zK 213 35 [vR 127 111, vI x, vI (s 4 i 0), vI x2, vI (s2 4 j 0), vI (bT 0 s i - s 4 i 0), vI 1, vI z] [] h (fun r h1 => ∃ v : Int, r = some (Sum.inl v) ∧ K v h1) := by
    intro f
    induction f with
    | zero =>
      intro z hz z0 e v
      rw [b2i_pos (show sTm w w2 s s2 i j from ⟨e, fun q q0 q1 => v q q0 (by omega)⟩)] at k
      exact k213_35 x _ x2 _ _ 1 z h _ ⟨fun d => absurd d (by omega), fun _ => ⟨fun _ => ⟨Or.inr rfl, zq1 k⟩, fun d => absurd (by omega) d⟩⟩
    | succ f ih =>
      intro z hz z0 e v
      refine k213_35 x _ x2 _ _ 1 z h _ ⟨fun d => absurd d (by omega), fun _ => ⟨fun d => absurd d (by omega), fun _ => ⟨by unfold inR; omega, by unfold inR; omega, s212 p hm en p2 hm2 en2 ⟨by omega, by omega⟩ ⟨by omega, by omega⟩ ⟨by unfold inR; omega, ?_⟩⟩⟩⟩
      by_cases d : mTo w w2 s s2 (s 4 i 0 + z) (s2 4 j 0 + z)
      · rw [b2i_pos d]
        refine ih (z + 1) (by omega) (by omega) e (fun q q0 q1 => ?_)
        by_cases y : q = z
        · rw [y]; exact d
        · exact v q q0 (by omega)
      · rw [b2i_neg d]
        exact stop _ (fun q => d (q.2 z z0 (by omega)))
  refine cI (k213_0 x (s 4 i 0) x2 (s2 4 j 0) h _ (s206 p en i0 i1 ⟨by unfold inR; omega, s206 p2 en2 j0 j1 ⟨by unfold inR; omega, fun c => stop 0 (fun z => c z.1), fun c => key (bT 0 s i - s 4 i 0).toNat 0 (by omega) (by omega) (Classical.not_not.1 c) (fun q q0 q1 => by omega)⟩⟩))
end MM
