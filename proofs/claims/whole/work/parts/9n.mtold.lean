/-! The model: what is told of a rule. -/
section TM
variable {h : zH} {rn : Int → Int} {rt : Int → Int → Int} {rs : Int → pS} {x : Int}
theorem s203 {sd E w : Int} {f : Int → Int} (hx : 0 ≤ x ∧ x < 8) (hs : 0 ≤ sd ∧ sd ≤ 1) (hE : 0 ≤ E ∧ E ≤ 40) (e : gI h 140 (2 * x + sd) = E) (rd : ∀ k, 0 ≤ k → k < E → ∀ (K : Int → zH → Prop), K (f k) h → zC1 179 [vR 127 111, vI x, vI sd, vI k, vI 0] h K) {K : Int → zH → Prop} (k : K (cnt (fun k => f k = w) E.toNat 0) h) : zC1 203 [vR 127 111, vI x, vI sd, vI w] h K := by
  have key : ∀ (g : Nat) (j c : Int), j + g = E → 0 ≤ j → 0 ≤ c → c ≤ j → c + cnt (fun k => f k = w) g j = cnt (fun k => f k = w) E.toNat 0 → zK 203 6 [vR 127 111, vI x, vI sd, vI w, vI c, vI j] [] h (fun r h1 => ∃ v : Int, r = some (Sum.inl v) ∧ K v h1) := by
    intro g
    induction g with
    | zero =>
      intro j c hj j0 c0 c1 ce
      rw [cnt, Int.add_zero] at ce
      subst ce
      refine k203_6 x sd w _ j h _ ?_
      rw [e]
      exact ⟨by unfold inR; omega, by unfold inR; omega, by omega, by omega, fun _ => zq1 k, fun d => absurd (by omega) d⟩
    | succ g ih =>
      intro j c hj j0 c0 c1 ce
      refine k203_6 x sd w c j h _ ?_
      rw [e]
      refine ⟨by unfold inR; omega, by unfold inR; omega, by omega, by omega, fun d => absurd d (by omega), fun _ => rd j j0 (by omega) _ ⟨fun d => ⟨by unfold inR; omega, by unfold inR; omega, ih (j + 1) _ (by omega) (by omega) (by omega) (by omega) ?_⟩, fun d => ⟨by unfold inR; omega, by unfold inR; omega, ih (j + 1) _ (by omega) (by omega) (by omega) (by omega) ?_⟩⟩⟩
      · rw [cnt_n (P := fun k => f k = w) d] at ce; rw [Int.add_zero]; exact ce
      · rw [cnt_y (P := fun k => f k = w) (Classical.not_not.1 d)] at ce; omega
  exact cI (k203_0 x sd w h _ (key E.toNat 0 0 (by omega) (by omega) (by omega) (by omega) (by rw [Int.zero_add])))
theorem s204l {Q : Option zV → zH → Prop} {u0 u1 u2 : zV} : ∀ (f V : Nat) (c : Int), pcN 26 V = f → V < 67108864 → 0 ≤ c → c + f ≤ 26 → Q (some (vI (c + f))) h → zK 204 67 [u0, u1, u2, vI c, vI (V : Int)] [] h Q := by
  intro f
  induction f with
  | zero =>
    intro V c hf hV c0 c1 k
    have V0 : V = 0 := by
      apply Classical.byContradiction
      intro d
      have := pcN_dec 26 V hV d
      omega
    refine k204_67 u0 u1 u2 c _ h Q ⟨fun _ => ?_, fun d => absurd (by omega) d⟩
    rw [show c + ((0 : Nat) : Int) = c by omega] at k; exact k
  | succ f ih =>
    intro V c hf hV c0 c1 k
    have V0 : ¬ V = 0 := fun d => by rw [d, pcN_0] at hf; omega
    have dc := pcN_dec 26 V hV V0
    have e : iAnd (V : Int) ((V : Int) - 1) = ((V &&& (V - 1) : Nat) : Int) := by
      have := iAndN (x := V) (y := V - 1) (by omega) (by omega)
      rwa [show ((V - 1 : Nat) : Int) = (V : Int) - 1 by omega] at this
    refine k204_67 u0 u1 u2 c _ h Q ⟨fun d => absurd d (by omega), fun _ => ⟨by unfold inR; omega, by unfold inR; omega, ?_⟩⟩
    rw [e]
    refine ih _ (c + 1) (by omega) (Nat.lt_of_le_of_lt Nat.and_le_left hV) (by omega) (by omega) ?_
    rw [show c + 1 + (f : Int) = c + ((f + 1 : Nat) : Int) by omega]; exact k
/-- letters of tokens -/
def lTk (s : pS) (e l : Int) : Prop := ∃ k, 0 ≤ k ∧ k < e ∧ (s 3 k 0 = 1 ∨ s 3 k 0 = 6) ∧ s 3 k 1 = l
theorem s204 {w : Int → Int} {m : Int} {s : pS} (p : mPt h x w m s) (tc : gI h 140 (2 * x) = s 0 0 3) (en : rEn w m 0 0 s) {V : Nat} (hV : bO (V : Nat) (fun l => lTk s (s 0 0 3) l)) {K : Int → zH → Prop} (k : K (pcN 26 V : Nat) h) : zC1 204 [vR 127 111, vI x] h K := by
  have hx := p.1
  have t4 := en.t40
  have t0 := (en.tk3 (j := 0) (by omega) (by have := en.N; omega))
  have key : ∀ (g : Nat) (j c : Int) (u4 : zV), j + g = s 0 0 3 → 0 ≤ j → bO c (fun l => lTk s j l) → zK 204 4 [vR 127 111, vI x, vI c, vI j, u4] [] h (fun r h1 => ∃ v : Int, r = some (Sum.inl v) ∧ K v h1) := by
    intro g
    induction g with
    | zero =>
      intro j c u4 hj j0 b
      have ej : j = s 0 0 3 := by omega
      rw [ej] at b
      have ec := bO_u b hV
      subst ec
      have hv : V < 67108864 := by
        obtain ⟨W, e1, e2, _⟩ := hV
        omega
      have pl := pcN_le 26 V
      refine k204_4 x _ j u4 h _ ?_
      rw [tc]
      exact ⟨by unfold inR; omega, by omega, by omega, fun _ => s204l (pcN 26 V) V 0 rfl hv (by omega) (by omega) (zq1 (by rw [Int.zero_add]; exact k)), fun d => absurd (by omega) d⟩
    | succ g ih =>
      intro j c u4 hj j0 b
      have hj1 : 0 ≤ j ∧ j < s 0 0 3 := ⟨j0, by omega⟩
      have nx : ¬ (s 3 j 0 = 1 ∨ s 3 j 0 = 6) → ∀ l, lTk s j l ↔ lTk s (j + 1) l := fun z l => by
        constructor
        · rintro ⟨k, k0, k1, k2⟩; exact ⟨k, k0, by omega, k2⟩
        · rintro ⟨k, k0, k1, k2, k3⟩
          by_cases d : k = j
          · rw [d] at k2; exact absurd k2 z
          · exact ⟨k, k0, by omega, k2, k3⟩
      have ny : (s 3 j 0 = 1 ∨ s 3 j 0 = 6) → ∀ l, lTk s (j + 1) l ↔ lTk s j l ∨ l = s 3 j 1 := fun z l => by
        constructor
        · rintro ⟨k, k0, k1, k2, k3⟩
          by_cases d : k = j
          · rw [d] at k3; exact Or.inr k3.symm
          · exact Or.inl ⟨k, k0, by omega, k2, k3⟩
        · rintro (⟨k, k0, k1, k2⟩ | q)
          · exact ⟨k, k0, by omega, k2⟩
          · exact ⟨j, j0, by omega, z, q.symm⟩
      have add : (s 3 j 0 = 1 ∨ s 3 j 0 = 6) → ∀ u4, zK 204 40 [vR 127 111, vI x, vI c, vI j, u4] [vI c] h (fun r h1 => ∃ v : Int, r = some (Sum.inl v) ∧ K v h1) := by
        intro z u4
        have lr : 0 ≤ s 3 j 1 ∧ s 3 j 1 < 26 := by
          obtain ⟨i, i0, i1, i2⟩ := tk_it0 en hj1.1 hj1.2 (by omega)
          have ct := en.ct i0 i1
          rw [i2] at ct
          omega
        exact k204_40 x _ j u4 c h _ (s179 1 p hj1 t4 (by omega) ⟨by unfold inR; omega, ih (j + 1) _ u4 (by omega) (by omega) (bO_or b lr (ny z))⟩)
      refine k204_4 x c j u4 h _ ?_
      rw [tc]
      refine ⟨by unfold inR; omega, by omega, by omega, fun d => absurd d (by omega), fun _ => s179 0 p hj1 t4 (by omega) ⟨fun c1 => add (Or.inl c1) _, fun c1 => ⟨fun c6 => ⟨by unfold inR; omega, ih (j + 1) _ _ (by omega) (by omega) ?_⟩, fun c6 => add (Or.inr (Classical.not_not.1 c6)) _⟩⟩⟩
      exact bO_oo b (bO_n (P := fun _ => False) (fun _ _ q => q)) (fun l => (nx (by omega) l).symm.trans ⟨Or.inl, fun q => by rcases q with q | q; exact q; exact q.elim⟩)
  exact cI (k204_0 x h _ (key (s 0 0 3).toNat 0 0 _ (by omega) (by omega) (bO_n (fun l _ q => by obtain ⟨k, k0, k1, _⟩ := q; omega))))
theorem s205 {q : Int} (o : slO rn rt rs) (u : mRu h rn rt rs) (tt : mTs h rn rt rs) (bL : ∀ x, (0 ≤ x ∧ x < 8) → ¬ rn x = 0 → ∃ v, bO v (fun l => ¬ rs x 5 l 0 = 0)) {K : Int → zH → Prop} (k : K (aTld rn rt rs x q) (sI h 127 0 0)) : zC1 205 [vR 127 111, vI x, vI q] h K := by
  unfold aTld at k
  refine cI (k205_0 x q h _ (fun h7 e7 => ?_))
  rw [← e7] at k
  have f7 : frP (fun b k => b = 127 ∧ k = 0) h h7 := by rw [e7]; exact frP.rf.st ⟨rfl, rfl⟩
  have u7 : mRu h7 rn rt rs := u.fr o f7 (fun k _ => by omega) (fun k => by omega)
  have t7 : mTs h7 rn rt rs := tt.fr f7 (by omega) (fun b k _ _ => by omega)
  refine s143 o u7 ⟨fun c => ?_, fun c => zq1 ?_⟩
  · rw [b2i_ne0] at c
    rw [if_pos c] at k
    have gd := o.gd c.1 c.2
    have en := gd.1.en.1
    have e1 := gd.1.e1
    have N := en.N
    have N1 := e1.1.N
    have pt := u7.pt o c.1 c.2
    have pp := u7.pp c.1 c.2
    have mt := ((u7 x c.1.1 c.1.2).2 c.2).2
    have t4 := en.t40
    have t41 := e1.1.t41
    have tc : gI h7 140 (2 * x) = sP rn rt rs x 0 0 3 := by rw [mt.1.1]; exact gd.1.2.2.2.2.2.2.2.2.2.2.1
    have rt0 := en.rt
    have rt1 := e1.1.rt
    rw [show kid 0 = 3 from rfl] at rt0
    rw [show kid 1 = 7 from rfl] at rt1
    have tk0 := en.tk3 (j := 0) (by omega) (by omega)
    have side0 : ∀ w w2 : Int, (∀ i, 0 ≤ i → i < sP rn rt rs x 0 0 1 → (sP rn rt rs x 3 (sP rn rt rs x 4 i 0) 0 = w2 ↔ sP rn rt rs x 1 i 0 = w)) → ¬ w2 = 7 → cnt (fun k => sP rn rt rs x 3 k 0 = w2) (sP rn rt rs x 0 0 3).toNat 0 = cnt (fun i => sP rn rt rs x 1 i 0 = w) (sP rn rt rs x 0 0 1).toNat 0 := by
      intro w w2 hw h7
      have z := cnt_tk (P := fun k => sP rn rt rs x 3 k 0 = w2) (Q := fun i => sP rn rt rs x 1 i 0 = w) (tk := fun i => sP rn rt rs x 4 i 0) (b := 0) (e := sP rn rt rs x 0 0 1) (E := sP rn rt rs x 0 0 3) (fun i j h0 h1 h2 => en.tlt h0 h1 h2) (fun i h0 h1 => by have := en.tk3 h0 h1; omega) hw (fun k k0 k1 hk => by
        obtain ⟨j, j0, j1, j2⟩ := tk_it0 en (k := k) (by omega) k1 (by omega)
        exact ⟨j, j0, j1, j2⟩) ((sP rn rt rs x 0 0 1).toNat - 1) 0 (by omega) (by omega)
      rw [rt0.2.2.2, Int.sub_zero, show (sP rn rt rs x 0 0 1).toNat - 1 + 1 = (sP rn rt rs x 0 0 1).toNat by omega] at z
      exact z
    have rd0 : ∀ k, 0 ≤ k → k < sP rn rt rs x 0 0 3 → ∀ (K : Int → zH → Prop), K (sP rn rt rs x 3 k 0) h7 → zC1 179 [vR 127 111, vI x, vI 0, vI k, vI 0] h7 K := fun k k0 k1 K q => s179 0 pt ⟨k0, k1⟩ t4 (by omega) q
    have rd1 : ∀ k, 0 ≤ k → k < rs x 0 0 7 → ∀ (K : Int → zH → Prop), K (rs x 7 k 0) h7 → zC1 179 [vR 127 111, vI x, vI 1, vI k, vI 0] h7 K := fun k k0 k1 K q => s179b 0 pp ⟨k0, k1⟩ t41.1 (by omega) q
    rw [(t7.1 x c.1.1 c.1.2 c.2).1]
    refine ⟨fun t0 => ⟨c.1.1, c.1.2, zq1 ?_⟩, fun t0 => ⟨fun t1 => s203 c.1 ⟨by omega, by omega⟩ ⟨by omega, t4⟩ (by rw [Int.add_zero]; exact tc) rd0 (zq1 ?_), fun t1 => ⟨fun t2 => s203 c.1 ⟨by omega, by omega⟩ ⟨by omega, t4⟩ (by rw [Int.add_zero]; exact tc) rd0 (zq1 ?_), fun t2 => ⟨fun t3 => ?_, fun t3 => ⟨fun t4 => s203 c.1 ⟨by omega, by omega⟩ ⟨t41.2, t41.1⟩ mt.2.1 rd1 (zq1 ?_), fun t4 => zq1 ?_⟩⟩⟩⟩⟩
    · rwa [if_pos t0] at k
    · rw [if_neg t0, if_pos (by omega)] at k
      rw [side0 5 6 (fun i i0 i1 => by have := en.ct i0 i1; omega) (by omega)]; exact k
    · rw [if_neg t0, if_neg (by omega), if_pos (by omega)] at k
      rw [side0 2 2 (fun i i0 i1 => by have := en.ct i0 i1; omega) (by omega)]; exact k
    · rw [if_neg t0, if_neg (by omega), if_neg (by omega), if_pos (by omega)] at k
      obtain ⟨v, hv⟩ := bL x c.1 c.2
      have eL := ltNu_e (s := rs x) hv
      have hv2 := hv
      obtain ⟨V, eV, hV, bV⟩ := hv2
      rw [← eL, eV, Int.toNat_natCast] at k
      rw [eV] at hv
      refine s204 pt tc en (bO_c6 hv (fun l hl => ⟨fun q => ?_, fun q => ?_⟩)) (zq1 k)
      · obtain ⟨j, j0, j1, j2⟩ := gd.1.p5 gd.2 (o.rd c.1 c.2) q
        have ct := en.ct j0 j1
        have tk := en.tk3 j0 j1
        exact ⟨sP rn rt rs x 4 j 0, tk.1, by omega, by omega, by omega⟩
      · obtain ⟨k, k0, k1, k2, k3⟩ := q
        obtain ⟨j, j0, j1, j2⟩ := tk_it0 en k0 k1 (by omega)
        have ct := en.ct j0 j1
        rw [j2] at ct
        have l5 := gd.1.2.2.2.2.2.2.2.2.2.2.2 l
        rw [l5]
        have el : sP rn rt rs x 1 j 1 = l := by omega
        rw [← el]
        omega
    · rw [if_neg t0, if_neg (by omega), if_neg (by omega), if_neg (by omega), if_pos (by omega)] at k
      have z := cnt_tk (P := fun k => rs x 7 k 0 = 5) (Q := fun i => rs x 1 i 0 = 4) (tk := fun i => rs x 4 i 0) (b := sP rn rt rs x 0 0 1) (e := rs x 0 0 1) (E := rs x 0 0 7) (fun i j h0 h1 h2 => e1.1.tl1 h0 h1 h2) (fun i h0 h1 => by have := e1.1.tk h0 h1; rw [show kid 1 = 7 from rfl] at this; omega) (fun i h0 h1 => by have := e1.1.ct1 h0 h1; show rs x 7 (rs x 4 i 0) 0 = 5 ↔ rs x 1 i 0 = 4; omega) (fun k k0 k1 hk => tok_it e1.1 (rs x 0 0 1 - sP rn rt rs x 0 0 1).toNat (sP rn rt rs x 0 0 1) k (by omega) (by omega) (by omega) k0 k1 (by have hk : rs x 7 k 0 = 5 := hk; omega)) ((rs x 0 0 1 - sP rn rt rs x 0 0 1).toNat - 1) (sP rn rt rs x 0 0 1) (by omega) (by omega)
      rw [rt1.2.2.2, Int.sub_zero, show (rs x 0 0 1 - sP rn rt rs x 0 0 1).toNat - 1 + 1 = (rs x 0 0 1 - sP rn rt rs x 0 0 1).toNat by omega] at z
      rw [z]; exact k
    · rw [if_neg t0, if_neg (by omega), if_neg (by omega), if_neg (by omega), if_neg (by omega)] at k; exact k
  · have c := b2i_eq0.1 (Classical.not_not.1 c)
    rwa [if_neg c] at k
end TM
