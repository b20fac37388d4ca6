/-! What is told of a rule: both programs. -/
theorem bO_u {v w : Int} {P : Int → Prop} (b : bO v P) (c : bO w P) : v = w := by
  obtain ⟨V, e, hV, b⟩ := b
  obtain ⟨W, f, hW, c⟩ := c
  have : V = W := by
    apply Nat.eq_of_testBit_eq
    intro i
    by_cases d : i < 26
    · have q := (b i d).trans (c i d).symm
      cases h1 : V.testBit i with
      | true => rw [h1] at q; exact (q.1 rfl).symm
      | false =>
        cases h2 : W.testBit i with
        | true => rw [h1, h2] at q; exact q.2 rfl
        | false => rfl
    · rw [Nat.testBit_lt_two_pow (Nat.lt_of_lt_of_le (show V < 2 ^ 26 from hV) (Nat.pow_le_pow_right (show 0 < 2 by decide) (show 26 ≤ i by omega))), Nat.testBit_lt_two_pow (Nat.lt_of_lt_of_le (show W < 2 ^ 26 from hW) (Nat.pow_le_pow_right (show 0 < 2 by decide) (show 26 ≤ i by omega)))]
  rw [e, f, this]
theorem bO_c6 {v : Int} {P Q : Int → Prop} (b : bO v P) (h : ∀ l : Nat, l < 26 → (P l ↔ Q l)) : bO v Q := by
  obtain ⟨V, e, hV, b⟩ := b
  exact ⟨V, e, hV, fun k hk => (b k hk).trans (h k hk)⟩
theorem bO_n {P : Int → Prop} (h : ∀ l : Nat, l < 26 → ¬ P l) : bO 0 P := ⟨0, rfl, by omega, fun l hl => ⟨fun q => (by rw [Nat.zero_testBit] at q; cases q), fun q => absurd q (h l hl)⟩⟩
/-- the letters of a rule as bits -/
noncomputable def ltNu (s : pS) : Int := @Classical.epsilon Int ⟨0⟩ (fun v => bO v (fun l => ¬ s 5 l 0 = 0))
theorem ltNu_e {s : pS} {v : Int} (b : bO v (fun l => ¬ s 5 l 0 = 0)) : v = ltNu s := bO_u b (@Classical.epsilon_spec_aux Int ⟨0⟩ (fun v => bO v (fun l => ¬ s 5 l 0 = 0)) ⟨v, b⟩)
noncomputable def aTld (rn : Int → Int) (rt : Int → Int → Int) (rs : Int → pS) (x q : Int) : Int := if (0 ≤ x ∧ x < 8) ∧ ¬ rn x = 0 then (if q = 0 then ((tRw (sP rn rt rs x)).length : Int) else if q = 1 then cnt (fun i => sP rn rt rs x 1 i 0 = 5) (sP rn rt rs x 0 0 1).toNat 0 else if q = 2 then cnt (fun i => sP rn rt rs x 1 i 0 = 2) (sP rn rt rs x 0 0 1).toNat 0 else if q = 3 then ((pcN 26 (ltNu (rs x)).toNat : Nat) : Int) else if q = 4 then cnt (fun i => rs x 1 i 0 = 4) (rs x 0 0 1 - sP rn rt rs x 0 0 1).toNat (sP rn rt rs x 0 0 1) else -1) else -1
theorem cnt_gap {P : Int → Prop} : ∀ (g r : Nat) (a : Int), (∀ k, a ≤ k → k < a + g → ¬ P k) → cnt P (g + r) a = cnt P r (a + g)
  | 0, r, a, _ => by rw [Nat.zero_add]; show cnt P r a = cnt P r (a + 0); rw [Int.add_zero]
  | g + 1, r, a, h => by
    rw [show g + 1 + r = (g + r) + 1 by omega, cnt_n (h a (by omega) (by omega)), cnt_gap g r (a + 1) (fun k k0 k1 => h k (by omega) (by omega)), show a + 1 + (g : Int) = a + ((g + 1 : Nat) : Int) by omega]
theorem cnt_cg {P Q : Int → Prop} : ∀ (k : Nat) (i : Int), (∀ j, i ≤ j → j < i + k → (P j ↔ Q j)) → cnt P k i = cnt Q k i
  | 0, _, _ => rfl
  | k + 1, i, h => by rw [cnt, cnt, b2i_congr (h i (by omega) (by omega)), cnt_cg k (i + 1) (fun j h0 h1 => h j (by omega) (by omega))]
/-- items against tokens -/
theorem cnt_tk {P Q : Int → Prop} {tk : Int → Int} {b e E : Int} (mo : ∀ i j, b ≤ i → i < j → j < e → tk i < tk j) (bd : ∀ i, b ≤ i → i < e → tk i < E) (pq : ∀ i, b ≤ i → i < e → (P (tk i) ↔ Q i)) (ow : ∀ k, tk b ≤ k → k < E → P k → ∃ j, b ≤ j ∧ j < e ∧ tk j = k) : ∀ (f : Nat) (i : Int), e - i = (f + 1 : Nat) → b ≤ i → cnt P (E - tk i).toNat (tk i) = cnt Q (f + 1) i := by
  have mb : ∀ i, b ≤ i → i < e → tk b ≤ tk i := fun i h0 h1 => by
    by_cases c : i = b
    · rw [c]; exact Int.le_refl _
    · have := mo b i (Int.le_refl _) (by omega) h1; omega
  intro f
  induction f with
  | zero =>
    intro i hi h0
    have t1 := bd i h0 (by omega)
    have gap : ∀ k, tk i + 1 ≤ k → k < tk i + 1 + ((E - tk i - 1).toNat : Nat) → ¬ P k := fun k k0 k1 hk => by
      have mi := mb i h0 (by omega)
      obtain ⟨j, j0, j1, j2⟩ := ow k (by omega) (by omega) hk
      by_cases c : j = i
      · rw [c] at j2; omega
      · have := mo j i j0 (by omega) (by omega); omega
    have e0 := cnt_gap (P := P) (E - tk i - 1).toNat 0 (tk i + 1) gap
    rw [Nat.add_zero] at e0
    rw [show (E - tk i).toNat = (E - tk i - 1).toNat + 1 by omega, cnt, cnt, b2i_congr (pq i h0 (by omega)), e0]
    rfl
  | succ f ih =>
    intro i hi h0
    have t1 := mo i (i + 1) h0 (by omega) (by omega)
    have t2 := bd (i + 1) (by omega) (by omega)
    have gap : ∀ k, tk i + 1 ≤ k → k < tk i + 1 + ((tk (i + 1) - tk i - 1).toNat : Nat) → ¬ P k := fun k k0 k1 hk => by
      have mi := mb i h0 (by omega)
      obtain ⟨j, j0, j1, j2⟩ := ow k (by omega) (by omega) hk
      by_cases c : j ≤ i
      · by_cases d : j = i
        · rw [d] at j2; omega
        · have := mo j i j0 (by omega) (by omega); omega
      · by_cases d : j = i + 1
        · rw [d] at j2; omega
        · have := mo (i + 1) j (by omega) (by omega) j1; omega
    have e0 := cnt_gap (P := P) (tk (i + 1) - tk i - 1).toNat (E - tk (i + 1)).toNat (tk i + 1) gap
    rw [show (E - tk i).toNat = ((tk (i + 1) - tk i - 1).toNat + (E - tk (i + 1)).toNat) + 1 by omega, cnt, b2i_congr (pq i h0 (by omega)), e0, show tk i + 1 + ((tk (i + 1) - tk i - 1).toNat : Nat) = tk (i + 1) by omega, ih (i + 1) (by omega) (by omega)]
    rfl
section TO
variable {h : zH} {rn : Int → Int} {rt : Int → Int → Int} {rs : Int → pS} {x : Int}
theorem s67 {r : Nat} {f : Int → Int} {w a b : Int} (ha : 0 ≤ a ∧ a ≤ b ∧ b ≤ 40) (e : ∀ i, a ≤ i → i < b → gI h (r + 3) i = f i) {K : Int → zH → Prop} (k : K (cnt (fun i => f i = w) (b - a).toNat a) h) : zC1 67 [vR r 103, vI w, vI a, vI b] h K := by
  have key : ∀ (g : Nat) (j c : Int) (u2 : zV), j + g = b → a ≤ j → 0 ≤ c → c ≤ j → c + cnt (fun i => f i = w) g j = cnt (fun i => f i = w) (b - a).toNat a → zK 67 6 [vR r 103, vI w, u2, vI b, vI c, vI j] [] h (fun r h1 => ∃ v : Int, r = some (Sum.inl v) ∧ K v h1) := by
    intro g
    induction g with
    | zero =>
      intro j c u2 hj j0 c0 c1 ce
      rw [cnt, Int.add_zero] at ce
      subst ce
      exact k67_6 r w u2 b _ j h _ ⟨fun _ => zq1 k, fun d => absurd (by omega) d⟩
    | succ g ih =>
      intro j c u2 hj j0 c0 c1 ce
      refine k67_6 r w u2 b c j h _ ?_
      rw [e j j0 (by omega)]
      refine ⟨fun d => absurd d (by omega), fun _ => ⟨by omega, by omega, fun d => ⟨by unfold inR; omega, by unfold inR; omega, ih (j + 1) _ _ (by omega) (by omega) (by omega) (by omega) ?_⟩, fun d => ⟨by unfold inR; omega, by unfold inR; omega, ih (j + 1) _ _ (by omega) (by omega) (by omega) (by omega) ?_⟩⟩⟩
      · rw [cnt_n (P := fun i => f i = w) d] at ce; rw [Int.add_zero]; exact ce
      · rw [cnt_y (P := fun i => f i = w) (Classical.not_not.1 d)] at ce; omega
  exact cI (k67_0 r w a b h _ (key (b - a).toNat a 0 _ (by omega) (by omega) (by omega) ha.1 (by rw [Int.zero_add])))
theorem s12 {q : Int} (o : slO rn rt rs) (u : xRu h 53 rn rt rs) {K : Int → zH → Prop} (k : ∀ h1, frX teA teR h h1 → K (aTld rn rt rs x q) h1) : zC1 12 [vR 2 100, vI x, vI q] h K := by
  unfold aTld at k
  refine cI (k12_0 x q h _ (s31 u ⟨fun c => ?_, fun c => zq1 ?_⟩))
  · rw [b2i_ne0] at c
    rw [if_pos c] at k
    have gd := o.gd c.1 c.2
    have en := gd.1.en.1
    have e1 := gd.1.e1
    have N := en.N
    have N1 := e1.1.N
    have pt := u.pt o c.1 c.2
    have xq := ((u x c.1.1 c.1.2).2 c.2).2.2
    have e14 : gI h (gR h 53 x) 14 = sP rn rt rs x 0 0 1 := by rw [xq.2.2.2.2.1]; exact e1.2.1
    have e13 : gI h (gR h 53 x) 13 = rs x 0 0 1 := xq.2.2.2.1
    have k0 := k h frX.rf
    obtain ⟨V, eV, hV, bV⟩ := xq.2.2.2.2.2
    have eL := ltNu_e (s := rs x) ⟨V, eV, hV, bV⟩
    have c0 : ∀ i, 0 ≤ i → i < sP rn rt rs x 0 0 1 → gI h (gR h 53 x + 3) i = sP rn rt rs x 1 i 0 := fun i i0 i1 => pt.2.2.2.1 i 0 i0 i1 (by omega)
    have c1 : ∀ i, sP rn rt rs x 0 0 1 ≤ i → i < rs x 0 0 1 → gI h (gR h 53 x + 3) i = rs x 1 i 0 := fun i i0 i1 => xq.2.2.1 i 0 (by omega) (by omega) (by omega)
    rw [e14, e13]
    refine ⟨c.1.1, c.1.2, fun t0 => ⟨xq.1, s105 pt.2 en (by omega) (fun h1 f1 _ => zq1 ?_)⟩, fun t0 => ⟨fun t1 => ⟨xq.1, xq.1, s67 (f := fun i => sP rn rt rs x 1 i 0) ⟨by omega, by omega, by omega⟩ c0 (zq1 ?_)⟩, fun t1 => ⟨fun t2 => ⟨xq.1, xq.1, s67 (f := fun i => sP rn rt rs x 1 i 0) ⟨by omega, by omega, by omega⟩ c0 (zq1 ?_)⟩, fun t2 => ⟨fun t3 => ⟨xq.1, ?_⟩, fun t3 => ⟨fun t4 => ⟨xq.1, xq.1, xq.1, s67 (f := fun i => rs x 1 i 0) ⟨by omega, by omega, by omega⟩ c1 (zq1 ?_)⟩, fun t4 => zq1 ?_⟩⟩⟩⟩⟩
    · have := k h1 (f1.mo (fun b k q => by unfold trA at q; unfold teA; omega)).x
      rwa [if_pos t0] at this
    · rw [if_neg t0, if_pos (by omega)] at k0; rw [Int.sub_zero]; exact k0
    · rw [if_neg t0, if_neg (by omega), if_pos (by omega)] at k0; rw [Int.sub_zero]; exact k0
    · rw [if_neg t0, if_neg (by omega), if_neg (by omega), if_pos (by omega), ← eL, eV, Int.toNat_natCast] at k0
      rw [eV]
      exact s258 hV (zq1 k0)
    · rw [if_neg t0, if_neg (by omega), if_neg (by omega), if_neg (by omega), if_pos (by omega)] at k0; exact k0
    · rw [if_neg t0, if_neg (by omega), if_neg (by omega), if_neg (by omega), if_neg (by omega)] at k0; exact k0
  · have c := b2i_eq0.1 (Classical.not_not.1 c)
    have := k h frX.rf
    rwa [if_neg c] at this
end TO
