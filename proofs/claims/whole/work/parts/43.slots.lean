/-! The rules in their slots. -/
/-- what stands in the slots: how long (0: none), the text, what was read -/
def slO (rn : Int → Int) (rt : Int → Int → Int) (rs : Int → pS) : Prop := ∀ x, 0 ≤ x → x < 8 → rn x = 0 ∨ (0 < rn x ∧ tOk (rt x) (rn x) ∧ rread (rt x) (rn x) = (true, rs x))
def xRu (h : zH) (A : Nat) (rn : Int → Int) (rt : Int → Int → Int) (rs : Int → pS) : Prop := ∀ x, 0 ≤ x → x < 8 → (rn x = 0 → gR h A x = 0) ∧ (¬ rn x = 0 → 170 ≤ gR h A x ∧ gR h A x + 15 ≤ nx h ∧ xQ h (gR h A x) (rt x) (rn x) (rs x))
def mTk (h : zH) (x : Int) (s : pS) : Prop := (gI h 140 (2 * x) = s 0 0 3 ∧ ∀ k (j : Nat), 0 ≤ k → k < s 0 0 3 → j < 6 → gI h 139 (246 * (2 * x) + 6 * k + j) = s 3 k j) ∧ (gI h 140 (2 * x + 1) = s 0 0 7 ∧ ∀ k (j : Nat), 0 ≤ k → k < s 0 0 7 → j < 6 → gI h 139 (246 * (2 * x + 1) + 6 * k + j) = s 7 k j)
def mRu (h : zH) (rn : Int → Int) (rt : Int → Int → Int) (rs : Int → pS) : Prop := ∀ x, 0 ≤ x → x < 8 → gI h 128 (301 + 301 * x + 300) = rn x ∧ (¬ rn x = 0 → (∀ i, 0 ≤ i → i < rn x → gI h 128 (301 + 301 * x + i) = rt x i) ∧ mTk h x (rs x))
section SL
variable {h : zH} {rn : Int → Int} {rt : Int → Int → Int} {rs : Int → pS}
theorem s31 {x : Int} (u : xRu h 53 rn rt rs) {K : Int → zH → Prop} (k : K (b2i ((0 ≤ x ∧ x < 8) ∧ ¬ rn x = 0)) h) : zC1 31 [vR 2 100, vI x] h K := by
  refine cI (k31_0 x h _ ⟨fun c => ⟨Or.inl rfl, zq1 ?_⟩, fun c => ⟨fun d => ⟨Or.inl rfl, zq1 ?_⟩, fun d => ⟨by omega, by omega, fun e => ⟨Or.inl rfl, zq1 ?_⟩, fun e => ⟨Or.inr rfl, zq1 ?_⟩⟩⟩⟩)
  · rwa [b2i_neg (by omega)] at k
  · rwa [b2i_neg (by omega)] at k
  · rwa [b2i_neg (fun f => ?_)] at k
    have := (u x f.1.1 f.1.2).2 f.2
    omega
  · rwa [b2i_pos ⟨by omega, fun f => e ((u x (by omega) (by omega)).1 f)⟩] at k
theorem s142 {x : Int} (hx : 0 ≤ x ∧ x ≤ 8) {K : Int → zH → Prop} (k : K (301 + 301 * x) h) : zC1 142 [vI x] h K :=
  cI (k142_0 x h _ ⟨by unfold inR; omega, by unfold inR; omega, zq1 k⟩)
theorem s143 {x : Int} (o : slO rn rt rs) (u : mRu h rn rt rs) {K : Int → zH → Prop} (k : K (b2i ((0 ≤ x ∧ x < 8) ∧ ¬ rn x = 0)) h) : zC1 143 [vR 127 111, vI x] h K := by
  refine cI (k143_0 x h _ (s141 ⟨fun c => ⟨Or.inl rfl, zq1 ?_⟩, fun c => ?_⟩))
  · rw [b2i_eq0] at c; rwa [b2i_neg (by omega)] at k
  · rw [b2i_ne0] at c
    have y := (u x (by omega) (by omega)).1
    have ox := o x (by omega) (by omega)
    refine s142 (by omega) ?_
    rw [y]
    refine ⟨by unfold inR; omega, by omega, by omega, fun d => ⟨Or.inl rfl, zq1 ?_⟩, fun d => ⟨Or.inr rfl, zq1 ?_⟩⟩
    · rwa [b2i_neg (fun f => by rcases ox with e | e <;> omega)] at k
    · rwa [b2i_pos ⟨by omega, by omega⟩] at k
theorem s177l (o : slO rn rt rs) (u : mRu h rn rt rs) {Q : Option zV → zH → Prop} : ∀ (f : Nat) (z c : Int), 8 - z = f → 0 ≤ z → 0 ≤ c → c ≤ z → Q (some (vI (c + cnt (fun x => ¬ rn x = 0) f z))) h → zK 177 4 [vR 127 111, vI c, vI z] [] h Q := by
  intro f
  induction f with
  | zero =>
    intro z c hz h0 c0 c1 k
    rw [cnt, Int.add_zero] at k
    exact k177_4 c z h Q ⟨fun _ => k, fun d => absurd (by omega) d⟩
  | succ f ih =>
    intro z c hz h0 c0 c1 k
    refine k177_4 c z h Q ⟨fun d => absurd d (by omega), fun _ => s143 o u ⟨fun d => ⟨by unfold inR; omega, by unfold inR; omega, ih (z + 1) (c + 0) (by omega) (by omega) (by omega) (by omega) ?_⟩, fun d => ⟨by unfold inR; omega, by unfold inR; omega, ih (z + 1) (c + 1) (by omega) (by omega) (by omega) (by omega) ?_⟩⟩⟩
    · rw [b2i_eq0] at d
      rw [cnt_n (fun e => d ⟨by omega, e⟩)] at k
      rw [Int.add_zero]; exact k
    · rw [b2i_ne0] at d
      rw [cnt_y (P := fun x => ¬ rn x = 0) d.2] at k
      rw [show c + 1 + cnt (fun x => ¬ rn x = 0) f (z + 1) = c + (1 + cnt (fun x => ¬ rn x = 0) f (z + 1)) by omega]; exact k
theorem s177 (o : slO rn rt rs) (u : mRu h rn rt rs) {K : Int → zH → Prop} (k : K (cnt (fun x => ¬ rn x = 0) 8 0) h) : zC1 177 [vR 127 111] h K :=
  cI (k177_0 h _ (s177l o u 8 0 0 (by omega) (by omega) (by omega) (by omega) (zq1 (by rw [Int.zero_add]; exact k))))
/-- references are copied -/
theorem s42 {A B : Nat} (hA : ∀ x, 0 ≤ x → x < 8 → gR h A x = 0 ∨ zty 103 (gR h A x) h) (hne : ¬ A = B) {K : zH → Prop}
    (k : ∀ h1, (∀ b i, gI h1 b i = gI h b i) → (∀ b i, ¬ (b = B ∧ 0 ≤ i ∧ i < 8) → gR h1 b i = gR h b i) → h1.2.2 = h.2.2 → (∀ x, 0 ≤ x → x < 8 → gR h1 B x = gR h A x) → K h1) : zC0 42 [vR A 944, vR B 944] h K := by
  have key : ∀ (d : Nat) (z : Int) (h2 : zH), 8 - z = d → 0 ≤ z → (∀ b i, gI h2 b i = gI h b i) → (∀ b i, ¬ (b = B ∧ 0 ≤ i ∧ i < 8) → gR h2 b i = gR h b i) → h2.2.2 = h.2.2 → (∀ x, 0 ≤ x → x < z → gR h2 B x = gR h A x) → zK 42 2 [vR A 944, vR B 944, vI z] [] h2 (fun r h1 => r = none ∧ K h1) := by
    intro d
    induction d with
    | zero =>
      intro z h2 hz h0 g1 g2 g3 g4
      exact k42_2 A B z h2 _ ⟨fun _ => zq0 (k h2 g1 g2 g3 (fun x x0 x1 => g4 x x0 (by omega))), fun c => absurd (by omega) c⟩
    | succ d ih =>
      intro z h2 hz h0 g1 g2 g3 g4
      have gA : gR h2 A z = gR h A z := g2 _ _ (by omega)
      refine k42_2 A B z h2 _ ⟨fun c => absurd c (by omega), fun _ => ?_⟩
      rw [gA]
      refine ⟨by omega, by omega, by omega, by omega, ?_, fun h3 e3 => ⟨by unfold inR; omega, ih (z + 1) h3 (by omega) (by omega) (fun b i => ?_) (fun b i q => ?_) ?_ (fun x x0 x1 => ?_)⟩⟩
      · rcases hA z h0 (by omega) with q | q
        · exact Or.inl q
        · right; unfold zty nx tg ln at q ⊢; rw [g3]; exact q
      · rw [e3, gIR]; exact g1 b i
      · rw [e3, gRR, if_neg (by omega)]; exact g2 b i q
      · rw [e3]; exact g3
      · rw [e3, gRR]
        by_cases c : x = z
        · rw [if_pos ⟨rfl, c⟩, c]
        · rw [if_neg (by omega)]; exact g4 x x0 (by omega)
  exact cV (k42_0 A B h _ (key 8 0 h (by omega) (by omega) (fun _ _ => rfl) (fun _ _ _ => rfl) rfl (fun x _ _ => by omega)))
def mkA (x : Int) (b : Nat) (k : Int) : Prop := (b = 140 ∧ (k = 2 * x ∨ k = 2 * x + 1)) ∨ (b = 139 ∧ 492 * x ≤ k ∧ k < 492 * x + 492)
/-- the tokens that were read are laid into a slot -/
theorem s174 {x : Int} {s : pS} (hx : 0 ≤ x ∧ x < 8) (f : mF h s) (h3 : s 0 0 3 ≤ 41 ∧ s 0 0 7 ≤ 41) {K : zH → Prop} (k : ∀ h1, frP (mkA x) h h1 → mTk h1 x s → K h1) : zC0 174 [vR 127 111, vI x] h K := by
  -- one side
  have side : ∀ (d : Int) (h2 : zH) (Q : Option zV → zH → Prop) (u : zV), d = 0 ∨ d = 1 → (∀ h4, frP (fun b k => (b = 140 ∧ k = 2 * x + d) ∨ (b = 139 ∧ 246 * (2 * x + d) ≤ k ∧ k < 246 * (2 * x + d) + 246)) h2 h4 → gI h4 140 (2 * x + d) = gI h2 142 d → (∀ j, 0 ≤ j → j < 246 → gI h4 139 (246 * (2 * x + d) + j) = gI h2 141 (246 * d + j)) → ∀ u, zK 174 2 [vR 127 111, vI x, vI (d + 1), u] [] h4 Q) → zK 174 2 [vR 127 111, vI x, vI d, u] [] h2 Q := by
    intro d h2 Q u hd kk
    refine k174_2 x d u h2 Q ⟨fun c => absurd c (by omega), fun _ => ⟨by unfold inR; omega, by unfold inR; omega, by omega, by omega, by omega, by omega, fun h3 e3 => ?_⟩⟩
    have f3 : frP (fun b k => (b = 140 ∧ k = 2 * x + d) ∨ (b = 139 ∧ 246 * (2 * x + d) ≤ k ∧ k < 246 * (2 * x + d) + 246)) h2 h3 := by rw [e3]; exact frP.rf.st (Or.inl ⟨rfl, rfl⟩)
    refine cploopo h3 139 (246 * (2 * x + d)) 246 (fun j => gI h2 141 (246 * d + j)) (fun l hh => zK 174 25 [vR 127 111, vI x, vI d, vI l] [] hh Q) (fun l h5 l0 l1 f5 k5 => ?_) (fun h5 f5 v5 => ?_) (by omega)
    · have y : gI h5 141 (246 * d + l) = gI h2 141 (246 * d + l) := by rw [f5.1 _ _ (by omega), e3, gS, if_neg (by omega)]
      refine k174_25 x d l h5 Q ⟨fun c => absurd c (by omega), fun _ => ?_⟩
      rw [y]
      refine ⟨by unfold inR; omega, by unfold inR; omega, by unfold inR; omega, by unfold inR; omega, by unfold inR; omega, by unfold inR; omega, by omega, by omega, by omega, by omega, fun h6 e6 => ⟨by unfold inR; omega, ?_⟩⟩
      rw [e6]; exact k5
    · refine k174_25 x d 246 h5 Q ⟨fun _ => ⟨by unfold inR; omega, kk h5 ?_ ?_ v5 _⟩, fun c => absurd (by omega) c⟩
      · exact f3.tr (f5.mo (fun b k q => Or.inr q))
      · rw [f5.1 _ _ (by omega), e3, gS1]
  obtain ⟨⟨a1, a2⟩, ⟨b1, b2⟩⟩ := f
  refine cV (k174_0 x h _ (side 0 h _ _ (Or.inl rfl) (fun h4 f4 z4 v4 u4 => side 1 h4 _ _ (Or.inr rfl) (fun h5 f5 z5 v5 u5 => k174_2 x _ u5 h5 _ ⟨fun _ => zq0 (k h5 ?_ ⟨⟨?_, fun i j h0 h1 hj => ?_⟩, ⟨?_, fun i j h0 h1 hj => ?_⟩⟩), fun c => absurd (by omega) c⟩))))
  · refine (f4.mo (fun b k q => ?_)).tr (f5.mo (fun b k q => ?_))
    · unfold mkA; omega
    · unfold mkA; omega
  · rw [f5.1 _ _ (by omega), show 2 * x = 2 * x + 0 by omega, z4]; exact a1
  · have e := v4 (6 * i + j) (by omega) (by omega)
    rw [f5.1 _ _ (by omega), show 246 * (2 * x) + 6 * i + (j : Int) = 246 * (2 * x + 0) + (6 * i + j) by omega, e, show 246 * (0 : Int) + (6 * i + j) = 6 * i + j by omega]
    exact a2 i j h0 h1 hj
  · rw [z5, f4.1 _ _ (by omega)]; exact b1
  · have e := v5 (6 * i + j) (by omega) (by omega)
    rw [show 246 * (2 * x + 1) + 6 * i + (j : Int) = 246 * (2 * x + 1) + (6 * i + j) by omega, e, f4.1 _ _ (by omega), show 246 * (1 : Int) + (6 * i + j) = 246 + 6 * i + j by omega]
    exact b2 i j h0 h1 hj
end SL
