/-! The model: keep; rules are read again. -/
def mKp (h : zH) (j : Int) (t : Int → Int) (n : Int) (rn : Int → Int) (rt : Int → Int → Int) : Prop := gI h 130 j = 1 ∧ (gI h 129 (2709 * j + 300) = n ∧ (∀ i, 0 ≤ i → i < n → gI h 129 (2709 * j + i) = t i) ∧ ∀ i, n ≤ i → i < 300 → gI h 129 (2709 * j + i) = 0) ∧ ∀ x, 0 ≤ x → x < 8 → gI h 129 (2709 * j + (301 + 301 * x + 300)) = rn x ∧ (¬ rn x = 0 → ∀ i, 0 ≤ i → i < rn x → gI h 129 (2709 * j + (301 + 301 * x + i)) = rt x i)
/-- the texts of rules alone -/
def mRx (h : zH) (rn : Int → Int) (rt : Int → Int → Int) : Prop := ∀ x, 0 ≤ x → x < 8 → gI h 128 (301 + 301 * x + 300) = rn x ∧ (¬ rn x = 0 → ∀ i, 0 ≤ i → i < rn x → gI h 128 (301 + 301 * x + i) = rt x i)
section KM
variable {h : zH} {t : Int → Int} {n : Int} {rn : Int → Int} {rt : Int → Int → Int} {rs : Int → pS}
theorem s253 {j : Int} (o : slO rn rt rs) (hn : 0 ≤ n ∧ n ≤ 300) (x : mW h t n) (u : mRx h rn rt) {K : Int → zH → Prop} (k1 : (0 ≤ j ∧ j < 2) → ∀ h1, frP (fun b k => (b = 127 ∧ k = 0) ∨ (b = 129 ∧ 2709 * j ≤ k ∧ k < 2709 * j + 2709) ∨ (b = 130 ∧ k = j)) h h1 → gI h1 127 0 = 0 → mKp h1 j t n rn rt → K 1 h1) (k2 : ¬ (0 ≤ j ∧ j < 2) → K 0 (sI h 127 0 0)) : zC1 253 [vR 127 111, vI j] h K := by
  refine cI (k253_0 j h _ (fun h5 e5 => s141 ⟨fun c => ?_, fun c => ⟨Or.inl rfl, zq1 ?_⟩⟩))
  · rw [b2i_ne0] at c
    have hj : 0 ≤ j ∧ j < 2 := by omega
    have f5 : frP (fun b k => b = 127 ∧ k = 0) h h5 := by rw [e5]; exact frP.rf.st ⟨rfl, rfl⟩
    refine cploopo h5 129 (2709 * j) 2709 (fun l => gI h5 128 l) (fun l hh => zK 253 19 [vR 127 111, vI j, vI l] [] hh _) (fun l h1 l0 l1 f1 kk => ?_) (fun h1 f1 v1 => ?_) (by omega)
    · refine k253_19 j l h1 _ ⟨fun d => absurd d (by omega), fun _ => ⟨by unfold inR; omega, by unfold inR; omega, l0, l1, by omega, by omega, fun h8 e8 => ⟨by unfold inR; omega, ?_⟩⟩⟩
      rw [f1.1 128 l (by omega)] at e8
      rw [e8]; exact kk
    · refine k253_19 j 2709 h1 _ ⟨fun _ => ⟨hj.1, hj.2, Or.inr rfl, fun h7 e7 => ⟨Or.inr rfl, zq1 (k1 hj h7 ?_ ?_ ?_)⟩⟩, fun d => absurd (Int.le_refl _) d⟩
      · rw [e7]; exact ((f5.mo (fun b k q => Or.inl q)).tr (f1.mo (fun b k q => Or.inr (Or.inl q)))).st (Or.inr (Or.inr ⟨rfl, rfl⟩))
      · rw [e7, gS, if_neg (by omega), f1.1 _ _ (by omega), e5, gS1]
      · have g : ∀ l, 0 ≤ l → l < 2709 → gI h7 129 (2709 * j + l) = gI h 128 l := fun l l0 l1 => by rw [e7, gS, if_neg (by omega), v1 l l0 l1, f5.1 _ _ (by omega)]
        refine ⟨by rw [e7, gS1], ⟨by rw [g _ (by omega) (by omega)]; exact x.1, fun i h0 h1 => by rw [g _ (by omega) (by omega)]; exact x.2.1 i h0 h1, fun i h0 h1 => by rw [g _ (by omega) (by omega)]; exact x.2.2 i h0 h1⟩, fun z z0 z1 => ⟨by rw [g _ (by omega) (by omega)]; exact (u z z0 z1).1, fun d i h0 h1 => ?_⟩⟩
        have n300 : rn z ≤ 300 := by
          rcases o z z0 z1 with r | r
          · omega
          · exact r.2.1.2.1
        rw [g _ (by omega) (by omega)]; exact (u z z0 z1).2 d i h0 h1
  · have c := b2i_eq0.1 (Classical.not_not.1 c)
    have := k2 (by omega)
    rwa [← e5] at this
theorem s143t {x : Int} (o : slO rn rt rs) (u : mRx h rn rt) {K : Int → zH → Prop} (k : K (b2i ((0 ≤ x ∧ x < 8) ∧ ¬ rn x = 0)) h) : zC1 143 [vR 127 111, vI x] h K := by
  refine cI (k143_0 x h _ (s141 ⟨fun c => ⟨Or.inl rfl, zq1 ?_⟩, fun c => ?_⟩))
  · rw [b2i_eq0] at c; rwa [b2i_neg (by omega)] at k
  · rw [b2i_ne0] at c
    have y := (u x (by omega) (by omega)).1
    have ox := o x (by omega) (by omega)
    refine s142 (by omega) ?_
    rw [y]
    refine ⟨by unfold inR; omega, by omega, by omega, fun d => ⟨Or.inl rfl, zq1 ?_⟩, fun d => ⟨Or.inr rfl, zq1 ?_⟩⟩
    · rwa [b2i_neg (fun f => by rcases ox with e | e <;> omega)] at k
    · rwa [b2i_pos ⟨by omega, by omega⟩] at k
def rdR (b : Nat) (k : Int) : Prop := (b = 127 ∧ k = 9) ∨ b = 133 ∨ rrA b k ∨ b = 139 ∨ b = 140
theorem mRx.fr {P : Nat → Int → Prop} {h1 : zH} (u : mRx h rn rt) (f : frP P h h1) (d : ∀ k, ¬ P 128 k) : mRx h1 rn rt := fun x x0 x1 => ⟨by rw [f.1 _ _ (d _)]; exact (u x x0 x1).1, fun z i h0 h1 => by rw [f.1 _ _ (d _)]; exact (u x x0 x1).2 z i h0 h1⟩
/-- the rules' texts are read once more -/
theorem s176 (o : slO rn rt rs) (u : mRx h rn rt) {K : zH → Prop} (k : ∀ h1, frP (fun b k => rdR b k ∨ mtTs b k) h h1 → mRu h1 rn rt rs → mTs h1 rn rt rs → K h1) : zC0 176 [vR 127 111] h K := by
  have key : ∀ (f : Nat) (z : Int) (h1 : zH) (u2 : zV), z + f = 8 → 0 ≤ z → frP rdR h h1 → (∀ x, 0 ≤ x → x < z → ¬ rn x = 0 → mTk h1 x (rs x)) → zK 176 2 [vR 127 111, vI z, u2] [] h1 (fun r h1 => r = none ∧ K h1) := by
    intro f
    induction f with
    | zero =>
      intro z h1 u2 hz z0 f1 tk
      have u1 : mRx h1 rn rt := u.fr f1 (fun k => by unfold rdR rrA; omega)
      have m1 : mRu h1 rn rt rs := fun x x0 x1 => ⟨(u1 x x0 x1).1, fun d => ⟨(u1 x x0 x1).2 d, tk x x0 (by omega) d⟩⟩
      refine k176_2 z u2 h1 _ ⟨fun _ => s218 o m1 (fun h9 f9 t9 => zq0 (k h9 ((f1.mo (fun b k q => Or.inl q)).tr (f9.mo (fun b k q => Or.inr q))) (m1.fr o f9 (fun k _ => by unfold mtTs; omega) (fun k => by unfold mtTs; omega)) t9)), fun d => absurd (by omega) d⟩
    | succ f ih =>
      intro z h1 u2 hz z0 f1 tk
      have u1 : mRx h1 rn rt := u.fr f1 (fun k => by unfold rdR rrA; omega)
      refine k176_2 z u2 h1 _ ⟨fun d => absurd d (by omega), fun _ => s143t o u1 ⟨fun c => ⟨by unfold inR; omega, ih (z + 1) h1 u2 (by omega) (by omega) f1 (fun x x0 x1 d => ?_)⟩, fun c => ?_⟩⟩
      · rw [b2i_eq0] at c
        exact tk x x0 (by
          apply Classical.byContradiction; intro q
          exact c ⟨⟨z0, by omega⟩, by rw [← show x = z by omega]; exact d⟩) d
      · rw [b2i_ne0] at c
        have gd := o.gd c.1 c.2
        have t40 := tk40 gd.1
        have ok := gd.2
        have ok1 := ok.1
        have ok2 := ok.2.1
        have rd := o.rd c.1 c.2
        refine s142 (by omega) ?_
        rw [(u1 z z0 (by omega)).1]
        refine ⟨by unfold inR; omega, by omega, by omega, fun h12 e12 => ?_⟩
        have f12 : frP rdR h1 h12 := by rw [e12]; exact frP.rf.st (Or.inl ⟨rfl, rfl⟩)
        have z12 : gI h12 127 9 = rn z := by rw [e12, gS1]
        have x12 : ∀ i, 0 ≤ i → i < rn z → gI h12 128 (301 + 301 * z + i) = rt z i := fun i i0 i1 => by rw [f12.1 _ _ (by unfold rdR rrA; omega)]; exact (u1 z z0 (by omega)).2 c.2 i i0 i1
        have cpy := cploopo h12 133 0 (rn z) (rt z) (fun l hh => zK 176 35 [vR 127 111, vI z, vI l] [] hh (fun r h1 => r = none ∧ K h1)) (fun l h2 l0 l1 f2 kk => ?_) (fun h2 f2 v2 => ?_) ok1
        · exact cpy
        · refine k176_35 z l h2 _ ?_
          rw [f2.1 127 9 (by omega), z12]
          refine ⟨fun d => absurd d (by omega), fun _ => s142 (by omega) ?_⟩
          rw [f2.1 128 _ (by omega), x12 l l0 l1]
          refine ⟨by unfold inR; omega, by omega, by omega, l0, by omega, fun h16 e16 => ⟨by unfold inR; omega, ?_⟩⟩
          rw [Int.zero_add] at kk
          rw [e16]; exact kk
        · have F2 : frP rdR h1 h2 := f12.tr (f2.mo (fun b k q => Or.inr (Or.inl q.1)))
          have b2 : mB h2 (rt z) (rn z) := ⟨by rw [f2.1 _ _ (by omega)]; exact z12, fun i i0 i1 => by have := v2 i i0 i1; rwa [Int.zero_add] at this⟩
          refine k176_35 z (rn z) h2 _ ?_
          rw [b2.1]
          refine ⟨fun _ => s173 ok b2 (fun v13 h13 f13 ev ft ff => ?_), fun d => absurd (Int.le_refl _) d⟩
          rw [rd] at ft
          refine s174 (s := rs z) c.1 (ft rfl) ⟨by omega, by omega⟩ (fun h14 f14 t14 => ⟨by unfold inR; omega, ih (z + 1) h14 _ (by omega) (by omega) (((f1.tr F2).tr (f13.mo (fun b k q => Or.inr (Or.inr (Or.inl q))))).tr (f14.mo (fun b k q => by unfold mkA at q; unfold rdR; omega))) (fun x x0 x1 d => ?_)⟩)
          by_cases e : x = z
          · rw [e]; exact t14
          · have gx := o.gd ⟨x0, by omega⟩ d
            have tx := tk40 gx.1
            have q := tk x x0 (by omega) d
            have G : ∀ b k, b = 139 ∨ b = 140 → ¬ mkA z b k → gI h14 b k = gI h1 b k := fun b k hb nk => by
              rw [f14.1 _ _ nk, f13.1 _ _ (by unfold rrA; omega), f2.1 _ _ (by omega), e12, gS, if_neg (by omega)]
            exact ⟨⟨by rw [G _ _ (Or.inr rfl) (by unfold mkA; omega)]; exact q.1.1, fun k j h0 h1 h2 => by rw [G _ _ (Or.inl rfl) (by unfold mkA; omega)]; exact q.1.2 k j h0 h1 h2⟩, ⟨by rw [G _ _ (Or.inr rfl) (by unfold mkA; omega)]; exact q.2.1, fun k j h0 h1 h2 => by rw [G _ _ (Or.inl rfl) (by unfold mkA; omega)]; exact q.2.2 k j h0 h1 h2⟩⟩
  exact cV (k176_0 h _ (key 8 0 h _ (by omega) (by omega) frP.rf (fun x x0 x1 => by omega)))
end KM
