/-! The model: a whole rule, read. -/
def rrA (b : Nat) (k : Int) : Prop := (b = 127 ∧ (k = 15 ∨ k = 16 ∨ k = 17 ∨ k = 18 ∨ k = 27 ∨ k = 28 ∨ k = 29 ∨ k = 32 ∨ k = 33)) ∨ b = 143 ∨ b = 144 ∨ b = 141 ∨ b = 142
theorem fRR {sd : Int} {h h1 : zH} (f : frP (rmA sd) h h1) : frP rrA h h1 := f.mo (fun b k q => by unfold rmA at q; unfold rrA; omega)
/-- the tokens of a rule that has been read -/
def mF (h : zH) (s : pS) : Prop := (gI h 142 0 = s 0 0 3 ∧ ∀ k (j : Nat), 0 ≤ k → k < s 0 0 3 → j < 6 → gI h 141 (6 * k + j) = s 3 k j) ∧ (gI h 142 1 = s 0 0 7 ∧ ∀ k (j : Nat), 0 ≤ k → k < s 0 0 7 → j < 6 → gI h 141 (246 + 6 * k + j) = s 7 k j)
section MV
variable {h : zH} {t : Int → Int} {n : Int}
theorem s173 (o : tOk t n) (y : mB h t n) {K : Int → zH → Prop}
    (k : ∀ v h1, frP rrA h h1 → v = b2i ((rread t n).1 = true) → ((rread t n).1 = true → mF h1 (rread t n).2) → ((rread t n).1 = false → gI h1 127 17 = (rread t n).2 0 0 0) → K v h1) : zC1 173 [vR 127 111] h K := by
  have o1 := o.1
  have o2 := o.2.1
  refine cI (k173_0 h _ (fun h11 e11 => ⟨Or.inr rfl, fun h12 e12 => ?_⟩))
  have f12 : frP rrA h h12 := by rw [e12, e11]; exact (frP.rf.st (by unfold rrA; omega)).st (by unfold rrA; omega)
  refine cploop h12 143 0 26 (fun _ => 0) (fun l hh => zK 173 12 [vR 127 111, vI l] [] hh _) (fun l h1 l0 l1 f1 kk => ?_) (fun h1 f1 v1 => ?_) (by omega)
  · refine k173_12 l h1 _ ⟨fun c => absurd c (by omega), fun _ => ⟨by omega, by omega, fun h16 e16 => ⟨by unfold inR; omega, by rw [e16]; exact kk⟩⟩⟩
  · have F1 : frP rrA h h1 := f12.tr (f1.mo (fun b k q => by unfold rrA; omega))
    have y1 : mY h1 t n 0 := ⟨y.fr F1 (by unfold rrA; constructor <;> omega), by rw [f1.1 _ _ (by omega), e12, gS, if_neg (by omega), e11, gS1], by rw [f1.1 _ _ (by omega), e12, gS1]⟩
    have nil : ∀ c i j, ¬ (c = 0 ∧ j = 2) → rnil c i j = 0 := fun c i j hc => by unfold rnil; rw [upE, if_neg (by omega)]
    have vn := rV_nil (n := n) o1
    refine k173_12 26 h1 _ ⟨fun _ => ?_, fun c => absurd (by omega) c⟩
    unfold rread at k
    refine s172 (s := rnil) (sd := 0) (b0 := 0) o (by rw [nil 0 0 0 (by omega)]; exact y1) rfl (Or.inl rfl) (by omega) vn (fun k => by rw [nil (kid 0) k 1 (by decide), nil 0 0 1 (by decide)]; decide) (nil _ _ _ (by omega)) (by unfold rnil; simp [upE]) (nil 0 0 (kid 0) (by decide)) (nil _ _ _ (by omega)) (fun _ => ⟨nil _ _ _ (by omega), nil _ _ _ (by omega)⟩) (fun l h0 h1 => by rw [v1 l h0 h1, nil _ _ _ (by omega)]) (fun h13 w => ?_)
    obtain ⟨f13, g13, b13⟩ := w
    have F13 := F1.tr (fRR f13)
    rcases hz : rside t 0 0 301 rnil with ⟨ok, s1⟩
    rw [hz] at k g13 b13
    -- the end where reading has failed
    have fail : ∀ h2 (u : zV) (p : Int), frP rrA h h2 → gI h2 127 18 = 0 → gI h2 127 17 = p → 0 ≤ gI h2 127 16 → gI h2 127 16 ≤ 1000 → (∀ v h1, frP rrA h h1 → v = 0 → gI h1 127 17 = p → K v h1) → zK 173 56 [vR 127 111, u] [] h2 (fun r h1 => ∃ v : Int, r = some (Sum.inl v) ∧ K v h1) := by
      intro h2 u p f2 g2 e2 q0 q1 kk
      refine k173_56 u h2 _ ⟨fun _ => k173_73 u 0 _ h2 _ ⟨by unfold inR; omega, fun h17 e17 => ⟨fun _ => k173_89 u h17 _ ⟨fun g => ⟨Or.inl g, zq1 ?_⟩, fun g => absurd ?_ g⟩, fun g => absurd ?_ g⟩⟩, fun g => absurd g2 g⟩
      · refine kk _ h17 (by rw [e17]; exact f2.st (by unfold rrA; omega)) g ?_
        rw [e17, gS, if_neg (by omega)]; exact e2
      · rw [e17, gS, if_neg (by omega)]; exact g2
      · rw [e17, gS, if_neg (by omega)]; exact g2
    cases ok with
    | false =>
      have b := b13 rfl
      refine ⟨fun _ => fail h13 _ _ F13 b.1.1 b.2 b.1.2.1 (by have := b.1.2.2; omega) (fun v h1 f e g => k v h1 f (by rw [e, b2i_neg]; simp) (by simp) (fun _ => g)), fun g => absurd b.1.1 g⟩
    | true =>
      have x13 := g13 rfl
      have v1' := rV_side o 301 vn hz
      have u1 := rU_side 301 hz
      dsimp only at x13 k
      refine ⟨fun g => absurd g (by rw [x13.1.2.2]; decide), fun _ => s163 o x13.1 v1'.1.1.1 v1'.1.1.2.1 (fun h14 f14 y14 => ?_)⟩
      have x14 := x13.blk f14 y14
      have vb := rV_blk o v1'.1
      have e0 : pbl t 301 (s1 0 0 0) = rblk t s1 0 0 0 := by unfold rblk; simp [upE]
      have ub : ∀ c i j, ¬ (c = 0 ∧ j = 0) → rblk t s1 c i j = s1 c i j := fun c i j hc => by unfold rblk; rw [upE, if_neg (by omega)]
      have F14 : frP rrA h h14 := F13.tr (fRR (fR0 (sd := 0) f14))
      rw [e0]
      by_cases c : t (rblk t s1 0 0 0) = 61
      · rw [if_pos c] at k
        refine ⟨fun _ => ?_, fun d => absurd c d⟩
        have lt := o.lt (i := rblk t s1 0 0 0) (by omega)
        refine k173_56 _ h14 _ ⟨fun g => absurd g (by rw [x14.1.2.2]; decide), fun _ => k173_73 _ 1 _ h14 _ ?_⟩
        rw [x14.1.2.1]
        refine ⟨by unfold inR; omega, fun h17 e17 => ?_⟩
        have w17 := mY.at (v := rblk t s1 0 0 0 + 1) x14.1
        rw [← e17] at w17
        refine ⟨fun g => absurd g (by rw [w17.1.2.2]; decide), fun _ => ?_⟩
        have um : ∀ c i j, ¬ (c = 0 ∧ (j = 0 ∨ j = 8)) → rmid (rblk t s1) c i j = s1 c i j := fun c i j hc => by unfold rmid; rw [upE, if_neg (by omega), upE, if_neg (by omega)]; exact ub c i j (by omega)
        have um0 : rmid (rblk t s1) 0 0 0 = rblk t s1 0 0 0 + 1 := by unfold rmid; simp [upE]
        have e2 : s1 0 0 2 = -1 := v1'.2.2
        have e7 : s1 0 0 7 = 0 := by have := u1.2 7 (by decide); rw [this]; exact nil _ _ _ (by omega)
        have t7 : ∀ i j, s1 7 i j = 0 := fun i j => by have := u1.1 i j; rw [show 10 - kid 0 = 7 from rfl] at this; rw [this]; exact nil _ _ _ (by omega)
        have vm := rV_mid o vb.1 (by rw [ub _ _ _ (by omega)]; exact e2) (by rw [ub _ _ _ (by omega)]; exact e7) lt.2
        rw [ub 0 0 1 (by omega)] at vm
        have b20 := v1'.1.1.2.2.2.2.1
        have b00 := v1'.1.1.2.2.2.1
        have d6 : s1 0 0 6 = 0 := by
          have := (x13.ct v1'.1).1 e2
          rw [← x13.2.1.2.2.2.2.2.1]; exact this.1
        have y17 : mY h17 t n (rmid (rblk t s1) 0 0 0) := by rw [um0]; exact w17.1
        refine s172 (sd := 1) (b0 := s1 0 0 1) o y17 rfl (Or.inr rfl) (by omega) vm (fun k => by rw [show kid 1 = 7 from rfl, um _ _ _ (by omega), um _ _ _ (by omega), t7]; omega) (um _ _ _ (by omega)) (by rw [um _ _ _ (by omega)]; exact e2) (by rw [show kid 1 = 7 from rfl, um _ _ _ (by omega)]; exact e7) (by rw [um _ _ _ (by omega)]; exact d6) (fun g => absurd g (by decide)) (fun l h0 h1 => ?_) (fun h18 w18 => ?_)
        · rw [um _ _ _ (by omega), w17.2.1 _ _ (by unfold mA0; omega), f14.1 _ _ (by unfold mA0; omega)]
          exact x13.2.1.2.2.1 l h0 h1
        · obtain ⟨f18, g18, b18⟩ := w18
          have F18 : frP rrA h h18 := (F14.tr (fRR (fR0 (sd := 0) w17.2))).tr (fRR f18)
          rcases hz2 : rside t 1 (s1 0 0 1) 301 (rmid (rblk t s1)) with ⟨ok2, s2⟩
          rw [hz2] at k g18 b18
          cases ok2 with
          | false =>
            have b := b18 rfl
            refine k173_89 _ h18 _ ⟨fun g => ⟨Or.inl g, zq1 ?_⟩, fun g => absurd b.1.1 g⟩
            rw [g]
            exact k 0 h18 F18 (by rw [b2i_neg]; simp) (by simp) (fun _ => b.2)
          | true =>
            have x18 := g18 rfl
            have v2 := rV_side o 301 vm hz2
            have u2 := rU_side 301 hz2
            dsimp only at x18 k
            refine k173_89 _ h18 _ ⟨fun g => absurd g (by rw [x18.1.2.2]; decide), fun _ => s163 o x18.1 v2.1.1.1 v2.1.1.2.1 (fun h19 f19 y19 => ?_)⟩
            have x19 := x18.blk f19 y19
            have vb2 := rV_blk o v2.1
            have e1 : pbl t 301 (s2 0 0 0) = rblk t s2 0 0 0 := by unfold rblk; simp [upE]
            have F19 : frP rrA h h19 := F18.tr (fRR (fR0 (sd := 0) f19))
            rw [e1]
            by_cases c2 : rblk t s2 0 0 0 = n
            · rw [if_pos c2] at k
              refine ⟨fun _ => ?_, fun d => absurd (o.ge (by omega)) d⟩
              rw [x19.1.2.2]
              refine ⟨Or.inr rfl, zq1 (k 1 h19 F19 (by rw [b2i_pos]; rfl) (fun _ => ?_) (by simp))⟩
              have ub2 : ∀ c i j, ¬ (c = 0 ∧ j = 0) → rblk t s2 c i j = s2 c i j := fun c i j hc => by unfold rblk; rw [upE, if_neg (by omega)]
              have q3 : s2 0 0 3 = s1 0 0 3 := by have := u2.2 3 (by decide); rw [this, um _ _ _ (by omega)]
              have t3 : ∀ i j, s2 3 i j = s1 3 i j := fun i j => by have := u2.1 i j; rw [show 10 - kid 1 = 3 from rfl] at this; rw [this, um _ _ _ (by omega)]
              -- side 0 has been left alone
              have keep : ∀ b k, ¬ b = 127 → ¬ b = 143 → ¬ b = 144 → ¬ (b = 141 ∧ 246 ≤ k) → ¬ (b = 142 ∧ k = 1) → gI h19 b k = gI h13 b k := by
                intro b k q1 q2 q3 q4 q5
                rw [f19.1 _ _ (by unfold mA0; omega), f18.1 _ _ (by unfold rmA; omega), w17.2.1 _ _ (by unfold mA0; omega), f14.1 _ _ (by unfold mA0; omega)]
              have z0 := x13.2.1.2.2.2.1
              have z1 := x13.2.1.2.2.2.2.1
              have z2 := x19.2.1.2.2.2.1
              have z3 := x19.2.1.2.2.2.2.1
              have i12 := v1'.1.1.2.2.2.2.2.2.2.2.2.2.2.1
              rw [show kid 0 = 3 from rfl] at z0 z1 i12
              rw [show kid 1 = 7 from rfl] at z2 z3
              show mF h19 (rblk t s2)
              refine ⟨⟨?_, fun k j h0 h1 hj => ?_⟩, ⟨z2, fun k j h0 h1 hj => ?_⟩⟩
              · rw [ub2 _ _ _ (by omega), q3, keep _ _ (by omega) (by omega) (by omega) (by omega) (by omega)]; exact z0
              · rw [ub2 _ _ _ (by omega), q3] at h1
                rw [ub2 _ _ _ (by omega), t3, keep _ _ (by omega) (by omega) (by omega) (by omega) (by omega)]
                have := z1 k j h0 h1 hj
                rw [show 246 * (0 : Int) + 6 * k + j = 6 * k + j by omega] at this
                exact this
              · have := z3 k j h0 h1 hj
                rw [show 246 * (1 : Int) + 6 * k + j = 246 + 6 * k + j by omega] at this
                exact this
            · rw [if_neg c2] at k
              have le := vb2.1.1.2.1
              have ge := vb2.1.1.1
              have lt2 : ¬ t (rblk t s2 0 0 0) = -1 := fun g => by
                have := ((o.2.2 (rblk t s2 0 0 0)).1 (by omega)).1; omega
              refine ⟨fun g => absurd g lt2, fun _ => s148 x19.1.2.2 ?_⟩
              have e18 : gI (sI (sI h19 127 17 (gI h19 127 16)) 127 18 0) 127 18 = 0 := by simp [gS]
              rw [e18]
              refine ⟨Or.inl rfl, zq1 (k 0 _ ((F19.st (by unfold rrA; omega)).st (by unfold rrA; omega)) (by rw [b2i_neg]; simp) (by simp) (fun _ => ?_))⟩
              have := x19.1.2.1
              simp [gS, this]
      · rw [if_neg c] at k
        refine ⟨fun d => absurd d c, fun _ => s148 x14.1.2.2 ?_⟩
        have z16 := x14.1.2.1
        have ge := vb.1.1.1
        have le := vb.1.1.2.1
        refine fail _ _ (rblk t s1 0 0 0) ((F14.st (by unfold rrA; omega)).st (by unfold rrA; omega)) (by simp [gS]) (by simp [gS, z16]) (by simp [gS, z16]; omega) (by simp [gS, z16]; omega) (fun v h1 f e g => k v h1 f (by rw [e, b2i_neg]; simp) (by simp) (fun _ => g))
end MV
