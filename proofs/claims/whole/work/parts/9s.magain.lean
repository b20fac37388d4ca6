/-! The model: again. -/
def agA (b : Nat) (k : Int) : Prop := (b = 127 ∧ (k = 0 ∨ k = 5)) ∨ b = 128 ∨ rdR b k ∨ mtTs b k ∨ mRA b k
section AG
variable {h : zH} {t : Int → Int} {n nd nc : Int} {T C : pT} {rn : Int → Int} {rt : Int → Int → Int} {rs : Int → pS}
theorem s254 {j : Int} (o : slO rn rt rs) (g : (0 ≤ j ∧ j < 2) → ¬ gI h 130 j = 0 → sF t n nd nc T C ∧ mKp h j t n rn rt) {K : Int → zH → Prop} (k1 : (0 ≤ j ∧ j < 2) → ¬ gI h 130 j = 0 → ∀ h1, frP agA h h1 → gI h1 127 0 = 0 → gI h1 127 5 = 0 → mN h1 t n nd nc T C → mRu h1 rn rt rs → mTs h1 rn rt rs → K 1 h1) (k2 : ¬ ((0 ≤ j ∧ j < 2) ∧ ¬ gI h 130 j = 0) → K 0 (sI h 127 0 0)) : zC1 254 [vR 127 111, vI j] h K := by
  refine cI (k254_0 j h _ (fun h7 e7 => s141 ⟨fun c => ⟨Or.inl rfl, zq1 ?_⟩, fun c => ?_⟩))
  · rw [b2i_eq0] at c
    have := k2 (by omega)
    rwa [← e7] at this
  · rw [b2i_ne0] at c
    have hj : 0 ≤ j ∧ j < 2 := by omega
    have f7 : frP (fun b k => b = 127 ∧ k = 0) h h7 := by rw [e7]; exact frP.rf.st ⟨rfl, rfl⟩
    rw [f7.1 130 j (by omega)]
    refine ⟨hj.1, hj.2, fun d => ?_, fun d => ⟨Or.inl rfl, zq1 ?_⟩⟩
    · obtain ⟨gs, kp⟩ := g hj d
      have hn := gs.hn
      refine cploopo h7 128 0 2709 (fun l => gI h7 129 (2709 * j + l)) (fun l hh => zK 254 28 [vR 127 111, vI j, vI l] [] hh _) (fun l h1 l0 l1 f1 kk => ?_) (fun h1 f1 v1 => ?_) (by omega)
      · refine k254_28 j l h1 _ ⟨fun d => absurd d (by omega), fun _ => ⟨by unfold inR; omega, by unfold inR; omega, by omega, by omega, l0, l1, fun h12 e12 => ⟨by unfold inR; omega, ?_⟩⟩⟩
        rw [f1.1 129 _ (by omega)] at e12
        rw [Int.zero_add] at kk
        rw [e12]; exact kk
      · refine k254_28 j 2709 h1 _ ⟨fun _ => fun h9 e9 => ?_, fun d => absurd (Int.le_refl _) d⟩
        have f9 : frP (fun b k => (b = 127 ∧ (k = 0 ∨ k = 5)) ∨ b = 128) h h9 := by rw [e9]; exact ((f7.mo (fun b k q => by omega)).tr (f1.mo (fun b k q => by omega))).st (by omega)
        have v9 : ∀ l, 0 ≤ l → l < 2709 → gI h9 128 l = gI h 129 (2709 * j + l) := fun l l0 l1 => by
          have := v1 l l0 l1
          rw [Int.zero_add] at this
          rw [e9, gS, if_neg (by omega), this, f7.1 _ _ (by omega)]
        have w9 : mW h9 t n := ⟨by rw [v9 _ (by omega) (by omega)]; exact kp.2.1.1, fun i h0 h1 => by rw [v9 _ (by omega) (by omega)]; exact kp.2.1.2.1 i h0 h1, fun i h0 h1 => by rw [v9 _ (by omega) (by omega)]; exact kp.2.1.2.2 i h0 h1⟩
        have u9 : mRx h9 rn rt := fun x x0 x1 => ⟨by rw [v9 _ (by omega) (by omega)]; exact (kp.2.2 x x0 x1).1, fun z i h0 h1 => by
          have n300 : rn x ≤ 300 := by
            rcases o x x0 x1 with r | r
            · omega
            · exact r.2.1.2.1
          rw [v9 _ (by omega) (by omega)]; exact (kp.2.2 x x0 x1).2 z i h0 h1⟩
        refine s176 o u9 (fun h10 f10 u10 t10 => s156 gs ⟨by rw [f10.1 _ _ (by unfold rdR rrA mtTs; omega)]; exact w9.1, fun i h0 h1 => by rw [f10.1 _ _ (by unfold rdR rrA mtTs; omega)]; exact w9.2.1 i h0 h1, fun i h0 h1 => by rw [f10.1 _ _ (by unfold rdR rrA mtTs; omega)]; exact w9.2.2 i h0 h1⟩ (fun h11 f11 n11 => ⟨Or.inr rfl, zq1 (k1 hj d h11 (((f9.mo (fun b k q => ?_)).tr (f10.mo (fun b k q => ?_))).tr (f11.mo (fun b k q => ?_))) ?_ ?_ n11 ?_ ?_)⟩))
        · unfold agA; omega
        · rcases q with q | q
          · exact Or.inr (Or.inr (Or.inl q))
          · exact Or.inr (Or.inr (Or.inr (Or.inl q)))
        · exact Or.inr (Or.inr (Or.inr (Or.inr q)))
        · rw [f11.1 _ _ (by unfold mRA mA; omega), f10.1 _ _ (by unfold rdR rrA mtTs; omega), e9, gS, if_neg (by omega), f1.1 _ _ (by omega), e7, gS1]
        · rw [f11.1 _ _ (by unfold mRA mA; omega), f10.1 _ _ (by unfold rdR rrA mtTs; omega), e9, gS1]
        · exact u10.fr o f11 (fun k _ => by unfold mRA mA; omega) (fun k => by unfold mRA mA; omega)
        · exact t10.fr f11 (by unfold mRA mA; omega) (fun b k _ _ => by unfold mRA mA; omega)
    · have := k2 (fun q => d q.2)
      rwa [← e7] at this
end AG
