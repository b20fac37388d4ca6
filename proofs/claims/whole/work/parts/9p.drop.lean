/-! The model: thrown, drop. -/
section DR
variable {h : zH} {rn : Int → Int} {rt : Int → Int → Int} {rs : Int → pS} {x : Int}
theorem s140 {K : Int → zH → Prop} (k : K (gI h 127 0) h) : zC1 140 [vR 127 111] h K := cI (k140_0 h _ (zq1 k))
theorem slO.dr (o : slO rn rt rs) : slO (ups rn x 0) rt rs := by
  intro i i0 i1
  unfold ups
  by_cases c : i = x
  · rw [if_pos c]; exact Or.inl rfl
  · rw [if_neg c]; exact o i i0 i1
theorem slO.ad (o : slO rn rt rs) {ty : Int → Int} {m : Int} {s : pS} (t : tOk ty m) (m0 : ¬ m = 0) (e : rread ty m = (true, s)) : slO (ups rn x m) (ups rt x ty) (ups rs x s) := by
  intro i i0 i1
  unfold ups
  by_cases c : i = x
  · rw [if_pos c, if_pos c, if_pos c]
    have := t.1
    exact Or.inr ⟨by omega, t, e⟩
  · rw [if_neg c, if_neg c, if_neg c]; exact o i i0 i1
def drA (x : Int) (b : Nat) (k : Int) : Prop := (b = 127 ∧ k = 0) ∨ (b = 128 ∧ k = 301 + 301 * x + 300) ∨ mtTs b k
theorem s178 (o : slO rn rt rs) (u : mRu h rn rt rs) {K : Int → zH → Prop} (k1 : (0 ≤ x ∧ x < 8) ∧ ¬ rn x = 0 → ∀ h1, frP (drA x) h h1 → gI h1 127 0 = 0 → mRu h1 (ups rn x 0) rt rs → mTs h1 (ups rn x 0) rt rs → K (cnt (fun y => ¬ ups rn x 0 y = 0) 8 0) h1) (k2 : ¬ ((0 ≤ x ∧ x < 8) ∧ ¬ rn x = 0) → K (-2) (sI h 127 0 0)) : zC1 178 [vR 127 111, vI x] h K := by
  refine cI (k178_0 x h _ (fun h7 e7 => ?_))
  have f7 : frP (fun b k => b = 127 ∧ k = 0) h h7 := by rw [e7]; exact frP.rf.st ⟨rfl, rfl⟩
  have u7 : mRu h7 rn rt rs := u.fr o f7 (fun k _ => by omega) (fun k => by omega)
  refine s143 o u7 ⟨fun c => ?_, fun c => zq1 ?_⟩
  · rw [b2i_ne0] at c
    refine s142 (by omega) ⟨by unfold inR; omega, by omega, by omega, fun h10 e10 => ?_⟩
    have f10 : frP (fun b k => b = 128 ∧ k = 301 + 301 * x + 300) h7 h10 := by rw [e10]; exact frP.rf.st ⟨rfl, rfl⟩
    have z10 : gI h10 127 0 = 0 := by rw [f10.1 _ _ (by omega), e7, gS1]
    have u10 : mRu h10 (ups rn x 0) rt rs := by
      intro i i0 i1
      have q := u7 i i0 i1
      unfold ups
      by_cases d : i = x
      · rw [if_pos d]
        refine ⟨by rw [d, e10, gS1], fun z => absurd rfl z⟩
      · rw [if_neg d]
        refine ⟨by rw [f10.1 _ _ (by omega)]; exact q.1, fun z => ?_⟩
        have q := q.2 z
        have oi := o i i0 i1
        have n300 : rn i ≤ 300 := by
          rcases oi with r | r
          · omega
          · exact r.2.1.2.1
        refine ⟨fun j j0 j1 => by rw [f10.1 _ _ (by omega)]; exact q.1 j j0 j1, ⟨by rw [f10.1 _ _ (by omega)]; exact q.2.1.1, fun k j h0 h1 h2 => by rw [f10.1 _ _ (by omega)]; exact q.2.1.2 k j h0 h1 h2⟩, ⟨by rw [f10.1 _ _ (by omega)]; exact q.2.2.1, fun k j h0 h1 h2 => by rw [f10.1 _ _ (by omega)]; exact q.2.2.2 k j h0 h1 h2⟩⟩
    refine s218 o.dr u10 (fun h11 f11 t11 => ?_)
    have u11 : mRu h11 (ups rn x 0) rt rs := u10.fr o.dr f11 (fun k _ => by unfold mtTs; omega) (fun k => by unfold mtTs; omega)
    refine s177 o.dr u11 (zq1 (k1 c h11 (((f7.mo (fun b k q => Or.inl q)).tr (f10.mo (fun b k q => Or.inr (Or.inl q)))).tr (f11.mo (fun b k q => Or.inr (Or.inr q)))) (by rw [f11.1 _ _ (by unfold mtTs; omega)]; exact z10) u11 t11))
  · have c := b2i_eq0.1 (Classical.not_not.1 c)
    have := k2 c
    rwa [← e7] at this
end DR
