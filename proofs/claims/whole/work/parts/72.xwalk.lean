/-! The class: a walk is laid. -/
def xWk (h : zH) (nd : Int) (F B : Int → Int) (L : List Int) : Prop := gI h 77 0 = L.length ∧ lAt h 78 L ∧ ∀ v, 0 ≤ v → v < nd → gI h 80 v = B v ∧ gI h 79 v = if v ∈ L then F v else -1
section XW
variable {h : zH} {t : Int → Int} {n nd nc : Int} {T C : pT} {rn : Int → Int} {rt : Int → Int → Int} {rs : Int → pS} {a : Nat}
theorem s118c (g : sF t n nd nc T C) (y : xN h a t n nd nc T C) (ha : a + 16 ≤ 53) {P : Int → Prop} (hP : ∀ v, 0 ≤ v → v < nd → (P v ↔ ¬ gI h 79 v = -1)) {Q : Option zV → zH → Prop} {u2 u3 u4 : zV} :
    ∀ (f : Nat) (l : Int) (A : List Int) (h1 : zH), nd - l = f → 0 ≤ l → frP (fun b k => (b = 77 ∧ k = 0) ∨ b = 78) h h1 → gI h1 77 0 = A.length → lAt h1 78 A → A.length ≤ l →
      (∀ h2, frP (fun b k => (b = 77 ∧ k = 0) ∨ b = 78) h h2 → gI h2 77 0 = (A ++ sel P f l).length → lAt h2 78 (A ++ sel P f l) → Q none h2) → zK 118 75 [vR 77 107, vR a 102, u2, u3, u4, vI l] [] h1 Q := by
  have hnd := g.hd
  intro f
  induction f with
  | zero =>
    intro l A h1 hl l0 f1 c1 a1 al kk
    have y1 := y.fr f1 (fun b k _ _ => by omega)
    refine k118_75 a u2 u3 u4 l h1 Q ⟨fun _ => ?_, fun c => absurd (by rw [y1.2.1]; omega) c⟩
    have := kk h1 f1
    rw [sel, List.append_nil] at this
    exact this c1 a1
  | succ f ih =>
    intro l A h1 hl l0 f1 c1 a1 al kk
    have y1 := y.fr f1 (fun b k _ _ => by omega)
    have e79 : gI h1 79 l = gI h 79 l := f1.1 _ _ (by omega)
    have pl := hP l l0 (by omega)
    refine k118_75 a u2 u3 u4 l h1 Q ⟨fun c => absurd c (by rw [y1.2.1]; omega), fun _ => ⟨l0, by omega, fun c => ⟨by unfold inR; omega, ?_⟩, fun c => ?_⟩⟩
    · rw [e79] at c
      refine ih (l + 1) A h1 (by omega) (by omega) f1 c1 a1 (by omega) (fun h2 f2 c2 a2 => ?_)
      have := kk h2 f2
      rw [sel_n (fun q => pl.1 q c)] at this
      exact this c2 a2
    · rw [e79] at c
      rw [c1]
      refine ⟨by omega, by omega, fun h19 e19 => ?_⟩
      have z : gI h19 77 0 = A.length := by rw [e19, gS, if_neg (by omega)]; exact c1
      rw [z]
      refine ⟨by unfold inR; omega, fun h20 e20 => ⟨by unfold inR; omega, ih (l + 1) (A ++ [l]) h20 (by omega) (by omega) ?_ ?_ ?_ ?_ (fun h2 f2 c2 a2 => ?_)⟩⟩
      · rw [e20, e19]; exact (f1.st (Or.inr rfl)).st (Or.inl ⟨rfl, rfl⟩)
      · rw [e20, gS1, List.length_append]; rfl
      · have := lAt_s (x := l) a1
        rw [← e19] at this
        exact this.cg (fun k _ _ => by rw [e20, gS, if_neg (by omega)])
      · rw [List.length_append]; show ((A.length + 1 : Nat) : Int) ≤ _; omega
      · have := kk h2 f2
        rw [sel_y (pl.2 c)] at this
        rw [List.append_assoc] at c2 a2
        exact this c2 a2
theorem s118 (g : sF t n nd nc T C) (y : xN h a t n nd nc T C) (ty : zty 102 a h) (ha : a + 16 ≤ 53) (o : slO rn rt rs) (u : xRu h 53 rn rt rs) {w : Int} {K : zH → Prop}
    (k : ∀ h1, frX wkA fiR h h1 → xWk h1 nd (lsR t T rn rt rs) (ftB t T rn rt rs) (eL (lsR t T rn rt rs) T nd w) → K h1) : zC0 118 [vR 77 107, vR a 102, vR 53 944, vI w, vR 56 105] h K := by
  have hnd := g.hd
  have fin : ∀ (h1 h2 : zH) (Q : Int → Prop), frX wkA fiR h h1 → (∀ v, 0 ≤ v → v < nd → gI h1 80 v = ftB t T rn rt rs v) → (∀ v, 0 ≤ v → v < nd → (eP (lsR t T rn rt rs) T nd w v ↔ Q v)) → (∀ v, 0 ≤ v → v < nd → gI h1 79 v = if b2i (Q v) = 1 then lsR t T rn rt rs v else -1) → h2 = sI h1 77 0 0 → zK 118 75 [vR 77 107, vR a 102, vR 53 944, vI w, vR 56 105, vI 0] [] h2 (fun r h1 => r = none ∧ K h1) := by
    intro h1 h2 Q f1 b80 hQ b79 e2
    have f2 : frX wkA fiR h h2 := by rw [e2]; exact f1.st (by unfold wkA; omega)
    have y2 := y.fx f2 (fun b k _ _ => by unfold wkA; omega)
    have i2 : ∀ b k, ¬ b = 77 → gI h2 b k = gI h1 b k := fun b k q => by rw [e2, gS, if_neg (by omega)]
    refine s118c (P := eP (lsR t T rn rt rs) T nd w) g y2 ha (fun v v0 v1 => ?_) nd.toNat 0 [] h2 (by omega) (by omega) frP.rf (by rw [e2, gS1]; rfl) (fun k hk => absurd hk (by simp)) (by simp) (fun h3 f3 c3 a3 => zq0 (k h3 (f2.tr ((f3.x).mo (fun b k q => by unfold wkA; omega) (fun b k q => q))) ⟨c3, a3, fun v v0 v1 => ⟨?_, ?_⟩⟩))
    · rw [i2 _ _ (by omega), b79 v v0 v1]
      by_cases c : Q v
      · have ev := (hQ v v0 v1).2 c
        rw [b2i_pos c, if_pos rfl]
        exact ⟨fun _ => eP_F ev, fun _ => ev⟩
      · rw [b2i_neg c, if_neg (by omega)]
        exact ⟨fun q => absurd ((hQ v v0 v1).1 q) c, fun q => absurd rfl q⟩
    · rw [f3.1 _ _ (by omega), i2 _ _ (by omega)]; exact b80 v v0 v1
    · rw [f3.1 _ _ (by omega), i2 _ _ (by omega), b79 v v0 v1]
      have m := eL_m (F := lsR t T rn rt rs) (T := T) (nd := nd) (w := w) (v := v) (by omega)
      show _ = if v ∈ eL (lsR t T rn rt rs) T nd w then _ else _
      by_cases c : Q v
      · rw [b2i_pos c, if_pos rfl, if_pos (m.2 ⟨(hQ v v0 v1).2 c, v0, v1⟩)]
      · rw [b2i_neg c, if_neg (by omega), if_neg (fun q => c ((hQ v v0 v1).1 (m.1 q).1))]
  have key : ∀ (f : Nat) (l : Int) (h1 : zH), nd - l = f → 0 ≤ l → frX wkA fiR h h1 → (∀ v, 0 ≤ v → v < l → gI h1 80 v = ftB t T rn rt rs v ∧ gI h1 79 v = -1 ∧ gI h1 81 v = 0) → zK 118 3 [vR 77 107, vR a 102, vR 53 944, vI w, vR 56 105, vI l] [] h1 (fun r h1 => r = none ∧ K h1) := by
    intro f
    induction f with
    | zero =>
      intro l h1 hl l0 f1 b1
      have y1 := y.fx f1 (fun b k _ _ => by unfold wkA; omega)
      refine k118_3 a 53 w l h1 _ ⟨fun _ => ⟨fun c => ?_, fun c => ?_⟩, fun c => absurd (by rw [y1.2.1]; omega) c⟩
      · refine s120 g y1 ha (fun v v0 v1 => b1 v v0 (by omega)) (fun h2 f2 b2 h12 e12 => fin h2 h12 (fun v => iE (lsR t T rn rt rs) T (nd.toNat + 1) v) (f1.tr ((f2.x).mo (fun b k q => by unfold wkA; omega) (fun b k q => q))) (fun v v0 v1 => ?_) (fun v v0 v1 => ?_) b2 e12)
        · rw [f2.1 _ _ (by omega)]; exact (b1 v v0 (by omega)).1
        · unfold eP
          constructor
          · rintro (q | q)
            · exact absurd q.1 c
            · exact q.2
          · exact fun q => Or.inr ⟨c, q⟩
      · have c := Classical.not_not.1 c
        refine s119 g y1 ha (fun v v0 v1 => ⟨(b1 v v0 (by omega)).1, (b1 v v0 (by omega)).2.1⟩) (fun h2 f2 b2 h14 e14 => fin h2 h14 (fun v => v ∈ oF (lsR t T rn rt rs) T nd.toNat 0 0) (f1.tr ((f2.x).mo (fun b k q => by unfold wkA; omega) (fun b k q => q))) (fun v v0 v1 => ?_) (fun v v0 v1 => ?_) (fun v v0 v1 => ?_) e14)
        · rw [f2.1 _ _ (by omega)]; exact (b1 v v0 (by omega)).1
        · unfold eP
          constructor
          · rintro (q | q)
            · exact q.2
            · exact absurd c q.1
          · exact fun q => Or.inl ⟨c, q⟩
        · rw [b2 v v0 v1]
          by_cases m : v ∈ oF (lsR t T rn rt rs) T nd.toNat 0 0
          · rw [if_pos m, b2i_pos m, if_pos rfl]
          · rw [if_neg m, b2i_neg m, if_neg (by omega)]
    | succ f ih =>
      intro l h1 hl l0 f1 b1
      have y1 := y.fx f1 (fun b k _ _ => by unfold wkA; omega)
      have u1 : xRu h1 53 rn rt rs := u.fx f1 (fun b k _ _ => by unfold wkA; omega) (fun k _ _ => by unfold fiR; omega)
      refine k118_3 a 53 w l h1 _ ⟨fun c => absurd c (by rw [y1.2.1]; omega), fun _ => s92 g y1 (by rw [f1.ty]; exact ty) (by omega) o u1 ⟨l0, by omega⟩ (by omega) (fun h2 f2 => ⟨l0, by omega, fun h16 e16 => ⟨l0, by omega, fun h17 e17 => ⟨l0, by omega, Or.inl rfl, fun h18 e18 => ⟨by unfold inR; omega, ih (l + 1) h18 (by omega) (by omega) ?_ (fun v v0 v1 => ?_)⟩⟩⟩⟩)⟩
      · rw [e18, e17, e16]
        exact (((f1.tr (f2.mo (fun b k q => by unfold fiA at q; unfold wkA; omega) (fun b k q => q))).st (by unfold wkA; omega)).st (by unfold wkA; omega)).st (by unfold wkA; omega)
      · have i2 : ∀ b k, 77 ≤ b → gI h2 b k = gI h1 b k := fun b k q => f2.1 _ _ (by unfold fiA; omega)
        by_cases c : v = l
        · subst c
          refine ⟨?_, ?_, ?_⟩
          · rw [e18, gS, if_neg (by omega), e17, gS, if_neg (by omega), e16, gS1]; rfl
          · rw [e18, gS, if_neg (by omega), e17, gS1]
          · rw [e18, gS1]
        · have b := b1 v v0 (by omega)
          refine ⟨?_, ?_, ?_⟩
          · rw [e18, gS, if_neg (by omega), e17, gS, if_neg (by omega), e16, gS, if_neg (by omega), i2 _ _ (by omega)]; exact b.1
          · rw [e18, gS, if_neg (by omega), e17, gS, if_neg (by omega), e16, gS, if_neg (by omega), i2 _ _ (by omega)]; exact b.2.1
          · rw [e18, gS, if_neg (by omega), e17, gS, if_neg (by omega), e16, gS, if_neg (by omega), i2 _ _ (by omega)]; exact b.2.2
  exact cV (k118_0 a 53 w h _ (key nd.toNat 0 h (by omega) (by omega) frX.rf (fun v v0 v1 => by omega)))
theorem s121 {F B : Int → Int} {L : List Int} {i : Int} (x : xWk h nd F B L) (hL : ∀ v, v ∈ L → 0 ≤ v ∧ v < nd) (hnd : nd ≤ 60) (hl : L.length ≤ 60) (h0 : 0 ≤ i) (h1 : i < L.length) {K : Int → zH → Prop} (k : K (F (L.getD i.toNat 0)) h) : zC1 121 [vR 77 107, vI i] h K := by
  have e : gI h 78 i = L.getD i.toNat 0 := by
    have := x.2.1 i.toNat (by omega)
    rwa [show ((i.toNat : Nat) : Int) = i by omega] at this
  have m := getD_m (L := L) (k := i.toNat) (by omega)
  have r := hL _ m
  have q := (x.2.2 _ r.1 r.2).2
  rw [if_pos m] at q
  refine cI (k121_0 i h _ ?_)
  rw [e, q]
  exact ⟨h0, by omega, r.1, by omega, zq1 k⟩
theorem s32 {w : Int} {K : Int → zH → Prop} (k : K (b2i (w = 0 ∨ w = 1)) h) : zC1 32 [vI w] h K := by
  refine cI (k32_0 w h _ ⟨fun c => ⟨Or.inr rfl, zq1 ?_⟩, fun c => ⟨fun d => ⟨Or.inl rfl, zq1 ?_⟩, fun d => ⟨Or.inr rfl, zq1 ?_⟩⟩⟩)
  · rwa [b2i_pos (Or.inl c)] at k
  · rwa [b2i_neg (by omega)] at k
  · rwa [b2i_pos (Or.inr (Classical.not_not.1 d))] at k
theorem s228 {w : Int} {K : Int → zH → Prop} (k : K (b2i (w = 0 ∨ w = 1)) h) : zC1 228 [vI w] h K := by
  refine cI (k228_0 w h _ (s141 ⟨b2i_01, zq1 ?_⟩))
  rwa [b2i_congr (show (0 ≤ w ∧ w ≤ 1) ↔ (w = 0 ∨ w = 1) by omega)]
end XW
