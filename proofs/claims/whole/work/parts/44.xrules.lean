/-! The class: rule and drop. -/
def frD (a : Nat) (h h1 : zH) : Prop := (∀ b, b < a → ¬ b = 54 → ¬ b = 55 → ∀ k, ¬ (b = 3 ∧ k = 1) → gI h1 b k = gI h b k) ∧ (∀ b, b < a → ¬ b = 54 → ¬ b = 55 → ∀ k, ¬ (b = 53 ∧ 0 ≤ k ∧ k < 8) → gR h1 b k = gR h b k) ∧ (∀ b, b < a → tg h1 b = tg h b ∧ ln h1 b = ln h b) ∧ nx h1 = a + 15 ∧ sc h1 = sc h + 798
def ups {α : Type} (f : Int → α) (x : Int) (v : α) : Int → α := fun i => if i = x then v else f i
section XD
variable {h : zH} {rn : Int → Int} {rt : Int → Int → Int} {rs : Int → pS}
theorem xQ.cg {h1 : zH} {r : Nat} {t : Int → Int} {n : Int} {s : pS} (x : xQ h r t n s) (ty : zty 103 r h1) (i : ∀ b k, r ≤ b → b < r + 15 → gI h1 b k = gI h b k) (l : ln h1 (r + 1 + 1) = ln h (r + 1 + 1)) : xQ h1 r t n s := by
  obtain ⟨x1, x2, x3, x4, x5⟩ := x
  refine ⟨ty, ⟨?_, by rw [l]; exact x2.2.1, fun j h0 h1 => ?_⟩, fun j c h0 h1 hc => ?_, ?_, ⟨?_, ?_⟩⟩
  · rw [i _ _ (by omega) (by omega)]; exact x2.1
  · rw [i _ _ (by omega) (by omega)]; exact x2.2.2 j h0 h1
  · rw [i _ _ (by omega) (by omega)]; exact x3 j c h0 h1 hc
  · rw [i _ _ (by omega) (by omega)]; exact x4
  · rw [i _ _ (by omega) (by omega)]; exact x5.1
  · rw [i _ _ (by omega) (by omega)]; exact x5.2
theorem xRu.dt {h1 : zH} {A : Nat} (u : xRu h A rn rt rs) (hi : ∀ b k, 170 ≤ b → b < nx h → gI h1 b k = gI h b k) (hr : ∀ k, 0 ≤ k → k < 8 → gR h1 A k = gR h A k) (ht : ∀ b, 170 ≤ b → b < nx h → tg h1 b = tg h b ∧ ln h1 b = ln h b) (hx : nx h ≤ nx h1) : xRu h1 A rn rt rs := by
  intro x x0 x1
  have y := u x x0 x1
  rw [hr x x0 x1]
  refine ⟨y.1, fun c => ?_⟩
  have z := y.2 c
  refine ⟨z.1, by omega, z.2.2.cg ?_ (fun b k q1 q2 => hi b k (by omega) (by omega)) (ht _ (by omega) (by omega)).2⟩
  have ty := z.2.2.1
  rw [zty_iff rfl] at ty ⊢
  rw [(ht _ z.1 (by omega)).1, (ht _ z.1 (by omega)).2]
  exact ⟨ty.1, by omega, ty.2.2⟩
theorem s35l (u : xRu h 53 rn rt rs) {Q : Option zV → zH → Prop} : ∀ (f : Nat) (z c : Int), 8 - z = f → 0 ≤ z → 0 ≤ c → c ≤ z → Q (some (vI (c + cnt (fun x => ¬ rn x = 0) f z))) h → zK 35 4 [vR 2 100, vI c, vI z] [] h Q := by
  intro f
  induction f with
  | zero =>
    intro z c hz h0 c0 c1 k
    rw [cnt, Int.add_zero] at k
    exact k35_4 c z h Q ⟨fun _ => k, fun d => absurd (by omega) d⟩
  | succ f ih =>
    intro z c hz h0 c0 c1 k
    have y := u z h0 (by omega)
    refine k35_4 c z h Q ⟨fun d => absurd d (by omega), fun _ => ⟨by omega, by omega, fun d => ⟨by unfold inR; omega, by unfold inR; omega, ih (z + 1) (c + 1) (by omega) (by omega) (by omega) (by omega) ?_⟩, fun d => ⟨by unfold inR; omega, by unfold inR; omega, ih (z + 1) (c + 0) (by omega) (by omega) (by omega) (by omega) ?_⟩⟩⟩
    · rw [cnt_y (P := fun x => ¬ rn x = 0) (fun e => d (y.1 e))] at k
      rw [show c + 1 + cnt (fun x => ¬ rn x = 0) f (z + 1) = c + (1 + cnt (fun x => ¬ rn x = 0) f (z + 1)) by omega]; exact k
    · rw [cnt_n (fun e => ?_)] at k
      · rw [Int.add_zero]; exact k
      · have := (y.2 e).1; omega
theorem s35 (u : xRu h 53 rn rt rs) {K : Int → zH → Prop} (k : K (cnt (fun x => ¬ rn x = 0) 8 0) h) : zC1 35 [vR 2 100] h K :=
  cI (k35_0 h _ (s35l u 8 0 0 (by omega) (by omega) (by omega) (by omega) (zq1 (by rw [Int.zero_add]; exact k))))
theorem s5 {x : Int} (u : xRu h 53 rn rt rs) {K : Int → zH → Prop} (k1 : (0 ≤ x ∧ x < 8) ∧ ¬ rn x = 0 → xRu (sR h 53 x 0) 53 (ups rn x 0) rt rs → K (cnt (fun y => ¬ ups rn x 0 y = 0) 8 0) (sR h 53 x 0)) (k2 : ¬ ((0 ≤ x ∧ x < 8) ∧ ¬ rn x = 0) → K (-2) h) : zC1 5 [vR 2 100, vI x] h K := by
  refine cI (k5_0 x h _ (s31 u ⟨fun c => ?_, fun c => zq1 (k2 (fun d => c (b2i_ne0.mpr d)))⟩))
  rw [b2i_ne0] at c
  refine ⟨c.1.1, c.1.2, Or.inl rfl, fun h5 e5 => ?_⟩
  have u5 : xRu h5 53 (ups rn x 0) rt rs := by
    intro y y0 y1
    have w := u y y0 y1
    unfold ups
    by_cases d : y = x
    · rw [if_pos d]
      refine ⟨fun _ => ?_, fun e => absurd rfl e⟩
      rw [e5, gRR, if_pos ⟨rfl, d⟩]
    · rw [if_neg d, show gR h5 53 y = gR h 53 y by rw [e5, gRR, if_neg (by omega)]]
      refine ⟨w.1, fun e => ?_⟩
      have z := w.2 e
      refine ⟨z.1, by rw [e5]; exact z.2.1, z.2.2.cg (by rw [e5]; exact z.2.2.1) (fun b k _ _ => by rw [e5, gIR]) (by rw [e5]; rfl)⟩
  have kk := k1 c (by rw [← e5]; exact u5)
  rw [← e5] at kk
  exact s35 u5 (zq1 kk)
theorem s4 {ty : Int → Int} {m : Int} {a : Nat} (y : Txt h 3 ty m) (o : tOk ty m) (u : xRu h 53 rn rt rs) (ha : 170 ≤ a) (hn : nx h = a) {K : Int → zH → Prop}
    (k1 : ∀ s x, rread ty m = (true, s) → (0 ≤ x ∧ x < 8) → x = fst (fun i => rn i = 0) 8 0 → ∀ h1, frD a h h1 → gI h1 3 1 = 0 → xRu h1 53 (ups rn x m) (ups rt x ty) (ups rs x s) → K x h1)
    (k2 : ∀ s, rread ty m = (true, s) → fst (fun i => rn i = 0) 8 0 = -1 → ∀ h1, frD a h h1 → gI h1 3 1 = 0 → xRu h1 53 rn rt rs → K (-3) h1)
    (k3 : ∀ s, rread ty m = (false, s) → ∀ h1, frD a h h1 → gI h1 3 1 = 0 → xRu h1 53 rn rt rs → K (-1000 - s 0 0 0) h1) : zC1 4 [vR 2 100] h K := by
  have rg := rread_rg o
  have o2 := o.2.1
  have mpos : ∀ s, rread ty m = (true, s) → ¬ m = 0 := by
    intro s e c
    unfold rread at e
    rcases hz : rside ty 0 0 301 rnil with ⟨ok, s1⟩
    rw [hz] at e
    cases ok with
    | false => cases e
    | true =>
      have v1 := rV_side o 301 (rV_nil (n := m) o.1) hz
      have n0 : rnil 0 0 0 = 0 := by unfold rnil; simp [upE]
      have := v1.1.1.2.1
      have := v1.2.1
      omega
  have D : ∀ h4 h5 : zH, fr75 a h h4 → h5 = sI h4 3 1 0 → frD a h h5 ∧ gI h5 3 1 = 0 ∧ xRu h5 53 rn rt rs := by
    intro h4 h5 f e
    have g : ∀ b, b < a → tg h5 b = tg h b ∧ ln h5 b = ln h b := fun b hb => by rw [e]; exact f.2.1 b hb
    refine ⟨⟨fun b hb q1 q2 k q3 => ?_, fun b hb q1 q2 k _ => ?_, g, by rw [e]; exact f.2.2.1, by rw [e]; exact f.2.2.2⟩, by rw [e, gS1], u.dt (fun b k q1 q2 => ?_) (fun k q1 q2 => ?_) (fun b q1 q2 => g b (by omega)) ?_⟩
    · rw [e, gS, if_neg (by omega)]; exact (f.1 b hb q1 q2 k).1
    · rw [e, gRS]; exact (f.1 b hb q1 q2 k).2
    · rw [e, gS, if_neg (by omega)]; exact (f.1 b (by omega) (by omega) (by omega) k).1
    · rw [e, gRS]; exact (f.1 53 (by omega) (by omega) (by omega) k).2
    · rw [e]; show nx h ≤ nx h4; rw [f.2.2.1]; omega
  refine cI (k4_0 h _ (s75 (a := a) o y (by omega) ha hn (fun s e h4 f4 x4 h5 e5 => ⟨fun _ => ?_, fun c => absurd (by omega) c⟩) (fun s e h4 f4 g4 h5 e5 => ⟨fun c => absurd rfl c, fun _ => ?_⟩)))
  · obtain ⟨d5, z5, u5⟩ := D h4 h5 f4 e5
    have x5 : xQ h5 a ty m s := x4.cg (by rw [e5]; exact x4.1) (fun b k q1 q2 => by rw [e5, gS, if_neg (by omega)]) (by rw [e5]; rfl)
    have key : ∀ (d : Nat) (z : Int), 8 - z = d → 0 ≤ z → fst (fun i => rn i = 0) d z = fst (fun i => rn i = 0) 8 0 → zK 4 38 [vR 2 100, vR a 0, vI z] [] h5 (fun r h1 => ∃ v : Int, r = some (Sum.inl v) ∧ K v h1) := by
      intro d
      induction d with
      | zero =>
        intro z hz h0 e
        exact k4_38 a z h5 _ ⟨fun _ => zq1 (k2 s (by assumption) e.symm h5 d5 z5 u5), fun c => absurd (by omega) c⟩
      | succ d ih =>
        intro z hz h0 ef
        have w := u5 z h0 (by omega)
        refine k4_38 a z h5 _ ⟨fun c => absurd c (by omega), fun _ => ⟨by omega, by omega, fun c => ⟨by unfold inR; omega, ih (z + 1) (by omega) (by omega) ?_⟩, fun c => ⟨by omega, by omega, Or.inr x5.1, fun h6 e6 => zq1 ?_⟩⟩⟩
        · rw [fst_n (P := fun i => rn i = 0) (fun q => c (w.1 q))] at ef; exact ef
        · have q : rn z = 0 := by
            apply Classical.byContradiction; intro q
            have := (w.2 q).1; omega
          rw [fst_y (P := fun i => rn i = 0) q] at ef
          refine k1 s z (by assumption) (by omega) ef h6 ?_ ?_ ?_
          · refine ⟨fun b hb q1 q2 k q3 => ?_, fun b hb q1 q2 k q3 => ?_, fun b hb => ?_, by rw [e6]; exact d5.2.2.2.1, by rw [e6]; exact d5.2.2.2.2⟩
            · rw [e6, gIR]; exact d5.1 b hb q1 q2 k q3
            · rw [e6, gRR, if_neg (by omega)]; exact d5.2.1 b hb q1 q2 k q3
            · rw [e6]; exact d5.2.2.1 b hb
          · rw [e6, gIR]; exact z5
          · intro i i0 i1
            have wi := u5 i i0 i1
            unfold ups
            by_cases c1 : i = z
            · rw [if_pos c1, if_pos c1, if_pos c1, show gR h6 53 i = a by rw [e6, gRR, if_pos ⟨rfl, c1⟩]]
              refine ⟨fun q1 => absurd q1 (mpos s (by assumption)), fun _ => ⟨ha, ?_, x5.cg (by rw [e6]; exact x5.1) (fun b k _ _ => by rw [e6, gIR]) (by rw [e6]; rfl)⟩⟩
              have : nx h6 = a + 15 := by rw [e6]; exact d5.2.2.2.1
              omega
            · rw [if_neg c1, if_neg c1, if_neg c1, show gR h6 53 i = gR h5 53 i by rw [e6, gRR, if_neg (by omega)]]
              refine ⟨wi.1, fun q1 => ?_⟩
              have zz := wi.2 q1
              exact ⟨zz.1, by rw [e6]; exact zz.2.1, zz.2.2.cg (by rw [e6]; exact zz.2.2.1) (fun b k _ _ => by rw [e6, gIR]) (by rw [e6]; rfl)⟩
    exact key 8 0 (by omega) (by omega) rfl
  · obtain ⟨d5, z5, u5⟩ := D h4 h5 f4 e5
    have z : gI h5 54 0 = s 0 0 0 := by rw [e5, gS, if_neg (by omega)]; exact g4
    rw [e] at rg
    dsimp only at rg
    rw [z]
    exact ⟨by unfold inR; omega, zq1 (k3 s e h5 d5 z5 u5)⟩
end XD
