/-! The model: a whole rule. -/
/-- what a side leaves as it was -/
def rU (sd : Int) (s' s : pS) : Prop := (∀ i j, s' (10 - kid sd) i j = s (10 - kid sd) i j) ∧ (∀ j, j = 10 - kid sd ∨ j = 8 → s' 0 0 j = s 0 0 j)
section MW
variable {h : zH} {sd b0 : Int} {t : Int → Int} {n : Int} {s : pS}
theorem rU.rf : rU sd s s := ⟨fun _ _ => rfl, fun _ _ => rfl⟩
theorem rU.tr {s1 s2 : pS} (x : rU sd s1 s) (y : rU sd s2 s1) : rU sd s2 s := ⟨fun i j => (y.1 i j).trans (x.1 i j), fun j hj => (y.2 j hj).trans (x.2 j hj)⟩
theorem rU.up {s' : pS} {c : Nat} {i : Int} {j : Nat} {w : Int} (x : rU sd s' s) (hc : ¬ c = 10 - kid sd) (h2 : ¬ (c = 0 ∧ (j = 10 - kid sd ∨ j = 8))) : rU sd (up s' c i j w) s :=
  ⟨fun k l => by rw [upE, if_neg (by omega)]; exact x.1 k l, fun l hl => by rw [upE, if_neg (by omega)]; exact x.2 l hl⟩
theorem rU.fin {s' : pS} {i : Int} (x : rU sd s' s) : rU sd (rfin s' i) s := by
  have k3 := kid3 sd
  exact ⟨fun k l => by rw [rfin_o _ _ (by omega) (by omega)]; exact x.1 k l, fun l hl => by rw [rfin_o _ _ (by omega) (by omega)]; exact x.2 l hl⟩
theorem rU.put {s' : pS} {w a b f l : Int} (x : rU sd s' s) : rU sd (rput s' sd w a b f l) s := by
  have k3 := kid3 sd
  exact ⟨fun k l => by rw [rput_o _ _ (by omega) (by omega)]; exact x.1 k l, fun l hl => by rw [rput_o _ _ (by omega) (by omega)]; exact x.2 l hl⟩
theorem rU.tok {s' : pS} {it w a b f l : Int} (x : rU sd s' s) : rU sd (rtok s' sd it w a b f l) s := by
  have k3 := kid3 sd
  exact x.put.up (by omega) (by omega)
theorem rU.A {q : Int} : rU sd (rA s sd q) s := by
  have k3 := kid3 sd
  refine ⟨fun k l => ?_, fun l hl => rA_0 l (by omega)⟩
  unfold rA; rw [rcnt_o _ _ (by omega)]; exact radd_o _ _ (by omega) (by omega) (by omega)
theorem rU_step {s' : pS} (e : rstep t sd b0 s = (true, s')) : rU sd s' s := by
  have k3 := kid3 sd
  have hA : ∀ q, rU sd (rA s sd q) s := fun q => rU.A
  have ht : ∀ {q it w a b f l : Int}, rU sd (rtok (rA s sd q) sd it w a b f l) s := (hA _).tok
  have hh : ∀ {q it w l v b f z p : Int}, rU sd (rtok (up (up (up (rA s sd q) 5 l 0 v) 0 0 0 p) 1 it 1 l) sd it w l b f z) s := fun {q it w l v b f z p} =>
    ((((hA q).up (by omega) (by omega)).up (by omega) (by omega)).up (by omega) (by omega)).tok
  unfold rstep at e
  split at e
  · cases e
    unfold rclose
    exact ((((rU.rf.up (by omega) (by omega)).put).up (by omega) (by omega)).up (by omega) (by omega)).fin
  · unfold ritem at e
    split at e
    · cases e
    · split at e
      · revert e
        generalize (if isL (t (s 0 0 0)) then (1 : Int) else 0) = b
        intro e
        unfold rlit at e
        split at e
        · cases e; exact (((ht.up (by omega) (by omega)).up (by omega) (by omega)).up (by omega) (by omega)).fin
        · cases e
      · split at e
        · cases e; exact (ht.up (by omega) (by omega)).up (by omega) (by omega)
        · split at e
          · unfold rterm at e
            split at e
            · split at e
              · cases e; exact (((((ht.up (by omega) (by omega)).up (by omega) (by omega)).up (by omega) (by omega)).up (by omega) (by omega)).up (by omega) (by omega)).up (by omega) (by omega)
              · cases e
            · cases e
          · split at e
            · cases e; exact (ht.up (by omega) (by omega)).fin
            · split at e
              · unfold rhole at e
                split at e
                · split at e
                  · cases e; exact hh.fin
                  · split at e
                    · cases e
                    · cases e; exact ((hh.up (by omega) (by omega)).up (by omega) (by omega)).fin
                · cases e
              · unfold rhole at e
                split at e
                · split at e
                  · cases e; exact hh.fin
                  · split at e
                    · cases e
                    · cases e; exact ((hh.up (by omega) (by omega)).up (by omega) (by omega)).fin
                · cases e
theorem rU_side : ∀ (f : Nat) {s s' : pS}, rside t sd b0 f s = (true, s') → rU sd s' s := by
  have k3 := kid3 sd
  intro f
  induction f with
  | zero => intro s s' e; unfold rside at e; cases e
  | succ f ih =>
    intro s s' e
    unfold rside at e
    have ub : rU sd (rblk t s) s := by unfold rblk; exact rU.rf.up (by omega) (by omega)
    rcases hz : rstep t sd b0 (rblk t s) with ⟨ok, s1⟩
    rw [hz] at e
    cases ok with
    | false => cases e
    | true =>
      dsimp only at e
      split at e
      · cases e; exact ub.tr (rU_step hz)
      · exact (ub.tr (rU_step hz)).tr (ih e)
/-- letters that stand stay -/
theorem rV_nil (hn : 0 ≤ n) : rV n 0 0 rnil := by
  have e : ∀ c i j, ¬ (c = 0 ∧ j = 2) → rnil c i j = 0 := fun c i j hc => by unfold rnil; rw [upE, if_neg (by omega)]
  have e2 : rnil 0 0 2 = -1 := by unfold rnil; simp [upE]
  have ek : kid 0 = 3 := rfl
  refine ⟨?_, fun i h0 h1 => ?_, ⟨fun k h0 h1 => ?_, ?_⟩, fun i j _ => e _ _ _ (by omega)⟩
  · unfold rI
    rw [ek, e2, e 0 0 0 (by omega), e 0 0 1 (by omega), e 0 0 6 (by omega), e 0 0 3 (by omega), e 0 0 4 (by omega), e 0 0 5 (by omega)]
    refine ⟨by omega, hn, by omega, by omega, by omega, by omega, by omega, fun c => absurd rfl c, by omega, by omega, by omega, by omega, by omega, by omega, by omega, by omega, fun c => absurd rfl c⟩
  · rw [e 0 0 1 (by omega)] at h1; omega
  · rw [e 0 0 6 (by omega)] at h1; omega
  · rw [e2, e 0 0 6 (by omega), if_pos rfl, if_pos rfl]
theorem rV_mid (o : tOk t n) {s : pS} (v : rV n 0 0 s) (e2 : s 0 0 2 = -1) (e7 : s 0 0 7 = 0) (hp : s 0 0 0 < n) : rV n 1 (s 0 0 1) (rmid s) := by
  have u : ∀ c i j, ¬ (c = 0 ∧ (j = 0 ∨ j = 8)) → rmid s c i j = s c i j := fun c i j hc => by unfold rmid; rw [upE, if_neg (by omega), upE, if_neg (by omega)]
  have u0 : rmid s 0 0 0 = s 0 0 0 + 1 := by unfold rmid; simp [upE]
  obtain ⟨i1, i2, i3, i4, i5, i6, i7, i8, i9, i10, i11, i12, i13, i14, i15, i16, i17⟩ := v.1
  have ek : kid 1 = 7 := rfl
  have d6 : s 0 0 6 = 0 := by
    apply Classical.byContradiction; intro d
    have ct := v.2.2.1.2
    rw [if_pos e2, if_neg d] at ct
    have := v.2.2.1.1 (s 0 0 6 - 1) (by omega) (by omega)
    omega
  refine ⟨?_, fun i h0 h1 => ?_, ⟨fun k h0 h1 => ?_, ?_⟩, fun i j h => ?_⟩
  · unfold rI
    rw [ek, u0, u 0 0 2 (by omega), u 0 0 1 (by omega), u 0 0 6 (by omega), u 0 0 7 (by omega), u 0 0 4 (by omega), u 0 0 5 (by omega), e2, e7, d6]
    refine ⟨by omega, by omega, by omega, by omega, by omega, by omega, by omega, fun c => absurd rfl c, by omega, by omega, by omega, by omega, by omega, by omega, by omega, by omega, fun c => absurd rfl c⟩
  · rw [u 0 0 1 (by omega)] at h1; omega
  · rw [u 0 0 6 (by omega), d6] at h1; omega
  · rw [u 0 0 2 (by omega), u 0 0 6 (by omega), e2, d6, if_pos rfl, if_pos rfl]
  · rw [u 0 0 1 (by omega)] at h; rw [u _ _ _ (by omega)]; exact v.2.2.2 i j h
/-- a side, from its beginning -/
theorem s172 {q : Int} (o : tOk t n) (y : mY h t n (s 0 0 0)) (hq : q = sd) (hsd : sd = 0 ∨ sd = 1) (hb : 0 ≤ b0 ∧ b0 ≤ 20) (v : rV n sd b0 s) (hC : rC sd s) (e1 : s 0 0 1 = b0) (e2 : s 0 0 2 = -1) (ek : s 0 0 (kid sd) = 0) (e6 : s 0 0 6 = 0) (e45 : sd = 0 → s 0 0 4 = 0 ∧ s 0 0 5 = 0) (h5 : ∀ l, 0 ≤ l → l < 26 → gI h 143 l = s 5 l 0) {K : zH → Prop}
    (k : ∀ h1, mZ h sd b0 t n (rside t sd b0 301 s) h1 → K h1) : zC0 172 [vR 127 111, vI q] h K := by
  have o2 := o.2.1
  have kn := kidn sd
  rw [hq]
  refine cV (k172_0 sd h _ (fun h14 e14 h15 e15 h16 e16 h17 e17 => ⟨Or.inl rfl, fun h18 e18 => ?_⟩))
  have z18 : gI h18 127 32 = sd := by simp [e18, e17, e16, e15, e14, gS]
  rw [z18]
  refine ⟨by omega, by omega, fun h19 e19 h20 e20 => ?_⟩
  have F : frP (rmA sd) h h20 := by
    rw [e20, e19, e18, e17, e16, e15, e14]
    exact ((((((frP.rf.st (by unfold rmA; omega)).st (by unfold rmA; omega)).st (by unfold rmA; omega)).st (by unfold rmA; omega)).st (by unfold rmA; omega)).st (by unfold rmA; omega)).st (by unfold rmA; omega)
  have g : ∀ b i, ¬ b = 127 → ¬ b = 142 → gI h20 b i = gI h b i := fun b i h1 h2 => by simp [e20, e19, e18, e17, e16, e15, e14, gS, h1, h2]
  have x : mR h20 sd b0 t n s := by
    refine ⟨⟨y.1.fr F (by unfold rmA; constructor <;> omega), ?_, ?_⟩, ⟨?_, ?_, fun l h0 h1 => ?_, ?_, fun k j h0 h1 => ?_, ?_, fun k h0 h1 => ?_⟩, ⟨fun c => ?_, ?_, ?_⟩, ?_⟩
    · rw [← y.2.1]; simp [e20, e19, e18, e17, e16, e15, e14, gS]
    · rw [← y.2.2]; simp [e20, e19, e18, e17, e16, e15, e14, gS]
    · rw [e1]; simp [e20, e19, e18, e17, e16, e15, e14, gS]
    · simp [e20, e19, e18, e17, e16, e15, e14, gS]
    · rw [g _ _ (by omega) (by omega)]; exact h5 l h0 h1
    · rw [ek]; simp [e20, e19, gS]
    · omega
    · rw [e6]; simp [e20, gS]
    · omega
    · rw [(e45 c).1, (e45 c).2]; simp [e20, e19, e18, e17, e16, e15, e14, gS]
    · simp [e20, e19, e18, e17, e16, e15, e14, gS]
    · simp [e20, e19, e18, e17, e16, e15, e14, gS]; omega
    · rw [b2i_neg (fun c => c.1 e2)]; simp [e20, e19, e18, gS]
  exact s172l o hb hsd 301 h20 s x v hC (by have := v.1.1; omega) (fun h1 w => zq0 (k h1 (mZ.tr F w)))
end MW
