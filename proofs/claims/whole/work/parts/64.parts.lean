/-! How many parts what is deep and what is a leaf has; the root's own place. -/
section P6
variable {sd b0 n : Int} {s : pS} {t : Int → Int}
def rP6 (b0 : Int) (s : pS) : Prop := ∀ i, b0 ≤ i → i < s 0 0 1 → (¬ s 1 i 0 = 2 → ¬ s 1 i 0 = 4 → s 1 i 6 = 0) ∧ (s 1 i 0 = 2 → ¬ s 0 0 2 = i → s 1 i 6 = 1) ∧ (s 1 i 3 = -1 → s 1 i 5 = 0) ∧ (¬ s 1 i 0 = 2 → ¬ s 1 i 0 = 4 → s 1 i 7 = 0)
theorem rP6_nf {s' : pS} (v : rV n sd b0 s) (l : rL sd b0 s) (x : rP6 b0 s) (e : nF t n sd b0 s s') : rP6 b0 s' := by
  obtain ⟨i1, i2, i3, i4, i5, i6, i7, i8, i9, i10, i11, i12⟩ := v.1
  clear i12
  have ve := v.2.2.2
  have l3 := l.2.2.1
  obtain ⟨o, hl, kd, wa, wl, w, a, b, f, l, y, z, cn, l5, h20, p5, p2, p0, q⟩ := e
  have nn := rA_new (s := s) (sd := sd) (o := o) (by omega)
  have z1 := z.1
  have g : ∀ i j, j = 0 ∨ j = 3 ∨ j = 5 ∨ j = 6 ∨ j = 7 → s' 1 i j = rA s sd o 1 i j := by
    intro i j hj
    rcases q with q | q
    · rw [q.2.2, rfin_o _ _ (by omega) (by omega)]; exact z1.2.2.1 i j (by omega) (by omega) (by omega) (by omega)
    · rw [q.2, upE, if_neg (by omega)]; exact z1.2.2.1 i j (by omega) (by omega) (by omega) (by omega)
  have n1 : s' 0 0 1 = s 0 0 1 + 1 := by
    rcases q with q | q
    · rw [q.2.2, rfin_o _ _ (by omega) (by omega)]; exact z1.1
    · rw [q.2, upE, if_neg (by omega)]; exact z1.1
  intro i h0 h1
  rw [n1] at h1
  by_cases c : i = s 0 0 1
  · subst c
    rw [g _ 0 (by omega), g _ 6 (by omega), g _ 3 (by omega), g _ 5 (by omega), g _ 7 (by omega), nn.1, nn.2.2.2.1, nn.2.2.2.2.2.1, nn.2.2.2.2.2.2.1, nn.2.2.2.2.2.2.2.1]
    refine ⟨fun _ _ => ve _ _ (Int.le_refl _), fun c2 ne => ?_, fun c3 => ?_, fun _ _ => ve _ _ (Int.le_refl _)⟩
    · rcases q with q | q
      · omega
      · rw [q.2] at ne; simp [upE] at ne
    · rw [if_pos c3]; exact ve _ _ (Int.le_refl _)
  · have xi := x i h0 (by omega)
    rw [g _ 0 (by omega), g _ 6 (by omega), g _ 3 (by omega), g _ 5 (by omega), g _ 7 (by omega), rA_old 0 c, rA_old 6 c, rA_old 3 c, rA_old 5 c, rA_old 7 c]
    by_cases co : ¬ s 0 0 2 = -1 ∧ i = s 0 0 2
    · have l3 := l3 co.1
      have i8 := i8 co.1
      rw [← co.2] at l3 i8
      rw [if_pos co, if_pos co, if_pos co, if_pos co, if_pos co]
      simp only [show ¬ (0 : Nat) = 6 by omega, show ¬ (3 : Nat) = 6 by omega, show ¬ (5 : Nat) = 6 by omega, show ¬ ((0 : Nat) = 7 ∧ o = 5) by omega, show ¬ ((3 : Nat) = 7 ∧ o = 5) by omega, show ¬ ((5 : Nat) = 7 ∧ o = 5) by omega, if_false, if_true, Int.add_zero]
      refine ⟨fun a b => by omega, fun a _ => ?_, xi.2.2.1, fun a b => by omega⟩
      have := l3.2.2.2 a
      omega
    · rw [if_neg co, if_neg co, if_neg co, if_neg co, if_neg co]
      simp only [Int.add_zero]
      exact ⟨xi.1, fun a _ => xi.2.1 a (fun e => co ⟨by omega, e.symm⟩), xi.2.2⟩
theorem rP6_cl (x : rP6 b0 s) (h4 : s 1 (s 0 0 2) 0 = 4) : rP6 b0 (rclose sd s) := by
  have kn := kidn sd
  have g : ∀ i j, ¬ j = 9 → rclose sd s 1 i j = s 1 i j := fun i j hj => by rw [rclose_e, rfin_o _ _ (by omega) (by omega), rcl0_g (by omega) (by omega)]
  have n1 : rclose sd s 0 0 1 = s 0 0 1 := by rw [rclose_e, rfin_o _ _ (by omega) (by omega), rcl0_g (by omega) (by omega)]
  intro i h0 h1
  rw [n1] at h1
  have xi := x i h0 h1
  rw [g _ 0 (by omega), g _ 6 (by omega), g _ 3 (by omega), g _ 5 (by omega), g _ 7 (by omega)]
  exact ⟨xi.1, fun a _ => xi.2.1 a (fun e => by rw [e] at h4; omega), xi.2.2⟩
theorem rP6_p {p : Int} (x : rP6 b0 s) : rP6 b0 (up s 0 0 0 p) := by
  have g : ∀ c i j, ¬ (c = 0 ∧ j = 0) → up s 0 0 0 p c i j = s c i j := fun c i j h => by rw [upE, if_neg (by omega)]
  intro i h0 h1
  rw [g _ _ _ (by omega)] at h1
  rw [g _ _ _ (by omega), g _ _ _ (by omega), g _ _ _ (by omega), g _ _ _ (by omega), g _ _ _ (by omega), g _ _ _ (by omega)]
  exact x i h0 h1
theorem rP6_side (k : tOk t n) : ∀ (f : Nat) {s s' : pS}, rSd t n sd b0 s → (s 0 0 2 = -1 → s 0 0 1 = b0 ∧ s 0 0 (kid sd) = 0) → rP6 b0 s → rside t sd b0 f s = (true, s') → rP6 b0 s' := by
  intro f
  induction f with
  | zero => intro s s' v _ _ e; unfold rside at e; cases e
  | succ f ih =>
    intro s s' v pb x e
    unfold rside at e
    have hr := pbl_rg k 301 (s 0 0 0) v.1.1.1 v.1.1.2.1
    have kn := kidn sd
    have vb : rSd t n sd b0 (rblk t s) := rSd_p v (by have := v.1.1.1; omega)
    have xb : rP6 b0 (rblk t s) := rP6_p x
    have pb1 : rblk t s 0 0 2 = -1 → rblk t s 0 0 1 = b0 ∧ rblk t s 0 0 (kid sd) = 0 := by
      unfold rblk
      rw [upE, if_neg (by omega), upE, if_neg (by omega), upE, if_neg (by omega)]
      exact pb
    rcases hz : rstep t sd b0 (rblk t s) with ⟨ok, s1⟩
    rw [hz] at e
    cases ok with
    | false => cases e
    | true =>
      obtain ⟨v1, kp1⟩ := rSd_step k vb pb1 hz
      dsimp only at e
      have x1 : rP6 b0 s1 := by
        rcases nf_step k vb.1 hz with q | q
        · rw [q.2.2.2]; exact rP6_cl xb q.2.1
        · exact rP6_nf vb.1 vb.2.1 xb q
      split at e
      · cases e; exact x1
      · exact ih v1 (fun c => absurd c (by assumption)) x1 e
/-- in a rule that was read -/
def rP7 (s : pS) : Prop := ∀ i, 0 ≤ i → i < s 0 0 8 → (¬ s 1 i 0 = 2 → ¬ s 1 i 0 = 4 → s 1 i 6 = 0) ∧ (s 1 i 0 = 2 → s 1 i 6 = 1) ∧ (s 1 i 3 = -1 → s 1 i 5 = 0) ∧ (¬ s 1 i 0 = 2 → ¬ s 1 i 0 = 4 → s 1 i 7 = 0)
theorem rP7_read (k : tOk t n) (e : rread t n = (true, s)) : rP7 s := by
  have hn := k.1
  have e1n : ∀ c i j, ¬ (c = 0 ∧ j = 2) → rnil c i j = 0 := fun c i j hc => by unfold rnil; rw [upE, if_neg (by omega)]
  unfold rread at e
  rcases hz : rside t 0 0 301 rnil with ⟨ok, s1⟩
  rw [hz] at e
  cases ok with
  | false => cases e
  | true =>
    dsimp only at e
    obtain ⟨v1, kp1, op1, gt1⟩ := rSd_side k 301 (rSd_nil hn) (fun _ => ⟨e1n _ _ _ (by omega), e1n _ _ _ (by decide)⟩) hz
    have x1 : rP6 0 s1 := rP6_side k 301 (rSd_nil hn) (fun _ => ⟨e1n _ _ _ (by omega), e1n _ _ _ (by decide)⟩) (fun i h0 h1 => by rw [e1n _ _ _ (by omega)] at h1; omega) hz
    have s17 : s1 0 0 7 = 0 := by rw [(kp1.2.2.1 7 0 0 (Or.inr rfl) (by decide)).2]; exact e1n _ _ _ (by omega)
    split at e
    · rename_i g61
      have hr := pbl_rg k 301 (s1 0 0 0) v1.1.1.1 v1.1.1.2.1
      have vb : rSd t n 0 0 (rblk t s1) := rSd_p v1 (by have := v1.1.1.1; omega)
      have ub : ∀ c i j, ¬ (c = 0 ∧ j = 0) → rblk t s1 c i j = s1 c i j := fun c i j h => by unfold rblk; rw [upE, if_neg (by omega)]
      have um : ∀ c i j, ¬ (c = 0 ∧ (j = 0 ∨ j = 8)) → rmid (rblk t s1) c i j = s1 c i j := fun c i j hc => by unfold rmid; rw [upE, if_neg (by omega), upE, if_neg (by omega)]; exact ub c i j (by omega)
      have hm := rSd_mid k vb (by rw [ub _ _ _ (by omega)]; exact op1) (by rw [ub _ _ _ (by omega)]; exact s17) (k.lt (i := rblk t s1 0 0 0) (by omega)).2
      rw [ub 0 0 1 (by omega)] at hm
      rcases hz2 : rside t 1 (s1 0 0 1) 301 (rmid (rblk t s1)) with ⟨ok2, s2⟩
      rw [hz2] at e
      cases ok2 with
      | false => cases e
      | true =>
        dsimp only at e
        obtain ⟨v2, kp2, op2, gt2⟩ := rSd_side k 301 hm (fun _ => ⟨um _ _ _ (by omega), by rw [um _ _ _ (by decide)]; exact s17⟩) hz2
        split at e
        · cases e
          have u2 : ∀ c i j, ¬ (c = 0 ∧ j = 0) → rblk t s2 c i j = s2 c i j := fun c i j h => by unfold rblk; rw [upE, if_neg (by omega)]
          have e8 : rblk t s2 0 0 8 = s1 0 0 1 := by rw [u2 _ _ _ (by omega), kp2.2.2.2.1]; simp [rmid, upE]; exact ub _ _ _ (by omega)
          intro i h0 h1
          rw [e8] at h1
          have c : ∀ j, rblk t s2 1 i j = s1 1 i j := fun j => by rw [u2 _ _ _ (by omega), kp2.1 i j h0 h1, um _ _ _ (by omega)]
          rw [c, c, c, c, c]
          have q := x1 i h0 h1
          exact ⟨q.1, fun a => q.2.1 a (by omega), q.2.2⟩
        · cases e
    · cases e
/-- in its pattern -/
def rP8 (s : pS) : Prop := ∀ i, 0 ≤ i → i < s 0 0 1 → (¬ s 1 i 0 = 2 → ¬ s 1 i 0 = 4 → s 1 i 6 = 0) ∧ (s 1 i 0 = 2 → s 1 i 6 = 1) ∧ (s 1 i 3 = -1 → s 1 i 5 = 0) ∧ (¬ s 1 i 0 = 2 → ¬ s 1 i 0 = 4 → s 1 i 7 = 0)
theorem rGd.p8 {s1 : pS} (x : rGd t n s1 s) (k : tOk t n) (e : rread t n = (true, s)) : rP8 s1 := by
  have q := rP7_read k e
  intro i h0 h1
  have c := fun j => x.2.2.2.2.2.2.2.1 i j h0 h1
  have := q i h0 (by rw [x.2.2.2.2.2.2.1]; exact h1)
  rw [c, c, c, c, c] at this
  exact this
end P6
