/-! Letters of a rule: each that counts stands at an item. Also: tests that hang, without a program. -/
section P5
variable {n : Int} {s : pS} {t : Int → Int}
def rP5 (s : pS) : Prop := ∀ l, ¬ s 5 l 0 = 0 → ∃ j, 0 ≤ j ∧ j < s 0 0 1 ∧ s 1 j 1 = l
theorem rP5_nf {s' : pS} (v : rV n 0 0 s) (x : rP5 s) (e : nF t n 0 0 s s') : rP5 s' := by
  obtain ⟨i1, i2, i3, i4, i5, i6, i7, i8, i9, i10, i11, i12⟩ := v.1
  clear i12
  obtain ⟨o, hl, kd, wa, wl, w, a, b, f, l, y, z, cn, l5, h20, p5, p2, p0, q⟩ := e
  clear cn p5 p2 p0 h20
  have z1 := z.1
  have g1 : ∀ i, s' 1 i 1 = y 1 i 1 := by
    intro i
    rcases q with q | q
    · rw [q.2.2, rfin_o _ _ (by omega) (by omega)]
    · rw [q.2, upE, if_neg (by omega)]
  have g5 : ∀ l, s' 5 l 0 = y 5 l 0 := by
    intro l
    rcases q with q | q
    · rw [q.2.2, rfin_o _ _ (by omega) (by omega)]
    · rw [q.2, upE, if_neg (by omega)]
  have n1 : s' 0 0 1 = s 0 0 1 + 1 := by
    rcases q with q | q
    · rw [q.2.2, rfin_o _ _ (by omega) (by omega)]; exact z1.1
    · rw [q.2, upE, if_neg (by omega)]; exact z1.1
  clear q
  have l5 := l5.1
  have z2 := z.2.1
  have z3 := z.2.2.1.1
  intro m hm
  rw [g5, l5] at hm
  rw [n1]
  by_cases c : (o = 1 ∨ o = 5) ∧ m = hl
  · exact ⟨s 0 0 1, by omega, by omega, by rw [g1, z3, c.2]⟩
  · rw [if_neg c] at hm
    obtain ⟨j, j0, j1, j2⟩ := x m hm
    refine ⟨j, j0, by omega, ?_⟩
    rw [g1, z2 j 1 (by omega), rA_old 1 (by omega), j2]
    split <;> simp
theorem rP5_cl (x : rP5 s) : rP5 (rclose 0 s) := by
  have kn := kidn 0
  have g : ∀ i, rclose 0 s 1 i 1 = s 1 i 1 := fun i => by rw [rclose_e, rfin_o _ _ (by omega) (by omega), rcl0_g (by omega) (by omega)]
  have g5 : ∀ l, rclose 0 s 5 l 0 = s 5 l 0 := fun l => by rw [rclose_e, rfin_o _ _ (by omega) (by omega), rcl0_g (by omega) (by omega)]
  have n1 : rclose 0 s 0 0 1 = s 0 0 1 := by rw [rclose_e, rfin_o _ _ (by omega) (by omega), rcl0_g (by omega) (by omega)]
  intro l hl
  rw [g5] at hl
  rw [n1]
  obtain ⟨j, j0, j1, j2⟩ := x l hl
  exact ⟨j, j0, j1, by rw [g]; exact j2⟩
theorem rP5_p {p : Int} (x : rP5 s) : rP5 (up s 0 0 0 p) := by
  have g : ∀ c i j, ¬ (c = 0 ∧ j = 0) → up s 0 0 0 p c i j = s c i j := fun c i j h => by rw [upE, if_neg (by omega)]
  intro l hl
  rw [g _ _ _ (by omega)] at hl
  rw [g _ _ _ (by omega)]
  obtain ⟨j, j0, j1, j2⟩ := x l hl
  exact ⟨j, j0, j1, by rw [g _ _ _ (by omega)]; exact j2⟩
theorem rP5_side (k : tOk t n) : ∀ (f : Nat) {s s' : pS}, rSd t n 0 0 s → (s 0 0 2 = -1 → s 0 0 1 = 0 ∧ s 0 0 (kid 0) = 0) → rP5 s → rside t 0 0 f s = (true, s') → rP5 s' := by
  intro f
  induction f with
  | zero => intro s s' v _ _ e; unfold rside at e; cases e
  | succ f ih =>
    intro s s' v pb x e
    unfold rside at e
    have hr := pbl_rg k 301 (s 0 0 0) v.1.1.1 v.1.1.2.1
    have kn := kidn 0
    have vb : rSd t n 0 0 (rblk t s) := rSd_p v (by have := v.1.1.1; omega)
    have xb : rP5 (rblk t s) := rP5_p x
    have pb1 : rblk t s 0 0 2 = -1 → rblk t s 0 0 1 = 0 ∧ rblk t s 0 0 (kid 0) = 0 := by
      unfold rblk
      rw [upE, if_neg (by omega), upE, if_neg (by omega), upE, if_neg (by omega)]
      exact pb
    rcases hz : rstep t 0 0 (rblk t s) with ⟨ok, s1⟩
    rw [hz] at e
    cases ok with
    | false => cases e
    | true =>
      obtain ⟨v1, kp1⟩ := rSd_step k vb pb1 hz
      dsimp only at e
      have x1 : rP5 s1 := by
        rcases nf_step k vb.1 hz with q | q
        · rw [q.2.2.2]; exact rP5_cl xb
        · exact rP5_nf vb.1 xb q
      split at e
      · cases e; exact x1
      · exact ih v1 (fun c => absurd c (by assumption)) x1 e
theorem rP5_read (k : tOk t n) (e : rread t n = (true, s)) : ∀ l, ¬ s 5 l 0 = 0 → ∃ j, 0 ≤ j ∧ j < s 0 0 8 ∧ s 1 j 1 = l := by
  have hn := k.1
  have e1n : ∀ c i j, ¬ (c = 0 ∧ j = 2) → rnil c i j = 0 := fun c i j hc => by unfold rnil; rw [upE, if_neg (by omega)]
  unfold rread at e
  rcases hz : rside t 0 0 301 rnil with ⟨ok, s1⟩
  rw [hz] at e
  cases ok with
  | false => cases e
  | true =>
    dsimp only at e
    obtain ⟨v1, kp1, op1, gt1⟩ := rSd_side k 301 (rSd_nil hn) (fun _ => ⟨e1n _ _ _ (by omega), e1n _ _ _ (by decide)⟩) hz
    have x1 : rP5 s1 := rP5_side k 301 (rSd_nil hn) (fun _ => ⟨e1n _ _ _ (by omega), e1n _ _ _ (by decide)⟩) (fun l hl => absurd (e1n _ _ _ (by omega)) hl) hz
    have s17 : s1 0 0 7 = 0 := by rw [(kp1.2.2.1 7 0 0 (Or.inr rfl) (by decide)).2]; exact e1n _ _ _ (by omega)
    split at e
    · rename_i g61
      have hr := pbl_rg k 301 (s1 0 0 0) v1.1.1.1 v1.1.1.2.1
      have vb : rSd t n 0 0 (rblk t s1) := rSd_p v1 (by have := v1.1.1.1; omega)
      have ub : ∀ c i j, ¬ (c = 0 ∧ j = 0) → rblk t s1 c i j = s1 c i j := fun c i j h => by unfold rblk; rw [upE, if_neg (by omega)]
      have um : ∀ c i j, ¬ (c = 0 ∧ (j = 0 ∨ j = 8)) → rmid (rblk t s1) c i j = s1 c i j := fun c i j hc => by unfold rmid; rw [upE, if_neg (by omega), upE, if_neg (by omega)]; exact ub c i j (by omega)
      have hm := rSd_mid k vb (by rw [ub _ _ _ (by omega)]; exact op1) (by rw [ub _ _ _ (by omega)]; exact s17) (k.lt (i := rblk t s1 0 0 0) (by omega)).2
      rw [ub 0 0 1 (by omega)] at hm
      rcases hz2 : rside t 1 (s1 0 0 1) 301 (rmid (rblk t s1)) with ⟨ok2, s2⟩
      rw [hz2] at e
      cases ok2 with
      | false => cases e
      | true =>
        dsimp only at e
        obtain ⟨v2, kp2, op2, gt2⟩ := rSd_side k 301 hm (fun _ => ⟨um _ _ _ (by omega), by rw [um _ _ _ (by decide)]; exact s17⟩) hz2
        split at e
        · cases e
          have u2 : ∀ c i j, ¬ (c = 0 ∧ j = 0) → rblk t s2 c i j = s2 c i j := fun c i j h => by unfold rblk; rw [upE, if_neg (by omega)]
          have e8 : rblk t s2 0 0 8 = s1 0 0 1 := by rw [u2 _ _ _ (by omega), kp2.2.2.2.1]; simp [rmid, upE]; exact ub _ _ _ (by omega)
          intro l hl
          rw [u2 _ _ _ (by omega), kp2.2.2.2.2 (by omega) l, um _ _ _ (by omega)] at hl
          rw [e8]
          obtain ⟨j, j0, j1, j2⟩ := x1 l hl
          exact ⟨j, j0, j1, by rw [u2 _ _ _ (by omega), kp2.1 j 1 j0 j1, um _ _ _ (by omega)]; exact j2⟩
        · cases e
    · cases e
theorem rGd.p5 {s1 : pS} (x : rGd t n s1 s) (k : tOk t n) (e : rread t n = (true, s)) {l : Int} (h : ¬ s 5 l 0 = 0) : ∃ j, 0 ≤ j ∧ j < s1 0 0 1 ∧ s1 1 j 1 = l := by
  obtain ⟨j, j0, j1, j2⟩ := rP5_read k e l h
  have e8 := x.2.2.2.2.2.2.1
  rw [e8] at j1
  exact ⟨j, j0, j1, by rw [← x.2.2.2.2.2.2.2.1 j 1 j0 j1]; exact j2⟩
end P5
section GT
variable {E : tsl → tsl → Prop} {rn : Int → Int} {Rw : Int → List tst}
theorem trw_g {x : Int} (hx : (0 ≤ x ∧ x < 8) ∧ ¬ rn x = 0) : ∀ (L : List tst) (G : List tnd) (c : Int), (∀ y, y ∈ L → y ∈ Rw x) → tGk E G → tGr rn Rw G → (c = -1 ∨ (0 ≤ c ∧ c < G.length)) → tGk E (trw E x G c L).1 ∧ tGr rn Rw (trw E x G c L).1 ∧ (trw E x G c L).1.length ≤ G.length + L.length
  | [], G, c, _, g, r, _ => ⟨g, r, Nat.le_refl _⟩
  | y :: L, G, c, hL, g, r, hc => by
    rw [trw]
    have g1 := tst1_g (a := (x, y)) g hc
    have r1 := tst1_r (E := E) (c := c) (a := (x, y)) r ⟨hx.1, hx.2, hL y (List.mem_cons.2 (Or.inl rfl))⟩
    have q := trw_g hx L _ _ (fun z hz => hL z (List.mem_cons.2 (Or.inr hz))) g1.1 r1 g1.2.1
    refine ⟨q.1, q.2.1, ?_⟩
    have q3 := q.2.2
    have g4 := g1.2.2.2
    rw [List.length_cons]
    omega
theorem trS_g (hR : ∀ x, (Rw x).length ≤ 40) : ∀ (f : Nat) (x : Int) (G : List tnd), x + f = 8 → 0 ≤ x → tGk E G → tGr rn Rw G → tGk E (trS E rn Rw f x G) ∧ tGr rn Rw (trS E rn Rw f x G) ∧ (trS E rn Rw f x G).length ≤ G.length + 40 * f
  | 0, x, G, _, _, g, r => ⟨g, r, by rw [trS]; omega⟩
  | f + 1, x, G, hx, x0, g, r => by
    rw [trS]
    by_cases d : rn x = 0
    · rw [if_pos d]
      have q := trS_g hR f (x + 1) G (by omega) (by omega) g r
      exact ⟨q.1, q.2.1, by have := q.2.2; omega⟩
    · rw [if_neg d]
      have w := trw_g (E := E) (rn := rn) (Rw := Rw) (x := x) ⟨⟨x0, by omega⟩, d⟩ (Rw x) G (-1) (fun y hy => hy) g r (Or.inl rfl)
      have q := trS_g hR f (x + 1) _ (by omega) (by omega) w.1 w.2.1
      have h40 := hR x
      exact ⟨q.1, q.2.1, by have := q.2.2; have := w.2.2; omega⟩
end GT
theorem gTs_g {rn : Int → Int} {rt : Int → Int → Int} {rs : Int → pS} : tGk (tEq rn rt rs) (gTs rn rt rs) ∧ tGr rn (fun x => tRw (sP rn rt rs x)) (gTs rn rt rs) ∧ (gTs rn rt rs).length ≤ 320 := by
  have q := trS_g (E := tEq rn rt rs) (rn := rn) (Rw := fun x => tRw (sP rn rt rs x)) (fun x => tRw_l) 8 0 [] (by omega) (by omega) ⟨fun i j n n2 _ e => (by cases e), fun j n e => (by cases e)⟩ (fun j n e => (by cases e))
  exact ⟨q.1, q.2.1, q.2.2⟩
