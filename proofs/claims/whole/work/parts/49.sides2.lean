/-! A rule that was read. -/
section LE
variable {sd b0 n : Int} {s : pS} {t : Int → Int}
theorem cntf_s {f : Int → Int} {a w : Int} {k : Nat} : cntf f a w (k + 1) = cntf f a w k + if f (a + k) = w then 1 else 0 := rfl
theorem cN_w {o hl kd wa wl w a b f l : Int} (c : cN t n o hl kd wa wl w a b f l) : (w = 6) = (o = 5) ∧ (w = 2) = (o = 2) ∧ (w = 5) = (o = 4) := by
  unfold cN at c
  refine ⟨propext ?_, propext ?_, propext ?_⟩
  all_goals
    rcases c with q | q | q | q | q | q
    · rw [q.1, q.2.1] <;> decide
    · rw [q.1, q.2.1] <;> decide
    · rw [q.1, q.2.1] <;> decide
    · rw [q.1, q.2.1] <;> decide
    · rw [q.1]
      rcases q.2.2.2.2.2.2.2.2.2 with r | r
      · rw [r.1] <;> decide
      · rw [r.1] <;> decide
    · rw [q.1, q.2.1]; decide
theorem nf_y {s' : pS} (e : nF t n sd b0 s s') : ∃ (o hl kd wa wl w a b f l : Int) (y : pS), oZ sd o hl kd wa wl w a b f l s y ∧ cN t n o hl kd wa wl w a b f l ∧ l5 sd o hl s y ∧ (o = 5 → sd = 0 → s 0 0 4 < 2) ∧ (o = 2 → s 0 0 5 = 0) ∧ (∀ c i j, ¬ (c = 1 ∧ j = 9) → ¬ (c = 0 ∧ j = 2) → s' c i j = y c i j) ∧ (∀ i, ¬ i = s 0 0 1 → ¬ i = y 1 (s 0 0 1) 3 → s' 1 i 9 = y 1 i 9) := by
  obtain ⟨o, hl, kd, wa, wl, w, a, b, f, l, y, z, cn, l5, h20, p5, p2, p0, q⟩ := e
  refine ⟨o, hl, kd, wa, wl, w, a, b, f, l, y, z, cn, l5, fun c d => (p5 c).2.2 d, fun c => (p2 c).2, fun c i j h1 h2 => ?_, fun i h1 h2 => ?_⟩
  · rcases q with q | q
    · rw [q.2.2]; exact rfin_o _ _ h1 h2
    · rw [q.2, upE, if_neg (by omega)]
  · rcases q with q | q
    · rw [q.2.2]; exact rfin_9 h1 (fun d => h2 d.1)
    · rw [q.2, upE, if_neg (by omega)]
theorem rNm_nf {s' : pS} (v : rV n sd b0 s) (x : rNm sd b0 s) (e : nF t n sd b0 s s') : rNm sd b0 s' := by
  have kn := kidn sd
  have k3 := kid3 sd
  obtain ⟨i1, i2, i3, i4, i5, i6, i7, i8, i9, i10, i11, i12⟩ := v.1
  clear i12
  obtain ⟨o, hl, kd, wa, wl, w, a, b, f, l, y, z, cn, l5, p5, p2, ey, _⟩ := nf_y e
  have nn := rA_new (s := s) (sd := sd) (o := o) (by omega)
  obtain ⟨y0, y1, y2, y3, y4, y5, y6, y7⟩ := z
  obtain ⟨w1, w2, w3, w4, w5, w6⟩ := y0
  have e1 : s' 0 0 1 = s 0 0 1 + 1 := by rw [ey _ _ _ (by omega) (by omega), w1]
  have ek : s' 0 0 (kid sd) = s 0 0 (kid sd) + 1 := by rw [ey _ _ _ (by omega) (by omega), w2]
  have ti : ∀ O, cntf (fun i => s' 1 i 0) b0 O (s' 0 0 1 - b0).toNat = cntf (fun i => s 1 i 0) b0 O (s 0 0 1 - b0).toNat + if o = O then 1 else 0 := by
    intro O
    rw [e1, show (s 0 0 1 + 1 - b0).toNat = (s 0 0 1 - b0).toNat + 1 by omega]
    rw [cntf_s, cntf_cg (f := fun i => s' 1 i 0) (g := fun i => s 1 i 0) _ (fun i h0 h1 => by
      rw [ey _ _ _ (by omega) (by omega), y1 i 0 (by omega), rA_old 0 (by omega)]; simp), show b0 + ((s 0 0 1 - b0).toNat : Int) = s 0 0 1 by omega]
    rw [ey _ _ _ (by omega) (by omega), w3 _ 0 (by omega) (by omega) (by omega) (by omega), nn.1]
  have tk : ∀ W, cntf (fun k => s' (kid sd) k 0) 0 W (s' 0 0 (kid sd)).toNat = cntf (fun k => s (kid sd) k 0) 0 W (s 0 0 (kid sd)).toNat + if w = W then 1 else 0 := by
    intro W
    rw [ek, show (s 0 0 (kid sd) + 1).toNat = (s 0 0 (kid sd)).toNat + 1 by omega]
    rw [cntf_s, cntf_cg (f := fun k => s' (kid sd) k 0) (g := fun k => s (kid sd) k 0) _ (fun i h0 h1 => by
      rw [ey _ _ _ (by omega) (by omega), y3 _ 0 (by omega), if_neg (by omega), rA_k i7]; simp), show (0 : Int) + ((s 0 0 (kid sd)).toNat : Int) = s 0 0 (kid sd) by omega]
    rw [ey _ _ _ (by omega) (by omega), y3 _ 0 (by omega), if_pos rfl, if_pos rfl]
  have e45 := rA_45 (s := s) (sd := sd) (o := o)
  obtain ⟨⟨x1, x2, x3⟩, x4⟩ := x
  unfold cW at x1 x2 x3
  refine ⟨⟨?_, ?_, ?_⟩, fun c => ?_⟩
  · unfold cW; rw [tk, ti, x1]
    simp only [(cN_w cn).1]
  · unfold cW; rw [tk, ti, x2]
    simp only [(cN_w cn).2.1]
  · unfold cW; rw [tk, ti, x3]
    simp only [(cN_w cn).2.2]
  · obtain ⟨a1, a2, a3, a4⟩ := x4 c
    rw [ti, ti, ey 0 0 4 (by omega) (by omega), ey 0 0 5 (by omega) (by omega), y5, y6, e45.1, e45.2, a1, a3]
    have p5 := fun q => p5 q c
    refine ⟨?_, ?_, ?_, ?_⟩
    · by_cases d : o = 5 <;> simp [d, c]
    · split <;> omega
    · by_cases d : o = 2 <;> simp [d, c]
    · split <;> omega
theorem rNm_close (v : rV n sd b0 s) (x : rNm sd b0 s) : rNm sd b0 (rclose sd s) := by
  have kn := kidn sd
  have k3 := kid3 sd
  obtain ⟨i1, i2, i3, i4, i5, i6, i7, i8, i9, i10, i11, i12⟩ := v.1
  clear i12
  have ey : ∀ c i j, ¬ c = kid sd → ¬ (c = 1 ∧ j = 9) → ¬ (c = 0 ∧ (j = 2 ∨ j = kid sd ∨ j = 6 ∨ j = 0)) → rclose sd s c i j = s c i j := by
    intro c i j h1 h2 h3
    rw [rclose_e, rfin_o _ _ h2 (by omega), rcl0_g h1 (by omega)]
  have ti : ∀ O, cntf (fun i => rclose sd s 1 i 0) b0 O (rclose sd s 0 0 1 - b0).toNat = cntf (fun i => s 1 i 0) b0 O (s 0 0 1 - b0).toNat := by
    intro O
    rw [ey 0 0 1 (by omega) (by omega) (by omega)]
    exact cntf_cg _ (fun i _ _ => ey _ _ _ (by omega) (by omega) (by omega))
  have tk : ∀ W, ¬ W = 7 → cntf (fun k => rclose sd s (kid sd) k 0) 0 W (rclose sd s 0 0 (kid sd)).toNat = cntf (fun k => s (kid sd) k 0) 0 W (s 0 0 (kid sd)).toNat := by
    intro W hW
    have ek : rclose sd s 0 0 (kid sd) = s 0 0 (kid sd) + 1 := by rw [rclose_e, rfin_o _ _ (by omega) (by omega), rcl0_n]
    have ec : ∀ k, rclose sd s (kid sd) k 0 = if k = s 0 0 (kid sd) then 7 else s (kid sd) k 0 := fun k => by
      rw [rclose_e, rfin_o _ _ (by omega) (by omega), rcl0_k (by omega)]; simp
    rw [ek, show (s 0 0 (kid sd) + 1).toNat = (s 0 0 (kid sd)).toNat + 1 by omega]
    rw [cntf_s, cntf_cg (f := fun k => rclose sd s (kid sd) k 0) (g := fun k => s (kid sd) k 0) _ (fun i h0 h1 => by rw [ec, if_neg (by omega)]), ec]
    have q : (0 : Int) + ((s 0 0 (kid sd)).toNat : Int) = s 0 0 (kid sd) := by omega
    have q2 : ¬ (7 : Int) = W := fun e => hW e.symm
    rw [q, if_pos rfl, if_neg q2, Int.add_zero]
  obtain ⟨⟨x1, x2, x3⟩, x4⟩ := x
  unfold cW at x1 x2 x3
  refine ⟨⟨?_, ?_, ?_⟩, fun c => ?_⟩
  · unfold cW; rw [tk 6 (by omega), ti, x1]
  · unfold cW; rw [tk 2 (by omega), ti, x2]
  · unfold cW; rw [tk 5 (by omega), ti, x3]
  · rw [ti, ti, ey 0 0 4 (by omega) (by omega) (by omega), ey 0 0 5 (by omega) (by omega) (by omega)]
    exact x4 c
/-- what a side leaves as it was -/
def kpS (sd b0 : Int) (s s' : pS) : Prop := (∀ i j, 0 ≤ i → i < b0 → s' 1 i j = s 1 i j) ∧ (∀ i, 0 ≤ i → i < b0 → s' 4 i 0 = s 4 i 0 ∧ s' 2 i 0 = s 2 i 0) ∧ (∀ c k j, c = 3 ∨ c = 7 → ¬ c = kid sd → s' c k j = s c k j ∧ s' 0 0 c = s 0 0 c) ∧ s' 0 0 8 = s 0 0 8 ∧ (¬ sd = 0 → ∀ l, s' 5 l 0 = s 5 l 0)
theorem kpS.tr {s1 s2 : pS} (x : kpS sd b0 s s1) (y : kpS sd b0 s1 s2) : kpS sd b0 s s2 := by
  obtain ⟨x1, x2, x3, x4, x5⟩ := x
  obtain ⟨y1, y2, y3, y4, y5⟩ := y
  refine ⟨fun i j h0 h1 => by rw [y1 i j h0 h1, x1 i j h0 h1], fun i h0 h1 => ⟨by rw [(y2 i h0 h1).1, (x2 i h0 h1).1], by rw [(y2 i h0 h1).2, (x2 i h0 h1).2]⟩, fun c k j h0 h1 => ⟨by rw [(y3 c k j h0 h1).1, (x3 c k j h0 h1).1], by rw [(y3 c k j h0 h1).2, (x3 c k j h0 h1).2]⟩, by rw [y4, x4], fun c l => by rw [y5 c, x5 c]⟩
theorem kpS_nf {s' : pS} (v : rV n sd b0 s) (e : nF t n sd b0 s s') : kpS sd b0 s s' := by
  have kn := kidn sd
  have k3 := kid3 sd
  obtain ⟨i1, i2, i3, i4, i5, i6, i7, i8, i9, i10, i11, i12⟩ := v.1
  clear i12
  obtain ⟨o, hl, kd, wa, wl, w, a, b, f, l, y, z, cn, l5, p5, p2, ey, e9⟩ := nf_y e
  have nn := rA_new (s := s) (sd := sd) (o := o) (by omega)
  obtain ⟨y0, y1, y2, y3, y4, y5, y6, y7⟩ := z
  obtain ⟨w1, w2, w3, w4, w5, w6⟩ := y0
  have y13 : y 1 (s 0 0 1) 3 = s 0 0 2 := by rw [w3 _ 3 (by omega) (by omega) (by omega) (by omega)]; exact nn.2.2.2.1
  have ho : ∀ i, 0 ≤ i → i < b0 → ¬ (¬ s 0 0 2 = -1 ∧ i = s 0 0 2) := fun i h0 h1 q => by have := (i8 q.1).1; omega
  have hn : ∀ i, 0 ≤ i → i < b0 → ¬ i = s 0 0 2 := fun i h0 h1 q => ho i h0 h1 ⟨by omega, q⟩
  refine ⟨fun i j h0 h1 => ?_, fun i h0 h1 => ⟨?_, ?_⟩, fun c k j h3 hc => ⟨?_, ?_⟩, ?_, fun c l => ?_⟩
  · have : s' 1 i j = y 1 i j := by
      by_cases d : j = 9
      · rw [d]; exact e9 i (by omega) (by rw [y13]; exact hn i h0 h1)
      · exact ey _ _ _ (by omega) (by omega)
    rw [this, y1 i j (by omega), rA_old j (by omega), if_neg (ho i h0 h1)]; omega
  · rw [ey _ _ _ (by omega) (by omega), w4, if_neg (by omega)]
  · rw [ey _ _ _ (by omega) (by omega), w5, rA_2 i7, if_neg (ho i h0 h1)]
  · rw [ey _ _ _ (by omega) (by omega)]; exact (y4 c k j h3 hc).1
  · rw [ey _ _ _ (by omega) (by omega)]; exact (y4 c k j h3 hc).2
  · rw [ey _ _ _ (by omega) (by omega)]; exact y7
  · rw [ey _ _ _ (by omega) (by omega), l5.1]
    by_cases d : (o = 1 ∨ o = 5) ∧ l = hl
    · rw [if_pos d, d.2]
      rcases l5.2 d.1 with q | q
      · exact q.symm
      · exact absurd q.1 c
    · rw [if_neg d]
theorem kpS_close (v : rV n sd b0 s) (hop : ¬ s 0 0 2 = -1) : kpS sd b0 s (rclose sd s) := by
  have kn := kidn sd
  have k3 := kid3 sd
  obtain ⟨i1, i2, i3, i4, i5, i6, i7, i8, i9, i10, i11, i12⟩ := v.1
  clear i12
  have hb := (i8 hop).1
  have jo := v.2.1 (s 0 0 2) hb i7
  have ey : ∀ c i j, ¬ c = kid sd → ¬ (c = 1 ∧ j = 9) → ¬ (c = 0 ∧ (j = 2 ∨ j = kid sd ∨ j = 6 ∨ j = 0)) → rclose sd s c i j = s c i j := by
    intro c i j h1 h2 h3
    rw [rclose_e, rfin_o _ _ h2 (by omega), rcl0_g h1 (by omega)]
  refine ⟨fun i j h0 h1 => ?_, fun i h0 h1 => ⟨?_, ?_⟩, fun c k j h3 hc => ⟨?_, ?_⟩, ?_, fun c l => ?_⟩
  · by_cases d : j = 9
    · rw [d, rclose_e, rfin_9 (by omega) (by rw [rcl0_g (by omega) (by omega)]; omega), rcl0_g (by omega) (by omega)]
    · exact ey _ _ _ (by omega) (by omega) (by omega)
  · exact ey _ _ _ (by omega) (by omega) (by omega)
  · exact ey _ _ _ (by omega) (by omega) (by omega)
  · exact ey _ _ _ hc (by omega) (by omega)
  · exact ey _ _ _ (by omega) (by omega) (by omega)
  · exact ey _ _ _ (by omega) (by omega) (by omega)
  · exact ey _ _ _ (by omega) (by omega) (by omega)
/-- all that holds of a side -/
def rSd (t : Int → Int) (n sd b0 : Int) (s : pS) : Prop := rV n sd b0 s ∧ rL sd b0 s ∧ rCt t n sd b0 s ∧ rNm sd b0 s
theorem rSd_p {p : Int} (x : rSd t n sd b0 s) (hp : 0 ≤ p ∧ p ≤ n) : rSd t n sd b0 (up s 0 0 0 p) := by
  have kn := kidn sd
  have g : ∀ c i j, ¬ (c = 0 ∧ j = 0) → up s 0 0 0 p c i j = s c i j := fun c i j h => by rw [upE, if_neg (by omega)]
  have g1 : ∀ i j, up s 0 0 0 p 1 i j = s 1 i j := fun i j => g 1 i j (by omega)
  have g2 : ∀ i j, up s 0 0 0 p 2 i j = s 2 i j := fun i j => g 2 i j (by omega)
  have g4 : ∀ i j, up s 0 0 0 p 4 i j = s 4 i j := fun i j => g 4 i j (by omega)
  have g5 : ∀ i j, up s 0 0 0 p 5 i j = s 5 i j := fun i j => g 5 i j (by omega)
  have gk : ∀ i j, up s 0 0 0 p (kid sd) i j = s (kid sd) i j := fun i j => g _ i j (by omega)
  have n1 : up s 0 0 0 p 0 0 1 = s 0 0 1 := g _ _ _ (by omega)
  have n2 : up s 0 0 0 p 0 0 2 = s 0 0 2 := g _ _ _ (by omega)
  have n4 : up s 0 0 0 p 0 0 4 = s 0 0 4 := g _ _ _ (by omega)
  have n5 : up s 0 0 0 p 0 0 5 = s 0 0 5 := g _ _ _ (by omega)
  have nk : up s 0 0 0 p 0 0 (kid sd) = s 0 0 (kid sd) := g _ _ _ (by omega)
  obtain ⟨x1, x2, x3, x4⟩ := x
  refine ⟨rV_p x1 hp, ?_, ?_, ?_⟩
  · unfold rL lA lB lcP bT iR at x2 ⊢
    simp only [g1, g2, g4, gk, n1, n2, nk]
    exact x2
  · unfold rCt cIt at x3 ⊢
    simp only [g1, g4, g5, gk, n1]
    exact x3
  · unfold rNm cW at x4 ⊢
    simp only [g1, gk, n1, n4, n5, nk]
    exact x4
theorem rSd_step {s' : pS} (k : tOk t n) (x : rSd t n sd b0 s) (pb : s 0 0 2 = -1 → s 0 0 1 = b0 ∧ s 0 0 (kid sd) = 0) (e : rstep t sd b0 s = (true, s')) : rSd t n sd b0 s' ∧ kpS sd b0 s s' := by
  obtain ⟨x1, x2, x3, x4⟩ := x
  have v' := (rV_step k x1 e).1
  rcases nf_step k x1 e with q | q
  · rw [q.2.2.2] at v' ⊢
    exact ⟨⟨v', rL_close x1 x2 q.1 q.2.1, rC_close x1 x2 x3 q.1 q.2.1, rNm_close x1 x4⟩, kpS_close x1 q.1⟩
  · exact ⟨⟨v', rL_nf x1 v' x2 pb q, rC_nf x1 x2 x3 q, rNm_nf x1 x4 q⟩, kpS_nf x1 q⟩
theorem kpS_p {p : Int} : kpS sd b0 s (up s 0 0 0 p) := by
  have g : ∀ c i j, ¬ (c = 0 ∧ j = 0) → up s 0 0 0 p c i j = s c i j := fun c i j h => by rw [upE, if_neg (by omega)]
  exact ⟨fun i j _ _ => g _ _ _ (by omega), fun i _ _ => ⟨g _ _ _ (by omega), g _ _ _ (by omega)⟩, fun c k j h3 _ => ⟨g _ _ _ (by omega), g _ _ _ (by omega)⟩, g _ _ _ (by omega), fun _ l => g _ _ _ (by omega)⟩
theorem rSd_side (k : tOk t n) : ∀ (f : Nat) {s s' : pS}, rSd t n sd b0 s → (s 0 0 2 = -1 → s 0 0 1 = b0 ∧ s 0 0 (kid sd) = 0) → rside t sd b0 f s = (true, s') → rSd t n sd b0 s' ∧ kpS sd b0 s s' ∧ s' 0 0 2 = -1 ∧ b0 < s' 0 0 1 := by
  intro f
  induction f with
  | zero => intro s s' v _ e; unfold rside at e; cases e
  | succ f ih =>
    intro s s' v pb e
    unfold rside at e
    have hr := pbl_rg k 301 (s 0 0 0) v.1.1.1 v.1.1.2.1
    have kn := kidn sd
    have vb : rSd t n sd b0 (rblk t s) := rSd_p v (by have := v.1.1.1; omega)
    have pb1 : rblk t s 0 0 2 = -1 → rblk t s 0 0 1 = b0 ∧ rblk t s 0 0 (kid sd) = 0 := by
      unfold rblk
      rw [upE, if_neg (by omega), upE, if_neg (by omega), upE, if_neg (by omega)]
      exact pb
    rcases hz : rstep t sd b0 (rblk t s) with ⟨ok, s1⟩
    rw [hz] at e
    cases ok with
    | false => cases e
    | true =>
      obtain ⟨v1, kp1⟩ := rSd_step k vb pb1 hz
      have kp := (kpS_p (sd := sd) (b0 := b0) (s := s) (p := pbl t 301 (s 0 0 0))).tr kp1
      dsimp only at e
      have hgt : b0 < s1 0 0 1 := by
        rcases nf_step k vb.1 hz with q | q
        · have := (vb.1.1.2.2.2.2.2.2.2.1 q.1).1
          have := vb.1.1.2.2.2.2.2.2.1
          rw [q.2.2.2, rclose_e, rfin_o _ _ (by omega) (by omega), rcl0_g (by omega) (by omega)]
          omega
        · obtain ⟨o, hl, kd, wa, wl, w, a, b, f, l, y, z, cn, l5, p5, p2, ey, e9⟩ := nf_y q
          have := vb.1.1.2.2.2.1
          rw [ey _ _ _ (by omega) (by omega), z.1.1]; omega
      split at e
      · cases e
        exact ⟨v1, kp, by assumption, hgt⟩
      · have := ih v1 (fun c => absurd c (by assumption)) e
        exact ⟨this.1, kp.tr this.2.1, this.2.2⟩
theorem rSd_nil (hn : 0 ≤ n) : rSd t n 0 0 rnil := by
  have e : ∀ c i j, ¬ (c = 0 ∧ j = 2) → rnil c i j = 0 := fun c i j hc => by unfold rnil; rw [upE, if_neg (by omega)]
  have e2 : rnil 0 0 2 = -1 := by unfold rnil; simp [upE]
  have e1 : rnil 0 0 1 = 0 := e 0 0 1 (by omega)
  have ek : rnil 0 0 (kid 0) = 0 := e _ _ _ (by decide)
  refine ⟨rV_nil hn, ⟨fun j h0 h1 => by omega, fun j h0 h1 => by omega, fun c => absurd e2 c, fun j h0 h1 => by omega, fun j h0 h1 => by omega, fun i j h0 h1 h2 => by omega, fun _ => Or.inl e1, fun i j h0 h1 h2 => by omega⟩, fun j h0 h1 => by omega, ⟨⟨?_, ?_, ?_⟩, fun _ => ⟨?_, ?_, ?_, ?_⟩⟩⟩
  · unfold cW; rw [ek, e1]; rfl
  · unfold cW; rw [ek, e1]; rfl
  · unfold cW; rw [ek, e1]; rfl
  · rw [e1, e 0 0 4 (by omega)]; rfl
  · rw [e 0 0 4 (by omega)]; omega
  · rw [e1, e 0 0 5 (by omega)]; rfl
  · rw [e 0 0 5 (by omega)]; omega
theorem rSd_mid (o : tOk t n) (x : rSd t n 0 0 s) (e2 : s 0 0 2 = -1) (e7 : s 0 0 7 = 0) (hp : s 0 0 0 < n) : rSd t n 1 (s 0 0 1) (rmid s) := by
  have u : ∀ c i j, ¬ (c = 0 ∧ (j = 0 ∨ j = 8)) → rmid s c i j = s c i j := fun c i j hc => by unfold rmid; rw [upE, if_neg (by omega), upE, if_neg (by omega)]
  have e2' : rmid s 0 0 2 = -1 := by rw [u _ _ _ (by omega)]; exact e2
  have e1 : rmid s 0 0 1 = s 0 0 1 := u _ _ _ (by omega)
  have ek : rmid s 0 0 (kid 1) = 0 := by rw [u _ _ _ (by decide)]; exact e7
  refine ⟨rV_mid o x.1 e2 e7 hp, ⟨fun j h0 h1 => by omega, fun j h0 h1 => by omega, fun c => absurd e2' c, fun j h0 h1 => by omega, fun j h0 h1 => by omega, fun i j h0 h1 h2 => by omega, fun _ => Or.inl e1, fun i j h0 h1 h2 => by omega⟩, fun j h0 h1 => by omega, ⟨⟨?_, ?_, ?_⟩, fun c => by omega⟩⟩
  · unfold cW; rw [ek, e1, Int.sub_self]; rfl
  · unfold cW; rw [ek, e1, Int.sub_self]; rfl
  · unfold cW; rw [ek, e1, Int.sub_self]; rfl
/-- a rule that was read: the pattern as it was read first, and all of it -/
def rGd (t : Int → Int) (n : Int) (s1 s : pS) : Prop := rSd t n 0 0 s1 ∧ s1 0 0 2 = -1 ∧ 0 < s1 0 0 1 ∧ rSd t n 1 (s1 0 0 1) s ∧ s 0 0 2 = -1 ∧ s1 0 0 1 < s 0 0 1 ∧ s 0 0 8 = s1 0 0 1 ∧
  (∀ i j, 0 ≤ i → i < s1 0 0 1 → s 1 i j = s1 1 i j) ∧ (∀ i, 0 ≤ i → i < s1 0 0 1 → s 4 i 0 = s1 4 i 0 ∧ s 2 i 0 = s1 2 i 0) ∧ (∀ k j, s 3 k j = s1 3 k j) ∧ s 0 0 3 = s1 0 0 3 ∧ (∀ l, s 5 l 0 = s1 5 l 0)
theorem rGd_read (k : tOk t n) (hn : 0 ≤ n) (e : rread t n = (true, s)) : ∃ s1, rGd t n s1 s := by
  have e1n : ∀ c i j, ¬ (c = 0 ∧ j = 2) → rnil c i j = 0 := fun c i j hc => by unfold rnil; rw [upE, if_neg (by omega)]
  unfold rread at e
  rcases hz : rside t 0 0 301 rnil with ⟨ok, s1⟩
  rw [hz] at e
  cases ok with
  | false => cases e
  | true =>
    dsimp only at e
    obtain ⟨v1, kp1, op1, gt1⟩ := rSd_side k 301 (rSd_nil hn) (fun _ => ⟨e1n _ _ _ (by omega), e1n _ _ _ (by decide)⟩) hz
    have s17 : s1 0 0 7 = 0 := by rw [(kp1.2.2.1 7 0 0 (Or.inr rfl) (by decide)).2]; exact e1n _ _ _ (by omega)
    split at e
    · rename_i g61
      have hr := pbl_rg k 301 (s1 0 0 0) v1.1.1.1 v1.1.1.2.1
      have vb : rSd t n 0 0 (rblk t s1) := rSd_p v1 (by have := v1.1.1.1; omega)
      have ub : ∀ c i j, ¬ (c = 0 ∧ j = 0) → rblk t s1 c i j = s1 c i j := fun c i j h => by unfold rblk; rw [upE, if_neg (by omega)]
      have um : ∀ c i j, ¬ (c = 0 ∧ (j = 0 ∨ j = 8)) → rmid (rblk t s1) c i j = s1 c i j := fun c i j hc => by unfold rmid; rw [upE, if_neg (by omega), upE, if_neg (by omega)]; exact ub c i j (by omega)
      have hm := rSd_mid k vb (by rw [ub _ _ _ (by omega)]; exact op1) (by rw [ub _ _ _ (by omega)]; exact s17) (k.lt (i := rblk t s1 0 0 0) (by omega)).2
      rw [ub 0 0 1 (by omega)] at hm
      rcases hz2 : rside t 1 (s1 0 0 1) 301 (rmid (rblk t s1)) with ⟨ok2, s2⟩
      rw [hz2] at e
      cases ok2 with
      | false => cases e
      | true =>
        dsimp only at e
        obtain ⟨v2, kp2, op2, gt2⟩ := rSd_side k 301 hm (fun _ => ⟨um _ _ _ (by omega), by rw [um _ _ _ (by decide)]; exact s17⟩) hz2
        split at e
        · cases e
          have hr2 := pbl_rg k 301 (s2 0 0 0) v2.1.1.1 v2.1.1.2.1
          have v3 : rSd t n 1 (s1 0 0 1) (rblk t s2) := rSd_p v2 (by have := v2.1.1.1; omega)
          have u2 : ∀ c i j, ¬ (c = 0 ∧ j = 0) → rblk t s2 c i j = s2 c i j := fun c i j h => by unfold rblk; rw [upE, if_neg (by omega)]
          refine ⟨s1, v1, op1, gt1, v3, ?_, ?_, ?_, fun i j h0 h1 => ?_, fun i h0 h1 => ⟨?_, ?_⟩, fun k j => ?_, ?_, fun l => ?_⟩
          · rw [u2 _ _ _ (by omega)]; exact op2
          · rw [u2 _ _ _ (by omega)]; exact gt2
          · rw [u2 _ _ _ (by omega), kp2.2.2.2.1]; simp [rmid, upE]; exact ub _ _ _ (by omega)
          · rw [u2 _ _ _ (by omega), kp2.1 i j h0 h1, um _ _ _ (by omega)]
          · rw [u2 _ _ _ (by omega), (kp2.2.1 i h0 h1).1, um _ _ _ (by omega)]
          · rw [u2 _ _ _ (by omega), (kp2.2.1 i h0 h1).2, um _ _ _ (by omega)]
          · rw [u2 _ _ _ (by omega), (kp2.2.2.1 3 k j (Or.inl rfl) (by decide)).1, um _ _ _ (by omega)]
          · rw [u2 _ _ _ (by omega), (kp2.2.2.1 3 0 0 (Or.inl rfl) (by decide)).2, um _ _ _ (by omega)]
          · rw [u2 _ _ _ (by omega), kp2.2.2.2.2 (by omega) l, um _ _ _ (by omega)]
        · cases e
    · cases e
end LE
