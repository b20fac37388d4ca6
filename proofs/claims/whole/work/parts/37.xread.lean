/-! The class: RuleReader.read. -/
theorem r5_step {t : Int → Int} {sd b0 : Int} {s s' : pS} (hs : ¬ sd = 0) (e : rstep t sd b0 s = (true, s')) : ∀ l, s' 5 l 0 = s 5 l 0 := by
  have kn := kidn sd
  have hA : ∀ q l, rA s sd q 5 l 0 = s 5 l 0 := fun q l => rA_t _ _ (Or.inr (Or.inl rfl))
  have ht : ∀ {A : pS} {it w a b f z l : Int}, rtok A sd it w a b f z 5 l 0 = A 5 l 0 := fun {A it w a b f z l} => rtk 5 l 0 (by omega)
  have hu : ∀ {A : pS} {c : Nat} {i : Int} {j : Nat} {v l : Int}, ¬ c = 5 → up A c i j v 5 l 0 = A 5 l 0 := fun hc => by rw [upE, if_neg (by omega)]
  have hf : ∀ {A : pS} {i l : Int}, rfin A i 5 l 0 = A 5 l 0 := fun {A i l} => rfin_o _ _ (by omega) (by omega)
  have h5 : ∀ {q m v : Int}, rA s sd q 5 m 0 = v → ∀ l, up (rA s sd q) 5 m 0 v 5 l 0 = s 5 l 0 := fun {q m v} g l => by
    rw [upE]; split
    · rename_i c; rw [← g, hA, c.2.1]
    · exact hA q l
  unfold rstep at e
  split at e
  · cases e
    intro l
    unfold rclose
    rw [hf, hu (by omega), hu (by omega), rput_o _ _ (by omega) (by omega), hu (by omega)]
  · unfold ritem at e
    split at e
    · cases e
    · split at e
      · revert e
        generalize (if isL (t (s 0 0 0)) then (1 : Int) else 0) = b
        intro e
        unfold rlit at e
        split at e
        · cases e; intro l; rw [hf, hu (by omega), hu (by omega), hu (by omega), ht]; exact hA 3 l
        · cases e
      · split at e
        · cases e; intro l; rw [hu (by omega), hu (by omega), ht]; exact hA 2 l
        · split at e
          · unfold rterm at e
            split at e
            · split at e
              · cases e; intro l; rw [hu (by omega), hu (by omega), hu (by omega), hu (by omega), hu (by omega), hu (by omega), ht]; exact hA 4 l
              · cases e
            · cases e
          · split at e
            · cases e; intro l; rw [hf, hu (by omega), ht]; exact hA 0 l
            · split at e
              · unfold rhole at e
                split at e
                · rename_i g
                  have g5 := g.2.resolve_right (fun q => hs q.1)
                  split at e
                  · cases e; intro l; rw [hf, ht, hu (by omega), hu (by omega)]; exact h5 (q := 1) g5 l
                  · split at e
                    · cases e
                    · cases e; intro l; rw [hf, hu (by omega), hu (by omega), ht, hu (by omega), hu (by omega)]; exact h5 (q := 1) g5 l
                · cases e
              · unfold rhole at e
                split at e
                · rename_i g
                  have g5 := g.2.resolve_right (fun q => hs q.1)
                  split at e
                  · cases e; intro l; rw [hf, ht, hu (by omega), hu (by omega)]; exact h5 (q := 5) g5 l
                  · split at e
                    · cases e
                    · cases e; intro l; rw [hf, hu (by omega), hu (by omega), ht, hu (by omega), hu (by omega)]; exact h5 (q := 5) g5 l
                · cases e
theorem r5_side {t : Int → Int} {sd b0 : Int} (hs : ¬ sd = 0) : ∀ (f : Nat) {s s' : pS}, rside t sd b0 f s = (true, s') → ∀ l, s' 5 l 0 = s 5 l 0 := by
  intro f
  induction f with
  | zero => intro s s' e; unfold rside at e; cases e
  | succ f ih =>
    intro s s' e l
    unfold rside at e
    have ub : rblk t s 5 l 0 = s 5 l 0 := by unfold rblk; rw [upE, if_neg (by omega)]
    rcases hz : rstep t sd b0 (rblk t s) with ⟨ok, s1⟩
    rw [hz] at e
    cases ok with
    | false => cases e
    | true =>
      dsimp only at e
      split at e
      · cases e; rw [r5_step hs hz l, ub]
      · rw [ih e l, r5_step hs hz l, ub]
theorem rH_side {t : Int → Int} {sd b0 : Int} : ∀ (f : Nat) {s s' : pS}, rH s → rside t sd b0 f s = (true, s') → rH s' := by
  intro f
  induction f with
  | zero => intro s s' x e; unfold rside at e; cases e
  | succ f ih =>
    intro s s' x e
    unfold rside at e
    have xb : rH (rblk t s) := fun l => by unfold rblk; rw [upE, if_neg (by omega)]; exact x l
    rcases hz : rstep t sd b0 (rblk t s) with ⟨ok, s1⟩
    rw [hz] at e
    cases ok with
    | false => cases e
    | true =>
      dsimp only at e
      split at e
      · cases e; exact rH_step xb hz
      · exact ih (rH_step xb hz) e
/-- a rule of the class -/
def xQ (h : zH) (r : Nat) (t : Int → Int) (n : Int) (s : pS) : Prop := zty 103 r h ∧ Txt h (r + 1) t n ∧ (∀ i (j : Nat), 0 ≤ i → i < 40 → j < 12 → gI h (r + 3 + j) i = s 1 i j) ∧ gI h r 13 = s 0 0 1 ∧ xE h r s
def fr75 (a : Nat) (h h1 : zH) : Prop := (∀ b, b < a → ¬ b = 54 → ¬ b = 55 → ∀ k, gI h1 b k = gI h b k ∧ gR h1 b k = gR h b k) ∧ (∀ b, b < a → tg h1 b = tg h b ∧ ln h1 b = ln h b) ∧ nx h1 = a + 15 ∧ sc h1 = sc h + 798
theorem s75 {h : zH} {t : Int → Int} {n : Int} {b a : Nat} (o : tOk t n) (x : Txt h b t n) (hb : b + 1 < a ∧ ¬ b = 54 ∧ ¬ b + 1 = 54 ∧ ¬ b = 55 ∧ ¬ b + 1 = 55) (ha : 170 ≤ a) (hn : nx h = a) {K : Nat → zH → Prop}
    (k1 : ∀ s, rread t n = (true, s) → ∀ h1, fr75 a h h1 → xQ h1 a t n s → K a h1)
    (k2 : ∀ s, rread t n = (false, s) → ∀ h1, fr75 a h h1 → gI h1 54 0 = s 0 0 0 → K 0 h1) : zCr 75 0 [vR 54 104, vR b 101] h K := by
  have o1 := o.1
  have o2 := o.2.1
  refine cA (k75_0 b h _ (fun h17 e17 => ⟨by omega, ?_⟩))
  rw [hn]
  refine s66 (by omega) (by rw [e17, nxN, hn]) (by rw [e17, tgN, if_pos hn.symm]) (fun k => by rw [e17, gN, if_pos hn.symm]) (fun h18 o18 n18 s18 ty18 tx18 l18 z18 h19 e19 => ?_)
  have a17 : ∀ b, b < a → (∀ k, gI h17 b k = gI h b k ∧ gR h17 b k = gR h b k) ∧ tg h17 b = tg h b ∧ ln h17 b = ln h b := fun b hb => ⟨fun k => ⟨by rw [e17, gN, if_neg (by omega)], by rw [e17, gRN, if_neg (by omega)]⟩, by rw [e17, tgN, if_neg (by omega)], by rw [e17, lnN, if_neg (by omega)]⟩
  have q19 : gR h19 54 2 = a := by rw [e19, gRR, if_pos ⟨rfl, rfl⟩]
  have ty19 : zty 103 a h19 := by rw [e19]; exact ty18
  have i19 : ∀ c k, gI h19 c k = gI h18 c k := fun c k => by rw [e19]; rfl
  have x19 : Txt h19 b t n := by
    refine ⟨?_, ?_, fun i h0 h1 => ?_⟩
    · rw [i19, ((o18.1 b (by omega)).1 1).1, ((a17 b (by omega)).1 1).1]; exact x.1
    · have : ln h19 (b + 1) = ln h18 (b + 1) := by rw [e19]; rfl
      rw [this, (o18.1 _ (by omega)).2.2, (a17 _ (by omega)).2.2]; exact x.2.1
    · rw [i19, ((o18.1 _ (by omega)).1 i).1, ((a17 _ (by omega)).1 i).1]; exact x.2.2 i h0 h1
  rw [q19]
  refine ⟨ty19, s45 x19 o (by have : ln h19 (a + 1 + 1) = ln h18 (a + 2) := by rw [e19]; rfl
                              rw [this]; exact l18) (by omega) (fun h20 f20 x20 => ?_)⟩
  have q20 : gR h20 54 2 = a := by rw [f20.rr]; exact q19
  have ty20 : zty 103 a h20 := by rw [f20.ty]; exact ty19
  rw [q20]
  refine ⟨ty20, fun h21 e21 h22 e22 h23 e23 h24 e24 h25 e25 h26 e26 => ⟨Or.inl rfl, fun h27 e27 => ?_⟩⟩
  have i27 : ∀ c k, ¬ c = 54 → gI h27 c k = gI h20 c k := fun c k hc => by rw [e27, gS, if_neg (by omega), e26, gS, if_neg (by omega), e25, gS, if_neg (by omega), e24, gS, if_neg (by omega), e23, gS, if_neg (by omega), e22, gS, if_neg (by omega), e21]; rfl
  have h2eq : h27.2 = h21.2 := by rw [e27, e26, e25, e24, e23, e22]; rfl
  have r27 : ∀ c k, gR h27 c k = gR h21 c k := fun c k => by unfold gR; rw [h2eq]
  have t27 : ∀ ty c, zty ty c h27 = zty ty c h21 := fun ty c => by unfold zty nx tg ln; rw [h2eq]
  have z0 : ∀ c k, a ≤ c → c < a + 15 → ¬ c = a + 2 → ¬ (c = a + 1 ∧ k = 1) → gI h20 c k = 0 := fun c k h0 h1 h2 h3 => by
    rw [f20.1 _ _ (by unfold txA; omega), i19]; exact z18 c k h0 h1
  have nil : ∀ c i j, ¬ (c = 0 ∧ j = 2) → rnil c i j = 0 := fun c i j hc => by unfold rnil; rw [upE, if_neg (by omega)]
  -- where nothing has been read yet
  have x27 : xR h27 a 0 (gI h27 54 4) t n (up rnil 0 0 2 (gI h27 54 3)) := by
    have u : ∀ c i j, ¬ (c = 0 ∧ j = 2) → up rnil 0 0 2 (gI h27 54 3) c i j = 0 := fun c i j hc => by rw [upE, if_neg (by omega)]; exact nil c i j hc
    refine ⟨⟨?_, ?_, ?_, ?_, ha⟩, ⟨?_, ?_, fun i h0 h1 => ?_⟩, ⟨?_, ?_, ?_, rfl, ?_, ?_, ?_⟩, fun i j h0 h1 h2 => ?_, fun i h0 h1 h2 => ?_, ?_, ?_⟩
    · rw [r27, e21, gRR, if_neg (by omega)]; exact q20
    · rw [r27, e21, gRR, if_pos ⟨rfl, rfl⟩]
    · rw [t27, e21]; exact ty20
    · rw [t27, e21]; show zty 101 (a + 1) h20; rw [f20.ty, e19]; exact tx18
    · rw [i27 _ _ (by omega)]; exact x20.1
    · have : ln h27 (a + 1 + 1) = ln h20 (a + 1 + 1) := by unfold ln; rw [h2eq, e21]; rfl
      rw [this]; exact x20.2.1
    · rw [i27 _ _ (by omega)]; exact x20.2.2 i h0 h1
    · rw [u _ _ _ (by omega)]; simp [e27, e26, e25, e24, e23, e22, gS]
    · rw [u _ _ _ (by omega), i27 _ _ (by omega)]; exact z0 _ _ (by omega) (by omega) (by omega) (by omega)
    · simp [upE]
    · simp [e27, gS]
    · rw [u _ _ _ (by omega)]; simp [e27, e26, e25, e24, e23, gS]
    · rw [u _ _ _ (by omega)]; simp [e27, e26, e25, e24, gS]
    · rw [u _ _ _ (by omega), i27 _ _ (by omega)]; exact z0 _ _ (by omega) (by omega) (by omega) (by omega)
    · exact absurd (u _ _ _ (by omega)) h2
    · refine ⟨0, by simp [e27, e26, e25, gS], by omega, fun l hl => ?_⟩
      dsimp only; rw [u _ _ _ (by omega)]; simp
    · refine ⟨0, by simp [e27, e26, gS], by omega, fun l hl => ?_⟩
      dsimp only; rw [u _ _ _ (by omega)]; simp
  have vn := rV_nil (n := n) o1
  have hn : rH rnil := fun l => Or.inl (nil _ _ _ (by omega))
  -- frames
  have F27 : ∀ h1, frP (rdE a) h27 h1 → fr75 a h h1 := by
    intro h1 f
    refine ⟨fun c hc q1 q2 k => ⟨?_, ?_⟩, fun c hc => ⟨?_, ?_⟩, ?_, ?_⟩
    · rw [f.1 _ _ (by unfold rdE rdA; omega), i27 _ _ q1, f20.1 _ _ (by unfold txA; omega), i19, ((o18.1 c hc).1 k).1, ((a17 c hc).1 k).1]
    · rw [f.rr, r27, e21, gRR, if_neg (by omega), f20.rr, e19, gRR, if_neg (by omega), ((o18.1 c hc).1 k).2, ((a17 c hc).1 k).2]
    · have : tg h1 c = tg h18 c := by
        have e1 : tg h1 c = tg h27 c := by unfold tg; rw [f.2]
        have e2 : tg h27 c = tg h20 c := by unfold tg; rw [h2eq, e21]; rfl
        have e3 : tg h20 c = tg h19 c := by unfold tg; rw [f20.2]
        rw [e1, e2, e3, e19]; rfl
      rw [this, (o18.1 c hc).2.1, (a17 c hc).2.1]
    · have : ln h1 c = ln h18 c := by
        have e2 : ln h27 c = ln h20 c := by unfold ln; rw [h2eq, e21]; rfl
        rw [f.le, e2, f20.le, e19]; rfl
      rw [this, (o18.1 c hc).2.2, (a17 c hc).2.2]
    · have e1 : nx h1 = nx h27 := by unfold nx; rw [f.2]
      have e2 : nx h27 = nx h20 := by unfold nx; rw [h2eq, e21]; rfl
      have e3 : nx h20 = nx h19 := by unfold nx; rw [f20.2]
      rw [e1, e2, e3, e19]; exact n18
    · have e1 : sc h1 = sc h27 := by unfold sc; rw [f.2]
      have e2 : sc h27 = sc h20 := by unfold sc; rw [h2eq, e21]; rfl
      have e3 : sc h20 = sc h19 := by unfold sc; rw [f20.2]
      have e4 : sc h19 = sc h18 := by rw [e19]; rfl
      rw [e1, e2, e3, e4, s18, e17, scN]
  have rr : rread t n = (match rside t 0 0 301 rnil with
    | (false, s) => (false, s)
    | (true, s) => if t ((rblk t s) 0 0 0) = 61 then (match rside t 1 (s 0 0 1) 301 (rmid (rblk t s)) with
        | (false, s2) => (false, s2)
        | (true, s2) => if (rblk t s2) 0 0 0 = n then (true, rblk t s2) else (false, rblk t s2))
      else (false, rblk t s)) := rfl
  refine s77 (b1 := 0) o x27 (Or.inl rfl) (nil _ _ _ (by omega)) (by unfold rnil; simp [upE]) vn hn (by omega) (fun v28 h28 w28 => ?_)
  obtain ⟨f28, ev, g28, y28⟩ := w28
  rcases hz : rside t 0 0 301 rnil with ⟨ok, s1⟩
  rw [hz] at rr ev g28 y28
  cases ok with
  | false =>
    rw [b2i_neg (by simp)] at ev
    refine ⟨fun _ => zqr (k2 s1 rr h28 (F27 _ (frE f28)) g28), fun c => absurd ev c⟩
  | true =>
    rw [b2i_pos rfl] at ev
    have y28 := y28 rfl
    have v1 := rV_side o 301 vn hz
    have h1 := rH_side 301 hn hz
    have u1 := rU_side 301 hz
    dsimp only at rr y28
    refine ⟨fun c => absurd c (by omega), fun _ => s76 o y28 h1 ⟨v1.1.1.1, v1.1.1.2.1⟩ (fun c h29 f29 y29 e29 => ?_) (fun c h29 f29 g29 => ?_)⟩
    · rw [if_pos c] at rr
      refine ⟨fun _ => ⟨Or.inr rfl, fun h30 e30 => ?_⟩, fun d => absurd (by omega) d⟩
      have lt := o.lt (i := rblk t s1 0 0 0) (by omega)
      have vb := rV_blk o v1.1
      have ub : ∀ c i j, ¬ (c = 0 ∧ j = 0) → rblk t s1 c i j = s1 c i j := fun c i j hc => by unfold rblk; rw [upE, if_neg (by omega)]
      have e7 : s1 0 0 7 = 0 := by have := u1.2 7 (by decide); rw [this]; exact nil _ _ _ (by omega)
      have vm := rV_mid o vb.1 (by rw [ub _ _ _ (by omega)]; exact v1.2.2) (by rw [ub _ _ _ (by omega)]; exact e7) lt.2
      rw [ub 0 0 1 (by omega)] at vm
      have um : ∀ c i j, ¬ (c = 0 ∧ (j = 0 ∨ j = 8)) → rmid (rblk t s1) c i j = s1 c i j := fun c i j hc => by unfold rmid; rw [upE, if_neg (by omega), upE, if_neg (by omega)]; exact ub c i j (by omega)
      have hm : rH (rmid (rblk t s1)) := fun l => by rw [um _ _ _ (by omega)]; exact h1 l
      have b20 := v1.1.1.2.2.2.2.1
      have b00 := v1.1.1.2.2.2.1
      have f30 : frP (rdA a) h29 h30 := by rw [e30]; exact frP.rf.st (by unfold rdA; omega)
      have x30 : xR h30 a 1 0 t n (up (rmid (rblk t s1)) 0 0 2 (-1)) := by
        obtain ⟨q1, q2, q3, q4, q5, q6⟩ := y29
        have d : ∀ c k, ¬ (c = 54 ∧ k = 5) → gI h30 c k = gI h29 c k := fun c k hc => by rw [e30, gS, if_neg (by omega)]
        have e2 : rmid (rblk t s1) 0 0 2 = -1 := by rw [um _ _ _ (by omega)]; exact v1.2.2
        have ue : ∀ c i j, up (rmid (rblk t s1)) 0 0 2 (-1) c i j = rmid (rblk t s1) c i j := fun c i j => by
          rw [upE]; split
          · rename_i g; rw [g.1, g.2.1, g.2.2, e2]
          · rfl
        refine ⟨⟨by rw [e30]; exact q1.1, by rw [e30]; exact q1.2.1, by rw [e30]; exact q1.2.2.1, by rw [e30]; exact q1.2.2.2.1, ha⟩, rdT f30 q2 ha, ?_, fun i j h0 h1 h2 => ?_, fun i h0 h1 h2 => ?_, ?_⟩
        · simp only [ue]
          have z5 : gI h30 54 5 = 1 := by rw [e30, gS1]
          rw [z5, d 54 0 (by omega), d a 13 (by omega), d 54 3 (by omega), d 54 4 (by omega), d 54 6 (by omega), d 54 7 (by omega)]
          exact ⟨q3.1, q3.2.1, q3.2.2.1, q3.2.2.2.1, rfl, q3.2.2.2.2.2⟩
        · rw [ue, d _ _ (by omega)]; exact q4 i j h0 h1 h2
        · rw [ue] at h2; rw [ue, d _ _ (by omega)]; exact q5 i h0 h1 h2
        · simp only [ue]; rw [d _ _ (by omega), d _ _ (by omega)]; exact q6
      refine s77 (b1 := s1 0 0 1) o x30 (Or.inr rfl) (um _ _ _ (by omega)) (by rw [um _ _ _ (by omega)]; exact v1.2.2) vm hm (by omega) (fun v31 h31 w31 => ?_)
      obtain ⟨f31, ev31, g31, y31⟩ := w31
      rcases hz2 : rside t 1 (s1 0 0 1) 301 (rmid (rblk t s1)) with ⟨ok2, s2⟩
      rw [hz2] at rr ev31 g31 y31
      have F31 : frP (rdE a) h27 h31 := ((((frE f28).tr f29).tr (frE f30)).tr (frE f31))
      cases ok2 with
      | false =>
        rw [b2i_neg (by simp)] at ev31
        exact ⟨fun d => absurd ev31 d, fun _ => zqr (k2 s2 rr h31 (F27 _ F31) g31)⟩
      | true =>
        rw [b2i_pos rfl] at ev31
        have y31 := y31 rfl
        have v2 := rV_side o 301 vm hz2
        have u2 := rU_side 301 hz2
        have l2 := r5_side (by decide) 301 hz2
        dsimp only at rr y31
        refine ⟨fun _ => s78 o y31 v2.1.1.1 v2.1.1.2.1 (fun h32 f32 y32 => ?_), fun d => absurd (by omega) d⟩
        have F32 := F31.tr (frE f32)
        have q32 := y32.1
        rw [q32.2.1, y32.2.2.1.1, y32.2.1.1]
        refine ⟨q32.2.2.2.1, fun d => ?_, fun d => ?_⟩
        · rw [if_neg d] at rr
          exact zqr (k2 _ rr h32 (F27 _ F32) y32.2.2.1.1)
        · rw [if_pos (Classical.byContradiction d)] at rr
          rw [q32.1]
          refine ⟨q32.2.2.1, zqr (k1 _ rr h32 (F27 _ F32) ⟨q32.2.2.1, y32.2.1, y32.2.2.2.1, y32.2.2.1.2.1, ?_⟩)⟩
          have e32 := (((e29.fr f30 ha).fr f31 ha).fr f32 ha)
          have ub2 : ∀ c i j, ¬ (c = 0 ∧ j = 0) → rblk t s2 c i j = s2 c i j := fun c i j hc => by unfold rblk; rw [upE, if_neg (by omega)]
          refine ⟨?_, ?_⟩
          · rw [ub2 _ _ _ (by omega), u2.2 8 (Or.inr rfl)]; exact e32.1
          · refine bO_cg e32.2 (fun m => ?_)
            rw [ub2 _ _ _ (by omega), l2 m]
    · rw [if_neg c] at rr
      refine ⟨fun d => absurd rfl d, fun _ => zqr (k2 _ rr h29 (F27 _ ((frE f28).tr f29)) g29)⟩
