/-! The class: a whole rule, read. -/
section XL
variable {h : zH} {r : Nat} {t : Int → Int} {n : Int} {s : pS}
/-- the state at the beginning of a side -/
theorem xR.sb {sd b0 b1 : Int} (x : xR h r sd b0 t n s) : xR (sI (sI h 54 3 (-1)) 54 4 b1) r sd b1 t n (up s 0 0 2 (-1)) ∧ frP (rdA r) h (sI (sI h 54 3 (-1)) 54 4 b1) := by
  have w := xR.w3 (v := -1) x
  obtain ⟨x1, x2, x3, x4, x5, x6⟩ := w.1
  have hr := x1.2.2.2.2
  have f : frP (rdA r) (sI h 54 3 (-1)) (sI (sI h 54 3 (-1)) 54 4 b1) := frP.rf.st (by unfold rdA; omega)
  have d : ∀ b i, ¬ (b = 54 ∧ i = 4) → gI (sI (sI h 54 3 (-1)) 54 4 b1) b i = gI (sI h 54 3 (-1)) b i := fun b i hb => by rw [gS, if_neg (by omega)]
  refine ⟨⟨x1, rdT f x2 hr, ?_, fun i j h0 h1 h2 => ?_, fun i h0 h1 h2 => ?_, ?_⟩, w.2.tr f⟩
  · rw [gS1, d _ _ (by omega), d _ _ (by omega), d _ _ (by omega), d _ _ (by omega), d _ _ (by omega), d _ _ (by omega)]
    exact ⟨x3.1, x3.2.1, x3.2.2.1, rfl, x3.2.2.2.2⟩
  · rw [d _ _ (by omega)]; exact x4 i j h0 h1 h2
  · rw [d _ _ (by omega)]; exact x5 i h0 h1 h2
  · rw [d _ _ (by omega), d _ _ (by omega)]; exact x6
theorem s77 {sd b0 b1 v0 : Int} (o : tOk t n) (x : xR h r sd b0 t n (up s 0 0 2 v0)) (hsd : sd = 0 ∨ sd = 1) (e1 : s 0 0 1 = b1) (e2 : s 0 0 2 = -1) (v : rV n sd b1 s) (hH : rH s) (hb : 0 ≤ b1 ∧ b1 ≤ 20) {K : Int → zH → Prop}
    (k : ∀ v h1, xO h r sd b1 t n (rside t sd b1 301 s) v h1 → K v h1) : zC1 77 [vR 54 104] h K := by
  refine cI (k77_0 h _ (fun h9 e9 => ?_))
  have q9 : gR h9 54 2 = r := by rw [e9]; exact x.1.1
  have ty9 : zty 103 r h9 := by rw [e9]; exact x.1.2.2.1
  have z9 : gI h9 r 13 = b1 := by rw [e9, gS, if_neg (by have := x.1.2.2.2.2; omega), ← e1]; have := x.2.2.1.2.1; rw [upE, if_neg (by omega)] at this; exact this
  rw [q9, z9]
  refine ⟨ty9, fun h10 e10 => ?_⟩
  have w := xR.sb (b1 := b1) x
  rw [← e9, ← e10] at w
  have es : xR h10 r sd b1 t n s := w.1.cg ⟨by simp [upE], by simp [upE], by simp [upE]; exact e2, by simp [upE], by simp [upE]⟩ (by simp [upE]) (by simp [upE]) (by simp [upE])
  exact s77l o hb hsd 301 h10 s 0 _ es v hH (by omega) (by omega) (fun v h1 y => zq1 (k v h1 (xO.tr w.2 y)))
/-- the end of the pattern, the letters that stand -/
def xE (h : zH) (r : Nat) (s : pS) : Prop := gI h r 14 = s 0 0 8 ∧ bO (gI h r 15) (fun l => ¬ s 5 l 0 = 0)
def rdE (r b : Nat) (k : Int) : Prop := rdA r b k ∨ (b = r ∧ (k = 14 ∨ k = 15))
theorem frE {h1 : zH} (f : frP (rdA r) h h1) : frP (rdE r) h h1 := f.mo (fun _ _ q => Or.inl q)
theorem xE.fr {h1 : zH} (x : xE h r s) (f : frP (rdA r) h h1) (hr : 170 ≤ r) : xE h1 r s := by
  unfold xE; rw [f.1 _ _ (by unfold rdA; omega), f.1 _ _ (by unfold rdA; omega)]; exact x
theorem s76 (o : tOk t n) (x : xR h r 0 0 t n s) (hH : rH s) (hp : 0 ≤ s 0 0 0 ∧ s 0 0 0 ≤ n) {K : Int → zH → Prop}
    (k1 : t (rblk t s 0 0 0) = 61 → ∀ h1, frP (rdE r) h h1 → xR h1 r 0 0 t n (rmid (rblk t s)) → xE h1 r (rmid (rblk t s)) → K 1 h1)
    (k2 : ¬ t (rblk t s 0 0 0) = 61 → ∀ h1, frP (rdE r) h h1 → gI h1 54 0 = rblk t s 0 0 0 → K 0 h1) : zC1 76 [vR 54 104] h K := by
  have x0 := x
  have o2 := o.2.1
  obtain ⟨x1, x2, x3, x4, x5, x6⟩ := x
  have hr := x1.2.2.2.2
  refine cI (k76_0 h _ ?_)
  rw [x1.1, x3.2.1]
  refine ⟨x1.2.2.1, x1.2.2.1, fun h6 e6 => ?_⟩
  have q6 : gR h6 54 2 = r := by rw [e6]; exact x1.1
  have z8 : gI h6 54 8 = gI h 54 8 ∧ gI h6 54 9 = gI h 54 9 := by rw [e6, gS, if_neg (by omega), gS, if_neg (by omega)]; exact ⟨rfl, rfl⟩
  rw [q6, z8.1, z8.2]
  refine ⟨by rw [e6]; exact x1.2.2.1, fun h7 e7 => ?_⟩
  have f7 : frP (rdE r) h h7 := by rw [e7, e6]; exact (frP.rf.st (by unfold rdE; omega)).st (by unfold rdE; omega)
  have d : ∀ b i, ¬ (b = r ∧ (i = 14 ∨ i = 15)) → gI h7 b i = gI h b i := fun b i hb => by rw [e7, gS, if_neg (by omega), e6, gS, if_neg (by omega)]
  have x7 : xR h7 r 0 0 t n s := by
    refine ⟨⟨by rw [e7]; exact q6, by rw [e7, e6]; exact x1.2.1, by rw [e7, e6]; exact x1.2.2.1, by rw [e7, e6]; exact x1.2.2.2.1, hr⟩, x2.fr f7 (fun k => by unfold rdE rdA; omega), ?_, fun i j h0 h1 h2 => ?_, fun i h0 h1 h2 => ?_, ?_⟩
    · rw [d _ _ (by omega), d _ _ (by omega), d _ _ (by omega), d _ _ (by omega), d _ _ (by omega), d _ _ (by omega), d _ _ (by omega)]; exact x3
    · rw [d _ _ (by omega)]; exact x4 i j h0 h1 h2
    · rw [d _ _ (by omega)]; exact x5 i h0 h1 h2
    · rw [d _ _ (by omega), d _ _ (by omega)]; exact x6
  have pe : gI h7 r 14 = s 0 0 1 ∧ bO (gI h7 r 15) (fun l => ¬ s 5 l 0 = 0) := by
    refine ⟨by rw [e7, gS, if_neg (by omega), e6, gS1], ?_⟩
    rw [e7, gS1]
    refine bO_oo x6.1 x6.2 (fun m => ?_)
    have := hH m
    omega
  refine s78 o x7 hp.1 hp.2 (fun h8 f8 y8 => ?_)
  have F8 := f7.tr (frE f8)
  have q8 := y8.1
  have z0 := y8.2.2.1.1
  have hr8 := pbl_rg o 301 (s 0 0 0) hp.1 hp.2
  have e8 : rblk t s 0 0 0 = pbl t 301 (s 0 0 0) := by unfold rblk; simp [upE]
  rw [q8.2.1, z0]
  refine ⟨q8.2.2.2.1, s44 y8.2.1 o ⟨fun c => ?_, fun c => ⟨Or.inl rfl, zq1 (k2 c h8 F8 z0)⟩⟩⟩
  have lt := o.lt (i := rblk t s 0 0 0) (by omega)
  rw [z0]
  refine ⟨by unfold inR; omega, fun h10 e10 => ⟨Or.inr rfl, zq1 ?_⟩⟩
  have w := xR.w0 (v := rblk t s 0 0 0 + 1) y8
  rw [← e10] at w
  have ub : ∀ c i j, ¬ (c = 0 ∧ j = 0) → rblk t s c i j = s c i j := fun c i j hc => by unfold rblk; rw [upE, if_neg (by omega)]
  refine k1 c h10 (F8.tr (frE w.2)) (w.1.cg ⟨?_, ?_, ?_, ?_, ?_⟩ (fun i j _ => ?_) (fun i => ?_) (fun i => ?_)) ?_
  · simp [rmid, upE]
  · simp [rmid, upE]
  · simp [rmid, upE]
  · simp [rmid, upE]
  · simp [rmid, upE]
  · simp [rmid, upE]
  · simp [rmid, upE]
  · simp [rmid, upE]
  · have pe2 : xE h7 r (rmid (rblk t s)) := by
      refine ⟨?_, ?_⟩
      · simp [rmid, upE, ub]; exact pe.1
      · simp [rmid, upE, ub]; exact pe.2
    exact (pe2.fr f8 hr).fr w.2 hr
end XL
