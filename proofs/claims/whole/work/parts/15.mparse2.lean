/-! The model: the whole of a source. -/
section MS
variable {h : zH} {t : Int → Int} {n p nd nc op : Int} {T C : pT}
theorem s154 (x : mS h t n p nd nc op T C) (q : pI n p nd nc op T) (hop : ¬ op = -1) (hp : p < 300) {K : zH → Prop}
    (k : ∀ h1, frP mA h h1 → mS h1 t n (p + 1) nd nc (T op 1) (nfin T op (p + 1) (nd - op)) C → K h1) : zC0 154 [vR 127 111] h K := by
  obtain ⟨a1, a2, a3, a4, a5, a6, a7, a8, a9, a10⟩ := q
  obtain ⟨x1, x2, x3, x4, x5, x6, x7, x8⟩ := x
  have r := a10 op (by omega) a8
  unfold pR at r
  have r9 := r.2.2.2.2.2.2.2.2.1 (a9.1 hop)
  have z := x6.2 hop
  refine cV (k154_0 h _ ?_)
  rw [z.1, show T op 7 + 1 - 1 = T op 7 by omega]
  refine ⟨by unfold inR; omega, fun h5 e5 => ?_⟩
  have z5 : gI h5 127 15 = T op 7 ∧ gI h5 136 (T op 7) = op ∧ gI h5 127 16 = p := by simp [e5, gS, z.2.1, x2]
  rw [z5.1, z5.2.1, z5.2.2]
  refine ⟨by omega, by omega, by unfold inR; omega, by unfold inR; omega, fun h6 e6 => ?_⟩
  have z6 : gI h6 127 16 = p + 1 := by simp [e6, gS]
  rw [z6]
  refine ⟨by unfold inR; omega, by omega, by omega, fun h7 e7 => ?_⟩
  have z7 : gI h7 127 15 = T op 7 ∧ gI h7 136 (T op 7) = op ∧ gI h7 127 11 = nd := by simp [e7, e6, e5, gS, z.2.1, x3]
  rw [z7.1, z7.2.1, z7.2.2]
  refine ⟨by unfold inR; omega, by omega, by omega, by unfold inR; omega, by omega, by omega, fun h8 e8 => zq0 ?_⟩
  have f8 : frP mA h h8 := by
    rw [e8, e7, e6, e5]
    exact (((frP.rf.st (by unfold mA; omega)).st (by unfold mA; omega)).st (by unfold mA; omega)).st (by unfold mA; omega)
  have d5 : ∀ i, ¬ 10 * i + 5 = 10 * op + 6 := fun i => by omega
  refine k h8 f8 (mS.fin (i := op) ⟨mBf f8 x1, by simp [e8, e7, e6, gS], by simp [e8, e7, e6, e5, gS, x3], by simp [e8, e7, e6, e5, gS, x4], by simp [e8, e7, e6, e5, gS, x5], ?_, fun i h0 h1 => ?_, fun i h0 h1 => ?_⟩ (by omega) ?_ ?_)
  · have e15 : gI h8 127 15 = T op 7 := by simp [e8, e7, e6, e5, gS]
    have e136 : ∀ k, gI h8 136 k = gI h 136 k := by simp [e8, e7, e6, e5, gS]
    have w0 := z.2.2 (T op 7) (by omega) (by omega)
    rw [z.2.1] at w0
    refine ⟨fun c => ?_, fun c => ?_⟩
    · rw [e15]; exact r.2.2.2.2.2.2.1 c
    · have r8 := r.2.2.2.2.2.2.2.1 c
      have r0 : 0 < T op 7 := by
        have := (a10 (T op 1) (by omega) (by omega)).2.2.2.2.1
        omega
      rw [e15]
      refine ⟨by omega, ?_, fun k h0 h1 => ?_⟩
      · rw [e136, show T (T op 1) 7 = T op 7 - 1 by omega, ← w0.2.2.2.2 r0]
      · have w := z.2.2 k h0 (by omega)
        rw [e136, e136]
        exact w
  · have w := x7 i h0 h1
    have d0 : ∀ j, 0 ≤ j → j < 10 → ¬ (i = op ∧ (j = 5 ∨ j = 6)) → gI h8 134 (10 * i + j) = gI h 134 (10 * i + j) := by
      intro j j0 j1 hne
      have d1 : ¬ 10 * i + j = 10 * op + 5 := by omega
      have d2 : ¬ 10 * i + j = 10 * op + 6 := by omega
      simp [e8, e7, e6, e5, gS, d1, d2]
    have d00 : gI h8 134 (10 * i) = gI h 134 (10 * i) := by have := d0 0 (by omega) (by omega) (by omega); simpa using this
    by_cases ci : i = op
    · subst ci
      have := a9.1 hop
      simp [d00, d0, this, w]; exact w.2.2.2.2.2.2.2
    · simp [d00, d0, ci, w]; exact ⟨w.2.2.2.2.2.2.1, w.2.2.2.2.2.2.2⟩
  · have w := x8 i h0 h1
    simpa [e8, e7, e6, e5, gS] using w
  · have d1 : ¬ 10 * op + 5 = 10 * op + 6 := by omega
    simp [e8, e7, gS]
  · simp [e8, gS]
theorem qoI (q : pI n p nd nc op T) : ¬ op = -1 → 0 ≤ T op 7 ∧ T op 7 ≤ 15 := by
  intro c
  obtain ⟨a1, a2, a3, a4, a5, a6, a7, a8, a9, a10⟩ := q
  have r := a10 op (by omega) a8
  unfold pR at r
  have := r.2.2.2.2.2.2.2.2.1 (a9.1 c)
  omega
/-- what follows layout in the reading of a term -/
def ptail (t : Int → Int) (n : Int) (f : Nat) (p nd nc op : Int) (T C : pT) : pZ := match pbody t n p nd nc op T C with
  | (false, p2, nd2, nc2, op2, T2, C2) => (false, p2, nd2, nc2, op2, T2, C2)
  | (true, p2, nd2, nc2, op2, T2, C2) => if op2 = -1 then (true, p2, nd2, nc2, op2, T2, C2) else pterm t n f p2 nd2 nc2 op2 T2 C2
theorem pterm_s {f : Nat} : pterm t n (f + 1) p nd nc op T C = match ply t n op 301 p nc C with
    | (false, p1, nc1, C1) => (false, p1, nd, nc1, op, T, C1)
    | (true, p1, nc1, C1) => ptail t n f p1 nd nc1 op T C1 := by
  rw [pterm]; rfl
/-- what follows the term -/
def pend (t : Int → Int) (n : Int) (z : pZ) : pZ := match z with
  | (false, p, nd, nc, op, T, C) => (false, p, nd, nc, op, T, C)
  | (true, p, nd, nc, op, T, C) => match ply t n op 301 p nc C with
    | (false, p1, nc1, C1) => (false, p1, nd, nc1, op, T, C1)
    | (true, p1, nc1, C1) => if p1 = n then (true, p1, nd, nc1, op, T, C1) else (false, p1, nd, nc1, op, T, C1)
theorem pread_e : pread t n = pend t n (pterm t n 301 0 0 0 (-1) (fun _ _ => 0) (fun _ _ => 0)) := rfl
def mQ (h : zH) (t : Int → Int) (n : Int) (Q : Option zV → zH → Prop) (z : pZ) : Prop := ∀ v h1, mP h t n z h1 → v = b2i (z.1 = true) → Q (some (vI v)) h1
theorem s155b {f0 : Int} {Q : Option zV → zH → Prop} (g : gI h 127 18 = 0) (e : gI h 127 17 = f0) (h0 : zH) (f : frP mA h0 h) (z : pZ) (z1 : z.1 = false) (z2 : z.2.1 = f0) (k : mQ h0 t n Q z) : zK 155 29 [vR 127 111] [] h Q := by
  refine k155_29 h Q ⟨fun _ => k155_102 h Q ⟨fun _ => ⟨Or.inl g, ?_⟩, fun c => absurd g c⟩, fun c => absurd g c⟩
  rw [g]
  exact k 0 h (mP.no f z1 g (by rw [e, z2])) (by rw [b2i_neg]; simp [z1])
/-- layout, then the rest -/
theorem s155s (o : tOk t n) (x : mS h t n p nd nc op T C) (q : pI n p nd nc op T) {Q : Option zV → zH → Prop} (h0 : zH) (f : frP mA h0 h) (z : pZ)
    (kb : ∀ p1 nc1 C1, ply t n op 301 p nc C = (false, p1, nc1, C1) → z.1 = false ∧ z.2.1 = p1) (k : mQ h0 t n Q z)
    (kg : ∀ h1 p1 nc1 C1, ply t n op 301 p nc C = (true, p1, nc1, C1) → mS h1 t n p1 nd nc1 op T C1 → frP mA h0 h1 → zK 155 29 [vR 127 111] [] h1 Q) :
    zC0 151 [vR 127 111] h (fun h1 => zK 155 29 [vR 127 111] [] h1 Q) := by
  obtain ⟨a1, a2, a3, a4, a5, a6, a7, a8, a9, a10⟩ := q
  refine s151 o x (qoI ⟨a1, a2, a3, a4, a5, a6, a7, a8, a9, a10⟩) a1 a2 a5 a6 (fun h1 w => ?_)
  obtain ⟨f1, g1, b1⟩ := w
  rcases hz : ply t n op 301 p nc C with ⟨ok, p1, nc1, C1⟩
  rw [hz] at g1 b1
  cases ok with
  | true => exact kg h1 p1 nc1 C1 hz (g1 rfl) (f.tr f1)
  | false =>
    have b := b1 rfl
    have e := kb p1 nc1 C1 hz
    exact s155b b.1 b.2 h0 (f.tr f1) z e.1 e.2 k
/-- the term has been read: only layout may follow -/
theorem s155e (o : tOk t n) (x : mS h t n p nd nc op T C) (q : pI n p nd nc op T) (hop : op = -1) (hnd : 0 < nd) {Q : Option zV → zH → Prop} (h0 : zH) (f : frP mA h0 h)
    (k : mQ h0 t n Q (pend t n (true, p, nd, nc, op, T, C))) : zC0 151 [vR 127 111] h (fun h1 => zK 155 29 [vR 127 111] [] h1 Q) := by
  have q0 := q
  refine s155s o x q h0 f _ (fun p1 nc1 C1 e => ?_) k (fun h1 p1 nc1 C1 e y f1 => ?_)
  · unfold pend; dsimp only; rw [e]; exact ⟨rfl, rfl⟩
  · unfold pend at k
    dsimp only at k
    rw [e] at k
    dsimp only at k
    have q1 : pI n p1 nd nc1 op T := by have := pI_ply (C := C) (k := 301) (op1 := op) o q0; rw [e] at this; exact this
    have yy := y
    obtain ⟨y1, y2, y3, y4, y5, y6, y7, y8⟩ := y
    have y15 := y6.1 hop
    refine k155_29 h1 Q ⟨fun c => absurd c (by omega), fun _ => ?_⟩
    rw [y1.1, y2, y15]
    refine ⟨fun c => ?_, fun c => ⟨fun _ => ?_, fun c1 => absurd (by omega) c1⟩⟩
    · have c2 : p1 = n := by have := q1.2.1; omega
      rw [if_pos c2] at k
      refine k155_102 h1 Q ⟨fun d => absurd d (by omega), fun _ => ⟨fun d => absurd d (by omega), fun _ => ⟨fun _ => ⟨Or.inr y5, ?_⟩, fun d => absurd d (by omega)⟩⟩⟩
      rw [y5]
      exact k 1 h1 (mP.ye f1 rfl yy) (by rw [b2i_pos]; rfl)
    · have c2 : ¬ p1 = n := by omega
      rw [if_neg c2] at k
      refine k155_70 h1 Q ⟨fun d => absurd y15 d, fun _ => ⟨fun d => absurd d (by omega), fun _ => s148 y5 (s151n (by simp [gS]) ?_)⟩⟩
      refine s155b (by simp [gS]) (f0 := p1) (by simp [gS, y2]) h0 f1.wr _ rfl rfl k
/-- the loop, behind layout -/
theorem s155l (o : tOk t n) {Q : Option zV → zH → Prop} : ∀ (f : Nat) (h : zH) (p nd nc op : Int) (T C : pT) (h0 : zH), mS h t n p nd nc op T C → pI n p nd nc op T → (op = -1 → nd = 0) → frP mA h0 h → n < f + p + 1 →
    mQ h0 t n Q (pend t n (ptail t n f p nd nc op T C)) → zK 155 29 [vR 127 111] [] h Q := by
  have o2 := o.2.1
  intro f
  induction f with
  | zero =>
    intro h p nd nc op T C h0 x q hz fr hf k
    have hp : p = n := by have := q.2.1; omega
    have tp : t p = -1 := o.ge (by omega)
    have en : ptail t n 0 p nd nc op T C = (false, p, nd, nc, op, T, C) := by
      unfold ptail pbody
      rw [if_neg (by omega)]
      unfold pnode
      rw [if_pos (by unfold pbad isL isD; omega)]
    rw [en] at k
    obtain ⟨x1, x2, x3, x4, x5, x6, x7, x8⟩ := x
    refine k155_29 h Q ⟨fun c => absurd c (by omega), fun _ => ?_⟩
    rw [x1.1, x2]
    refine ⟨fun _ => ?_, fun c => absurd (by omega) c⟩
    have bad : zC0 148 [vR 127 111] h (fun h33 => (gI h33 127 18 = 0 ∨ gI h33 127 18 = 1) ∧ Q (some (vI (gI h33 127 18))) h33) := by
      refine s148 x5 ?_
      have e : gI (sI (sI h 127 17 (gI h 127 16)) 127 18 0) 127 18 = 0 := by simp [gS]
      rw [e]
      exact ⟨Or.inl rfl, k 0 _ (mP.no fr.wr rfl e (by simp [gS, x2]; rfl)) (by rw [b2i_neg]; simp [pend])⟩
    refine k155_102 h Q ⟨fun c => absurd c (by omega), fun _ => ⟨fun _ => bad, fun c => ⟨fun d => ?_, fun _ => bad⟩⟩⟩
    have e : op = -1 := by
      apply Classical.byContradiction; intro e
      have := (x6.2 e).1
      have := qoI q e
      omega
    rw [x3] at d
    exact absurd (hz e) d
  | succ f ih =>
    intro h p nd nc op T C h0 x q hz fr hf k
    have xx := x
    obtain ⟨x1, x2, x3, x4, x5, x6, x7, x8⟩ := x
    by_cases hp : p = n
    · have tp : t p = -1 := o.ge (by omega)
      have en : ptail t n (f + 1) p nd nc op T C = (false, p, nd, nc, op, T, C) := by
        unfold ptail pbody
        rw [if_neg (by omega)]
        unfold pnode
        rw [if_pos (by unfold pbad isL isD; omega)]
      rw [en] at k
      refine k155_29 h Q ⟨fun c => absurd c (by omega), fun _ => ?_⟩
      rw [x1.1, x2]
      refine ⟨fun _ => ?_, fun c => absurd (by omega) c⟩
      have bad : zC0 148 [vR 127 111] h (fun h33 => (gI h33 127 18 = 0 ∨ gI h33 127 18 = 1) ∧ Q (some (vI (gI h33 127 18))) h33) := by
        refine s148 x5 ?_
        have e : gI (sI (sI h 127 17 (gI h 127 16)) 127 18 0) 127 18 = 0 := by simp [gS]
        rw [e]
        exact ⟨Or.inl rfl, k 0 _ (mP.no fr.wr rfl e (by simp [gS, x2]; rfl)) (by rw [b2i_neg]; simp [pend])⟩
      refine k155_102 h Q ⟨fun c => absurd c (by omega), fun _ => ⟨fun _ => bad, fun c => ⟨fun d => ?_, fun _ => bad⟩⟩⟩
      have e : op = -1 := by
        apply Classical.byContradiction; intro e
        have := (x6.2 e).1
        have := qoI q e
        omega
      rw [x3] at d
      exact absurd (hz e) d
    · have hpn : p < n := by have := q.2.1; omega
      -- one step, then layout
      have after : ∀ h2 p2 nd2 nc2 op2 T2 C2, pbody t n p nd nc op T C = (true, p2, nd2, nc2, op2, T2, C2) → frP mA h0 h2 → mS h2 t n p2 nd2 nc2 op2 T2 C2 → zC0 151 [vR 127 111] h2 (fun h1 => zK 155 29 [vR 127 111] [] h1 Q) := by
        intro h2 p2 nd2 nc2 op2 T2 C2 e f2 y
        have qb := pI_body o q e
        have hnd : 0 < nd2 := by
          unfold pbody at e
          split at e
          · rename_i c
            cases e
            have := q.2.2.2.2.2.2.2.1; have := q.2.2.2.2.2.2.1; omega
          · unfold pnode popen pleaf at e
            have := q.2.2.1
            revert e
            repeat' split
            all_goals (intro e; cases e)
            all_goals omega
        have ek : ptail t n (f + 1) p nd nc op T C = if op2 = -1 then (true, p2, nd2, nc2, op2, T2, C2) else pterm t n (f + 1) p2 nd2 nc2 op2 T2 C2 := by
          unfold ptail; rw [e]
        rw [ek] at k
        by_cases c : op2 = -1
        · rw [if_pos c] at k
          exact s155e o y qb.1 c hnd h0 f2 k
        · rw [if_neg c, pterm_s] at k
          refine s155s o y qb.1 h0 f2 _ (fun p1 nc1 C1 e1 => ?_) k (fun h3 p1 nc1 C1 e1 y3 f3 => ?_)
          · rw [e1]; exact ⟨rfl, rfl⟩
          · rw [e1] at k
            have q1 : pI n p1 nd2 nc1 op2 T2 := by have := pI_ply (C := C2) (k := 301) (op1 := op2) o qb.1; rw [e1] at this; exact this
            have hr := (ply_rg o op2 301 p2 nc2 C2 qb.1.1 qb.1.2.1 qb.1.2.2.2.2.1 qb.1.2.2.2.2.2.1).1
            rw [e1] at hr
            dsimp only at hr
            exact ih h3 p1 nd2 nc1 op2 T2 C1 h0 y3 q1 (fun d => absurd d c) f3 (by omega) k
      have node : ¬ (t p = 41 ∧ ¬ op = -1) → zC0 153 [vR 127 111] h (fun h27 => zC0 151 [vR 127 111] h27 (fun h28 => zK 155 29 [vR 127 111] [] h28 Q)) := by
        intro hc
        have eb : pbody t n p nd nc op T C = pnode t n p nd nc op T C := by unfold pbody; rw [if_neg hc]
        refine s153 o xx q (fun h1 w => ?_)
        obtain ⟨f1, g1, b1⟩ := w
        rcases hzz : pnode t n p nd nc op T C with ⟨ok, p2, nd2, nc2, op2, T2, C2⟩
        rw [hzz] at g1 b1 eb
        cases ok with
        | true => exact after h1 p2 nd2 nc2 op2 T2 C2 eb (fr.tr f1) (g1 rfl)
        | false =>
          have b := b1 rfl
          have ek : ptail t n (f + 1) p nd nc op T C = (false, p2, nd2, nc2, op2, T2, C2) := by unfold ptail; rw [eb]
          rw [ek] at k
          exact s151n b.1 (s155b b.1 b.2 h0 (fr.tr f1) _ rfl rfl k)
      have k70 : ¬ (t p = 41 ∧ ¬ op = -1) → zK 155 70 [vR 127 111] [] h Q := by
        intro hc
        refine k155_70 h Q ⟨fun _ => node hc, fun c => ⟨fun _ => node hc, fun d => ?_⟩⟩
        have e : op = -1 := by
          apply Classical.byContradiction; intro e
          have := (x6.2 e).1
          have := qoI q e
          omega
        rw [x3] at d
        have := hz e
        omega
      refine k155_29 h Q ⟨fun c => absurd c (by omega), fun _ => ?_⟩
      rw [x1.1, x2]
      refine ⟨fun c => absurd c (by omega), fun _ => ⟨fun c => k70 ?_, fun c => s149 o x1 (by have := q.1; omega) ?_⟩⟩
      · intro d
        have := (x6.2 d.2).1
        have := qoI q d.2
        omega
      · rw [x2]
        refine ⟨fun d => k70 (by omega), fun d => ?_⟩
        have e : ¬ op = -1 := fun e => c (by have := x6.1 e; omega)
        have o2' := o.2.1
        refine s154 xx q e (by omega) (fun h1 f1 y => ?_)
        exact after h1 (p + 1) nd nc (T op 1) (nfin T op (p + 1) (nd - op)) C (by unfold pbody; rw [if_pos ⟨by omega, e⟩]) (fr.tr f1) y
theorem s155 (o : tOk t n) (x : mB h t n) {K : Int → zH → Prop} (k : ∀ v h1, mP h t n (pread t n) h1 → v = b2i ((pread t n).1 = true) → K v h1) : zC1 155 [vR 127 111] h K := by
  have o1 := o.1
  have o2 := o.2.1
  refine cI (k155_0 h _ (fun h18 e18 => ⟨Or.inr rfl, fun h19 e19 h20 e20 h21 e21 h22 e22 => ?_⟩))
  have f22 : frP mA h h22 := by
    rw [e22, e21, e20, e19, e18]
    exact ((((frP.rf.st (by unfold mA; omega)).st (by unfold mA; omega)).st (by unfold mA; omega)).st (by unfold mA; omega)).st (by unfold mA; omega)
  have x22 : mS h22 t n 0 0 0 (-1) (fun _ _ => 0) (fun _ _ => 0) := by
    refine ⟨mBf f22 x, ?_, ?_, ?_, ?_, ⟨fun _ => ?_, fun c => absurd rfl c⟩, fun i _ _ => by omega, fun i _ _ => by omega⟩ <;> simp [e22, e21, e20, e19, e18, gS]
  have q := pI_0 (n := n) (T := fun _ _ => 0) o1
  rw [pread_e] at k
  have kk : mQ h t n (fun r h1 => ∃ v : Int, r = some (Sum.inl v) ∧ K v h1) (pend t n (pterm t n 301 0 0 0 (-1) (fun _ _ => 0) (fun _ _ => 0))) := fun v h1 w e => zq1 (k v h1 w e)
  rw [pterm_s] at kk
  refine s155s o x22 q h f22 _ (fun p1 nc1 C1 e1 => ?_) kk (fun h3 p1 nc1 C1 e1 y3 f3 => ?_)
  · rw [e1]; exact ⟨rfl, rfl⟩
  · rw [e1] at kk
    have q1 : pI n p1 0 nc1 (-1) (fun _ _ => 0) := by have := pI_ply (C := fun _ _ => 0) (k := 301) (op1 := -1) o q; rw [e1] at this; exact this
    have := q1.1
    exact s155l o 300 h3 p1 0 nc1 (-1) (fun _ _ => 0) C1 h y3 q1 (fun _ => rfl) f3 (by omega) kk
end MS
