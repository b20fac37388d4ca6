/-! What holds of the tables of a source. -/
theorem pterm_inv {t : Int → Int} {n : Int} {I : Int → Int → Int → Int → pT → pT → Prop} (o : tOk t n)
    (hl : ∀ p nd nc op T C p1 nc1 C1, pI n p nd nc op T → I p nd nc op T C → ply t n op 301 p nc C = (true, p1, nc1, C1) → I p1 nd nc1 op T C1)
    (hf : ∀ p nd nc op T C b r, pI n p nd nc op T → I p nd nc op T C → 1 ≤ r → r ≤ 8 → p + r ≤ n → ¬ nd = 60 → (¬ op = -1 → ¬ 12 ≤ T op 3) → (op = -1 → nd = 0) → b = 0 ∨ b = 1 → isP b (t p) → r = prl t b p → I (p + r) (nd + 1) nc op (nfin (nnam (nadd T nd op p b) nd p r) nd (p + r) 1) C)
    (ho : ∀ p nd nc op T C p1 nc1 C1 r, pI n p nd nc op T → I p nd nc op T C → 1 ≤ r → r ≤ 8 → p + 1 ≤ p1 → p1 + r ≤ n → ¬ nd = 60 → (¬ op = -1 → ¬ 12 ≤ T op 3 ∧ ¬ T op 7 + 1 = 16) → (op = -1 → nd = 0) → t p = 40 → isL (t p1) → r = prl t 1 p1 → ply t n nd 301 (p + 1) nc C = (true, p1, nc1, C1) → I (p1 + r) (nd + 1) nc1 nd (nnam (nadd T nd op p 2) nd p1 r) C1)
    (hc : ∀ p nd nc op T C, pI n p nd nc op T → I p nd nc op T C → p < n → ¬ op = -1 → I (p + 1) nd nc (T op 1) (nfin T op (p + 1) (nd - op)) C) :
    ∀ (f : Nat) {p nd nc op : Int} {T C : pT} {p2 nd2 nc2 op2 : Int} {T2 C2 : pT}, pI n p nd nc op T → (op = -1 → nd = 0) → I p nd nc op T C → pterm t n f p nd nc op T C = (true, p2, nd2, nc2, op2, T2, C2) → I p2 nd2 nc2 op2 T2 C2 ∧ 0 < nd2 := by
  intro f
  induction f with
  | zero => intro p nd nc op T C p2 nd2 nc2 op2 T2 C2 q z i e; unfold pterm at e; cases e
  | succ f ih =>
    intro p nd nc op T C p2 nd2 nc2 op2 T2 C2 q z i e
    have qi : pI n (ply t n op 301 p nc C).2.1 nd (ply t n op 301 p nc C).2.2.1 op T := pI_ply o q
    unfold pterm at e
    rcases hz3 : ply t n op 301 p nc C with ⟨ok, p1, nc1, C1⟩
    rw [hz3] at qi e
    cases ok with
    | false => cases e
    | true =>
      dsimp only at qi e
      have i1 := hl p nd nc op T C p1 nc1 C1 q i hz3
      rcases hz4 : pbody t n p1 nd nc1 op T C1 with ⟨ok2, p3, nd3, nc3, op3, T3, C3⟩
      rw [hz4] at e
      cases ok2 with
      | false => cases e
      | true =>
        dsimp only at e
        have qb := pI_body o qi hz4
        have ib : I p3 nd3 nc3 op3 T3 C3 ∧ 0 < nd3 := by
          have e4 := hz4
          unfold pbody at e4
          split at e4
          · rename_i g
            have hpp : 0 ≤ p1 ∧ p1 < n := o.lt (by omega)
            cases e4
            have := qi.2.2.2.2.2.2.2.1
            have := qi.2.2.2.2.2.2.1
            exact ⟨hc p1 nd nc1 op T C1 qi i1 hpp.2 g.2, by omega⟩
          · unfold pnode at e4
            have nd0 := qi.2.2.1
            split at e4
            · cases e4
            · rename_i g
              have hpp : 0 ≤ p1 ∧ p1 < n := o.lt (by intro c; apply g; left; unfold isL isD; omega)
              split at e4
              · rename_i g1
                unfold popen at e4
                split at e4
                · rename_i g2
                  split at e4
                  · rename_i g3
                    obtain ⟨a1, a2, a3, a4, a5, a6, a7, a8, a9, a10⟩ := qi
                    have h1 := ply_rg o nd 301 (p1 + 1) nc1 C1 (by omega) (by omega) a5 (by omega)
                    have h2 := prl_rg o 1 (ply t n nd 301 (p1 + 1) nc1 C1).2.1 h1.2.1
                    have h3 := prl_pos (t := t) 1 (ply t n nd 301 (p1 + 1) nc1 C1).2.1 (Or.inr ⟨by omega, g2.2⟩)
                    cases e4
                    exact ⟨ho p1 nd nc1 op T C1 _ _ _ _ ⟨a1, a2, a3, a4, a5, a6, a7, a8, a9, a10⟩ i1 h3 g3 h1.1 h2.2.1 (by omega) (fun c => by omega) z g1 g2.2 rfl (by rw [← g2.1]), by omega⟩
                  · cases e4
                · cases e4
              · rename_i g1
                have hb : isP (if isL (t p1) then 1 else 0) (t p1) := by
                  by_cases c : isL (t p1)
                  · rw [if_pos c]; exact Or.inr ⟨by omega, c⟩
                  · rw [if_neg c]; exact Or.inl ⟨rfl, by omega⟩
                have hb01 : (if isL (t p1) then (1 : Int) else 0) = 0 ∨ (if isL (t p1) then (1 : Int) else 0) = 1 := by split <;> simp
                revert e4
                generalize (if isL (t p1) then (1 : Int) else 0) = b at hb hb01 ⊢
                intro e4
                unfold pleaf at e4
                split at e4
                · rename_i g3
                  have a2 := qi.2.1
                  have h2 := prl_rg o b p1 a2
                  have h3 := prl_pos (t := t) b p1 hb
                  have h4 : pmo b ≤ 8 := by unfold pmo; split <;> omega
                  cases e4
                  exact ⟨hf p1 nd nc1 op T C1 b _ qi i1 h3 (by omega) h2.2.1 (by omega) (fun c => by omega) z hb01 hb rfl, by omega⟩
                · cases e4
        split at e
        · cases e
          exact ib
        · rename_i c
          exact ih qb.1 (fun d => absurd d c) ib.1 e
theorem pread_inv {t : Int → Int} {n : Int} {I : Int → Int → Int → Int → pT → pT → Prop} (o : tOk t n)
    (hl : ∀ p nd nc op T C p1 nc1 C1, pI n p nd nc op T → I p nd nc op T C → ply t n op 301 p nc C = (true, p1, nc1, C1) → I p1 nd nc1 op T C1)
    (hf : ∀ p nd nc op T C b r, pI n p nd nc op T → I p nd nc op T C → 1 ≤ r → r ≤ 8 → p + r ≤ n → ¬ nd = 60 → (¬ op = -1 → ¬ 12 ≤ T op 3) → (op = -1 → nd = 0) → b = 0 ∨ b = 1 → isP b (t p) → r = prl t b p → I (p + r) (nd + 1) nc op (nfin (nnam (nadd T nd op p b) nd p r) nd (p + r) 1) C)
    (ho : ∀ p nd nc op T C p1 nc1 C1 r, pI n p nd nc op T → I p nd nc op T C → 1 ≤ r → r ≤ 8 → p + 1 ≤ p1 → p1 + r ≤ n → ¬ nd = 60 → (¬ op = -1 → ¬ 12 ≤ T op 3 ∧ ¬ T op 7 + 1 = 16) → (op = -1 → nd = 0) → t p = 40 → isL (t p1) → r = prl t 1 p1 → ply t n nd 301 (p + 1) nc C = (true, p1, nc1, C1) → I (p1 + r) (nd + 1) nc1 nd (nnam (nadd T nd op p 2) nd p1 r) C1)
    (hc : ∀ p nd nc op T C, pI n p nd nc op T → I p nd nc op T C → p < n → ¬ op = -1 → I (p + 1) nd nc (T op 1) (nfin T op (p + 1) (nd - op)) C)
    (h0 : I 0 0 0 (-1) (fun _ _ => 0) (fun _ _ => 0)) {p nd nc op : Int} {T C : pT} (e : pread t n = (true, p, nd, nc, op, T, C)) : I p nd nc op T C ∧ 0 < nd := by
  unfold pread at e
  have q := pI_0 (T := fun _ _ => 0) o.1
  rcases e1 : pterm t n 301 0 0 0 (-1) (fun _ _ => 0) (fun _ _ => 0) with ⟨ok, p1, nd1, nc1, op1, T1, C1⟩
  rw [e1] at e
  cases ok with
  | false => cases e
  | true =>
    have q1 := pterm_I o 301 q e1
    have i1 := pterm_inv o hl hf ho hc 301 q (fun _ => rfl) h0 e1
    dsimp only at e
    rcases e2 : ply t n op1 301 p1 nc1 C1 with ⟨ok2, p2, nc2, C2⟩
    rw [e2] at e
    cases ok2 with
    | false => cases e
    | true =>
      dsimp only at e
      split at e
      · cases e
        exact ⟨hl _ _ _ _ _ _ _ _ _ q1.1 i1.1 e2, i1.2⟩
      · cases e
/-- the shape of the tree: where parts lie -/
def pL (nd op : Int) (T : pT) : Prop :=
  (∀ j, 0 ≤ j → j < nd → (T j 1 = -1 → j = 0) ∧ (¬ T j 1 = -1 → 0 ≤ T j 2 ∧ T j 2 < T (T j 1) 3 ∧ (T j 2 = 0 → j = T j 1 + 1) ∧ (0 < T j 2 → ∃ j1, T j 1 < j1 ∧ j1 < j ∧ T j1 1 = T j 1 ∧ T j1 2 = T j 2 - 1 ∧ ¬ T j1 6 = 0 ∧ j1 + T j1 6 = j))) ∧
  (∀ i, 0 ≤ i → i < nd → ¬ T i 6 = 0 → 1 ≤ T i 6 ∧ i + T i 6 ≤ nd ∧ (T i 3 = 0 → T i 6 = 1) ∧ (0 < T i 3 → ∃ j, i < j ∧ j < nd ∧ T j 1 = i ∧ T j 2 = T i 3 - 1 ∧ ¬ T j 6 = 0 ∧ j + T j 6 = i + T i 6)) ∧
  (¬ op = -1 → (T op 3 = 0 → nd = op + 1) ∧ (0 < T op 3 → ∃ j, op < j ∧ j < nd ∧ T j 1 = op ∧ T j 2 = T op 3 - 1 ∧ ¬ T j 6 = 0 ∧ j + T j 6 = nd)) ∧
  (∀ i, 0 ≤ i → i < nd → T i 6 = 0 → ¬ i = op → ∃ j, i < j ∧ j < nd ∧ T j 1 = i ∧ T j 2 = T i 3 - 1 ∧ T j 6 = 0)
theorem pL_add {T T' : pT} {nd op : Int} (x : pL nd op T) (hop : -1 ≤ op ∧ op < nd) (h0 : 0 ≤ nd) (h3 : ¬ op = -1 → 0 ≤ T op 3 ∧ T op 6 = 0) (z : op = -1 → nd = 0)
    (hp : ∀ j, 0 ≤ j → j < nd → T j 1 < j ∧ -1 ≤ T j 1)
    (e1 : ∀ i, ¬ i = nd → T' i 1 = T i 1) (e2 : ∀ i, ¬ i = nd → T' i 2 = T i 2) (e6 : ∀ i, ¬ i = nd → T' i 6 = T i 6) (e3 : ∀ i, ¬ i = nd → ¬ i = op → T' i 3 = T i 3) (e3o : ¬ op = -1 → T' op 3 = T op 3 + 1)
    (n1 : T' nd 1 = op) (n2 : T' nd 2 = if op = -1 then -1 else T op 3) (n3 : T' nd 3 = 0) :
    (∀ j, 0 ≤ j → j < nd + 1 → (T' j 1 = -1 → j = 0) ∧ (¬ T' j 1 = -1 → 0 ≤ T' j 2 ∧ T' j 2 < T' (T' j 1) 3 ∧ (T' j 2 = 0 → j = T' j 1 + 1) ∧ (0 < T' j 2 → ∃ j1, T' j 1 < j1 ∧ j1 < j ∧ T' j1 1 = T' j 1 ∧ T' j1 2 = T' j 2 - 1 ∧ ¬ T' j1 6 = 0 ∧ j1 + T' j1 6 = j))) ∧
    (∀ i, 0 ≤ i → i < nd → ¬ T' i 6 = 0 → 1 ≤ T' i 6 ∧ i + T' i 6 ≤ nd + 1 ∧ (T' i 3 = 0 → T' i 6 = 1) ∧ (0 < T' i 3 → ∃ j, i < j ∧ j < nd + 1 ∧ T' j 1 = i ∧ T' j 2 = T' i 3 - 1 ∧ ¬ T' j 6 = 0 ∧ j + T' j 6 = i + T' i 6)) ∧
    (∀ i, 0 ≤ i → i < nd → T' i 6 = 0 → ¬ i = op → ∃ j, i < j ∧ j < nd + 1 ∧ T' j 1 = i ∧ T' j 2 = T' i 3 - 1 ∧ T' j 6 = 0) := by
  obtain ⟨x1, x2, x3, x4⟩ := x
  refine ⟨fun j j0 j1 => ?_, fun i i0 i1 i2 => ?_, fun i i0 i1 i2 i3 => ?_⟩
  · by_cases c : j = nd
    · subst c
      rw [n1, n2]
      refine ⟨z, fun c1 => ?_⟩
      rw [if_neg c1, e3o c1]
      have y := x3 c1
      have hh := h3 c1
      refine ⟨hh.1, by omega, y.1, fun c2 => ?_⟩
      obtain ⟨w, w1, w2, w3, w4, w5, w6⟩ := y.2 c2
      exact ⟨w, w1, w2, by rw [e1 w (by omega)]; exact w3, by rw [e2 w (by omega)]; exact w4, by rw [e6 w (by omega)]; exact w5, by rw [e6 w (by omega)]; exact w6⟩
    · have y := x1 j j0 (by omega)
      have hpj := hp j j0 (by omega)
      rw [e1 j c, e2 j c]
      refine ⟨y.1, fun c1 => ?_⟩
      have y2 := y.2 c1
      have e3' : T' (T j 1) 3 = T (T j 1) 3 ∨ T' (T j 1) 3 = T (T j 1) 3 + 1 := by
        by_cases d : T j 1 = op
        · right; rw [d]; exact e3o (by omega)
        · left; exact e3 _ (by omega) d
      refine ⟨y2.1, by omega, y2.2.2.1, fun c2 => ?_⟩
      obtain ⟨w, w1, w2, w3, w4, w5, w6⟩ := y2.2.2.2 c2
      exact ⟨w, w1, w2, by rw [e1 w (by omega)]; exact w3, by rw [e2 w (by omega)]; exact w4, by rw [e6 w (by omega)]; exact w5, by rw [e6 w (by omega)]; exact w6⟩
  · rw [e6 i (by omega)] at i2 ⊢
    have y := x2 i i0 i1 i2
    have hne : ¬ i = op := fun d => i2 (by rw [d]; exact (h3 (by omega)).2)
    rw [e3 i (by omega) hne]
    refine ⟨y.1, by omega, y.2.2.1, fun c2 => ?_⟩
    obtain ⟨w, w1, w2, w3, w4, w5, w6⟩ := y.2.2.2 c2
    exact ⟨w, w1, by omega, by rw [e1 w (by omega)]; exact w3, by rw [e2 w (by omega)]; exact w4, by rw [e6 w (by omega)]; exact w5, by rw [e6 w (by omega)]; exact w6⟩
  · rw [e6 i (by omega)] at i2
    rw [e3 i (by omega) i3]
    obtain ⟨w, w1, w2, w3, w4, w5⟩ := x4 i i0 i1 i2 i3
    exact ⟨w, w1, by omega, by rw [e1 w (by omega)]; exact w3, by rw [e2 w (by omega)]; exact w4, by rw [e6 w (by omega)]; exact w5⟩
theorem pL_leaf {n p nd nc op b r : Int} {T : pT} (q : pI n p nd nc op T) (x : pL nd op T) (z : op = -1 → nd = 0) : pL (nd + 1) op (nfin (nnam (nadd T nd op p b) nd p r) nd (p + r) 1) := by
  obtain ⟨a1, a2, a3, a4, a5, a6, a7, a8, a9, a10⟩ := q
  have hr : ∀ j, 0 ≤ j → j < nd → T j 1 < j ∧ -1 ≤ T j 1 := fun j j0 j1 => by have r := a10 j j0 j1; unfold pR at r; omega
  have h3 : ¬ op = -1 → 0 ≤ T op 3 ∧ T op 6 = 0 := fun c => by have r := a10 op (by omega) a8; unfold pR at r; exact ⟨by omega, a9.1 c⟩
  have n6 : nfin (nnam (nadd T nd op p b) nd p r) nd (p + r) 1 nd 6 = 1 := by simp [nfin, nnam, nadd]
  have n1 : nfin (nnam (nadd T nd op p b) nd p r) nd (p + r) 1 nd 1 = op := by simp [nfin, nnam, nadd]
  have n2 : nfin (nnam (nadd T nd op p b) nd p r) nd (p + r) 1 nd 2 = if op = -1 then -1 else T op 3 := by simp [nfin, nnam, nadd]
  have n3 : nfin (nnam (nadd T nd op p b) nd p r) nd (p + r) 1 nd 3 = 0 := by simp [nfin, nnam, nadd]
  have o3 : ¬ op = -1 → nfin (nnam (nadd T nd op p b) nd p r) nd (p + r) 1 op 3 = T op 3 + 1 := by
    intro c
    have hne : ¬ op = nd := by omega
    simp [nfin, nnam, nadd, hne]
  have y := pL_add (T' := nfin (nnam (nadd T nd op p b) nd p r) nd (p + r) 1) x (by omega) a3 h3 z hr (fun i hi => by simp [nfin, nnam, nadd, hi]) (fun i hi => by simp [nfin, nnam, nadd, hi]) (fun i hi => by simp [nfin, nnam, nadd, hi]) (fun i hi ho => by simp [nfin, nnam, nadd, hi, ho]) o3 n1 n2 n3
  refine ⟨y.1, fun i i0 i1 i2 => ?_, fun c => ⟨fun d => ?_, fun d => ?_⟩, fun i i0 i1 i2 i3 => ?_⟩
  · by_cases c : i = nd
    · subst c
      rw [n6, n3]
      exact ⟨by omega, by omega, fun _ => rfl, fun d => absurd d (by omega)⟩
    · exact y.2.1 i i0 (by omega) i2
  · rw [o3 c] at d; have := h3 c; omega
  · refine ⟨nd, by omega, by omega, n1, ?_, by rw [n6]; omega, by rw [n6]⟩
    rw [n2, if_neg c, o3 c]; omega
  · by_cases c : i = nd
    · subst c; rw [n6] at i2; omega
    · exact y.2.2 i i0 (by omega) i2 i3
theorem pL_open {n p p1 nd nc op r : Int} {T : pT} (q : pI n p nd nc op T) (x : pL nd op T) (z : op = -1 → nd = 0) : pL (nd + 1) nd (nnam (nadd T nd op p 2) nd p1 r) := by
  obtain ⟨a1, a2, a3, a4, a5, a6, a7, a8, a9, a10⟩ := q
  have hr : ∀ j, 0 ≤ j → j < nd → T j 1 < j ∧ -1 ≤ T j 1 := fun j j0 j1 => by have r := a10 j j0 j1; unfold pR at r; omega
  have h3 : ¬ op = -1 → 0 ≤ T op 3 ∧ T op 6 = 0 := fun c => by have r := a10 op (by omega) a8; unfold pR at r; exact ⟨by omega, a9.1 c⟩
  have n6 : nnam (nadd T nd op p 2) nd p1 r nd 6 = 0 := by simp [nnam, nadd]
  have n1 : nnam (nadd T nd op p 2) nd p1 r nd 1 = op := by simp [nnam, nadd]
  have n2 : nnam (nadd T nd op p 2) nd p1 r nd 2 = if op = -1 then -1 else T op 3 := by simp [nnam, nadd]
  have n3 : nnam (nadd T nd op p 2) nd p1 r nd 3 = 0 := by simp [nnam, nadd]
  have o3 : ¬ op = -1 → nnam (nadd T nd op p 2) nd p1 r op 3 = T op 3 + 1 := by
    intro c
    have hne : ¬ op = nd := by omega
    simp [nnam, nadd, hne]
  have y := pL_add (T' := nnam (nadd T nd op p 2) nd p1 r) x (by omega) a3 h3 z hr (fun i hi => by simp [nnam, nadd, hi]) (fun i hi => by simp [nnam, nadd, hi]) (fun i hi => by simp [nnam, nadd, hi]) (fun i hi ho => by simp [nnam, nadd, hi, ho]) o3 n1 n2 n3
  refine ⟨y.1, fun i i0 i1 i2 => ?_, fun c => ⟨fun d => rfl, fun d => absurd d (by rw [n3]; omega)⟩, fun i i0 i1 i2 i3 => ?_⟩
  · by_cases c : i = nd
    · subst c; exact absurd n6 i2
    · exact y.2.1 i i0 (by omega) i2
  · by_cases c : i = op
    · subst c
      refine ⟨nd, by omega, by omega, n1, ?_, n6⟩
      rw [n2, if_neg (by omega), o3 (by omega)]; omega
    · exact y.2.2 i i0 (by omega) i2 c
theorem pL_close {n p nd nc op e : Int} {T : pT} (q : pI n p nd nc op T) (x : pL nd op T) (hop : ¬ op = -1) : pL nd (T op 1) (nfin T op e (nd - op)) := by
  obtain ⟨a1, a2, a3, a4, a5, a6, a7, a8, ⟨b1, b2, b3⟩, a10⟩ := q
  obtain ⟨x1, x2, x3, x4⟩ := x
  have g : ∀ i j, ¬ j = 5 → ¬ j = 6 → nfin T op e (nd - op) i j = T i j := fun i j h1 h2 => by simp [nfin, h1, h2]
  have g6 : ∀ i, ¬ i = op → nfin T op e (nd - op) i 6 = T i 6 := fun i h1 => by simp [nfin, h1]
  have g6o : nfin T op e (nd - op) op 6 = nd - op := by simp [nfin]
  have g0 := b1 hop
  have keep : ∀ i, ¬ T i 6 = 0 → nfin T op e (nd - op) i 6 = T i 6 := fun i h => g6 i (fun d => h (by rw [d]; exact g0))
  have r := a10 op (by omega) a8
  unfold pR at r
  refine ⟨fun j j0 j1 => ?_, fun i i0 i1 i2 => ?_, fun c => ?_, fun i i0 i1 i2 i3 => ?_⟩
  · have y := x1 j j0 j1
    rw [g j 1 (by omega) (by omega), g j 2 (by omega) (by omega), g (T j 1) 3 (by omega) (by omega)]
    refine ⟨y.1, fun c => ?_⟩
    have y2 := y.2 c
    refine ⟨y2.1, y2.2.1, y2.2.2.1, fun d => ?_⟩
    obtain ⟨w, w1, w2, w3, w4, w5, w6⟩ := y2.2.2.2 d
    exact ⟨w, w1, w2, by rw [g w 1 (by omega) (by omega)]; exact w3, by rw [g w 2 (by omega) (by omega)]; exact w4, by rw [keep w w5]; exact w5, by rw [keep w w5]; exact w6⟩
  · rw [g i 3 (by omega) (by omega)]
    by_cases c : i = op
    · subst c
      rw [g6o]
      have y := x3 hop
      refine ⟨by omega, by omega, fun d => by have := y.1 d; omega, fun d => ?_⟩
      obtain ⟨w, w1, w2, w3, w4, w5, w6⟩ := y.2 d
      exact ⟨w, w1, w2, by rw [g w 1 (by omega) (by omega)]; exact w3, by rw [g w 2 (by omega) (by omega)]; exact w4, by rw [keep w w5]; exact w5, by rw [keep w w5]; omega⟩
    · rw [g6 i c] at i2 ⊢
      have y := x2 i i0 i1 i2
      refine ⟨y.1, y.2.1, y.2.2.1, fun d => ?_⟩
      obtain ⟨w, w1, w2, w3, w4, w5, w6⟩ := y.2.2.2 d
      exact ⟨w, w1, w2, by rw [g w 1 (by omega) (by omega)]; exact w3, by rw [g w 2 (by omega) (by omega)]; exact w4, by rw [keep w w5]; exact w5, by rw [keep w w5]; exact w6⟩
  · rw [g (T op 1) 3 (by omega) (by omega)]
    have o6 := (r.2.2.2.2.2.2.2.2.1 g0).2 c
    obtain ⟨w, w1, w2, w3, w4, w5⟩ := x4 (T op 1) (by omega) (by omega) o6 (by omega)
    have hw : w = op := by
      have := b2 w (by omega) w2 w5
      apply Classical.byContradiction; intro d
      have := b3 w op (by omega) (by omega) a8 w5 g0
      omega
    subst hw
    refine ⟨fun d => ?_, fun _ => ⟨w, w1, w2, ?_, ?_, ?_, ?_⟩⟩
    · have y := (x1 w (by omega) w2).2 c
      omega
    · exact g w 1 (by omega) (by omega)
    · rw [g w 2 (by omega) (by omega)]; exact w4
    · rw [g6o]; omega
    · rw [g6o]; omega
  · have c : ¬ i = op := fun d => by rw [d, g6o] at i2; omega
    rw [g6 i c] at i2
    obtain ⟨w, w1, w2, w3, w4, w5⟩ := x4 i i0 i1 i2 c
    have hw : ¬ w = op := fun d => by rw [d] at w3; exact i3 w3.symm
    refine ⟨w, w1, w2, ?_, ?_, ?_⟩
    · rw [g w 1 (by omega) (by omega)]; exact w3
    · rw [g w 2 (by omega) (by omega), g i 3 (by omega) (by omega)]; exact w4
    · rw [g6 w hw]; exact w5
theorem pread_L {t : Int → Int} {n p nd nc op : Int} {T C : pT} (o : tOk t n) (e : pread t n = (true, p, nd, nc, op, T, C)) : pL nd op T ∧ 0 < nd :=
  pread_inv (I := fun _ nd _ op T _ => pL nd op T) o (fun _ _ _ _ _ _ _ _ _ _ x _ => x) (fun _ _ _ _ _ _ _ _ q x _ _ _ _ _ z _ _ _ => pL_leaf q x z) (fun _ _ _ _ _ _ _ _ _ _ q x _ _ _ _ _ _ z _ _ _ _ => pL_open q x z) (fun _ _ _ _ _ _ q x _ hop => pL_close q x hop)
    ⟨fun j _ _ => by omega, fun i _ _ => by omega, fun c => absurd rfl c, fun i _ _ => by omega⟩ e
