/-! Where reading fails lies in the text. -/
section FT
variable {t : Int → Int} {n : Int}
theorem pnode_rg {p nd nc op : Int} {T C : pT} (o : tOk t n) (q : pI n p nd nc op T) : 0 ≤ (pnode t n p nd nc op T C).2.1 ∧ (pnode t n p nd nc op T C).2.1 ≤ n := by
  obtain ⟨a1, a2, a3, a4, a5, a6, a7, a8, a9⟩ := q
  unfold pnode
  split
  · exact ⟨a1, a2⟩
  · rename_i g
    have hpp : 0 ≤ p ∧ p < n := o.lt (by intro c; apply g; left; unfold isL isD; omega)
    split
    · have h1 := ply_rg o nd 301 (p + 1) nc C (by omega) (by omega) a5 (by omega)
      generalize ply t n nd 301 (p + 1) nc C = r at h1
      have h2 := prl_rg o 1 r.2.1 h1.2.1
      unfold popen
      split
      · split
        · dsimp only; omega
        · dsimp only; omega
      · dsimp only; omega
    · generalize (if isL (t p) then (1 : Int) else 0) = b
      have h2 := prl_rg o b p a2
      unfold pleaf
      split
      · dsimp only; omega
      · dsimp only; omega
theorem pbody_rg {p nd nc op : Int} {T C : pT} (o : tOk t n) (q : pI n p nd nc op T) : 0 ≤ (pbody t n p nd nc op T C).2.1 ∧ (pbody t n p nd nc op T C).2.1 ≤ n := by
  unfold pbody
  split
  · rename_i g
    have := o.lt (i := p) (by omega)
    dsimp only; omega
  · exact pnode_rg o q
theorem pterm_rg (o : tOk t n) : ∀ (f : Nat) {p nd nc op : Int} {T C : pT}, pI n p nd nc op T → 0 ≤ (pterm t n f p nd nc op T C).2.1 ∧ (pterm t n f p nd nc op T C).2.1 ≤ n := by
  intro f
  induction f with
  | zero => intro p nd nc op T C q; exact ⟨q.1, q.2.1⟩
  | succ f ih =>
    intro p nd nc op T C q
    have hr := ply_rg o op 301 p nc C q.1 q.2.1 q.2.2.2.2.1 q.2.2.2.2.2.1
    have qi : pI n (ply t n op 301 p nc C).2.1 nd (ply t n op 301 p nc C).2.2.1 op T := pI_ply o q
    have q1 := q.1
    unfold pterm
    rcases hz : ply t n op 301 p nc C with ⟨ok, p1, nc1, C1⟩
    rw [hz] at hr qi
    dsimp only at hr qi
    cases ok with
    | false => dsimp only; omega
    | true =>
      dsimp only
      have hb := pbody_rg (C := C1) o qi
      rcases hz2 : pbody t n p1 nd nc1 op T C1 with ⟨ok2, p2, nd2, nc2, op2, T2, C2⟩
      rw [hz2] at hb
      cases ok2 with
      | false => exact hb
      | true =>
        dsimp only
        split
        · exact hb
        · exact ih (pI_body o qi hz2).1
theorem pread_rg (o : tOk t n) : 0 ≤ (pread t n).2.1 ∧ (pread t n).2.1 ≤ n := by
  have q := pI_0 (n := n) (T := fun _ _ => 0) o.1
  have h1 := pterm_rg (C := fun _ _ => 0) o 301 q
  unfold pread
  rcases hz : pterm t n 301 0 0 0 (-1) (fun _ _ => 0) (fun _ _ => 0) with ⟨ok, p, nd, nc, op, T, C⟩
  rw [hz] at h1
  cases ok with
  | false => exact h1
  | true =>
    have q1 := (pterm_I o 301 q hz).1
    have h2 := ply_rg o op 301 p nc C q1.1 q1.2.1 q1.2.2.2.2.1 q1.2.2.2.2.2.1
    have := q1.1
    dsimp only
    rcases hz2 : ply t n op 301 p nc C with ⟨ok2, p2, nc2, C2⟩
    rw [hz2] at h2
    dsimp only at h2
    cases ok2 with
    | false => dsimp only; omega
    | true =>
      dsimp only
      split
      · dsimp only; omega
      · dsimp only; omega
theorem rstep_rg {sd b0 : Int} {s : pS} (o : tOk t n) (v : rV n sd b0 s) : 0 ≤ (rstep t sd b0 s).2 0 0 0 ∧ (rstep t sd b0 s).2 0 0 0 ≤ n := by
  rcases hz : rstep t sd b0 s with ⟨ok, s'⟩
  cases ok with
  | true => have := (rV_step o v hz).1.1; exact ⟨this.1, this.2.1⟩
  | false =>
    have i1 := v.1.1
    have i2 := v.1.2.1
    unfold rstep at hz
    split at hz
    · cases hz
    · unfold ritem at hz
      split at hz
      · cases hz; exact ⟨i1, i2⟩
      · rename_i g
        have hp : 0 ≤ s 0 0 0 ∧ s 0 0 0 < n := o.lt (by rcases opc_m t (s 0 0 0) with c1 | c1; exact absurd (Or.inl c1) g; exact c1)
        have up0 : ∀ (A : pS) (p : Int), up A 0 0 0 p 0 0 0 = p := fun A p => by simp [upE]
        have hole : ∀ A it l how, l = t (s 0 0 0 + 1) - 65 → rhole t sd A it (s 0 0 0) l how = (false, s') → 0 ≤ s' 0 0 0 ∧ s' 0 0 0 ≤ n := by
          intro A it l how hl e
          unfold rhole at e
          split at e
          · rename_i g1
            have lt1 := o.lt (i := s 0 0 0 + 1) (by omega)
            split at e
            · cases e
            · rename_i g2
              have lt2 := o.lt (i := s 0 0 0 + 2) (by intro c; exact g2 (Or.inr (Or.inr (by omega))))
              split at e
              · cases e; rw [up0]; omega
              · cases e
          · cases e; rw [up0]; omega
        split at hz
        · revert hz
          generalize (if isL (t (s 0 0 0)) then (1 : Int) else 0) = b
          intro hz
          have h2 := prl_rg o b (s 0 0 0) i2
          unfold rlit at hz
          split at hz
          · cases hz
          · cases hz; dsimp only; rw [up0]; omega
        · split at hz
          · cases hz
          · split at hz
            · have hr := pbl_rg o 301 (s 0 0 0 + 1) (by omega) (by omega)
              generalize pbl t 301 (s 0 0 0 + 1) = p1 at hr hz
              have h2 := prl_rg o 1 p1 hr.2
              unfold rterm at hz
              split at hz
              · split at hz
                · cases hz
                · cases hz; dsimp only; rw [up0]; omega
              · cases hz; dsimp only; rw [up0]; omega
            · split at hz
              · cases hz
              · split at hz
                · exact hole _ _ _ _ rfl hz
                · exact hole _ _ _ _ rfl hz
theorem rside_rg {sd b0 : Int} (o : tOk t n) : ∀ (f : Nat) {s : pS}, rV n sd b0 s → 0 ≤ (rside t sd b0 f s).2 0 0 0 ∧ (rside t sd b0 f s).2 0 0 0 ≤ n := by
  intro f
  induction f with
  | zero => intro s v; exact ⟨v.1.1, v.1.2.1⟩
  | succ f ih =>
    intro s v
    have vb := (rV_blk o v).1
    have h := rstep_rg o vb
    unfold rside
    rcases hz : rstep t sd b0 (rblk t s) with ⟨ok, s1⟩
    rw [hz] at h
    cases ok with
    | false => exact h
    | true =>
      dsimp only
      split
      · exact h
      · exact ih (rV_step o vb hz).1
theorem rread_rg (o : tOk t n) : 0 ≤ (rread t n).2 0 0 0 ∧ (rread t n).2 0 0 0 ≤ n := by
  have vn := rV_nil (n := n) o.1
  have h1 := rside_rg (t := t) o 301 vn
  have nil : ∀ c i j, ¬ (c = 0 ∧ j = 2) → rnil c i j = 0 := fun c i j hc => by unfold rnil; rw [upE, if_neg (by omega)]
  unfold rread
  rcases hz : rside t 0 0 301 rnil with ⟨ok, s1⟩
  rw [hz] at h1
  cases ok with
  | false => exact h1
  | true =>
    have v1 := rV_side o 301 vn hz
    have vb := rV_blk o v1.1
    have u1 := rU_side 301 hz
    dsimp only
    split
    · rename_i c
      have lt := o.lt (i := rblk t s1 0 0 0) (by omega)
      have ub : ∀ c i j, ¬ (c = 0 ∧ j = 0) → rblk t s1 c i j = s1 c i j := fun c i j hc => by unfold rblk; rw [upE, if_neg (by omega)]
      have e7 : s1 0 0 7 = 0 := by have := u1.2 7 (by decide); rw [this]; exact nil _ _ _ (by omega)
      have vm := rV_mid o vb.1 (by rw [ub _ _ _ (by omega)]; exact v1.2.2) (by rw [ub _ _ _ (by omega)]; exact e7) lt.2
      rw [ub 0 0 1 (by omega)] at vm
      have h2 := rside_rg o 301 vm
      rcases hz2 : rside t 1 (s1 0 0 1) 301 (rmid (rblk t s1)) with ⟨ok2, s2⟩
      rw [hz2] at h2
      cases ok2 with
      | false => exact h2
      | true =>
        have v2 := rV_side o 301 vm hz2
        have vb2 := (rV_blk o v2.1).1
        dsimp only
        split
        · exact ⟨vb2.1.1, vb2.1.2.1⟩
        · exact ⟨vb2.1.1, vb2.1.2.1⟩
    · exact ⟨vb.1.1.1, vb.1.1.2.1⟩
end FT
