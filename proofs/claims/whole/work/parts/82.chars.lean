/-! Signs of sources and of words in rules are bytes that are not negative. -/
theorem pterm_in2 {t : Int → Int} {n : Int} {I : Int → Int → Int → Int → pT → pT → Prop} (o : tOk t n)
    (hl : ∀ p nd nc op T C p1 nc1 C1, pI n p nd nc op T → I p nd nc op T C → ply t n op 301 p nc C = (true, p1, nc1, C1) → I p1 nd nc1 op T C1)
    (hf : ∀ p nd nc op T C b r, pI n p nd nc op T → I p nd nc op T C → 1 ≤ r → r ≤ 8 → p + r ≤ n → ¬ nd = 60 → (¬ op = -1 → ¬ 12 ≤ T op 3) → (op = -1 → nd = 0) → b = 0 ∨ b = 1 → isP b (t p) → r = prl t b p → I (p + r) (nd + 1) nc op (nfin (nnam (nadd T nd op p b) nd p r) nd (p + r) 1) C)
    (ho : ∀ p nd nc op T C p1 nc1 C1 r, pI n p nd nc op T → I p nd nc op T C → 1 ≤ r → r ≤ 8 → p + 1 ≤ p1 → p1 + r ≤ n → ¬ nd = 60 → (¬ op = -1 → ¬ 12 ≤ T op 3 ∧ ¬ T op 7 + 1 = 16) → (op = -1 → nd = 0) → t p = 40 → isL (t p1) → r = prl t 1 p1 → ply t n nd 301 (p + 1) nc C = (true, p1, nc1, C1) → I (p1 + r) (nd + 1) nc1 nd (nnam (nadd T nd op p 2) nd p1 r) C1)
    (hc : ∀ p nd nc op T C, pI n p nd nc op T → I p nd nc op T C → p < n → ¬ op = -1 → t p = 41 → I (p + 1) nd nc (T op 1) (nfin T op (p + 1) (nd - op)) C) :
    ∀ (f : Nat) {p nd nc op : Int} {T C : pT} {p2 nd2 nc2 op2 : Int} {T2 C2 : pT}, pI n p nd nc op T → (op = -1 → nd = 0) → I p nd nc op T C → pterm t n f p nd nc op T C = (true, p2, nd2, nc2, op2, T2, C2) → I p2 nd2 nc2 op2 T2 C2 ∧ 0 < nd2 := by
  intro f
  induction f with
  | zero => intro p nd nc op T C p2 nd2 nc2 op2 T2 C2 q z i e; unfold pterm at e; cases e
  | succ f ih =>
    intro p nd nc op T C p2 nd2 nc2 op2 T2 C2 q z i e
    have qi : pI n (ply t n op 301 p nc C).2.1 nd (ply t n op 301 p nc C).2.2.1 op T := pI_ply o q
    unfold pterm at e
    rcases hz3 : ply t n op 301 p nc C with ⟨ok, p1, nc1, C1⟩
    rw [hz3] at qi e
    cases ok with
    | false => cases e
    | true =>
      dsimp only at qi e
      have i1 := hl p nd nc op T C p1 nc1 C1 q i hz3
      rcases hz4 : pbody t n p1 nd nc1 op T C1 with ⟨ok2, p3, nd3, nc3, op3, T3, C3⟩
      rw [hz4] at e
      cases ok2 with
      | false => cases e
      | true =>
        dsimp only at e
        have qb := pI_body o qi hz4
        have ib : I p3 nd3 nc3 op3 T3 C3 ∧ 0 < nd3 := by
          have e4 := hz4
          unfold pbody at e4
          split at e4
          · rename_i g
            have hpp : 0 ≤ p1 ∧ p1 < n := o.lt (by omega)
            cases e4
            have := qi.2.2.2.2.2.2.2.1
            have := qi.2.2.2.2.2.2.1
            exact ⟨hc p1 nd nc1 op T C1 qi i1 hpp.2 g.2 g.1, by omega⟩
          · unfold pnode at e4
            have nd0 := qi.2.2.1
            split at e4
            · cases e4
            · rename_i g
              have hpp : 0 ≤ p1 ∧ p1 < n := o.lt (by intro c; apply g; left; unfold isL isD; omega)
              split at e4
              · rename_i g1
                unfold popen at e4
                split at e4
                · rename_i g2
                  split at e4
                  · rename_i g3
                    obtain ⟨a1, a2, a3, a4, a5, a6, a7, a8, a9, a10⟩ := qi
                    have h1 := ply_rg o nd 301 (p1 + 1) nc1 C1 (by omega) (by omega) a5 (by omega)
                    have h2 := prl_rg o 1 (ply t n nd 301 (p1 + 1) nc1 C1).2.1 h1.2.1
                    have h3 := prl_pos (t := t) 1 (ply t n nd 301 (p1 + 1) nc1 C1).2.1 (Or.inr ⟨by omega, g2.2⟩)
                    cases e4
                    exact ⟨ho p1 nd nc1 op T C1 _ _ _ _ ⟨a1, a2, a3, a4, a5, a6, a7, a8, a9, a10⟩ i1 h3 g3 h1.1 h2.2.1 (by omega) (fun c => by omega) z g1 g2.2 rfl (by rw [← g2.1]), by omega⟩
                  · cases e4
                · cases e4
              · rename_i g1
                have hb : isP (if isL (t p1) then 1 else 0) (t p1) := by
                  by_cases c : isL (t p1)
                  · rw [if_pos c]; exact Or.inr ⟨by omega, c⟩
                  · rw [if_neg c]; exact Or.inl ⟨rfl, by omega⟩
                have hb01 : (if isL (t p1) then (1 : Int) else 0) = 0 ∨ (if isL (t p1) then (1 : Int) else 0) = 1 := by split <;> simp
                revert e4
                generalize (if isL (t p1) then (1 : Int) else 0) = b at hb hb01 ⊢
                intro e4
                unfold pleaf at e4
                split at e4
                · rename_i g3
                  have a2 := qi.2.1
                  have h2 := prl_rg o b p1 a2
                  have h3 := prl_pos (t := t) b p1 hb
                  have h4 : pmo b ≤ 8 := by unfold pmo; split <;> omega
                  cases e4
                  exact ⟨hf p1 nd nc1 op T C1 b _ qi i1 h3 (by omega) h2.2.1 (by omega) (fun c => by omega) z hb01 hb rfl, by omega⟩
                · cases e4
        split at e
        · cases e
          exact ib
        · rename_i c
          exact ih qb.1 (fun d => absurd d c) ib.1 e
theorem pread_in2 {t : Int → Int} {n : Int} {I : Int → Int → Int → Int → pT → pT → Prop} (o : tOk t n)
    (hl : ∀ p nd nc op T C p1 nc1 C1, pI n p nd nc op T → I p nd nc op T C → ply t n op 301 p nc C = (true, p1, nc1, C1) → I p1 nd nc1 op T C1)
    (hf : ∀ p nd nc op T C b r, pI n p nd nc op T → I p nd nc op T C → 1 ≤ r → r ≤ 8 → p + r ≤ n → ¬ nd = 60 → (¬ op = -1 → ¬ 12 ≤ T op 3) → (op = -1 → nd = 0) → b = 0 ∨ b = 1 → isP b (t p) → r = prl t b p → I (p + r) (nd + 1) nc op (nfin (nnam (nadd T nd op p b) nd p r) nd (p + r) 1) C)
    (ho : ∀ p nd nc op T C p1 nc1 C1 r, pI n p nd nc op T → I p nd nc op T C → 1 ≤ r → r ≤ 8 → p + 1 ≤ p1 → p1 + r ≤ n → ¬ nd = 60 → (¬ op = -1 → ¬ 12 ≤ T op 3 ∧ ¬ T op 7 + 1 = 16) → (op = -1 → nd = 0) → t p = 40 → isL (t p1) → r = prl t 1 p1 → ply t n nd 301 (p + 1) nc C = (true, p1, nc1, C1) → I (p1 + r) (nd + 1) nc1 nd (nnam (nadd T nd op p 2) nd p1 r) C1)
    (hc : ∀ p nd nc op T C, pI n p nd nc op T → I p nd nc op T C → p < n → ¬ op = -1 → t p = 41 → I (p + 1) nd nc (T op 1) (nfin T op (p + 1) (nd - op)) C)
    (h0 : I 0 0 0 (-1) (fun _ _ => 0) (fun _ _ => 0)) {p nd nc op : Int} {T C : pT} (e : pread t n = (true, p, nd, nc, op, T, C)) : I p nd nc op T C ∧ 0 < nd := by
  unfold pread at e
  have q := pI_0 (T := fun _ _ => 0) o.1
  rcases e1 : pterm t n 301 0 0 0 (-1) (fun _ _ => 0) (fun _ _ => 0) with ⟨ok, p1, nd1, nc1, op1, T1, C1⟩
  rw [e1] at e
  cases ok with
  | false => cases e
  | true =>
    have q1 := pterm_I o 301 q e1
    have i1 := pterm_in2 o hl hf ho hc 301 q (fun _ => rfl) h0 e1
    dsimp only at e
    rcases e2 : ply t n op1 301 p1 nc1 C1 with ⟨ok2, p2, nc2, C2⟩
    rw [e2] at e
    cases ok2 with
    | false => cases e
    | true =>
      dsimp only at e
      split at e
      · cases e
        exact ⟨hl _ _ _ _ _ _ _ _ _ q1.1 i1.1 e2, i1.2⟩
      · cases e

def chO (c : Int) : Prop := 0 ≤ c ∧ c ≤ 126
section CH
variable {t : Int → Int} {n : Int}
theorem rowL_c {b : Int} : ∀ (k : Nat) (i x : Int), 0 ≤ x → x < rowL t b k i → chO (t (i + x))
  | 0, i, x, x0, x1 => by rw [rowL] at x1; omega
  | k + 1, i, x, x0, x1 => by
    rw [rowL] at x1
    split at x1
    · rename_i c
      by_cases d : x = 0
      · rw [d, Int.add_zero]; unfold isP isD isL at c; unfold chO; omega
      · have := rowL_c (b := b) k (i + 1) (x - 1) (by omega) (by omega)
        rwa [show i + 1 + (x - 1) = i + x by omega] at this
    · omega
theorem pcm_c : ∀ (k : Nat) (j i : Int), j ≤ i → i < pcm t k j → chO (t i)
  | 0, j, i, h0, h1 => by rw [pcm] at h1; omega
  | k + 1, j, i, h0, h1 => by
    rw [pcm] at h1
    split at h1
    · rename_i c
      by_cases d : i = j
      · rw [d]; unfold chO; omega
      · exact pcm_c k (j + 1) i (by omega) h1
    · omega
theorem ply_c (op : Int) : ∀ (k : Nat) (p nc : Int) (C : pT) (i : Int), p ≤ i → i < (ply t n op k p nc C).2.1 → (ply t n op k p nc C).1 = true → chO (t i)
  | 0, p, nc, C, i, h0, h1, h2 => by rw [ply] at h1; dsimp only at h1; omega
  | k + 1, p, nc, C, i, h0, h1, h2 => by
    rw [ply] at h1 h2
    split at h1
    · rename_i c
      rw [if_pos c] at h2
      by_cases d : i = p
      · rw [d]; unfold chO; omega
      · exact ply_c op k (p + 1) nc C i (by omega) h1 h2
    · rename_i c
      rw [if_neg c] at h2
      split at h1
      · rename_i c2
        rw [if_pos c2] at h2
        split at h1
        · rename_i c3
          rw [if_pos c3] at h2
          by_cases d : i = p
          · rw [d]; unfold chO; omega
          · by_cases d2 : i < pcm t (n - (p + 1)).toNat (p + 1)
            · exact pcm_c _ (p + 1) i (by omega) d2
            · by_cases d3 : i = pcm t (n - (p + 1)).toNat (p + 1)
              · rw [d3]; unfold chO; omega
              · exact ply_c op k _ _ _ i (by omega) h1 h2
        · rename_i c3
          rw [if_neg c3] at h2
          cases h2
      · dsimp only at h1; omega
theorem pread_ch {p nd nc op : Int} {T C : pT} (o : tOk t n) (e : pread t n = (true, p, nd, nc, op, T, C)) : ∀ i, 0 ≤ i → i < p → chO (t i) := by
  refine (pread_in2 (I := fun p _ _ _ _ _ => ∀ i, 0 ≤ i → i < p → chO (t i)) o ?_ ?_ ?_ ?_ ?_ e).1
  · intro p nd nc op T C p1 nc1 C1 q x e i i0 i1
    by_cases c : i < p
    · exact x i i0 c
    · exact ply_c op 301 p nc C i (by omega) (by rw [e]; exact i1) (by rw [e])
  · intro p nd nc op T C b r q x h1 h2 h3 h4 h5 z hb hP hrl i i0 i1
    by_cases c : i < p
    · exact x i i0 c
    · have := rowL_c (t := t) (b := b) (pmo b + 1) p (i - p) (by omega) (by unfold prl at hrl; omega)
      rwa [show p + (i - p) = i by omega] at this
  · intro p nd nc op T C p1 nc1 C1 r q x h1 h2 h3 h4 h5 h6 z hp hP hrl e i i0 i1
    by_cases c : i < p
    · exact x i i0 c
    · by_cases d : i = p
      · rw [d]; unfold chO; omega
      · by_cases c2 : i < p1
        · exact ply_c nd 301 (p + 1) nc C i (by omega) (by rw [e]; exact c2) (by rw [e])
        · have := rowL_c (t := t) (b := 1) (pmo 1 + 1) p1 (i - p1) (by omega) (by unfold prl at hrl; omega)
          rwa [show p1 + (i - p1) = i by omega] at this
  · intro p nd nc op T C q x h1 h2 h3 i i0 i1
    by_cases c : i < p
    · exact x i i0 c
    · rw [show i = p by omega]; unfold chO; omega
  · intro i i0 i1; omega
theorem sF.ch1 {nd nc : Int} {T C : pT} (x : sF t n nd nc T C) : ∀ i, 0 ≤ i → i < n → chO (t i) := pread_ch x.1 x.2
/-- words of items -/
def wdO (t : Int → Int) (s : pS) (i : Int) : Prop := ∀ x, 0 ≤ x → x < s 1 i 11 → chO (t (s 1 i 10 + x))
def wdA (t : Int → Int) (b0 : Int) (s : pS) : Prop := ∀ i, b0 ≤ i → i < s 0 0 1 → wdO t s i
theorem wdA_o {b0 : Int} {s s' : pS} (x : wdA t b0 s) (n1 : s' 0 0 1 ≤ s 0 0 1) (e : ∀ i j, j = 10 ∨ j = 11 → s' 1 i j = s 1 i j) : wdA t b0 s' := by
  intro i i0 i1
  unfold wdO
  rw [e i 10 (by omega), e i 11 (by omega)]
  exact x i i0 (by omega)
theorem wdA_n {b0 : Int} {s s' : pS} (x : wdA t b0 s) (n1 : s' 0 0 1 = s 0 0 1 + 1) (e : ∀ i j, ¬ i = s 0 0 1 → j = 10 ∨ j = 11 → s' 1 i j = s 1 i j) (en : wdO t s' (s 0 0 1)) : wdA t b0 s' := by
  intro i i0 i1
  by_cases c : i = s 0 0 1
  · rw [c]; exact en
  · unfold wdO
    rw [e i 10 c (by omega), e i 11 c (by omega)]
    exact x i i0 (by omega)
theorem wdA_item {sd b0 : Int} {s s' : pS} (v : rV n sd b0 s) (x : wdA t b0 s) (e : ritem t sd b0 s = (true, s')) : wdA t b0 s' := by
  have kn := kidn sd
  have k3 := kid3 sd
  have ve := v.2.2.2
  have lt : ¬ s 0 0 2 = s 0 0 1 := by have := v.1.2.2.2.2.2.2.1; omega
  have A1 : ∀ o, rA s sd o 0 0 1 = s 0 0 1 + 1 := fun o => rA_1
  have Ao : ∀ o i j, ¬ i = s 0 0 1 → j = 10 ∨ j = 11 → rA s sd o 1 i j = s 1 i j := fun o i j hi hj => by
    rw [rA_old j hi]
    split
    · rw [if_neg (by omega), if_neg (by omega)]; omega
    · omega
  have An : ∀ o j, j = 10 ∨ j = 11 → rA s sd o 1 (s 0 0 1) j = 0 := fun o j hj => by
    rw [(rA_new (s := s) (sd := sd) (o := o) lt).2.2.2.2.2.2.2.2.2 j (by omega)]; exact ve _ _ (Int.le_refl _)
  -- an item with no word
  have nw : ∀ (o : Int) (y : pS), (∀ i j, j = 10 ∨ j = 11 → y 1 i j = rA s sd o 1 i j) → y 0 0 1 = rA s sd o 0 0 1 → wdA t b0 y := by
    intro o y h1 h2
    refine wdA_n x (by rw [h2, A1]) (fun i j hi hj => by rw [h1 i j hj, Ao o i j hi hj]) ?_
    intro z z0 z1
    rw [h1 _ 11 (by omega), An o 11 (by omega)] at z1
    omega
  -- one with a word
  have yw : ∀ (o b p : Int) (y : pS), (∀ i j, ¬ i = s 0 0 1 → j = 10 ∨ j = 11 → y 1 i j = rA s sd o 1 i j) → y 0 0 1 = rA s sd o 0 0 1 → y 1 (s 0 0 1) 10 = p → y 1 (s 0 0 1) 11 = prl t b p → wdA t b0 y := by
    intro o b p y h1 h2 h3 h4
    refine wdA_n x (by rw [h2, A1]) (fun i j hi hj => by rw [h1 i j hi hj, Ao o i j hi hj]) ?_
    intro z z0 z1
    rw [h4] at z1
    rw [h3]
    exact rowL_c (t := t) (b := b) (pmo b + 1) p z z0 z1
  unfold ritem at e
  split at e
  · cases e
  · split at e
    · revert e
      generalize (if isL (t (s 0 0 0)) then (1 : Int) else 0) = b
      intro e
      unfold rlit at e
      split at e
      · cases e
        refine yw 3 b (s 0 0 0) _ (fun i j hi hj => ?_) ?_ ?_ ?_
        · rw [rfin_o _ _ (by omega) (by omega), upE, if_neg (by omega), upE, if_neg (by omega), upE, if_neg (by omega), rtok_o _ _ (by omega) (by omega) (by omega)]; rfl
        · rw [rfin_o _ _ (by omega) (by omega), upE, if_neg (by omega), upE, if_neg (by omega), upE, if_neg (by omega), rtok_o _ _ (by omega) (by omega) (by omega)]; rfl
        · rw [rfin_o _ _ (by omega) (by omega), upE, if_neg (by omega), upE, if_neg (by omega), upE, if_pos ⟨rfl, rfl, rfl⟩]
        · rw [rfin_o _ _ (by omega) (by omega), upE, if_neg (by omega), upE, if_pos ⟨rfl, rfl, rfl⟩]
      · cases e
    · split at e
      · cases e
        refine nw 2 _ (fun i j hj => ?_) ?_
        · rw [upE, if_neg (by omega), upE, if_neg (by omega), rtok_o _ _ (by omega) (by omega) (by omega)]; rfl
        · rw [upE, if_neg (by omega), upE, if_neg (by omega), rtok_o _ _ (by omega) (by omega) (by omega)]; rfl
      · split at e
        · unfold rterm at e
          split at e
          · split at e
            · cases e
              refine yw 4 1 (pbl t 301 (s 0 0 0 + 1)) _ (fun i j hi hj => ?_) ?_ ?_ ?_
              · rw [upE, if_neg (by omega), upE, if_neg (by omega), upE, if_neg (by omega), upE, if_neg (by omega), upE, if_neg (by omega), upE, if_neg (by omega), rtok_o _ _ (by omega) (by omega) (by omega)]; rfl
              · rw [upE, if_neg (by omega), upE, if_neg (by omega), upE, if_neg (by omega), upE, if_neg (by omega), upE, if_neg (by omega), upE, if_neg (by omega), rtok_o _ _ (by omega) (by omega) (by omega)]; rfl
              · rw [upE, if_neg (by omega), upE, if_neg (by omega), upE, if_neg (by omega), upE, if_neg (by omega), upE, if_neg (by omega), upE, if_pos ⟨rfl, rfl, rfl⟩]
              · rw [upE, if_neg (by omega), upE, if_neg (by omega), upE, if_neg (by omega), upE, if_neg (by omega), upE, if_pos ⟨rfl, rfl, rfl⟩]
            · cases e
          · cases e
        · split at e
          · cases e
            refine nw 0 _ (fun i j hj => ?_) ?_
            · rw [rfin_o _ _ (by omega) (by omega), upE, if_neg (by omega), rtok_o _ _ (by omega) (by omega) (by omega)]; rfl
            · rw [rfin_o _ _ (by omega) (by omega), upE, if_neg (by omega), rtok_o _ _ (by omega) (by omega) (by omega)]; rfl
          · have hh : ∀ (o l how : Int), rhole t sd (rA s sd o) (s 0 0 1) (s 0 0 0) l how = (true, s') → wdA t b0 s' := by
              intro o l how e
              unfold rhole at e
              split at e
              · split at e
                · cases e
                  refine nw o _ (fun i j hj => ?_) ?_
                  · rw [rfin_o _ _ (by omega) (by omega), rtok_o _ _ (by omega) (by omega) (by omega), upE, if_neg (by omega), upE, if_neg (by omega), upE, if_neg (by omega)]
                  · rw [rfin_o _ _ (by omega) (by omega), rtok_o _ _ (by omega) (by omega) (by omega), upE, if_neg (by omega), upE, if_neg (by omega), upE, if_neg (by omega)]
                · split at e
                  · cases e
                  · cases e
                    refine nw o _ (fun i j hj => ?_) ?_
                    · rw [rfin_o _ _ (by omega) (by omega), upE, if_neg (by omega), upE, if_neg (by omega), rtok_o _ _ (by omega) (by omega) (by omega), upE, if_neg (by omega), upE, if_neg (by omega), upE, if_neg (by omega)]
                    · rw [rfin_o _ _ (by omega) (by omega), upE, if_neg (by omega), upE, if_neg (by omega), rtok_o _ _ (by omega) (by omega) (by omega), upE, if_neg (by omega), upE, if_neg (by omega), upE, if_neg (by omega)]
              · cases e
            split at e
            · exact hh 1 _ 1 e
            · exact hh 5 _ 2 e
theorem wdA_side {sd b0 : Int} (k : tOk t n) : ∀ (f : Nat) {s s' : pS}, rV n sd b0 s → wdA t b0 s → rside t sd b0 f s = (true, s') → wdA t b0 s' := by
  intro f
  induction f with
  | zero => intro s s' v x e; unfold rside at e; cases e
  | succ f ih =>
    intro s s' v x e
    unfold rside at e
    have hr := pbl_rg k 301 (s 0 0 0) v.1.1 v.1.2.1
    have vb : rV n sd b0 (rblk t s) := rV_p v (by have := v.1.1; omega)
    have xb : wdA t b0 (rblk t s) := wdA_o x (by unfold rblk; rw [upE, if_neg (by omega)]; omega) (fun i j hj => by unfold rblk; rw [upE, if_neg (by omega)])
    rcases hz : rstep t sd b0 (rblk t s) with ⟨ok, s1⟩
    rw [hz] at e
    cases ok with
    | false => cases e
    | true =>
      have v1 := (rV_step k vb hz).1
      dsimp only at e
      have x1 : wdA t b0 s1 := by
        unfold rstep at hz
        split at hz
        · cases hz
          have kn := kidn sd
          refine wdA_o xb ?_ (fun i j hj => ?_)
          · rw [rclose_e, rfin_o _ _ (by omega) (by omega), rcl0_g (by omega) (by omega)]; omega
          · rw [rclose_e, rfin_o _ _ (by omega) (by omega), rcl0_g (by omega) (by omega)]
        · exact wdA_item vb xb hz
      split at e
      · cases e; exact x1
      · exact ih v1 x1 e
theorem wd_read {s : pS} (k : tOk t n) (e : rread t n = (true, s)) : wdA t (s 0 0 8) s := by
  have hn := k.1
  have e1n : ∀ c i j, ¬ (c = 0 ∧ j = 2) → rnil c i j = 0 := fun c i j hc => by unfold rnil; rw [upE, if_neg (by omega)]
  unfold rread at e
  rcases hz : rside t 0 0 301 rnil with ⟨ok, s1⟩
  rw [hz] at e
  cases ok with
  | false => cases e
  | true =>
    dsimp only at e
    obtain ⟨v1, kp1, op1, gt1⟩ := rSd_side k 301 (rSd_nil hn) (fun _ => ⟨e1n _ _ _ (by omega), e1n _ _ _ (by decide)⟩) hz
    have s17 : s1 0 0 7 = 0 := by rw [(kp1.2.2.1 7 0 0 (Or.inr rfl) (by decide)).2]; exact e1n _ _ _ (by omega)
    split at e
    · rename_i g61
      have hr := pbl_rg k 301 (s1 0 0 0) v1.1.1.1 v1.1.1.2.1
      have vb : rSd t n 0 0 (rblk t s1) := rSd_p v1 (by have := v1.1.1.1; omega)
      have ub : ∀ c i j, ¬ (c = 0 ∧ j = 0) → rblk t s1 c i j = s1 c i j := fun c i j h => by unfold rblk; rw [upE, if_neg (by omega)]
      have um : ∀ c i j, ¬ (c = 0 ∧ (j = 0 ∨ j = 8)) → rmid (rblk t s1) c i j = s1 c i j := fun c i j hc => by unfold rmid; rw [upE, if_neg (by omega), upE, if_neg (by omega)]; exact ub c i j (by omega)
      have hm := rSd_mid k vb (by rw [ub _ _ _ (by omega)]; exact op1) (by rw [ub _ _ _ (by omega)]; exact s17) (k.lt (i := rblk t s1 0 0 0) (by omega)).2
      rw [ub 0 0 1 (by omega)] at hm
      rcases hz2 : rside t 1 (s1 0 0 1) 301 (rmid (rblk t s1)) with ⟨ok2, s2⟩
      rw [hz2] at e
      cases ok2 with
      | false => cases e
      | true =>
        dsimp only at e
        obtain ⟨v2, kp2, op2, gt2⟩ := rSd_side k 301 hm (fun _ => ⟨um _ _ _ (by omega), by rw [um _ _ _ (by decide)]; exact s17⟩) hz2
        have w2 : wdA t (s1 0 0 1) s2 := wdA_side k 301 hm.1 (fun i i0 i1 => by rw [um _ _ _ (by omega)] at i1; omega) hz2
        split at e
        · cases e
          have u2 : ∀ c i j, ¬ (c = 0 ∧ j = 0) → rblk t s2 c i j = s2 c i j := fun c i j h => by unfold rblk; rw [upE, if_neg (by omega)]
          have e8 : rblk t s2 0 0 8 = s1 0 0 1 := by rw [u2 _ _ _ (by omega), kp2.2.2.2.1]; simp [rmid, upE]; exact ub _ _ _ (by omega)
          rw [e8]
          exact wdA_o w2 (by rw [u2 _ _ _ (by omega)]; omega) (fun i j hj => u2 _ _ _ (by omega))
        · cases e
    · cases e
end CH
