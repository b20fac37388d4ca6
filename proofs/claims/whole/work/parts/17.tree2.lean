/-! What holds of the tables of a source: places, comments, names. -/
theorem ply_new {t : Int → Int} {n : Int} (o : tOk t n) (op : Int) : ∀ (k : Nat) (p nc : Int) (C : pT), 0 ≤ p → p ≤ n → ∀ m, nc ≤ m → m < (ply t n op k p nc C).2.2.1 →
    p ≤ (ply t n op k p nc C).2.2.2 m 0 ∧ 2 ≤ (ply t n op k p nc C).2.2.2 m 1 ∧ (ply t n op k p nc C).2.2.2 m 0 + (ply t n op k p nc C).2.2.2 m 1 ≤ (ply t n op k p nc C).2.1 ∧ (ply t n op k p nc C).2.2.2 m 2 = op
  | 0, p, nc, C, h0, h1, m, h2, h3 => by unfold ply at h3; dsimp only at h3; omega
  | k + 1, p, nc, C, h0, h1, m, h2, h3 => by
    unfold ply at h3 ⊢
    split at h3
    · rename_i q
      have := o.lt (i := p) (by omega)
      rw [if_pos q]
      have := ply_new o op k (p + 1) nc C (by omega) (by omega) m h2 h3
      exact ⟨by omega, this.2.1, this.2.2⟩
    · rename_i q0
      rw [if_neg q0]
      split at h3
      · rename_i q
        rw [if_pos q]
        have hp := o.lt (i := p) (by omega)
        have hr := pcm_rg o (n - (p + 1)).toNat (p + 1) (by omega) (by omega)
        split at h3
        · rename_i q2
          rw [if_pos q2]
          have hj := o.lt (i := pcm t (n - (p + 1)).toNat (p + 1)) (by omega)
          by_cases c : m = nc
          · subst c
            revert h3 hr hj
            generalize pcm t (n - (p + 1)).toNat (p + 1) = E
            intro h3 hr hj
            have e1 : ∀ (k : Nat) (p nc : Int) (C : pT), 0 ≤ p → p ≤ n → ∀ m j, m < nc → (ply t n op k p nc C).2.2.2 m j = C m j ∧ p ≤ (ply t n op k p nc C).2.1 := by
              intro k
              induction k with
              | zero => intro p nc C h0 h1 m j hm; exact ⟨rfl, Int.le_refl _⟩
              | succ k ih =>
                intro p nc C h0 h1 m j hm
                unfold ply
                split
                · have := o.lt (i := p) (by omega)
                  have := ih (p + 1) nc C (by omega) (by omega) m j hm
                  exact ⟨this.1, by omega⟩
                · split
                  · have := o.lt (i := p) (by omega)
                    have hr := pcm_rg o (n - (p + 1)).toNat (p + 1) (by omega) (by omega)
                    split
                    · have := o.lt (i := pcm t (n - (p + 1)).toNat (p + 1)) (by omega)
                      have := ih (pcm t (n - (p + 1)).toNat (p + 1) + 1) (nc + 1) (cadd C nc p (pcm t (n - (p + 1)).toNat (p + 1) + 1 - p) op) (by omega) (by omega) m j (by omega)
                      rw [this.1]
                      exact ⟨by unfold cadd; rw [if_neg (by omega)], by omega⟩
                    · exact ⟨rfl, by dsimp only; omega⟩
                  · exact ⟨rfl, Int.le_refl _⟩
            have w := fun j => e1 k (E + 1) (m + 1) (cadd C m p (E + 1 - p) op) (by omega) (by omega) m j (by omega)
            rw [(w 0).1, (w 1).1, (w 2).1]
            have := (w 0).2
            simp [cadd]
            omega
          · have := ply_new o op k (pcm t (n - (p + 1)).toNat (p + 1) + 1) (nc + 1) _ (by omega) (by omega) m (by omega) h3
            exact ⟨by omega, this.2.1, this.2.2⟩
        · dsimp only at h3; omega
      · dsimp only at h3; omega
def pG (p nd : Int) (T : pT) : Prop := (∀ i, 0 ≤ i → i < nd → 0 ≤ T i 4 ∧ T i 4 < p ∧ (¬ T i 6 = 0 → T i 4 < T i 5 ∧ T i 5 ≤ p)) ∧
  (∀ i j, 0 ≤ i → i < j → j < nd → T i 4 < T j 4 ∧ (¬ T i 6 = 0 → (j < i + T i 6 → T j 5 < T i 5 ∧ ¬ T j 6 = 0) ∧ (i + T i 6 ≤ j → T i 5 ≤ T j 4)))
def pK (p nd nc : Int) (T C : pT) : Prop := ∀ m, 0 ≤ m → m < nc → 0 ≤ C m 0 ∧ 2 ≤ C m 1 ∧ C m 0 + C m 1 ≤ p ∧ (∀ i, 0 ≤ i → i < nd → ¬ T i 6 = 0 → T i 4 ≤ C m 0 → C m 0 < T i 5 → C m 0 + C m 1 ≤ T i 5)
def pN (t : Int → Int) (n nd : Int) (T : pT) : Prop := ∀ i, 0 ≤ i → i < nd → (T i 0 = 0 ∨ T i 0 = 1 ∨ T i 0 = 2) ∧ 0 ≤ T i 8 ∧ T i 8 + T i 9 ≤ n ∧ (T i 0 = 0 → isD (t (T i 8))) ∧ (¬ T i 0 = 0 → isL (t (T i 8))) ∧ (¬ T i 0 = 2 → T i 3 = 0 ∧ ¬ T i 6 = 0)
def pW (t : Int → Int) (n p nd nc op : Int) (T C : pT) : Prop := pL nd op T ∧ pG p nd T ∧ pK p nd nc T C ∧ pN t n nd T
section PW
variable {t : Int → Int} {n p nd nc op b r p1 nc1 : Int} {T C C1 : pT}
theorem tl_ne {i j : Int} {k : Nat} (h : ¬ i = nd) (hk : ¬ k = 3) : nfin (nnam (nadd T nd op p b) nd p r) nd (p + r) 1 i k = T i k := by simp [nfin, nnam, nadd, h, hk]
theorem to_ne {i : Int} {k : Nat} (h : ¬ i = nd) (hk : ¬ k = 3) : nnam (nadd T nd op p b) nd p1 r i k = T i k := by simp [nnam, nadd, h, hk]
theorem pG_le {p2 : Int} (x : pG p nd T) (h : p ≤ p2) : pG p2 nd T := ⟨fun i h0 h1 => by have := x.1 i h0 h1; exact ⟨this.1, by omega, fun c => by have := this.2.2 c; omega⟩, x.2⟩
theorem pG_add {T' : pT} {e : Int} (x : pG p nd T) (hL : pL nd op T) (h0 : 0 ≤ nd) (hp : 0 ≤ p) (hr : p < p1) (e' : ∀ i k, ¬ i = nd → ¬ k = 3 → T' i k = T i k) (n4 : T' nd 4 = p) (n5 : ¬ T' nd 6 = 0 → T' nd 5 = p1) : pG p1 (nd + 1) T' := by
  refine ⟨fun i i0 i1 => ?_, fun i j i0 ij j1 => ?_⟩
  · by_cases c : i = nd
    · subst c
      rw [n4]
      exact ⟨hp, hr, fun c => by rw [n5 c]; omega⟩
    · have y := x.1 i i0 (by omega)
      rw [e' i 4 c (by omega), e' i 5 c (by omega), e' i 6 c (by omega)]
      exact ⟨y.1, by omega, fun d => by have := y.2.2 d; omega⟩
  · have c : ¬ i = nd := by omega
    have y := x.1 i i0 (by omega)
    have yl := hL.2.1 i i0 (by omega)
    rw [e' i 4 c (by omega), e' i 5 c (by omega), e' i 6 c (by omega)]
    by_cases d : j = nd
    · subst d
      rw [n4]
      exact ⟨y.2.1, fun g => ⟨fun u => by have := (yl g).2.1; omega, fun _ => (y.2.2 g).2⟩⟩
    · rw [e' j 4 d (by omega), e' j 5 d (by omega), e' j 6 d (by omega)]
      exact x.2 i j i0 ij (by omega)
theorem pG_close (q : pI n p nd nc op T) (x : pG p nd T) (hop : ¬ op = -1) : pG (p + 1) nd (nfin T op (p + 1) (nd - op)) := by
  obtain ⟨a1, a2, a3, a4, a5, a6, a7, a8, ⟨b1, b2, b3⟩, a10⟩ := q
  have g : ∀ i j, ¬ j = 5 → ¬ j = 6 → nfin T op (p + 1) (nd - op) i j = T i j := fun i j h1 h2 => by simp [nfin, h1, h2]
  have gn : ∀ i j, ¬ i = op → nfin T op (p + 1) (nd - op) i j = T i j := fun i j h1 => by simp [nfin, h1]
  have g6 : nfin T op (p + 1) (nd - op) op 6 = nd - op := by simp [nfin]
  have g5 : nfin T op (p + 1) (nd - op) op 5 = p + 1 := by simp [nfin]
  refine ⟨fun i i0 i1 => ?_, fun i j i0 ij j1 => ?_⟩
  · have y := x.1 i i0 i1
    rw [g i 4 (by omega) (by omega)]
    refine ⟨y.1, by omega, fun c => ?_⟩
    by_cases d : i = op
    · subst d; rw [g5]; omega
    · rw [gn i 6 d] at c; rw [gn i 5 d]; have := y.2.2 c; omega
  · have y := x.2 i j i0 ij j1
    rw [g i 4 (by omega) (by omega), g j 4 (by omega) (by omega)]
    refine ⟨y.1, fun c => ?_⟩
    by_cases d : i = op
    · subst d
      rw [g6, g5, gn j 5 (by omega), gn j 6 (by omega)]
      have hj : ¬ T j 6 = 0 := fun e => by have := b2 j (by omega) j1 e; omega
      have := (x.1 j (by omega) j1).2.2 hj
      exact ⟨fun _ => ⟨by omega, hj⟩, fun e => by omega⟩
    · rw [gn i 6 d] at c ⊢
      rw [gn i 5 d]
      have z := y.2 c
      by_cases f : j = op
      · subst f
        refine ⟨fun e => absurd (b1 hop) (z.1 e).2, z.2⟩
      · rw [gn j 5 f, gn j 6 f]; exact z
theorem pK_ply {k : Nat} {op1 : Int} (o : tOk t n) (q : pI n p nd nc op T) (xg : pG p nd T) (x : pK p nd nc T C) (hp : p ≤ p1) (hpn : p1 ≤ n) (h2 : 2 * nc ≤ p1) : pK (ply t n op1 k p1 nc C).2.1 nd (ply t n op1 k p1 nc C).2.2.1 T (ply t n op1 k p1 nc C).2.2.2 := by
  obtain ⟨a1, a2, a3, a4, a5, a6, a7, a8, a9, a10⟩ := q
  have hr := ply_rg o op1 k p1 nc C (by omega) (by omega) a5 (by omega)
  have hn := ply_new o op1 k p1 nc C (by omega) (by omega)
  intro m m0 m1
  by_cases c : m < nc
  · have y := x m m0 c
    rw [hr.2.2.2.2 m 0 c, hr.2.2.2.2 m 1 c]
    exact ⟨y.1, y.2.1, by omega, y.2.2.2⟩
  · have y := hn m (by omega) m1
    exact ⟨by omega, y.2.1, y.2.2.1, fun i i0 i1 c1 c2 c3 => by have := (xg.1 i i0 i1).2.2 c1; omega⟩
theorem pK_add {T' : pT} {p2 : Int} (x : pK p1 nd nc T C) (h1 : p1 ≤ p2) (hn : 0 ≤ nd) (e' : ∀ i k, ¬ i = nd → ¬ k = 3 → T' i k = T i k) (n4 : ¬ T' nd 6 = 0 → T' nd 4 = p1) : pK p2 (nd + 1) nc T' C := by
  intro m m0 m1
  have y := x m m0 m1
  refine ⟨y.1, y.2.1, by omega, fun i i0 i1 c1 c2 c3 => ?_⟩
  by_cases c : i = nd
  · subst c; have := n4 c1; omega
  · rw [e' i 6 c (by omega)] at c1
    rw [e' i 4 c (by omega)] at c2
    rw [e' i 5 c (by omega)] at c3 ⊢
    exact y.2.2.2 i i0 (by omega) c1 c2 c3
theorem pK_close {s : Int} (x : pK p nd nc T C) : pK (p + 1) nd nc (nfin T op (p + 1) s) C := by
  intro m m0 m1
  have y := x m m0 m1
  refine ⟨y.1, y.2.1, by omega, fun i i0 i1 c1 c2 c3 => ?_⟩
  by_cases c : i = op
  · subst c
    have : nfin T i (p + 1) s i 5 = p + 1 := by simp [nfin]
    rw [this]; omega
  · have e' : ∀ k, nfin T op (p + 1) s i k = T i k := fun k => by simp [nfin, c]
    rw [e'] at c1 c2 c3 ⊢
    exact y.2.2.2 i i0 i1 c1 c2 c3
theorem pN_add {T' : pT} (x : pN t n nd T) (q : pI n p nd nc op T) (e' : ∀ i k, ¬ i = nd → ¬ k = 3 → T' i k = T i k) (e3 : ∀ i, ¬ i = nd → ¬ i = op → T' i 3 = T i 3)
    (hn : (T' nd 0 = 0 ∨ T' nd 0 = 1 ∨ T' nd 0 = 2) ∧ 0 ≤ T' nd 8 ∧ T' nd 8 + T' nd 9 ≤ n ∧ (T' nd 0 = 0 → isD (t (T' nd 8))) ∧ (¬ T' nd 0 = 0 → isL (t (T' nd 8))) ∧ (¬ T' nd 0 = 2 → T' nd 3 = 0 ∧ ¬ T' nd 6 = 0)) : pN t n (nd + 1) T' := by
  intro i i0 i1
  by_cases c : i = nd
  · subst c; exact hn
  · have y := x i i0 (by omega)
    rw [e' i 0 c (by omega), e' i 8 c (by omega), e' i 9 c (by omega), e' i 6 c (by omega)]
    refine ⟨y.1, y.2.1, y.2.2.1, y.2.2.2.1, y.2.2.2.2.1, fun d => ?_⟩
    have z := y.2.2.2.2.2 d
    refine ⟨?_, z.2⟩
    rw [e3 i c (fun e => z.2 (by rw [e]; exact q.2.2.2.2.2.2.2.2.1.1 (by omega)))]
    exact z.1
theorem pread_W (o : tOk t n) (e : pread t n = (true, p, nd, nc, op, T, C)) : pW t n p nd nc op T C ∧ 0 < nd := by
  refine pread_inv (I := fun p nd nc op T C => pW t n p nd nc op T C) o ?_ ?_ ?_ ?_ ?_ e
  · intro p nd nc op T C p1 nc1 C1 q x e
    obtain ⟨x1, x2, x3, x4⟩ := x
    have hr := ply_rg o op 301 p nc C q.1 q.2.1 q.2.2.2.2.1 q.2.2.2.2.2.1
    have hk := pK_ply (op1 := op) (k := 301) o q x2 x3 (Int.le_refl p) q.2.1 q.2.2.2.2.2.1
    rw [e] at hr hk
    exact ⟨x1, pG_le x2 hr.1, hk, x4⟩
  · intro p nd nc op T C b r q x h1 h2 h3 h4 h5 z hb hP hrl
    obtain ⟨x1, x2, x3, x4⟩ := x
    have q0 := q
    obtain ⟨a1, a2, a3, a4, a5, a6, a7, a8, a9, a10⟩ := q
    have e' : ∀ i k, ¬ i = nd → ¬ k = 3 → nfin (nnam (nadd T nd op p b) nd p r) nd (p + r) 1 i k = T i k := fun i k h hk => tl_ne (j := 0) h hk
    refine ⟨pL_leaf q0 x1 z, pG_add (e := 0) x2 x1 a3 a1 (by omega) e' ?_ ?_, pK_add x3 (by omega) a3 e' ?_, pN_add x4 q0 e' ?_ ?_⟩
    · simp [nfin, nnam, nadd]
    · intro _; simp [nfin, nnam, nadd]
    · intro _; simp [nfin, nnam, nadd]
    · intro i h1 h2; simp [nfin, nnam, nadd, h1, h2]
    · simp [nfin, nnam, nadd]
      unfold isP at hP
      exact ⟨by omega, a1, by omega, fun _ => by omega, fun _ => by omega⟩
  · intro p nd nc op T C p1 nc1 C1 r q x h1 h2 h3 h4 h5 h6 z hp hP hrl e
    obtain ⟨x1, x2, x3, x4⟩ := x
    have q0 := q
    obtain ⟨a1, a2, a3, a4, a5, a6, a7, a8, a9, a10⟩ := q
    have hr := ply_rg o nd 301 (p + 1) nc C (by omega) (by omega) a5 (by omega)
    have hk := pK_ply (op1 := nd) (k := 301) (p1 := p + 1) o q0 x2 x3 (by omega) (by omega) (by omega)
    rw [e] at hr hk
    dsimp only at hr hk
    have e' : ∀ i k, ¬ i = nd → ¬ k = 3 → nnam (nadd T nd op p 2) nd p1 r i k = T i k := fun i k h hk => to_ne h hk
    refine ⟨pL_open q0 x1 z, pG_add (e := 0) x2 x1 a3 a1 (by omega) e' ?_ ?_, pK_add hk (by omega) a3 e' ?_, pN_add x4 q0 e' ?_ ?_⟩
    · simp [nnam, nadd]
    · intro c; exact absurd (by simp [nnam, nadd]) c
    · intro c; exact absurd (by simp [nnam, nadd]) c
    · intro i h1 h2; simp [nnam, nadd, h1, h2]
    · simp [nnam, nadd]
      exact ⟨by omega, by omega, hP⟩
  · intro p nd nc op T C q x h1 h2
    obtain ⟨x1, x2, x3, x4⟩ := x
    refine ⟨pL_close q x1 h2, pG_close q x2 h2, pK_close x3, fun i i0 i1 => ?_⟩
    have y := x4 i i0 i1
    have g : ∀ i j, ¬ j = 5 → ¬ j = 6 → nfin T op (p + 1) (nd - op) i j = T i j := fun i j h1 h2 => by simp [nfin, h1, h2]
    rw [g i 0 (by omega) (by omega), g i 8 (by omega) (by omega), g i 9 (by omega) (by omega), g i 3 (by omega) (by omega)]
    refine ⟨y.1, y.2.1, y.2.2.1, y.2.2.2.1, y.2.2.2.2.1, fun d => ⟨(y.2.2.2.2.2 d).1, ?_⟩⟩
    by_cases c : i = op
    · subst c
      have : nfin T i (p + 1) (nd - i) i 6 = nd - i := by simp [nfin]
      rw [this]; omega
    · simp [nfin, c]; exact (y.2.2.2.2.2 d).2
  · exact ⟨⟨fun j _ _ => by omega, fun i _ _ => by omega, fun c => absurd rfl c, fun i _ _ => by omega⟩, ⟨fun i _ _ => by omega, fun i j _ _ => by omega⟩, fun m _ _ => by omega, fun i _ _ => by omega⟩
end PW
