/-! Comments in their order, beside the begins of nodes. -/
def cO (p nc : Int) (C : pT) : Prop := (∀ m, 0 ≤ m → m < nc → C m 0 + C m 1 ≤ p) ∧ (∀ m, 0 ≤ m → m + 1 < nc → C m 0 + C m 1 ≤ C (m + 1) 0)
section CO
variable {t : Int → Int} {n nd nc p op : Int} {T C : pT}
theorem cO_ply (o : tOk t n) (op : Int) : ∀ (k : Nat) (p nc : Int) (C : pT), 0 ≤ p → p ≤ n → 0 ≤ nc → cO p nc C → cO (ply t n op k p nc C).2.1 (ply t n op k p nc C).2.2.1 (ply t n op k p nc C).2.2.2
  | 0, p, nc, C, h0, h1, h2, x => x
  | k + 1, p, nc, C, h0, h1, h2, x => by
    unfold ply
    split
    · rename_i c
      have := o.lt (i := p) (by omega)
      exact cO_ply o op k (p + 1) nc C (by omega) (by omega) h2 ⟨fun m m0 m1 => by have := x.1 m m0 m1; omega, x.2⟩
    · split
      · rename_i c
        have lt := o.lt (i := p) (by omega)
        have rg := pcm_rg o (n - (p + 1)).toNat (p + 1) (by omega) (by omega)
        generalize pcm t (n - (p + 1)).toNat (p + 1) = q at rg ⊢
        split
        · rename_i c2
          have l2 := o.lt (i := q) (by omega)
          refine cO_ply o op k (q + 1) (nc + 1) _ (by omega) (by omega) (by omega) ⟨fun m m0 m1 => ?_, fun m m0 m1 => ?_⟩
          · by_cases d : m = nc
            · subst d; simp [cadd]; omega
            · have := x.1 m m0 (by omega)
              simp [cadd, d]; omega
          · by_cases d : m + 1 = nc
            · have := x.1 m m0 (by omega)
              have d2 : ¬ m = nc := by omega
              simp [cadd, d, d2]; omega
            · have := x.2 m m0 (by omega)
              have d2 : ¬ m = nc := by omega
              simp [cadd, d, d2]; omega
        · exact ⟨fun m m0 m1 => by have := x.1 m m0 m1; dsimp only; omega, x.2⟩
      · exact x
def cB (p nd nc : Int) (T C : pT) : Prop := (∀ i, 0 ≤ i → i < nd → T i 4 < p) ∧ cO p nc C ∧ (∀ m i, 0 ≤ m → m < nc → 0 ≤ i → i < nd → C m 0 + C m 1 ≤ T i 4 ∨ T i 4 < C m 0)
theorem pread_C (o : tOk t n) (e : pread t n = (true, p, nd, nc, op, T, C)) : cB p nd nc T C := by
  refine (pread_inv (I := fun p nd nc op T C => cB p nd nc T C) o ?_ ?_ ?_ ?_ ?_ e).1
  · intro p nd nc op T C p1 nc1 C1 q x e
    have hr := ply_rg o op 301 p nc C q.1 q.2.1 q.2.2.2.2.1 q.2.2.2.2.2.1
    have hn := ply_new o op 301 p nc C q.1 q.2.1
    have ho := cO_ply o op 301 p nc C q.1 q.2.1 q.2.2.2.2.1 x.2.1
    rw [e] at hr hn ho
    dsimp only at hr hn ho
    refine ⟨fun i i0 i1 => by have := x.1 i i0 i1; omega, ho, fun m i m0 m1 i0 i1 => ?_⟩
    by_cases c : m < nc
    · rw [hr.2.2.2.2 m 0 c, hr.2.2.2.2 m 1 c]; exact x.2.2 m i m0 c i0 i1
    · have := hn m (by omega) m1
      have := x.1 i i0 i1
      right; omega
  · intro p nd nc op T C b r q x h1 h2 h3 h4 h5 z hb hP hrl
    have g : ∀ i, ¬ i = nd → nfin (nnam (nadd T nd op p b) nd p r) nd (p + r) 1 i 4 = T i 4 := fun i h => tl_ne (j := 0) h (by omega)
    have gn : nfin (nnam (nadd T nd op p b) nd p r) nd (p + r) 1 nd 4 = p := by simp [nfin, nnam, nadd]
    refine ⟨fun i i0 i1 => ?_, ⟨fun m m0 m1 => by have := x.2.1.1 m m0 m1; omega, x.2.1.2⟩, fun m i m0 m1 i0 i1 => ?_⟩
    · by_cases c : i = nd
      · rw [c, gn]; omega
      · rw [g i c]; have := x.1 i i0 (by omega); omega
    · by_cases c : i = nd
      · rw [c, gn]; left; exact x.2.1.1 m m0 m1
      · rw [g i c]; exact x.2.2 m i m0 m1 i0 (by omega)
  · intro p nd nc op T C p1 nc1 C1 r q x h1 h2 h3 h4 h5 h6 z hp hP hrl e
    obtain ⟨a1, a2, a3, a4, a5, a6, a7⟩ := q
    have hr := ply_rg o nd 301 (p + 1) nc C (by omega) (by omega) a5 (by omega)
    have hn := ply_new o nd 301 (p + 1) nc C (by omega) (by omega)
    have ho := cO_ply o nd 301 (p + 1) nc C (by omega) (by omega) a5 ⟨fun m m0 m1 => by have := x.2.1.1 m m0 m1; omega, x.2.1.2⟩
    rw [e] at hr hn ho
    dsimp only at hr hn ho
    have g : ∀ i, ¬ i = nd → nnam (nadd T nd op p 2) nd p1 r i 4 = T i 4 := fun i h => to_ne h (by omega)
    have gn : nnam (nadd T nd op p 2) nd p1 r nd 4 = p := by simp [nnam, nadd]
    refine ⟨fun i i0 i1 => ?_, ⟨fun m m0 m1 => by have := ho.1 m m0 m1; omega, ho.2⟩, fun m i m0 m1 i0 i1 => ?_⟩
    · by_cases c : i = nd
      · rw [c, gn]; omega
      · rw [g i c]; have := x.1 i i0 (by omega); omega
    · by_cases c : m < nc
      · rw [hr.2.2.2.2 m 0 c, hr.2.2.2.2 m 1 c]
        by_cases d : i = nd
        · rw [d, gn]; left; exact x.2.1.1 m m0 c
        · rw [g i d]; exact x.2.2 m i m0 c i0 (by omega)
      · have y := hn m (by omega) m1
        right
        by_cases d : i = nd
        · rw [d, gn]; omega
        · rw [g i d]; have := x.1 i i0 (by omega); omega
  · intro p nd nc op T C q x h1 h2
    have g : ∀ i, nfin T op (p + 1) (nd - op) i 4 = T i 4 := fun i => by simp [nfin]
    refine ⟨fun i i0 i1 => ?_, ⟨fun m m0 m1 => by have := x.2.1.1 m m0 m1; omega, x.2.1.2⟩, fun m i m0 m1 i0 i1 => ?_⟩
    · rw [g]; have := x.1 i i0 i1; omega
    · rw [g]; exact x.2.2 m i m0 m1 i0 i1
  · exact ⟨fun i i0 i1 => by omega, ⟨fun m m0 m1 => by omega, fun m m0 m1 => by omega⟩, fun m i m0 m1 => by omega⟩
theorem sF.co (x : sF t n nd nc T C) : cB n nd nc T C := pread_C x.1 x.2
/-- what begins in a row of nodes ends there -/
theorem sF.ce (x : sF t n nd nc T C) {m i : Int} (m0 : 0 ≤ m) (m1 : m < nc) (i0 : 0 ≤ i) (i1 : i < nd) (h : C m 0 < T i 5) : C m 0 + C m 1 ≤ T i 5 := by
  have b := x.be i0 i1
  rcases x.co.2.2 m i m0 m1 i0 i1 with q | q
  · omega
  · exact (x.pw.2.2.1 m m0 m1).2.2.2 i i0 i1 (x.cl i0 i1) (by omega) h
end CO
/-! What is written: rows of signs, where two rows of letters or of digits would become one with a blank. -/
def rowS (t : Int → Int) : Nat → Int → List Int
  | 0, _ => []
  | k + 1, a => t a :: rowS t k (a + 1)
theorem rowS_l (t : Int → Int) : ∀ (k : Nat) (a : Int), (rowS t k a).length = k
  | 0, _ => rfl
  | k + 1, a => by rw [rowS, List.length_cons, rowS_l t k]
def besd (a b : Int) : Prop := (isL a ∧ isL b) ∨ (isD a ∧ isD b)
def lsD (L : List Int) : Int := L.getLastD (-1)
noncomputable def wr (L : List Int) (sm : Int) : List Int → List Int × Int
  | [] => (L, sm)
  | c :: R => ((if b2i (¬ sm = 0 ∧ besd (lsD L) c) = 1 then L ++ [32] else L) ++ c :: R, 0)
theorem wr_0 {L : List Int} : ∀ R : List Int, wr L 0 R = (L ++ R, 0)
  | [] => by rw [wr, List.append_nil]
  | c :: R => by rw [wr, b2i_neg (fun q => q.1 rfl), if_neg (by omega)]
theorem wr_ap {L : List Int} {sm : Int} : ∀ R R2 : List Int, wr (wr L sm R).1 (wr L sm R).2 R2 = wr L sm (R ++ R2)
  | [], R2 => rfl
  | c :: R, R2 => by
    rw [wr, List.cons_append, wr, wr_0]
    dsimp only
    rw [List.append_assoc]; rfl
theorem wr_l {L : List Int} {sm : Int} : ∀ R : List Int, (wr L sm R).1.length ≤ L.length + R.length + 1 ∧ L.length + R.length ≤ (wr L sm R).1.length
  | [] => by rw [wr]; dsimp only; rw [List.length_nil]; omega
  | c :: R => by
    rw [wr]
    dsimp only
    rw [List.length_append, List.length_cons]
    split
    · rw [List.length_append]; simp; omega
    · omega
theorem wr_01 {L : List Int} {sm : Int} (h : sm = 0 ∨ sm = 1) : ∀ R : List Int, (wr L sm R).2 = 0 ∨ (wr L sm R).2 = 1
  | [] => h
  | c :: R => Or.inl rfl
theorem lsD_s {L : List Int} {c : Int} : lsD (L ++ [c]) = c := by
  unfold lsD
  simp
