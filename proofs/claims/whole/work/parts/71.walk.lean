/-! Walks: which nodes are edits. -/
noncomputable def sel (P : Int → Prop) : Nat → Int → List Int
  | 0, _ => []
  | k + 1, i => if b2i (P i) = 1 then i :: sel P k (i + 1) else sel P k (i + 1)
theorem sel_y {P : Int → Prop} {k : Nat} {i : Int} (h : P i) : sel P (k + 1) i = i :: sel P k (i + 1) := by rw [sel, if_pos (b2i_pos h)]
theorem sel_n {P : Int → Prop} {k : Nat} {i : Int} (h : ¬ P i) : sel P (k + 1) i = sel P k (i + 1) := by rw [sel, if_neg (by rw [b2i_neg h]; omega)]
theorem sel_m {P : Int → Prop} {v : Int} : ∀ (k : Nat) (i : Int), v ∈ sel P k i ↔ (P v ∧ i ≤ v ∧ v < i + k)
  | 0, i => by
    constructor
    · intro h; cases h
    · intro h; omega
  | k + 1, i => by
    have r := sel_m (P := P) (v := v) k (i + 1)
    by_cases c : P i
    · rw [sel_y c, List.mem_cons, r]
      constructor
      · rintro (q | q)
        · subst q; exact ⟨c, by omega, by omega⟩
        · exact ⟨q.1, by omega, by omega⟩
      · intro q
        by_cases d : v = i
        · exact Or.inl d
        · exact Or.inr ⟨q.1, by omega, by omega⟩
    · rw [sel_n c, r]
      constructor
      · intro q; exact ⟨q.1, by omega, by omega⟩
      · intro q
        have d : ¬ v = i := fun e => c (e ▸ q.1)
        exact ⟨q.1, by omega, by omega⟩
theorem sel_cg {P Q : Int → Prop} : ∀ (k : Nat) (i : Int), (∀ v, i ≤ v → v < i + k → (P v ↔ Q v)) → sel P k i = sel Q k i
  | 0, _, _ => rfl
  | k + 1, i, h => by
    have r := sel_cg k (i + 1) (fun v h0 h1 => h v (by omega) (by omega))
    have hi := h i (by omega) (by omega)
    by_cases c : P i
    · rw [sel_y c, sel_y (hi.1 c), r]
    · rw [sel_n c, sel_n (fun d => c (hi.2 d)), r]
theorem sel_ap {P : Int → Prop} : ∀ (j k : Nat) (i : Int), sel P (j + k) i = sel P j i ++ sel P k (i + j)
  | 0, k, i => by rw [Nat.zero_add, show i + ((0 : Nat) : Int) = i by omega]; rfl
  | j + 1, k, i => by
    rw [show j + 1 + k = (j + k) + 1 by omega]
    have r := sel_ap (P := P) j k (i + 1)
    rw [show i + 1 + (j : Int) = i + ((j + 1 : Nat) : Int) by omega] at r
    by_cases c : P i
    · rw [sel_y c, sel_y c, r]; rfl
    · rw [sel_n c, sel_n c, r]
theorem sel_l {P : Int → Prop} : ∀ (k : Nat) (i : Int), (sel P k i).length ≤ k
  | 0, _ => Nat.le_refl _
  | k + 1, i => by
    have r := sel_l (P := P) k (i + 1)
    by_cases c : P i
    · rw [sel_y c, List.length_cons]; omega
    · rw [sel_n c]; omega
/-- from outside -/
def oF (F : Int → Int) (T : pT) : Nat → Int → Int → List Int
  | 0, _, _ => []
  | k + 1, i, fr => if fr ≤ i ∧ ¬ F i = -1 then i :: oF F T k (i + 1) (i + T i 6) else oF F T k (i + 1) fr
/-- from inside -/
def iE (F : Int → Int) (T : pT) : Nat → Int → Prop
  | 0, _ => False
  | k + 1, v => ¬ F v = -1 ∧ ∀ u, v < u → u < v + T v 6 → ¬ iE F T k u
def eP (F : Int → Int) (T : pT) (nd w v : Int) : Prop := (w = 0 ∧ v ∈ oF F T nd.toNat 0 0) ∨ (¬ w = 0 ∧ iE F T (nd.toNat + 1) v)
noncomputable def eL (F : Int → Int) (T : pT) (nd w : Int) : List Int := sel (eP F T nd w) nd.toNat 0
section WK
variable {F : Int → Int} {T : pT}
theorem oF_ge {v : Int} : ∀ (k : Nat) (i fr : Int), v ∈ oF F T k i fr → i ≤ v ∧ v < i + k ∧ ¬ F v = -1
  | 0, i, fr, h => by cases h
  | k + 1, i, fr, h => by
    unfold oF at h
    split at h
    · rename_i c
      rcases List.mem_cons.1 h with q | q
      · subst q; exact ⟨by omega, by omega, c.2⟩
      · have := oF_ge k _ _ q
        exact ⟨by omega, by omega, this.2.2⟩
    · have := oF_ge k _ _ h
      exact ⟨by omega, by omega, this.2.2⟩
theorem oF_sel : ∀ (k : Nat) (i fr : Int), sel (fun v => v ∈ oF F T k i fr) k i = oF F T k i fr
  | 0, _, _ => rfl
  | k + 1, i, fr => by
    by_cases c : fr ≤ i ∧ ¬ F i = -1
    · have e : oF F T (k + 1) i fr = i :: oF F T k (i + 1) (i + T i 6) := by rw [oF, if_pos c]
      rw [e, sel_y (by simp)]
      congr 1
      rw [← oF_sel k (i + 1) (i + T i 6)]
      refine sel_cg k (i + 1) (fun v h0 h1 => ?_)
      rw [oF_sel k (i + 1) (i + T i 6), List.mem_cons]
      constructor
      · rintro (q | q)
        · omega
        · exact q
      · exact Or.inr
    · have e : oF F T (k + 1) i fr = oF F T k (i + 1) fr := by rw [oF, if_neg c]
      rw [e, sel_n (fun q => by have := oF_ge k _ _ q; omega)]
      exact oF_sel k (i + 1) fr
/-- up to where it is free nothing is taken -/
theorem oF_sk : ∀ (d k : Nat) (i fr : Int), i + d = fr → oF F T (d + k) i fr = oF F T k fr fr
  | 0, k, i, fr, h => by rw [Nat.zero_add, show i = fr by omega]
  | d + 1, k, i, fr, h => by
    rw [show d + 1 + k = (d + k) + 1 by omega, oF, if_neg (by omega)]
    exact oF_sk d k (i + 1) fr (by omega)
theorem iE_f {nd : Int} (hz : ∀ i, 0 ≤ i → i < nd → i + T i 6 ≤ nd) : ∀ (k j : Nat) (v : Int), 0 ≤ v → v < nd → nd - v ≤ k → nd - v ≤ j → (iE F T k v ↔ iE F T j v) := by
  intro k
  induction k with
  | zero => intro j v h0 h1 h2 h3; omega
  | succ k ih =>
    intro j v h0 h1 h2 h3
    cases j with
    | zero => omega
    | succ j =>
      have z := hz v h0 h1
      unfold iE
      constructor
      · rintro ⟨a, b⟩
        exact ⟨a, fun u u0 u1 => fun c => b u u0 u1 ((ih j u (by omega) (by omega) (by omega) (by omega)).2 c)⟩
      · rintro ⟨a, b⟩
        exact ⟨a, fun u u0 u1 => fun c => b u u0 u1 ((ih j u (by omega) (by omega) (by omega) (by omega)).1 c)⟩
theorem iE_e {nd : Int} (hz : ∀ i, 0 ≤ i → i < nd → i + T i 6 ≤ nd) {v : Int} (h0 : 0 ≤ v) (h1 : v < nd) : iE F T (nd.toNat + 1) v ↔ (¬ F v = -1 ∧ ∀ u, v < u → u < v + T v 6 → ¬ iE F T (nd.toNat + 1) u) := by
  have z := hz v h0 h1
  constructor
  · rintro ⟨a, b⟩
    exact ⟨a, fun u u0 u1 c => b u u0 u1 ((iE_f hz (nd.toNat + 1) nd.toNat u (by omega) (by omega) (by omega) (by omega)).1 c)⟩
  · rintro ⟨a, b⟩
    exact ⟨a, fun u u0 u1 c => b u u0 u1 ((iE_f hz nd.toNat (nd.toNat + 1) u (by omega) (by omega) (by omega) (by omega)).1 c)⟩
theorem eP_F {nd w v : Int} (h : eP F T nd w v) : ¬ F v = -1 := by
  rcases h with q | q
  · exact (oF_ge _ _ _ q.2).2.2
  · exact q.2.1
theorem eL_m {nd w v : Int} (hn : 0 ≤ nd) : v ∈ eL F T nd w ↔ (eP F T nd w v ∧ 0 ≤ v ∧ v < nd) := by
  unfold eL
  rw [sel_m]
  constructor
  · intro q; exact ⟨q.1, by omega, by omega⟩
  · intro q; exact ⟨q.1, by omega, by omega⟩
theorem eL_o {nd : Int} : eL F T nd 0 = oF F T nd.toNat 0 0 := by
  unfold eL
  rw [← oF_sel nd.toNat 0 0]
  refine sel_cg _ _ (fun v _ _ => ?_)
  unfold eP
  constructor
  · rintro (q | q)
    · exact q.2
    · exact absurd rfl q.1
  · exact fun q => Or.inl ⟨rfl, q⟩
end WK
/-- a row of ints in the heap -/
def lAt (h : zH) (b : Nat) (L : List Int) : Prop := ∀ k : Nat, k < L.length → gI h b k = L.getD k 0
theorem getD_l {L : List Int} {x : Int} {k : Nat} (h : k < L.length) : (L ++ [x]).getD k 0 = L.getD k 0 := by
  rw [List.getD_eq_getElem?_getD, List.getD_eq_getElem?_getD, List.getElem?_append_left h]
theorem getD_e {L : List Int} {x : Int} : (L ++ [x]).getD L.length 0 = x := by
  rw [List.getD_eq_getElem?_getD, List.getElem?_append_right (Nat.le_refl _)]
  simp
theorem getD_m {L : List Int} {k : Nat} (h : k < L.length) : L.getD k 0 ∈ L := by
  rw [List.getD_eq_getElem?_getD, List.getElem?_eq_getElem h]
  exact List.getElem_mem h
theorem lAt_s {h : zH} {b : Nat} {L : List Int} {x : Int} (l : lAt h b L) : lAt (sI h b L.length x) b (L ++ [x]) := by
  intro k hk
  rw [List.length_append] at hk
  have hk : k < L.length + 1 := hk
  by_cases c : k = L.length
  · subst c; rw [gS1, getD_e]
  · rw [gS, if_neg (by omega), getD_l (by omega)]; exact l k (by omega)
theorem lAt.cg {h h1 : zH} {b : Nat} {L : List Int} (l : lAt h b L) (e : ∀ k, 0 ≤ k → k < L.length → gI h1 b k = gI h b k) : lAt h1 b L := fun k hk => by rw [e k (by omega) (by omega)]; exact l k hk
/-! The class. -/
def wkA (b : Nat) (_ : Int) : Prop := (56 ≤ b ∧ b ≤ 62) ∨ (77 ≤ b ∧ b ≤ 81)
/-- the least rule that fits -/
noncomputable def lsR (t : Int → Int) (T : pT) (rn : Int → Int) (rt : Int → Int → Int) (rs : Int → pS) (v : Int) : Int := fst (fun x => fit t T rn rt rs x v) 8 0
noncomputable def ftB (t : Int → Int) (T : pT) (rn : Int → Int) (rt : Int → Int → Int) (rs : Int → pS) (v : Int) : Int := bts (fun x => fit t T rn rt rs x v) 8 0 0
section XW
variable {h : zH} {t : Int → Int} {n nd nc : Int} {T C : pT} {rn : Int → Int} {rt : Int → Int → Int} {rs : Int → pS} {a : Nat}
theorem lsR_rg {v : Int} : -1 ≤ lsR t T rn rt rs v ∧ lsR t T rn rt rs v < 8 := by
  unfold lsR
  rcases fst_rg (P := fun x => fit t T rn rt rs x v) 8 0 with q | q <;> omega
theorem lsR_0 {v : Int} : ftB t T rn rt rs v = 0 ↔ lsR t T rn rt rs v = -1 := bts_0
theorem s119 (g : sF t n nd nc T C) (y : xN h a t n nd nc T C) (ha : a + 16 ≤ 53) (hb : ∀ v, 0 ≤ v → v < nd → gI h 80 v = ftB t T rn rt rs v ∧ gI h 79 v = -1) {K : zH → Prop}
    (k : ∀ h1, frP (fun b _ => b = 79) h h1 → (∀ v, 0 ≤ v → v < nd → gI h1 79 v = if v ∈ oF (lsR t T rn rt rs) T nd.toNat 0 0 then lsR t T rn rt rs v else -1) → K h1) : zC0 119 [vR 77 107, vR a 102] h K := by
  have hnd := g.hd
  have key : ∀ (f : Nat) (i fr : Int) (h1 : zH), nd - i = f → 0 ≤ i → 0 ≤ fr → fr ≤ nd → frP (fun b _ => b = 79) h h1 → (∀ v, i ≤ v → v < nd → gI h1 79 v = -1) →
      (∀ h2, frP (fun b _ => b = 79) h h2 → (∀ v, 0 ≤ v → v < nd → gI h2 79 v = if v < i then gI h1 79 v else if v ∈ oF (lsR t T rn rt rs) T f i fr then lsR t T rn rt rs v else -1) → K h2) → zK 119 4 [vR 77 107, vR a 102, vI fr, vI i] [] h1 (fun r h1 => r = none ∧ K h1) := by
    intro f
    induction f with
    | zero =>
      intro i fr h1 hi i0 r0 r1 f1 b1 kk
      have y1 := y.fr f1 (fun b k _ _ => by omega)
      refine k119_4 a fr i h1 _ ⟨fun _ => zq0 (kk h1 f1 (fun v v0 v1 => by rw [if_pos (by omega)])), fun c => absurd (by rw [y1.2.1]; omega) c⟩
    | succ f ih =>
      intro i fr h1 hi i0 r0 r1 f1 b1 kk
      have y1 := y.fr f1 (fun b k _ _ => by omega)
      have sz := g.sz i0 (show i < nd by omega)
      have e80 : gI h1 80 i = ftB t T rn rt rs i := by rw [f1.1 _ _ (by omega)]; exact (hb i i0 (by omega)).1
      have sk : ¬ (fr ≤ i ∧ ¬ lsR t T rn rt rs i = -1) → zK 119 4 [vR 77 107, vR a 102, vI fr, vI (i + 1)] [] h1 (fun r h1 => r = none ∧ K h1) := by
        intro c
        refine ih (i + 1) fr h1 (by omega) (by omega) r0 r1 f1 (fun v v0 v1 => b1 v (by omega) v1) (fun h2 f2 b2 => kk h2 f2 (fun v v0 v1 => ?_))
        have eo : oF (lsR t T rn rt rs) T (f + 1) i fr = oF (lsR t T rn rt rs) T f (i + 1) fr := by rw [oF, if_neg c]
        rw [b2 v v0 v1, eo]
        by_cases d : v < i
        · rw [if_pos (by omega), if_pos d]
        · by_cases e : v = i
          · subst e
            rw [if_pos (by omega), if_neg d, b1 v (by omega) v1, if_neg (fun q => by have := oF_ge f _ _ q; omega)]
          · rw [if_neg (by omega), if_neg d]
      refine k119_4 a fr i h1 _ ⟨fun c => absurd c (by rw [y1.2.1]; omega), fun _ => ⟨fun c => ⟨by unfold inR; omega, sk (by omega)⟩, fun c => ⟨i0, by omega, fun d => ⟨by unfold inR; omega, sk ?_⟩, fun d => ⟨i0, by omega, ?_⟩⟩⟩⟩
      · rw [e80, lsR_0] at d; exact fun q => q.2 d
      · rw [e80] at d ⊢
        refine s257b d ⟨i0, by omega, fun h4 e4 => ⟨i0, by omega, ?_⟩⟩
        have l : ¬ lsR t T rn rt rs i = -1 := fun q => d (lsR_0.2 q)
        have f4 : frP (fun b _ => b = 79) h h4 := by rw [e4]; exact f1.st rfl
        have y4 := y.fr f4 (fun b k _ _ => by omega)
        rw [(y4.2.2.2.1 i i0 (by omega)).2.2.2.2.2.2.1]
        refine ⟨by unfold inR; omega, by unfold inR; omega, ih (i + 1) (i + T i 6) h4 (by omega) (by omega) (by omega) (by omega) f4 (fun v v0 v1 => ?_) (fun h2 f2 b2 => kk h2 f2 (fun v v0 v1 => ?_))⟩
        · rw [e4, gS, if_neg (by omega)]; exact b1 v (by omega) v1
        · have eo : oF (lsR t T rn rt rs) T (f + 1) i fr = i :: oF (lsR t T rn rt rs) T f (i + 1) (i + T i 6) := by rw [oF, if_pos ⟨by omega, l⟩]
          rw [b2 v v0 v1, eo]
          by_cases d : v < i
          · rw [if_pos (by omega), if_pos d, e4, gS, if_neg (by omega)]
          · by_cases e : v = i
            · subst e
              rw [if_pos (by omega), if_neg d, if_pos (by simp), e4, gS1]; rfl
            · rw [if_neg (by omega), if_neg d]
              by_cases m : v ∈ oF (lsR t T rn rt rs) T f (i + 1) (i + T i 6)
              · rw [if_pos m, if_pos (List.mem_cons_of_mem _ m)]
              · rw [if_neg m, if_neg (fun q => by rcases List.mem_cons.1 q with q | q; exact e q; exact m q)]
  refine cV (k119_0 a h _ (key nd.toNat 0 0 h (by omega) (by omega) (by omega) (by omega) frP.rf (fun v v0 v1 => (hb v v0 v1).2) (fun h2 f2 b2 => k h2 f2 (fun v v0 v1 => ?_))))
  rw [b2 v v0 v1, if_neg (by omega)]
/-- a part of the node at l, or in one, is an edit -/
def hIn (F : Int → Int) (T : pT) (nd c : Int) : Prop := ∃ u, c ≤ u ∧ u < c + T c 6 ∧ iE F T (nd.toNat + 1) u
def hUp (F : Int → Int) (T : pT) (nd l i : Int) : Prop := ∃ c, l < c ∧ c < nd ∧ (c = i ∨ T c 1 = i) ∧ hIn F T nd c
theorem hUp_l (g : sF t n nd nc T C) {F : Int → Int} {l : Int} (h0 : 0 ≤ l) (h1 : l < nd) : hUp F T nd l l ↔ ∃ u, l < u ∧ u < l + T l 6 ∧ iE F T (nd.toNat + 1) u := by
  have mn := g.mn h0 h1
  constructor
  · rintro ⟨c, c0, c1, c2, u, u0, u1, hu⟩
    have c2 : T c 1 = l := by rcases c2 with q | q; omega; exact q
    have ch := g.pw.1.1 c (by omega) c1
    have q := ch.2 (by omega)
    rw [c2] at q
    have e := g.ad h0 h1 (T c 2).toNat c c0 c1 c2 (by omega)
    have p := g.pt h0 h1 (k := (T c 2).toNat) (by omega)
    rw [e] at p
    exact ⟨u, by omega, by omega, hu⟩
  · rintro ⟨u, u0, u1, hu⟩
    obtain ⟨m, m0, m1, m2⟩ := g.wi (T l 3).toNat (g.vr h0 h1) (show l + 1 ≤ u by omega) u1
    have p := g.pt h0 h1 (k := m) (by omega)
    exact ⟨_, p.1, p.2.1, Or.inr p.2.2.1, u, m1, m2, hu⟩
theorem hUp_s {F : Int → Int} {l i : Int} (h1 : l < nd) : hUp F T nd (l - 1) i ↔ (hUp F T nd l i ∨ ((l = i ∨ T l 1 = i) ∧ hIn F T nd l)) := by
  constructor
  · rintro ⟨c, c0, c1, c2, c3⟩
    by_cases d : c = l
    · subst d; exact Or.inr ⟨c2, c3⟩
    · exact Or.inl ⟨c, by omega, c1, c2, c3⟩
  · rintro (⟨c, c0, c1, c2, c3⟩ | ⟨c2, c3⟩)
    · exact ⟨c, by omega, c1, c2, c3⟩
    · exact ⟨l, by omega, h1, c2, c3⟩
theorem hIn_e (g : sF t n nd nc T C) {F : Int → Int} {l : Int} (h0 : 0 ≤ l) (h1 : l < nd) : hIn F T nd l ↔ (hUp F T nd l l ∨ ¬ F l = -1) := by
  have hz : ∀ i, 0 ≤ i → i < nd → i + T i 6 ≤ nd := fun i i0 i1 => (g.sz i0 i1).2
  have sz := g.sz h0 h1
  rw [hUp_l g h0 h1]
  constructor
  · rintro ⟨u, u0, u1, hu⟩
    by_cases d : u = l
    · subst d; exact Or.inr ((iE_e hz h0 h1).1 hu).1
    · exact Or.inl ⟨u, by omega, u1, hu⟩
  · rintro (⟨u, u0, u1, hu⟩ | q)
    · exact ⟨u, by omega, u1, hu⟩
    · by_cases d : ∃ u, l < u ∧ u < l + T l 6 ∧ iE F T (nd.toNat + 1) u
      · obtain ⟨u, u0, u1, hu⟩ := d
        exact ⟨u, by omega, u1, hu⟩
      · exact ⟨l, by omega, by omega, (iE_e hz h0 h1).2 ⟨q, fun u u0 u1 c => d ⟨u, u0, u1, c⟩⟩⟩
theorem s120 (g : sF t n nd nc T C) (y : xN h a t n nd nc T C) (ha : a + 16 ≤ 53) (hb : ∀ v, 0 ≤ v → v < nd → gI h 80 v = ftB t T rn rt rs v ∧ gI h 79 v = -1 ∧ gI h 81 v = 0) {K : zH → Prop}
    (k : ∀ h1, frP (fun b _ => b = 79 ∨ b = 81) h h1 → (∀ v, 0 ≤ v → v < nd → gI h1 79 v = if b2i (iE (lsR t T rn rt rs) T (nd.toNat + 1) v) = 1 then lsR t T rn rt rs v else -1) → K h1) : zC0 120 [vR 77 107, vR a 102] h K := by
  have hnd := g.hd
  have hz : ∀ i, 0 ≤ i → i < nd → i + T i 6 ≤ nd := fun i i0 i1 => (g.sz i0 i1).2
  have key : ∀ (f : Nat) (l : Int) (h1 : zH), l + 1 = f → l < nd → frP (fun b _ => b = 79 ∨ b = 81) h h1 → (∀ v, 0 ≤ v → v ≤ l → gI h1 79 v = -1) → (∀ v, l < v → v < nd → gI h1 79 v = if b2i (iE (lsR t T rn rt rs) T (nd.toNat + 1) v) = 1 then lsR t T rn rt rs v else -1) →
      (∀ v, 0 ≤ v → v < nd → gI h1 81 v = b2i (hUp (lsR t T rn rt rs) T nd l v)) → zK 120 7 [vR 77 107, vR a 102, vI l] [] h1 (fun r h1 => r = none ∧ K h1) := by
    intro f
    induction f with
    | zero =>
      intro l h1 hl l1 f1 b1 b2 b3
      exact k120_7 a l h1 _ ⟨fun _ => zq0 (k h1 f1 (fun v v0 v1 => b2 v (by omega) v1)), fun c => absurd (by omega) c⟩
    | succ f ih =>
      intro l h1 hl l1 f1 b1 b2 b3
      have l0 : 0 ≤ l := by omega
      have e80 : gI h1 80 l = ftB t T rn rt rs l := by rw [f1.1 _ _ (by omega)]; exact (hb l l0 l1).1
      have e81 := b3 l l0 l1
      have up := g.up l0 l1
      -- behind the node itself
      have nx2 : ∀ h2 : zH, frP (fun b _ => b = 79 ∨ b = 81) h h2 → (∀ v, 0 ≤ v → v < l → gI h2 79 v = -1) → (∀ v, l ≤ v → v < nd → gI h2 79 v = if b2i (iE (lsR t T rn rt rs) T (nd.toNat + 1) v) = 1 then lsR t T rn rt rs v else -1) →
          (∀ v, 0 ≤ v → v < nd → gI h2 81 v = b2i (hUp (lsR t T rn rt rs) T nd l v ∨ (v = l ∧ hIn (lsR t T rn rt rs) T nd l))) → zK 120 51 [vR 77 107, vR a 102, vI l] [] h2 (fun r h1 => r = none ∧ K h1) := by
        intro h2 f2 c1 c2 c3
        have y2 := y.fr f2 (fun b k _ _ => by omega)
        have e4 := (y2.2.2.2.1 l l0 l1).2.1
        have e2 := c3 l l0 l1
        have hh : (hUp (lsR t T rn rt rs) T nd l l ∨ (l = l ∧ hIn (lsR t T rn rt rs) T nd l)) ↔ hIn (lsR t T rn rt rs) T nd l := by
          rw [hIn_e g l0 l1]
          constructor
          · rintro (q | q)
            · exact Or.inl q
            · exact q.2
          · exact fun q => Or.inr ⟨rfl, q⟩
        rw [b2i_congr hh] at e2
        have go : ∀ h3 : zH, frP (fun b _ => b = 79 ∨ b = 81) h h3 → (∀ v, gI h3 79 v = gI h2 79 v) → (∀ v, 0 ≤ v → v < nd → gI h3 81 v = b2i (hUp (lsR t T rn rt rs) T nd (l - 1) v)) → zK 120 7 [vR 77 107, vR a 102, vI (l + (-1))] [] h3 (fun r h1 => r = none ∧ K h1) := by
          intro h3 f3 d1 d2
          rw [show l + (-1) = l - 1 by omega]
          exact ih (l - 1) h3 (by omega) (by omega) f3 (fun v v0 v1 => by rw [d1]; exact c1 v v0 (by omega)) (fun v v0 v1 => by rw [d1]; exact c2 v (by omega) v1) d2
        refine k120_51 a l h2 _ ⟨l0, by omega, fun d => ⟨by unfold inR; omega, go h2 f2 (fun _ => rfl) (fun v v0 v1 => ?_)⟩, fun d => ⟨l0, by omega, ?_⟩⟩
        · rw [e2, b2i_eq0] at d
          rw [c3 v v0 v1]
          refine b2i_congr ?_
          rw [hUp_s l1]
          constructor
          · rintro (q | q)
            · exact Or.inl q
            · exact absurd q.2 d
          · rintro (q | q)
            · exact Or.inl q
            · exact absurd q.2 d
        · rw [e2, b2i_ne0] at d
          rw [e4]
          refine ⟨fun d1 => ⟨by unfold inR; omega, go h2 f2 (fun _ => rfl) (fun v v0 v1 => ?_)⟩, fun d1 => ⟨l0, by omega, by omega, by omega, Or.inr rfl, fun h8 e8 => ⟨by unfold inR; omega, go h8 ?_ (fun v => ?_) (fun v v0 v1 => ?_)⟩⟩⟩
          · rw [c3 v v0 v1]
            refine b2i_congr ?_
            rw [hUp_s l1]
            constructor
            · rintro (q | q)
              · exact Or.inl q
              · exact Or.inr ⟨Or.inl q.1.symm, q.2⟩
            · rintro (q | ⟨q | q, q2⟩)
              · exact Or.inl q
              · exact Or.inr ⟨q.symm, q2⟩
              · omega
          · rw [e8]; exact f2.st (Or.inr rfl)
          · rw [e8, gS, if_neg (by omega)]
          · rw [e8, gS]
            by_cases e : v = T l 1
            · rw [if_pos ⟨rfl, e⟩, b2i_pos ((hUp_s l1).2 (Or.inr ⟨Or.inr e.symm, d⟩))]
            · rw [if_neg (fun q => e q.2), c3 v v0 v1]
              refine b2i_congr ?_
              rw [hUp_s l1]
              constructor
              · rintro (q | q)
                · exact Or.inl q
                · exact Or.inr ⟨Or.inl q.1.symm, q.2⟩
              · rintro (q | ⟨q | q, q2⟩)
                · exact Or.inl q
                · exact Or.inr ⟨q.symm, q2⟩
                · exact absurd q.symm e
      have noE : gI h1 81 l = 0 → ftB t T rn rt rs l = 0 → zK 120 51 [vR 77 107, vR a 102, vI l] [] h1 (fun r h1 => r = none ∧ K h1) := by
        intro c d
        rw [e81, b2i_eq0] at c
        rw [lsR_0] at d
        refine nx2 h1 f1 (fun v v0 v1 => b1 v v0 (by omega)) (fun v v0 v1 => ?_) (fun v v0 v1 => ?_)
        · by_cases e : v = l
          · subst e
            rw [b2i_neg (fun q => ((iE_e hz l0 l1).1 q).1 d), if_neg (by omega)]; exact b1 v l0 (by omega)
          · exact b2 v (by omega) v1
        · rw [b3 v v0 v1]
          refine b2i_congr ⟨Or.inl, ?_⟩
          rintro (q | q)
          · exact q
          · rcases (hIn_e g l0 l1).1 q.2 with w | w
            · exact absurd w c
            · exact absurd d w
      refine k120_7 a l h1 _ ⟨fun c => absurd c (by omega), fun _ => ⟨l0, by omega, fun c => ?_, fun c => ⟨l0, by omega, fun d => ?_, fun d => ⟨l0, by omega, ?_⟩⟩⟩⟩
      · rw [e81, b2i_ne0] at c
        refine nx2 h1 f1 (fun v v0 v1 => b1 v v0 (by omega)) (fun v v0 v1 => ?_) (fun v v0 v1 => ?_)
        · by_cases e : v = l
          · subst e
            rw [b2i_neg (fun q => ?_), if_neg (by omega)]
            · exact b1 v l0 (by omega)
            · obtain ⟨u, u0, u1, hu⟩ := (hUp_l g l0 l1).1 c
              exact ((iE_e hz l0 l1).1 q).2 u u0 u1 hu
          · exact b2 v (by omega) v1
        · rw [b3 v v0 v1]
          refine b2i_congr ⟨Or.inl, ?_⟩
          rintro (q | q)
          · exact q
          · rw [q.1]; exact c
      · exact noE (Classical.not_not.1 c) (by rw [← e80]; exact d)
      · have c := Classical.not_not.1 c
        rw [e80] at d ⊢
        rw [e81, b2i_eq0] at c
        refine s257b d ⟨l0, by omega, fun h6 e6 => ⟨l0, by omega, Or.inr rfl, fun h7 e7 => ?_⟩⟩
        have lf : ¬ lsR t T rn rt rs l = -1 := fun q => d (lsR_0.2 q)
        have il : iE (lsR t T rn rt rs) T (nd.toNat + 1) l := (iE_e hz l0 l1).2 ⟨lf, fun u u0 u1 q => c ((hUp_l g l0 l1).2 ⟨u, u0, u1, q⟩)⟩
        refine nx2 h7 ?_ (fun v v0 v1 => ?_) (fun v v0 v1 => ?_) (fun v v0 v1 => ?_)
        · rw [e7, e6]; exact (f1.st (Or.inl rfl)).st (Or.inr rfl)
        · rw [e7, gS, if_neg (by omega), e6, gS, if_neg (by omega)]; exact b1 v v0 (by omega)
        · rw [e7, gS, if_neg (by omega), e6, gS]
          by_cases e : v = l
          · subst e; rw [if_pos ⟨rfl, rfl⟩, b2i_pos il, if_pos rfl]; rfl
          · rw [if_neg (by omega)]; exact b2 v (by omega) v1
        · rw [e7, gS]
          by_cases e : v = l
          · rw [if_pos ⟨rfl, e⟩, b2i_pos (Or.inr ⟨e, (hIn_e g l0 l1).2 (Or.inr lf)⟩)]
          · rw [if_neg (fun q => e q.2), e6, gS, if_neg (by omega), b3 v v0 v1]
            refine b2i_congr ⟨Or.inl, ?_⟩
            rintro (q | q)
            · exact q
            · exact absurd q.1 e
  refine cV (k120_0 a h _ ?_)
  rw [y.2.1]
  refine ⟨by unfold inR; omega, key nd.toNat (nd - 1) h (by omega) (by omega) frP.rf (fun v v0 v1 => (hb v v0 (by omega)).2.1) (fun v v0 v1 => by omega) (fun v v0 v1 => ?_)⟩
  rw [(hb v v0 v1).2.2, b2i_neg]
  rintro ⟨c, c0, c1, _⟩
  omega
end XW
