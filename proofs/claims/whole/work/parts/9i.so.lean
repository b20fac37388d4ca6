/-! Which tests are asked at a node: the pure answer, and that paths are good where they are asked. -/
def soF (H : tsl → Prop) (G : List tnd) : Nat → Int → Prop
  | 0, _ => False
  | f + 1, j => ∃ n : tnd, 0 ≤ j ∧ G[j.toNat]? = some n ∧ (n.1 = -1 ∨ soF H G f n.1) ∧ H n.2
def soJ (H : tsl → Prop) (G : List tnd) (j : Int) : Prop := soF H G G.length j
def askJ (H : tsl → Prop) (G : List tnd) (j : Int) : Prop := ∃ n : tnd, 0 ≤ j ∧ G[j.toNat]? = some n ∧ (n.1 = -1 ∨ soJ H G n.1)
def upC (S : Int → Prop) (G : List tnd) : Prop := ∀ (j : Nat) (n : tnd), G[j]? = some n → S j → n.1 = -1 ∨ S n.1
/-- what lies ahead of a test in its row lies above it -/
def abI (E : tsl → tsl → Prop) (Rw : Int → List tst) (G : List tnd) (c x : Int) (j : Nat) : Prop := ∀ S : Int → Prop, upC S G → (c = -1 ∨ S c) → ∀ (i : Nat) (z : tst), i < j → (Rw x)[i]? = some z → ∃ (b : Nat) (n : tnd), G[b]? = some n ∧ S b ∧ E n.2 (x, z)
def tGp (E : tsl → tsl → Prop) (Rw : Int → List tst) (G : List tnd) : Prop := ∀ (j : Nat) (n : tnd), G[j]? = some n → ∃ k : Nat, (Rw n.2.1)[k]? = some n.2.2 ∧ abI E Rw G n.1 n.2.1 k
section SO
variable {H : tsl → Prop} {E : tsl → tsl → Prop} {Rw : Int → List tst} {G : List tnd} {c x : Int} {rn : Int → Int}
theorem soF_f (g : tGk E G) : ∀ (f k : Nat) (j : Int), j < f → j < k → (soF H G f j ↔ soF H G k j) := by
  intro f
  induction f with
  | zero =>
    intro k j h1 h2
    constructor
    · intro q; exact q.elim
    · intro q
      cases k with
      | zero => exact q
      | succ k => obtain ⟨n, j0, _⟩ := q; omega
  | succ f ih =>
    intro k j h1 h2
    cases k with
    | zero =>
      constructor
      · intro q; obtain ⟨n, j0, _⟩ := q; omega
      · intro q; exact q.elim
    | succ k =>
      constructor
      · rintro ⟨n, j0, e, q, hh⟩
        refine ⟨n, j0, e, ?_, hh⟩
        rcases q with q | q
        · exact Or.inl q
        · rcases g.2 _ n e with z | z
          · exact Or.inl z
          · exact Or.inr ((ih k n.1 (by omega) (by omega)).1 q)
      · rintro ⟨n, j0, e, q, hh⟩
        refine ⟨n, j0, e, ?_, hh⟩
        rcases q with q | q
        · exact Or.inl q
        · rcases g.2 _ n e with z | z
          · exact Or.inl z
          · exact Or.inr ((ih k n.1 (by omega) (by omega)).2 q)
theorem so_e (g : tGk E G) {j : Nat} {n : tnd} (e : G[j]? = some n) : soJ H G j ↔ ((n.1 = -1 ∨ soJ H G n.1) ∧ H n.2) := by
  have lt := lt_q e
  have q := soF_f (H := H) g G.length (G.length + 1) j (by omega) (by omega)
  unfold soJ
  rw [q]
  constructor
  · rintro ⟨n2, j0, e2, z, hh⟩
    rw [Int.toNat_natCast, e] at e2
    injection e2 with e2
    subst e2
    exact ⟨z, hh⟩
  · rintro ⟨z, hh⟩
    exact ⟨n, by omega, by rw [Int.toNat_natCast]; exact e, z, hh⟩
theorem ask_e {j : Nat} {n : tnd} (e : G[j]? = some n) : askJ H G j ↔ (n.1 = -1 ∨ soJ H G n.1) := by
  constructor
  · rintro ⟨n2, j0, e2, z⟩
    rw [Int.toNat_natCast, e] at e2
    injection e2 with e2
    subst e2
    exact z
  · intro z
    exact ⟨n, by omega, by rw [Int.toNat_natCast]; exact e, z⟩
theorem so_up (g : tGk E G) : upC (soJ H G) G := fun j n e z => ((so_e g e).1 z).1
theorem abI_0 : abI E Rw G c x 0 := fun S _ _ i z hi => by omega
theorem abI_1 {y : tst} {j : Nat} (rf : E (x, y) (x, y)) (g : tGp E Rw G) (hc : c = -1 ∨ (0 ≤ c ∧ c < G.length)) (q : abI E Rw G c x j) (hy : (Rw x)[j]? = some y) : tGp E Rw (tst1 E G c (x, y)).1 ∧ abI E Rw (tst1 E G c (x, y)).1 (tst1 E G c (x, y)).2 x (j + 1) := by
  unfold tst1
  by_cases d : fC E G c (x, y) = -1
  · rw [if_pos d]
    have lf : ∀ S : Int → Prop, upC S (G ++ [(c, x, y)]) → upC S G := fun S u i n e z => u i n (snoc_q.2 (Or.inl e)) z
    have lift : ∀ (c2 x2 : Int) (k : Nat), abI E Rw G c2 x2 k → abI E Rw (G ++ [(c, x, y)]) c2 x2 k := fun c2 x2 k q S u hS i z hi e => by
      obtain ⟨b, n, e1, e2, e3⟩ := q S (lf S u) hS i z hi e
      exact ⟨b, n, snoc_q.2 (Or.inl e1), e2, e3⟩
    have en : (G ++ [(c, x, y)])[G.length]? = some (c, x, y) := snoc_q.2 (Or.inr ⟨rfl, rfl⟩)
    refine ⟨fun i n e => ?_, fun S u hS i z hi e => ?_⟩
    · rcases snoc_q.1 e with r | ⟨r1, r2⟩
      · obtain ⟨k, e1, e2⟩ := g i n r
        exact ⟨k, e1, lift _ _ _ e2⟩
      · subst r2
        exact ⟨j, hy, lift _ _ _ q⟩
    · have hS : S G.length := by
        rcases hS with r | r
        · have r : (G.length : Int) = -1 := r; omega
        · exact r
      by_cases k : i = j
      · subst k
        rw [hy] at e
        injection e with e
        subst e
        exact ⟨G.length, _, en, hS, rf⟩
      · exact lift c x j q S u (u G.length _ en hS) i z (by omega) e
  · rw [if_neg d]
    rcases fC_rg (E := E) (G := G) (c := c) (a := (x, y)) with r | r
    · exact absurd r d
    · have lt := mtc_lt r
      obtain ⟨n, r0, r1, r2, r3⟩ := r
      refine ⟨g, fun S u hS i z hi e => ?_⟩
      have hS : S (fC E G c (x, y)) := by
        rcases hS with k | k
        · exact absurd k d
        · exact k
      have ec : (((fC E G c (x, y)).toNat : Nat) : Int) = fC E G c (x, y) := by omega
      by_cases k : i = j
      · subst k
        rw [hy] at e
        injection e with e
        subst e
        exact ⟨_, n, r1, by rw [ec]; exact hS, r3⟩
      · have := u _ n r1 (by rw [ec]; exact hS)
        rw [r2] at this
        exact q S u this i z (by omega) e
theorem trw_p (rf : ∀ a, E a a) : ∀ (f j : Nat) (G : List tnd) (c : Int), j + f = (Rw x).length → tGk E G → tGp E Rw G → (c = -1 ∨ (0 ≤ c ∧ c < G.length)) → abI E Rw G c x j → tGp E Rw (trw E x G c ((Rw x).drop j)).1 ∧ tGk E (trw E x G c ((Rw x).drop j)).1 := by
  intro f
  induction f with
  | zero =>
    intro j G c hj k g hc q
    rw [List.drop_eq_nil_of_le (by omega), trw]
    exact ⟨g, k⟩
  | succ f ih =>
    intro j G c hj k g hc q
    have hl : j < (Rw x).length := by omega
    have ey : (Rw x)[j]? = some ((Rw x)[j]'hl) := List.getElem?_eq_getElem hl
    rw [List.drop_eq_getElem_cons hl, trw]
    have g1 := tst1_g (a := (x, (Rw x)[j]'hl)) k hc
    have q1 := abI_1 (rf _) g hc q ey
    exact ih (j + 1) _ _ (by omega) g1.1 q1.1 g1.2.1 q1.2
theorem trS_p (rf : ∀ a, E a a) : ∀ (f : Nat) (x : Int) (G : List tnd), tGk E G → tGp E Rw G → tGp E Rw (trS E rn Rw f x G) := by
  intro f
  induction f with
  | zero => intro x G _ g; exact g
  | succ f ih =>
    intro x G k g
    rw [trS]
    by_cases d : rn x = 0
    · rw [if_pos d]; exact ih _ _ k g
    · rw [if_neg d]
      have q := trw_p (x := x) rf (Rw x).length 0 G (-1) (Nat.zero_add _) k g (Or.inl rfl) abI_0
      exact ih _ _ q.2 q.1
end SO
theorem tEq_r {rn : Int → Int} {rt : Int → Int → Int} {rs : Int → pS} (a : tsl) : tEq rn rt rs a a :=
  ⟨rfl, rfl, fun _ => rfl, fun _ => rfl, fun _ => rfl, fun _ => ⟨rfl, fun k _ _ => ⟨rfl, rfl, rfl, rfl, rfl, fun _ _ _ => rfl⟩⟩, fun _ => ⟨rfl, fun _ _ _ => rfl⟩⟩
theorem gTs_p {rn : Int → Int} {rt : Int → Int → Int} {rs : Int → pS} : tGp (tEq rn rt rs) (fun x => tRw (sP rn rt rs x)) (gTs rn rt rs) := trS_p tEq_r 8 0 [] ⟨fun i j n n2 _ e => (by cases e), fun j n e => (by cases e)⟩ (fun j n e => (by cases e))
/-- of a row: what each test needs lies ahead -/
theorem rwG.at {s : pS} : ∀ {L A : List tst} {k : Nat} {y : tst}, rwG s A L → L[k]? = some y → tGd s (A ++ L.take k) y
  | [], _, k, y, _, e => by cases e
  | x :: L, A, 0, y, g, e => by
    have e : some x = some y := e
    injection e with e
    subst e
    show tGd s (A ++ []) x
    rw [List.append_nil]; exact g.1
  | x :: L, A, k + 1, y, g, e => by
    have e : L[k]? = some y := e
    have := rwG.at g.2 e
    rwa [List.append_assoc] at this
theorem mem_tk {α : Type} : ∀ {L : List α} {k : Nat} {y : α}, y ∈ L.take k → ∃ i : Nat, i < k ∧ L[i]? = some y
  | [], k, y, h => by
    cases k with
    | zero => cases h
    | succ k => cases h
  | x :: L, 0, y, h => by cases h
  | x :: L, k + 1, y, h => by
    have h : y ∈ x :: L.take k := h
    rcases List.mem_cons.1 h with q | q
    · exact ⟨0, by omega, by rw [q]; rfl⟩
    · obtain ⟨i, i1, i2⟩ := mem_tk q
      exact ⟨i + 1, by omega, i2⟩
/-- a path whose terms have as many parts as they ought to -/
theorem vdI {w : Int → Int} {m v : Int} {T : pT} {s : pS} (en : rEn w m 0 0 s) : ∀ (f : Nat) (i : Int), i < f → 0 ≤ i → i < s 0 0 1 → (∀ p, 0 ≤ p → p < i → i < p + s 1 p 9 → s 1 p 0 = 4 ∧ T (ndP T v (pth s p)) 3 = s 1 p 6) → vdP T v (pth s i) := by
  intro f
  induction f with
  | zero => intro i hf i0; omega
  | succ f ih =>
    intro i hf i0 i1 H
    by_cases c : i = 0
    · rw [c, pth_0 en]; intro j hj; exact absurd hj (by show ¬ j < 0; omega)
    · have par := en.par (j := i) (by omega) i1
      have ns := en.ns (y := i) (by omega) i1
      have sp := en.sp i0 i1
      have hp := H (s 1 i 3) par.1 par.2.1 (by omega)
      have pi := en.pi par.1 ⟨par.2.1, i1, rfl⟩ hp.1
      rw [pth_s en (by omega) i1]
      refine vdP_s (ih (s 1 i 3) (by omega) par.1 (by omega) (fun p p0 p1 p2 => H p p0 (by omega) ?_)) pi.1 (by rw [hp.2]; exact pi.2)
      have := en.within (e := s 1 i 3) (p := p) p0 p1 p2
      omega
