/-! The tests of all rules, hung together: what each lies under, its rule, the test. -/
abbrev tsl : Type := Int × tst
abbrev tnd : Type := Int × tsl
def mtc (E : tsl → tsl → Prop) (G : List tnd) (c : Int) (a : tsl) (j : Int) : Prop := ∃ n : tnd, 0 ≤ j ∧ G[j.toNat]? = some n ∧ n.1 = c ∧ E n.2 a
noncomputable def fC (E : tsl → tsl → Prop) (G : List tnd) (c : Int) (a : tsl) : Int := fst (fun j => mtc E G c a j) G.length 0
noncomputable def tst1 (E : tsl → tsl → Prop) (G : List tnd) (c : Int) (a : tsl) : List tnd × Int := if fC E G c a = -1 then (G ++ [(c, a)], (G.length : Int)) else (G, fC E G c a)
noncomputable def trw (E : tsl → tsl → Prop) (x : Int) : List tnd → Int → List tst → List tnd × Int
  | G, c, [] => (G, c)
  | G, c, y :: L => trw E x (tst1 E G c (x, y)).1 (tst1 E G c (x, y)).2 L
noncomputable def trS (E : tsl → tsl → Prop) (rn : Int → Int) (Rw : Int → List tst) : Nat → Int → List tnd → List tnd
  | 0, _, G => G
  | f + 1, x, G => if rn x = 0 then trS E rn Rw f (x + 1) G else trS E rn Rw f (x + 1) (trw E x G (-1) (Rw x)).1
/-- what holds of tests that hang -/
def tGk (E : tsl → tsl → Prop) (G : List tnd) : Prop := (∀ (i j : Nat) (n n2 : tnd), i < j → G[i]? = some n → G[j]? = some n2 → n.1 = n2.1 → ¬ E n.2 n2.2) ∧ ∀ (j : Nat) (n : tnd), G[j]? = some n → n.1 = -1 ∨ (0 ≤ n.1 ∧ n.1 < j)
/-- the tests that hang are tests of rules -/
def tGr (rn : Int → Int) (Rw : Int → List tst) (G : List tnd) : Prop := ∀ (j : Nat) (n : tnd), G[j]? = some n → (0 ≤ n.2.1 ∧ n.2.1 < 8) ∧ ¬ rn n.2.1 = 0 ∧ n.2.2 ∈ Rw n.2.1
section TR
variable {E : tsl → tsl → Prop} {G : List tnd} {c : Int} {a : tsl} {rn : Int → Int} {Rw : Int → List tst}
theorem mtc_lt {j : Int} (h : mtc E G c a j) : 0 ≤ j ∧ j < G.length := by
  obtain ⟨n, j0, e, _⟩ := h
  have := lt_q e
  omega
theorem fC_n (h : ∀ j, ¬ mtc E G c a j) : fC E G c a = -1 := by
  unfold fC
  rcases fst_rg (P := fun j => mtc E G c a j) G.length 0 with q | q
  · exact q
  · exact absurd q.2.2 (h _)
theorem fC_rg : fC E G c a = -1 ∨ mtc E G c a (fC E G c a) := by
  unfold fC
  rcases fst_rg (P := fun j => mtc E G c a j) G.length 0 with q | q
  · exact Or.inl q
  · exact Or.inr q.2.2
theorem fst_no {P : Int → Prop} : ∀ (k : Nat) (i : Int), 0 ≤ i → fst P k i = -1 → ∀ j, i ≤ j → j < i + k → ¬ P j
  | 0, i, _, _, j, h1, h2 => by omega
  | k + 1, i, i0, e, j, h1, h2 => by
    by_cases c : P i
    · rw [fst_y c] at e; omega
    · rw [fst_n c] at e
      by_cases d : j = i
      · rw [d]; exact c
      · exact fst_no k (i + 1) (by omega) e j (by omega) (by omega)
theorem fC_none (h : fC E G c a = -1) (j : Int) : ¬ mtc E G c a j := by
  intro q
  have lt := mtc_lt q
  exact fst_no G.length 0 (by omega) h j lt.1 (by omega) q
/-- but one matches -/
theorem mtc_u (sy : ∀ n n2 : tsl, E n a → E n2 a → E n n2) (k : tGk E G) {i j : Int} (hi : mtc E G c a i) (hj : mtc E G c a j) : i = j := by
  obtain ⟨n, i0, e, ec, ee⟩ := hi
  obtain ⟨n2, j0, e2, ec2, ee2⟩ := hj
  rcases Int.lt_trichotomy i j with q | q | q
  · exact absurd (sy _ _ ee ee2) (k.1 _ _ n n2 (by omega) e e2 (by rw [ec, ec2]))
  · exact q
  · exact absurd (sy _ _ ee2 ee) (k.1 _ _ n2 n (by omega) e2 e (by rw [ec, ec2]))
theorem fC_u (sy : ∀ n n2 : tsl, E n a → E n2 a → E n n2) (k : tGk E G) {i : Int} (hi : mtc E G c a i) : fC E G c a = i := by
  rcases fC_rg (E := E) (G := G) (c := c) (a := a) with q | q
  · exact absurd hi (fC_none q i)
  · exact mtc_u sy k q hi
theorem tst1_g (k : tGk E G) (hc : c = -1 ∨ (0 ≤ c ∧ c < G.length)) : tGk E (tst1 E G c a).1 ∧ ((tst1 E G c a).2 = -1 ∨ (0 ≤ (tst1 E G c a).2 ∧ (tst1 E G c a).2 < (tst1 E G c a).1.length)) ∧ G.length ≤ (tst1 E G c a).1.length ∧ (tst1 E G c a).1.length ≤ G.length + 1 := by
  unfold tst1
  by_cases d : fC E G c a = -1
  · rw [if_pos d]
    have no := fC_none d
    have ll : (G ++ [(c, a)]).length = G.length + 1 := by rw [List.length_append]; rfl
    refine ⟨⟨fun i j n n2 hij e1 e2 ec => ?_, fun j n e => ?_⟩, Or.inr ⟨by omega, by show (G.length : Int) < ((G ++ [(c, a)]).length : Nat); omega⟩, by show G.length ≤ (G ++ [(c, a)]).length; omega, by show (G ++ [(c, a)]).length ≤ _; omega⟩
    · rcases snoc_q.1 e2 with q | ⟨q1, q2⟩
      · have lt := lt_q q
        rcases snoc_q.1 e1 with r | ⟨r1, r2⟩
        · exact k.1 i j n n2 hij r q ec
        · omega
      · rcases snoc_q.1 e1 with r | ⟨r1, r2⟩
        · intro z
          subst q2
          exact no i ⟨n, by omega, by rw [Int.toNat_natCast]; exact r, ec, z⟩
        · omega
    · rcases snoc_q.1 e with q | ⟨q1, q2⟩
      · exact k.2 j n q
      · subst q2; subst q1
        exact hc
  · rw [if_neg d]
    rcases fC_rg (E := E) (G := G) (c := c) (a := a) with q | q
    · exact absurd q d
    · exact ⟨k, Or.inr (mtc_lt q), Nat.le_refl _, by show G.length ≤ _; omega⟩
theorem tst1_r (k : tGr rn Rw G) (ha : (0 ≤ a.1 ∧ a.1 < 8) ∧ ¬ rn a.1 = 0 ∧ a.2 ∈ Rw a.1) : tGr rn Rw (tst1 E G c a).1 := by
  unfold tst1
  by_cases d : fC E G c a = -1
  · rw [if_pos d]
    intro j n e
    rcases snoc_q.1 e with q | ⟨q1, q2⟩
    · exact k j n q
    · subst q2; exact ha
  · rw [if_neg d]; exact k
end TR
/-- tests of rules ask the same -/
def tEq (rn : Int → Int) (rt : Int → Int → Int) (rs : Int → pS) (a b : tsl) : Prop := tsm (rt a.1) (rt b.1) (sP rn rt rs a.1) (sP rn rt rs b.1) a.2 b.2
theorem sWd_e {w1 w2 w3 : Int → Int} {s1 s2 s3 : pS} {i j k : Int} (p : sWd w1 w3 s1 s3 i k) (q : sWd w2 w3 s2 s3 j k) : sWd w1 w2 s1 s2 i j := by
  obtain ⟨p1, p2⟩ := p
  obtain ⟨q1, q2⟩ := q
  exact ⟨by omega, fun z z0 z1 => (p2 z z0 z1).trans (q2 z z0 (by omega)).symm⟩
theorem sTk_e {w1 w2 w3 : Int → Int} {s1 s2 s3 : pS} {i j k : Int} (p : sTk w1 w3 s1 s3 i k) (q : sTk w2 w3 s2 s3 j k) : sTk w1 w2 s1 s2 i j := by
  obtain ⟨p1, p2⟩ := p
  obtain ⟨q1, q2⟩ := q
  refine ⟨by omega, fun z z0 z1 => ?_⟩
  obtain ⟨a1, a2, a3, a4, a5⟩ := p2 z z0 z1
  obtain ⟨b1, b2, b3, b4, b5⟩ := q2 z z0 (by omega)
  exact ⟨by omega, by omega, by omega, by omega, sWd_e a5 b5⟩
theorem tEq_s {rn : Int → Int} {rt : Int → Int → Int} {rs : Int → pS} {a : tsl} (n n2 : tsl) (p : tEq rn rt rs n a) (q : tEq rn rt rs n2 a) : tEq rn rt rs n n2 := by
  obtain ⟨p1, p2, p3, p4, p5, p6, p7⟩ := p
  obtain ⟨q1, q2, q3, q4, q5, q6, q7⟩ := q
  refine ⟨by omega, p2.trans q2.symm, fun c => (p3 c).trans (q3 (by omega)).symm, fun c => (p4 c).trans (q4 (by omega)).symm, fun c => (p5 c).trans (q5 (by omega)).symm, fun c => sTk_e (p6 c) (q6 (by omega)), fun c => sWd_e (p7 c) (q7 (by omega))⟩
noncomputable def gTs (rn : Int → Int) (rt : Int → Int → Int) (rs : Int → pS) : List tnd := trS (tEq rn rt rs) rn (fun x => tRw (sP rn rt rs x)) 8 0 []
/-- how many tests there are in all -/
noncomputable def nTs (rn : Int → Int) (rt : Int → Int → Int) (rs : Int → pS) : Nat → Int → Int → Int
  | 0, _, q => q
  | f + 1, x, q => if rn x = 0 then nTs rn rt rs f (x + 1) q else nTs rn rt rs f (x + 1) (q + (tRw (sP rn rt rs x)).length)
