/-! The tests of a pattern: paths, the row of tests. -/
def pl (s : pS) : Nat → Int → List Int
  | 0, _ => []
  | f + 1, i => if s 1 i 3 = -1 then [] else pl s f (s 1 i 3) ++ [s 1 i 5]
/-- the path of an item -/
abbrev pth (s : pS) (i : Int) : List Int := pl s 20 i
section PT
variable {m : Int} {s : pS} {w : Int → Int}
theorem pl_f (x : rEn w m 0 0 s) : ∀ (f k : Nat) (i : Int), 0 ≤ i → i < s 0 0 1 → i < f → i < k → pl s f i = pl s k i := by
  intro f
  induction f with
  | zero => intro k i i0 i1 i2 i3; omega
  | succ f ih =>
    intro k i i0 i1 i2 i3
    cases k with
    | zero => omega
    | succ k =>
      unfold pl
      by_cases c : s 1 i 3 = -1
      · rw [if_pos c, if_pos c]
      · rw [if_neg c, if_neg c]
        have pn := x.pn i0 i1 c
        have pa := x.par pn i1
        rw [ih k (s 1 i 3) pa.1 (by omega) (by omega) (by omega)]
theorem pth_0 (x : rEn w m 0 0 s) : pth s 0 = [] := by
  show pl s (19 + 1) 0 = []
  rw [pl, if_pos x.rt.1]
theorem pth_s (x : rEn w m 0 0 s) {i : Int} (i0 : 0 < i) (i1 : i < s 0 0 1) : pth s i = pth s (s 1 i 3) ++ [s 1 i 5] := by
  have N := x.N
  have pa := x.par i0 i1
  have e := pl_f x 19 20 (s 1 i 3) pa.1 (by omega) (by omega) (by omega)
  show pl s (19 + 1) i = _
  rw [pl, if_neg (by omega), e]
theorem pth_l (x : rEn w m 0 0 s) : ∀ (f : Nat) (i : Int), i ≤ f → 0 ≤ i → i < s 0 0 1 → ((pth s i).length : Int) ≤ i := by
  intro f
  induction f with
  | zero => intro i h i0 i1; rw [show i = 0 by omega, pth_0 x]; simp
  | succ f ih =>
    intro i h i0 i1
    by_cases c : i = 0
    · rw [c, pth_0 x]; simp
    · have pa := x.par (j := i) (by omega) i1
      have := ih (s 1 i 3) (by omega) pa.1 (by omega)
      rw [pth_s x (by omega) i1, List.length_append]
      show ((_ + 1 : Nat) : Int) ≤ i
      omega
theorem pth_20 (x : rEn w m 0 0 s) {i : Int} (i0 : 0 ≤ i) (i1 : i < s 0 0 1) : (pth s i).length < 20 := by
  have N := x.N
  have := pth_l x i.toNat i (by omega) i0 i1
  omega
/-- the row of tests, from item i on: what is asked, at which item, of which other -/
abbrev tst : Type := Int × Int × Int
def tS (s : pS) : Nat → Int → (Int → Int) → List tst
  | 0, _, _ => []
  | f + 1, i, fa => if s 0 0 1 ≤ i then []
    else if s 1 i 0 = 2 ∨ 0 < s 1 i 7 then (5, i, -1) :: tS s f (i + s 1 i 9) fa
    else if s 1 i 0 = 4 then (1, i, -1) :: (2, i, -1) :: tS s f (i + 1) fa
    else if s 1 i 0 = 3 then (0, i, -1) :: tS s f (i + 1) fa
    else if s 1 i 0 = 1 then (if s 1 i 2 = -1 then [] else [(3, i, -1)]) ++ (if fa (s 1 i 1) = -1 then tS s f (i + 1) (ups fa (s 1 i 1) i) else (4, i, fa (s 1 i 1)) :: tS s f (i + 1) fa)
    else tS s f (i + 1) fa
def tRw (s : pS) : List tst := tS s 20 0 (fun _ => -1)
theorem tS_l : ∀ (f : Nat) (i : Int) (fa : Int → Int), (tS s f i fa).length ≤ 2 * f
  | 0, _, _ => by show 0 ≤ 0; omega
  | f + 1, i, fa => by
    unfold tS
    split
    · show 0 ≤ _; omega
    · split
      · have := tS_l f (i + s 1 i 9) fa; rw [List.length_cons]; omega
      · split
        · have := tS_l f (i + 1) fa; rw [List.length_cons, List.length_cons]; omega
        · split
          · have := tS_l f (i + 1) fa; rw [List.length_cons]; omega
          · split
            · rw [List.length_append]
              have a : (if s 1 i 2 = -1 then ([] : List tst) else [(3, i, -1)]).length ≤ 1 := by split <;> simp
              have b : (if fa (s 1 i 1) = -1 then tS s f (i + 1) (ups fa (s 1 i 1) i) else (4, i, fa (s 1 i 1)) :: tS s f (i + 1) fa).length ≤ 2 * f + 1 := by
                split
                · have := tS_l f (i + 1) (ups fa (s 1 i 1) i); omega
                · have := tS_l f (i + 1) fa; rw [List.length_cons]; omega
              omega
            · have := tS_l f (i + 1) fa; omega
theorem tRw_l : (tRw s).length ≤ 40 := tS_l 20 0 _
/-- all that an item lies in are terms with no rows, and their parts are counted ahead -/
def aGd (s : pS) (A : List tst) (i : Int) : Prop := ∀ p, 0 ≤ p → p < i → i < p + s 1 p 9 → s 1 p 0 = 4 ∧ ¬ 0 < s 1 p 7 ∧ (2, p, -1) ∈ A
theorem aGd.mo {A B : List tst} {i : Int} (h : aGd s A i) (k : ∀ x, x ∈ A → x ∈ B) : aGd s B i := fun p p0 p1 p2 => ⟨(h p p0 p1 p2).1, (h p p0 p1 p2).2.1, k _ (h p p0 p1 p2).2.2⟩
/-- a test in a row, behind others -/
def tGd (s : pS) (A : List tst) (x : tst) : Prop := (0 ≤ x.2.1 ∧ x.2.1 < s 0 0 1) ∧ aGd s A x.2.1 ∧ ((x.1 = 5 ∧ (s 1 x.2.1 0 = 2 ∨ s 1 x.2.1 0 = 4) ∧ x.2.2 = -1) ∨ ((x.1 = 1 ∨ x.1 = 2) ∧ s 1 x.2.1 0 = 4 ∧ x.2.2 = -1) ∨ (x.1 = 0 ∧ s 1 x.2.1 0 = 3 ∧ x.2.2 = -1) ∨ (x.1 = 3 ∧ s 1 x.2.1 0 = 1 ∧ x.2.2 = -1) ∨
  (x.1 = 4 ∧ s 1 x.2.1 0 = 1 ∧ (0 ≤ x.2.2 ∧ x.2.2 < s 0 0 1) ∧ s 1 x.2.2 0 = 1 ∧ aGd s A x.2.2))
theorem tGd.mo {A B : List tst} {x : tst} (h : tGd s A x) (k : ∀ x, x ∈ A → x ∈ B) : tGd s B x := by
  refine ⟨h.1, h.2.1.mo k, ?_⟩
  rcases h.2.2 with q | q | q | q | q
  · exact Or.inl q
  · exact Or.inr (Or.inl q)
  · exact Or.inr (Or.inr (Or.inl q))
  · exact Or.inr (Or.inr (Or.inr (Or.inl q)))
  · exact Or.inr (Or.inr (Or.inr (Or.inr ⟨q.1, q.2.1, q.2.2.1, q.2.2.2.1, q.2.2.2.2.mo k⟩)))
/-- rows in which each test is behind those that it needs -/
def rwG (s : pS) : List tst → List tst → Prop
  | _, [] => True
  | A, x :: L => tGd s A x ∧ rwG s (A ++ [x]) L
theorem rwG.nil (A : List tst) : rwG s A [] := trivial
theorem rwG.cons (A : List tst) (x : tst) (L : List tst) (h : tGd s A x) (k : rwG s (A ++ [x]) L) : rwG s A (x :: L) := ⟨h, k⟩
/-- what holds at item i: its own place, and of letters that stood -/
def tIv (s : pS) (A : List tst) (i : Int) (fa : Int → Int) : Prop := 0 ≤ i ∧ (i < s 0 0 1 → aGd s A i) ∧ ∀ l, ¬ fa l = -1 → (0 ≤ fa l ∧ fa l < s 0 0 1) ∧ s 1 (fa l) 0 = 1 ∧ aGd s A (fa l)
theorem tIv_n (x : rEn w m 0 0 s) {A B : List tst} {i : Int} {fa : Int → Int} (h : tIv s A i fa) (i1 : i < s 0 0 1) (k : ∀ x, x ∈ A → x ∈ B) {e : Int} (he : e = i + s 1 i 9 ∨ (e = i + 1 ∧ s 1 i 0 = 4 ∧ ¬ 0 < s 1 i 7 ∧ (2, i, -1) ∈ B)) : tIv s B e fa := by
  obtain ⟨h1, h2, h3⟩ := h
  have sp := x.sp h1 i1
  have h2 := h2 i1
  refine ⟨by omega, fun e1 p p0 p1 p2 => ?_, fun l hl => ⟨(h3 l hl).1, (h3 l hl).2.1, (h3 l hl).2.2.mo k⟩⟩
  have hp : p < s 0 0 1 := by omega
  rcases he with q | q
  · have pi : p < i := by
      apply Classical.byContradiction; intro c
      by_cases d : p = i
      · subst d; omega
      · have := x.within (e := p) (p := i) h1 (by omega) (by omega)
        omega
    have := h2 p p0 pi (by omega)
    exact ⟨this.1, this.2.1, k _ this.2.2⟩
  · by_cases d : p = i
    · subst d; exact ⟨q.2.1, q.2.2.1, q.2.2.2⟩
    · have := h2 p p0 (by omega) (by omega)
      exact ⟨this.1, this.2.1, k _ this.2.2⟩
theorem tS_g (x : rEn w m 0 0 s) (p8 : rP8 s) : ∀ (f : Nat) (i : Int) (fa : Int → Int) (A : List tst), s 0 0 1 - i ≤ f → tIv s A i fa → rwG s A (tS s f i fa) := by
  intro f
  induction f with
  | zero => intro i fa A h iv; exact rwG.nil A
  | succ f ih =>
    intro i fa A h iv
    unfold tS
    by_cases c : s 0 0 1 ≤ i
    · rw [if_pos c]; exact rwG.nil A
    · rw [if_neg c]
      have i0 := iv.1
      have i1 : i < s 0 0 1 := by omega
      have sp := x.sp i0 i1
      have ag := iv.2.1 i1
      have ct := x.ct i0 i1
      have ap : ∀ (B : List tst) (y : tst), ∀ z, z ∈ B → z ∈ B ++ [y] := fun B y z hz => List.mem_append_left _ hz
      by_cases c5 : s 1 i 0 = 2 ∨ 0 < s 1 i 7
      · rw [if_pos c5]
        have o24 : s 1 i 0 = 2 ∨ s 1 i 0 = 4 := by
          rcases c5 with q | q
          · exact Or.inl q
          · by_cases d : s 1 i 0 = 4
            · exact Or.inr d
            · by_cases d2 : s 1 i 0 = 2
              · exact Or.inl d2
              · have := (p8 i i0 i1).2.2.2 d2 d
                omega
        refine rwG.cons _ _ _ ⟨⟨i0, i1⟩, ag, Or.inl ⟨rfl, o24, rfl⟩⟩ (ih _ _ _ (by omega) (tIv_n x iv i1 (ap _ _) (Or.inl rfl)))
      · rw [if_neg c5]
        by_cases c4 : s 1 i 0 = 4
        · rw [if_pos c4]
          refine rwG.cons _ _ _ ⟨⟨i0, i1⟩, ag, Or.inr (Or.inl ⟨Or.inl rfl, c4, rfl⟩)⟩ (rwG.cons _ _ _ ⟨⟨i0, i1⟩, ag.mo (ap _ _), Or.inr (Or.inl ⟨Or.inr rfl, c4, rfl⟩)⟩ (ih _ _ _ (by omega) (tIv_n x iv i1 (fun z hz => ap _ _ z (ap _ _ z hz)) (Or.inr ⟨rfl, c4, by omega, by simp⟩))))
        · rw [if_neg c4]
          have lf := x.lf i0 i1 (by omega) c4
          by_cases c3 : s 1 i 0 = 3
          · rw [if_pos c3]
            exact rwG.cons _ _ _ ⟨⟨i0, i1⟩, ag, Or.inr (Or.inr (Or.inl ⟨rfl, c3, rfl⟩))⟩ (ih _ _ _ (by omega) (tIv_n x iv i1 (ap _ _) (Or.inl (by omega))))
          · rw [if_neg c3]
            by_cases c1 : s 1 i 0 = 1
            · rw [if_pos c1]
              have fin : ∀ B, (∀ z, z ∈ A → z ∈ B) → rwG s B (if fa (s 1 i 1) = -1 then tS s f (i + 1) (ups fa (s 1 i 1) i) else (4, i, fa (s 1 i 1)) :: tS s f (i + 1) fa) := by
                intro B hB
                by_cases cf : fa (s 1 i 1) = -1
                · rw [if_pos cf]
                  have t := tIv_n x iv i1 hB (e := i + 1) (Or.inl (by omega))
                  refine ih _ _ _ (by omega) ⟨t.1, t.2.1, fun l hl => ?_⟩
                  unfold ups at hl ⊢
                  by_cases d : l = s 1 i 1
                  · rw [if_pos d]; exact ⟨⟨i0, i1⟩, c1, ag.mo hB⟩
                  · rw [if_neg d] at hl ⊢; exact t.2.2 l hl
                · rw [if_neg cf]
                  have q := iv.2.2 _ cf
                  exact rwG.cons _ _ _ ⟨⟨i0, i1⟩, ag.mo hB, Or.inr (Or.inr (Or.inr (Or.inr ⟨rfl, c1, q.1, q.2.1, q.2.2.mo hB⟩)))⟩ (ih _ _ _ (by omega) (tIv_n x iv i1 (fun z hz => ap _ _ z (hB z hz)) (Or.inl (by omega))))
              by_cases ck : s 1 i 2 = -1
              · rw [if_pos ck, List.nil_append]; exact fin A (fun z hz => hz)
              · rw [if_neg ck, List.singleton_append]
                exact rwG.cons _ _ _ ⟨⟨i0, i1⟩, ag, Or.inr (Or.inr (Or.inr (Or.inl ⟨rfl, c1, rfl⟩)))⟩ (fin _ (ap _ _))
            · rw [if_neg c1]
              exact ih _ _ _ (by omega) (tIv_n x iv i1 (fun z hz => hz) (Or.inl (by omega)))
end PT
