/-! What is put: by tokens. -/
section PU
variable {w : Int → Int} {m b0 : Int} {s : pS}
theorem rEn.ct1 (x : rEn w m 1 b0 s) {j : Int} (j0 : b0 ≤ j) (j1 : j < s 0 0 1) :
    (s 1 j 0 = 1 ∧ s 7 (s 4 j 0) 0 = 1 ∧ 0 ≤ s 1 j 1 ∧ s 1 j 1 < 26 ∧ s 7 (s 4 j 0) 1 = s 1 j 1) ∨
    (s 1 j 0 = 5 ∧ s 7 (s 4 j 0) 0 = 6 ∧ 0 ≤ s 1 j 1 ∧ s 1 j 1 < 26 ∧ s 7 (s 4 j 0) 1 = s 1 j 1) ∨
    (s 1 j 0 = 3 ∧ (s 7 (s 4 j 0) 0 = 3 ∨ s 7 (s 4 j 0) 0 = 4) ∧ s 1 j 1 = -1 ∧ s 7 (s 4 j 0) 3 = s 1 j 10 ∧ s 7 (s 4 j 0) 4 = s 1 j 11 ∧ 0 ≤ s 1 j 10 ∧ 1 ≤ s 1 j 11 ∧ s 1 j 11 ≤ 8 ∧ s 1 j 10 + s 1 j 11 ≤ m) ∨
    (s 1 j 0 = 4 ∧ s 7 (s 4 j 0) 0 = 5 ∧ s 1 j 1 = -1 ∧ s 7 (s 4 j 0) 3 = s 1 j 10 ∧ s 7 (s 4 j 0) 4 = s 1 j 11 ∧ 0 ≤ s 1 j 10 ∧ 1 ≤ s 1 j 11 ∧ s 1 j 11 ≤ 8 ∧ s 1 j 10 + s 1 j 11 ≤ m) := by
  have c := x.1.2.2.1 j j0 j1
  unfold cIt at c
  rw [show kid 1 = 7 from rfl] at c
  obtain ⟨c1, c2, c3, c4⟩ := c
  unfold cN at c1
  rcases c1 with q | q | q | q | q | q
  · have := c4 (Or.inl q.1); omega
  · have := c4 (Or.inr q.1); omega
  · obtain ⟨o, qw, l0, l1, qa, qr⟩ := q
    rw [if_neg (by omega)] at qa
    exact Or.inl ⟨o, qw, l0, l1, qa⟩
  · obtain ⟨o, qw, l0, l1, qa, qr⟩ := q
    rw [if_neg (by omega)] at qa
    exact Or.inr (Or.inl ⟨o, qw, l0, l1, qa⟩)
  · obtain ⟨o, hl, kd, wa, wl, q1, q2, q3, q4, q5⟩ := q
    exact Or.inr (Or.inr (Or.inl ⟨o, by rcases q5 with z | z; exact Or.inl z.1; exact Or.inr z.1, hl, wa.symm, wl.symm, q1, q2, q3, q4⟩))
  · obtain ⟨o, qw, qa, hl, kd, wa, wl, q1, q2, q3, q4⟩ := q
    exact Or.inr (Or.inr (Or.inr ⟨o, qw, hl, wa.symm, wl.symm, q1, q2, q3, q4⟩))
theorem rEn.tl1 (x : rEn w m 1 b0 s) {i j : Int} (h0 : b0 ≤ i) (h : i < j) (h1 : j < s 0 0 1) : s 4 i 0 < s 4 j 0 := x.1.2.1.2.2.2.2.2.2.2 i j h0 h h1
theorem rEn.t41 (x : rEn w m 1 b0 s) : s 0 0 7 ≤ 40 ∧ 0 ≤ s 0 0 7 := by
  obtain ⟨i1, i2, i3, i4, i5, i6, i7, i8, i9, i10, i11, i12, i13⟩ := x.1.1.1
  have e : kid 1 = 7 := rfl
  rw [e] at i11 i12
  omega
/-- where the token of the next item stands -/
def psT (s : pS) (i : Int) : Int := if i + 1 < s 0 0 1 then s 4 (i + 1) 0 else s 0 0 7
/-- where the closing of an item is -/
def kpT (s : pS) (a : Int) : Int := if s 1 a 0 = 4 then s 7 (s 4 a 0) 2 else bT 1 s a
def preT (s : pS) (it a q : Int) : Prop := (a = -1 → q = psT s it) ∧ (¬ a = -1 → (a + s 1 a 9 = it + 1 → q = kpT s a) ∧ (¬ a + s 1 a 9 = it + 1 → q = psT s it))
theorem pre_0 (x : rEn w m 1 b0 s) {i : Int} (h0 : b0 ≤ i) (h1 : i < s 0 0 1) : preT s i i (s 4 i 0 + 1) := by
  have N := x.N
  have ct := x.ct1 h0 h1
  refine ⟨fun c => by omega, fun _ => ⟨fun c => ?_, fun c => ?_⟩⟩
  · unfold kpT
    by_cases c4 : s 1 i 0 = 4
    · rw [if_pos c4]
      have m0 := x.m0 h0 h1
      by_cases c6 : s 1 i 6 = 0
      · have := x.f0 h0 h1 c4 c6
        rw [show kid 1 = 7 from rfl] at this
        omega
      · have f := x.f1 h0 h1 c4 (by omega)
        have sp := x.sp (j := i + 1) (by omega) f.1.2.1
        have ns := x.ns (y := i + 1) (by omega) f.1.2.1
        rw [f.1.2.2] at ns
        omega
    · rw [if_neg c4]
      exact (x.lf h0 h1 (by omega) c4).2.symm
  · have c4 : s 1 i 0 = 4 := by
      apply Classical.byContradiction; intro d
      have := (x.lf h0 h1 (by omega) d).1
      omega
    have m0 := x.m0 h0 h1
    have c6 : ¬ s 1 i 6 = 0 := fun d => c (by have := (x.f0 h0 h1 c4 d).1; omega)
    have f := x.f1 h0 h1 c4 (by omega)
    unfold psT
    rw [if_pos f.1.2.1]
    exact f.2.2.2.1.symm
theorem pre_s (x : rEn w m 1 b0 s) {it a q : Int} (a0 : b0 ≤ a) (a1 : a < s 0 0 1) (e : a + s 1 a 9 = it + 1) (p : preT s it a q) : (s 1 a 0 = 4 → s 7 q 0 = 7 ∧ preT s it (s 1 a 3) (q + 1)) ∧ (¬ s 1 a 0 = 4 → preT s it (s 1 a 3) q) := by
  have N := x.N
  have ct := x.ct1 a0 a1
  have q1 := (p.2 (by omega)).1 e
  unfold kpT at q1
  have sp := x.sp a0 a1
  -- the place behind it
  have nxt : preT s it (s 1 a 3) (bT 1 s a) := by
    refine ⟨fun c => ?_, fun c => ?_⟩
    · have rt := x.rt
      have ab : a = b0 := ((x.A a0 a1).1 c).1
      rw [ab] at e ⊢
      unfold psT
      rw [if_neg (by omega)]
      have := rt.2.2.1
      rw [show kid 1 = 7 from rfl] at this
      exact this.symm
    · have pn := x.pn a0 a1 c
      have pa := x.par pn a1
      have cp := x.ct1 (j := s 1 a 3) pa.1 (by omega)
      have p4 : s 1 (s 1 a 3) 0 = 4 := by omega
      refine ⟨fun d => ?_, fun d => ?_⟩
      · unfold kpT
        rw [if_pos p4]
        have l : ¬ s 1 a 5 + 1 < s 1 (s 1 a 3) 6 := fun l => by
          have := (x.nx pa.1 ⟨pa.2.1, a1, rfl⟩ p4 l).2.2.2.2.2
          omega
        exact (x.ls pa.1 ⟨pa.2.1, a1, rfl⟩ p4 l).2.2.2.1.symm
      · have l : s 1 a 5 + 1 < s 1 (s 1 a 3) 6 := by
          apply Classical.byContradiction; intro l
          have := (x.ls pa.1 ⟨pa.2.1, a1, rfl⟩ p4 l).2.2.1
          omega
        have nx := x.nx pa.1 ⟨pa.2.1, a1, rfl⟩ p4 l
        rw [e] at nx
        unfold psT
        rw [if_pos nx.1.2.1]
        exact nx.2.2.2.1.symm
  refine ⟨fun c => ?_, fun c => ?_⟩
  · rw [if_pos c] at q1
    have cl := x.cl a0 a1 c
    rw [show kid 1 = 7 from rfl] at cl
    rw [q1]
    exact ⟨cl.1, by rw [← cl.2]; exact nxt⟩
  · rw [if_neg c] at q1
    rw [q1]; exact nxt
theorem pre_all (x : rEn w m 1 b0 s) {it : Int} : ∀ (f : Nat) (a q : Int), a = -1 ∨ (b0 ≤ a ∧ a < s 0 0 1) → a - b0 < f → preT s it a q → q ≤ psT s it ∧ ∀ k, q ≤ k → k < psT s it → s 7 k 0 = 7 := by
  have N := x.N
  intro f
  induction f with
  | zero =>
    intro a q ha hf p
    have a1 : a = -1 := by omega
    have := p.1 a1
    exact ⟨by omega, fun k k0 k1 => by omega⟩
  | succ f ih =>
    intro a q ha hf p
    by_cases c : a = -1
    · have := p.1 c
      exact ⟨by omega, fun k k0 k1 => by omega⟩
    · have ha : b0 ≤ a ∧ a < s 0 0 1 := by omega
      by_cases d : a + s 1 a 9 = it + 1
      · have st := pre_s x ha.1 ha.2 d p
        have up : s 1 a 3 = -1 ∨ (b0 ≤ s 1 a 3 ∧ s 1 a 3 < s 0 0 1) := by
          by_cases u : s 1 a 3 = -1
          · exact Or.inl u
          · have := x.par (x.pn ha.1 ha.2 u) ha.2
            exact Or.inr ⟨this.1, by omega⟩
        have lt : s 1 a 3 - b0 < f := by
          by_cases u : s 1 a 3 = -1
          · omega
          · have := x.par (x.pn ha.1 ha.2 u) ha.2
            omega
        by_cases c4 : s 1 a 0 = 4
        · have st := st.1 c4
          have r := ih _ _ up lt st.2
          refine ⟨by omega, fun k k0 k1 => ?_⟩
          by_cases e : k = q
          · rw [e]; exact st.1
          · exact r.2 k (by omega) k1
        · exact ih _ _ up lt (st.2 c4)
      · have := (p.2 c).2 d
        exact ⟨by omega, fun k k0 k1 => by omega⟩
/-- between two items all is closed -/
theorem rEn.gap (x : rEn w m 1 b0 s) {i : Int} (h0 : b0 ≤ i) (h1 : i < s 0 0 1) : s 4 i 0 + 1 ≤ psT s i ∧ ∀ k, s 4 i 0 + 1 ≤ k → k < psT s i → s 7 k 0 = 7 :=
  pre_all x (i - b0 + 1).toNat i _ (Or.inr ⟨h0, h1⟩) (by omega) (pre_0 x h0 h1)
end PU
/-- a token as it is put; B and E: where the text of a letter begins, ends -/
abbrev isLt (s : pS) (k : Int) : Prop := s 7 k 0 = 1 ∨ s 7 k 0 = 6
def tkS (t w : Int → Int) (s : pS) (B E : Int → Int) (k : Int) : List Int :=
  if s 7 k 0 = 7 then [41] else (if k = 0 ∨ (isLt s k ∧ E (s 7 k 1) = 0) then [] else [32]) ++ (if isLt s k then rowS t (E (s 7 k 1) - B (s 7 k 1)).toNat (B (s 7 k 1)) else (if s 7 k 0 = 5 then [40] else []) ++ rowS w (s 7 k 4).toNat (s 7 k 3))
def tkL (t w : Int → Int) (s : pS) (B E : Int → Int) : Nat → Int → List Int
  | 0, _ => []
  | f + 1, k => tkS t w s B E k ++ tkL t w s B E f (k + 1)
section TL
variable {t w : Int → Int} {s : pS} {B E : Int → Int} {m b0 : Int}
theorem tkL_ap : ∀ (j f : Nat) (k : Int), tkL t w s B E (j + f) k = tkL t w s B E j k ++ tkL t w s B E f (k + j)
  | 0, f, k => by rw [Nat.zero_add, show k + ((0 : Nat) : Int) = k by omega]; rfl
  | j + 1, f, k => by
    rw [show j + 1 + f = (j + f) + 1 by omega, tkL, tkL, tkL_ap j f (k + 1), List.append_assoc, show k + 1 + (j : Int) = k + ((j + 1 : Nat) : Int) by omega]
theorem tkL_7 : ∀ (f : Nat) (k : Int), (∀ i, k ≤ i → i < k + f → s 7 i 0 = 7) → tkL t w s B E f k = List.replicate f 41
  | 0, _, _ => rfl
  | f + 1, k, h => by
    rw [tkL, tkL_7 f (k + 1) (fun i h0 h1 => h i (by omega) (by omega)), tkS, if_pos (h k (by omega) (by omega))]; rfl
theorem tkS_l {k : Int} (hE : ∀ l, 0 ≤ B l ∧ E l ≤ 300) (hw : s 7 k 4 ≤ 8) : (tkS t w s B E k).length ≤ 301 := by
  unfold tkS
  split
  · simp
  · rw [List.length_append]
    have a : (if k = 0 ∨ (isLt s k ∧ E (s 7 k 1) = 0) then ([] : List Int) else [32]).length ≤ 1 := by split <;> simp
    have b : (if isLt s k then rowS t (E (s 7 k 1) - B (s 7 k 1)).toNat (B (s 7 k 1)) else (if s 7 k 0 = 5 then [40] else []) ++ rowS w (s 7 k 4).toNat (s 7 k 3)).length ≤ 300 := by
      split
      · rw [rowS_l]; have := hE (s 7 k 1); omega
      · rw [List.length_append, rowS_l]
        have c : (if s 7 k 0 = 5 then ([40] : List Int) else []).length ≤ 1 := by split <;> simp
        omega
    omega
theorem tkL_b (x : rEn w m 1 b0 s) (hE : ∀ l, 0 ≤ B l ∧ E l ≤ 300) : ∀ (f : Nat) (i : Int), i - b0 = f → i < s 0 0 1 → (((tkL t w s B E (s 4 i 0).toNat 0).length : Nat) : Int) ≤ 300 * f + s 4 i 0 ∧ (((tkL t w s B E (psT s i).toNat 0).length : Nat) : Int) ≤ 300 * (f + 1) + psT s i := by
  have N := x.N
  intro f
  have st : ∀ i, b0 ≤ i → i < s 0 0 1 → ∀ d : Int, (((tkL t w s B E (s 4 i 0).toNat 0).length : Nat) : Int) ≤ d + s 4 i 0 → (((tkL t w s B E (psT s i).toNat 0).length : Nat) : Int) ≤ d + 300 + psT s i := by
    intro i h0 h1 d hd
    have gp := x.gap h0 h1
    have tk := x.tk h0 h1
    have ct := x.ct1 h0 h1
    have w8 : s 7 (s 4 i 0) 4 ≤ 8 := by
      have c := x.1.2.2.1 i h0 h1
      unfold cIt at c
      rw [show kid 1 = 7 from rfl] at c
      have c1 := c.1
      unfold cN at c1
      omega
    have e : (psT s i).toNat = (s 4 i 0).toNat + (1 + (psT s i - s 4 i 0 - 1).toNat) := by omega
    rw [e, tkL_ap, tkL_ap, List.length_append, List.length_append]
    have l1 : (tkL t w s B E 1 (0 + ((s 4 i 0).toNat : Nat))).length ≤ 301 := by
      rw [show (0 : Int) + ((s 4 i 0).toNat : Nat) = s 4 i 0 by omega, tkL, tkL, List.append_nil]
      exact tkS_l hE w8
    have l2 : (tkL t w s B E (psT s i - s 4 i 0 - 1).toNat (0 + ((s 4 i 0).toNat : Nat) + ((1 : Nat) : Int))).length = (psT s i - s 4 i 0 - 1).toNat := by
      rw [tkL_7 _ _ (fun k k0 k1 => gp.2 k (by omega) (by omega)), List.length_replicate]
    rw [l2]
    omega
  induction f with
  | zero =>
    intro i hi h1
    have ib : i = b0 := by omega
    have rt := x.rt
    have a : (((tkL t w s B E (s 4 i 0).toNat 0).length : Nat) : Int) ≤ 300 * ((0 : Nat) : Int) + s 4 i 0 := by rw [ib, rt.2.2.2]; simp [tkL]
    exact ⟨a, by have := st i (by omega) h1 _ a; omega⟩
  | succ f ih =>
    intro i hi h1
    have p := (ih (i - 1) (by omega) (by omega)).2
    have e : psT s (i - 1) = s 4 i 0 := by unfold psT; rw [show i - 1 + 1 = i by omega, if_pos h1]
    rw [e] at p
    have a : (((tkL t w s B E (s 4 i 0).toNat 0).length : Nat) : Int) ≤ 300 * ((f + 1 : Nat) : Int) + s 4 i 0 := by omega
    exact ⟨a, by have := st i (by omega) h1 _ a; omega⟩
theorem tkL_all (x : rEn w m 1 b0 s) (hE : ∀ l, 0 ≤ B l ∧ E l ≤ 300) : (tkL t w s B E (s 0 0 7).toNat 0).length ≤ 6040 := by
  have N := x.N
  have t4 := x.t41
  have := (tkL_b (t := t) x hE (s 0 0 1 - 1 - b0).toNat (s 0 0 1 - 1) (by omega) (by omega)).2
  unfold psT at this
  rw [if_neg (by omega)] at this
  omega
theorem tkL_p (x : rEn w m 1 b0 s) (hE : ∀ l, 0 ≤ B l ∧ E l ≤ 300) (k : Nat) (hk : (k : Int) ≤ s 0 0 7) : (tkL t w s B E k 0).length ≤ 6040 := by
  have a := tkL_all (t := t) x hE
  rw [show (s 0 0 7).toNat = k + ((s 0 0 7).toNat - k) by omega, tkL_ap, List.length_append] at a
  omega
end TL
