/-! Level 2: tools for heaps, frames, ends of methods. -/
theorem iCmp_lt {x y : Int} : iCmp x y < 0 ↔ x < y := by
  unfold iCmp
  split
  · omega
  · split <;> omega
theorem iCmp_gt {x y : Int} : 0 < iCmp x y ↔ y < x := by
  unfold iCmp
  split
  · omega
  · split <;> omega
theorem zq1 {x : Int} {h : zH} {K : Int → zH → Prop} (k : K x h) : ∃ v : Int, (some (Sum.inl x) : Option zV) = some (Sum.inl v) ∧ K v h := ⟨x, rfl, k⟩
theorem zqr {x t : Nat} {h : zH} {K : Nat → zH → Prop} (k : K x h) : ∃ v : Nat, (some (Sum.inr (Sum.inl (x, t))) : Option zV) = some (Sum.inr (Sum.inl (v, t))) ∧ K v h := ⟨x, rfl, k⟩
theorem zq0 {h : zH} {K : zH → Prop} (k : K h) : (none : Option zV) = none ∧ K h := ⟨rfl, k⟩
noncomputable def b2i (p : Prop) : Int := @ite _ p (Classical.propDecidable p) 1 0
theorem b2i_pos {p : Prop} (hp : p) : b2i p = 1 := if_pos hp
theorem b2i_neg {p : Prop} (hp : ¬ p) : b2i p = 0 := if_neg hp
theorem b2i_eq0 {p : Prop} : b2i p = 0 ↔ ¬ p := by
  by_cases c : p
  · rw [b2i_pos c]; simp [c]
  · rw [b2i_neg c]; simp [c]
theorem b2i_ne0 {p : Prop} : ¬ b2i p = 0 ↔ p := by
  by_cases c : p
  · rw [b2i_pos c]; simp [c]
  · rw [b2i_neg c]; simp [c]
theorem b2i_01 {p : Prop} : b2i p = 0 ∨ b2i p = 1 := by
  by_cases c : p
  · rw [b2i_pos c]; simp
  · rw [b2i_neg c]; simp
theorem b2i_congr {p q : Prop} (e : p ↔ q) : b2i p = b2i q := by rw [propext e]
theorem gS {h : zH} {a a1 : Nat} {k k1 v : Int} : gI (sI h a k v) a1 k1 = if a1 = a ∧ k1 = k then v else gI h a1 k1 := rfl
theorem gS1 {h : zH} {a : Nat} {k v : Int} : gI (sI h a k v) a k = v := by rw [gS, if_pos ⟨rfl, rfl⟩]
theorem gRS {h : zH} {a a1 : Nat} {k k1 v : Int} : gR (sI h a k v) a1 k1 = gR h a1 k1 := rfl
theorem gIR {h : zH} {a a1 : Nat} {k k1 : Int} {v : Nat} : gI (sR h a k v) a1 k1 = gI h a1 k1 := rfl
theorem gCp {h : zH} {s d a : Nat} {sp dp n k : Int} : gI (cp h s sp d dp n) a k = if a = d ∧ dp ≤ k ∧ k < dp + n then gI h s (sp + (k - dp)) else gI h a k := rfl
/-- only ints, and only there, have changed -/
def frP (P : Nat → Int → Prop) (h h1 : zH) : Prop := (∀ b k, ¬ P b k → gI h1 b k = gI h b k) ∧ h1.2 = h.2
theorem frP.rf {P : Nat → Int → Prop} {h : zH} : frP P h h := ⟨fun _ _ _ => rfl, rfl⟩
theorem frP.tr {P : Nat → Int → Prop} {h h1 h2 : zH} (p : frP P h h1) (q : frP P h1 h2) : frP P h h2 := ⟨fun b k n => (q.1 b k n).trans (p.1 b k n), q.2.trans p.2⟩
theorem frP.mo {P P' : Nat → Int → Prop} {h h1 : zH} (i : ∀ b k, P b k → P' b k) (p : frP P h h1) : frP P' h h1 := ⟨fun b k n => p.1 b k (fun q => n (i b k q)), p.2⟩
theorem frP.st {P : Nat → Int → Prop} {h h1 : zH} {a : Nat} {k v : Int} (p : frP P h h1) (i : P a k) : frP P h (sI h1 a k v) :=
  ⟨fun b j n => by rw [gS, if_neg (fun q => n (by rw [q.1, q.2]; exact i))]; exact p.1 b j n, p.2⟩
theorem frP.rr {P : Nat → Int → Prop} {h h1 : zH} (p : frP P h h1) (a : Nat) (k : Int) : gR h1 a k = gR h a k := by unfold gR; rw [p.2]
theorem frP.ty {P : Nat → Int → Prop} {h h1 : zH} (p : frP P h h1) (t x : Nat) : zty t x h1 = zty t x h := by unfold zty nx tg ln; rw [p.2]
theorem frP.le {P : Nat → Int → Prop} {h h1 : zH} (p : frP P h h1) (x : Nat) : ln h1 x = ln h x := by unfold ln; rw [p.2]
theorem zC1_mo {y : Nat} {args : List zV} {h : zH} {K K' : Int → zH → Prop} (c : zC1 y args h K) (i : ∀ v h1, K v h1 → K' v h1) : zC1 y args h K' :=
  by obtain ⟨n, q, a, v, e, k⟩ := c; exact ⟨n, q, a, v, e, i _ _ k⟩
theorem zC0_mo {y : Nat} {args : List zV} {h : zH} {K K' : zH → Prop} (c : zC0 y args h K) (i : ∀ h1, K h1 → K' h1) : zC0 y args h K' :=
  by obtain ⟨n, q, a, e, k⟩ := c; exact ⟨n, q, a, e, i _ k⟩
theorem zCr_mo {y t : Nat} {args : List zV} {h : zH} {K K' : Nat → zH → Prop} (c : zCr y t args h K) (i : ∀ v h1, K v h1 → K' v h1) : zCr y t args h K' :=
  by obtain ⟨n, q, a, v, e, k⟩ := c; exact ⟨n, q, a, v, e, i _ _ k⟩
theorem cI {y : Nat} {args : List zV} {h : zH} {K : Int → zH → Prop} (k : zK y 0 (zpad (zLM y) (zents args)) [] h (fun r h1 => ∃ v : Int, r = some (Sum.inl v) ∧ K v h1)) : zC1 y args h K := k
theorem cV {y : Nat} {args : List zV} {h : zH} {K : zH → Prop} (k : zK y 0 (zpad (zLM y) (zents args)) [] h (fun r h1 => r = none ∧ K h1)) : zC0 y args h K := k
theorem cA {y t : Nat} {args : List zV} {h : zH} {K : Nat → zH → Prop} (k : zK y 0 (zpad (zLM y) (zents args)) [] h (fun r h1 => ∃ x : Nat, r = some (Sum.inr (Sum.inl (x, t))) ∧ K x h1)) : zCr y t args h K := k
/-- letters, digits -/
abbrev isL (c : Int) : Prop := 97 ≤ c ∧ c ≤ 122
abbrev isD (c : Int) : Prop := 48 ≤ c ∧ c ≤ 57
/-- letters where b is not 0, else digits -/
abbrev isP (b c : Int) : Prop := (b = 0 ∧ isD c) ∨ (¬ b = 0 ∧ isL c)
/-- a text: its signs, -1 beyond -/
def tOk (t : Int → Int) (n : Int) : Prop := 0 ≤ n ∧ n ≤ 300 ∧ ∀ i, (0 ≤ i ∧ i < n → 0 ≤ t i ∧ t i ≤ 255) ∧ (¬ (0 ≤ i ∧ i < n) → t i = -1)
theorem tOk.lt {t : Int → Int} {n i : Int} (o : tOk t n) (e : ¬ t i = -1) : 0 ≤ i ∧ i < n := by
  by_cases c : 0 ≤ i ∧ i < n
  · exact c
  · exact absurd ((o.2.2 i).2 c) e
theorem tOk.ge {t : Int → Int} {n i : Int} (o : tOk t n) (e : n ≤ i) : t i = -1 := (o.2.2 i).2 (by omega)
theorem tOk.rg {t : Int → Int} {n : Int} (o : tOk t n) (i : Int) : -1 ≤ t i ∧ t i ≤ 255 := by
  by_cases c : 0 ≤ i ∧ i < n
  · have := (o.2.2 i).1 c; omega
  · have := (o.2.2 i).2 c; omega
/-- how many of a sort stand in a row -/
def rowL (t : Int → Int) (b : Int) : Nat → Int → Int
  | 0, _ => 0
  | k + 1, i => if isP b (t i) then 1 + rowL t b k (i + 1) else 0
theorem rowL_rg (t : Int → Int) (b : Int) : ∀ (k : Nat) (i : Int), 0 ≤ rowL t b k i ∧ rowL t b k i ≤ k
  | 0, _ => ⟨Int.le_refl _, Int.le_refl _⟩
  | k + 1, i => by
    have := rowL_rg t b k (i + 1)
    unfold rowL
    split <;> omega
theorem rowL_in {t : Int → Int} {n : Int} (o : tOk t n) (b : Int) : ∀ (k : Nat) (i : Int), i ≤ n → i + rowL t b k i ≤ n
  | 0, i, hi => by unfold rowL; omega
  | k + 1, i, hi => by
    unfold rowL
    split
    · rename_i q
      have h1 : ¬ t i = -1 := by intro e; rw [e] at q; unfold isP isD isL at q; omega
      have := o.lt h1
      have := rowL_in o b k (i + 1) (by omega)
      omega
    · omega
