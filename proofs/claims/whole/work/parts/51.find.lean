/-! The search for ways over the items of a pattern, as it is done by both; they find the same. -/
abbrev fZ : Type := Nat → Int → Int
/-- what an item takes: first node, last node, how many, where the next part begins, how many are left -/
def fU (st : fZ) (j a l r x f : Int) : fZ := fun c i => if i = j then (if c = 0 then a else if c = 1 then l else if c = 2 then r else if c = 3 then x else if c = 4 then f else st c i) else st c i
theorem fU_o {st : fZ} {j a l r x f i : Int} {c : Nat} (h : ¬ i = j) : fU st j a l r x f c i = st c i := by unfold fU; rw [if_neg h]
theorem fU_0 {st : fZ} {j a l r x f : Int} : fU st j a l r x f 0 j = a := by simp [fU]
theorem fU_1 {st : fZ} {j a l r x f : Int} : fU st j a l r x f 1 j = l := by simp [fU]
theorem fU_2 {st : fZ} {j a l r x f : Int} : fU st j a l r x f 2 j = r := by simp [fU]
theorem fU_3 {st : fZ} {j a l r x f : Int} : fU st j a l r x f 3 j = x := by simp [fU]
theorem fU_4 {st : fZ} {j a l r x f : Int} : fU st j a l r x f 4 j = f := by simp [fU]
/-- where an item begins to take, and with how much room -/
def fA (s : pS) (bs v : Int) (st : fZ) (j : Int) : Int := if j = bs then v else if s 1 (s 1 j 3) 0 = 2 then st 0 (s 1 j 3) else if s 1 j 4 = -1 then st 0 (s 1 j 3) + 1 else st 3 (s 1 j 4)
def fR (T : pT) (s : pS) (bs : Int) (st : fZ) (j : Int) : Int := if j = bs then 1 else if s 1 (s 1 j 3) 0 = 2 then 1 else if s 1 j 4 = -1 then T (st 0 (s 1 j 3)) 3 else st 4 (s 1 j 4)
/-- one node is taken, at depth d; c of them in a row -/
def fO (T : pT) (st : fZ) (j a r : Int) (d : Nat) : fZ := fU st j (a + d) a 1 (a + T a 6) (r - 1)
def fW (T : pT) (st : fZ) (j a r : Int) (c : Nat) : fZ := fU st j a (if c = 0 then -1 else adv T (c - 1) a) c (adv T c a) (r - c)
/-- the first item that bears a letter, ahead of j -/
noncomputable def hF (s : pS) (bs l j : Int) : Int := fst (fun i => s 1 i 1 = l) (j - bs).toNat bs
def asb (t : Int → Int) (T : pT) (s : pS) (bs : Int) (st : fZ) (j : Int) : Prop := s 1 j 1 = -1 ∨ hF s bs (s 1 j 1) j = -1 ∨
  (st 2 (hF s bs (s 1 j 1) j) = st 2 j ∧ st 3 (hF s bs (s 1 j 1) j) - st 0 (hF s bs (s 1 j 1) j) = st 3 j - st 0 j ∧ rsm t T (st 0 (hF s bs (s 1 j 1) j)) (st 0 j) (st 3 j - st 0 j))
def nmd (t u : Int → Int) (T : pT) (s : pS) (a j : Int) : Prop := T a 9 = s 1 j 11 ∧ sameR t u (T a 8) (s 1 j 10) (T a 9)
def okI (t u : Int → Int) (T : pT) (s : pS) (a j : Int) : Prop := (s 1 j 0 = 1 → s 1 j 2 = -1 ∨ s 1 j 2 = T a 0) ∧ (s 1 j 0 = 3 → ¬ T a 0 = 2 ∧ nmd t u T s a j) ∧ (s 1 j 0 = 4 → T a 0 = 2 ∧ nmd t u T s a j)
/-- the terms that end behind an item have no part left -/
def pck (T : pT) (s : pS) (bs : Int) (st : fZ) (j : Int) : Prop := (s 1 j 0 = 4 → s 1 j 6 = 0 → T (st 0 j) 3 = 0) ∧
  ∀ y, bs < y → y ≤ j → y + s 1 y 9 = j + 1 → s 1 (s 1 y 3) 0 = 4 → s 1 y 3 + s 1 (s 1 y 3) 9 = j + 1 → st 4 y = 0
def rbh (s : pS) (j : Int) : Int := s 1 (s 1 j 3) 7 - s 1 j 8
def sbh (s : pS) (j : Int) : Int := s 1 (s 1 j 3) 6 - s 1 j 5 - 1 - (s 1 (s 1 j 3) 7 - s 1 j 8)
def hpP (s : pS) (j m : Int) : Prop := s 1 j 6 - s 1 j 7 ≤ m ∧ (s 1 j 7 = 0 → m = s 1 j 6 - s 1 j 7)
section FD
variable (t u : Int → Int) (T : pT) (s : pS) (bs v : Int)
/-- all ways, every choice tried -/
noncomputable def Wm : Nat → Int → fZ → List fZ
  | 0, _, st => [st]
  | f + 1, j, st =>
    if s 1 j 0 = 5 then (List.range (fR T s bs st j + 1).toNat).flatMap (fun c => if b2i (asb t T s bs (fW T st j (fA s bs v st j) (fR T s bs st j) c) j ∧ pck T s bs (fW T st j (fA s bs v st j) (fR T s bs st j) c) j) = 1 then Wm f (j + 1) (fW T st j (fA s bs v st j) (fR T s bs st j) c) else [])
    else if fR T s bs st j < 1 then []
    else if s 1 j 0 = 2 then (List.range (T (fA s bs v st j) 6).toNat).flatMap (fun d => if b2i (asb t T s bs (fO T st j (fA s bs v st j) (fR T s bs st j) d) j ∧ pck T s bs (fO T st j (fA s bs v st j) (fR T s bs st j) d) j) = 1 then Wm f (j + 1) (fO T st j (fA s bs v st j) (fR T s bs st j) d) else [])
    else if b2i (okI t u T s (fA s bs v st j) j) = 1 then (if b2i (asb t T s bs (fO T st j (fA s bs v st j) (fR T s bs st j) 0) j ∧ pck T s bs (fO T st j (fA s bs v st j) (fR T s bs st j) 0) j) = 1 then Wm f (j + 1) (fO T st j (fA s bs v st j) (fR T s bs st j) 0) else []) else []
/-- what comes behind a choice -/
noncomputable def Nm (f : Nat) (j : Int) (st : fZ) : List fZ := if b2i (asb t T s bs st j ∧ pck T s bs st j) = 1 then Wm t u T s bs v f (j + 1) st else []
theorem Wm_s (f : Nat) (j : Int) (st : fZ) : Wm t u T s bs v (f + 1) j st =
    if s 1 j 0 = 5 then (List.range (fR T s bs st j + 1).toNat).flatMap (fun c => Nm t u T s bs v f j (fW T st j (fA s bs v st j) (fR T s bs st j) c))
    else if fR T s bs st j < 1 then []
    else if s 1 j 0 = 2 then (List.range (T (fA s bs v st j) 6).toNat).flatMap (fun d => Nm t u T s bs v f j (fO T st j (fA s bs v st j) (fR T s bs st j) d))
    else if b2i (okI t u T s (fA s bs v st j) j) = 1 then Nm t u T s bs v f j (fO T st j (fA s bs v st j) (fR T s bs st j) 0) else [] := rfl
/-- all ways, the last row of a term without a choice -/
noncomputable def Wc : Nat → Int → fZ → List fZ
  | 0, _, st => [st]
  | f + 1, j, st =>
    if s 1 j 0 = 5 then (if 0 < rbh s j then (List.range ((fR T s bs st j - sbh s j).toNat + 1)).flatMap (fun c => if b2i (asb t T s bs (fW T st j (fA s bs v st j) (fR T s bs st j) c) j) = 1 then Wc f (j + 1) (fW T st j (fA s bs v st j) (fR T s bs st j) c) else [])
      else (if b2i (asb t T s bs (fW T st j (fA s bs v st j) (fR T s bs st j) (fR T s bs st j - sbh s j).toNat) j) = 1 then Wc f (j + 1) (fW T st j (fA s bs v st j) (fR T s bs st j) (fR T s bs st j - sbh s j).toNat) else []))
    else if fR T s bs st j < 1 then []
    else if s 1 j 0 = 2 then (List.range (T (fA s bs v st j) 6).toNat).flatMap (fun d => if b2i (asb t T s bs (fO T st j (fA s bs v st j) (fR T s bs st j) d) j) = 1 then Wc f (j + 1) (fO T st j (fA s bs v st j) (fR T s bs st j) d) else [])
    else if b2i (okI t u T s (fA s bs v st j) j ∧ (s 1 j 0 = 4 → hpP s j (T (fA s bs v st j) 3))) = 1 then (if b2i (asb t T s bs (fO T st j (fA s bs v st j) (fR T s bs st j) 0) j) = 1 then Wc f (j + 1) (fO T st j (fA s bs v st j) (fR T s bs st j) 0) else []) else []
noncomputable def Nc (f : Nat) (j : Int) (st : fZ) : List fZ := if b2i (asb t T s bs st j) = 1 then Wc t u T s bs v f (j + 1) st else []
theorem Wc_s (f : Nat) (j : Int) (st : fZ) : Wc t u T s bs v (f + 1) j st =
    if s 1 j 0 = 5 then (if 0 < rbh s j then (List.range ((fR T s bs st j - sbh s j).toNat + 1)).flatMap (fun c => Nc t u T s bs v f j (fW T st j (fA s bs v st j) (fR T s bs st j) c))
      else Nc t u T s bs v f j (fW T st j (fA s bs v st j) (fR T s bs st j) (fR T s bs st j - sbh s j).toNat))
    else if fR T s bs st j < 1 then []
    else if s 1 j 0 = 2 then (List.range (T (fA s bs v st j) 6).toNat).flatMap (fun d => Nc t u T s bs v f j (fO T st j (fA s bs v st j) (fR T s bs st j) d))
    else if b2i (okI t u T s (fA s bs v st j) j ∧ (s 1 j 0 = 4 → hpP s j (T (fA s bs v st j) 3))) = 1 then Nc t u T s bs v f j (fO T st j (fA s bs v st j) (fR T s bs st j) 0) else [] := rfl
end FD
theorem fm_nil {α : Type} {F : Nat → List α} : ∀ (n : Nat), (∀ c, c < n → F c = []) → (List.range n).flatMap F = []
  | 0, _ => rfl
  | n + 1, h => by
    rw [List.range_succ, List.flatMap_append, fm_nil n (fun c hc => h c (by omega))]
    simp [h n (by omega)]
theorem fm_cut {α : Type} {F : Nat → List α} {m : Nat} : ∀ (n : Nat), m ≤ n → (∀ c, m ≤ c → c < n → F c = []) → (List.range n).flatMap F = (List.range m).flatMap F
  | 0, h, _ => by have : m = 0 := by omega
                  rw [this]
  | n + 1, h, k => by
    by_cases c : m = n + 1
    · rw [c]
    · rw [List.range_succ, List.flatMap_append, fm_cut n (by omega) (fun c h0 h1 => k c h0 (by omega))]
      simp [k n (by omega) (by omega)]
theorem fm_congr {α : Type} {F G : Nat → List α} {l : List Nat} (h : ∀ c, c ∈ l → F c = G c) : l.flatMap F = l.flatMap G := by
  induction l with
  | nil => rfl
  | cons a l ih => rw [List.flatMap_cons, List.flatMap_cons, h a (by simp), ih (fun c hc => h c (by simp [hc]))]
theorem fm_one {α : Type} {F : Nat → List α} {m n : Nat} (h : m < n) (k : ∀ c, c < n → ¬ c = m → F c = []) : (List.range n).flatMap F = F m := by
  rw [fm_cut (m := m + 1) n (by omega) (fun c h0 h1 => k c h1 (by omega)), List.range_succ, List.flatMap_append, fm_nil m (fun c hc => k c (by omega) (by omega))]
  simp
section FI
variable {sd b0 n bs v : Int} {s : pS} {t u w : Int → Int} {T : pT}
/-- an item of a pattern that is searched for from -/
def bsI (s : pS) (b0 bs : Int) : Prop := b0 ≤ bs ∧ bs < s 0 0 1 ∧ ¬ s 1 bs 0 = 5
theorem rEn.bj (x : rEn w n sd b0 s) (b : bsI s b0 bs) {j : Int} (h0 : bs < j) (h1 : j < bs + s 1 bs 9) : j < s 0 0 1 ∧ bs ≤ s 1 j 3 ∧ s 1 j 3 < j ∧ (s 1 (s 1 j 3) 0 = 2 ∨ s 1 (s 1 j 3) 0 = 4) ∧ j + s 1 j 9 ≤ bs + s 1 bs 9 ∧ 1 ≤ s 1 j 9 ∧ s 1 j 3 + s 1 (s 1 j 3) 9 ≤ bs + s 1 bs 9 := by
  have sp := x.sp b.1 b.2.1
  have lm := x.within b.1 h0 h1
  have N := x.N
  obtain ⟨b1, b2, b3⟩ := b
  have pa := x.par (j := j) (by omega) (by omega)
  have sj := x.sp (j := j) (by omega) (by omega)
  refine ⟨by omega, lm.1, pa.2.1, pa.2.2, lm.2, sj.1, ?_⟩
  by_cases c : s 1 j 3 = bs
  · rw [c]; omega
  · have := x.within (e := s 1 j 3) b1 (by omega) (by omega)
    omega
/-- what must be left behind an item that is a part -/
def gdP (s : pS) (x m : Int) : Prop := sbh s x ≤ m ∧ (rbh s x = 0 → m = sbh s x)
def gdR (s : pS) (x m : Int) : Prop := sbh s x + 1 - iR s x ≤ m ∧ (rbh s x + iR s x = 0 → m = sbh s x + 1 - iR s x)
theorem iR01 (s : pS) (y : Int) : (s 1 y 0 = 5 ∧ iR s y = 1) ∨ (¬ s 1 y 0 = 5 ∧ iR s y = 0) := by
  unfold iR; by_cases c : s 1 y 0 = 5
  · rw [if_pos c]; exact Or.inl ⟨c, rfl⟩
  · rw [if_neg c]; exact Or.inr ⟨c, rfl⟩
/-- rows and singles behind, along the parts of a term -/
theorem rEn.bh (x : rEn w n sd b0 s) {p : Int} (h0 : b0 ≤ p) (h1 : p < s 0 0 1) (h4 : s 1 p 0 = 4) : ∀ (d : Nat) {y : Int}, iP s p y → s 1 p 6 - 1 - s 1 y 5 = d → 0 ≤ rbh s y ∧ 0 ≤ sbh s y := by
  have N := x.N
  intro d
  induction d with
  | zero =>
    intro y hy e
    have l := x.ls h0 hy h4 (by omega)
    unfold rbh sbh
    rw [hy.2.2]
    omega
  | succ d ih =>
    intro y hy e
    have l := x.nx h0 hy h4 (by omega)
    have i := ih l.1 (by omega)
    have r := iR01 s (y + s 1 y 9)
    unfold rbh sbh at *
    rw [l.1.2.2] at i
    rw [hy.2.2]
    omega
theorem rEn.bh2 (x : rEn w n sd b0 s) {y : Int} (h0 : b0 < y) (h1 : y < s 0 0 1) (h4 : s 1 (s 1 y 3) 0 = 4) : 0 ≤ rbh s y ∧ 0 ≤ sbh s y := by
  have p := x.par h0 h1
  have := x.pi p.1 ⟨p.2.1, h1, rfl⟩ h4
  exact x.bh p.1 (by omega) h4 (s 1 (s 1 y 3) 6 - 1 - s 1 y 5).toNat ⟨p.2.1, h1, rfl⟩ (by omega)
/-- of the last part nothing is left -/
theorem rEn.g0 (x : rEn w n sd b0 s) {y m : Int} (h0 : b0 < y) (h1 : y < s 0 0 1) (h4 : s 1 (s 1 y 3) 0 = 4) (hl : s 1 y 3 + s 1 (s 1 y 3) 9 = y + s 1 y 9) : gdP s y m ↔ m = 0 := by
  have p := x.par h0 h1
  have l := x.ls p.1 ⟨p.2.1, h1, rfl⟩ h4 (fun c => by have := x.nx p.1 ⟨p.2.1, h1, rfl⟩ h4 c; omega)
  unfold gdP rbh sbh
  omega
/-- from a part to the one behind it -/
theorem rEn.gn (x : rEn w n sd b0 s) {y m : Int} (h0 : b0 < y) (h1 : y < s 0 0 1) (h4 : s 1 (s 1 y 3) 0 = 4) (hl : ¬ s 1 y 3 + s 1 (s 1 y 3) 9 = y + s 1 y 9) : y + s 1 y 9 < s 1 y 3 + s 1 (s 1 y 3) 9 ∧ s 1 (y + s 1 y 9) 3 = s 1 y 3 ∧ s 1 (y + s 1 y 9) 4 = y ∧ (gdR s (y + s 1 y 9) m ↔ gdP s y m) := by
  have p := x.par h0 h1
  have c : s 1 y 5 + 1 < s 1 (s 1 y 3) 6 := by
    apply Classical.byContradiction; intro c
    have := x.ls p.1 ⟨p.2.1, h1, rfl⟩ h4 c
    omega
  have l := x.nx p.1 ⟨p.2.1, h1, rfl⟩ h4 c
  refine ⟨by omega, l.1.2.2, l.2.2.1, ?_⟩
  unfold gdR gdP rbh sbh
  rw [l.1.2.2]
  omega
/-- the first part -/
theorem rEn.gf (x : rEn w n sd b0 s) {p m : Int} (h0 : b0 ≤ p) (h1 : p < s 0 0 1) (h4 : s 1 p 0 = 4) (hm : 0 < s 1 p 6) : s 1 (p + 1) 3 = p ∧ s 1 (p + 1) 4 = -1 ∧ (gdR s (p + 1) m ↔ hpP s p m) := by
  have l := x.f1 h0 h1 h4 hm
  refine ⟨l.1.2.2, l.2.2.1, ?_⟩
  unfold gdR hpP rbh sbh
  rw [l.1.2.2]
  omega
/-- where a part stands: the first one, or behind another -/
theorem rEn.wh (x : rEn w n sd b0 s) {y : Int} (h0 : b0 < y) (h1 : y < s 0 0 1) (h4 : s 1 (s 1 y 3) 0 = 4) :
    (s 1 y 4 = -1 ∧ y = s 1 y 3 + 1 ∧ 0 < s 1 (s 1 y 3) 6) ∨ (¬ s 1 y 4 = -1 ∧ s 1 y 3 < s 1 y 4 ∧ s 1 y 4 < y ∧ s 1 (s 1 y 4) 3 = s 1 y 3 ∧ s 1 y 4 + s 1 (s 1 y 4) 9 = y ∧ ¬ s 1 (s 1 y 4) 3 + s 1 (s 1 (s 1 y 4) 3) 9 = s 1 y 4 + s 1 (s 1 y 4) 9) := by
  have N := x.N
  have p := x.par h0 h1
  have pi := x.pi p.1 ⟨p.2.1, h1, rfl⟩ h4
  have a := (x.A (j := y) (by omega) h1).2.2.1 (by omega) h4
  by_cases z : s 1 y 5 = 0
  · have := a.2.2.1 z; exact Or.inl ⟨this.2.2.1, this.1, by omega⟩
  · have a := a.2.2.2 (by omega)
    have ns := x.ns h0 h1
    have sp := x.sp (j := y) (by omega) h1
    refine Or.inr ⟨by omega, a.1, a.2.1, a.2.2.1, by omega, ?_⟩
    rw [a.2.2.1]
    omega
/-- no way comes of it -/
def dead (T : pT) (bs : Int) (s : pS) (st : fZ) (j : Int) : Prop := (bs < j ∧ j < bs + s 1 bs 9 ∧ s 1 (s 1 j 3) 0 = 4 ∧ ¬ gdR s j (fR T s bs st j)) ∨ (∃ y, bs < y ∧ y < j ∧ j < y + s 1 y 9 ∧ s 1 (s 1 y 3) 0 = 4 ∧ y < bs + s 1 bs 9 ∧ ¬ gdP s y (st 4 y))
def dea1 (bs : Int) (s : pS) (st : fZ) (j : Int) : Prop := ∃ y, bs < y ∧ y ≤ j ∧ j < y + s 1 y 9 ∧ s 1 (s 1 y 3) 0 = 4 ∧ ¬ gdP s y (st 4 y)
theorem dead_1 {st : fZ} {j a l r y f : Int} (d : dead T bs s st j) (h : s 1 (s 1 j 3) 0 = 4 → bs < j → ¬ gdR s j (fR T s bs st j) → ¬ gdP s j f) (h9 : 1 ≤ s 1 j 9) : dea1 bs s (fU st j a l r y f) j := by
  rcases d with d | ⟨z, d1, d2, d3, d4, _, d5⟩
  · exact ⟨j, d.1, by omega, by omega, d.2.2.1, by rw [fU_4]; exact h d.2.2.1 d.1 d.2.2.2⟩
  · exact ⟨z, d1, by omega, d3, d4, by rw [fU_o (by omega)]; exact d5⟩
theorem dea1_N (x : rEn w n sd b0 s) (b : bsI s b0 bs) {f : Nat} {j : Int} {st : fZ} (ih : dead T bs s st (j + 1) → Wm t u T s bs v f (j + 1) st = []) (h1 : j < bs + s 1 bs 9) (d : dea1 bs s st j) : Nm t u T s bs v f j st = [] := by
  obtain ⟨y, d1, d2, d3, d4, d5⟩ := d
  have N := x.N
  have bj := x.bj b d1 (by omega)
  obtain ⟨b1, b2, b3⟩ := b
  unfold Nm
  by_cases c : b2i (asb t T s bs st j ∧ pck T s bs st j) = 1
  · rw [if_pos c]
    have c : asb t T s bs st j ∧ pck T s bs st j := by
      apply Classical.byContradiction; intro e; rw [b2i_neg e] at c; omega
    apply ih
    by_cases e : j + 1 < y + s 1 y 9
    · exact Or.inr ⟨y, d1, by omega, e, d4, by omega, d5⟩
    · have e : y + s 1 y 9 = j + 1 := by omega
      by_cases e2 : s 1 y 3 + s 1 (s 1 y 3) 9 = y + s 1 y 9
      · exact absurd ((x.g0 (by omega) bj.1 d4 e2).2 (c.2.2 y d1 d2 e d4 (by omega))) d5
      · have g := x.gn (m := st 4 y) (by omega) bj.1 d4 e2
        rw [e] at g
        refine Or.inl ⟨by omega, by omega, by rw [g.2.1]; exact d4, ?_⟩
        have q : fR T s bs st (j + 1) = st 4 y := by
          unfold fR
          rw [if_neg (by omega), g.2.1, if_neg (by omega), g.2.2.1, if_neg (by omega)]
        rw [q, g.2.2.2]
        exact d5
  · rw [if_neg c]
theorem gd_R {j r : Int} {c : Nat} (h : s 1 j 0 = 5) (p : 0 ≤ rbh s j) (q : ¬ gdR s j r) : ¬ gdP s j (r - c) := by
  have := iR01 s j
  unfold gdR at q
  unfold gdP
  omega
theorem gd_S {j r : Int} (h : ¬ s 1 j 0 = 5) : gdR s j r ↔ gdP s j (r - 1) := by
  have := iR01 s j
  unfold gdR gdP
  omega
theorem dead_N (x : rEn w n sd b0 s) (b : bsI s b0 bs) : ∀ (f : Nat) (j : Int) (st : fZ), bs + s 1 bs 9 - j = f → bs ≤ j → dead T bs s st j → Wm t u T s bs v f j st = [] := by
  have N := x.N
  intro f
  induction f with
  | zero =>
    intro j st e h0 d
    exfalso
    rcases d with d | ⟨y, d1, d2, d3, d4, d6, d5⟩
    · omega
    · have := x.bj b d1 d6; omega
  | succ f ih =>
    intro j st e h0 d
    have h9 : j < s 0 0 1 ∧ 1 ≤ s 1 j 9 := by
      by_cases c : j = bs
      · rw [c]; exact ⟨b.2.1, (x.sp b.1 b.2.1).1⟩
      · have := x.bj b (j := j) (by omega) (by omega); omega
    have rb : s 1 (s 1 j 3) 0 = 4 → bs < j → 0 ≤ rbh s j := fun c1 c2 => (x.bh2 (by have := b.1; omega) h9.1 c1).1
    rw [Wm_s]
    by_cases c5 : s 1 j 0 = 5
    · rw [if_pos c5]
      refine fm_nil _ (fun c hc => ?_)
      refine dea1_N x b (ih (j + 1) _ (by omega) (by omega)) (by omega) ?_
      exact dead_1 d (fun p1 p2 p3 => gd_R c5 (rb p1 p2) p3) h9.2
    · rw [if_neg c5]
      have dS : ∀ k, dea1 bs s (fO T st j (fA s bs v st j) (fR T s bs st j) k) j := fun k => dead_1 d (fun p1 p2 p3 q => p3 ((gd_S c5).2 q)) h9.2
      split
      · rfl
      · split
        · exact fm_nil _ (fun c hc => dea1_N x b (ih (j + 1) _ (by omega) (by omega)) (by omega) (dS c))
        · split
          · exact dea1_N x b (ih (j + 1) _ (by omega) (by omega)) (by omega) (dS 0)
          · rfl
/-- what the class's own search keeps -/
def cIv (T : pT) (s : pS) (bs : Int) (st : fZ) (j : Int) : Prop := (∀ y, bs < y → y < j → s 1 (s 1 y 3) 0 = 4 → gdP s y (st 4 y)) ∧ (∀ p, bs ≤ p → p < j → s 1 p 0 = 4 → hpP s p (T (st 0 p) 3))
theorem cIv_g (x : rEn w n sd b0 s) (b : bsI s b0 bs) {st : fZ} {j : Int} (c : cIv T s bs st j) (h0 : bs < j) (h1 : j < bs + s 1 bs 9) (h4 : s 1 (s 1 j 3) 0 = 4) : gdR s j (fR T s bs st j) := by
  have bj := x.bj b h0 h1
  obtain ⟨b1, b2, b3⟩ := b
  have wh := x.wh (by omega) bj.1 h4
  unfold fR
  rw [if_neg (by omega), if_neg (by omega)]
  rcases wh with q | q
  · rw [if_pos q.1]
    have g := x.gf (m := T (st 0 (s 1 j 3)) 3) (by omega) (by omega) h4 q.2.2
    rw [← q.2.1] at g
    exact g.2.2.2 (c.2 _ (by omega) (by omega) h4)
  · rw [if_neg q.1]
    have g := x.gn (y := s 1 j 4) (m := st 4 (s 1 j 4)) (by omega) (by omega) (by rw [q.2.2.2.1]; exact h4) q.2.2.2.2.2
    rw [q.2.2.2.2.1] at g
    exact g.2.2.2.2 (c.1 _ (by omega) (by omega) (by rw [q.2.2.2.1]; exact h4))
theorem cIv_p (x : rEn w n sd b0 s) (b : bsI s b0 bs) {st : fZ} {j : Int} (c : cIv T s bs st (j + 1)) (h0 : bs ≤ j) (h1 : j < bs + s 1 bs 9) : pck T s bs st j := by
  obtain ⟨c1, c2⟩ := c
  have sp := x.sp b.1 b.2.1
  refine ⟨fun h4 h6 => ?_, fun y y0 y1 y2 y3 y4 => ?_⟩
  · have := c2 j h0 (by omega) h4
    unfold hpP at this
    have := x.f0 (p := j) (by have := b.1; omega) (by omega) h4 h6
    omega
  · have g := c1 y y0 (by omega) y3
    have bj := x.bj b y0 (by omega)
    exact (x.g0 (by have := b.1; omega) bj.1 y3 (by omega)).1 g
theorem cIv_u {st : fZ} {j a l r y f : Int} (c : cIv T s bs st j) (h4 : bs < j → s 1 (s 1 j 3) 0 = 4 → gdP s j f) (hp : s 1 j 0 = 4 → hpP s j (T a 3)) : cIv T s bs (fU st j a l r y f) (j + 1) := by
  obtain ⟨c1, c2⟩ := c
  refine ⟨fun z z0 z1 z4 => ?_, fun p p0 p1 p4 => ?_⟩
  · by_cases e : z = j
    · subst e; rw [fU_4]; exact h4 z0 z4
    · rw [fU_o e]; exact c1 z z0 (by omega) z4
  · by_cases e : p = j
    · subst e; rw [fU_0]; exact hp p4
    · rw [fU_o e]; exact c2 p p0 (by omega) p4
theorem Nm_c {f : Nat} {j : Int} {st : fZ} (p : pck T s bs st j) (e : Wm t u T s bs v f (j + 1) st = Wc t u T s bs v f (j + 1) st) : Nm t u T s bs v f j st = Nc t u T s bs v f j st := by
  unfold Nm Nc
  rw [e, b2i_congr (show asb t T s bs st j ∧ pck T s bs st j ↔ asb t T s bs st j from ⟨fun q => q.1, fun q => ⟨q, p⟩⟩)]
theorem Wm_c (x : rEn w n sd b0 s) (b : bsI s b0 bs) : ∀ (f : Nat) (j : Int) (st : fZ), bs + s 1 bs 9 - j = f → bs ≤ j → cIv T s bs st j → Wm t u T s bs v f j st = Wc t u T s bs v f j st := by
  have N := x.N
  intro f
  induction f with
  | zero => intro j st e h0 c; rfl
  | succ f ih =>
    intro j st e h0 ci
    have h9 : j < s 0 0 1 ∧ 1 ≤ s 1 j 9 := by
      by_cases c : j = bs
      · rw [c]; exact ⟨b.2.1, (x.sp b.1 b.2.1).1⟩
      · have := x.bj b (j := j) (by omega) (by omega); omega
    have go : ∀ st', cIv T s bs st' (j + 1) → Nm t u T s bs v f j st' = Nc t u T s bs v f j st' := fun st' c => Nm_c (cIv_p x b c h0 (by omega)) (ih (j + 1) st' (by omega) (by omega) c)
    have no : ∀ st', dea1 bs s st' j → Nm t u T s bs v f j st' = [] := fun st' d => dea1_N x b (dead_N x b f (j + 1) st' (by omega) (by omega)) (by omega) d
    rw [Wm_s, Wc_s]
    generalize ea : fA s bs v st j = a
    by_cases c5 : s 1 j 0 = 5
    · rw [if_pos c5, if_pos c5]
      have ro := x.ro (by have := b.1; omega) h9.1 c5
      have hb : bs < j := by
        have : ¬ j = bs := fun c => b.2.2 (c ▸ c5)
        omega
      have gr := cIv_g x b ci hb (by omega) ro.2
      have rb := x.bh2 ro.1 h9.1 ro.2
      have i1 : iR s j = 1 := by rcases iR01 s j with q | q; exact q.2; exact absurd c5 q.1
      unfold gdR at gr
      rw [i1] at gr
      generalize er : fR T s bs st j = r at *
      have dd : ∀ c : Nat, ¬ gdP s j (r - c) → Nm t u T s bs v f j (fW T st j a r c) = [] := fun c q => no _ ⟨j, hb, by omega, by omega, ro.2, by unfold fW; rw [fU_4]; exact q⟩
      have gg : ∀ c : Nat, gdP s j (r - c) → Nm t u T s bs v f j (fW T st j a r c) = Nc t u T s bs v f j (fW T st j a r c) := fun c q => go _ (cIv_u ci (fun _ _ => q) (fun h4 => by omega))
      by_cases c0 : 0 < rbh s j
      · rw [if_pos c0, fm_cut (m := (r - sbh s j).toNat + 1) _ (by omega) (fun c h0 h1 => dd c (by unfold gdP; omega))]
        exact fm_congr (fun c hc => gg c (by have := List.mem_range.1 hc; unfold gdP; omega))
      · rw [if_neg c0, fm_one (m := (r - sbh s j).toNat) (by omega) (fun c h0 h1 => dd c (by unfold gdP; omega))]
        exact gg _ (by unfold gdP; omega)
    · rw [if_neg c5, if_neg c5]
      by_cases cr : fR T s bs st j < 1
      · rw [if_pos cr, if_pos cr]
      · rw [if_neg cr, if_neg cr]
        have gs : bs < j → s 1 (s 1 j 3) 0 = 4 → gdP s j (fR T s bs st j - 1) := fun q1 q2 => (gd_S c5).1 (cIv_g x b ci q1 (by omega) q2)
        by_cases c2 : s 1 j 0 = 2
        · rw [if_pos c2, if_pos c2]
          exact fm_congr (fun c hc => go _ (cIv_u ci gs (fun h4 => by omega)))
        · rw [if_neg c2, if_neg c2]
          by_cases ok : okI t u T s a j
          · rw [b2i_pos ok, if_pos rfl]
            by_cases hp : s 1 j 0 = 4 → hpP s j (T a 3)
            · rw [b2i_pos ⟨ok, hp⟩, if_pos rfl]
              exact go _ (cIv_u ci gs (fun h4 => by rw [show a + ((0 : Nat) : Int) = a by omega]; exact hp h4))
            · rw [b2i_neg (fun q => hp q.2), if_neg (by omega)]
              have h4 : s 1 j 0 = 4 := Classical.byContradiction (fun c => hp (fun d => absurd d c))
              have hp : ¬ hpP s j (T a 3) := fun q => hp (fun _ => q)
              by_cases m0 : s 1 j 6 = 0
              · unfold Nm
                rw [if_neg]
                intro q
                have f0 := x.f0 (p := j) (by have := b.1; omega) h9.1 h4 m0
                have q : asb t T s bs (fO T st j a (fR T s bs st j) 0) j ∧ pck T s bs (fO T st j a (fR T s bs st j) 0) j := by
                  apply Classical.byContradiction; intro e; rw [b2i_neg e] at q; omega
                have := q.2.1 h4 m0
                unfold fO at this
                rw [fU_0, show a + ((0 : Nat) : Int) = a by omega] at this
                exact hp (by unfold hpP; omega)
              · unfold Nm
                split
                · have m1 := x.m0 (j := j) (by have := b.1; omega) h9.1
                  have gf := x.gf (p := j) (m := T a 3) (by have := b.1; omega) h9.1 h4 (by omega)
                  have f1 := x.f1 (p := j) (by have := b.1; omega) h9.1 h4 (by omega)
                  have ns := x.ns (y := j + 1) (by have := b.1; omega) f1.1.2.1
                  rw [f1.1.2.2] at ns
                  have s1 := x.sp (j := j + 1) (by have := b.1; omega) f1.1.2.1
                  have je : j + s 1 j 9 ≤ bs + s 1 bs 9 := by
                    by_cases c : j = bs
                    · rw [c]; omega
                    · have := x.bj b (j := j) (by omega) (by omega); omega
                  refine dead_N x b f (j + 1) _ (by omega) (by omega) (Or.inl ⟨by omega, by omega, by rw [gf.1]; exact h4, ?_⟩)
                  have q : fR T s bs (fO T st j a (fR T s bs st j) 0) (j + 1) = T a 3 := by
                    unfold fR
                    rw [if_neg (by omega), gf.1, if_neg (by omega), gf.2.1, if_pos rfl]
                    unfold fO
                    rw [fU_0, show a + ((0 : Nat) : Int) = a by omega]
                  rw [q, gf.2.2]
                  exact hp
                · rfl
          · rw [b2i_neg ok, if_neg (by omega), b2i_neg (fun q => ok q.1), if_neg (by omega)]
end FI
