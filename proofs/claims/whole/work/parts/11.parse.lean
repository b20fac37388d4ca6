/-! Reading a source, as a function of the text alone. Columns: kind 0, up 1, nth 2, many 3, begin 4, end 5, size 6, within 7, word 8, letters 9. -/
abbrev pT : Type := Int → Nat → Int
/-- where a comment's reading ends -/
def pcm (t : Int → Int) : Nat → Int → Int
  | 0, j => j
  | k + 1, j => if ¬ t j = 93 ∧ (t j = 10 ∨ (32 ≤ t j ∧ t j ≤ 126)) then pcm t k (j + 1) else j
def cadd (C : pT) (nc p l op : Int) : pT := fun i j => if i = nc then (if j = 0 then p else if j = 1 then l else op) else C i j
def ply (t : Int → Int) (n op : Int) : Nat → Int → Int → pT → Bool × Int × Int × pT
  | 0, p, nc, C => (true, p, nc, C)
  | k + 1, p, nc, C =>
    if t p = 32 ∨ t p = 10 then ply t n op k (p + 1) nc C
    else if t p = 91 then
      (if t (pcm t (n - (p + 1)).toNat (p + 1)) = 93 then ply t n op k (pcm t (n - (p + 1)).toNat (p + 1) + 1) (nc + 1) (cadd C nc p (pcm t (n - (p + 1)).toNat (p + 1) + 1 - p) op)
       else (false, pcm t (n - (p + 1)).toNat (p + 1), nc, C))
    else (true, p, nc, C)
def nadd (T : pT) (nd op p kd : Int) : pT := fun i j =>
  if i = nd then (if j = 0 then kd else if j = 1 then op else if j = 2 then (if op = -1 then -1 else T op 3) else if j = 4 then p else if j = 7 then (if op = -1 then 0 else T op 7 + 1) else 0)
  else if i = op ∧ j = 3 then T i 3 + 1 else T i j
def nnam (T : pT) (nd p r : Int) : pT := fun i j => if i = nd ∧ j = 8 then p else if i = nd ∧ j = 9 then r else T i j
def nfin (T : pT) (nd e s : Int) : pT := fun i j => if i = nd ∧ j = 5 then e else if i = nd ∧ j = 6 then s else T i j
/-- whether, where, nodes, comments, the open term, tables -/
abbrev pZ : Type := Bool × Int × Int × Int × Int × pT × pT
def pmo (b : Int) : Nat := if b = 0 then 4 else 8
def prl (t : Int → Int) (b p : Int) : Int := rowL t b (pmo b + 1) p
def pleaf (t : Int → Int) (p nd nc op : Int) (T C : pT) (b : Int) : pZ :=
  if prl t b p ≤ pmo b then (true, p + prl t b p, nd + 1, nc, op, nfin (nnam (nadd T nd op p b) nd p (prl t b p)) nd (p + prl t b p) 1, C)
  else (false, p + pmo b, nd, nc, op, T, C)
def popen (t : Int → Int) (nd op p : Int) (T : pT) (r : Bool × Int × Int × pT) : pZ :=
  if r.1 = true ∧ isL (t r.2.1) then
    (if prl t 1 r.2.1 ≤ 8 then (true, r.2.1 + prl t 1 r.2.1, nd + 1, r.2.2.1, nd, nnam (nadd T nd op p 2) nd r.2.1 (prl t 1 r.2.1), r.2.2.2)
     else (false, r.2.1 + 8, nd, r.2.2.1, op, T, r.2.2.2))
  else (false, r.2.1, nd, r.2.2.1, op, T, r.2.2.2)
abbrev pbad (t : Int → Int) (p nd op : Int) (T : pT) : Prop := (¬ t p = 40 ∧ ¬ isL (t p) ∧ ¬ isD (t p)) ∨ nd = 60 ∨ (¬ op = -1 ∧ (12 ≤ T op 3 ∨ (t p = 40 ∧ T op 7 + 1 = 16)))
def pnode (t : Int → Int) (n p nd nc op : Int) (T C : pT) : pZ :=
  if pbad t p nd op T then (false, p, nd, nc, op, T, C)
  else if t p = 40 then popen t nd op p T (ply t n nd 301 (p + 1) nc C)
  else pleaf t p nd nc op T C (if isL (t p) then 1 else 0)
def pbody (t : Int → Int) (n p nd nc op : Int) (T C : pT) : pZ :=
  if t p = 41 ∧ ¬ op = -1 then (true, p + 1, nd, nc, T op 1, nfin T op (p + 1) (nd - op), C) else pnode t n p nd nc op T C
def pterm (t : Int → Int) (n : Int) : Nat → Int → Int → Int → Int → pT → pT → pZ
  | 0, p, nd, nc, op, T, C => (false, p, nd, nc, op, T, C)
  | k + 1, p, nd, nc, op, T, C => match ply t n op 301 p nc C with
    | (false, p1, nc1, C1) => (false, p1, nd, nc1, op, T, C1)
    | (true, p1, nc1, C1) => match pbody t n p1 nd nc1 op T C1 with
      | (false, p2, nd2, nc2, op2, T2, C2) => (false, p2, nd2, nc2, op2, T2, C2)
      | (true, p2, nd2, nc2, op2, T2, C2) => if op2 = -1 then (true, p2, nd2, nc2, op2, T2, C2) else pterm t n k p2 nd2 nc2 op2 T2 C2
def pread (t : Int → Int) (n : Int) : pZ := match pterm t n 301 0 0 0 (-1) (fun _ _ => 0) (fun _ _ => 0) with
  | (false, p, nd, nc, op, T, C) => (false, p, nd, nc, op, T, C)
  | (true, p, nd, nc, op, T, C) => match ply t n op 301 p nc C with
    | (false, p1, nc1, C1) => (false, p1, nd, nc1, op, T, C1)
    | (true, p1, nc1, C1) => if p1 = n then (true, p1, nd, nc1, op, T, C1) else (false, p1, nd, nc1, op, T, C1)
/-- where a comment's reading ends -/
theorem pcm_rg {t : Int → Int} {n : Int} (o : tOk t n) : ∀ (k : Nat) (j : Int), 0 ≤ j → j ≤ n → j ≤ pcm t k j ∧ pcm t k j ≤ n
  | 0, j, _, h => ⟨Int.le_refl _, h⟩
  | k + 1, j, h0, h => by
    unfold pcm
    split
    · rename_i q
      have hj : ¬ t j = -1 := by omega
      have := o.lt hj
      have := pcm_rg o k (j + 1) (by omega) (by omega)
      omega
    · omega
/-- with fuel enough it ends at a sign that ends it -/
theorem pcm_end {t : Int → Int} {n : Int} (o : tOk t n) : ∀ (k : Nat) (j : Int), 0 ≤ j → j ≤ n → n - j ≤ k → t (pcm t k j) = 93 ∨ ¬ (t (pcm t k j) = 10 ∨ (32 ≤ t (pcm t k j) ∧ t (pcm t k j) ≤ 126))
  | 0, j, h0, h, hk => by
    have : t j = -1 := o.ge (by omega)
    unfold pcm; omega
  | k + 1, j, h0, h, hk => by
    unfold pcm
    split
    · rename_i q
      have hj : ¬ t j = -1 := by omega
      have := o.lt hj
      exact pcm_end o k (j + 1) (by omega) (by omega) (by omega)
    · omega
theorem ply_rg {t : Int → Int} {n : Int} (o : tOk t n) (op : Int) : ∀ (k : Nat) (p nc : Int) (C : pT), 0 ≤ p → p ≤ n → 0 ≤ nc → 2 * nc ≤ p →
    p ≤ (ply t n op k p nc C).2.1 ∧ (ply t n op k p nc C).2.1 ≤ n ∧ nc ≤ (ply t n op k p nc C).2.2.1 ∧ 2 * (ply t n op k p nc C).2.2.1 ≤ (ply t n op k p nc C).2.1 ∧
    (∀ i j, i < nc → (ply t n op k p nc C).2.2.2 i j = C i j)
  | 0, p, nc, C, h0, h1, h2, h3 => by
    unfold ply; exact ⟨Int.le_refl _, h1, Int.le_refl _, h3, fun _ _ _ => rfl⟩
  | k + 1, p, nc, C, h0, h1, h2, h3 => by
    unfold ply
    split
    · rename_i q
      have hj : ¬ t p = -1 := by omega
      have := o.lt hj
      have := ply_rg o op k (p + 1) nc C (by omega) (by omega) h2 (by omega)
      refine ⟨by omega, by omega, by omega, by omega, this.2.2.2.2⟩
    · split
      · rename_i q
        have hj : ¬ t p = -1 := by omega
        have hp := o.lt hj
        have hr := pcm_rg o (n - (p + 1)).toNat (p + 1) (by omega) (by omega)
        split
        · rename_i q2
          have hj2 : ¬ t (pcm t (n - (p + 1)).toNat (p + 1)) = -1 := by omega
          have := o.lt hj2
          have hh := ply_rg o op k (pcm t (n - (p + 1)).toNat (p + 1) + 1) (nc + 1) (cadd C nc p (pcm t (n - (p + 1)).toNat (p + 1) + 1 - p) op) (by omega) (by omega) (by omega) (by omega)
          refine ⟨by omega, by omega, by omega, by omega, fun i j hi => ?_⟩
          rw [hh.2.2.2.2 i j (by omega)]
          unfold cadd; rw [if_neg (by omega)]
        · exact ⟨by dsimp only; omega, by dsimp only; omega, Int.le_refl _, by dsimp only; omega, fun _ _ _ => rfl⟩
      · exact ⟨Int.le_refl _, h1, Int.le_refl _, h3, fun _ _ _ => rfl⟩
/-- with fuel enough, where layout ends well there is none -/
theorem ply_end {t : Int → Int} {n : Int} (o : tOk t n) (op : Int) : ∀ (k : Nat) (p nc : Int) (C : pT), 0 ≤ p → p ≤ n → n < k + p → (ply t n op k p nc C).1 = true →
    ¬ (t (ply t n op k p nc C).2.1 = 32 ∨ t (ply t n op k p nc C).2.1 = 10 ∨ t (ply t n op k p nc C).2.1 = 91)
  | 0, p, nc, C, h0, h1, h2 => by omega
  | k + 1, p, nc, C, h0, h1, h2 => by
    unfold ply
    split
    · rename_i q
      have hj : ¬ t p = -1 := by omega
      have := o.lt hj
      exact ply_end o op k (p + 1) nc C (by omega) (by omega) (by omega)
    · split
      · rename_i q
        have hj : ¬ t p = -1 := by omega
        have hp := o.lt hj
        have hr := pcm_rg o (n - (p + 1)).toNat (p + 1) (by omega) (by omega)
        split
        · rename_i q2
          have hj2 : ¬ t (pcm t (n - (p + 1)).toNat (p + 1)) = -1 := by omega
          have := o.lt hj2
          exact ply_end o op k _ _ _ (by omega) (by omega) (by omega)
        · intro e; cases e
      · intro _; dsimp only; omega
theorem prl_rg {t : Int → Int} {n : Int} (o : tOk t n) (b p : Int) (hp : p ≤ n) : 0 ≤ prl t b p ∧ p + prl t b p ≤ n ∧ prl t b p ≤ pmo b + 1 := by
  have h1 := rowL_rg t b (pmo b + 1) p
  have h2 := rowL_in o b (pmo b + 1) p hp
  unfold prl
  omega
theorem prl_pos {t : Int → Int} (b p : Int) (h : isP b (t p)) : 1 ≤ prl t b p := by
  have h1 := rowL_rg t b (pmo b) (p + 1)
  unfold prl rowL
  rw [if_pos h]; omega
/-- what holds of every state of the reading -/
def pR (T : pT) (i : Int) : Prop := -1 ≤ T i 1 ∧ T i 1 < i ∧ 0 ≤ T i 3 ∧ T i 3 ≤ 12 ∧ 0 ≤ T i 7 ∧ T i 7 ≤ 16 ∧ (T i 1 = -1 → T i 7 = 0) ∧ (¬ T i 1 = -1 → T i 7 = T (T i 1) 7 + 1 ∧ T (T i 1) 7 ≤ 15) ∧ (T i 6 = 0 → T i 7 ≤ 15 ∧ (¬ T i 1 = -1 → T (T i 1) 6 = 0)) ∧ 1 ≤ T i 9 ∧ T i 9 ≤ 8
def pO (nd op : Int) (T : pT) : Prop := (¬ op = -1 → T op 6 = 0) ∧ (∀ i, 0 ≤ i → i < nd → T i 6 = 0 → i ≤ op) ∧ (∀ i j, 0 ≤ i → i < j → j < nd → T i 6 = 0 → T j 6 = 0 → i ≤ T j 1)
def pI (n p nd nc op : Int) (T : pT) : Prop := 0 ≤ p ∧ p ≤ n ∧ 0 ≤ nd ∧ nd ≤ 60 ∧ 0 ≤ nc ∧ 2 * nc ≤ p ∧ -1 ≤ op ∧ op < nd ∧ pO nd op T ∧ (∀ i, 0 ≤ i → i < nd → pR T i)
theorem pI_ply {t : Int → Int} {n p nd nc op : Int} {T C : pT} (o : tOk t n) (q : pI n p nd nc op T) {k : Nat} {op1 : Int} : pI n (ply t n op1 k p nc C).2.1 nd (ply t n op1 k p nc C).2.2.1 op T := by
  obtain ⟨a1, a2, a3, a4, a5, a6, a7, a8, a9, a10⟩ := q
  have := ply_rg o op1 k p nc C a1 a2 a5 a6
  exact ⟨by omega, by omega, a3, a4, by omega, by omega, a7, a8, a9, a10⟩
theorem pI_close {n p nd nc op : Int} {T : pT} (q : pI n p nd nc op T) (hop : ¬ op = -1) (hp : p < n) : pI n (p + 1) nd nc (T op 1) (nfin T op (p + 1) (nd - op)) := by
  obtain ⟨a1, a2, a3, a4, a5, a6, a7, a8, ⟨b1, b2, b3⟩, a10⟩ := q
  have r := a10 op (by omega) a8
  unfold pR at r
  refine ⟨by omega, by omega, a3, a4, a5, by omega, by omega, by omega, ⟨?_, ?_, ?_⟩, ?_⟩
  · grind [nfin]
  · intro i h0 h1 h2
    have e : T i 6 = 0 ∧ ¬ i = op := by clear a10 b2 b3 r; grind [nfin]
    have := b2 i h0 h1 e.1
    have := b3 i op h0 (by omega) a8 e.1 (b1 hop)
    omega
  · grind [nfin]
  · intro i h0 h1
    have ri := a10 i h0 h1
    have := b2 i h0 h1
    unfold pR at ri ⊢
    grind [nfin]
theorem pR_of {T T' : pT} {i : Int} (h : pR T i) (e : ∀ j, ¬ j = 3 → T' i j = T i j) (e2 : ¬ T i 1 = -1 → ∀ j, ¬ j = 3 → T' (T i 1) j = T (T i 1) j) (h3 : 0 ≤ T' i 3 ∧ T' i 3 ≤ 12) : pR T' i := by
  obtain ⟨a1, a2, a3, a4, a5, a6, a7, a8, a9, a10, a11⟩ := h
  unfold pR
  rw [e 1 (by decide), e 7 (by decide), e 6 (by decide), e 9 (by decide)]
  refine ⟨a1, a2, h3.1, h3.2, a5, a6, a7, fun c => ?_, fun c => ⟨(a9 c).1, fun d => ?_⟩, a10, a11⟩
  · rw [e2 c 7 (by decide)]; exact a8 c
  · rw [e2 d 6 (by decide)]; exact (a9 c).2 d
theorem pI_leaf {n p nd nc op kd r : Int} {T : pT} (q : pI n p nd nc op T) (hr : 1 ≤ r ∧ r ≤ 8) (hp : p + r ≤ n) (hn : ¬ nd = 60) (hb : ¬ op = -1 → ¬ 12 ≤ T op 3) : pI n (p + r) (nd + 1) nc op (nfin (nnam (nadd T nd op p kd) nd p r) nd (p + r) 1) := by
  obtain ⟨a1, a2, a3, a4, a5, a6, a7, a8, ⟨b1, b2, b3⟩, a10⟩ := q
  have r1 : ¬ op = -1 → pR T op := fun c => a10 op (by omega) a8
  refine ⟨by omega, by omega, by omega, by omega, a5, by omega, by omega, by omega, ⟨?_, ?_, ?_⟩, ?_⟩
  · grind [nfin, nnam, nadd]
  · intro i h0 h1 h2
    by_cases c : i = nd
    · grind [nfin, nnam, nadd]
    · exact b2 i h0 (by omega) (by clear a10 b2 b3 r1; grind [nfin, nnam, nadd])
  · intro i j h0 h1 h2 h3 h4
    by_cases c : j = nd
    · grind [nfin, nnam, nadd]
    · have := b3 i j h0 h1 (by omega) (by clear a10 b2 b3 r1; grind [nfin, nnam, nadd]) (by clear a10 b2 b3 r1; grind [nfin, nnam, nadd])
      clear a10 b2 b3 r1; grind [nfin, nnam, nadd]
  · intro i h0 h1
    have ri := fun h1 => a10 i h0 h1
    clear b2 b3
    by_cases c : i = nd
    · clear a10; unfold pR at ri r1 ⊢; grind [nfin, nnam, nadd]
    · refine pR_of (ri (by omega)) (fun j hj => ?_) (fun d j hj => ?_) ?_
      · simp [nfin, nnam, nadd, c, hj]
      · have : ¬ T i 1 = nd := by have := (ri (by omega)).2.1; omega
        simp [nfin, nnam, nadd, this, hj]
      · have u := ri (by omega)
        have u1 := u.2.2.1
        have u2 := u.2.2.2.1
        simp only [nfin, nnam, nadd, c, if_false, false_and]
        split
        · rename_i d
          have d1 := d.1
          rw [d1] at u1 u2 ⊢
          have := hb (by omega)
          omega
        · exact ⟨u1, u2⟩
theorem pI_open {n p p1 nd nc nc1 op r : Int} {T : pT} (q : pI n p nd nc op T) (hr : 1 ≤ r ∧ r ≤ 8) (h1 : p ≤ p1) (hp : p1 + r ≤ n) (hc : nc ≤ nc1) (hc1 : 2 * nc1 ≤ p1) (hn : ¬ nd = 60) (hb : ¬ op = -1 → ¬ 12 ≤ T op 3 ∧ ¬ T op 7 + 1 = 16) : pI n (p1 + r) (nd + 1) nc1 nd (nnam (nadd T nd op p 2) nd p1 r) := by
  obtain ⟨a1, a2, a3, a4, a5, a6, a7, a8, ⟨b1, b2, b3⟩, a10⟩ := q
  have r1 : ¬ op = -1 → pR T op := fun c => a10 op (by omega) a8
  refine ⟨by omega, by omega, by omega, by omega, by omega, by omega, by omega, by omega, ⟨?_, ?_, ?_⟩, ?_⟩
  · grind [nfin, nnam, nadd]
  · intro i h0 h1 h2; omega
  · intro i j h0 h1 h2 h3 h4
    by_cases c : j = nd
    · have := b2 i h0 (by omega) (by clear a10 b2 b3 r1; grind [nfin, nnam, nadd])
      grind [nfin, nnam, nadd]
    · have := b3 i j h0 h1 (by omega) (by clear a10 b2 b3 r1; grind [nfin, nnam, nadd]) (by clear a10 b2 b3 r1; grind [nfin, nnam, nadd])
      clear a10 b2 b3 r1; grind [nfin, nnam, nadd]
  · intro i h0 h1
    have ri := fun h1 => a10 i h0 h1
    clear b2 b3
    by_cases c : i = nd
    · clear a10; unfold pR at ri r1 ⊢; grind [nfin, nnam, nadd]
    · refine pR_of (ri (by omega)) (fun j hj => ?_) (fun d j hj => ?_) ?_
      · simp [nfin, nnam, nadd, c, hj]
      · have : ¬ T i 1 = nd := by have := (ri (by omega)).2.1; omega
        simp [nfin, nnam, nadd, this, hj]
      · have u := ri (by omega)
        have u1 := u.2.2.1
        have u2 := u.2.2.2.1
        simp only [nfin, nnam, nadd, c, if_false, false_and]
        split
        · rename_i d
          have d1 := d.1
          rw [d1] at u1 u2 ⊢
          have := hb (by omega)
          omega
        · exact ⟨u1, u2⟩
theorem pI_node {t : Int → Int} {n p nd nc op : Int} {T C : pT} (o : tOk t n) (q : pI n p nd nc op T) : ∀ {p2 nd2 nc2 op2 : Int} {T2 C2 : pT}, pnode t n p nd nc op T C = (true, p2, nd2, nc2, op2, T2, C2) → pI n p2 nd2 nc2 op2 T2 ∧ p < p2 := by
  intro p2 nd2 nc2 op2 T2 C2 e
  unfold pnode at e
  split at e
  · cases e
  · rename_i g
    have hpp : 0 ≤ p ∧ p < n := o.lt (by intro c; apply g; left; unfold isL isD; omega)
    split at e
    · rename_i g1
      unfold popen at e
      split at e
      · rename_i g2
        split at e
        · rename_i g3
          have hq := q
          obtain ⟨a1, a2, a3, a4, a5, a6, a7, a8, a9, a10⟩ := q
          have h1 := ply_rg o nd 301 (p + 1) nc C (by omega) (by omega) a5 (by omega)
          have h2 := prl_rg o 1 (ply t n nd 301 (p + 1) nc C).2.1 h1.2.1
          have h3 := prl_pos (t := t) 1 (ply t n nd 301 (p + 1) nc C).2.1 (Or.inr ⟨by omega, g2.2⟩)
          cases e
          refine ⟨pI_open hq ⟨h3, g3⟩ (by omega) h2.2.1 h1.2.2.1 (by omega) (by omega) (by omega), by omega⟩
        · cases e
      · cases e
    · rename_i g1
      have hb : isP (if isL (t p) then 1 else 0) (t p) := by
        by_cases c : isL (t p)
        · rw [if_pos c]; exact Or.inr ⟨by omega, c⟩
        · rw [if_neg c]; exact Or.inl ⟨rfl, by omega⟩
      revert e
      generalize (if isL (t p) then (1 : Int) else 0) = b at hb ⊢
      intro e
      unfold pleaf at e
      split at e
      · rename_i g3
        have a2 := q.2.1
        have h2 := prl_rg o b p a2
        have h3 := prl_pos (t := t) b p hb
        have h4 : pmo b ≤ 8 := by unfold pmo; split <;> omega
        cases e
        refine ⟨pI_leaf q ⟨h3, by omega⟩ h2.2.1 (by omega) (by omega), by omega⟩
      · cases e
theorem pI_body {t : Int → Int} {n p nd nc op : Int} {T C : pT} (o : tOk t n) (q : pI n p nd nc op T) : ∀ {p2 nd2 nc2 op2 : Int} {T2 C2 : pT}, pbody t n p nd nc op T C = (true, p2, nd2, nc2, op2, T2, C2) → pI n p2 nd2 nc2 op2 T2 ∧ p < p2 := by
  intro p2 nd2 nc2 op2 T2 C2 e
  unfold pbody at e
  split at e
  · rename_i g
    have hpp : 0 ≤ p ∧ p < n := o.lt (by omega)
    cases e
    exact ⟨pI_close q g.2 hpp.2, by omega⟩
  · exact pI_node o q e
