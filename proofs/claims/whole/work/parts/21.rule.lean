/-! Reading a rule, as a function of the text alone. Tables: 0 numbers (place 0, items 1, open 2, tokens 3 and 7, rows 4, deeps 5, open terms 6, end of the pattern 8),
1 items (op 0, hole 1, kind 2, parent 3, before 4, part 5, parts 6, rows 7, rows so far 8, span 9, word 10, length 11), 2 latest part, 3 and 7 tokens, 4 an item's token, 5 letters, 6 open terms. -/
abbrev pS : Type := Nat → Int → Nat → Int
def up (s : pS) (a : Nat) (i : Int) (j : Nat) (v : Int) : pS := fun b k l => if b = a ∧ k = i ∧ l = j then v else s b k l
theorem upE {s : pS} {a b : Nat} {i k : Int} {j l : Nat} {v : Int} : up s a i j v b k l = if b = a ∧ k = i ∧ l = j then v else s b k l := rfl
def opc (c : Int) : Int := if c = 40 then 4 else if c = 42 then 5 else if c = 63 then 1 else if c = 94 then 2 else if c = 95 then 0 else if isL c ∨ isD c then 3 else -1
/-- blanks -/
def pbl (t : Int → Int) : Nat → Int → Int
  | 0, p => p
  | k + 1, p => if t p = 32 then pbl t k (p + 1) else p
def kid (sd : Int) : Nat := if sd = 0 then 3 else 7
/-- an item is whole -/
def rfin (s : pS) (i : Int) : pS :=
  if s 1 i 3 = -1 then up (up s 1 i 9 (s 0 0 1 - i)) 0 0 2 (-1)
  else if s 1 (s 1 i 3) 0 = 2 then up (up (up (up s 1 i 9 (s 0 0 1 - i)) 0 0 2 (s 1 i 3)) 1 (s 1 i 3) 9 (s 0 0 1 - s 1 i 3)) 0 0 2 (s 1 (s 1 i 3) 3)
  else up (up s 1 i 9 (s 0 0 1 - i)) 0 0 2 (s 1 i 3)
def rhang (s : pS) (it op o : Int) : pS :=
  up (up (up (up (up (up s 1 it 5 (s 1 op 6)) 1 it 4 (if s 1 op 6 = 0 then -1 else s 2 op 0)) 2 op 0 it) 1 op 6 (s 1 op 6 + 1)) 1 op 7 (s 1 op 7 + (if o = 5 then 1 else 0))) 1 it 8 (s 1 op 7 + (if o = 5 then 1 else 0))
def radd0 (s : pS) (o : Int) : pS := up (up (up (up (up (up s 0 0 1 (s 0 0 1 + 1)) 1 (s 0 0 1) 0 o) 1 (s 0 0 1) 1 (-1)) 1 (s 0 0 1) 2 (-1)) 1 (s 0 0 1) 3 (s 0 0 2)) 1 (s 0 0 1) 4 (-1)
def radd1 (s : pS) (sd o : Int) : pS := if sd = 0 then up (up s 0 0 5 (s 0 0 5 + (if o = 2 then 1 else 0))) 0 0 4 (s 0 0 4 + (if o = 5 then 1 else 0)) else s
def radd (s : pS) (sd o : Int) : pS := if s 0 0 2 = -1 then radd1 (radd0 s o) sd o else rhang (radd1 (radd0 s o) sd o) (s 0 0 1) (s 0 0 2) o
/-- the term around counts its parts -/
def rcnt (s : pS) (sd op o : Int) : pS := if op = -1 ∨ ¬ s 1 op 0 = 4 then s
  else up (up s (kid sd) (s 4 op 0) 1 (s (kid sd) (s 4 op 0) 1 + 1)) (kid sd) (s 4 op 0) 5 (if o = 5 then 1 else s (kid sd) (s 4 op 0) 5)
def rput (s : pS) (sd w a b f l : Int) : pS := up (up (up (up (up (up (up s (kid sd) (s 0 0 (kid sd)) 0 w) (kid sd) (s 0 0 (kid sd)) 1 a) (kid sd) (s 0 0 (kid sd)) 2 b) (kid sd) (s 0 0 (kid sd)) 3 f) (kid sd) (s 0 0 (kid sd)) 4 l) (kid sd) (s 0 0 (kid sd)) 5 0) 0 0 (kid sd) (s 0 0 (kid sd) + 1)
/-- an item's own token -/
def rtok (s : pS) (sd it w a b f l : Int) : pS := up (rput s sd w a b f l) 4 it 0 (s 0 0 (kid sd))
abbrev rbad (t : Int → Int) (sd b0 : Int) (s : pS) : Prop :=
  opc (t (s 0 0 0)) = -1 ∨ s 0 0 1 - b0 = 20 ∨ (opc (t (s 0 0 0)) = 0 ∧ ¬ sd = 0) ∨ (opc (t (s 0 0 0)) = 2 ∧ (¬ sd = 0 ∨ ¬ s 0 0 5 = 0)) ∨
  (opc (t (s 0 0 0)) = 5 ∧ (s 0 0 2 = -1 ∨ ¬ s 1 (s 0 0 2) 0 = 4 ∨ (sd = 0 ∧ 2 ≤ s 0 0 4)))
/-- where a word begins, of which sort -/
def rlit (t : Int → Int) (sd : Int) (s : pS) (it p b : Int) : Bool × pS :=
  if prl t b p ≤ pmo b then (true, rfin (up (up (up (rtok s sd it (if b = 0 then 4 else 3) 0 0 p (prl t b p)) 1 it 10 p) 1 it 11 (prl t b p)) 0 0 0 (p + prl t b p)) it)
  else (false, up s 0 0 0 (p + pmo b))
def rterm (t : Int → Int) (sd : Int) (s : pS) (it p1 : Int) : Bool × pS :=
  if isL (t p1) then
    (if prl t 1 p1 ≤ 8 then (true, up (up (up (up (up (up (rtok s sd it 5 0 0 p1 (prl t 1 p1)) 1 it 10 p1) 1 it 11 (prl t 1 p1)) 0 0 0 (p1 + prl t 1 p1)) 6 (s 0 0 6) 0 it) 0 0 6 (s 0 0 6 + 1)) 0 0 2 it)
     else (false, up s 0 0 0 (p1 + 8)))
  else (false, up s 0 0 0 p1)
def rkd (q : Int) : Int := if q = 110 then 0 else if q = 119 then 1 else if q = 99 then 2 else -1
def rhole (t : Int → Int) (sd : Int) (s : pS) (it p l how : Int) : Bool × pS :=
  if (0 ≤ l ∧ l < 26) ∧ (s 5 l 0 = how ∨ (sd = 0 ∧ s 5 l 0 = 0)) then
    (if how = 2 ∨ ¬ sd = 0 ∨ ¬ t (p + 2) = 58 then (true, rfin (rtok (up (up (up s 5 l 0 how) 0 0 0 (p + 2)) 1 it 1 l) sd it (if how = 2 then 6 else 1) l (if how = 2 then 0 else -1) 0 0) it)
     else if rkd (t (p + 3)) = -1 then (false, up s 0 0 0 (p + 3))
     else (true, rfin (up (up (rtok (up (up (up s 5 l 0 how) 0 0 0 (p + 2)) 1 it 1 l) sd it 1 l (rkd (t (p + 3))) 0 0) 1 it 2 (rkd (t (p + 3)))) 0 0 0 (p + 4)) it))
  else (false, up s 0 0 0 (p + 1))
def ritem (t : Int → Int) (sd b0 : Int) (s : pS) : Bool × pS :=
  if rbad t sd b0 s then (false, s)
  else if opc (t (s 0 0 0)) = 3 then rlit t sd (rcnt (radd s sd 3) sd (s 0 0 2) 3) (s 0 0 1) (s 0 0 0) (if isL (t (s 0 0 0)) then 1 else 0)
  else if opc (t (s 0 0 0)) = 2 then (true, up (up (rtok (rcnt (radd s sd 2) sd (s 0 0 2) 2) sd (s 0 0 1) 2 0 0 0 0) 0 0 0 (s 0 0 0 + 1)) 0 0 2 (s 0 0 1))
  else if opc (t (s 0 0 0)) = 4 then rterm t sd (rcnt (radd s sd 4) sd (s 0 0 2) 4) (s 0 0 1) (pbl t 301 (s 0 0 0 + 1))
  else if opc (t (s 0 0 0)) = 0 then (true, rfin (up (rtok (rcnt (radd s sd 0) sd (s 0 0 2) 0) sd (s 0 0 1) 0 0 0 0 0) 0 0 0 (s 0 0 0 + 1)) (s 0 0 1))
  else if opc (t (s 0 0 0)) = 1 then rhole t sd (rcnt (radd s sd 1) sd (s 0 0 2) 1) (s 0 0 1) (s 0 0 0) (t (s 0 0 0 + 1) - 65) 1
  else rhole t sd (rcnt (radd s sd 5) sd (s 0 0 2) 5) (s 0 0 1) (s 0 0 0) (t (s 0 0 0 + 1) - 65) 2
/-- a term is closed -/
def rclose (sd : Int) (s : pS) : pS := rfin (up (up (rput (up s (kid sd) (s 4 (s 0 0 2) 0) 2 (s 0 0 (kid sd))) sd 7 0 0 0 0) 0 0 6 (s 0 0 6 - 1)) 0 0 0 (s 0 0 0 + 1)) (s 0 0 2)
def rstep (t : Int → Int) (sd b0 : Int) (s : pS) : Bool × pS :=
  if t (s 0 0 0) = 41 ∧ ¬ s 0 0 2 = -1 ∧ s 1 (s 0 0 2) 0 = 4 then (true, rclose sd s) else ritem t sd b0 s
def rblk (t : Int → Int) (s : pS) : pS := up s 0 0 0 (pbl t 301 (s 0 0 0))
def rside (t : Int → Int) (sd b0 : Int) : Nat → pS → Bool × pS
  | 0, s => (false, s)
  | k + 1, s => match rstep t sd b0 (rblk t s) with
    | (false, s1) => (false, s1)
    | (true, s1) => if s1 0 0 2 = -1 then (true, s1) else rside t sd b0 k s1
def rnil : pS := up (fun _ _ _ => 0) 0 0 2 (-1)
def rmid (s : pS) : pS := up (up s 0 0 8 (s 0 0 1)) 0 0 0 (s 0 0 0 + 1)
def rread (t : Int → Int) (n : Int) : Bool × pS := match rside t 0 0 301 rnil with
  | (false, s) => (false, s)
  | (true, s) => if t ((rblk t s) 0 0 0) = 61 then (match rside t 1 (s 0 0 1) 301 (rmid (rblk t s)) with
      | (false, s2) => (false, s2)
      | (true, s2) => if (rblk t s2) 0 0 0 = n then (true, rblk t s2) else (false, rblk t s2))
    else (false, rblk t s)
theorem pbl_rg {t : Int → Int} {n : Int} (o : tOk t n) : ∀ (k : Nat) (p : Int), 0 ≤ p → p ≤ n → p ≤ pbl t k p ∧ pbl t k p ≤ n
  | 0, p, _, h => ⟨Int.le_refl _, h⟩
  | k + 1, p, h0, h => by
    unfold pbl
    split
    · have := o.lt (i := p) (by omega)
      have := pbl_rg o k (p + 1) (by omega) (by omega)
      omega
    · omega
theorem pbl_end {t : Int → Int} {n : Int} (o : tOk t n) : ∀ (k : Nat) (p : Int), 0 ≤ p → p ≤ n → n < k + p → ¬ t (pbl t k p) = 32
  | 0, p, _, h, hk => by omega
  | k + 1, p, h0, h, hk => by
    unfold pbl
    split
    · have := o.lt (i := p) (by omega)
      exact pbl_end o k (p + 1) (by omega) (by omega) (by omega)
    · assumption
/-- what holds of every state: numbers in their ranges, the open terms -/
def rT (s : pS) (i : Int) : Int := if s 1 i 3 = -1 then -1 else if s 1 (s 1 i 3) 0 = 2 then s 1 (s 1 i 3) 3 else s 1 i 3
def rI (n sd b0 : Int) (s : pS) : Prop :=
  0 ≤ s 0 0 0 ∧ s 0 0 0 ≤ n ∧ 0 ≤ b0 ∧ b0 ≤ s 0 0 1 ∧ s 0 0 1 ≤ b0 + 20 ∧ -1 ≤ s 0 0 2 ∧ s 0 0 2 < s 0 0 1 ∧ (¬ s 0 0 2 = -1 → b0 ≤ s 0 0 2 ∧ (s 1 (s 0 0 2) 0 = 2 ∨ s 1 (s 0 0 2) 0 = 4)) ∧
  0 ≤ s 0 0 6 ∧ s 0 0 6 ≤ s 0 0 1 - b0 ∧ 0 ≤ s 0 0 (kid sd) ∧ s 0 0 (kid sd) + s 0 0 6 ≤ 2 * (s 0 0 1 - b0) ∧ 0 ≤ s 0 0 4 ∧ s 0 0 4 ≤ s 0 0 1 ∧ 0 ≤ s 0 0 5 ∧ s 0 0 5 ≤ s 0 0 1 ∧ (¬ s 0 0 2 = -1 → s 1 (s 0 0 2) 0 = 2 → sd = 0 ∧ 1 ≤ s 0 0 5)
/-- the items of this side -/
def rJ (sd b0 : Int) (s : pS) : Prop := ∀ i, b0 ≤ i → i < s 0 0 1 → (s 1 i 3 = -1 ∨ (b0 ≤ s 1 i 3 ∧ s 1 i 3 < i ∧ (s 1 (s 1 i 3) 0 = 2 ∨ s 1 (s 1 i 3) 0 = 4))) ∧
  (s 1 i 0 = 2 → s 1 i 3 = -1 ∨ s 1 (s 1 i 3) 0 = 4) ∧ 0 ≤ s 1 i 6 ∧ s 1 i 6 ≤ s 0 0 1 - b0 ∧ 0 ≤ s 1 i 7 ∧ s 1 i 7 ≤ s 0 0 1 - b0 ∧ 0 ≤ s 4 i 0 ∧ s 4 i 0 < s 0 0 (kid sd)
/-- the open terms in their order -/
def rO (b0 : Int) (s : pS) : Prop := (∀ k, 0 ≤ k → k < s 0 0 6 → b0 ≤ s 6 k 0 ∧ s 6 k 0 < s 0 0 1 ∧ s 1 (s 6 k 0) 0 = 4 ∧ rT s (s 6 k 0) = (if k = 0 then -1 else s 6 (k - 1) 0)) ∧
  (if s 0 0 2 = -1 then -1 else if s 1 (s 0 0 2) 0 = 2 then s 1 (s 0 0 2) 3 else s 0 0 2) = (if s 0 0 6 = 0 then -1 else s 6 (s 0 0 6 - 1) 0)
/-- what lies beyond is untouched -/
def rE (s : pS) : Prop := ∀ i j, s 0 0 1 ≤ i → s 1 i j = 0
def rV (n sd b0 : Int) (s : pS) : Prop := rI n sd b0 s ∧ rJ sd b0 s ∧ rO b0 s ∧ rE s
