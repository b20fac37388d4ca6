section
/-! A small machine over an abstract heap: values, heap, one instruction. -/
abbrev zV : Type := Int ⊕ ((Nat × Nat) ⊕ (Int ⊕ Unit))
abbrev vI (i : Int) : zV := Sum.inl i
abbrev vR (x t : Nat) : zV := Sum.inr (Sum.inl (x, t))
abbrev vL (i : Int) : zV := Sum.inr (Sum.inr (Sum.inl i))
abbrev vU : zV := Sum.inr (Sum.inr (Sum.inr ()))
/-- ints by cell and place, references by cell and place (0 null), tags, lengths, the next cell, slots made -/
abbrev zH : Type := (Nat → Int → Int) × (Nat → Int → Nat) × (Nat → Nat) × (Nat → Nat) × Nat × Nat
def gI (h : zH) (a : Nat) (k : Int) : Int := h.1 a k
def gR (h : zH) (a : Nat) (k : Int) : Nat := h.2.1 a k
def tg (h : zH) (a : Nat) : Nat := h.2.2.1 a
def ln (h : zH) (a : Nat) : Nat := h.2.2.2.1 a
def nx (h : zH) : Nat := h.2.2.2.2.1
def sc (h : zH) : Nat := h.2.2.2.2.2
def sI (h : zH) (a : Nat) (k v : Int) : zH := (fun b j => if b = a ∧ j = k then v else h.1 b j, h.2)
def sR (h : zH) (a : Nat) (k : Int) (v : Nat) : zH := (h.1, fun b j => if b = a ∧ j = k then v else h.2.1 b j, h.2.2)
def sT (h : zH) (a t : Nat) : zH := (h.1, h.2.1, fun b => if b = a then t else h.2.2.1 b, h.2.2.2)
def nw (h : zH) (t n : Nat) : zH := (fun b j => if b = nx h then 0 else h.1 b j, fun b j => if b = nx h then 0 else h.2.1 b j, fun b => if b = nx h then t else h.2.2.1 b, fun b => if b = nx h then n else h.2.2.2.1 b, nx h + 1, sc h + n)
def cp (h : zH) (s : Nat) (sp : Int) (d : Nat) (dp n : Int) : zH := (fun b j => if b = d ∧ dp ≤ j ∧ j < dp + n then h.1 s (sp + (j - dp)) else h.1 b j, h.2)
/-- ranges -/
def inR (x : Int) : Prop := -2147483648 ≤ x ∧ x ≤ 2147483647
def inL (x : Int) : Prop := -9223372036854775808 ≤ x ∧ x ≤ 9223372036854775807
/-- a reference of a type: tag t % 100, length t / 100 - 1 (1: any); 147 the script -/
def zty (t x : Nat) (h : zH) : Prop := bif Nat.beq t 147 then x = 1 else (2 ≤ x ∧ x < nx h ∧ tg h x = t % 100 ∧ (t / 100 = 1 ∨ ln h x = t / 100 - 1))
def zlen (t a : Nat) (h : zH) : Int := bif Nat.blt 1 (Nat.div t 100) then Int.ofNat (Nat.sub (Nat.div t 100) 1) else Int.ofNat (ln h a)
/-- bits by the machine's own words -/
def iAnd (x y : Int) : Int := (Int32.ofInt x &&& Int32.ofInt y).toInt
def iOr (x y : Int) : Int := (Int32.ofInt x ||| Int32.ofInt y).toInt
def iXor (x y : Int) : Int := (Int32.ofInt x ^^^ Int32.ofInt y).toInt
def iShl (x y : Int) : Int := (Int32.ofInt x <<< Int32.ofInt y).toInt
def iUshr (x y : Int) : Int := ((Int32.ofInt x).toUInt32 >>> ((Int32.ofInt y).toUInt32 &&& Int32.toUInt32 31)).toInt32.toInt
def iDiv (x y : Int) : Int := (Int32.ofInt x / Int32.ofInt y).toInt
def iRem (x y : Int) : Int := (Int32.ofInt x - Int32.ofInt x / Int32.ofInt y * Int32.ofInt y).toInt
def iByte (x : Int) : Int := (Int32.ofInt x).toInt8.toInt32.toInt
def iCmp (x y : Int) : Int := if y < x then 1 else if x = y then 0 else -1
/-- what follows an instruction: a jump, an end, a call -/
abbrev zN : Type := (Bool × List (Prop × Nat) × Nat × List zV × List zV × zH) ⊕ ((Option zV × zH) ⊕ (Nat × Nat × List zV × List zV × Nat))
abbrev zS : Type := List Prop × Option zN
abbrev zE : Type := Nat × Nat × Instr × List Nat
def zgo (pc : Nat) (ls st : List zV) (h : zH) : Option zN := some (.inl (false, [], pc, ls, st, h))
/-- the same where the heap has changed -/
def zgw (pc : Nat) (ls st : List zV) (h : zH) : Option zN := some (.inl (true, [], pc, ls, st, h))
def zno : zS := ([], none)
def zfind (pc : Nat) : List zE → Option (Nat × Instr × List Nat)
  | [] => none
  | e :: r => bif Nat.beq e.1 pc then some e.2 else zfind pc r
def zc0 (c : ClassFile.Cond) (x : Int) : Prop := match c with
  | .eq => x = 0
  | .ne => ¬ x = 0
  | .lt => x < 0
  | .ge => 0 ≤ x
  | .gt => 0 < x
  | .le => x ≤ 0
def zc2 (c : ClassFile.Cond) (x y : Int) : Prop := match c with
  | .eq => x = y
  | .ne => ¬ x = y
  | .lt => x < y
  | .ge => y ≤ x
  | .gt => y < x
  | .le => x ≤ y
def zts (x : Int) (pc : Nat) : Int → List Int → List (Prop × Nat)
  | _, [] => []
  | lo, o :: r => (x = lo, ((pc : Int) + o).toNat) :: zts x pc (lo + 1) r
def zlk (x : Int) (pc : Nat) : List (Int × Int) → List (Prop × Nat)
  | [] => []
  | q :: r => (x = q.1, ((pc : Int) + q.2).toNat) :: zlk x pc r
/-- a value as one of an expected type (0: as it is; 1: a long) -/
def zco (e : Nat) (v : zV) (h : zH) : Option (List Prop × zV) := match v with
  | .inl x => bif Nat.beq e 0 then some ([], .inl x) else none
  | .inr (.inl (x, t)) => bif Nat.beq e 0 then some ([], .inr (.inl (x, t))) else bif Nat.beq e 1 then none else bif Nat.beq t e then some ([], .inr (.inl (x, t))) else bif Nat.beq t 0 then some ([zty e x h], .inr (.inl (x, e))) else bif Nat.beq (Nat.mod t 100) (Nat.mod e 100) && Nat.beq (Nat.div e 100) 1 && Nat.blt 1 (Nat.div t 100) then some ([], .inr (.inl (x, e))) else none
  | .inr (.inr (.inl x)) => bif Nat.beq e 1 then some ([], .inr (.inr (.inl x))) else none
  | .inr (.inr (.inr _)) => none
def zpop : List Nat → List zV → zH → List Prop → List zV → Option (List Prop × List zV × List zV)
  | [], st, _, gs, acc => some (gs, acc, st)
  | _ :: _, [], _, _, _ => none
  | e :: es, v :: st, h, gs, acc => match zco e v h with
    | none => none
    | some (g, w) => zpop es st h (g ++ gs) (w :: acc)
def zcat : List zV → Nat
  | [] => 0
  | .inr (.inr (.inl _)) :: r => 2 + zcat r
  | _ :: r => 1 + zcat r
/-- the final references of a sealed object: field, how far behind the object, its type -/
def zlay : Nat → List (Nat × Nat × Nat)
  | 0 => [(0, 1, 101), (3, 35, 102), (4, 51, 944), (5, 52, 104), (6, 54, 105), (7, 61, 106), (8, 75, 107), (9, 80, 108), (10, 85, 109), (11, 103, 346), (12, 104, 745)]
  | 1 => [(0, 1, 30140)]
  | 2 => [(0, 1, 101), (1, 3, 6140), (2, 4, 6140), (3, 5, 6140), (4, 6, 6140), (5, 7, 6140), (6, 8, 6140), (7, 9, 6140), (8, 10, 6140), (9, 11, 6140), (10, 12, 6140), (11, 13, 15140), (12, 14, 15140), (13, 15, 15140)]
  | 3 => [(0, 1, 101), (1, 3, 4140), (2, 4, 4140), (3, 5, 4140), (4, 6, 4140), (5, 7, 4140), (6, 8, 4140), (7, 9, 4140), (8, 10, 4140), (9, 11, 4140), (10, 12, 4140), (11, 13, 4140), (12, 14, 4140)]
  | 4 => [(10, 1, 4140)]
  | 5 => [(0, 1, 2140), (1, 2, 2140), (2, 3, 2140), (3, 4, 2140), (4, 5, 2140), (5, 6, 440)]
  | 6 => [(1, 1, 4140), (2, 2, 4140), (3, 3, 4140), (4, 4, 2740), (7, 5, 32140), (8, 6, 32144), (9, 7, 32140), (10, 8, 32140), (11, 9, 32140), (12, 10, 32140), (13, 11, 32140), (14, 12, 32141), (15, 13, 2140)]
  | 7 => [(1, 1, 6140), (2, 2, 6140), (3, 3, 6140), (4, 4, 6141)]
  | 8 => [(6, 1, 101), (7, 3, 4140), (8, 4, 4140)]
  | 9 => [(2, 1, 945)]
  | 10 => [(1, 1, 101), (2, 3, 944)]
  | 11 => [(1, 1, 271040), (2, 2, 541940), (3, 3, 341), (4, 4, 240940), (6, 5, 30142), (8, 6, 30340), (10, 7, 60140), (12, 8, 45140), (14, 9, 1740), (19, 10, 60140), (21, 11, 45140), (23, 12, 393740), (24, 13, 1740), (25, 14, 49340), (26, 15, 340), (30, 16, 2740), (31, 17, 2240), (34, 18, 440), (37, 19, 2740), (38, 20, 2740), (39, 21, 2240), (40, 22, 2240), (41, 23, 940), (42, 24, 32140), (43, 25, 32140), (44, 26, 32140), (45, 27, 672140), (46, 28, 32140), (47, 29, 672140), (48, 30, 2240), (50, 31, 2740), (51, 32, 54740), (52, 33, 32140), (53, 34, 32140), (56, 35, 32141), (57, 36, 6140), (58, 37, 6140), (60, 38, 6140), (61, 39, 700142), (64, 40, 2740), (65, 41, 2740), (67, 42, 210840)]
  | _ => []
def zfin (a : Nat) (h : zH) : List (Nat × Nat × Nat) → List Prop
  | [] => []
  | q :: r => (gR h a (Int.ofNat q.1) = a + q.2.1) :: zty q.2.2 (a + q.2.1) h :: zfin a h r
def zgetf (ops : List Nat) (nxt : Nat) (ls st : List zV) (h : zH) : zS := match ops, st with
  | [c, k, kind, off, t, ct], .inr (.inl (a, ta)) :: r =>
    let g : List Prop := bif Nat.beq ta (100 + c) then [] else bif Nat.beq ta 0 then [zty (bif Nat.beq ct 1 then 120 + c else 100 + c) a h] else [False]
    bif Nat.blt kind 2 then (g, zgo nxt ls (.inl (gI h a (Int.ofNat k)) :: r) h)
    else bif Nat.beq kind 3 && Nat.beq ct 0 then (g, zgo nxt ls (.inr (.inl (a + off, t)) :: r) h)
    else (g ++ [zty t (gR h a (Int.ofNat k)) h], zgo nxt ls (.inr (.inl (gR h a (Int.ofNat k), t)) :: r) h)
  | _, _ => zno
def zputf (ops : List Nat) (nxt : Nat) (ls st : List zV) (h : zH) : zS := match ops, st with
  | [c, k, kind, ct, sl], v :: .inr (.inl (a, ta)) :: r =>
    let g : List Prop := bif Nat.beq ta (100 + c) && Nat.beq ct 0 then [] else bif Nat.beq ta 0 then [zty (bif Nat.beq ct 1 then 120 + c else 100 + c) a h] else [False]
    match v with
    | .inl x => bif Nat.beq kind 0 then (g, zgw nxt ls r (sI h a (Int.ofNat k) x)) else bif Nat.beq kind 1 then (g ++ [x = 0 ∨ x = 1], zgw nxt ls r (sI h a (Int.ofNat k) x)) else zno
    | .inr (.inl (x, _)) => bif Nat.blt kind 2 then zno else
      bif Nat.beq sl 1 then (g ++ zfin a (sR h a (Int.ofNat k) x) (zlay c), zgw nxt ls r (sT (sR h a (Int.ofNat k) x) a c))
      else (g, zgw nxt ls r (sR h a (Int.ofNat k) x))
    | _ => zno
  | _, _ => zno
/-- the array's own type, by the tag that the instruction wants -/
def zarrG (tag a t : Nat) (h : zH) : List Prop := bif Nat.beq (Nat.mod t 100) tag && Nat.blt 0 (Nat.div t 100) then [] else bif Nat.beq t 0 then [zty (100 + tag) a h] else [False]
def zarrT (tag t : Nat) : Nat := bif Nat.beq (Nat.mod t 100) tag && Nat.blt 0 (Nat.div t 100) then t else 100 + tag
def zald (tag : Nat) (nxt : Nat) (ls st : List zV) (h : zH) : zS := match st with
  | .inl i :: .inr (.inl (a, t)) :: r => (zarrG tag a t h ++ [0 ≤ i, i < zlen (zarrT tag t) a h], zgo nxt ls (.inl (gI h a i) :: r) h)
  | _ => zno
def zlald (nxt : Nat) (ls st : List zV) (h : zH) : zS := match st with
  | .inl i :: .inr (.inl (a, t)) :: r => (zarrG 43 a t h ++ [0 ≤ i, i < zlen (zarrT 43 t) a h], zgo nxt ls (.inr (.inr (.inl (gI h a i))) :: r) h)
  | _ => zno
def zaald (tag te : Nat) (nxt : Nat) (ls st : List zV) (h : zH) : zS := match st with
  | .inl i :: .inr (.inl (a, t)) :: r => (zarrG tag a t h ++ (0 ≤ i) :: (i < zlen (zarrT tag t) a h) :: (bif Nat.beq te 0 then [] else [zty te (gR h a i) h]), zgo nxt ls (.inr (.inl (gR h a i, te)) :: r) h)
  | _ => zno
def zast (tag : Nat) (nxt : Nat) (ls st : List zV) (h : zH) : zS := match st with
  | .inl x :: .inl i :: .inr (.inl (a, t)) :: r => (zarrG tag a t h ++ (0 ≤ i) :: (i < zlen (zarrT tag t) a h) :: (bif Nat.beq tag 40 then [] else bif Nat.beq tag 42 then [-128 ≤ x ∧ x ≤ 127] else bif Nat.beq tag 41 then [x = 0 ∨ x = 1] else [False]), zgw nxt ls r (sI h a i x))
  | .inr (.inr (.inl x)) :: .inl i :: .inr (.inl (a, t)) :: r => (zarrG 43 a t h ++ [0 ≤ i, i < zlen (zarrT 43 t) a h, inR x, tag = 43], zgw nxt ls r (sI h a i x))
  | _ => zno
/-- a reference into an array of references: of the component's class, or null -/
def zaast (tag te : Nat) (nxt : Nat) (ls st : List zV) (h : zH) : zS := match st with
  | .inr (.inl (x, tx)) :: .inl i :: .inr (.inl (a, t)) :: r => (zarrG tag a t h ++ (0 ≤ i) :: (i < zlen (zarrT tag t) a h) :: (bif Nat.beq tx te then [] else [x = 0 ∨ zty te x h]), zgw nxt ls r (sR h a i x))
  | _ => zno
def zinv (ops : List Nat) (nxt : Nat) (ls st : List zV) (h : zH) : zS := match ops with
  | y :: k :: es => match zpop es st h [] [] with
    | none => zno
    | some (gs, args, rest) => bif Nat.ble (zcat rest) 8 then
        (bif Nat.beq y 9999 then (gs, zgo nxt ls rest h)
        else bif Nat.beq y 9998 then (match args with
          | [.inr (.inl (s, _)), .inl sp, .inr (.inl (d, _)), .inl dp, .inl n] => (gs ++ [0 ≤ sp, 0 ≤ dp, 0 ≤ n, sp + n ≤ Int.ofNat (ln h s), dp + n ≤ Int.ofNat (ln h d)], zgw nxt ls rest (cp h s sp d dp n))
          | _ => zno)
        else (gs, some (.inr (.inr (y, k, args, rest, nxt))))) else zno
  | _ => zno
def zstp (E : Instr) (ops : List Nat) (pc len : Nat) (ls st : List zV) (h : zH) : zS := match E with
  | .iconst n => ([], zgo (pc + len) ls (.inl n :: st) h)
  | .bipush n => ([], zgo (pc + len) ls (.inl n :: st) h)
  | .sipush n => ([], zgo (pc + len) ls (.inl n :: st) h)
  | .ldc _ => ([], zgo (pc + len) ls (.inl (Int.ofNat (ops.getD 0 0)) :: st) h)
  | .ldc_w _ => ([], zgo (pc + len) ls (.inl (Int.ofNat (ops.getD 0 0)) :: st) h)
  | .lconst n => ([], zgo (pc + len) ls (.inr (.inr (.inl (Int.ofNat n.val))) :: st) h)
  | .ldc2_w _ => ([], zgo (pc + len) ls (.inr (.inr (.inl (Int.ofNat (ops.getD 0 0)))) :: st) h)
  | .aconst_null => ([], zgo (pc + len) ls (.inr (.inl (0, 0)) :: st) h)
  | .iload i => (match ls.getD i vU with
    | .inl x => ([], zgo (pc + len) ls (.inl x :: st) h)
    | _ => zno)
  | .iload_n i => (match ls.getD i.val vU with
    | .inl x => ([], zgo (pc + len) ls (.inl x :: st) h)
    | _ => zno)
  | .aload i => (match ls.getD i vU with
    | .inr (.inl q) => ([], zgo (pc + len) ls (.inr (.inl q) :: st) h)
    | _ => zno)
  | .aload_n i => (match ls.getD i.val vU with
    | .inr (.inl q) => ([], zgo (pc + len) ls (.inr (.inl q) :: st) h)
    | _ => zno)
  | .lload i => (match ls.getD i vU with
    | .inr (.inr (.inl x)) => ([], zgo (pc + len) ls (.inr (.inr (.inl x)) :: st) h)
    | _ => zno)
  | .lload_n i => (match ls.getD i.val vU with
    | .inr (.inr (.inl x)) => ([], zgo (pc + len) ls (.inr (.inr (.inl x)) :: st) h)
    | _ => zno)
  | .istore i => (match st with
    | .inl x :: r => bif Nat.blt i ls.length then ([], zgo (pc + len) (ls.set i (.inl x)) r h) else zno
    | _ => zno)
  | .istore_n i => (match st with
    | .inl x :: r => bif Nat.blt i.val ls.length then ([], zgo (pc + len) (ls.set i.val (.inl x)) r h) else zno
    | _ => zno)
  | .astore i => (match st with
    | .inr (.inl q) :: r => bif Nat.blt i ls.length then ([], zgo (pc + len) (ls.set i (.inr (.inl q))) r h) else zno
    | _ => zno)
  | .astore_n i => (match st with
    | .inr (.inl q) :: r => bif Nat.blt i.val ls.length then ([], zgo (pc + len) (ls.set i.val (.inr (.inl q))) r h) else zno
    | _ => zno)
  | .iinc i n => (match ls.getD i vU with
    | .inl x => ([inR (x + n)], zgo (pc + len) (ls.set i (.inl (x + n))) st h)
    | _ => zno)
  | .iadd => (match st with
    | .inl y :: .inl x :: r => ([inR (x + y)], zgo (pc + len) ls (.inl (x + y) :: r) h)
    | _ => zno)
  | .isub => (match st with
    | .inl y :: .inl x :: r => ([inR (x - y)], zgo (pc + len) ls (.inl (x - y) :: r) h)
    | _ => zno)
  | .imul => (match st with
    | .inl y :: .inl x :: r => ([inR (x * y)], zgo (pc + len) ls (.inl (x * y) :: r) h)
    | _ => zno)
  | .idiv => (match st with
    | .inl y :: .inl x :: r => ([¬ y = 0], zgo (pc + len) ls (.inl (iDiv x y) :: r) h)
    | _ => zno)
  | .irem => (match st with
    | .inl y :: .inl x :: r => ([¬ y = 0], zgo (pc + len) ls (.inl (iRem x y) :: r) h)
    | _ => zno)
  | .iand => (match st with
    | .inl y :: .inl x :: r => ([], zgo (pc + len) ls (.inl (iAnd x y) :: r) h)
    | _ => zno)
  | .ior => (match st with
    | .inl y :: .inl x :: r => ([], zgo (pc + len) ls (.inl (iOr x y) :: r) h)
    | _ => zno)
  | .ixor => (match st with
    | .inl y :: .inl x :: r => ([], zgo (pc + len) ls (.inl (iXor x y) :: r) h)
    | _ => zno)
  | .ishl => (match st with
    | .inl y :: .inl x :: r => ([], zgo (pc + len) ls (.inl (iShl x y) :: r) h)
    | _ => zno)
  | .iushr => (match st with
    | .inl y :: .inl x :: r => ([], zgo (pc + len) ls (.inl (iUshr x y) :: r) h)
    | _ => zno)
  | .i2b => (match st with
    | .inl x :: r => ([], zgo (pc + len) ls (.inl (iByte x) :: r) h)
    | _ => zno)
  | .i2l => (match st with
    | .inl x :: r => ([], zgo (pc + len) ls (.inr (.inr (.inl x)) :: r) h)
    | _ => zno)
  | .lsub => (match st with
    | .inr (.inr (.inl y)) :: .inr (.inr (.inl x)) :: r => ([inL (x - y)], zgo (pc + len) ls (.inr (.inr (.inl (x - y))) :: r) h)
    | _ => zno)
  | .lcmp => (match st with
    | .inr (.inr (.inl y)) :: .inr (.inr (.inl x)) :: r => ([], zgo (pc + len) ls (.inl (iCmp x y) :: r) h)
    | _ => zno)
  | .dup => (match st with
    | .inl x :: r => ([], zgo (pc + len) ls (.inl x :: .inl x :: r) h)
    | .inr (.inl q) :: r => ([], zgo (pc + len) ls (.inr (.inl q) :: .inr (.inl q) :: r) h)
    | _ => zno)
  | .dup2 => (match st with
    | .inl x :: .inr (.inl q) :: r => ([], zgo (pc + len) ls (.inl x :: .inr (.inl q) :: .inl x :: .inr (.inl q) :: r) h)
    | _ => zno)
  | .pop => (match st with
    | .inl _ :: r => ([], zgo (pc + len) ls r h)
    | .inr (.inl _) :: r => ([], zgo (pc + len) ls r h)
    | _ => zno)
  | .goto o => ([], zgo ((pc : Int) + o).toNat ls st h)
  | .ifCond c o => (match st with
    | .inl x :: r => ([], some (.inl (false, [(zc0 c x, ((pc : Int) + o).toNat)], pc + len, ls, r, h)))
    | _ => zno)
  | .if_icmp c o => (match st with
    | .inl y :: .inl x :: r => ([], some (.inl (false, [(zc2 c x y, ((pc : Int) + o).toNat)], pc + len, ls, r, h)))
    | _ => zno)
  | .if_acmp c o => (match st with
    | .inr (.inl (y, _)) :: .inr (.inl (x, _)) :: r => (match c with
      | .eq => ([], some (.inl (false, [(x = y, ((pc : Int) + o).toNat)], pc + len, ls, r, h)))
      | .ne => ([], some (.inl (false, [(¬ x = y, ((pc : Int) + o).toNat)], pc + len, ls, r, h))))
    | _ => zno)
  | .ifnull o => (match st with
    | .inr (.inl (x, _)) :: r => ([], some (.inl (false, [(x = 0, ((pc : Int) + o).toNat)], pc + len, ls, r, h)))
    | _ => zno)
  | .ifnonnull o => (match st with
    | .inr (.inl (x, _)) :: r => ([], some (.inl (false, [(¬ x = 0, ((pc : Int) + o).toNat)], pc + len, ls, r, h)))
    | _ => zno)
  | .tableswitch d lo _ offs => (match st with
    | .inl x :: r => ([], some (.inl (false, zts x pc lo offs.toList, ((pc : Int) + d).toNat, ls, r, h)))
    | _ => zno)
  | .lookupswitch d ps => (match st with
    | .inl x :: r => ([], some (.inl (false, zlk x pc ps.toList, ((pc : Int) + d).toNat, ls, r, h)))
    | _ => zno)
  | .getfield _ => zgetf ops (pc + len) ls st h
  | .putfield _ => zputf ops (pc + len) ls st h
  | .iaload => zald (ops.getD 0 0) (pc + len) ls st h
  | .baload => zald (ops.getD 0 0) (pc + len) ls st h
  | .laload => zlald (pc + len) ls st h
  | .aaload => zaald (ops.getD 0 0) (ops.getD 1 0) (pc + len) ls st h
  | .iastore => zast (ops.getD 0 0) (pc + len) ls st h
  | .bastore => zast (ops.getD 0 0) (pc + len) ls st h
  | .lastore => zast (ops.getD 0 0) (pc + len) ls st h
  | .aastore => zaast (ops.getD 0 0) (ops.getD 1 0) (pc + len) ls st h
  | .arraylength => (match st with
    | .inr (.inl (a, t)) :: r => (zarrG (ops.getD 0 0) a t h, zgo (pc + len) ls (.inl (Int.ofNat (ln h a)) :: r) h)
    | _ => zno)
  | .new _ => ([], zgw (pc + len) ls (.inr (.inl (nx h, 0)) :: st) (nw h (20 + ops.getD 0 0) (ops.getD 1 0)))
  | .newarray _ => (match st with
    | .inl n :: r => ([0 ≤ n ∧ n ≤ 10000], zgw (pc + len) ls (.inr (.inl (nx h, 0)) :: r) (nw h (ops.getD 0 0) n.toNat))
    | _ => zno)
  | .anewarray _ => (match st with
    | .inl n :: r => ([0 ≤ n ∧ n ≤ 10000], zgw (pc + len) ls (.inr (.inl (nx h, 0)) :: r) (nw h (ops.getD 0 0) n.toNat))
    | _ => zno)
  | .invokevirtual _ => zinv ops (pc + len) ls st h
  | .invokespecial _ => zinv ops (pc + len) ls st h
  | .invokestatic _ => zinv ops (pc + len) ls st h
  | .return_ => ([], some (.inr (.inl (none, h))))
  | .ireturn => (match st with
    | .inl x :: _ => (bif Nat.beq (ops.getD 0 0) 1 then [x = 0 ∨ x = 1] else [], some (.inr (.inl (some (.inl x), h))))
    | _ => zno)
  | .areturn => (match st with
    | .inr (.inl (x, t)) :: _ => (bif Nat.beq t (ops.getD 0 0) || Nat.beq (ops.getD 0 0) 0 then [] else [zty (ops.getD 0 0) x h], some (.inr (.inl (some (.inr (.inl (x, ops.getD 0 0))), h))))
    | _ => zno)
  | _ => zno
/-- the guards, one behind another, then P -/
def zg : List Prop → Prop → Prop
  | [], P => P
  | g :: r, P => g ∧ zg r P
def zbr : List (Prop × Nat) → Nat → (Nat → Prop) → Prop
  | [], d, K => K d
  | q :: r, d, K => (q.1 → K q.2) ∧ (¬ q.1 → zbr r d K)
noncomputable def zch : List (Prop × Nat) → Nat → Nat
  | [], d => d
  | q :: r, d => @ite Nat q.1 (Classical.propDecidable q.1) q.2 (zch r d)
def zents : List zV → List zV
  | [] => []
  | .inr (.inr (.inl x)) :: r => .inr (.inr (.inl x)) :: vU :: zents r
  | v :: r => v :: zents r
def zpad : Nat → List zV → List zV
  | 0, _ => []
  | n + 1, [] => vU :: zpad n []
  | n + 1, v :: r => v :: zpad n r
end
section
/-! The machine's runs over a program, and what a run comes to. -/
/-- the program's code: by method; each method's number of locals -/
noncomputable def zrun (P : Nat → List zE) (L : Nat → Nat) : Nat → Nat → Nat → List zV → List zV → zH → Option (Option zV × zH)
  | 0, _, _, _, _, _ => none
  | n + 1, y, pc, ls, st, h => match zfind pc (P y) with
    | none => none
    | some (len, E, ops) => @ite _ (zg (zstp E ops pc len ls st h).1 True) (Classical.propDecidable _)
      (match (zstp E ops pc len ls st h).2 with
      | none => none
      | some (.inl (_, brs, d, ls1, st1, h1)) => zrun P L n y (zch brs d) ls1 st1 h1
      | some (.inr (.inl q)) => some q
      | some (.inr (.inr (y1, _, args, rest, pc1))) => match zrun P L n y1 0 (zpad (L y1) (zents args)) [] h with
        | none => none
        | some (r, h1) => zrun P L n y pc1 ls (r.toList ++ rest) h1) none
/-- it comes to an end with Q -/
def zW (P : Nat → List zE) (L : Nat → Nat) (y pc : Nat) (ls st : List zV) (h : zH) (Q : Option zV → zH → Prop) : Prop :=
  ∃ n q, zrun P L n y pc ls st h = some q ∧ Q q.1 q.2
def zM (P : Nat → List zE) (L : Nat → Nat) (y : Nat) (args : List zV) (h : zH) (Q : Option zV → zH → Prop) : Prop := zW P L y 0 (zpad (L y) (zents args)) [] h Q
/-- a call by what comes back: nothing, an int, a reference of a type -/
def zcall (P : Nat → List zE) (L : Nat → Nat) (y k : Nat) (args : List zV) (h : zH) (K : List zV → zH → Prop) : Prop := match k with
  | 0 => zM P L y args h (fun r h1 => r = none ∧ K [] h1)
  | 1 => zM P L y args h (fun r h1 => ∃ v : Int, r = some (.inl v) ∧ K [.inl v] h1)
  | k + 2 => zM P L y args h (fun r h1 => ∃ x : Nat, r = some (.inr (.inl (x, k))) ∧ K [.inr (.inl (x, k))] h1)
section ZW
variable {P : Nat → List zE} {L : Nat → Nat}
theorem zg_iff {l : List Prop} {A : Prop} : zg l A ↔ zg l True ∧ A := by
  induction l with
  | nil => simp [zg]
  | cons a r ih => simp only [zg]; rw [ih]; constructor
                   · rintro ⟨a, b, c⟩; exact ⟨⟨a, b⟩, c⟩
                   · rintro ⟨⟨a, b⟩, c⟩; exact ⟨a, b, c⟩
theorem zbr_iff {l : List (Prop × Nat)} {d : Nat} {K : Nat → Prop} : zbr l d K ↔ K (zch l d) := by
  induction l with
  | nil => rfl
  | cons a r ih =>
    simp only [zbr, zch]
    by_cases h : a.1
    · rw [if_pos h]; exact ⟨fun q => q.1 h, fun q => ⟨fun _ => q, fun n => absurd h n⟩⟩
    · rw [if_neg h, ← ih]; exact ⟨fun q => q.2 h, fun q => ⟨fun n => absurd n h, fun _ => q⟩⟩
theorem zrun_succ {n y pc : Nat} {ls st : List zV} {h : zH} : zrun P L (n + 1) y pc ls st h = (match zfind pc (P y) with
    | none => none
    | some (len, E, ops) => @ite _ (zg (zstp E ops pc len ls st h).1 True) (Classical.propDecidable _)
      (match (zstp E ops pc len ls st h).2 with
      | none => none
      | some (.inl (_, brs, d, ls1, st1, h1)) => zrun P L n y (zch brs d) ls1 st1 h1
      | some (.inr (.inl q)) => some q
      | some (.inr (.inr (y1, _, args, rest, pc1))) => match zrun P L n y1 0 (zpad (L y1) (zents args)) [] h with
        | none => none
        | some (r, h1) => zrun P L n y pc1 ls (r.toList ++ rest) h1) none) := by
  rw [zrun]
theorem zrun_mono : ∀ {n y pc : Nat} {ls st : List zV} {h : zH} {q : Option zV × zH}, zrun P L n y pc ls st h = some q → zrun P L (n + 1) y pc ls st h = some q := by
  intro n
  induction n with
  | zero => intro y pc ls st h q e; simp [zrun] at e
  | succ n ih =>
    intro y pc ls st h q e
    rw [zrun_succ] at e ⊢
    cases hf : zfind pc (P y) with
    | none => rw [hf] at e; cases e
    | some w =>
      obtain ⟨len, E, ops⟩ := w
      rw [hf] at e
      dsimp only at e ⊢
      by_cases hg : zg (zstp E ops pc len ls st h).1 True
      · rw [if_pos hg] at e ⊢
        revert e
        rcases (zstp E ops pc len ls st h).2 with _ | ⟨wf, brs, d, ls1, st1, h1⟩ | q1 | ⟨y1, k, args, rest, pc1⟩
        · exact fun e => e
        · exact fun e => ih e
        · exact fun e => e
        · dsimp only
          cases hc : zrun P L n y1 0 (zpad (L y1) (zents args)) [] h with
          | none => intro e; cases e
          | some r => rw [ih hc]; exact fun e => ih e
      · rw [if_neg hg] at e; cases e
theorem zrun_le {n m y pc : Nat} {ls st : List zV} {h : zH} {q : Option zV × zH} (hm : n ≤ m) (e : zrun P L n y pc ls st h = some q) : zrun P L m y pc ls st h = some q := by
  induction hm with
  | refl => exact e
  | step _ ih => exact zrun_mono ih
theorem zW_mono {y pc : Nat} {ls st : List zV} {h : zH} {Q Q' : Option zV → zH → Prop} (k : zW P L y pc ls st h Q) (hq : ∀ r h1, Q r h1 → Q' r h1) : zW P L y pc ls st h Q' := by
  obtain ⟨n, q, a, b⟩ := k
  exact ⟨n, q, a, hq _ _ b⟩
/-- what an instruction asks -/
def zwp (P : Nat → List zE) (L : Nat → Nat) (s : zS) (ls : List zV) (h : zH) (K : Nat → List zV → List zV → zH → Prop) (Q : Option zV → zH → Prop) : Prop := zg s.1 (match s.2 with
  | none => False
  | some (.inl (true, brs, d, ls1, st1, h1)) => ∀ h2 : zH, h2 = h1 → zbr brs d (fun pc1 => K pc1 ls1 st1 h2)
  | some (.inl (false, brs, d, ls1, st1, h1)) => zbr brs d (fun pc1 => K pc1 ls1 st1 h1)
  | some (.inr (.inl q)) => Q q.1 q.2
  | some (.inr (.inr (y1, k, args, rest, pc1))) => zcall P L y1 k args h (fun vs h1 => K pc1 ls (vs ++ rest) h1))
theorem zcall_sub {y k : Nat} {args : List zV} {h : zH} {K : List zV → zH → Prop} (c : zcall P L y k args h K) : zM P L y args h (fun r h1 => K r.toList h1) := by
  match k, c with
  | 0, c => obtain ⟨n, q, a, b⟩ := c; exact ⟨n, q, a, by rw [b.1]; exact b.2⟩
  | 1, c => obtain ⟨n, q, a, v, b⟩ := c; exact ⟨n, q, a, by rw [b.1]; exact b.2⟩
  | k + 2, c => obtain ⟨n, q, a, v, b⟩ := c; exact ⟨n, q, a, by rw [b.1]; exact b.2⟩
/-- an instruction that is met, then what follows -/
theorem zW_step {y pc len : Nat} {E : Instr} {ops : List Nat} {ls st : List zV} {h : zH} {Q : Option zV → zH → Prop} (hf : zfind pc (P y) = some (len, E, ops))
    (k : zwp P L (zstp E ops pc len ls st h) ls h (fun pc1 ls1 st1 h1 => zW P L y pc1 ls1 st1 h1 Q) Q) : zW P L y pc ls st h Q := by
  unfold zwp at k
  rw [zg_iff] at k
  obtain ⟨hg, k⟩ := k
  revert k
  rcases hs : (zstp E ops pc len ls st h).2 with _ | ⟨wf, brs, d, ls1, st1, h1⟩ | q1 | ⟨y1, k1, args, rest, pc1⟩
  · exact fun k => k.elim
  · intro k
    have k : zbr brs d (fun pc1 => zW P L y pc1 ls1 st1 h1 Q) := by
      cases wf with
      | true => exact k h1 rfl
      | false => exact k
    obtain ⟨n, q, a, b⟩ := zbr_iff.mp k
    refine ⟨n + 1, q, ?_, b⟩
    rw [zrun_succ, hf]; dsimp only; rw [if_pos hg, hs]; exact a
  · intro k
    refine ⟨1, q1, ?_, k⟩
    rw [zrun_succ, hf]; dsimp only; rw [if_pos hg, hs]
  · intro k
    obtain ⟨n, q, a, ⟨m, q2, a2, b2⟩⟩ := zcall_sub k
    refine ⟨n + m + 1, q2, ?_, b2⟩
    rw [zrun_succ, hf]; dsimp only; rw [if_pos hg, hs]; dsimp only
    rw [zrun_le (Nat.le_add_right n m) a]
    exact zrun_le (Nat.le_add_left m n) a2
/-- many instructions, up to the places that are named -/
def zwpe (P : Nat → List zE) (L : Nat → Nat) (cd : List zE) (y : Nat) (cuts : List Nat) : Nat → Nat → List zV → List zV → zH → (Option zV → zH → Prop) → Prop
  | 0, pc, ls, st, h, Q => zW P L y pc ls st h Q
  | n + 1, pc, ls, st, h, Q => match zfind pc cd with
    | none => False
    | some (len, E, ops) => zwp P L (zstp E ops pc len ls st h) ls h (fun pc1 ls1 st1 h1 => bif cuts.elem pc1 then zW P L y pc1 ls1 st1 h1 Q else zwpe P L cd y cuts n pc1 ls1 st1 h1 Q) Q
theorem zbr_mono {l : List (Prop × Nat)} {d : Nat} {K K' : Nat → Prop} (hk : ∀ n, K n → K' n) (k : zbr l d K) : zbr l d K' := zbr_iff.mpr (hk _ (zbr_iff.mp k))
theorem zcall_mono {y k : Nat} {args : List zV} {h : zH} {K K' : List zV → zH → Prop} (hk : ∀ vs h1, K vs h1 → K' vs h1) (c : zcall P L y k args h K) : zcall P L y k args h K' := by
  match k, c with
  | 0, c => obtain ⟨n, q, a, b⟩ := c; exact ⟨n, q, a, b.1, hk _ _ b.2⟩
  | 1, c => obtain ⟨n, q, a, v, b⟩ := c; exact ⟨n, q, a, v, b.1, hk _ _ b.2⟩
  | k + 2, c => obtain ⟨n, q, a, v, b⟩ := c; exact ⟨n, q, a, v, b.1, hk _ _ b.2⟩
theorem zwp_mono {s : zS} {ls : List zV} {h : zH} {K K' : Nat → List zV → List zV → zH → Prop} {Q : Option zV → zH → Prop} (hk : ∀ a b c d, K a b c d → K' a b c d) (k : zwp P L s ls h K Q) : zwp P L s ls h K' Q := by
  unfold zwp at k ⊢
  rw [zg_iff] at k ⊢
  refine ⟨k.1, ?_⟩
  have k := k.2
  revert k
  rcases s.2 with _ | ⟨wf, brs, d, ls1, st1, h1⟩ | q1 | ⟨y1, k1, args, rest, pc1⟩
  · exact id
  · cases wf with
    | true => exact fun k h2 e => zbr_mono (fun n => hk _ _ _ _) (k h2 e)
    | false => exact zbr_mono (fun n => hk _ _ _ _)
  · exact id
  · exact zcall_mono (fun vs h1 => hk _ _ _ _)
theorem zwpe_W {cd : List zE} {y : Nat} (hc : P y = cd) (cuts : List Nat) : ∀ (n pc : Nat) (ls st : List zV) (h : zH) (Q : Option zV → zH → Prop), zwpe P L cd y cuts n pc ls st h Q → zW P L y pc ls st h Q := by
  subst hc
  intro n
  induction n with
  | zero => intro pc ls st h Q k; exact k
  | succ n ih =>
    intro pc ls st h Q k
    unfold zwpe at k
    cases hf : zfind pc (P y) with
    | none => rw [hf] at k; exact k.elim
    | some w =>
      obtain ⟨len, E, ops⟩ := w
      rw [hf] at k
      refine zW_step hf (zwp_mono (fun a b c d q => ?_) k)
      revert q
      cases cuts.elem a with
      | true => exact id
      | false => exact ih _ _ _ _ _
end ZW
end
section
/-! The program, method by method: place, length, instruction, what it names. -/
/-- SyntaxRules.<init>()V -/
def c0 : List zE := [(0, 1, .aload_n 0, []),
  (1, 3, .invokespecial 3, [9999, 0, 0]),
  (4, 1, .aload_n 0, []),
  (5, 3, .new 9, [1, 2]),
  (8, 1, .dup, []),
  (9, 3, .invokespecial 11, [43, 0, 0]),
  (12, 3, .putfield 12, [0, 0, 3, 1, 0]),
  (15, 1, .aload_n 0, []),
  (16, 3, .new 16, [2, 18]),
  (19, 1, .dup, []),
  (20, 3, .invokespecial 18, [49, 0, 0]),
  (23, 3, .putfield 19, [0, 1, 2, 1, 0]),
  (26, 1, .aload_n 0, []),
  (27, 3, .new 16, [2, 18]),
  (30, 1, .dup, []),
  (31, 3, .invokespecial 18, [49, 0, 0]),
  (34, 3, .putfield 23, [0, 2, 2, 1, 0]),
  (37, 1, .aload_n 0, []),
  (38, 3, .new 16, [2, 18]),
  (41, 1, .dup, []),
  (42, 3, .invokespecial 18, [49, 0, 0]),
  (45, 3, .putfield 26, [0, 3, 3, 1, 0]),
  (48, 1, .aload_n 0, []),
  (49, 2, .bipush 8, []),
  (51, 3, .anewarray 29, [44]),
  (54, 3, .putfield 31, [0, 4, 3, 1, 0]),
  (57, 1, .aload_n 0, []),
  (58, 3, .new 35, [4, 11]),
  (61, 1, .dup, []),
  (62, 3, .invokespecial 37, [74, 0, 0]),
  (65, 3, .putfield 38, [0, 5, 3, 1, 0]),
  (68, 1, .aload_n 0, []),
  (69, 3, .new 42, [5, 12]),
  (72, 1, .dup, []),
  (73, 3, .invokespecial 44, [90, 0, 0]),
  (76, 3, .putfield 45, [0, 6, 3, 1, 0]),
  (79, 1, .aload_n 0, []),
  (80, 3, .new 49, [6, 16]),
  (83, 1, .dup, []),
  (84, 3, .invokespecial 51, [104, 0, 0]),
  (87, 3, .putfield 52, [0, 7, 3, 1, 0]),
  (90, 1, .aload_n 0, []),
  (91, 3, .new 56, [7, 5]),
  (94, 1, .dup, []),
  (95, 3, .invokespecial 58, [117, 0, 0]),
  (98, 3, .putfield 59, [0, 8, 3, 1, 0]),
  (101, 1, .aload_n 0, []),
  (102, 3, .new 63, [8, 9]),
  (105, 1, .dup, []),
  (106, 3, .invokespecial 65, [122, 0, 0]),
  (109, 3, .putfield 66, [0, 9, 3, 1, 0]),
  (112, 1, .aload_n 0, []),
  (113, 3, .new 70, [9, 3]),
  (116, 1, .dup, []),
  (117, 3, .invokespecial 72, [134, 0, 0]),
  (120, 3, .putfield 73, [0, 10, 3, 1, 0]),
  (123, 1, .aload_n 0, []),
  (124, 1, .iconst 2, []),
  (125, 3, .anewarray 77, [46]),
  (128, 3, .putfield 79, [0, 11, 3, 1, 0]),
  (131, 1, .aload_n 0, []),
  (132, 2, .bipush 6, []),
  (134, 3, .anewarray 9, [45]),
  (137, 3, .putfield 83, [0, 12, 3, 1, 1]),
  (140, 1, .iconst 0, []),
  (141, 1, .istore_n 1, []),
  (142, 1, .iload_n 1, []),
  (143, 1, .iconst 2, []),
  (144, 3, .if_icmp .ge 22, []),
  (147, 1, .aload_n 0, []),
  (148, 3, .getfield 79, [0, 11, 3, 103, 346, 0]),
  (151, 1, .iload_n 1, []),
  (152, 3, .new 77, [10, 3]),
  (155, 1, .dup, []),
  (156, 3, .invokespecial 87, [138, 0, 0]),
  (159, 1, .aastore, [46, 110]),
  (160, 3, .iinc 1 1, []),
  (163, 3, .goto (-21), []),
  (166, 1, .iconst 0, []),
  (167, 1, .istore_n 1, []),
  (168, 1, .iload_n 1, []),
  (169, 2, .bipush 6, []),
  (171, 3, .if_icmp .ge 22, []),
  (174, 1, .aload_n 0, []),
  (175, 3, .getfield 83, [0, 12, 3, 104, 745, 0]),
  (178, 1, .iload_n 1, []),
  (179, 3, .new 9, [1, 2]),
  (182, 1, .dup, []),
  (183, 3, .invokespecial 11, [43, 0, 0]),
  (186, 1, .aastore, [45, 101]),
  (187, 3, .iinc 1 1, []),
  (190, 3, .goto (-22), []),
  (193, 1, .aload_n 0, []),
  (194, 3, .getfield 12, [0, 0, 3, 1, 101, 0]),
  (197, 3, .getfield 88, [1, 0, 3, 1, 30140, 0]),
  (200, 1, .iconst 0, []),
  (201, 2, .bipush 97, []),
  (203, 1, .iastore, [40]),
  (204, 1, .aload_n 0, []),
  (205, 3, .getfield 12, [0, 0, 3, 1, 101, 0]),
  (208, 1, .iconst 1, []),
  (209, 3, .putfield 92, [1, 1, 0, 0, 0]),
  (212, 1, .aload_n 0, []),
  (213, 3, .getfield 19, [0, 1, 2, 0, 102, 0]),
  (216, 1, .aload_n 0, []),
  (217, 3, .getfield 12, [0, 0, 3, 1, 101, 0]),
  (220, 3, .invokevirtual 96, [50, 1, 101, 102]),
  (223, 1, .pop, []),
  (224, 1, .aload_n 0, []),
  (225, 3, .getfield 12, [0, 0, 3, 1, 101, 0]),
  (228, 1, .iconst 0, []),
  (229, 3, .putfield 92, [1, 1, 0, 0, 0]),
  (232, 1, .return_, [])]
/-- SyntaxRules.sign(I)I -/
def c1 : List zE := [(0, 1, .aload_n 0, []),
  (1, 3, .getfield 12, [0, 0, 3, 1, 101, 0]),
  (4, 3, .getfield 92, [1, 1, 0, 0, 0, 0]),
  (7, 1, .iconst 4, []),
  (8, 1, .iadd, []),
  (9, 3, .sipush 300, []),
  (12, 3, .if_icmp .le 5, []),
  (15, 1, .iconst (-1), []),
  (16, 1, .ireturn, [0]),
  (17, 2, .bipush 24, []),
  (19, 1, .istore_n 2, []),
  (20, 1, .iload_n 2, []),
  (21, 3, .ifCond .lt 44, []),
  (24, 1, .aload_n 0, []),
  (25, 3, .getfield 12, [0, 0, 3, 1, 101, 0]),
  (28, 3, .getfield 88, [1, 0, 3, 1, 30140, 0]),
  (31, 1, .aload_n 0, []),
  (32, 3, .getfield 12, [0, 0, 3, 1, 101, 0]),
  (35, 3, .getfield 92, [1, 1, 0, 0, 0, 0]),
  (38, 1, .iload_n 1, []),
  (39, 1, .iload_n 2, []),
  (40, 1, .iushr, []),
  (41, 3, .sipush 255, []),
  (44, 1, .iand, []),
  (45, 1, .iastore, [40]),
  (46, 1, .aload_n 0, []),
  (47, 3, .getfield 12, [0, 0, 3, 1, 101, 0]),
  (50, 1, .dup, []),
  (51, 3, .getfield 92, [1, 1, 0, 0, 0, 0]),
  (54, 1, .iconst 1, []),
  (55, 1, .iadd, []),
  (56, 3, .putfield 92, [1, 1, 0, 0, 0]),
  (59, 3, .iinc 2 (-8), []),
  (62, 3, .goto (-42), []),
  (65, 1, .aload_n 0, []),
  (66, 3, .getfield 12, [0, 0, 3, 1, 101, 0]),
  (69, 3, .getfield 92, [1, 1, 0, 0, 0, 0]),
  (72, 1, .ireturn, [0])]
/-- SyntaxRules.end(I)Z -/
def c2 : List zE := [(0, 1, .iload_n 1, []),
  (1, 3, .ifCond .lt 14, []),
  (4, 1, .iload_n 1, []),
  (5, 1, .aload_n 0, []),
  (6, 3, .getfield 12, [0, 0, 3, 1, 101, 0]),
  (9, 3, .getfield 92, [1, 1, 0, 0, 0, 0]),
  (12, 3, .if_icmp .le 5, []),
  (15, 1, .iconst 0, []),
  (16, 1, .ireturn, [1]),
  (17, 1, .aload_n 0, []),
  (18, 3, .getfield 12, [0, 0, 3, 1, 101, 0]),
  (21, 1, .iload_n 1, []),
  (22, 3, .putfield 92, [1, 1, 0, 0, 0]),
  (25, 1, .iconst 1, []),
  (26, 1, .ireturn, [1])]
/-- SyntaxRules.source()I -/
def c3 : List zE := [(0, 1, .aload_n 0, []),
  (1, 3, .getfield 23, [0, 2, 2, 0, 102, 0]),
  (4, 1, .aload_n 0, []),
  (5, 3, .getfield 12, [0, 0, 3, 1, 101, 0]),
  (8, 3, .invokevirtual 96, [50, 1, 101, 102]),
  (11, 1, .istore_n 1, []),
  (12, 1, .aload_n 0, []),
  (13, 3, .getfield 12, [0, 0, 3, 1, 101, 0]),
  (16, 1, .iconst 0, []),
  (17, 3, .putfield 92, [1, 1, 0, 0, 0]),
  (20, 1, .iload_n 1, []),
  (21, 3, .ifCond .ne 15, []),
  (24, 3, .sipush (-1000), []),
  (27, 1, .aload_n 0, []),
  (28, 3, .getfield 23, [0, 2, 2, 0, 102, 0]),
  (31, 3, .getfield 100, [2, 16, 0, 0, 0, 0]),
  (34, 1, .isub, []),
  (35, 1, .ireturn, [0]),
  (36, 1, .aload_n 0, []),
  (37, 3, .getfield 73, [0, 10, 3, 85, 109, 0]),
  (40, 1, .aload_n 0, []),
  (41, 3, .getfield 19, [0, 1, 2, 0, 102, 0]),
  (44, 3, .getfield 103, [2, 0, 3, 1, 101, 0]),
  (47, 3, .invokevirtual 106, [135, 0, 101, 109]),
  (50, 1, .aload_n 0, []),
  (51, 3, .invokevirtual 110, [37, 0, 100]),
  (54, 1, .aload_n 0, []),
  (55, 3, .getfield 19, [0, 1, 2, 0, 102, 0]),
  (58, 3, .getfield 113, [2, 14, 0, 0, 0, 0]),
  (61, 1, .ireturn, [0])]
/-- SyntaxRules.rule()I -/
def c4 : List zE := [(0, 1, .aload_n 0, []),
  (1, 3, .getfield 38, [0, 5, 3, 52, 104, 0]),
  (4, 1, .aload_n 0, []),
  (5, 3, .getfield 12, [0, 0, 3, 1, 101, 0]),
  (8, 3, .invokevirtual 116, [75, 2, 101, 104]),
  (11, 1, .astore_n 1, []),
  (12, 1, .aload_n 0, []),
  (13, 3, .getfield 12, [0, 0, 3, 1, 101, 0]),
  (16, 1, .iconst 0, []),
  (17, 3, .putfield 92, [1, 1, 0, 0, 0]),
  (20, 1, .aload_n 1, []),
  (21, 3, .ifnonnull 15, []),
  (24, 3, .sipush (-1000), []),
  (27, 1, .aload_n 0, []),
  (28, 3, .getfield 38, [0, 5, 3, 52, 104, 0]),
  (31, 3, .getfield 119, [4, 0, 0, 0, 0, 0]),
  (34, 1, .isub, []),
  (35, 1, .ireturn, [0]),
  (36, 1, .iconst 0, []),
  (37, 1, .istore_n 2, []),
  (38, 1, .iload_n 2, []),
  (39, 2, .bipush 8, []),
  (41, 3, .if_icmp .ge 27, []),
  (44, 1, .aload_n 0, []),
  (45, 3, .getfield 31, [0, 4, 3, 51, 944, 0]),
  (48, 1, .iload_n 2, []),
  (49, 1, .aaload, [44, 0]),
  (50, 3, .ifnonnull 12, []),
  (53, 1, .aload_n 0, []),
  (54, 3, .getfield 31, [0, 4, 3, 51, 944, 0]),
  (57, 1, .iload_n 2, []),
  (58, 1, .aload_n 1, []),
  (59, 1, .aastore, [44, 103]),
  (60, 1, .iload_n 2, []),
  (61, 1, .ireturn, [0]),
  (62, 3, .iinc 2 1, []),
  (65, 3, .goto (-27), []),
  (68, 2, .bipush (-3), []),
  (70, 1, .ireturn, [0])]
/-- SyntaxRules.drop(I)I -/
def c5 : List zE := [(0, 1, .aload_n 0, []),
  (1, 1, .iload_n 1, []),
  (2, 3, .invokevirtual 120, [31, 1, 0, 100]),
  (5, 3, .ifCond .ne 6, []),
  (8, 2, .bipush (-2), []),
  (10, 1, .ireturn, [0]),
  (11, 1, .aload_n 0, []),
  (12, 3, .getfield 31, [0, 4, 3, 51, 944, 0]),
  (15, 1, .iload_n 1, []),
  (16, 1, .aconst_null, []),
  (17, 1, .aastore, [44, 103]),
  (18, 1, .aload_n 0, []),
  (19, 3, .invokevirtual 124, [35, 1, 100]),
  (22, 1, .ireturn, [0])]
/-- SyntaxRules.node(II)I -/
def c6 : List zE := [(0, 1, .aload_n 0, []),
  (1, 1, .iload_n 1, []),
  (2, 3, .invokevirtual 128, [30, 1, 0, 100]),
  (5, 3, .ifCond .ne 11, []),
  (8, 3, .new 131, [99, 6]),
  (11, 1, .dup, []),
  (12, 3, .invokespecial 133, [9990, 0, 0]),
  (15, 1, .athrow, []),
  (16, 1, .iload_n 2, []),
  (17, 47, .tableswitch 137 0 7 #[47, 57, 67, 77, 87, 97, 117, 127], []),
  (64, 1, .aload_n 0, []),
  (65, 3, .getfield 19, [0, 1, 2, 0, 102, 0]),
  (68, 3, .getfield 134, [2, 1, 3, 3, 6140, 0]),
  (71, 1, .iload_n 1, []),
  (72, 1, .iaload, [40]),
  (73, 1, .ireturn, [0]),
  (74, 1, .aload_n 0, []),
  (75, 3, .getfield 19, [0, 1, 2, 0, 102, 0]),
  (78, 3, .getfield 137, [2, 2, 3, 4, 6140, 0]),
  (81, 1, .iload_n 1, []),
  (82, 1, .iaload, [40]),
  (83, 1, .ireturn, [0]),
  (84, 1, .aload_n 0, []),
  (85, 3, .getfield 19, [0, 1, 2, 0, 102, 0]),
  (88, 3, .getfield 140, [2, 3, 3, 5, 6140, 0]),
  (91, 1, .iload_n 1, []),
  (92, 1, .iaload, [40]),
  (93, 1, .ireturn, [0]),
  (94, 1, .aload_n 0, []),
  (95, 3, .getfield 19, [0, 1, 2, 0, 102, 0]),
  (98, 3, .getfield 143, [2, 4, 3, 6, 6140, 0]),
  (101, 1, .iload_n 1, []),
  (102, 1, .iaload, [40]),
  (103, 1, .ireturn, [0]),
  (104, 1, .aload_n 0, []),
  (105, 3, .getfield 19, [0, 1, 2, 0, 102, 0]),
  (108, 3, .getfield 146, [2, 5, 3, 7, 6140, 0]),
  (111, 1, .iload_n 1, []),
  (112, 1, .iaload, [40]),
  (113, 1, .ireturn, [0]),
  (114, 1, .aload_n 0, []),
  (115, 3, .getfield 19, [0, 1, 2, 0, 102, 0]),
  (118, 3, .getfield 149, [2, 6, 3, 8, 6140, 0]),
  (121, 1, .iload_n 1, []),
  (122, 1, .iaload, [40]),
  (123, 1, .aload_n 0, []),
  (124, 3, .getfield 19, [0, 1, 2, 0, 102, 0]),
  (127, 3, .getfield 146, [2, 5, 3, 7, 6140, 0]),
  (130, 1, .iload_n 1, []),
  (131, 1, .iaload, [40]),
  (132, 1, .isub, []),
  (133, 1, .ireturn, [0]),
  (134, 1, .aload_n 0, []),
  (135, 3, .getfield 19, [0, 1, 2, 0, 102, 0]),
  (138, 3, .getfield 152, [2, 7, 3, 9, 6140, 0]),
  (141, 1, .iload_n 1, []),
  (142, 1, .iaload, [40]),
  (143, 1, .ireturn, [0]),
  (144, 1, .aload_n 0, []),
  (145, 3, .getfield 19, [0, 1, 2, 0, 102, 0]),
  (148, 3, .getfield 155, [2, 8, 3, 10, 6140, 0]),
  (151, 1, .iload_n 1, []),
  (152, 1, .iaload, [40]),
  (153, 1, .ireturn, [0]),
  (154, 1, .iconst (-1), []),
  (155, 1, .ireturn, [0])]
/-- SyntaxRules.name(II)I -/
def c7 : List zE := [(0, 1, .aload_n 0, []),
  (1, 1, .iload_n 1, []),
  (2, 3, .invokevirtual 128, [30, 1, 0, 100]),
  (5, 3, .ifCond .eq 20, []),
  (8, 1, .iload_n 2, []),
  (9, 3, .ifCond .lt 16, []),
  (12, 1, .iload_n 2, []),
  (13, 1, .aload_n 0, []),
  (14, 3, .getfield 19, [0, 1, 2, 0, 102, 0]),
  (17, 3, .getfield 158, [2, 10, 3, 12, 6140, 0]),
  (20, 1, .iload_n 1, []),
  (21, 1, .iaload, [40]),
  (22, 3, .if_icmp .lt 5, []),
  (25, 1, .iconst (-1), []),
  (26, 1, .ireturn, [0]),
  (27, 1, .aload_n 0, []),
  (28, 3, .getfield 19, [0, 1, 2, 0, 102, 0]),
  (31, 3, .getfield 103, [2, 0, 3, 1, 101, 0]),
  (34, 1, .aload_n 0, []),
  (35, 3, .getfield 19, [0, 1, 2, 0, 102, 0]),
  (38, 3, .getfield 161, [2, 9, 3, 11, 6140, 0]),
  (41, 1, .iload_n 1, []),
  (42, 1, .iaload, [40]),
  (43, 1, .iload_n 2, []),
  (44, 1, .iadd, []),
  (45, 3, .invokevirtual 164, [44, 1, 0, 101]),
  (48, 1, .ireturn, [0])]
/-- SyntaxRules.comment(II)I -/
def c8 : List zE := [(0, 1, .iload_n 1, []),
  (1, 1, .iconst (-1), []),
  (2, 3, .if_icmp .ne 15, []),
  (5, 1, .iload_n 2, []),
  (6, 3, .ifCond .ne 11, []),
  (9, 1, .aload_n 0, []),
  (10, 3, .getfield 19, [0, 1, 2, 0, 102, 0]),
  (13, 3, .getfield 167, [2, 15, 0, 0, 0, 0]),
  (16, 1, .ireturn, [0]),
  (17, 1, .iload_n 1, []),
  (18, 3, .ifCond .lt 14, []),
  (21, 1, .iload_n 1, []),
  (22, 1, .aload_n 0, []),
  (23, 3, .getfield 19, [0, 1, 2, 0, 102, 0]),
  (26, 3, .getfield 167, [2, 15, 0, 0, 0, 0]),
  (29, 3, .if_icmp .lt 5, []),
  (32, 1, .iconst (-1), []),
  (33, 1, .ireturn, [0]),
  (34, 1, .iload_n 2, []),
  (35, 25, .tableswitch 55 0 2 #[25, 35, 45], []),
  (60, 1, .aload_n 0, []),
  (61, 3, .getfield 19, [0, 1, 2, 0, 102, 0]),
  (64, 3, .getfield 170, [2, 11, 3, 13, 15140, 0]),
  (67, 1, .iload_n 1, []),
  (68, 1, .iaload, [40]),
  (69, 1, .ireturn, [0]),
  (70, 1, .aload_n 0, []),
  (71, 3, .getfield 19, [0, 1, 2, 0, 102, 0]),
  (74, 3, .getfield 173, [2, 12, 3, 14, 15140, 0]),
  (77, 1, .iload_n 1, []),
  (78, 1, .iaload, [40]),
  (79, 1, .ireturn, [0]),
  (80, 1, .aload_n 0, []),
  (81, 3, .getfield 19, [0, 1, 2, 0, 102, 0]),
  (84, 3, .getfield 176, [2, 13, 3, 15, 15140, 0]),
  (87, 1, .iload_n 1, []),
  (88, 1, .iaload, [40]),
  (89, 1, .ireturn, [0]),
  (90, 1, .iconst (-1), []),
  (91, 1, .ireturn, [0])]
/-- SyntaxRules.letter(I)I -/
def c9 : List zE := [(0, 1, .aload_n 0, []),
  (1, 3, .getfield 19, [0, 1, 2, 0, 102, 0]),
  (4, 3, .getfield 103, [2, 0, 3, 1, 101, 0]),
  (7, 1, .iload_n 1, []),
  (8, 3, .invokevirtual 164, [44, 1, 0, 101]),
  (11, 1, .ireturn, [0])]
/-- SyntaxRules.alike(II)I -/
def c10 : List zE := [(0, 1, .aload_n 0, []),
  (1, 1, .iload_n 1, []),
  (2, 3, .invokevirtual 128, [30, 1, 0, 100]),
  (5, 3, .ifCond .eq 11, []),
  (8, 1, .aload_n 0, []),
  (9, 1, .iload_n 2, []),
  (10, 3, .invokevirtual 128, [30, 1, 0, 100]),
  (13, 3, .ifCond .ne 5, []),
  (16, 1, .iconst (-1), []),
  (17, 1, .ireturn, [0]),
  (18, 1, .aload_n 0, []),
  (19, 3, .getfield 19, [0, 1, 2, 0, 102, 0]),
  (22, 1, .iload_n 1, []),
  (23, 1, .iload_n 2, []),
  (24, 3, .invokevirtual 179, [61, 1, 0, 0, 102]),
  (27, 3, .ifCond .eq 7, []),
  (30, 1, .iconst 1, []),
  (31, 3, .goto 4, []),
  (34, 1, .iconst 0, []),
  (35, 1, .ireturn, [0])]
/-- SyntaxRules.twins(II)I -/
def c11 : List zE := [(0, 1, .aload_n 0, []),
  (1, 1, .iload_n 1, []),
  (2, 3, .invokevirtual 128, [30, 1, 0, 100]),
  (5, 3, .ifCond .eq 12, []),
  (8, 1, .iload_n 2, []),
  (9, 3, .ifCond .lt 8, []),
  (12, 1, .iload_n 2, []),
  (13, 1, .iconst 1, []),
  (14, 3, .if_icmp .le 5, []),
  (17, 1, .iconst (-1), []),
  (18, 1, .ireturn, [0]),
  (19, 1, .iconst 0, []),
  (20, 1, .istore_n 3, []),
  (21, 1, .iconst 0, []),
  (22, 2, .istore 4, []),
  (24, 2, .iload 4, []),
  (26, 1, .aload_n 0, []),
  (27, 3, .getfield 19, [0, 1, 2, 0, 102, 0]),
  (30, 3, .getfield 113, [2, 14, 0, 0, 0, 0]),
  (33, 3, .if_icmp .ge 33, []),
  (36, 1, .aload_n 0, []),
  (37, 3, .getfield 19, [0, 1, 2, 0, 102, 0]),
  (40, 1, .iload_n 1, []),
  (41, 2, .iload 4, []),
  (43, 3, .invokevirtual 179, [61, 1, 0, 0, 102]),
  (46, 3, .ifCond .eq 14, []),
  (49, 1, .iload_n 2, []),
  (50, 1, .iconst 1, []),
  (51, 3, .if_icmp .ne 6, []),
  (54, 2, .iload 4, []),
  (56, 1, .ireturn, [0]),
  (57, 3, .iinc 3 1, []),
  (60, 3, .iinc 4 1, []),
  (63, 3, .goto (-39), []),
  (66, 1, .iload_n 3, []),
  (67, 1, .ireturn, [0])]
/-- SyntaxRules.told(II)I -/
def c12 : List zE := [(0, 1, .aload_n 0, []),
  (1, 1, .iload_n 1, []),
  (2, 3, .invokevirtual 120, [31, 1, 0, 100]),
  (5, 3, .ifCond .ne 5, []),
  (8, 1, .iconst (-1), []),
  (9, 1, .ireturn, [0]),
  (10, 1, .aload_n 0, []),
  (11, 3, .getfield 31, [0, 4, 3, 51, 944, 0]),
  (14, 1, .iload_n 1, []),
  (15, 1, .aaload, [44, 0]),
  (16, 1, .astore_n 3, []),
  (17, 1, .iload_n 2, []),
  (18, 34, .tableswitch 87 0 4 #[34, 43, 54, 65, 73], []),
  (52, 1, .aload_n 0, []),
  (53, 3, .getfield 52, [0, 7, 3, 61, 106, 0]),
  (56, 1, .aload_n 3, []),
  (57, 3, .invokevirtual 183, [105, 1, 103, 106]),
  (60, 1, .ireturn, [0]),
  (61, 1, .aload_n 3, []),
  (62, 1, .iconst 5, []),
  (63, 1, .iconst 0, []),
  (64, 1, .aload_n 3, []),
  (65, 3, .getfield 187, [3, 14, 0, 0, 0, 0]),
  (68, 3, .invokevirtual 190, [67, 1, 0, 0, 0, 103]),
  (71, 1, .ireturn, [0]),
  (72, 1, .aload_n 3, []),
  (73, 1, .iconst 2, []),
  (74, 1, .iconst 0, []),
  (75, 1, .aload_n 3, []),
  (76, 3, .getfield 187, [3, 14, 0, 0, 0, 0]),
  (79, 3, .invokevirtual 190, [67, 1, 0, 0, 0, 103]),
  (82, 1, .ireturn, [0]),
  (83, 1, .aload_n 3, []),
  (84, 3, .getfield 194, [3, 15, 0, 0, 0, 0]),
  (87, 3, .invokestatic 197, [258, 1, 0]),
  (90, 1, .ireturn, [0]),
  (91, 1, .aload_n 3, []),
  (92, 1, .iconst 4, []),
  (93, 1, .aload_n 3, []),
  (94, 3, .getfield 187, [3, 14, 0, 0, 0, 0]),
  (97, 1, .aload_n 3, []),
  (98, 3, .getfield 202, [3, 13, 0, 0, 0, 0]),
  (101, 3, .invokevirtual 190, [67, 1, 0, 0, 0, 103]),
  (104, 1, .ireturn, [0]),
  (105, 1, .iconst (-1), []),
  (106, 1, .ireturn, [0])]
/-- SyntaxRules.ways(II)I -/
def c13 : List zE := [(0, 1, .aload_n 0, []),
  (1, 1, .iload_n 1, []),
  (2, 3, .invokevirtual 120, [31, 1, 0, 100]),
  (5, 3, .ifCond .eq 11, []),
  (8, 1, .aload_n 0, []),
  (9, 1, .iload_n 2, []),
  (10, 3, .invokevirtual 128, [30, 1, 0, 100]),
  (13, 3, .ifCond .ne 5, []),
  (16, 1, .iconst (-1), []),
  (17, 1, .ireturn, [0]),
  (18, 1, .aload_n 0, []),
  (19, 3, .getfield 45, [0, 6, 3, 54, 105, 0]),
  (22, 1, .aload_n 0, []),
  (23, 3, .getfield 19, [0, 1, 2, 0, 102, 0]),
  (26, 1, .aload_n 0, []),
  (27, 3, .getfield 31, [0, 4, 3, 51, 944, 0]),
  (30, 1, .iload_n 1, []),
  (31, 1, .aaload, [44, 0]),
  (32, 1, .iconst 0, []),
  (33, 1, .iload_n 2, []),
  (34, 3, .sipush 500, []),
  (37, 3, .invokevirtual 205, [94, 1, 0, 0, 0, 103, 102, 105]),
  (40, 1, .ireturn, [0])]
/-- SyntaxRules.held(IIII)I -/
def c14 : List zE := [(0, 1, .aload_n 0, []),
  (1, 1, .iload_n 1, []),
  (2, 3, .invokevirtual 120, [31, 1, 0, 100]),
  (5, 3, .ifCond .eq 32, []),
  (8, 1, .aload_n 0, []),
  (9, 1, .iload_n 2, []),
  (10, 3, .invokevirtual 128, [30, 1, 0, 100]),
  (13, 3, .ifCond .eq 24, []),
  (16, 1, .iload_n 3, []),
  (17, 3, .ifCond .lt 20, []),
  (20, 1, .iload_n 3, []),
  (21, 2, .bipush 26, []),
  (23, 3, .if_icmp .ge 14, []),
  (26, 2, .iload 4, []),
  (28, 3, .ifCond .lt 9, []),
  (31, 2, .iload 4, []),
  (33, 1, .iconst 1, []),
  (34, 3, .if_icmp .le 5, []),
  (37, 1, .iconst (-1), []),
  (38, 1, .ireturn, [0]),
  (39, 1, .aload_n 0, []),
  (40, 3, .getfield 31, [0, 4, 3, 51, 944, 0]),
  (43, 1, .iload_n 1, []),
  (44, 1, .aaload, [44, 0]),
  (45, 1, .iconst 0, []),
  (46, 1, .iload_n 3, []),
  (47, 3, .invokevirtual 209, [68, 1, 0, 0, 103]),
  (50, 2, .istore 5, []),
  (52, 2, .iload 5, []),
  (54, 1, .iconst (-1), []),
  (55, 3, .if_icmp .eq 24, []),
  (58, 1, .aload_n 0, []),
  (59, 3, .getfield 45, [0, 6, 3, 54, 105, 0]),
  (62, 1, .aload_n 0, []),
  (63, 3, .getfield 19, [0, 1, 2, 0, 102, 0]),
  (66, 1, .aload_n 0, []),
  (67, 3, .getfield 31, [0, 4, 3, 51, 944, 0]),
  (70, 1, .iload_n 1, []),
  (71, 1, .aaload, [44, 0]),
  (72, 1, .iload_n 2, []),
  (73, 3, .invokevirtual 213, [91, 1, 0, 103, 102, 105]),
  (76, 3, .ifCond .ne 5, []),
  (79, 1, .iconst (-1), []),
  (80, 1, .ireturn, [0]),
  (81, 2, .iload 4, []),
  (83, 3, .ifCond .ne 15, []),
  (86, 1, .aload_n 0, []),
  (87, 3, .getfield 45, [0, 6, 3, 54, 105, 0]),
  (90, 2, .iload 5, []),
  (92, 3, .invokevirtual 217, [93, 1, 0, 105]),
  (95, 3, .goto 13, []),
  (98, 1, .aload_n 0, []),
  (99, 3, .getfield 45, [0, 6, 3, 54, 105, 0]),
  (102, 3, .getfield 220, [5, 2, 3, 3, 2140, 0]),
  (105, 2, .iload 5, []),
  (107, 1, .iaload, [40]),
  (108, 1, .ireturn, [0])]
/-- SyntaxRules.found(II)I -/
def c15 : List zE := [(0, 1, .aload_n 0, []),
  (1, 1, .iload_n 1, []),
  (2, 3, .invokevirtual 120, [31, 1, 0, 100]),
  (5, 3, .ifCond .eq 8, []),
  (8, 1, .iload_n 2, []),
  (9, 1, .iconst (-1), []),
  (10, 3, .if_icmp .ge 5, []),
  (13, 1, .iconst (-1), []),
  (14, 1, .ireturn, [0]),
  (15, 1, .iconst 0, []),
  (16, 1, .istore_n 3, []),
  (17, 1, .iconst 0, []),
  (18, 2, .istore 4, []),
  (20, 2, .iload 4, []),
  (22, 1, .aload_n 0, []),
  (23, 3, .getfield 19, [0, 1, 2, 0, 102, 0]),
  (26, 3, .getfield 113, [2, 14, 0, 0, 0, 0]),
  (29, 3, .if_icmp .ge 42, []),
  (32, 1, .aload_n 0, []),
  (33, 3, .getfield 45, [0, 6, 3, 54, 105, 0]),
  (36, 1, .aload_n 0, []),
  (37, 3, .getfield 19, [0, 1, 2, 0, 102, 0]),
  (40, 1, .aload_n 0, []),
  (41, 3, .getfield 31, [0, 4, 3, 51, 944, 0]),
  (44, 1, .iload_n 1, []),
  (45, 1, .aaload, [44, 0]),
  (46, 2, .iload 4, []),
  (48, 3, .invokevirtual 213, [91, 1, 0, 103, 102, 105]),
  (51, 3, .ifCond .eq 14, []),
  (54, 1, .iload_n 3, []),
  (55, 1, .iload_n 2, []),
  (56, 3, .if_icmp .ne 6, []),
  (59, 2, .iload 4, []),
  (61, 1, .ireturn, [0]),
  (62, 3, .iinc 3 1, []),
  (65, 3, .iinc 4 1, []),
  (68, 3, .goto (-48), []),
  (71, 1, .iload_n 2, []),
  (72, 1, .iconst (-1), []),
  (73, 3, .if_icmp .ne 7, []),
  (76, 1, .iload_n 3, []),
  (77, 3, .goto 4, []),
  (80, 1, .iconst (-1), []),
  (81, 1, .ireturn, [0])]
/-- SyntaxRules.rulesOf(I)I -/
def c16 : List zE := [(0, 1, .aload_n 0, []),
  (1, 1, .iload_n 1, []),
  (2, 3, .invokevirtual 128, [30, 1, 0, 100]),
  (5, 3, .ifCond .eq 22, []),
  (8, 1, .aload_n 0, []),
  (9, 3, .getfield 45, [0, 6, 3, 54, 105, 0]),
  (12, 1, .aload_n 0, []),
  (13, 3, .getfield 19, [0, 1, 2, 0, 102, 0]),
  (16, 1, .aload_n 0, []),
  (17, 3, .getfield 31, [0, 4, 3, 51, 944, 0]),
  (20, 1, .iload_n 1, []),
  (21, 3, .invokevirtual 223, [92, 1, 0, 944, 102, 105]),
  (24, 3, .goto 4, []),
  (27, 1, .iconst (-1), []),
  (28, 1, .ireturn, [0])]
/-- SyntaxRules.tests(I)I -/
def c17 : List zE := [(0, 1, .iload_n 1, []),
  (1, 27, .lookupswitch 44 #[(0, 27), (1, 32)], []),
  (28, 1, .aload_n 0, []),
  (29, 3, .invokevirtual 227, [36, 1, 100]),
  (32, 1, .ireturn, [0]),
  (33, 1, .aload_n 0, []),
  (34, 3, .getfield 52, [0, 7, 3, 61, 106, 0]),
  (37, 1, .aload_n 0, []),
  (38, 3, .getfield 31, [0, 4, 3, 51, 944, 0]),
  (41, 3, .invokevirtual 230, [108, 1, 944, 106]),
  (44, 1, .ireturn, [0]),
  (45, 1, .iconst (-1), []),
  (46, 1, .ireturn, [0])]
/-- SyntaxRules.asked(I)I -/
def c18 : List zE := [(0, 1, .aload_n 0, []),
  (1, 1, .iload_n 1, []),
  (2, 3, .invokevirtual 128, [30, 1, 0, 100]),
  (5, 3, .ifCond .ne 5, []),
  (8, 1, .iconst (-1), []),
  (9, 1, .ireturn, [0]),
  (10, 1, .aload_n 0, []),
  (11, 3, .getfield 52, [0, 7, 3, 61, 106, 0]),
  (14, 1, .aload_n 0, []),
  (15, 3, .getfield 31, [0, 4, 3, 51, 944, 0]),
  (18, 3, .invokevirtual 230, [108, 1, 944, 106]),
  (21, 1, .pop, []),
  (22, 1, .aload_n 0, []),
  (23, 3, .getfield 52, [0, 7, 3, 61, 106, 0]),
  (26, 1, .aload_n 0, []),
  (27, 3, .getfield 19, [0, 1, 2, 0, 102, 0]),
  (30, 1, .iload_n 1, []),
  (31, 1, .aload_n 0, []),
  (32, 3, .getfield 45, [0, 6, 3, 54, 105, 0]),
  (35, 3, .invokevirtual 234, [113, 1, 105, 0, 102, 106]),
  (38, 1, .ireturn, [0])]
/-- SyntaxRules.edit(III)I -/
def c19 : List zE := [(0, 1, .iload_n 1, []),
  (1, 3, .invokestatic 238, [32, 1, 0]),
  (4, 3, .ifCond .ne 5, []),
  (7, 1, .iconst (-1), []),
  (8, 1, .ireturn, [0]),
  (9, 1, .aload_n 0, []),
  (10, 3, .getfield 59, [0, 8, 3, 75, 107, 0]),
  (13, 1, .aload_n 0, []),
  (14, 3, .getfield 19, [0, 1, 2, 0, 102, 0]),
  (17, 1, .aload_n 0, []),
  (18, 3, .getfield 31, [0, 4, 3, 51, 944, 0]),
  (21, 1, .iload_n 1, []),
  (22, 1, .aload_n 0, []),
  (23, 3, .getfield 45, [0, 6, 3, 54, 105, 0]),
  (26, 3, .invokevirtual 241, [118, 0, 105, 0, 944, 102, 107]),
  (29, 1, .iload_n 2, []),
  (30, 1, .iconst (-1), []),
  (31, 3, .if_icmp .ne 15, []),
  (34, 1, .iload_n 3, []),
  (35, 3, .ifCond .ne 11, []),
  (38, 1, .aload_n 0, []),
  (39, 3, .getfield 59, [0, 8, 3, 75, 107, 0]),
  (42, 3, .getfield 245, [7, 0, 0, 0, 0, 0]),
  (45, 1, .ireturn, [0]),
  (46, 1, .iload_n 2, []),
  (47, 3, .ifCond .lt 14, []),
  (50, 1, .iload_n 2, []),
  (51, 1, .aload_n 0, []),
  (52, 3, .getfield 59, [0, 8, 3, 75, 107, 0]),
  (55, 3, .getfield 245, [7, 0, 0, 0, 0, 0]),
  (58, 3, .if_icmp .lt 5, []),
  (61, 1, .iconst (-1), []),
  (62, 1, .ireturn, [0]),
  (63, 1, .iload_n 3, []),
  (64, 32, .tableswitch 71 0 3 #[32, 41, 51, 61], []),
  (96, 1, .aload_n 0, []),
  (97, 3, .getfield 59, [0, 8, 3, 75, 107, 0]),
  (100, 1, .iload_n 2, []),
  (101, 3, .invokevirtual 248, [121, 1, 0, 107]),
  (104, 1, .ireturn, [0]),
  (105, 1, .aload_n 0, []),
  (106, 3, .getfield 59, [0, 8, 3, 75, 107, 0]),
  (109, 3, .getfield 251, [7, 1, 3, 1, 6140, 0]),
  (112, 1, .iload_n 2, []),
  (113, 1, .iaload, [40]),
  (114, 1, .ireturn, [0]),
  (115, 1, .aload_n 0, []),
  (116, 1, .iload_n 2, []),
  (117, 1, .iconst (-1), []),
  (118, 3, .invokevirtual 254, [38, 110, 0, 0, 100]),
  (121, 3, .getfield 258, [8, 0, 0, 0, 0, 0]),
  (124, 1, .ireturn, [0]),
  (125, 1, .aload_n 0, []),
  (126, 1, .iload_n 2, []),
  (127, 1, .iconst (-1), []),
  (128, 3, .invokevirtual 254, [38, 110, 0, 0, 100]),
  (131, 3, .getfield 259, [8, 1, 0, 0, 0, 0]),
  (134, 1, .ireturn, [0]),
  (135, 1, .iconst (-1), []),
  (136, 1, .ireturn, [0])]
/-- SyntaxRules.comes(III)I -/
def c20 : List zE := [(0, 1, .iload_n 1, []),
  (1, 3, .invokestatic 238, [32, 1, 0]),
  (4, 3, .ifCond .eq 7, []),
  (7, 1, .iload_n 3, []),
  (8, 3, .ifCond .ge 5, []),
  (11, 1, .iconst (-1), []),
  (12, 1, .ireturn, [0]),
  (13, 1, .aload_n 0, []),
  (14, 3, .getfield 59, [0, 8, 3, 75, 107, 0]),
  (17, 1, .aload_n 0, []),
  (18, 3, .getfield 19, [0, 1, 2, 0, 102, 0]),
  (21, 1, .aload_n 0, []),
  (22, 3, .getfield 31, [0, 4, 3, 51, 944, 0]),
  (25, 1, .iload_n 1, []),
  (26, 1, .aload_n 0, []),
  (27, 3, .getfield 45, [0, 6, 3, 54, 105, 0]),
  (30, 3, .invokevirtual 241, [118, 0, 105, 0, 944, 102, 107]),
  (33, 1, .iload_n 2, []),
  (34, 3, .ifCond .lt 14, []),
  (37, 1, .iload_n 2, []),
  (38, 1, .aload_n 0, []),
  (39, 3, .getfield 59, [0, 8, 3, 75, 107, 0]),
  (42, 3, .getfield 245, [7, 0, 0, 0, 0, 0]),
  (45, 3, .if_icmp .lt 5, []),
  (48, 1, .iconst (-1), []),
  (49, 1, .ireturn, [0]),
  (50, 1, .aload_n 0, []),
  (51, 1, .iload_n 2, []),
  (52, 1, .iload_n 3, []),
  (53, 3, .invokevirtual 254, [38, 110, 0, 0, 100]),
  (56, 3, .getfield 262, [8, 2, 0, 0, 0, 0]),
  (59, 1, .ireturn, [0])]
/-- SyntaxRules.conflicts(II)I -/
def c21 : List zE := [(0, 1, .iload_n 1, []),
  (1, 3, .invokestatic 238, [32, 1, 0]),
  (4, 3, .ifCond .eq 12, []),
  (7, 1, .iload_n 2, []),
  (8, 3, .ifCond .lt 8, []),
  (11, 1, .iload_n 2, []),
  (12, 1, .iconst 2, []),
  (13, 3, .if_icmp .le 5, []),
  (16, 1, .iconst (-1), []),
  (17, 1, .ireturn, [0]),
  (18, 1, .aload_n 0, []),
  (19, 3, .getfield 59, [0, 8, 3, 75, 107, 0]),
  (22, 1, .aload_n 0, []),
  (23, 3, .getfield 19, [0, 1, 2, 0, 102, 0]),
  (26, 1, .aload_n 0, []),
  (27, 3, .getfield 31, [0, 4, 3, 51, 944, 0]),
  (30, 1, .iload_n 1, []),
  (31, 1, .aload_n 0, []),
  (32, 3, .getfield 45, [0, 6, 3, 54, 105, 0]),
  (35, 3, .invokevirtual 241, [118, 0, 105, 0, 944, 102, 107]),
  (38, 1, .iconst 0, []),
  (39, 1, .istore_n 3, []),
  (40, 1, .iconst 0, []),
  (41, 2, .istore 4, []),
  (43, 1, .iconst 0, []),
  (44, 2, .istore 5, []),
  (46, 1, .iconst 0, []),
  (47, 2, .istore 6, []),
  (49, 1, .iconst 0, []),
  (50, 2, .istore 7, []),
  (52, 2, .iload 7, []),
  (54, 1, .aload_n 0, []),
  (55, 3, .getfield 19, [0, 1, 2, 0, 102, 0]),
  (58, 3, .getfield 113, [2, 14, 0, 0, 0, 0]),
  (61, 3, .if_icmp .ge 89, []),
  (64, 1, .aload_n 0, []),
  (65, 3, .getfield 59, [0, 8, 3, 75, 107, 0]),
  (68, 3, .getfield 265, [7, 3, 3, 3, 6140, 0]),
  (71, 2, .iload 7, []),
  (73, 1, .iaload, [40]),
  (74, 2, .istore 8, []),
  (76, 2, .iload 5, []),
  (78, 2, .iload 8, []),
  (80, 1, .ior, []),
  (81, 2, .istore 5, []),
  (83, 1, .aload_n 0, []),
  (84, 3, .getfield 59, [0, 8, 3, 75, 107, 0]),
  (87, 3, .getfield 268, [7, 2, 3, 2, 6140, 0]),
  (90, 2, .iload 7, []),
  (92, 1, .iaload, [40]),
  (93, 1, .iconst (-1), []),
  (94, 3, .if_icmp .eq 42, []),
  (97, 2, .iload 6, []),
  (99, 1, .iconst 1, []),
  (100, 1, .aload_n 0, []),
  (101, 3, .getfield 59, [0, 8, 3, 75, 107, 0]),
  (104, 3, .getfield 268, [7, 2, 3, 2, 6140, 0]),
  (107, 2, .iload 7, []),
  (109, 1, .iaload, [40]),
  (110, 1, .ishl, []),
  (111, 1, .ior, []),
  (112, 2, .istore 6, []),
  (114, 2, .iload 4, []),
  (116, 2, .iload 8, []),
  (118, 3, .invokestatic 197, [258, 1, 0]),
  (121, 1, .iconst 1, []),
  (122, 3, .if_icmp .le 7, []),
  (125, 1, .iconst 1, []),
  (126, 3, .goto 4, []),
  (129, 1, .iconst 0, []),
  (130, 1, .iadd, []),
  (131, 2, .istore 4, []),
  (133, 3, .goto 11, []),
  (136, 2, .iload 8, []),
  (138, 3, .ifCond .eq 6, []),
  (141, 3, .iinc 3 1, []),
  (144, 3, .iinc 7 1, []),
  (147, 3, .goto (-95), []),
  (150, 1, .iload_n 2, []),
  (151, 3, .ifCond .ne 5, []),
  (154, 1, .iload_n 3, []),
  (155, 1, .ireturn, [0]),
  (156, 1, .iload_n 2, []),
  (157, 1, .iconst 1, []),
  (158, 3, .if_icmp .ne 8, []),
  (161, 2, .iload 4, []),
  (163, 3, .goto 10, []),
  (166, 2, .iload 5, []),
  (168, 2, .iload 6, []),
  (170, 1, .iconst (-1), []),
  (171, 1, .ixor, []),
  (172, 1, .iand, []),
  (173, 1, .ireturn, [0])]
/-- SyntaxRules.would(II)I -/
def c22 : List zE := [(0, 1, .iload_n 1, []),
  (1, 3, .invokestatic 238, [32, 1, 0]),
  (4, 3, .ifCond .eq 12, []),
  (7, 1, .iload_n 2, []),
  (8, 3, .ifCond .lt 8, []),
  (11, 1, .iload_n 2, []),
  (12, 1, .iconst 2, []),
  (13, 3, .if_icmp .le 5, []),
  (16, 1, .iconst (-1), []),
  (17, 1, .ireturn, [0]),
  (18, 1, .aload_n 0, []),
  (19, 1, .aload_n 0, []),
  (20, 3, .getfield 19, [0, 1, 2, 0, 102, 0]),
  (23, 1, .aload_n 0, []),
  (24, 3, .getfield 23, [0, 2, 2, 0, 102, 0]),
  (27, 1, .iload_n 1, []),
  (28, 3, .invokevirtual 271, [40, 1, 0, 102, 102, 100]),
  (31, 1, .istore_n 3, []),
  (32, 1, .iload_n 3, []),
  (33, 2, .bipush (-3), []),
  (35, 3, .if_icmp .ne 6, []),
  (38, 2, .bipush (-3), []),
  (40, 1, .ireturn, [0]),
  (41, 1, .iload_n 3, []),
  (42, 3, .ifCond .ne 10, []),
  (45, 1, .aload_n 0, []),
  (46, 3, .getfield 19, [0, 1, 2, 0, 102, 0]),
  (49, 3, .goto 7, []),
  (52, 1, .aload_n 0, []),
  (53, 3, .getfield 23, [0, 2, 2, 0, 102, 0]),
  (56, 2, .astore 4, []),
  (58, 1, .iload_n 2, []),
  (59, 3, .ifCond .ne 12, []),
  (62, 2, .aload 4, []),
  (64, 3, .getfield 103, [2, 0, 3, 1, 101, 0]),
  (67, 3, .getfield 92, [1, 1, 0, 0, 0, 0]),
  (70, 1, .ireturn, [0]),
  (71, 1, .iload_n 2, []),
  (72, 1, .iconst 1, []),
  (73, 3, .if_icmp .ne 11, []),
  (76, 2, .aload 4, []),
  (78, 3, .getfield 113, [2, 14, 0, 0, 0, 0]),
  (81, 3, .goto 8, []),
  (84, 2, .aload 4, []),
  (86, 3, .getfield 167, [2, 15, 0, 0, 0, 0]),
  (89, 1, .ireturn, [0])]
/-- SyntaxRules.apply(I)I -/
def c23 : List zE := [(0, 1, .iload_n 1, []),
  (1, 3, .invokestatic 238, [32, 1, 0]),
  (4, 3, .ifCond .ne 5, []),
  (7, 1, .iconst (-1), []),
  (8, 1, .ireturn, [0]),
  (9, 1, .aload_n 0, []),
  (10, 1, .aload_n 0, []),
  (11, 3, .getfield 19, [0, 1, 2, 0, 102, 0]),
  (14, 1, .aload_n 0, []),
  (15, 3, .getfield 23, [0, 2, 2, 0, 102, 0]),
  (18, 1, .iload_n 1, []),
  (19, 3, .invokevirtual 271, [40, 1, 0, 102, 102, 100]),
  (22, 1, .istore_n 2, []),
  (23, 1, .iload_n 2, []),
  (24, 3, .ifCond .le 21, []),
  (27, 1, .aload_n 0, []),
  (28, 3, .getfield 73, [0, 10, 3, 85, 109, 0]),
  (31, 1, .aload_n 0, []),
  (32, 3, .getfield 19, [0, 1, 2, 0, 102, 0]),
  (35, 3, .getfield 103, [2, 0, 3, 1, 101, 0]),
  (38, 3, .invokevirtual 106, [135, 0, 101, 109]),
  (41, 1, .aload_n 0, []),
  (42, 3, .invokevirtual 110, [37, 0, 100]),
  (45, 1, .iload_n 2, []),
  (46, 1, .ireturn, [0])]
/-- SyntaxRules.rounds(II)I -/
def c24 : List zE := [(0, 1, .iload_n 1, []),
  (1, 3, .invokestatic 238, [32, 1, 0]),
  (4, 3, .ifCond .eq 14, []),
  (7, 1, .iload_n 2, []),
  (8, 1, .iconst 1, []),
  (9, 3, .if_icmp .lt 9, []),
  (12, 1, .iload_n 2, []),
  (13, 2, .bipush 6, []),
  (15, 3, .if_icmp .le 5, []),
  (18, 1, .iconst (-1), []),
  (19, 1, .ireturn, [0]),
  (20, 1, .iconst 0, []),
  (21, 1, .istore_n 3, []),
  (22, 1, .iload_n 3, []),
  (23, 1, .iload_n 2, []),
  (24, 3, .if_icmp .ge 49, []),
  (27, 1, .aload_n 0, []),
  (28, 1, .aload_n 0, []),
  (29, 3, .getfield 19, [0, 1, 2, 0, 102, 0]),
  (32, 1, .aload_n 0, []),
  (33, 3, .getfield 23, [0, 2, 2, 0, 102, 0]),
  (36, 1, .iload_n 1, []),
  (37, 3, .invokevirtual 271, [40, 1, 0, 102, 102, 100]),
  (40, 3, .ifCond .gt 5, []),
  (43, 1, .iload_n 3, []),
  (44, 1, .ireturn, [0]),
  (45, 1, .iload_n 3, []),
  (46, 3, .ifCond .ne 17, []),
  (49, 1, .aload_n 0, []),
  (50, 3, .getfield 73, [0, 10, 3, 85, 109, 0]),
  (53, 1, .aload_n 0, []),
  (54, 3, .getfield 19, [0, 1, 2, 0, 102, 0]),
  (57, 3, .getfield 103, [2, 0, 3, 1, 101, 0]),
  (60, 3, .invokevirtual 106, [135, 0, 101, 109]),
  (63, 1, .aload_n 0, []),
  (64, 3, .invokevirtual 110, [37, 0, 100]),
  (67, 3, .iinc 3 1, []),
  (70, 3, .goto (-48), []),
  (73, 1, .iload_n 2, []),
  (74, 1, .ireturn, [0])]
/-- SyntaxRules.after(III)I -/
def c25 : List zE := [(0, 1, .iload_n 1, []),
  (1, 3, .invokestatic 238, [32, 1, 0]),
  (4, 3, .ifCond .eq 23, []),
  (7, 1, .iload_n 2, []),
  (8, 1, .iconst 1, []),
  (9, 3, .if_icmp .lt 18, []),
  (12, 1, .iload_n 2, []),
  (13, 2, .bipush 6, []),
  (15, 3, .if_icmp .gt 12, []),
  (18, 1, .iload_n 3, []),
  (19, 3, .ifCond .lt 8, []),
  (22, 1, .iload_n 3, []),
  (23, 1, .iconst 2, []),
  (24, 3, .if_icmp .le 5, []),
  (27, 1, .iconst (-1), []),
  (28, 1, .ireturn, [0]),
  (29, 1, .aload_n 0, []),
  (30, 3, .getfield 19, [0, 1, 2, 0, 102, 0]),
  (33, 2, .astore 4, []),
  (35, 1, .iconst 0, []),
  (36, 2, .istore 5, []),
  (38, 1, .iconst 0, []),
  (39, 2, .istore 6, []),
  (41, 2, .iload 6, []),
  (43, 1, .iload_n 2, []),
  (44, 3, .if_icmp .ge 91, []),
  (47, 2, .aload 4, []),
  (49, 1, .aload_n 0, []),
  (50, 3, .getfield 23, [0, 2, 2, 0, 102, 0]),
  (53, 3, .if_acmp .ne 10, []),
  (56, 1, .aload_n 0, []),
  (57, 3, .getfield 26, [0, 3, 3, 35, 102, 0]),
  (60, 3, .goto 7, []),
  (63, 1, .aload_n 0, []),
  (64, 3, .getfield 23, [0, 2, 2, 0, 102, 0]),
  (67, 2, .astore 7, []),
  (69, 1, .aload_n 0, []),
  (70, 2, .aload 4, []),
  (72, 2, .aload 7, []),
  (74, 1, .iload_n 1, []),
  (75, 3, .invokevirtual 271, [40, 1, 0, 102, 102, 100]),
  (78, 3, .ifCond .gt 6, []),
  (81, 3, .goto 54, []),
  (84, 1, .aload_n 0, []),
  (85, 3, .getfield 83, [0, 12, 3, 104, 745, 0]),
  (88, 2, .iload 6, []),
  (90, 1, .aaload, [45, 101]),
  (91, 2, .aload 4, []),
  (93, 3, .getfield 103, [2, 0, 3, 1, 101, 0]),
  (96, 3, .invokevirtual 275, [45, 0, 101, 101]),
  (99, 2, .iload 5, []),
  (101, 3, .ifCond .ne 17, []),
  (104, 1, .aload_n 0, []),
  (105, 2, .aload 7, []),
  (107, 3, .getfield 103, [2, 0, 3, 1, 101, 0]),
  (110, 2, .iload 6, []),
  (112, 3, .invokevirtual 278, [41, 1, 0, 101, 100]),
  (115, 3, .ifCond .eq 7, []),
  (118, 1, .iconst 1, []),
  (119, 3, .goto 4, []),
  (122, 1, .iconst 0, []),
  (123, 2, .istore 5, []),
  (125, 2, .aload 7, []),
  (127, 2, .astore 4, []),
  (129, 3, .iinc 6 1, []),
  (132, 3, .goto (-91), []),
  (135, 1, .iload_n 3, []),
  (136, 3, .ifCond .ne 12, []),
  (139, 2, .aload 4, []),
  (141, 3, .getfield 103, [2, 0, 3, 1, 101, 0]),
  (144, 3, .getfield 92, [1, 1, 0, 0, 0, 0]),
  (147, 1, .ireturn, [0]),
  (148, 1, .iload_n 3, []),
  (149, 1, .iconst 2, []),
  (150, 3, .if_icmp .ne 14, []),
  (153, 2, .iload 5, []),
  (155, 3, .ifCond .eq 7, []),
  (158, 1, .iconst 1, []),
  (159, 3, .goto 4, []),
  (162, 1, .iconst 0, []),
  (163, 1, .ireturn, [0]),
  (164, 1, .aload_n 0, []),
  (165, 3, .getfield 59, [0, 8, 3, 75, 107, 0]),
  (168, 2, .aload 4, []),
  (170, 1, .aload_n 0, []),
  (171, 3, .getfield 31, [0, 4, 3, 51, 944, 0]),
  (174, 1, .iload_n 1, []),
  (175, 1, .aload_n 0, []),
  (176, 3, .getfield 45, [0, 6, 3, 54, 105, 0]),
  (179, 3, .invokevirtual 241, [118, 0, 105, 0, 944, 102, 107]),
  (182, 1, .aload_n 0, []),
  (183, 3, .getfield 59, [0, 8, 3, 75, 107, 0]),
  (186, 3, .getfield 245, [7, 0, 0, 0, 0, 0]),
  (189, 1, .ireturn, [0])]
/-- SyntaxRules.undo()I -/
def c26 : List zE := [(0, 1, .aload_n 0, []),
  (1, 3, .getfield 73, [0, 10, 3, 85, 109, 0]),
  (4, 3, .invokevirtual 282, [136, 2, 109]),
  (7, 1, .astore_n 1, []),
  (8, 1, .aload_n 1, []),
  (9, 3, .ifnonnull 6, []),
  (12, 2, .bipush (-3), []),
  (14, 1, .ireturn, [0]),
  (15, 1, .aload_n 0, []),
  (16, 3, .getfield 19, [0, 1, 2, 0, 102, 0]),
  (19, 1, .aload_n 1, []),
  (20, 3, .invokevirtual 96, [50, 1, 101, 102]),
  (23, 1, .pop, []),
  (24, 1, .aload_n 0, []),
  (25, 3, .getfield 73, [0, 10, 3, 85, 109, 0]),
  (28, 3, .getfield 286, [9, 0, 0, 0, 0, 0]),
  (31, 1, .ireturn, [0])]
/-- SyntaxRules.keep(I)Z -/
def c27 : List zE := [(0, 1, .iload_n 1, []),
  (1, 3, .ifCond .lt 8, []),
  (4, 1, .iload_n 1, []),
  (5, 1, .iconst 2, []),
  (6, 3, .if_icmp .lt 5, []),
  (9, 1, .iconst 0, []),
  (10, 1, .ireturn, [1]),
  (11, 1, .aload_n 0, []),
  (12, 3, .getfield 79, [0, 11, 3, 103, 346, 0]),
  (15, 1, .iload_n 1, []),
  (16, 1, .aaload, [46, 110]),
  (17, 3, .getfield 289, [10, 1, 3, 1, 101, 0]),
  (20, 1, .aload_n 0, []),
  (21, 3, .getfield 19, [0, 1, 2, 0, 102, 0]),
  (24, 3, .getfield 103, [2, 0, 3, 1, 101, 0]),
  (27, 3, .invokevirtual 275, [45, 0, 101, 101]),
  (30, 1, .aload_n 0, []),
  (31, 3, .getfield 31, [0, 4, 3, 51, 944, 0]),
  (34, 1, .aload_n 0, []),
  (35, 3, .getfield 79, [0, 11, 3, 103, 346, 0]),
  (38, 1, .iload_n 1, []),
  (39, 1, .aaload, [46, 110]),
  (40, 3, .getfield 290, [10, 2, 3, 3, 944, 0]),
  (43, 3, .invokestatic 291, [42, 0, 944, 944]),
  (46, 1, .aload_n 0, []),
  (47, 3, .getfield 79, [0, 11, 3, 103, 346, 0]),
  (50, 1, .iload_n 1, []),
  (51, 1, .aaload, [46, 110]),
  (52, 1, .iconst 1, []),
  (53, 3, .putfield 295, [10, 0, 1, 0, 0]),
  (56, 1, .iconst 1, []),
  (57, 1, .ireturn, [1])]
/-- SyntaxRules.again(I)Z -/
def c28 : List zE := [(0, 1, .iload_n 1, []),
  (1, 3, .ifCond .lt 20, []),
  (4, 1, .iload_n 1, []),
  (5, 1, .iconst 2, []),
  (6, 3, .if_icmp .ge 15, []),
  (9, 1, .aload_n 0, []),
  (10, 3, .getfield 79, [0, 11, 3, 103, 346, 0]),
  (13, 1, .iload_n 1, []),
  (14, 1, .aaload, [46, 110]),
  (15, 3, .getfield 295, [10, 0, 1, 0, 0, 0]),
  (18, 3, .ifCond .ne 5, []),
  (21, 1, .iconst 0, []),
  (22, 1, .ireturn, [1]),
  (23, 1, .aload_n 0, []),
  (24, 3, .getfield 19, [0, 1, 2, 0, 102, 0]),
  (27, 1, .aload_n 0, []),
  (28, 3, .getfield 79, [0, 11, 3, 103, 346, 0]),
  (31, 1, .iload_n 1, []),
  (32, 1, .aaload, [46, 110]),
  (33, 3, .getfield 289, [10, 1, 3, 1, 101, 0]),
  (36, 3, .invokevirtual 96, [50, 1, 101, 102]),
  (39, 1, .pop, []),
  (40, 1, .aload_n 0, []),
  (41, 3, .getfield 79, [0, 11, 3, 103, 346, 0]),
  (44, 1, .iload_n 1, []),
  (45, 1, .aaload, [46, 110]),
  (46, 3, .getfield 290, [10, 2, 3, 3, 944, 0]),
  (49, 1, .aload_n 0, []),
  (50, 3, .getfield 31, [0, 4, 3, 51, 944, 0]),
  (53, 3, .invokestatic 291, [42, 0, 944, 944]),
  (56, 1, .aload_n 0, []),
  (57, 3, .getfield 73, [0, 10, 3, 85, 109, 0]),
  (60, 3, .invokevirtual 299, [137, 0, 109]),
  (63, 1, .iconst 1, []),
  (64, 1, .ireturn, [1])]
/-- SyntaxRules.count(I)I -/
def c29 : List zE := [(0, 1, .iload_n 1, []),
  (1, 43, .tableswitch 99 0 6 #[43, 51, 62, 70, 75, 83, 91], []),
  (44, 1, .aload_n 0, []),
  (45, 3, .getfield 19, [0, 1, 2, 0, 102, 0]),
  (48, 3, .getfield 113, [2, 14, 0, 0, 0, 0]),
  (51, 1, .ireturn, [0]),
  (52, 1, .aload_n 0, []),
  (53, 3, .getfield 19, [0, 1, 2, 0, 102, 0]),
  (56, 3, .getfield 103, [2, 0, 3, 1, 101, 0]),
  (59, 3, .getfield 92, [1, 1, 0, 0, 0, 0]),
  (62, 1, .ireturn, [0]),
  (63, 1, .aload_n 0, []),
  (64, 3, .getfield 19, [0, 1, 2, 0, 102, 0]),
  (67, 3, .getfield 167, [2, 15, 0, 0, 0, 0]),
  (70, 1, .ireturn, [0]),
  (71, 1, .aload_n 0, []),
  (72, 3, .invokevirtual 124, [35, 1, 100]),
  (75, 1, .ireturn, [0]),
  (76, 1, .aload_n 0, []),
  (77, 3, .getfield 12, [0, 0, 3, 1, 101, 0]),
  (80, 3, .getfield 92, [1, 1, 0, 0, 0, 0]),
  (83, 1, .ireturn, [0]),
  (84, 1, .aload_n 0, []),
  (85, 3, .getfield 73, [0, 10, 3, 85, 109, 0]),
  (88, 3, .getfield 286, [9, 0, 0, 0, 0, 0]),
  (91, 1, .ireturn, [0]),
  (92, 1, .aload_n 0, []),
  (93, 3, .getfield 19, [0, 1, 2, 0, 102, 0]),
  (96, 3, .invokevirtual 302, [65, 1, 102]),
  (99, 1, .ireturn, [0]),
  (100, 1, .iconst (-1), []),
  (101, 1, .ireturn, [0])]
/-- SyntaxRules.isNode(I)Z -/
def c30 : List zE := [(0, 1, .iload_n 1, []),
  (1, 3, .ifCond .lt 18, []),
  (4, 1, .iload_n 1, []),
  (5, 1, .aload_n 0, []),
  (6, 3, .getfield 19, [0, 1, 2, 0, 102, 0]),
  (9, 3, .getfield 113, [2, 14, 0, 0, 0, 0]),
  (12, 3, .if_icmp .ge 7, []),
  (15, 1, .iconst 1, []),
  (16, 3, .goto 4, []),
  (19, 1, .iconst 0, []),
  (20, 1, .ireturn, [1])]
/-- SyntaxRules.isRule(I)Z -/
def c31 : List zE := [(0, 1, .iload_n 1, []),
  (1, 3, .ifCond .lt 22, []),
  (4, 1, .iload_n 1, []),
  (5, 2, .bipush 8, []),
  (7, 3, .if_icmp .ge 16, []),
  (10, 1, .aload_n 0, []),
  (11, 3, .getfield 31, [0, 4, 3, 51, 944, 0]),
  (14, 1, .iload_n 1, []),
  (15, 1, .aaload, [44, 0]),
  (16, 3, .ifnull 7, []),
  (19, 1, .iconst 1, []),
  (20, 3, .goto 4, []),
  (23, 1, .iconst 0, []),
  (24, 1, .ireturn, [1])]
/-- SyntaxRules.isWay(I)Z -/
def c32 : List zE := [(0, 1, .iload_n 0, []),
  (1, 3, .ifCond .eq 8, []),
  (4, 1, .iload_n 0, []),
  (5, 1, .iconst 1, []),
  (6, 3, .if_icmp .ne 7, []),
  (9, 1, .iconst 1, []),
  (10, 3, .goto 4, []),
  (13, 1, .iconst 0, []),
  (14, 1, .ireturn, [1])]
/-- SyntaxRules.isLetter(I)Z -/
def c33 : List zE := [(0, 1, .iload_n 0, []),
  (1, 2, .bipush 97, []),
  (3, 3, .if_icmp .lt 13, []),
  (6, 1, .iload_n 0, []),
  (7, 2, .bipush 122, []),
  (9, 3, .if_icmp .gt 7, []),
  (12, 1, .iconst 1, []),
  (13, 3, .goto 4, []),
  (16, 1, .iconst 0, []),
  (17, 1, .ireturn, [1])]
/-- SyntaxRules.isDigit(I)Z -/
def c34 : List zE := [(0, 1, .iload_n 0, []),
  (1, 2, .bipush 48, []),
  (3, 3, .if_icmp .lt 13, []),
  (6, 1, .iload_n 0, []),
  (7, 2, .bipush 57, []),
  (9, 3, .if_icmp .gt 7, []),
  (12, 1, .iconst 1, []),
  (13, 3, .goto 4, []),
  (16, 1, .iconst 0, []),
  (17, 1, .ireturn, [1])]
/-- SyntaxRules.ruleCount()I -/
def c35 : List zE := [(0, 1, .iconst 0, []),
  (1, 1, .istore_n 1, []),
  (2, 1, .iconst 0, []),
  (3, 1, .istore_n 2, []),
  (4, 1, .iload_n 2, []),
  (5, 2, .bipush 8, []),
  (7, 3, .if_icmp .ge 26, []),
  (10, 1, .iload_n 1, []),
  (11, 1, .aload_n 0, []),
  (12, 3, .getfield 31, [0, 4, 3, 51, 944, 0]),
  (15, 1, .iload_n 2, []),
  (16, 1, .aaload, [44, 0]),
  (17, 3, .ifnonnull 7, []),
  (20, 1, .iconst 0, []),
  (21, 3, .goto 4, []),
  (24, 1, .iconst 1, []),
  (25, 1, .iadd, []),
  (26, 1, .istore_n 1, []),
  (27, 3, .iinc 2 1, []),
  (30, 3, .goto (-26), []),
  (33, 1, .iload_n 1, []),
  (34, 1, .ireturn, [0])]
/-- SyntaxRules.testsOfAll()I -/
def c36 : List zE := [(0, 1, .iconst 0, []),
  (1, 1, .istore_n 1, []),
  (2, 1, .iconst 0, []),
  (3, 1, .istore_n 2, []),
  (4, 1, .iload_n 2, []),
  (5, 2, .bipush 8, []),
  (7, 3, .if_icmp .ge 38, []),
  (10, 1, .iload_n 1, []),
  (11, 1, .aload_n 0, []),
  (12, 3, .getfield 31, [0, 4, 3, 51, 944, 0]),
  (15, 1, .iload_n 2, []),
  (16, 1, .aaload, [44, 0]),
  (17, 3, .ifnonnull 7, []),
  (20, 1, .iconst 0, []),
  (21, 3, .goto 16, []),
  (24, 1, .aload_n 0, []),
  (25, 3, .getfield 52, [0, 7, 3, 61, 106, 0]),
  (28, 1, .aload_n 0, []),
  (29, 3, .getfield 31, [0, 4, 3, 51, 944, 0]),
  (32, 1, .iload_n 2, []),
  (33, 1, .aaload, [44, 0]),
  (34, 3, .invokevirtual 183, [105, 1, 103, 106]),
  (37, 1, .iadd, []),
  (38, 1, .istore_n 1, []),
  (39, 3, .iinc 2 1, []),
  (42, 3, .goto (-38), []),
  (45, 1, .iload_n 1, []),
  (46, 1, .ireturn, [0])]
/-- SyntaxRules.turn()V -/
def c37 : List zE := [(0, 1, .aload_n 0, []),
  (1, 3, .getfield 19, [0, 1, 2, 0, 102, 0]),
  (4, 1, .astore_n 1, []),
  (5, 1, .aload_n 0, []),
  (6, 1, .aload_n 0, []),
  (7, 3, .getfield 23, [0, 2, 2, 0, 102, 0]),
  (10, 3, .putfield 19, [0, 1, 2, 0, 0]),
  (13, 1, .aload_n 0, []),
  (14, 1, .aload_n 1, []),
  (15, 3, .putfield 23, [0, 2, 2, 0, 0]),
  (18, 1, .return_, [])]
/-- SyntaxRules.writtenAlone(II)LSyntaxRules$Writer; -/
def c38 : List zE := [(0, 1, .aload_n 0, []),
  (1, 3, .getfield 66, [0, 9, 3, 80, 108, 0]),
  (4, 1, .iload_n 2, []),
  (5, 3, .invokevirtual 305, [123, 0, 0, 108]),
  (8, 1, .aload_n 0, []),
  (9, 1, .aload_n 0, []),
  (10, 3, .getfield 19, [0, 1, 2, 0, 102, 0]),
  (13, 1, .iload_n 1, []),
  (14, 3, .invokevirtual 309, [39, 0, 0, 102, 100]),
  (17, 1, .aload_n 0, []),
  (18, 3, .getfield 66, [0, 9, 3, 80, 108, 0]),
  (21, 1, .areturn, [108])]
/-- SyntaxRules.writeEdit(LSyntaxRules$Source;I)V -/
def c39 : List zE := [(0, 1, .aload_n 0, []),
  (1, 3, .getfield 31, [0, 4, 3, 51, 944, 0]),
  (4, 1, .aload_n 0, []),
  (5, 3, .getfield 59, [0, 8, 3, 75, 107, 0]),
  (8, 1, .iload_n 2, []),
  (9, 3, .invokevirtual 248, [121, 1, 0, 107]),
  (12, 1, .aaload, [44, 0]),
  (13, 1, .astore_n 3, []),
  (14, 1, .aload_n 3, []),
  (15, 3, .ifnull 46, []),
  (18, 1, .aload_n 0, []),
  (19, 3, .getfield 45, [0, 6, 3, 54, 105, 0]),
  (22, 1, .aload_n 1, []),
  (23, 1, .aload_n 3, []),
  (24, 1, .aload_n 0, []),
  (25, 3, .getfield 59, [0, 8, 3, 75, 107, 0]),
  (28, 3, .getfield 251, [7, 1, 3, 1, 6140, 0]),
  (31, 1, .iload_n 2, []),
  (32, 1, .iaload, [40]),
  (33, 3, .invokevirtual 213, [91, 1, 0, 103, 102, 105]),
  (36, 3, .ifCond .eq 25, []),
  (39, 1, .aload_n 0, []),
  (40, 3, .getfield 66, [0, 9, 3, 80, 108, 0]),
  (43, 1, .aload_n 1, []),
  (44, 1, .aload_n 3, []),
  (45, 1, .aload_n 0, []),
  (46, 3, .getfield 59, [0, 8, 3, 75, 107, 0]),
  (49, 3, .getfield 251, [7, 1, 3, 1, 6140, 0]),
  (52, 1, .iload_n 2, []),
  (53, 1, .iaload, [40]),
  (54, 1, .aload_n 0, []),
  (55, 3, .getfield 45, [0, 6, 3, 54, 105, 0]),
  (58, 3, .invokevirtual 313, [126, 0, 105, 0, 103, 102, 108]),
  (61, 1, .return_, [])]
/-- SyntaxRules.step(LSyntaxRules$Source;LSyntaxRules$Source;I)I -/
def c40 : List zE := [(0, 1, .aload_n 0, []),
  (1, 3, .getfield 59, [0, 8, 3, 75, 107, 0]),
  (4, 1, .aload_n 1, []),
  (5, 1, .aload_n 0, []),
  (6, 3, .getfield 31, [0, 4, 3, 51, 944, 0]),
  (9, 1, .iload_n 3, []),
  (10, 1, .aload_n 0, []),
  (11, 3, .getfield 45, [0, 6, 3, 54, 105, 0]),
  (14, 3, .invokevirtual 241, [118, 0, 105, 0, 944, 102, 107]),
  (17, 1, .aload_n 0, []),
  (18, 3, .getfield 59, [0, 8, 3, 75, 107, 0]),
  (21, 3, .getfield 245, [7, 0, 0, 0, 0, 0]),
  (24, 3, .ifCond .ne 5, []),
  (27, 1, .iconst 0, []),
  (28, 1, .ireturn, [0]),
  (29, 1, .aload_n 0, []),
  (30, 3, .getfield 66, [0, 9, 3, 80, 108, 0]),
  (33, 1, .iconst (-1), []),
  (34, 3, .invokevirtual 305, [123, 0, 0, 108]),
  (37, 1, .iconst 0, []),
  (38, 2, .istore 4, []),
  (40, 1, .iconst 0, []),
  (41, 2, .istore 5, []),
  (43, 2, .iload 5, []),
  (45, 1, .aload_n 0, []),
  (46, 3, .getfield 59, [0, 8, 3, 75, 107, 0]),
  (49, 3, .getfield 245, [7, 0, 0, 0, 0, 0]),
  (52, 3, .if_icmp .ge 75, []),
  (55, 1, .aload_n 0, []),
  (56, 3, .getfield 66, [0, 9, 3, 80, 108, 0]),
  (59, 1, .aload_n 1, []),
  (60, 3, .getfield 103, [2, 0, 3, 1, 101, 0]),
  (63, 2, .iload 4, []),
  (65, 1, .aload_n 1, []),
  (66, 3, .getfield 146, [2, 5, 3, 7, 6140, 0]),
  (69, 1, .aload_n 0, []),
  (70, 3, .getfield 59, [0, 8, 3, 75, 107, 0]),
  (73, 3, .getfield 251, [7, 1, 3, 1, 6140, 0]),
  (76, 2, .iload 5, []),
  (78, 1, .iaload, [40]),
  (79, 1, .iaload, [40]),
  (80, 3, .invokevirtual 316, [131, 0, 0, 0, 101, 108]),
  (83, 1, .aload_n 0, []),
  (84, 3, .getfield 66, [0, 9, 3, 80, 108, 0]),
  (87, 3, .invokevirtual 320, [125, 0, 108]),
  (90, 1, .aload_n 0, []),
  (91, 1, .aload_n 1, []),
  (92, 2, .iload 5, []),
  (94, 3, .invokevirtual 309, [39, 0, 0, 102, 100]),
  (97, 1, .aload_n 0, []),
  (98, 3, .getfield 66, [0, 9, 3, 80, 108, 0]),
  (101, 3, .invokevirtual 320, [125, 0, 108]),
  (104, 1, .aload_n 1, []),
  (105, 3, .getfield 149, [2, 6, 3, 8, 6140, 0]),
  (108, 1, .aload_n 0, []),
  (109, 3, .getfield 59, [0, 8, 3, 75, 107, 0]),
  (112, 3, .getfield 251, [7, 1, 3, 1, 6140, 0]),
  (115, 2, .iload 5, []),
  (117, 1, .iaload, [40]),
  (118, 1, .iaload, [40]),
  (119, 2, .istore 4, []),
  (121, 3, .iinc 5 1, []),
  (124, 3, .goto (-81), []),
  (127, 1, .aload_n 0, []),
  (128, 3, .getfield 66, [0, 9, 3, 80, 108, 0]),
  (131, 1, .aload_n 1, []),
  (132, 3, .getfield 103, [2, 0, 3, 1, 101, 0]),
  (135, 2, .iload 4, []),
  (137, 1, .aload_n 1, []),
  (138, 3, .getfield 103, [2, 0, 3, 1, 101, 0]),
  (141, 3, .getfield 92, [1, 1, 0, 0, 0, 0]),
  (144, 3, .invokevirtual 316, [131, 0, 0, 0, 101, 108]),
  (147, 1, .aload_n 0, []),
  (148, 3, .getfield 66, [0, 9, 3, 80, 108, 0]),
  (151, 3, .getfield 258, [8, 0, 0, 0, 0, 0]),
  (154, 3, .sipush 300, []),
  (157, 3, .if_icmp .gt 17, []),
  (160, 1, .aload_n 2, []),
  (161, 1, .aload_n 0, []),
  (162, 3, .getfield 66, [0, 9, 3, 80, 108, 0]),
  (165, 3, .invokevirtual 323, [124, 103, 108]),
  (168, 3, .invokevirtual 96, [50, 1, 101, 102]),
  (171, 3, .ifCond .ne 6, []),
  (174, 2, .bipush (-3), []),
  (176, 1, .ireturn, [0]),
  (177, 1, .aload_n 0, []),
  (178, 3, .getfield 59, [0, 8, 3, 75, 107, 0]),
  (181, 3, .getfield 245, [7, 0, 0, 0, 0, 0]),
  (184, 1, .ireturn, [0])]
/-- SyntaxRules.wasSeen(LSyntaxRules$Text;I)Z -/
def c41 : List zE := [(0, 1, .iconst 0, []),
  (1, 1, .istore_n 3, []),
  (2, 1, .iload_n 3, []),
  (3, 1, .iload_n 2, []),
  (4, 3, .if_icmp .gt 24, []),
  (7, 1, .aload_n 0, []),
  (8, 3, .getfield 83, [0, 12, 3, 104, 745, 0]),
  (11, 1, .iload_n 3, []),
  (12, 1, .aaload, [45, 101]),
  (13, 1, .aload_n 1, []),
  (14, 3, .invokevirtual 326, [46, 1, 101, 101]),
  (17, 3, .ifCond .eq 5, []),
  (20, 1, .iconst 1, []),
  (21, 1, .ireturn, [1]),
  (22, 3, .iinc 3 1, []),
  (25, 3, .goto (-23), []),
  (28, 1, .iconst 0, []),
  (29, 1, .ireturn, [1])]
/-- SyntaxRules.copyRules([LSyntaxRules$Rule;[LSyntaxRules$Rule;)V -/
def c42 : List zE := [(0, 1, .iconst 0, []),
  (1, 1, .istore_n 2, []),
  (2, 1, .iload_n 2, []),
  (3, 2, .bipush 8, []),
  (5, 3, .if_icmp .ge 15, []),
  (8, 1, .aload_n 1, []),
  (9, 1, .iload_n 2, []),
  (10, 1, .aload_n 0, []),
  (11, 1, .iload_n 2, []),
  (12, 1, .aaload, [44, 0]),
  (13, 1, .aastore, [44, 103]),
  (14, 3, .iinc 2 1, []),
  (17, 3, .goto (-15), []),
  (20, 1, .return_, [])]
/-- SyntaxRules$Text.<init>()V -/
def c43 : List zE := [(0, 1, .aload_n 0, []),
  (1, 3, .invokespecial 3, [9999, 0, 0]),
  (4, 1, .aload_n 0, []),
  (5, 3, .sipush 300, []),
  (8, 2, .newarray .int, [40]),
  (10, 3, .putfield 9, [1, 0, 3, 1, 1]),
  (13, 1, .return_, [])]
/-- SyntaxRules$Text.at(I)I -/
def c44 : List zE := [(0, 1, .iload_n 1, []),
  (1, 3, .ifCond .lt 20, []),
  (4, 1, .iload_n 1, []),
  (5, 1, .aload_n 0, []),
  (6, 3, .getfield 15, [1, 1, 0, 0, 0, 0]),
  (9, 3, .if_icmp .ge 12, []),
  (12, 1, .aload_n 0, []),
  (13, 3, .getfield 9, [1, 0, 3, 1, 30140, 0]),
  (16, 1, .iload_n 1, []),
  (17, 1, .iaload, [40]),
  (18, 3, .goto 4, []),
  (21, 1, .iconst (-1), []),
  (22, 1, .ireturn, [0])]
/-- SyntaxRules$Text.take(LSyntaxRules$Text;)V -/
def c45 : List zE := [(0, 1, .aload_n 1, []),
  (1, 3, .getfield 9, [1, 0, 3, 1, 30140, 0]),
  (4, 1, .iconst 0, []),
  (5, 1, .aload_n 0, []),
  (6, 3, .getfield 9, [1, 0, 3, 1, 30140, 0]),
  (9, 1, .iconst 0, []),
  (10, 1, .aload_n 1, []),
  (11, 3, .getfield 15, [1, 1, 0, 0, 0, 0]),
  (14, 3, .invokestatic 19, [9998, 0, 0, 0, 140, 0, 140]),
  (17, 1, .aload_n 0, []),
  (18, 1, .aload_n 1, []),
  (19, 3, .getfield 15, [1, 1, 0, 0, 0, 0]),
  (22, 3, .putfield 15, [1, 1, 0, 0, 0]),
  (25, 1, .return_, [])]
/-- SyntaxRules$Text.same(LSyntaxRules$Text;)Z -/
def c46 : List zE := [(0, 1, .aload_n 0, []),
  (1, 3, .getfield 15, [1, 1, 0, 0, 0, 0]),
  (4, 1, .aload_n 1, []),
  (5, 3, .getfield 15, [1, 1, 0, 0, 0, 0]),
  (8, 3, .if_icmp .ne 21, []),
  (11, 1, .aload_n 0, []),
  (12, 1, .iconst 0, []),
  (13, 1, .aload_n 1, []),
  (14, 1, .iconst 0, []),
  (15, 1, .aload_n 0, []),
  (16, 3, .getfield 15, [1, 1, 0, 0, 0, 0]),
  (19, 3, .invokevirtual 25, [47, 1, 0, 0, 101, 0, 101]),
  (22, 3, .ifCond .eq 7, []),
  (25, 1, .iconst 1, []),
  (26, 3, .goto 4, []),
  (29, 1, .iconst 0, []),
  (30, 1, .ireturn, [1])]
/-- SyntaxRules$Text.sameRow(ILSyntaxRules$Text;II)Z -/
def c47 : List zE := [(0, 1, .iload_n 1, []),
  (1, 3, .ifCond .lt 29, []),
  (4, 1, .iload_n 3, []),
  (5, 3, .ifCond .lt 25, []),
  (8, 1, .iload_n 1, []),
  (9, 2, .iload 4, []),
  (11, 1, .iadd, []),
  (12, 1, .aload_n 0, []),
  (13, 3, .getfield 15, [1, 1, 0, 0, 0, 0]),
  (16, 3, .if_icmp .gt 14, []),
  (19, 1, .iload_n 3, []),
  (20, 2, .iload 4, []),
  (22, 1, .iadd, []),
  (23, 1, .aload_n 2, []),
  (24, 3, .getfield 15, [1, 1, 0, 0, 0, 0]),
  (27, 3, .if_icmp .le 5, []),
  (30, 1, .iconst 0, []),
  (31, 1, .ireturn, [1]),
  (32, 1, .iconst 0, []),
  (33, 2, .istore 5, []),
  (35, 2, .iload 5, []),
  (37, 2, .iload 4, []),
  (39, 3, .if_icmp .ge 32, []),
  (42, 1, .aload_n 0, []),
  (43, 3, .getfield 9, [1, 0, 3, 1, 30140, 0]),
  (46, 1, .iload_n 1, []),
  (47, 2, .iload 5, []),
  (49, 1, .iadd, []),
  (50, 1, .iaload, [40]),
  (51, 1, .aload_n 2, []),
  (52, 3, .getfield 9, [1, 0, 3, 1, 30140, 0]),
  (55, 1, .iload_n 3, []),
  (56, 2, .iload 5, []),
  (58, 1, .iadd, []),
  (59, 1, .iaload, [40]),
  (60, 3, .if_icmp .eq 5, []),
  (63, 1, .iconst 0, []),
  (64, 1, .ireturn, [1]),
  (65, 3, .iinc 5 1, []),
  (68, 3, .goto (-33), []),
  (71, 1, .iconst 1, []),
  (72, 1, .ireturn, [1])]
/-- SyntaxRules$Text.rowAt(IZI)I -/
def c48 : List zE := [(0, 1, .iconst 0, []),
  (1, 2, .istore 4, []),
  (3, 2, .iload 4, []),
  (5, 1, .iload_n 3, []),
  (6, 3, .if_icmp .gt 45, []),
  (9, 1, .aload_n 0, []),
  (10, 1, .iload_n 1, []),
  (11, 2, .iload 4, []),
  (13, 1, .iadd, []),
  (14, 3, .invokevirtual 29, [44, 1, 0, 101]),
  (17, 2, .istore 5, []),
  (19, 1, .iload_n 2, []),
  (20, 3, .ifCond .eq 14, []),
  (23, 2, .iload 5, []),
  (25, 3, .invokestatic 33, [33, 1, 0]),
  (28, 3, .ifCond .ne 17, []),
  (31, 3, .goto 11, []),
  (34, 2, .iload 5, []),
  (36, 3, .invokestatic 37, [34, 1, 0]),
  (39, 3, .ifCond .ne 6, []),
  (42, 2, .iload 4, []),
  (44, 1, .ireturn, [0]),
  (45, 3, .iinc 4 1, []),
  (48, 3, .goto (-45), []),
  (51, 1, .iload_n 3, []),
  (52, 1, .iconst 1, []),
  (53, 1, .iadd, []),
  (54, 1, .ireturn, [0])]
/-- SyntaxRules$Source.<init>()V -/
def c49 : List zE := [(0, 1, .aload_n 0, []),
  (1, 3, .invokespecial 3, [9999, 0, 0]),
  (4, 1, .aload_n 0, []),
  (5, 3, .new 9, [1, 2]),
  (8, 1, .dup, []),
  (9, 3, .invokespecial 11, [43, 0, 0]),
  (12, 3, .putfield 12, [2, 0, 3, 1, 0]),
  (15, 1, .aload_n 0, []),
  (16, 2, .bipush 60, []),
  (18, 2, .newarray .int, [40]),
  (20, 3, .putfield 18, [2, 1, 3, 1, 0]),
  (23, 1, .aload_n 0, []),
  (24, 2, .bipush 60, []),
  (26, 2, .newarray .int, [40]),
  (28, 3, .putfield 22, [2, 2, 3, 1, 0]),
  (31, 1, .aload_n 0, []),
  (32, 2, .bipush 60, []),
  (34, 2, .newarray .int, [40]),
  (36, 3, .putfield 25, [2, 3, 3, 1, 0]),
  (39, 1, .aload_n 0, []),
  (40, 2, .bipush 60, []),
  (42, 2, .newarray .int, [40]),
  (44, 3, .putfield 28, [2, 4, 3, 1, 0]),
  (47, 1, .aload_n 0, []),
  (48, 2, .bipush 60, []),
  (50, 2, .newarray .int, [40]),
  (52, 3, .putfield 31, [2, 5, 3, 1, 0]),
  (55, 1, .aload_n 0, []),
  (56, 2, .bipush 60, []),
  (58, 2, .newarray .int, [40]),
  (60, 3, .putfield 34, [2, 6, 3, 1, 0]),
  (63, 1, .aload_n 0, []),
  (64, 2, .bipush 60, []),
  (66, 2, .newarray .int, [40]),
  (68, 3, .putfield 37, [2, 7, 3, 1, 0]),
  (71, 1, .aload_n 0, []),
  (72, 2, .bipush 60, []),
  (74, 2, .newarray .int, [40]),
  (76, 3, .putfield 40, [2, 8, 3, 1, 0]),
  (79, 1, .aload_n 0, []),
  (80, 2, .bipush 60, []),
  (82, 2, .newarray .int, [40]),
  (84, 3, .putfield 43, [2, 9, 3, 1, 0]),
  (87, 1, .aload_n 0, []),
  (88, 2, .bipush 60, []),
  (90, 2, .newarray .int, [40]),
  (92, 3, .putfield 46, [2, 10, 3, 1, 0]),
  (95, 1, .aload_n 0, []),
  (96, 3, .sipush 150, []),
  (99, 2, .newarray .int, [40]),
  (101, 3, .putfield 49, [2, 11, 3, 1, 0]),
  (104, 1, .aload_n 0, []),
  (105, 3, .sipush 150, []),
  (108, 2, .newarray .int, [40]),
  (110, 3, .putfield 52, [2, 12, 3, 1, 0]),
  (113, 1, .aload_n 0, []),
  (114, 3, .sipush 150, []),
  (117, 2, .newarray .int, [40]),
  (119, 3, .putfield 55, [2, 13, 3, 1, 1]),
  (122, 1, .return_, [])]
/-- SyntaxRules$Source.read(LSyntaxRules$Text;)Z -/
def c50 : List zE := [(0, 1, .aload_n 0, []),
  (1, 3, .getfield 12, [2, 0, 3, 1, 101, 0]),
  (4, 1, .aload_n 1, []),
  (5, 3, .invokevirtual 58, [45, 0, 101, 101]),
  (8, 1, .aload_n 0, []),
  (9, 1, .iconst 0, []),
  (10, 3, .putfield 62, [2, 14, 0, 0, 0]),
  (13, 1, .aload_n 0, []),
  (14, 1, .iconst 0, []),
  (15, 3, .putfield 66, [2, 15, 0, 0, 0]),
  (18, 1, .aload_n 0, []),
  (19, 1, .iconst 0, []),
  (20, 3, .putfield 69, [2, 16, 0, 0, 0]),
  (23, 1, .aload_n 0, []),
  (24, 1, .iconst (-1), []),
  (25, 3, .putfield 72, [2, 17, 0, 0, 0]),
  (28, 1, .aload_n 0, []),
  (29, 3, .invokevirtual 75, [51, 1, 102]),
  (32, 3, .ifCond .eq 28, []),
  (35, 1, .aload_n 0, []),
  (36, 3, .invokevirtual 79, [58, 1, 102]),
  (39, 3, .ifCond .eq 21, []),
  (42, 1, .aload_n 0, []),
  (43, 3, .getfield 69, [2, 16, 0, 0, 0, 0]),
  (46, 1, .aload_n 0, []),
  (47, 3, .getfield 12, [2, 0, 3, 1, 101, 0]),
  (50, 3, .getfield 82, [1, 1, 0, 0, 0, 0]),
  (53, 3, .if_icmp .ne 7, []),
  (56, 1, .iconst 1, []),
  (57, 3, .goto 4, []),
  (60, 1, .iconst 0, []),
  (61, 1, .ireturn, [1])]
/-- SyntaxRules$Source.readTerm()Z -/
def c51 : List zE := [(0, 1, .iconst 0, []),
  (1, 1, .istore_n 1, []),
  (2, 1, .iload_n 1, []),
  (3, 3, .sipush 300, []),
  (6, 3, .if_icmp .gt 71, []),
  (9, 1, .aload_n 0, []),
  (10, 3, .invokevirtual 79, [58, 1, 102]),
  (13, 3, .ifCond .ne 5, []),
  (16, 1, .iconst 0, []),
  (17, 1, .ireturn, [1]),
  (18, 1, .aload_n 0, []),
  (19, 3, .getfield 12, [2, 0, 3, 1, 101, 0]),
  (22, 1, .aload_n 0, []),
  (23, 3, .getfield 69, [2, 16, 0, 0, 0, 0]),
  (26, 3, .invokevirtual 85, [44, 1, 0, 101]),
  (29, 1, .istore_n 2, []),
  (30, 1, .iload_n 2, []),
  (31, 2, .bipush 41, []),
  (33, 3, .if_icmp .ne 18, []),
  (36, 1, .aload_n 0, []),
  (37, 3, .getfield 72, [2, 17, 0, 0, 0, 0]),
  (40, 1, .iconst (-1), []),
  (41, 3, .if_icmp .eq 10, []),
  (44, 1, .aload_n 0, []),
  (45, 3, .invokevirtual 88, [52, 0, 102]),
  (48, 3, .goto 13, []),
  (51, 1, .aload_n 0, []),
  (52, 1, .iload_n 2, []),
  (53, 3, .invokevirtual 91, [53, 1, 0, 102]),
  (56, 3, .ifCond .ne 5, []),
  (59, 1, .iconst 0, []),
  (60, 1, .ireturn, [1]),
  (61, 1, .aload_n 0, []),
  (62, 3, .getfield 72, [2, 17, 0, 0, 0, 0]),
  (65, 1, .iconst (-1), []),
  (66, 3, .if_icmp .ne 5, []),
  (69, 1, .iconst 1, []),
  (70, 1, .ireturn, [1]),
  (71, 3, .iinc 1 1, []),
  (74, 3, .goto (-72), []),
  (77, 1, .iconst 0, []),
  (78, 1, .ireturn, [1])]
/-- SyntaxRules$Source.closeTerm()V -/
def c52 : List zE := [(0, 1, .aload_n 0, []),
  (1, 1, .dup, []),
  (2, 3, .getfield 69, [2, 16, 0, 0, 0, 0]),
  (5, 1, .iconst 1, []),
  (6, 1, .iadd, []),
  (7, 3, .putfield 69, [2, 16, 0, 0, 0]),
  (10, 1, .aload_n 0, []),
  (11, 3, .getfield 72, [2, 17, 0, 0, 0, 0]),
  (14, 1, .istore_n 1, []),
  (15, 1, .aload_n 0, []),
  (16, 1, .iload_n 1, []),
  (17, 3, .invokevirtual 95, [57, 1, 0, 102]),
  (20, 1, .pop, []),
  (21, 1, .aload_n 0, []),
  (22, 1, .aload_n 0, []),
  (23, 3, .getfield 22, [2, 2, 3, 4, 6140, 0]),
  (26, 1, .iload_n 1, []),
  (27, 1, .iaload, [40]),
  (28, 3, .putfield 72, [2, 17, 0, 0, 0]),
  (31, 1, .return_, [])]
/-- SyntaxRules$Source.readNode(I)Z -/
def c53 : List zE := [(0, 1, .iload_n 1, []),
  (1, 2, .bipush 40, []),
  (3, 3, .if_icmp .ne 7, []),
  (6, 1, .iconst 1, []),
  (7, 3, .goto 4, []),
  (10, 1, .iconst 0, []),
  (11, 1, .istore_n 2, []),
  (12, 1, .iload_n 1, []),
  (13, 3, .invokestatic 98, [33, 1, 0]),
  (16, 1, .istore_n 3, []),
  (17, 1, .iload_n 2, []),
  (18, 3, .ifCond .ne 14, []),
  (21, 1, .iload_n 3, []),
  (22, 3, .ifCond .ne 10, []),
  (25, 1, .iload_n 1, []),
  (26, 3, .invokestatic 101, [34, 1, 0]),
  (29, 3, .ifCond .eq 11, []),
  (32, 1, .aload_n 0, []),
  (33, 1, .iload_n 2, []),
  (34, 3, .invokevirtual 104, [54, 1, 0, 102]),
  (37, 3, .ifCond .ne 5, []),
  (40, 1, .iconst 0, []),
  (41, 1, .ireturn, [1]),
  (42, 1, .aload_n 0, []),
  (43, 1, .iload_n 2, []),
  (44, 3, .ifCond .eq 7, []),
  (47, 1, .iconst 2, []),
  (48, 3, .goto 12, []),
  (51, 1, .iload_n 3, []),
  (52, 3, .ifCond .eq 7, []),
  (55, 1, .iconst 1, []),
  (56, 3, .goto 4, []),
  (59, 1, .iconst 0, []),
  (60, 3, .invokevirtual 108, [55, 1, 0, 102]),
  (63, 2, .istore 4, []),
  (65, 1, .iload_n 2, []),
  (66, 3, .ifCond .ne 28, []),
  (69, 1, .aload_n 0, []),
  (70, 2, .iload 4, []),
  (72, 1, .iload_n 3, []),
  (73, 3, .invokevirtual 111, [56, 1, 0, 0, 102]),
  (76, 3, .ifCond .eq 16, []),
  (79, 1, .aload_n 0, []),
  (80, 2, .iload 4, []),
  (82, 3, .invokevirtual 95, [57, 1, 0, 102]),
  (85, 3, .ifCond .eq 7, []),
  (88, 1, .iconst 1, []),
  (89, 3, .goto 4, []),
  (92, 1, .iconst 0, []),
  (93, 1, .ireturn, [1]),
  (94, 1, .aload_n 0, []),
  (95, 1, .dup, []),
  (96, 3, .getfield 69, [2, 16, 0, 0, 0, 0]),
  (99, 1, .iconst 1, []),
  (100, 1, .iadd, []),
  (101, 3, .putfield 69, [2, 16, 0, 0, 0]),
  (104, 1, .aload_n 0, []),
  (105, 2, .iload 4, []),
  (107, 3, .putfield 72, [2, 17, 0, 0, 0]),
  (110, 1, .aload_n 0, []),
  (111, 3, .invokevirtual 79, [58, 1, 102]),
  (114, 3, .ifCond .eq 34, []),
  (117, 1, .aload_n 0, []),
  (118, 3, .getfield 12, [2, 0, 3, 1, 101, 0]),
  (121, 1, .aload_n 0, []),
  (122, 3, .getfield 69, [2, 16, 0, 0, 0, 0]),
  (125, 3, .invokevirtual 85, [44, 1, 0, 101]),
  (128, 3, .invokestatic 98, [33, 1, 0]),
  (131, 3, .ifCond .eq 17, []),
  (134, 1, .aload_n 0, []),
  (135, 2, .iload 4, []),
  (137, 1, .iconst 1, []),
  (138, 3, .invokevirtual 111, [56, 1, 0, 0, 102]),
  (141, 3, .ifCond .eq 7, []),
  (144, 1, .iconst 1, []),
  (145, 3, .goto 4, []),
  (148, 1, .iconst 0, []),
  (149, 1, .ireturn, [1])]
/-- SyntaxRules$Source.hasRoom(Z)Z -/
def c54 : List zE := [(0, 1, .aload_n 0, []),
  (1, 3, .getfield 62, [2, 14, 0, 0, 0, 0]),
  (4, 2, .bipush 60, []),
  (6, 3, .if_icmp .ne 5, []),
  (9, 1, .iconst 0, []),
  (10, 1, .ireturn, [1]),
  (11, 1, .aload_n 0, []),
  (12, 3, .getfield 72, [2, 17, 0, 0, 0, 0]),
  (15, 1, .iconst (-1), []),
  (16, 3, .if_icmp .eq 37, []),
  (19, 1, .aload_n 0, []),
  (20, 3, .getfield 28, [2, 4, 3, 6, 6140, 0]),
  (23, 1, .aload_n 0, []),
  (24, 3, .getfield 72, [2, 17, 0, 0, 0, 0]),
  (27, 1, .iaload, [40]),
  (28, 2, .bipush 12, []),
  (30, 3, .if_icmp .ge 27, []),
  (33, 1, .iload_n 1, []),
  (34, 3, .ifCond .eq 19, []),
  (37, 1, .aload_n 0, []),
  (38, 3, .getfield 40, [2, 8, 3, 10, 6140, 0]),
  (41, 1, .aload_n 0, []),
  (42, 3, .getfield 72, [2, 17, 0, 0, 0, 0]),
  (45, 1, .iaload, [40]),
  (46, 1, .iconst 1, []),
  (47, 1, .iadd, []),
  (48, 2, .bipush 16, []),
  (50, 3, .if_icmp .eq 7, []),
  (53, 1, .iconst 1, []),
  (54, 3, .goto 4, []),
  (57, 1, .iconst 0, []),
  (58, 1, .ireturn, [1])]
/-- SyntaxRules$Source.addNode(I)I -/
def c55 : List zE := [(0, 1, .aload_n 0, []),
  (1, 3, .getfield 62, [2, 14, 0, 0, 0, 0]),
  (4, 1, .istore_n 2, []),
  (5, 1, .aload_n 0, []),
  (6, 1, .dup, []),
  (7, 3, .getfield 62, [2, 14, 0, 0, 0, 0]),
  (10, 1, .iconst 1, []),
  (11, 1, .iadd, []),
  (12, 3, .putfield 62, [2, 14, 0, 0, 0]),
  (15, 1, .aload_n 0, []),
  (16, 3, .getfield 18, [2, 1, 3, 3, 6140, 0]),
  (19, 1, .iload_n 2, []),
  (20, 1, .iload_n 1, []),
  (21, 1, .iastore, [40]),
  (22, 1, .aload_n 0, []),
  (23, 3, .getfield 22, [2, 2, 3, 4, 6140, 0]),
  (26, 1, .iload_n 2, []),
  (27, 1, .aload_n 0, []),
  (28, 3, .getfield 72, [2, 17, 0, 0, 0, 0]),
  (31, 1, .iastore, [40]),
  (32, 1, .aload_n 0, []),
  (33, 3, .getfield 28, [2, 4, 3, 6, 6140, 0]),
  (36, 1, .iload_n 2, []),
  (37, 1, .iconst 0, []),
  (38, 1, .iastore, [40]),
  (39, 1, .aload_n 0, []),
  (40, 3, .getfield 31, [2, 5, 3, 7, 6140, 0]),
  (43, 1, .iload_n 2, []),
  (44, 1, .aload_n 0, []),
  (45, 3, .getfield 69, [2, 16, 0, 0, 0, 0]),
  (48, 1, .iastore, [40]),
  (49, 1, .aload_n 0, []),
  (50, 3, .getfield 72, [2, 17, 0, 0, 0, 0]),
  (53, 1, .iconst (-1), []),
  (54, 3, .if_icmp .ne 20, []),
  (57, 1, .aload_n 0, []),
  (58, 3, .getfield 25, [2, 3, 3, 5, 6140, 0]),
  (61, 1, .iload_n 2, []),
  (62, 1, .iconst (-1), []),
  (63, 1, .iastore, [40]),
  (64, 1, .aload_n 0, []),
  (65, 3, .getfield 40, [2, 8, 3, 10, 6140, 0]),
  (68, 1, .iload_n 2, []),
  (69, 1, .iconst 0, []),
  (70, 1, .iastore, [40]),
  (71, 3, .goto 48, []),
  (74, 1, .aload_n 0, []),
  (75, 3, .getfield 25, [2, 3, 3, 5, 6140, 0]),
  (78, 1, .iload_n 2, []),
  (79, 1, .aload_n 0, []),
  (80, 3, .getfield 28, [2, 4, 3, 6, 6140, 0]),
  (83, 1, .aload_n 0, []),
  (84, 3, .getfield 72, [2, 17, 0, 0, 0, 0]),
  (87, 1, .iaload, [40]),
  (88, 1, .iastore, [40]),
  (89, 1, .aload_n 0, []),
  (90, 3, .getfield 40, [2, 8, 3, 10, 6140, 0]),
  (93, 1, .iload_n 2, []),
  (94, 1, .aload_n 0, []),
  (95, 3, .getfield 40, [2, 8, 3, 10, 6140, 0]),
  (98, 1, .aload_n 0, []),
  (99, 3, .getfield 72, [2, 17, 0, 0, 0, 0]),
  (102, 1, .iaload, [40]),
  (103, 1, .iconst 1, []),
  (104, 1, .iadd, []),
  (105, 1, .iastore, [40]),
  (106, 1, .aload_n 0, []),
  (107, 3, .getfield 28, [2, 4, 3, 6, 6140, 0]),
  (110, 1, .aload_n 0, []),
  (111, 3, .getfield 72, [2, 17, 0, 0, 0, 0]),
  (114, 1, .dup2, []),
  (115, 1, .iaload, [40]),
  (116, 1, .iconst 1, []),
  (117, 1, .iadd, []),
  (118, 1, .iastore, [40]),
  (119, 1, .iload_n 2, []),
  (120, 1, .ireturn, [0])]
/-- SyntaxRules$Source.readName(IZ)Z -/
def c56 : List zE := [(0, 1, .iload_n 2, []),
  (1, 3, .ifCond .eq 8, []),
  (4, 2, .bipush 8, []),
  (6, 3, .goto 4, []),
  (9, 1, .iconst 4, []),
  (10, 1, .istore_n 3, []),
  (11, 1, .aload_n 0, []),
  (12, 3, .getfield 12, [2, 0, 3, 1, 101, 0]),
  (15, 1, .aload_n 0, []),
  (16, 3, .getfield 69, [2, 16, 0, 0, 0, 0]),
  (19, 1, .iload_n 2, []),
  (20, 1, .iload_n 3, []),
  (21, 3, .invokevirtual 115, [48, 1, 0, 0, 0, 101]),
  (24, 2, .istore 4, []),
  (26, 2, .iload 4, []),
  (28, 1, .iload_n 3, []),
  (29, 3, .if_icmp .le 15, []),
  (32, 1, .aload_n 0, []),
  (33, 1, .dup, []),
  (34, 3, .getfield 69, [2, 16, 0, 0, 0, 0]),
  (37, 1, .iload_n 3, []),
  (38, 1, .iadd, []),
  (39, 3, .putfield 69, [2, 16, 0, 0, 0]),
  (42, 1, .iconst 0, []),
  (43, 1, .ireturn, [1]),
  (44, 1, .aload_n 0, []),
  (45, 3, .getfield 43, [2, 9, 3, 11, 6140, 0]),
  (48, 1, .iload_n 1, []),
  (49, 1, .aload_n 0, []),
  (50, 3, .getfield 69, [2, 16, 0, 0, 0, 0]),
  (53, 1, .iastore, [40]),
  (54, 1, .aload_n 0, []),
  (55, 3, .getfield 46, [2, 10, 3, 12, 6140, 0]),
  (58, 1, .iload_n 1, []),
  (59, 2, .iload 4, []),
  (61, 1, .iastore, [40]),
  (62, 1, .aload_n 0, []),
  (63, 1, .dup, []),
  (64, 3, .getfield 69, [2, 16, 0, 0, 0, 0]),
  (67, 2, .iload 4, []),
  (69, 1, .iadd, []),
  (70, 3, .putfield 69, [2, 16, 0, 0, 0]),
  (73, 1, .iconst 1, []),
  (74, 1, .ireturn, [1])]
/-- SyntaxRules$Source.finishNode(I)Z -/
def c57 : List zE := [(0, 1, .aload_n 0, []),
  (1, 3, .getfield 34, [2, 6, 3, 8, 6140, 0]),
  (4, 1, .iload_n 1, []),
  (5, 1, .aload_n 0, []),
  (6, 3, .getfield 69, [2, 16, 0, 0, 0, 0]),
  (9, 1, .iastore, [40]),
  (10, 1, .aload_n 0, []),
  (11, 3, .getfield 37, [2, 7, 3, 9, 6140, 0]),
  (14, 1, .iload_n 1, []),
  (15, 1, .aload_n 0, []),
  (16, 3, .getfield 62, [2, 14, 0, 0, 0, 0]),
  (19, 1, .iload_n 1, []),
  (20, 1, .isub, []),
  (21, 1, .iastore, [40]),
  (22, 1, .iconst 1, []),
  (23, 1, .ireturn, [1])]
/-- SyntaxRules$Source.passLayout()Z -/
def c58 : List zE := [(0, 1, .iconst 0, []),
  (1, 1, .istore_n 1, []),
  (2, 1, .iload_n 1, []),
  (3, 3, .sipush 300, []),
  (6, 3, .if_icmp .gt 63, []),
  (9, 1, .aload_n 0, []),
  (10, 3, .getfield 12, [2, 0, 3, 1, 101, 0]),
  (13, 1, .aload_n 0, []),
  (14, 3, .getfield 69, [2, 16, 0, 0, 0, 0]),
  (17, 3, .invokevirtual 85, [44, 1, 0, 101]),
  (20, 1, .istore_n 2, []),
  (21, 1, .iload_n 2, []),
  (22, 2, .bipush 32, []),
  (24, 3, .if_icmp .eq 9, []),
  (27, 1, .iload_n 2, []),
  (28, 2, .bipush 10, []),
  (30, 3, .if_icmp .ne 16, []),
  (33, 1, .aload_n 0, []),
  (34, 1, .dup, []),
  (35, 3, .getfield 69, [2, 16, 0, 0, 0, 0]),
  (38, 1, .iconst 1, []),
  (39, 1, .iadd, []),
  (40, 3, .putfield 69, [2, 16, 0, 0, 0]),
  (43, 3, .goto 20, []),
  (46, 1, .iload_n 2, []),
  (47, 2, .bipush 91, []),
  (49, 3, .if_icmp .eq 5, []),
  (52, 1, .iconst 1, []),
  (53, 1, .ireturn, [1]),
  (54, 1, .aload_n 0, []),
  (55, 3, .invokevirtual 119, [59, 1, 102]),
  (58, 3, .ifCond .ne 5, []),
  (61, 1, .iconst 0, []),
  (62, 1, .ireturn, [1]),
  (63, 3, .iinc 1 1, []),
  (66, 3, .goto (-64), []),
  (69, 1, .iconst 1, []),
  (70, 1, .ireturn, [1])]
/-- SyntaxRules$Source.passComment()Z -/
def c59 : List zE := [(0, 1, .aload_n 0, []),
  (1, 3, .getfield 69, [2, 16, 0, 0, 0, 0]),
  (4, 1, .iconst 1, []),
  (5, 1, .iadd, []),
  (6, 1, .istore_n 1, []),
  (7, 1, .iload_n 1, []),
  (8, 1, .aload_n 0, []),
  (9, 3, .getfield 12, [2, 0, 3, 1, 101, 0]),
  (12, 3, .getfield 82, [1, 1, 0, 0, 0, 0]),
  (15, 3, .if_icmp .ge 59, []),
  (18, 1, .aload_n 0, []),
  (19, 3, .getfield 12, [2, 0, 3, 1, 101, 0]),
  (22, 3, .getfield 122, [1, 0, 3, 1, 30140, 0]),
  (25, 1, .iload_n 1, []),
  (26, 1, .iaload, [40]),
  (27, 1, .istore_n 2, []),
  (28, 1, .iload_n 2, []),
  (29, 2, .bipush 93, []),
  (31, 3, .if_icmp .ne 12, []),
  (34, 1, .aload_n 0, []),
  (35, 1, .iload_n 1, []),
  (36, 1, .iconst 1, []),
  (37, 1, .iadd, []),
  (38, 3, .invokevirtual 125, [60, 0, 0, 102]),
  (41, 1, .iconst 1, []),
  (42, 1, .ireturn, [1]),
  (43, 1, .iload_n 2, []),
  (44, 2, .bipush 10, []),
  (46, 3, .if_icmp .eq 22, []),
  (49, 1, .iload_n 2, []),
  (50, 2, .bipush 32, []),
  (52, 3, .if_icmp .lt 9, []),
  (55, 1, .iload_n 2, []),
  (56, 2, .bipush 126, []),
  (58, 3, .if_icmp .le 10, []),
  (61, 1, .aload_n 0, []),
  (62, 1, .iload_n 1, []),
  (63, 3, .putfield 69, [2, 16, 0, 0, 0]),
  (66, 1, .iconst 0, []),
  (67, 1, .ireturn, [1]),
  (68, 3, .iinc 1 1, []),
  (71, 3, .goto (-64), []),
  (74, 1, .aload_n 0, []),
  (75, 1, .aload_n 0, []),
  (76, 3, .getfield 12, [2, 0, 3, 1, 101, 0]),
  (79, 3, .getfield 82, [1, 1, 0, 0, 0, 0]),
  (82, 3, .putfield 69, [2, 16, 0, 0, 0]),
  (85, 1, .iconst 0, []),
  (86, 1, .ireturn, [1])]
/-- SyntaxRules$Source.addComment(I)V -/
def c60 : List zE := [(0, 1, .aload_n 0, []),
  (1, 3, .getfield 66, [2, 15, 0, 0, 0, 0]),
  (4, 3, .sipush 150, []),
  (7, 3, .if_icmp .ge 54, []),
  (10, 1, .aload_n 0, []),
  (11, 3, .getfield 49, [2, 11, 3, 13, 15140, 0]),
  (14, 1, .aload_n 0, []),
  (15, 3, .getfield 66, [2, 15, 0, 0, 0, 0]),
  (18, 1, .aload_n 0, []),
  (19, 3, .getfield 69, [2, 16, 0, 0, 0, 0]),
  (22, 1, .iastore, [40]),
  (23, 1, .aload_n 0, []),
  (24, 3, .getfield 52, [2, 12, 3, 14, 15140, 0]),
  (27, 1, .aload_n 0, []),
  (28, 3, .getfield 66, [2, 15, 0, 0, 0, 0]),
  (31, 1, .iload_n 1, []),
  (32, 1, .aload_n 0, []),
  (33, 3, .getfield 69, [2, 16, 0, 0, 0, 0]),
  (36, 1, .isub, []),
  (37, 1, .iastore, [40]),
  (38, 1, .aload_n 0, []),
  (39, 3, .getfield 55, [2, 13, 3, 15, 15140, 0]),
  (42, 1, .aload_n 0, []),
  (43, 3, .getfield 66, [2, 15, 0, 0, 0, 0]),
  (46, 1, .aload_n 0, []),
  (47, 3, .getfield 72, [2, 17, 0, 0, 0, 0]),
  (50, 1, .iastore, [40]),
  (51, 1, .aload_n 0, []),
  (52, 1, .dup, []),
  (53, 3, .getfield 66, [2, 15, 0, 0, 0, 0]),
  (56, 1, .iconst 1, []),
  (57, 1, .iadd, []),
  (58, 3, .putfield 66, [2, 15, 0, 0, 0]),
  (61, 1, .aload_n 0, []),
  (62, 1, .iload_n 1, []),
  (63, 3, .putfield 69, [2, 16, 0, 0, 0]),
  (66, 1, .return_, [])]
/-- SyntaxRules$Source.sameNode(II)Z -/
def c61 : List zE := [(0, 1, .aload_n 0, []),
  (1, 3, .getfield 37, [2, 7, 3, 9, 6140, 0]),
  (4, 1, .iload_n 1, []),
  (5, 1, .iaload, [40]),
  (6, 1, .aload_n 0, []),
  (7, 3, .getfield 37, [2, 7, 3, 9, 6140, 0]),
  (10, 1, .iload_n 2, []),
  (11, 1, .iaload, [40]),
  (12, 3, .if_icmp .ne 22, []),
  (15, 1, .aload_n 0, []),
  (16, 1, .iload_n 1, []),
  (17, 1, .iload_n 2, []),
  (18, 1, .aload_n 0, []),
  (19, 3, .getfield 37, [2, 7, 3, 9, 6140, 0]),
  (22, 1, .iload_n 1, []),
  (23, 1, .iaload, [40]),
  (24, 3, .invokevirtual 129, [62, 1, 0, 0, 0, 102]),
  (27, 3, .ifCond .eq 7, []),
  (30, 1, .iconst 1, []),
  (31, 3, .goto 4, []),
  (34, 1, .iconst 0, []),
  (35, 1, .ireturn, [1])]
/-- SyntaxRules$Source.sameRow(III)Z -/
def c62 : List zE := [(0, 1, .iconst 0, []),
  (1, 2, .istore 4, []),
  (3, 2, .iload 4, []),
  (5, 1, .iload_n 3, []),
  (6, 3, .if_icmp .ge 114, []),
  (9, 1, .iload_n 1, []),
  (10, 1, .iload_n 2, []),
  (11, 3, .if_icmp .eq 109, []),
  (14, 1, .iload_n 1, []),
  (15, 2, .iload 4, []),
  (17, 1, .iadd, []),
  (18, 2, .istore 5, []),
  (20, 1, .iload_n 2, []),
  (21, 2, .iload 4, []),
  (23, 1, .iadd, []),
  (24, 2, .istore 6, []),
  (26, 1, .aload_n 0, []),
  (27, 3, .getfield 18, [2, 1, 3, 3, 6140, 0]),
  (30, 2, .iload 5, []),
  (32, 1, .iaload, [40]),
  (33, 1, .aload_n 0, []),
  (34, 3, .getfield 18, [2, 1, 3, 3, 6140, 0]),
  (37, 2, .iload 6, []),
  (39, 1, .iaload, [40]),
  (40, 3, .if_icmp .ne 72, []),
  (43, 1, .aload_n 0, []),
  (44, 3, .getfield 28, [2, 4, 3, 6, 6140, 0]),
  (47, 2, .iload 5, []),
  (49, 1, .iaload, [40]),
  (50, 1, .aload_n 0, []),
  (51, 3, .getfield 28, [2, 4, 3, 6, 6140, 0]),
  (54, 2, .iload 6, []),
  (56, 1, .iaload, [40]),
  (57, 3, .if_icmp .ne 55, []),
  (60, 1, .aload_n 0, []),
  (61, 3, .getfield 46, [2, 10, 3, 12, 6140, 0]),
  (64, 2, .iload 5, []),
  (66, 1, .iaload, [40]),
  (67, 1, .aload_n 0, []),
  (68, 3, .getfield 46, [2, 10, 3, 12, 6140, 0]),
  (71, 2, .iload 6, []),
  (73, 1, .iaload, [40]),
  (74, 3, .if_icmp .ne 38, []),
  (77, 1, .aload_n 0, []),
  (78, 3, .getfield 12, [2, 0, 3, 1, 101, 0]),
  (81, 1, .aload_n 0, []),
  (82, 3, .getfield 43, [2, 9, 3, 11, 6140, 0]),
  (85, 2, .iload 5, []),
  (87, 1, .iaload, [40]),
  (88, 1, .aload_n 0, []),
  (89, 3, .getfield 12, [2, 0, 3, 1, 101, 0]),
  (92, 1, .aload_n 0, []),
  (93, 3, .getfield 43, [2, 9, 3, 11, 6140, 0]),
  (96, 2, .iload 6, []),
  (98, 1, .iaload, [40]),
  (99, 1, .aload_n 0, []),
  (100, 3, .getfield 46, [2, 10, 3, 12, 6140, 0]),
  (103, 2, .iload 5, []),
  (105, 1, .iaload, [40]),
  (106, 3, .invokevirtual 133, [47, 1, 0, 0, 101, 0, 101]),
  (109, 3, .ifCond .ne 5, []),
  (112, 1, .iconst 0, []),
  (113, 1, .ireturn, [1]),
  (114, 3, .iinc 4 1, []),
  (117, 3, .goto (-114), []),
  (120, 1, .iconst 1, []),
  (121, 1, .ireturn, [1])]
/-- SyntaxRules$Source.isNamed(ILSyntaxRules$Rule;I)Z -/
def c63 : List zE := [(0, 1, .aload_n 0, []),
  (1, 3, .getfield 46, [2, 10, 3, 12, 6140, 0]),
  (4, 1, .iload_n 1, []),
  (5, 1, .iaload, [40]),
  (6, 2, .istore 4, []),
  (8, 2, .iload 4, []),
  (10, 1, .aload_n 2, []),
  (11, 3, .getfield 136, [3, 12, 3, 14, 4140, 0]),
  (14, 1, .iload_n 3, []),
  (15, 1, .iaload, [40]),
  (16, 3, .if_icmp .ne 35, []),
  (19, 1, .aload_n 0, []),
  (20, 3, .getfield 12, [2, 0, 3, 1, 101, 0]),
  (23, 1, .aload_n 0, []),
  (24, 3, .getfield 43, [2, 9, 3, 11, 6140, 0]),
  (27, 1, .iload_n 1, []),
  (28, 1, .iaload, [40]),
  (29, 1, .aload_n 2, []),
  (30, 3, .getfield 141, [3, 0, 3, 1, 101, 0]),
  (33, 1, .aload_n 2, []),
  (34, 3, .getfield 142, [3, 11, 3, 13, 4140, 0]),
  (37, 1, .iload_n 3, []),
  (38, 1, .iaload, [40]),
  (39, 2, .iload 4, []),
  (41, 3, .invokevirtual 133, [47, 1, 0, 0, 101, 0, 101]),
  (44, 3, .ifCond .eq 7, []),
  (47, 1, .iconst 1, []),
  (48, 3, .goto 4, []),
  (51, 1, .iconst 0, []),
  (52, 1, .ireturn, [1])]
/-- SyntaxRules$Source.partOf(II)I -/
def c64 : List zE := [(0, 1, .iload_n 2, []),
  (1, 3, .ifCond .lt 13, []),
  (4, 1, .iload_n 2, []),
  (5, 1, .aload_n 0, []),
  (6, 3, .getfield 28, [2, 4, 3, 6, 6140, 0]),
  (9, 1, .iload_n 1, []),
  (10, 1, .iaload, [40]),
  (11, 3, .if_icmp .lt 5, []),
  (14, 1, .iconst (-1), []),
  (15, 1, .ireturn, [0]),
  (16, 1, .iload_n 1, []),
  (17, 1, .iconst 1, []),
  (18, 1, .iadd, []),
  (19, 1, .istore_n 3, []),
  (20, 1, .iconst 0, []),
  (21, 2, .istore 4, []),
  (23, 2, .iload 4, []),
  (25, 1, .iload_n 2, []),
  (26, 3, .if_icmp .ge 18, []),
  (29, 1, .iload_n 3, []),
  (30, 1, .aload_n 0, []),
  (31, 3, .getfield 37, [2, 7, 3, 9, 6140, 0]),
  (34, 1, .iload_n 3, []),
  (35, 1, .iaload, [40]),
  (36, 1, .iadd, []),
  (37, 1, .istore_n 3, []),
  (38, 3, .iinc 4 1, []),
  (41, 3, .goto (-18), []),
  (44, 1, .iload_n 3, []),
  (45, 1, .ireturn, [0])]
/-- SyntaxRules$Source.mostWithin()I -/
def c65 : List zE := [(0, 1, .iconst 0, []),
  (1, 1, .istore_n 1, []),
  (2, 1, .iconst 0, []),
  (3, 1, .istore_n 2, []),
  (4, 1, .iload_n 2, []),
  (5, 1, .aload_n 0, []),
  (6, 3, .getfield 62, [2, 14, 0, 0, 0, 0]),
  (9, 3, .if_icmp .ge 20, []),
  (12, 1, .iload_n 1, []),
  (13, 1, .aload_n 0, []),
  (14, 3, .getfield 40, [2, 8, 3, 10, 6140, 0]),
  (17, 1, .iload_n 2, []),
  (18, 1, .iaload, [40]),
  (19, 3, .invokestatic 145, [259, 1, 0, 0]),
  (22, 1, .istore_n 1, []),
  (23, 3, .iinc 2 1, []),
  (26, 3, .goto (-22), []),
  (29, 1, .iload_n 1, []),
  (30, 1, .iconst 1, []),
  (31, 1, .iadd, []),
  (32, 1, .ireturn, [0])]
/-- SyntaxRules$Rule.<init>()V -/
def c66 : List zE := [(0, 1, .aload_n 0, []),
  (1, 3, .invokespecial 3, [9999, 0, 0]),
  (4, 1, .aload_n 0, []),
  (5, 3, .new 9, [1, 2]),
  (8, 1, .dup, []),
  (9, 3, .invokespecial 11, [43, 0, 0]),
  (12, 3, .putfield 12, [3, 0, 3, 1, 0]),
  (15, 1, .aload_n 0, []),
  (16, 2, .bipush 40, []),
  (18, 2, .newarray .int, [40]),
  (20, 3, .putfield 18, [3, 1, 3, 1, 0]),
  (23, 1, .aload_n 0, []),
  (24, 2, .bipush 40, []),
  (26, 2, .newarray .int, [40]),
  (28, 3, .putfield 22, [3, 2, 3, 1, 0]),
  (31, 1, .aload_n 0, []),
  (32, 2, .bipush 40, []),
  (34, 2, .newarray .int, [40]),
  (36, 3, .putfield 25, [3, 3, 3, 1, 0]),
  (39, 1, .aload_n 0, []),
  (40, 2, .bipush 40, []),
  (42, 2, .newarray .int, [40]),
  (44, 3, .putfield 28, [3, 4, 3, 1, 0]),
  (47, 1, .aload_n 0, []),
  (48, 2, .bipush 40, []),
  (50, 2, .newarray .int, [40]),
  (52, 3, .putfield 31, [3, 5, 3, 1, 0]),
  (55, 1, .aload_n 0, []),
  (56, 2, .bipush 40, []),
  (58, 2, .newarray .int, [40]),
  (60, 3, .putfield 34, [3, 6, 3, 1, 0]),
  (63, 1, .aload_n 0, []),
  (64, 2, .bipush 40, []),
  (66, 2, .newarray .int, [40]),
  (68, 3, .putfield 37, [3, 7, 3, 1, 0]),
  (71, 1, .aload_n 0, []),
  (72, 2, .bipush 40, []),
  (74, 2, .newarray .int, [40]),
  (76, 3, .putfield 40, [3, 8, 3, 1, 0]),
  (79, 1, .aload_n 0, []),
  (80, 2, .bipush 40, []),
  (82, 2, .newarray .int, [40]),
  (84, 3, .putfield 43, [3, 9, 3, 1, 0]),
  (87, 1, .aload_n 0, []),
  (88, 2, .bipush 40, []),
  (90, 2, .newarray .int, [40]),
  (92, 3, .putfield 46, [3, 10, 3, 1, 0]),
  (95, 1, .aload_n 0, []),
  (96, 2, .bipush 40, []),
  (98, 2, .newarray .int, [40]),
  (100, 3, .putfield 49, [3, 11, 3, 1, 0]),
  (103, 1, .aload_n 0, []),
  (104, 2, .bipush 40, []),
  (106, 2, .newarray .int, [40]),
  (108, 3, .putfield 52, [3, 12, 3, 1, 1]),
  (111, 1, .return_, [])]
/-- SyntaxRules$Rule.itemsOf(III)I -/
def c67 : List zE := [(0, 1, .iconst 0, []),
  (1, 2, .istore 4, []),
  (3, 1, .iload_n 2, []),
  (4, 2, .istore 5, []),
  (6, 2, .iload 5, []),
  (8, 1, .iload_n 3, []),
  (9, 3, .if_icmp .ge 30, []),
  (12, 2, .iload 4, []),
  (14, 1, .aload_n 0, []),
  (15, 3, .getfield 18, [3, 1, 3, 3, 4140, 0]),
  (18, 2, .iload 5, []),
  (20, 1, .iaload, [40]),
  (21, 1, .iload_n 1, []),
  (22, 3, .if_icmp .ne 7, []),
  (25, 1, .iconst 1, []),
  (26, 3, .goto 4, []),
  (29, 1, .iconst 0, []),
  (30, 1, .iadd, []),
  (31, 2, .istore 4, []),
  (33, 3, .iinc 5 1, []),
  (36, 3, .goto (-30), []),
  (39, 2, .iload 4, []),
  (41, 1, .ireturn, [0])]
/-- SyntaxRules$Rule.standing(II)I -/
def c68 : List zE := [(0, 1, .iload_n 1, []),
  (1, 1, .istore_n 3, []),
  (2, 1, .iload_n 3, []),
  (3, 1, .aload_n 0, []),
  (4, 3, .getfield 55, [3, 14, 0, 0, 0, 0]),
  (7, 3, .if_icmp .ge 21, []),
  (10, 1, .aload_n 0, []),
  (11, 3, .getfield 22, [3, 2, 3, 4, 4140, 0]),
  (14, 1, .iload_n 3, []),
  (15, 1, .iaload, [40]),
  (16, 1, .iload_n 2, []),
  (17, 3, .if_icmp .ne 5, []),
  (20, 1, .iload_n 3, []),
  (21, 1, .ireturn, [0]),
  (22, 3, .iinc 3 1, []),
  (25, 3, .goto (-23), []),
  (28, 1, .iconst (-1), []),
  (29, 1, .ireturn, [0])]
/-- SyntaxRules$Rule.rowsBehind(I)I -/
def c69 : List zE := [(0, 1, .aload_n 0, []),
  (1, 3, .getfield 28, [3, 4, 3, 6, 4140, 0]),
  (4, 1, .iload_n 1, []),
  (5, 1, .iaload, [40]),
  (6, 1, .iconst (-1), []),
  (7, 3, .if_icmp .ne 7, []),
  (10, 1, .iconst 0, []),
  (11, 3, .goto 21, []),
  (14, 1, .aload_n 0, []),
  (15, 3, .getfield 40, [3, 8, 3, 10, 4140, 0]),
  (18, 1, .aload_n 0, []),
  (19, 3, .getfield 28, [3, 4, 3, 6, 4140, 0]),
  (22, 1, .iload_n 1, []),
  (23, 1, .iaload, [40]),
  (24, 1, .iaload, [40]),
  (25, 1, .aload_n 0, []),
  (26, 3, .getfield 43, [3, 9, 3, 11, 4140, 0]),
  (29, 1, .iload_n 1, []),
  (30, 1, .iaload, [40]),
  (31, 1, .isub, []),
  (32, 1, .ireturn, [0])]
/-- SyntaxRules$Rule.singlesBehind(I)I -/
def c70 : List zE := [(0, 1, .aload_n 0, []),
  (1, 3, .getfield 28, [3, 4, 3, 6, 4140, 0]),
  (4, 1, .iload_n 1, []),
  (5, 1, .iaload, [40]),
  (6, 1, .istore_n 2, []),
  (7, 1, .iload_n 2, []),
  (8, 1, .iconst (-1), []),
  (9, 3, .if_icmp .ne 7, []),
  (12, 1, .iconst 0, []),
  (13, 3, .goto 32, []),
  (16, 1, .aload_n 0, []),
  (17, 3, .getfield 37, [3, 7, 3, 9, 4140, 0]),
  (20, 1, .iload_n 2, []),
  (21, 1, .iaload, [40]),
  (22, 1, .aload_n 0, []),
  (23, 3, .getfield 34, [3, 6, 3, 8, 4140, 0]),
  (26, 1, .iload_n 1, []),
  (27, 1, .iaload, [40]),
  (28, 1, .isub, []),
  (29, 1, .iconst 1, []),
  (30, 1, .isub, []),
  (31, 1, .aload_n 0, []),
  (32, 3, .getfield 40, [3, 8, 3, 10, 4140, 0]),
  (35, 1, .iload_n 2, []),
  (36, 1, .iaload, [40]),
  (37, 1, .aload_n 0, []),
  (38, 3, .getfield 43, [3, 9, 3, 11, 4140, 0]),
  (41, 1, .iload_n 1, []),
  (42, 1, .iaload, [40]),
  (43, 1, .isub, []),
  (44, 1, .isub, []),
  (45, 1, .ireturn, [0])]
/-- SyntaxRules$Rule.sameWord(ILSyntaxRules$Rule;I)Z -/
def c71 : List zE := [(0, 1, .aload_n 0, []),
  (1, 3, .getfield 52, [3, 12, 3, 14, 4140, 0]),
  (4, 1, .iload_n 1, []),
  (5, 1, .iaload, [40]),
  (6, 2, .istore 4, []),
  (8, 2, .iload 4, []),
  (10, 1, .aload_n 2, []),
  (11, 3, .getfield 52, [3, 12, 3, 14, 4140, 0]),
  (14, 1, .iload_n 3, []),
  (15, 1, .iaload, [40]),
  (16, 3, .if_icmp .ne 35, []),
  (19, 1, .aload_n 0, []),
  (20, 3, .getfield 12, [3, 0, 3, 1, 101, 0]),
  (23, 1, .aload_n 0, []),
  (24, 3, .getfield 49, [3, 11, 3, 13, 4140, 0]),
  (27, 1, .iload_n 1, []),
  (28, 1, .iaload, [40]),
  (29, 1, .aload_n 2, []),
  (30, 3, .getfield 12, [3, 0, 3, 1, 101, 0]),
  (33, 1, .aload_n 2, []),
  (34, 3, .getfield 49, [3, 11, 3, 13, 4140, 0]),
  (37, 1, .iload_n 3, []),
  (38, 1, .iaload, [40]),
  (39, 2, .iload 4, []),
  (41, 3, .invokevirtual 59, [47, 1, 0, 0, 101, 0, 101]),
  (44, 3, .ifCond .eq 7, []),
  (47, 1, .iconst 1, []),
  (48, 3, .goto 4, []),
  (51, 1, .iconst 0, []),
  (52, 1, .ireturn, [1])]
/-- SyntaxRules$Rule.sameTokens(ILSyntaxRules$Rule;I)Z -/
def c72 : List zE := [(0, 1, .aload_n 0, []),
  (1, 3, .getfield 46, [3, 10, 3, 12, 4140, 0]),
  (4, 1, .iload_n 1, []),
  (5, 1, .iaload, [40]),
  (6, 1, .aload_n 2, []),
  (7, 3, .getfield 46, [3, 10, 3, 12, 4140, 0]),
  (10, 1, .iload_n 3, []),
  (11, 1, .iaload, [40]),
  (12, 3, .if_icmp .eq 5, []),
  (15, 1, .iconst 0, []),
  (16, 1, .ireturn, [1]),
  (17, 1, .iconst 0, []),
  (18, 2, .istore 4, []),
  (20, 2, .iload 4, []),
  (22, 1, .aload_n 0, []),
  (23, 3, .getfield 46, [3, 10, 3, 12, 4140, 0]),
  (26, 1, .iload_n 1, []),
  (27, 1, .iaload, [40]),
  (28, 3, .if_icmp .ge 103, []),
  (31, 1, .iload_n 1, []),
  (32, 2, .iload 4, []),
  (34, 1, .iadd, []),
  (35, 2, .istore 5, []),
  (37, 1, .iload_n 3, []),
  (38, 2, .iload 4, []),
  (40, 1, .iadd, []),
  (41, 2, .istore 6, []),
  (43, 1, .aload_n 0, []),
  (44, 3, .getfield 18, [3, 1, 3, 3, 4140, 0]),
  (47, 2, .iload 5, []),
  (49, 1, .iaload, [40]),
  (50, 1, .aload_n 2, []),
  (51, 3, .getfield 18, [3, 1, 3, 3, 4140, 0]),
  (54, 2, .iload 6, []),
  (56, 1, .iaload, [40]),
  (57, 3, .if_icmp .ne 66, []),
  (60, 1, .aload_n 0, []),
  (61, 3, .getfield 22, [3, 2, 3, 4, 4140, 0]),
  (64, 2, .iload 5, []),
  (66, 1, .iaload, [40]),
  (67, 1, .aload_n 2, []),
  (68, 3, .getfield 22, [3, 2, 3, 4, 4140, 0]),
  (71, 2, .iload 6, []),
  (73, 1, .iaload, [40]),
  (74, 3, .if_icmp .ne 49, []),
  (77, 1, .aload_n 0, []),
  (78, 3, .getfield 25, [3, 3, 3, 5, 4140, 0]),
  (81, 2, .iload 5, []),
  (83, 1, .iaload, [40]),
  (84, 1, .aload_n 2, []),
  (85, 3, .getfield 25, [3, 3, 3, 5, 4140, 0]),
  (88, 2, .iload 6, []),
  (90, 1, .iaload, [40]),
  (91, 3, .if_icmp .ne 32, []),
  (94, 1, .aload_n 0, []),
  (95, 3, .getfield 37, [3, 7, 3, 9, 4140, 0]),
  (98, 2, .iload 5, []),
  (100, 1, .iaload, [40]),
  (101, 1, .aload_n 2, []),
  (102, 3, .getfield 37, [3, 7, 3, 9, 4140, 0]),
  (105, 2, .iload 6, []),
  (107, 1, .iaload, [40]),
  (108, 3, .if_icmp .ne 15, []),
  (111, 1, .aload_n 0, []),
  (112, 2, .iload 5, []),
  (114, 1, .aload_n 2, []),
  (115, 2, .iload 6, []),
  (117, 3, .invokevirtual 63, [71, 1, 0, 103, 0, 103]),
  (120, 3, .ifCond .ne 5, []),
  (123, 1, .iconst 0, []),
  (124, 1, .ireturn, [1]),
  (125, 3, .iinc 4 1, []),
  (128, 3, .goto (-108), []),
  (131, 1, .iconst 1, []),
  (132, 1, .ireturn, [1])]
/-- SyntaxRules$Rule.samePath(ILSyntaxRules$Rule;I)Z -/
def c73 : List zE := [(0, 1, .iload_n 1, []),
  (1, 2, .istore 4, []),
  (3, 1, .iload_n 3, []),
  (4, 2, .istore 5, []),
  (6, 1, .iconst 0, []),
  (7, 2, .istore 6, []),
  (9, 2, .iload 6, []),
  (11, 2, .bipush 20, []),
  (13, 3, .if_icmp .ge 58, []),
  (16, 2, .iload 4, []),
  (18, 1, .iconst (-1), []),
  (19, 3, .if_icmp .eq 52, []),
  (22, 2, .iload 5, []),
  (24, 1, .iconst (-1), []),
  (25, 3, .if_icmp .eq 46, []),
  (28, 1, .aload_n 0, []),
  (29, 3, .getfield 34, [3, 6, 3, 8, 4140, 0]),
  (32, 2, .iload 4, []),
  (34, 1, .iaload, [40]),
  (35, 1, .aload_n 2, []),
  (36, 3, .getfield 34, [3, 6, 3, 8, 4140, 0]),
  (39, 2, .iload 5, []),
  (41, 1, .iaload, [40]),
  (42, 3, .if_icmp .eq 5, []),
  (45, 1, .iconst 0, []),
  (46, 1, .ireturn, [1]),
  (47, 1, .aload_n 0, []),
  (48, 3, .getfield 28, [3, 4, 3, 6, 4140, 0]),
  (51, 2, .iload 4, []),
  (53, 1, .iaload, [40]),
  (54, 2, .istore 4, []),
  (56, 1, .aload_n 2, []),
  (57, 3, .getfield 28, [3, 4, 3, 6, 4140, 0]),
  (60, 2, .iload 5, []),
  (62, 1, .iaload, [40]),
  (63, 2, .istore 5, []),
  (65, 3, .iinc 6 1, []),
  (68, 3, .goto (-59), []),
  (71, 2, .iload 4, []),
  (73, 2, .iload 5, []),
  (75, 3, .if_icmp .ne 7, []),
  (78, 1, .iconst 1, []),
  (79, 3, .goto 4, []),
  (82, 1, .iconst 0, []),
  (83, 1, .ireturn, [1])]
/-- SyntaxRules$RuleReader.<init>()V -/
def c74 : List zE := [(0, 1, .aload_n 0, []),
  (1, 3, .invokespecial 3, [9999, 0, 0]),
  (4, 1, .aload_n 0, []),
  (5, 2, .bipush 40, []),
  (7, 2, .newarray .int, [40]),
  (9, 3, .putfield 9, [4, 10, 3, 1, 1]),
  (12, 1, .return_, [])]
/-- SyntaxRules$RuleReader.read(LSyntaxRules$Text;)LSyntaxRules$Rule; -/
def c75 : List zE := [(0, 1, .aload_n 0, []),
  (1, 3, .new 15, [3, 16]),
  (4, 1, .dup, []),
  (5, 3, .invokespecial 17, [66, 0, 0]),
  (8, 3, .putfield 18, [4, 2, 2, 0, 0]),
  (11, 1, .aload_n 0, []),
  (12, 3, .getfield 18, [4, 2, 2, 0, 103, 0]),
  (15, 3, .getfield 22, [3, 0, 3, 1, 101, 0]),
  (18, 1, .aload_n 1, []),
  (19, 3, .invokevirtual 26, [45, 0, 101, 101]),
  (22, 1, .aload_n 0, []),
  (23, 1, .aload_n 0, []),
  (24, 3, .getfield 18, [4, 2, 2, 0, 103, 0]),
  (27, 3, .getfield 22, [3, 0, 3, 1, 101, 0]),
  (30, 3, .putfield 32, [4, 1, 2, 0, 0]),
  (33, 1, .aload_n 0, []),
  (34, 1, .iconst 0, []),
  (35, 3, .putfield 33, [4, 0, 0, 0, 0]),
  (38, 1, .aload_n 0, []),
  (39, 1, .iconst 0, []),
  (40, 3, .putfield 37, [4, 6, 0, 0, 0]),
  (43, 1, .aload_n 0, []),
  (44, 1, .iconst 0, []),
  (45, 3, .putfield 40, [4, 7, 0, 0, 0]),
  (48, 1, .aload_n 0, []),
  (49, 1, .iconst 0, []),
  (50, 3, .putfield 43, [4, 8, 0, 0, 0]),
  (53, 1, .aload_n 0, []),
  (54, 1, .iconst 0, []),
  (55, 3, .putfield 46, [4, 9, 0, 0, 0]),
  (58, 1, .aload_n 0, []),
  (59, 1, .iconst 0, []),
  (60, 3, .putfield 49, [4, 5, 1, 0, 0]),
  (63, 1, .aload_n 0, []),
  (64, 3, .invokevirtual 53, [77, 1, 104]),
  (67, 3, .ifCond .eq 10, []),
  (70, 1, .aload_n 0, []),
  (71, 3, .invokevirtual 57, [76, 1, 104]),
  (74, 3, .ifCond .ne 5, []),
  (77, 1, .aconst_null, []),
  (78, 1, .areturn, [0]),
  (79, 1, .aload_n 0, []),
  (80, 1, .iconst 1, []),
  (81, 3, .putfield 49, [4, 5, 1, 0, 0]),
  (84, 1, .aload_n 0, []),
  (85, 3, .invokevirtual 53, [77, 1, 104]),
  (88, 3, .ifCond .ne 5, []),
  (91, 1, .aconst_null, []),
  (92, 1, .areturn, [0]),
  (93, 1, .aload_n 0, []),
  (94, 3, .invokevirtual 60, [78, 0, 104]),
  (97, 1, .aload_n 0, []),
  (98, 3, .getfield 33, [4, 0, 0, 0, 0, 0]),
  (101, 1, .aload_n 0, []),
  (102, 3, .getfield 32, [4, 1, 2, 0, 101, 0]),
  (105, 3, .getfield 63, [1, 1, 0, 0, 0, 0]),
  (108, 3, .if_icmp .ne 10, []),
  (111, 1, .aload_n 0, []),
  (112, 3, .getfield 18, [4, 2, 2, 0, 103, 0]),
  (115, 3, .goto 4, []),
  (118, 1, .aconst_null, []),
  (119, 1, .areturn, [0])]
/-- SyntaxRules$RuleReader.passEquals()Z -/
def c76 : List zE := [(0, 1, .aload_n 0, []),
  (1, 3, .getfield 18, [4, 2, 2, 0, 103, 0]),
  (4, 1, .aload_n 0, []),
  (5, 3, .getfield 18, [4, 2, 2, 0, 103, 0]),
  (8, 3, .getfield 66, [3, 13, 0, 0, 0, 0]),
  (11, 3, .putfield 69, [3, 14, 0, 0, 0]),
  (14, 1, .aload_n 0, []),
  (15, 3, .getfield 18, [4, 2, 2, 0, 103, 0]),
  (18, 1, .aload_n 0, []),
  (19, 3, .getfield 43, [4, 8, 0, 0, 0, 0]),
  (22, 1, .aload_n 0, []),
  (23, 3, .getfield 46, [4, 9, 0, 0, 0, 0]),
  (26, 1, .ior, []),
  (27, 3, .putfield 72, [3, 15, 0, 0, 0]),
  (30, 1, .aload_n 0, []),
  (31, 3, .invokevirtual 60, [78, 0, 104]),
  (34, 1, .aload_n 0, []),
  (35, 3, .getfield 32, [4, 1, 2, 0, 101, 0]),
  (38, 1, .aload_n 0, []),
  (39, 3, .getfield 33, [4, 0, 0, 0, 0, 0]),
  (42, 3, .invokevirtual 75, [44, 1, 0, 101]),
  (45, 2, .bipush 61, []),
  (47, 3, .if_icmp .eq 5, []),
  (50, 1, .iconst 0, []),
  (51, 1, .ireturn, [1]),
  (52, 1, .aload_n 0, []),
  (53, 1, .dup, []),
  (54, 3, .getfield 33, [4, 0, 0, 0, 0, 0]),
  (57, 1, .iconst 1, []),
  (58, 1, .iadd, []),
  (59, 3, .putfield 33, [4, 0, 0, 0, 0]),
  (62, 1, .iconst 1, []),
  (63, 1, .ireturn, [1])]
/-- SyntaxRules$RuleReader.readSide()Z -/
def c77 : List zE := [(0, 1, .aload_n 0, []),
  (1, 1, .iconst (-1), []),
  (2, 3, .putfield 78, [4, 3, 0, 0, 0]),
  (5, 1, .aload_n 0, []),
  (6, 1, .aload_n 0, []),
  (7, 3, .getfield 18, [4, 2, 2, 0, 103, 0]),
  (10, 3, .getfield 66, [3, 13, 0, 0, 0, 0]),
  (13, 3, .putfield 81, [4, 4, 0, 0, 0]),
  (16, 1, .iconst 0, []),
  (17, 1, .istore_n 1, []),
  (18, 1, .iload_n 1, []),
  (19, 3, .sipush 300, []),
  (22, 3, .if_icmp .gt 80, []),
  (25, 1, .aload_n 0, []),
  (26, 3, .invokevirtual 60, [78, 0, 104]),
  (29, 1, .aload_n 0, []),
  (30, 3, .getfield 32, [4, 1, 2, 0, 101, 0]),
  (33, 1, .aload_n 0, []),
  (34, 3, .getfield 33, [4, 0, 0, 0, 0, 0]),
  (37, 3, .invokevirtual 75, [44, 1, 0, 101]),
  (40, 1, .istore_n 2, []),
  (41, 1, .iload_n 2, []),
  (42, 2, .bipush 41, []),
  (44, 3, .if_icmp .ne 32, []),
  (47, 1, .aload_n 0, []),
  (48, 3, .invokevirtual 84, [79, 1, 104]),
  (51, 3, .ifCond .eq 25, []),
  (54, 1, .aload_n 0, []),
  (55, 1, .dup, []),
  (56, 3, .getfield 33, [4, 0, 0, 0, 0, 0]),
  (59, 1, .iconst 1, []),
  (60, 1, .iadd, []),
  (61, 3, .putfield 33, [4, 0, 0, 0, 0]),
  (64, 1, .aload_n 0, []),
  (65, 1, .aload_n 0, []),
  (66, 3, .getfield 78, [4, 3, 0, 0, 0, 0]),
  (69, 3, .invokevirtual 87, [89, 1, 0, 104]),
  (72, 1, .pop, []),
  (73, 3, .goto 13, []),
  (76, 1, .aload_n 0, []),
  (77, 1, .iload_n 2, []),
  (78, 3, .invokevirtual 91, [80, 1, 0, 104]),
  (81, 3, .ifCond .ne 5, []),
  (84, 1, .iconst 0, []),
  (85, 1, .ireturn, [1]),
  (86, 1, .aload_n 0, []),
  (87, 3, .getfield 78, [4, 3, 0, 0, 0, 0]),
  (90, 1, .iconst (-1), []),
  (91, 3, .if_icmp .ne 5, []),
  (94, 1, .iconst 1, []),
  (95, 1, .ireturn, [1]),
  (96, 3, .iinc 1 1, []),
  (99, 3, .goto (-81), []),
  (102, 1, .iconst 0, []),
  (103, 1, .ireturn, [1])]
/-- SyntaxRules$RuleReader.passBlanks()V -/
def c78 : List zE := [(0, 1, .iconst 0, []),
  (1, 1, .istore_n 1, []),
  (2, 1, .iload_n 1, []),
  (3, 3, .sipush 300, []),
  (6, 3, .if_icmp .gt 35, []),
  (9, 1, .aload_n 0, []),
  (10, 3, .getfield 32, [4, 1, 2, 0, 101, 0]),
  (13, 1, .aload_n 0, []),
  (14, 3, .getfield 33, [4, 0, 0, 0, 0, 0]),
  (17, 3, .invokevirtual 75, [44, 1, 0, 101]),
  (20, 2, .bipush 32, []),
  (22, 3, .if_icmp .ne 19, []),
  (25, 1, .aload_n 0, []),
  (26, 1, .dup, []),
  (27, 3, .getfield 33, [4, 0, 0, 0, 0, 0]),
  (30, 1, .iconst 1, []),
  (31, 1, .iadd, []),
  (32, 3, .putfield 33, [4, 0, 0, 0, 0]),
  (35, 3, .iinc 1 1, []),
  (38, 3, .goto (-36), []),
  (41, 1, .return_, [])]
/-- SyntaxRules$RuleReader.isInTerm()Z -/
def c79 : List zE := [(0, 1, .aload_n 0, []),
  (1, 3, .getfield 78, [4, 3, 0, 0, 0, 0]),
  (4, 1, .iconst (-1), []),
  (5, 3, .if_icmp .eq 23, []),
  (8, 1, .aload_n 0, []),
  (9, 3, .getfield 18, [4, 2, 2, 0, 103, 0]),
  (12, 3, .getfield 94, [3, 1, 3, 3, 4140, 0]),
  (15, 1, .aload_n 0, []),
  (16, 3, .getfield 78, [4, 3, 0, 0, 0, 0]),
  (19, 1, .iaload, [40]),
  (20, 1, .iconst 4, []),
  (21, 3, .if_icmp .ne 7, []),
  (24, 1, .iconst 1, []),
  (25, 3, .goto 4, []),
  (28, 1, .iconst 0, []),
  (29, 1, .ireturn, [1])]
/-- SyntaxRules$RuleReader.readItem(I)Z -/
def c80 : List zE := [(0, 1, .iload_n 1, []),
  (1, 3, .invokestatic 97, [81, 1, 0]),
  (4, 1, .istore_n 2, []),
  (5, 1, .iload_n 2, []),
  (6, 1, .iconst (-1), []),
  (7, 3, .if_icmp .eq 28, []),
  (10, 1, .aload_n 0, []),
  (11, 3, .getfield 18, [4, 2, 2, 0, 103, 0]),
  (14, 3, .getfield 66, [3, 13, 0, 0, 0, 0]),
  (17, 1, .aload_n 0, []),
  (18, 3, .getfield 81, [4, 4, 0, 0, 0, 0]),
  (21, 1, .isub, []),
  (22, 2, .bipush 20, []),
  (24, 3, .if_icmp .eq 11, []),
  (27, 1, .aload_n 0, []),
  (28, 1, .iload_n 2, []),
  (29, 3, .invokevirtual 100, [82, 1, 0, 104]),
  (32, 3, .ifCond .ne 5, []),
  (35, 1, .iconst 0, []),
  (36, 1, .ireturn, [1]),
  (37, 1, .aload_n 0, []),
  (38, 1, .iload_n 2, []),
  (39, 3, .invokevirtual 103, [83, 1, 0, 104]),
  (42, 1, .istore_n 3, []),
  (43, 1, .iload_n 2, []),
  (44, 1, .iconst 3, []),
  (45, 3, .if_icmp .ne 29, []),
  (48, 1, .aload_n 0, []),
  (49, 1, .iload_n 3, []),
  (50, 1, .iload_n 1, []),
  (51, 3, .invokestatic 106, [33, 1, 0]),
  (54, 3, .invokevirtual 109, [85, 1, 0, 0, 104]),
  (57, 3, .ifCond .eq 15, []),
  (60, 1, .aload_n 0, []),
  (61, 1, .iload_n 3, []),
  (62, 3, .invokevirtual 87, [89, 1, 0, 104]),
  (65, 3, .ifCond .eq 7, []),
  (68, 1, .iconst 1, []),
  (69, 3, .goto 4, []),
  (72, 1, .iconst 0, []),
  (73, 1, .ireturn, [1]),
  (74, 1, .aload_n 0, []),
  (75, 1, .dup, []),
  (76, 3, .getfield 33, [4, 0, 0, 0, 0, 0]),
  (79, 1, .iconst 1, []),
  (80, 1, .iadd, []),
  (81, 3, .putfield 33, [4, 0, 0, 0, 0]),
  (84, 1, .iload_n 2, []),
  (85, 35, .tableswitch 105 1 5 #[35, 57, 105, 64, 35], []),
  (120, 1, .aload_n 0, []),
  (121, 1, .iload_n 3, []),
  (122, 3, .invokevirtual 113, [86, 1, 0, 104]),
  (125, 3, .ifCond .eq 15, []),
  (128, 1, .aload_n 0, []),
  (129, 1, .iload_n 3, []),
  (130, 3, .invokevirtual 87, [89, 1, 0, 104]),
  (133, 3, .ifCond .eq 7, []),
  (136, 1, .iconst 1, []),
  (137, 3, .goto 4, []),
  (140, 1, .iconst 0, []),
  (141, 1, .ireturn, [1]),
  (142, 1, .aload_n 0, []),
  (143, 1, .iload_n 3, []),
  (144, 3, .putfield 78, [4, 3, 0, 0, 0]),
  (147, 1, .iconst 1, []),
  (148, 1, .ireturn, [1]),
  (149, 1, .aload_n 0, []),
  (150, 1, .iload_n 3, []),
  (151, 3, .putfield 78, [4, 3, 0, 0, 0]),
  (154, 1, .aload_n 0, []),
  (155, 3, .invokevirtual 60, [78, 0, 104]),
  (158, 1, .aload_n 0, []),
  (159, 3, .getfield 32, [4, 1, 2, 0, 101, 0]),
  (162, 1, .aload_n 0, []),
  (163, 3, .getfield 33, [4, 0, 0, 0, 0, 0]),
  (166, 3, .invokevirtual 75, [44, 1, 0, 101]),
  (169, 3, .invokestatic 106, [33, 1, 0]),
  (172, 3, .ifCond .eq 16, []),
  (175, 1, .aload_n 0, []),
  (176, 1, .iload_n 3, []),
  (177, 1, .iconst 1, []),
  (178, 3, .invokevirtual 109, [85, 1, 0, 0, 104]),
  (181, 3, .ifCond .eq 7, []),
  (184, 1, .iconst 1, []),
  (185, 3, .goto 4, []),
  (188, 1, .iconst 0, []),
  (189, 1, .ireturn, [1]),
  (190, 1, .aload_n 0, []),
  (191, 1, .iload_n 3, []),
  (192, 3, .invokevirtual 87, [89, 1, 0, 104]),
  (195, 1, .ireturn, [1])]
/-- SyntaxRules$RuleReader.opOf(I)I -/
def c81 : List zE := [(0, 1, .iload_n 0, []),
  (1, 51, .lookupswitch 61 #[(40, 57), (42, 59), (63, 53), (94, 55), (95, 51)], []),
  (52, 1, .iconst 0, []),
  (53, 1, .ireturn, [0]),
  (54, 1, .iconst 1, []),
  (55, 1, .ireturn, [0]),
  (56, 1, .iconst 2, []),
  (57, 1, .ireturn, [0]),
  (58, 1, .iconst 4, []),
  (59, 1, .ireturn, [0]),
  (60, 1, .iconst 5, []),
  (61, 1, .ireturn, [0]),
  (62, 1, .iload_n 0, []),
  (63, 3, .invokestatic 106, [33, 1, 0]),
  (66, 3, .ifCond .ne 10, []),
  (69, 1, .iload_n 0, []),
  (70, 3, .invokestatic 116, [34, 1, 0]),
  (73, 3, .ifCond .eq 7, []),
  (76, 1, .iconst 3, []),
  (77, 3, .goto 4, []),
  (80, 1, .iconst (-1), []),
  (81, 1, .ireturn, [0])]
/-- SyntaxRules$RuleReader.mayStand(I)Z -/
def c82 : List zE := [(0, 1, .iload_n 1, []),
  (1, 35, .lookupswitch 96 #[(0, 35), (2, 48), (5, 68)], []),
  (36, 1, .aload_n 0, []),
  (37, 3, .getfield 49, [4, 5, 1, 0, 0, 0]),
  (40, 3, .ifCond .ne 7, []),
  (43, 1, .iconst 1, []),
  (44, 3, .goto 4, []),
  (47, 1, .iconst 0, []),
  (48, 1, .ireturn, [1]),
  (49, 1, .aload_n 0, []),
  (50, 3, .getfield 49, [4, 5, 1, 0, 0, 0]),
  (53, 3, .ifCond .ne 14, []),
  (56, 1, .aload_n 0, []),
  (57, 3, .getfield 40, [4, 7, 0, 0, 0, 0]),
  (60, 3, .ifCond .ne 7, []),
  (63, 1, .iconst 1, []),
  (64, 3, .goto 4, []),
  (67, 1, .iconst 0, []),
  (68, 1, .ireturn, [1]),
  (69, 1, .aload_n 0, []),
  (70, 3, .invokevirtual 84, [79, 1, 104]),
  (73, 3, .ifCond .eq 22, []),
  (76, 1, .aload_n 0, []),
  (77, 3, .getfield 49, [4, 5, 1, 0, 0, 0]),
  (80, 3, .ifCond .ne 11, []),
  (83, 1, .aload_n 0, []),
  (84, 3, .getfield 37, [4, 6, 0, 0, 0, 0]),
  (87, 1, .iconst 2, []),
  (88, 3, .if_icmp .ge 7, []),
  (91, 1, .iconst 1, []),
  (92, 3, .goto 4, []),
  (95, 1, .iconst 0, []),
  (96, 1, .ireturn, [1]),
  (97, 1, .iconst 1, []),
  (98, 1, .ireturn, [1])]
/-- SyntaxRules$RuleReader.addItem(I)I -/
def c83 : List zE := [(0, 1, .aload_n 0, []),
  (1, 3, .getfield 18, [4, 2, 2, 0, 103, 0]),
  (4, 3, .getfield 66, [3, 13, 0, 0, 0, 0]),
  (7, 1, .istore_n 2, []),
  (8, 1, .aload_n 0, []),
  (9, 3, .getfield 18, [4, 2, 2, 0, 103, 0]),
  (12, 1, .dup, []),
  (13, 3, .getfield 66, [3, 13, 0, 0, 0, 0]),
  (16, 1, .iconst 1, []),
  (17, 1, .iadd, []),
  (18, 3, .putfield 66, [3, 13, 0, 0, 0]),
  (21, 1, .aload_n 0, []),
  (22, 3, .getfield 18, [4, 2, 2, 0, 103, 0]),
  (25, 3, .getfield 94, [3, 1, 3, 3, 4140, 0]),
  (28, 1, .iload_n 2, []),
  (29, 1, .iload_n 1, []),
  (30, 1, .iastore, [40]),
  (31, 1, .aload_n 0, []),
  (32, 3, .getfield 18, [4, 2, 2, 0, 103, 0]),
  (35, 3, .getfield 119, [3, 2, 3, 4, 4140, 0]),
  (38, 1, .iload_n 2, []),
  (39, 1, .iconst (-1), []),
  (40, 1, .iastore, [40]),
  (41, 1, .aload_n 0, []),
  (42, 3, .getfield 18, [4, 2, 2, 0, 103, 0]),
  (45, 3, .getfield 122, [3, 3, 3, 5, 4140, 0]),
  (48, 1, .iload_n 2, []),
  (49, 1, .iconst (-1), []),
  (50, 1, .iastore, [40]),
  (51, 1, .aload_n 0, []),
  (52, 3, .getfield 18, [4, 2, 2, 0, 103, 0]),
  (55, 3, .getfield 125, [3, 4, 3, 6, 4140, 0]),
  (58, 1, .iload_n 2, []),
  (59, 1, .aload_n 0, []),
  (60, 3, .getfield 78, [4, 3, 0, 0, 0, 0]),
  (63, 1, .iastore, [40]),
  (64, 1, .aload_n 0, []),
  (65, 3, .getfield 18, [4, 2, 2, 0, 103, 0]),
  (68, 3, .getfield 128, [3, 5, 3, 7, 4140, 0]),
  (71, 1, .iload_n 2, []),
  (72, 1, .iconst (-1), []),
  (73, 1, .iastore, [40]),
  (74, 1, .aload_n 0, []),
  (75, 3, .getfield 49, [4, 5, 1, 0, 0, 0]),
  (78, 3, .ifCond .ne 41, []),
  (81, 1, .aload_n 0, []),
  (82, 1, .dup, []),
  (83, 3, .getfield 40, [4, 7, 0, 0, 0, 0]),
  (86, 1, .iload_n 1, []),
  (87, 1, .iconst 2, []),
  (88, 3, .if_icmp .ne 7, []),
  (91, 1, .iconst 1, []),
  (92, 3, .goto 4, []),
  (95, 1, .iconst 0, []),
  (96, 1, .iadd, []),
  (97, 3, .putfield 40, [4, 7, 0, 0, 0]),
  (100, 1, .aload_n 0, []),
  (101, 1, .dup, []),
  (102, 3, .getfield 37, [4, 6, 0, 0, 0, 0]),
  (105, 1, .iload_n 1, []),
  (106, 1, .iconst 5, []),
  (107, 3, .if_icmp .ne 7, []),
  (110, 1, .iconst 1, []),
  (111, 3, .goto 4, []),
  (114, 1, .iconst 0, []),
  (115, 1, .iadd, []),
  (116, 3, .putfield 37, [4, 6, 0, 0, 0]),
  (119, 1, .aload_n 0, []),
  (120, 3, .getfield 78, [4, 3, 0, 0, 0, 0]),
  (123, 1, .iconst (-1), []),
  (124, 3, .if_icmp .eq 8, []),
  (127, 1, .aload_n 0, []),
  (128, 1, .iload_n 2, []),
  (129, 3, .invokevirtual 131, [84, 0, 0, 104]),
  (132, 1, .iload_n 2, []),
  (133, 1, .ireturn, [0])]
/-- SyntaxRules$RuleReader.hangItem(I)V -/
def c84 : List zE := [(0, 1, .aload_n 0, []),
  (1, 3, .getfield 18, [4, 2, 2, 0, 103, 0]),
  (4, 3, .getfield 135, [3, 6, 3, 8, 4140, 0]),
  (7, 1, .iload_n 1, []),
  (8, 1, .aload_n 0, []),
  (9, 3, .getfield 18, [4, 2, 2, 0, 103, 0]),
  (12, 3, .getfield 138, [3, 7, 3, 9, 4140, 0]),
  (15, 1, .aload_n 0, []),
  (16, 3, .getfield 78, [4, 3, 0, 0, 0, 0]),
  (19, 1, .iaload, [40]),
  (20, 1, .iastore, [40]),
  (21, 1, .aload_n 0, []),
  (22, 3, .getfield 18, [4, 2, 2, 0, 103, 0]),
  (25, 3, .getfield 128, [3, 5, 3, 7, 4140, 0]),
  (28, 1, .iload_n 1, []),
  (29, 1, .aload_n 0, []),
  (30, 3, .getfield 18, [4, 2, 2, 0, 103, 0]),
  (33, 3, .getfield 138, [3, 7, 3, 9, 4140, 0]),
  (36, 1, .aload_n 0, []),
  (37, 3, .getfield 78, [4, 3, 0, 0, 0, 0]),
  (40, 1, .iaload, [40]),
  (41, 3, .ifCond .ne 7, []),
  (44, 1, .iconst (-1), []),
  (45, 3, .goto 12, []),
  (48, 1, .aload_n 0, []),
  (49, 3, .getfield 9, [4, 10, 3, 1, 4140, 0]),
  (52, 1, .aload_n 0, []),
  (53, 3, .getfield 78, [4, 3, 0, 0, 0, 0]),
  (56, 1, .iaload, [40]),
  (57, 1, .iastore, [40]),
  (58, 1, .aload_n 0, []),
  (59, 3, .getfield 9, [4, 10, 3, 1, 4140, 0]),
  (62, 1, .aload_n 0, []),
  (63, 3, .getfield 78, [4, 3, 0, 0, 0, 0]),
  (66, 1, .iload_n 1, []),
  (67, 1, .iastore, [40]),
  (68, 1, .aload_n 0, []),
  (69, 3, .getfield 18, [4, 2, 2, 0, 103, 0]),
  (72, 3, .getfield 138, [3, 7, 3, 9, 4140, 0]),
  (75, 1, .aload_n 0, []),
  (76, 3, .getfield 78, [4, 3, 0, 0, 0, 0]),
  (79, 1, .dup2, []),
  (80, 1, .iaload, [40]),
  (81, 1, .iconst 1, []),
  (82, 1, .iadd, []),
  (83, 1, .iastore, [40]),
  (84, 1, .aload_n 0, []),
  (85, 3, .getfield 18, [4, 2, 2, 0, 103, 0]),
  (88, 3, .getfield 141, [3, 8, 3, 10, 4140, 0]),
  (91, 1, .aload_n 0, []),
  (92, 3, .getfield 78, [4, 3, 0, 0, 0, 0]),
  (95, 1, .dup2, []),
  (96, 1, .iaload, [40]),
  (97, 1, .aload_n 0, []),
  (98, 3, .getfield 18, [4, 2, 2, 0, 103, 0]),
  (101, 3, .getfield 94, [3, 1, 3, 3, 4140, 0]),
  (104, 1, .iload_n 1, []),
  (105, 1, .iaload, [40]),
  (106, 1, .iconst 5, []),
  (107, 3, .if_icmp .ne 7, []),
  (110, 1, .iconst 1, []),
  (111, 3, .goto 4, []),
  (114, 1, .iconst 0, []),
  (115, 1, .iadd, []),
  (116, 1, .iastore, [40]),
  (117, 1, .aload_n 0, []),
  (118, 3, .getfield 18, [4, 2, 2, 0, 103, 0]),
  (121, 3, .getfield 144, [3, 9, 3, 11, 4140, 0]),
  (124, 1, .iload_n 1, []),
  (125, 1, .aload_n 0, []),
  (126, 3, .getfield 18, [4, 2, 2, 0, 103, 0]),
  (129, 3, .getfield 141, [3, 8, 3, 10, 4140, 0]),
  (132, 1, .aload_n 0, []),
  (133, 3, .getfield 78, [4, 3, 0, 0, 0, 0]),
  (136, 1, .iaload, [40]),
  (137, 1, .iastore, [40]),
  (138, 1, .return_, [])]
/-- SyntaxRules$RuleReader.readWord(IZ)Z -/
def c85 : List zE := [(0, 1, .iload_n 2, []),
  (1, 3, .ifCond .eq 8, []),
  (4, 2, .bipush 8, []),
  (6, 3, .goto 4, []),
  (9, 1, .iconst 4, []),
  (10, 1, .istore_n 3, []),
  (11, 1, .aload_n 0, []),
  (12, 3, .getfield 32, [4, 1, 2, 0, 101, 0]),
  (15, 1, .aload_n 0, []),
  (16, 3, .getfield 33, [4, 0, 0, 0, 0, 0]),
  (19, 1, .iload_n 2, []),
  (20, 1, .iload_n 3, []),
  (21, 3, .invokevirtual 147, [48, 1, 0, 0, 0, 101]),
  (24, 2, .istore 4, []),
  (26, 2, .iload 4, []),
  (28, 1, .iload_n 3, []),
  (29, 3, .if_icmp .le 15, []),
  (32, 1, .aload_n 0, []),
  (33, 1, .dup, []),
  (34, 3, .getfield 33, [4, 0, 0, 0, 0, 0]),
  (37, 1, .iload_n 3, []),
  (38, 1, .iadd, []),
  (39, 3, .putfield 33, [4, 0, 0, 0, 0]),
  (42, 1, .iconst 0, []),
  (43, 1, .ireturn, [1]),
  (44, 1, .aload_n 0, []),
  (45, 3, .getfield 18, [4, 2, 2, 0, 103, 0]),
  (48, 3, .getfield 151, [3, 11, 3, 13, 4140, 0]),
  (51, 1, .iload_n 1, []),
  (52, 1, .aload_n 0, []),
  (53, 3, .getfield 33, [4, 0, 0, 0, 0, 0]),
  (56, 1, .iastore, [40]),
  (57, 1, .aload_n 0, []),
  (58, 3, .getfield 18, [4, 2, 2, 0, 103, 0]),
  (61, 3, .getfield 154, [3, 12, 3, 14, 4140, 0]),
  (64, 1, .iload_n 1, []),
  (65, 2, .iload 4, []),
  (67, 1, .iastore, [40]),
  (68, 1, .aload_n 0, []),
  (69, 1, .dup, []),
  (70, 3, .getfield 33, [4, 0, 0, 0, 0, 0]),
  (73, 2, .iload 4, []),
  (75, 1, .iadd, []),
  (76, 3, .putfield 33, [4, 0, 0, 0, 0]),
  (79, 1, .iconst 1, []),
  (80, 1, .ireturn, [1])]
/-- SyntaxRules$RuleReader.readHole(I)Z -/
def c86 : List zE := [(0, 1, .aload_n 0, []),
  (1, 3, .getfield 32, [4, 1, 2, 0, 101, 0]),
  (4, 1, .aload_n 0, []),
  (5, 3, .getfield 33, [4, 0, 0, 0, 0, 0]),
  (8, 3, .invokevirtual 75, [44, 1, 0, 101]),
  (11, 2, .bipush 65, []),
  (13, 1, .isub, []),
  (14, 1, .istore_n 2, []),
  (15, 1, .aload_n 0, []),
  (16, 3, .getfield 18, [4, 2, 2, 0, 103, 0]),
  (19, 3, .getfield 94, [3, 1, 3, 3, 4140, 0]),
  (22, 1, .iload_n 1, []),
  (23, 1, .iaload, [40]),
  (24, 1, .iconst 5, []),
  (25, 3, .if_icmp .ne 7, []),
  (28, 1, .iconst 1, []),
  (29, 3, .goto 4, []),
  (32, 1, .iconst 0, []),
  (33, 1, .istore_n 3, []),
  (34, 1, .iload_n 2, []),
  (35, 3, .ifCond .lt 20, []),
  (38, 1, .iload_n 2, []),
  (39, 2, .bipush 26, []),
  (41, 3, .if_icmp .ge 14, []),
  (44, 1, .aload_n 0, []),
  (45, 1, .iconst 1, []),
  (46, 1, .iload_n 2, []),
  (47, 1, .ishl, []),
  (48, 1, .iload_n 3, []),
  (49, 3, .invokevirtual 157, [87, 1, 0, 0, 104]),
  (52, 3, .ifCond .ne 5, []),
  (55, 1, .iconst 0, []),
  (56, 1, .ireturn, [1]),
  (57, 1, .aload_n 0, []),
  (58, 1, .dup, []),
  (59, 3, .getfield 33, [4, 0, 0, 0, 0, 0]),
  (62, 1, .iconst 1, []),
  (63, 1, .iadd, []),
  (64, 3, .putfield 33, [4, 0, 0, 0, 0]),
  (67, 1, .aload_n 0, []),
  (68, 3, .getfield 18, [4, 2, 2, 0, 103, 0]),
  (71, 3, .getfield 119, [3, 2, 3, 4, 4140, 0]),
  (74, 1, .iload_n 1, []),
  (75, 1, .iload_n 2, []),
  (76, 1, .iastore, [40]),
  (77, 1, .iload_n 3, []),
  (78, 3, .ifCond .ne 34, []),
  (81, 1, .aload_n 0, []),
  (82, 3, .getfield 49, [4, 5, 1, 0, 0, 0]),
  (85, 3, .ifCond .ne 27, []),
  (88, 1, .aload_n 0, []),
  (89, 3, .getfield 32, [4, 1, 2, 0, 101, 0]),
  (92, 1, .aload_n 0, []),
  (93, 3, .getfield 33, [4, 0, 0, 0, 0, 0]),
  (96, 3, .invokevirtual 75, [44, 1, 0, 101]),
  (99, 2, .bipush 58, []),
  (101, 3, .if_icmp .ne 11, []),
  (104, 1, .aload_n 0, []),
  (105, 1, .iload_n 1, []),
  (106, 3, .invokevirtual 160, [88, 1, 0, 104]),
  (109, 3, .ifCond .eq 7, []),
  (112, 1, .iconst 1, []),
  (113, 3, .goto 4, []),
  (116, 1, .iconst 0, []),
  (117, 1, .ireturn, [1])]
/-- SyntaxRules$RuleReader.mayBear(IZ)Z -/
def c87 : List zE := [(0, 1, .iload_n 2, []),
  (1, 3, .ifCond .eq 10, []),
  (4, 1, .aload_n 0, []),
  (5, 3, .getfield 43, [4, 8, 0, 0, 0, 0]),
  (8, 3, .goto 7, []),
  (11, 1, .aload_n 0, []),
  (12, 3, .getfield 46, [4, 9, 0, 0, 0, 0]),
  (15, 1, .istore_n 3, []),
  (16, 1, .iload_n 2, []),
  (17, 3, .ifCond .eq 10, []),
  (20, 1, .aload_n 0, []),
  (21, 3, .getfield 46, [4, 9, 0, 0, 0, 0]),
  (24, 3, .goto 7, []),
  (27, 1, .aload_n 0, []),
  (28, 3, .getfield 43, [4, 8, 0, 0, 0, 0]),
  (31, 2, .istore 4, []),
  (33, 1, .iload_n 3, []),
  (34, 1, .iload_n 1, []),
  (35, 1, .iand, []),
  (36, 3, .ifCond .ne 17, []),
  (39, 1, .aload_n 0, []),
  (40, 3, .getfield 49, [4, 5, 1, 0, 0, 0]),
  (43, 3, .ifCond .eq 12, []),
  (46, 2, .iload 4, []),
  (48, 1, .iload_n 1, []),
  (49, 1, .iand, []),
  (50, 3, .ifCond .ne 5, []),
  (53, 1, .iconst 0, []),
  (54, 1, .ireturn, [1]),
  (55, 1, .iload_n 2, []),
  (56, 3, .ifCond .eq 16, []),
  (59, 1, .aload_n 0, []),
  (60, 1, .dup, []),
  (61, 3, .getfield 46, [4, 9, 0, 0, 0, 0]),
  (64, 1, .iload_n 1, []),
  (65, 1, .ior, []),
  (66, 3, .putfield 46, [4, 9, 0, 0, 0]),
  (69, 3, .goto 13, []),
  (72, 1, .aload_n 0, []),
  (73, 1, .dup, []),
  (74, 3, .getfield 43, [4, 8, 0, 0, 0, 0]),
  (77, 1, .iload_n 1, []),
  (78, 1, .ior, []),
  (79, 3, .putfield 43, [4, 8, 0, 0, 0]),
  (82, 1, .iconst 1, []),
  (83, 1, .ireturn, [1])]
/-- SyntaxRules$RuleReader.readKind(I)Z -/
def c88 : List zE := [(0, 1, .aload_n 0, []),
  (1, 1, .dup, []),
  (2, 3, .getfield 33, [4, 0, 0, 0, 0, 0]),
  (5, 1, .iconst 1, []),
  (6, 1, .iadd, []),
  (7, 3, .putfield 33, [4, 0, 0, 0, 0]),
  (10, 1, .aload_n 0, []),
  (11, 3, .getfield 32, [4, 1, 2, 0, 101, 0]),
  (14, 1, .aload_n 0, []),
  (15, 3, .getfield 33, [4, 0, 0, 0, 0, 0]),
  (18, 3, .invokevirtual 75, [44, 1, 0, 101]),
  (21, 35, .lookupswitch 74 #[(99, 61), (110, 35), (119, 48)], []),
  (56, 1, .aload_n 0, []),
  (57, 3, .getfield 18, [4, 2, 2, 0, 103, 0]),
  (60, 3, .getfield 122, [3, 3, 3, 5, 4140, 0]),
  (63, 1, .iload_n 1, []),
  (64, 1, .iconst 0, []),
  (65, 1, .iastore, [40]),
  (66, 3, .goto 31, []),
  (69, 1, .aload_n 0, []),
  (70, 3, .getfield 18, [4, 2, 2, 0, 103, 0]),
  (73, 3, .getfield 122, [3, 3, 3, 5, 4140, 0]),
  (76, 1, .iload_n 1, []),
  (77, 1, .iconst 1, []),
  (78, 1, .iastore, [40]),
  (79, 3, .goto 18, []),
  (82, 1, .aload_n 0, []),
  (83, 3, .getfield 18, [4, 2, 2, 0, 103, 0]),
  (86, 3, .getfield 122, [3, 3, 3, 5, 4140, 0]),
  (89, 1, .iload_n 1, []),
  (90, 1, .iconst 2, []),
  (91, 1, .iastore, [40]),
  (92, 3, .goto 5, []),
  (95, 1, .iconst 0, []),
  (96, 1, .ireturn, [1]),
  (97, 1, .aload_n 0, []),
  (98, 1, .dup, []),
  (99, 3, .getfield 33, [4, 0, 0, 0, 0, 0]),
  (102, 1, .iconst 1, []),
  (103, 1, .iadd, []),
  (104, 3, .putfield 33, [4, 0, 0, 0, 0]),
  (107, 1, .iconst 1, []),
  (108, 1, .ireturn, [1])]
/-- SyntaxRules$RuleReader.finishItem(I)Z -/
def c89 : List zE := [(0, 1, .aload_n 0, []),
  (1, 3, .getfield 18, [4, 2, 2, 0, 103, 0]),
  (4, 3, .getfield 163, [3, 10, 3, 12, 4140, 0]),
  (7, 1, .iload_n 1, []),
  (8, 1, .aload_n 0, []),
  (9, 3, .getfield 18, [4, 2, 2, 0, 103, 0]),
  (12, 3, .getfield 66, [3, 13, 0, 0, 0, 0]),
  (15, 1, .iload_n 1, []),
  (16, 1, .isub, []),
  (17, 1, .iastore, [40]),
  (18, 1, .aload_n 0, []),
  (19, 1, .aload_n 0, []),
  (20, 3, .getfield 18, [4, 2, 2, 0, 103, 0]),
  (23, 3, .getfield 125, [3, 4, 3, 6, 4140, 0]),
  (26, 1, .iload_n 1, []),
  (27, 1, .iaload, [40]),
  (28, 3, .putfield 78, [4, 3, 0, 0, 0]),
  (31, 1, .aload_n 0, []),
  (32, 3, .getfield 78, [4, 3, 0, 0, 0, 0]),
  (35, 1, .iconst (-1), []),
  (36, 3, .if_icmp .eq 59, []),
  (39, 1, .aload_n 0, []),
  (40, 3, .getfield 18, [4, 2, 2, 0, 103, 0]),
  (43, 3, .getfield 94, [3, 1, 3, 3, 4140, 0]),
  (46, 1, .aload_n 0, []),
  (47, 3, .getfield 78, [4, 3, 0, 0, 0, 0]),
  (50, 1, .iaload, [40]),
  (51, 1, .iconst 2, []),
  (52, 3, .if_icmp .ne 43, []),
  (55, 1, .aload_n 0, []),
  (56, 3, .getfield 18, [4, 2, 2, 0, 103, 0]),
  (59, 3, .getfield 163, [3, 10, 3, 12, 4140, 0]),
  (62, 1, .aload_n 0, []),
  (63, 3, .getfield 78, [4, 3, 0, 0, 0, 0]),
  (66, 1, .aload_n 0, []),
  (67, 3, .getfield 18, [4, 2, 2, 0, 103, 0]),
  (70, 3, .getfield 66, [3, 13, 0, 0, 0, 0]),
  (73, 1, .aload_n 0, []),
  (74, 3, .getfield 78, [4, 3, 0, 0, 0, 0]),
  (77, 1, .isub, []),
  (78, 1, .iastore, [40]),
  (79, 1, .aload_n 0, []),
  (80, 1, .aload_n 0, []),
  (81, 3, .getfield 18, [4, 2, 2, 0, 103, 0]),
  (84, 3, .getfield 125, [3, 4, 3, 6, 4140, 0]),
  (87, 1, .aload_n 0, []),
  (88, 3, .getfield 78, [4, 3, 0, 0, 0, 0]),
  (91, 1, .iaload, [40]),
  (92, 3, .putfield 78, [4, 3, 0, 0, 0]),
  (95, 1, .iconst 1, []),
  (96, 1, .ireturn, [1])]
/-- SyntaxRules$Fitting.<init>()V -/
def c90 : List zE := [(0, 1, .aload_n 0, []),
  (1, 3, .invokespecial 3, [9999, 0, 0]),
  (4, 1, .aload_n 0, []),
  (5, 2, .bipush 20, []),
  (7, 2, .newarray .int, [40]),
  (9, 3, .putfield 9, [5, 0, 3, 1, 0]),
  (12, 1, .aload_n 0, []),
  (13, 2, .bipush 20, []),
  (15, 2, .newarray .int, [40]),
  (17, 3, .putfield 15, [5, 1, 3, 1, 0]),
  (20, 1, .aload_n 0, []),
  (21, 2, .bipush 20, []),
  (23, 2, .newarray .int, [40]),
  (25, 3, .putfield 18, [5, 2, 3, 1, 0]),
  (28, 1, .aload_n 0, []),
  (29, 2, .bipush 20, []),
  (31, 2, .newarray .int, [40]),
  (33, 3, .putfield 21, [5, 3, 3, 1, 0]),
  (36, 1, .aload_n 0, []),
  (37, 2, .bipush 20, []),
  (39, 2, .newarray .int, [40]),
  (41, 3, .putfield 24, [5, 4, 3, 1, 0]),
  (44, 1, .aload_n 0, []),
  (45, 1, .iconst 3, []),
  (46, 2, .newarray .int, [40]),
  (48, 3, .putfield 27, [5, 5, 3, 1, 1]),
  (51, 1, .return_, [])]
/-- SyntaxRules$Fitting.fits(LSyntaxRules$Source;LSyntaxRules$Rule;I)Z -/
def c91 : List zE := [(0, 1, .aload_n 0, []),
  (1, 1, .aload_n 1, []),
  (2, 1, .aload_n 2, []),
  (3, 1, .iconst 0, []),
  (4, 1, .iload_n 3, []),
  (5, 1, .iconst 1, []),
  (6, 3, .invokevirtual 30, [94, 1, 0, 0, 0, 103, 102, 105]),
  (9, 3, .ifCond .le 7, []),
  (12, 1, .iconst 1, []),
  (13, 3, .goto 4, []),
  (16, 1, .iconst 0, []),
  (17, 1, .ireturn, [1])]
/-- SyntaxRules$Fitting.fittingRules(LSyntaxRules$Source;[LSyntaxRules$Rule;I)I -/
def c92 : List zE := [(0, 1, .iconst 0, []),
  (1, 2, .istore 4, []),
  (3, 1, .iconst 0, []),
  (4, 2, .istore 5, []),
  (6, 2, .iload 5, []),
  (8, 2, .bipush 8, []),
  (10, 3, .if_icmp .ge 40, []),
  (13, 1, .aload_n 2, []),
  (14, 2, .iload 5, []),
  (16, 1, .aaload, [44, 0]),
  (17, 3, .ifnull 27, []),
  (20, 1, .aload_n 0, []),
  (21, 1, .aload_n 1, []),
  (22, 1, .aload_n 2, []),
  (23, 2, .iload 5, []),
  (25, 1, .aaload, [44, 0]),
  (26, 1, .iconst 0, []),
  (27, 1, .iload_n 3, []),
  (28, 1, .iconst 1, []),
  (29, 3, .invokevirtual 30, [94, 1, 0, 0, 0, 103, 102, 105]),
  (32, 3, .ifCond .le 12, []),
  (35, 2, .iload 4, []),
  (37, 1, .iconst 1, []),
  (38, 2, .iload 5, []),
  (40, 1, .ishl, []),
  (41, 1, .ior, []),
  (42, 2, .istore 4, []),
  (44, 3, .iinc 5 1, []),
  (47, 3, .goto (-41), []),
  (50, 2, .iload 4, []),
  (52, 1, .ireturn, [0])]
/-- SyntaxRules$Fitting.firstHeld(I)I -/
def c93 : List zE := [(0, 1, .aload_n 0, []),
  (1, 3, .getfield 18, [5, 2, 3, 3, 2140, 0]),
  (4, 1, .iload_n 1, []),
  (5, 1, .iaload, [40]),
  (6, 3, .ifCond .ne 7, []),
  (9, 1, .iconst (-1), []),
  (10, 3, .goto 9, []),
  (13, 1, .aload_n 0, []),
  (14, 3, .getfield 9, [5, 0, 3, 1, 2140, 0]),
  (17, 1, .iload_n 1, []),
  (18, 1, .iaload, [40]),
  (19, 1, .ireturn, [0])]
/-- SyntaxRules$Fitting.search(LSyntaxRules$Source;LSyntaxRules$Rule;III)I -/
def c94 : List zE := [(0, 1, .aload_n 0, []),
  (1, 1, .aload_n 1, []),
  (2, 3, .putfield 34, [5, 7, 2, 0, 0]),
  (5, 1, .aload_n 0, []),
  (6, 1, .aload_n 2, []),
  (7, 3, .putfield 38, [5, 8, 2, 0, 0]),
  (10, 1, .aload_n 0, []),
  (11, 1, .iload_n 3, []),
  (12, 3, .putfield 42, [5, 9, 0, 0, 0]),
  (15, 1, .aload_n 0, []),
  (16, 1, .iconst 0, []),
  (17, 3, .putfield 46, [5, 6, 0, 0, 0]),
  (20, 1, .aload_n 0, []),
  (21, 3, .getfield 42, [5, 9, 0, 0, 0, 0]),
  (24, 1, .aload_n 0, []),
  (25, 3, .getfield 38, [5, 8, 2, 0, 103, 0]),
  (28, 3, .getfield 49, [3, 10, 3, 12, 4140, 0]),
  (31, 1, .aload_n 0, []),
  (32, 3, .getfield 42, [5, 9, 0, 0, 0, 0]),
  (35, 1, .iaload, [40]),
  (36, 1, .iadd, []),
  (37, 2, .istore 6, []),
  (39, 1, .iconst 0, []),
  (40, 2, .istore 7, []),
  (42, 1, .aload_n 0, []),
  (43, 3, .getfield 42, [5, 9, 0, 0, 0, 0]),
  (46, 2, .istore 8, []),
  (48, 1, .iconst 1, []),
  (49, 2, .istore 9, []),
  (51, 1, .iconst 0, []),
  (52, 2, .istore 10, []),
  (54, 2, .iload 10, []),
  (56, 2, .ldc 54, [1000000]),
  (58, 3, .if_icmp .ge 113, []),
  (61, 2, .iload 8, []),
  (63, 1, .iconst (-1), []),
  (64, 3, .if_icmp .eq 107, []),
  (67, 2, .iload 9, []),
  (69, 3, .ifCond .eq 14, []),
  (72, 1, .aload_n 0, []),
  (73, 2, .iload 8, []),
  (75, 2, .iload 4, []),
  (77, 3, .invokevirtual 55, [98, 1, 0, 0, 105]),
  (80, 3, .ifCond .eq 16, []),
  (83, 1, .aload_n 0, []),
  (84, 2, .iload 8, []),
  (86, 3, .invokevirtual 59, [103, 1, 0, 105]),
  (89, 3, .ifCond .eq 7, []),
  (92, 1, .iconst 1, []),
  (93, 3, .goto 4, []),
  (96, 1, .iconst 0, []),
  (97, 2, .istore 11, []),
  (99, 2, .iload 11, []),
  (101, 3, .ifCond .eq 25, []),
  (104, 2, .iload 8, []),
  (106, 1, .iconst 1, []),
  (107, 1, .iadd, []),
  (108, 2, .iload 6, []),
  (110, 3, .if_icmp .ne 16, []),
  (113, 3, .iinc 7 1, []),
  (116, 2, .iload 7, []),
  (118, 2, .iload 5, []),
  (120, 3, .if_icmp .lt 6, []),
  (123, 2, .iload 7, []),
  (125, 1, .ireturn, [0]),
  (126, 2, .iload 11, []),
  (128, 3, .ifCond .eq 16, []),
  (131, 2, .iload 8, []),
  (133, 1, .iconst 1, []),
  (134, 1, .iadd, []),
  (135, 2, .iload 6, []),
  (137, 3, .if_icmp .ge 7, []),
  (140, 1, .iconst 1, []),
  (141, 3, .goto 4, []),
  (144, 1, .iconst 0, []),
  (145, 2, .istore 9, []),
  (147, 2, .iload 9, []),
  (149, 3, .ifCond .eq 10, []),
  (152, 2, .iload 8, []),
  (154, 1, .iconst 1, []),
  (155, 1, .iadd, []),
  (156, 3, .goto 7, []),
  (159, 1, .aload_n 0, []),
  (160, 3, .invokevirtual 63, [95, 1, 105]),
  (163, 2, .istore 8, []),
  (165, 3, .iinc 10 1, []),
  (168, 3, .goto (-114), []),
  (171, 2, .iload 7, []),
  (173, 1, .ireturn, [0])]
/-- SyntaxRules$Fitting.nextChoice()I -/
def c95 : List zE := [(0, 1, .aload_n 0, []),
  (1, 3, .getfield 46, [5, 6, 0, 0, 0, 0]),
  (4, 1, .iconst 1, []),
  (5, 1, .isub, []),
  (6, 1, .istore_n 1, []),
  (7, 1, .iload_n 1, []),
  (8, 3, .ifCond .lt 34, []),
  (11, 1, .aload_n 0, []),
  (12, 1, .aload_n 0, []),
  (13, 3, .getfield 27, [5, 5, 3, 6, 440, 0]),
  (16, 1, .iload_n 1, []),
  (17, 1, .iaload, [40]),
  (18, 3, .invokevirtual 67, [96, 1, 0, 105]),
  (21, 3, .ifCond .eq 10, []),
  (24, 1, .aload_n 0, []),
  (25, 3, .getfield 27, [5, 5, 3, 6, 440, 0]),
  (28, 1, .iload_n 1, []),
  (29, 1, .iaload, [40]),
  (30, 1, .ireturn, [0]),
  (31, 1, .aload_n 0, []),
  (32, 1, .iload_n 1, []),
  (33, 3, .putfield 46, [5, 6, 0, 0, 0]),
  (36, 3, .iinc 1 (-1), []),
  (39, 3, .goto (-32), []),
  (42, 1, .iconst (-1), []),
  (43, 1, .ireturn, [0])]
/-- SyntaxRules$Fitting.choosesMore(I)Z -/
def c96 : List zE := [(0, 1, .aload_n 0, []),
  (1, 3, .getfield 38, [5, 8, 2, 0, 103, 0]),
  (4, 3, .getfield 70, [3, 1, 3, 3, 4140, 0]),
  (7, 1, .iload_n 1, []),
  (8, 1, .iaload, [40]),
  (9, 1, .iconst 2, []),
  (10, 3, .if_icmp .ne 34, []),
  (13, 1, .aload_n 0, []),
  (14, 3, .getfield 9, [5, 0, 3, 1, 2140, 0]),
  (17, 1, .iload_n 1, []),
  (18, 1, .dup2, []),
  (19, 1, .iaload, [40]),
  (20, 1, .iconst 1, []),
  (21, 1, .iadd, []),
  (22, 1, .iastore, [40]),
  (23, 1, .aload_n 0, []),
  (24, 3, .getfield 9, [5, 0, 3, 1, 2140, 0]),
  (27, 1, .iload_n 1, []),
  (28, 1, .iaload, [40]),
  (29, 1, .aload_n 0, []),
  (30, 3, .getfield 21, [5, 3, 3, 4, 2140, 0]),
  (33, 1, .iload_n 1, []),
  (34, 1, .iaload, [40]),
  (35, 3, .if_icmp .ge 7, []),
  (38, 1, .iconst 1, []),
  (39, 3, .goto 4, []),
  (42, 1, .iconst 0, []),
  (43, 1, .ireturn, [1]),
  (44, 1, .aload_n 0, []),
  (45, 3, .getfield 24, [5, 4, 3, 5, 2140, 0]),
  (48, 1, .iload_n 1, []),
  (49, 1, .iaload, [40]),
  (50, 1, .aload_n 0, []),
  (51, 3, .getfield 38, [5, 8, 2, 0, 103, 0]),
  (54, 1, .iload_n 1, []),
  (55, 3, .invokevirtual 73, [70, 1, 0, 103]),
  (58, 3, .if_icmp .gt 5, []),
  (61, 1, .iconst 0, []),
  (62, 1, .ireturn, [1]),
  (63, 1, .aload_n 0, []),
  (64, 1, .iload_n 1, []),
  (65, 3, .invokevirtual 77, [102, 0, 0, 105]),
  (68, 1, .iconst 1, []),
  (69, 1, .ireturn, [1])]
/-- SyntaxRules$Fitting.reach(II)V -/
def c97 : List zE := [(0, 1, .iload_n 1, []),
  (1, 1, .aload_n 0, []),
  (2, 3, .getfield 42, [5, 9, 0, 0, 0, 0]),
  (5, 3, .if_icmp .ne 7, []),
  (8, 1, .iconst (-1), []),
  (9, 3, .goto 12, []),
  (12, 1, .aload_n 0, []),
  (13, 3, .getfield 38, [5, 8, 2, 0, 103, 0]),
  (16, 3, .getfield 81, [3, 4, 3, 6, 4140, 0]),
  (19, 1, .iload_n 1, []),
  (20, 1, .iaload, [40]),
  (21, 1, .istore_n 3, []),
  (22, 1, .iload_n 3, []),
  (23, 1, .iconst (-1), []),
  (24, 3, .if_icmp .ne 14, []),
  (27, 1, .aload_n 0, []),
  (28, 1, .iload_n 2, []),
  (29, 3, .putfield 84, [5, 10, 0, 0, 0]),
  (32, 1, .aload_n 0, []),
  (33, 1, .iconst 1, []),
  (34, 3, .putfield 87, [5, 11, 0, 0, 0]),
  (37, 1, .return_, []),
  (38, 1, .aload_n 0, []),
  (39, 3, .getfield 38, [5, 8, 2, 0, 103, 0]),
  (42, 3, .getfield 90, [3, 5, 3, 7, 4140, 0]),
  (45, 1, .iload_n 1, []),
  (46, 1, .iaload, [40]),
  (47, 2, .istore 4, []),
  (49, 1, .aload_n 0, []),
  (50, 3, .getfield 38, [5, 8, 2, 0, 103, 0]),
  (53, 3, .getfield 70, [3, 1, 3, 3, 4140, 0]),
  (56, 1, .iload_n 3, []),
  (57, 1, .iaload, [40]),
  (58, 1, .iconst 2, []),
  (59, 3, .if_icmp .ne 21, []),
  (62, 1, .aload_n 0, []),
  (63, 1, .aload_n 0, []),
  (64, 3, .getfield 9, [5, 0, 3, 1, 2140, 0]),
  (67, 1, .iload_n 3, []),
  (68, 1, .iaload, [40]),
  (69, 3, .putfield 84, [5, 10, 0, 0, 0]),
  (72, 1, .aload_n 0, []),
  (73, 1, .iconst 1, []),
  (74, 3, .putfield 87, [5, 11, 0, 0, 0]),
  (77, 3, .goto 64, []),
  (80, 2, .iload 4, []),
  (82, 1, .iconst (-1), []),
  (83, 3, .if_icmp .ne 36, []),
  (86, 1, .aload_n 0, []),
  (87, 1, .aload_n 0, []),
  (88, 3, .getfield 9, [5, 0, 3, 1, 2140, 0]),
  (91, 1, .iload_n 3, []),
  (92, 1, .iaload, [40]),
  (93, 1, .iconst 1, []),
  (94, 1, .iadd, []),
  (95, 3, .putfield 84, [5, 10, 0, 0, 0]),
  (98, 1, .aload_n 0, []),
  (99, 1, .aload_n 0, []),
  (100, 3, .getfield 34, [5, 7, 2, 0, 102, 0]),
  (103, 3, .getfield 93, [2, 4, 3, 6, 6140, 0]),
  (106, 1, .aload_n 0, []),
  (107, 3, .getfield 9, [5, 0, 3, 1, 2140, 0]),
  (110, 1, .iload_n 3, []),
  (111, 1, .iaload, [40]),
  (112, 1, .iaload, [40]),
  (113, 3, .putfield 87, [5, 11, 0, 0, 0]),
  (116, 3, .goto 25, []),
  (119, 1, .aload_n 0, []),
  (120, 1, .aload_n 0, []),
  (121, 3, .getfield 21, [5, 3, 3, 4, 2140, 0]),
  (124, 2, .iload 4, []),
  (126, 1, .iaload, [40]),
  (127, 3, .putfield 84, [5, 10, 0, 0, 0]),
  (130, 1, .aload_n 0, []),
  (131, 1, .aload_n 0, []),
  (132, 3, .getfield 24, [5, 4, 3, 5, 2140, 0]),
  (135, 2, .iload 4, []),
  (137, 1, .iaload, [40]),
  (138, 3, .putfield 87, [5, 11, 0, 0, 0]),
  (141, 1, .return_, [])]
/-- SyntaxRules$Fitting.enter(II)Z -/
def c98 : List zE := [(0, 1, .aload_n 0, []),
  (1, 1, .iload_n 1, []),
  (2, 1, .iload_n 2, []),
  (3, 3, .invokevirtual 98, [97, 0, 0, 0, 105]),
  (6, 1, .aload_n 0, []),
  (7, 3, .getfield 38, [5, 8, 2, 0, 103, 0]),
  (10, 3, .getfield 70, [3, 1, 3, 3, 4140, 0]),
  (13, 1, .iload_n 1, []),
  (14, 1, .iaload, [40]),
  (15, 1, .iconst 5, []),
  (16, 3, .if_icmp .ne 9, []),
  (19, 1, .aload_n 0, []),
  (20, 1, .iload_n 1, []),
  (21, 3, .invokevirtual 102, [101, 1, 0, 105]),
  (24, 1, .ireturn, [1]),
  (25, 1, .aload_n 0, []),
  (26, 3, .getfield 87, [5, 11, 0, 0, 0, 0]),
  (29, 1, .iconst 1, []),
  (30, 3, .if_icmp .ge 5, []),
  (33, 1, .iconst 0, []),
  (34, 1, .ireturn, [1]),
  (35, 1, .aload_n 0, []),
  (36, 3, .getfield 9, [5, 0, 3, 1, 2140, 0]),
  (39, 1, .iload_n 1, []),
  (40, 1, .aload_n 0, []),
  (41, 3, .getfield 84, [5, 10, 0, 0, 0, 0]),
  (44, 1, .iastore, [40]),
  (45, 1, .aload_n 0, []),
  (46, 3, .getfield 15, [5, 1, 3, 2, 2140, 0]),
  (49, 1, .iload_n 1, []),
  (50, 1, .aload_n 0, []),
  (51, 3, .getfield 84, [5, 10, 0, 0, 0, 0]),
  (54, 1, .iastore, [40]),
  (55, 1, .aload_n 0, []),
  (56, 3, .getfield 18, [5, 2, 3, 3, 2140, 0]),
  (59, 1, .iload_n 1, []),
  (60, 1, .iconst 1, []),
  (61, 1, .iastore, [40]),
  (62, 1, .aload_n 0, []),
  (63, 3, .getfield 21, [5, 3, 3, 4, 2140, 0]),
  (66, 1, .iload_n 1, []),
  (67, 1, .aload_n 0, []),
  (68, 3, .getfield 84, [5, 10, 0, 0, 0, 0]),
  (71, 1, .aload_n 0, []),
  (72, 3, .getfield 34, [5, 7, 2, 0, 102, 0]),
  (75, 3, .getfield 105, [2, 7, 3, 9, 6140, 0]),
  (78, 1, .aload_n 0, []),
  (79, 3, .getfield 84, [5, 10, 0, 0, 0, 0]),
  (82, 1, .iaload, [40]),
  (83, 1, .iadd, []),
  (84, 1, .iastore, [40]),
  (85, 1, .aload_n 0, []),
  (86, 3, .getfield 24, [5, 4, 3, 5, 2140, 0]),
  (89, 1, .iload_n 1, []),
  (90, 1, .aload_n 0, []),
  (91, 3, .getfield 87, [5, 11, 0, 0, 0, 0]),
  (94, 1, .iconst 1, []),
  (95, 1, .isub, []),
  (96, 1, .iastore, [40]),
  (97, 1, .aload_n 0, []),
  (98, 3, .getfield 34, [5, 7, 2, 0, 102, 0]),
  (101, 3, .getfield 108, [2, 1, 3, 3, 6140, 0]),
  (104, 1, .aload_n 0, []),
  (105, 3, .getfield 84, [5, 10, 0, 0, 0, 0]),
  (108, 1, .iaload, [40]),
  (109, 1, .iconst 2, []),
  (110, 3, .if_icmp .ne 7, []),
  (113, 1, .iconst 1, []),
  (114, 3, .goto 4, []),
  (117, 1, .iconst 0, []),
  (118, 1, .istore_n 3, []),
  (119, 1, .aload_n 0, []),
  (120, 3, .getfield 38, [5, 8, 2, 0, 103, 0]),
  (123, 3, .getfield 70, [3, 1, 3, 3, 4140, 0]),
  (126, 1, .iload_n 1, []),
  (127, 1, .iaload, [40]),
  (128, 32, .tableswitch 147 1 4 #[32, 75, 81, 110], []),
  (160, 1, .aload_n 0, []),
  (161, 3, .getfield 38, [5, 8, 2, 0, 103, 0]),
  (164, 3, .getfield 111, [3, 3, 3, 5, 4140, 0]),
  (167, 1, .iload_n 1, []),
  (168, 1, .iaload, [40]),
  (169, 1, .iconst (-1), []),
  (170, 3, .if_icmp .eq 27, []),
  (173, 1, .aload_n 0, []),
  (174, 3, .getfield 38, [5, 8, 2, 0, 103, 0]),
  (177, 3, .getfield 111, [3, 3, 3, 5, 4140, 0]),
  (180, 1, .iload_n 1, []),
  (181, 1, .iaload, [40]),
  (182, 1, .aload_n 0, []),
  (183, 3, .getfield 34, [5, 7, 2, 0, 102, 0]),
  (186, 3, .getfield 108, [2, 1, 3, 3, 6140, 0]),
  (189, 1, .aload_n 0, []),
  (190, 3, .getfield 84, [5, 10, 0, 0, 0, 0]),
  (193, 1, .iaload, [40]),
  (194, 3, .if_icmp .ne 7, []),
  (197, 1, .iconst 1, []),
  (198, 3, .goto 4, []),
  (201, 1, .iconst 0, []),
  (202, 1, .ireturn, [1]),
  (203, 1, .aload_n 0, []),
  (204, 1, .iload_n 1, []),
  (205, 3, .invokevirtual 112, [100, 1, 0, 105]),
  (208, 1, .ireturn, [1]),
  (209, 1, .iload_n 3, []),
  (210, 3, .ifCond .ne 26, []),
  (213, 1, .aload_n 0, []),
  (214, 3, .getfield 34, [5, 7, 2, 0, 102, 0]),
  (217, 1, .aload_n 0, []),
  (218, 3, .getfield 84, [5, 10, 0, 0, 0, 0]),
  (221, 1, .aload_n 0, []),
  (222, 3, .getfield 38, [5, 8, 2, 0, 103, 0]),
  (225, 1, .iload_n 1, []),
  (226, 3, .invokevirtual 115, [63, 1, 0, 103, 0, 102]),
  (229, 3, .ifCond .eq 7, []),
  (232, 1, .iconst 1, []),
  (233, 3, .goto 4, []),
  (236, 1, .iconst 0, []),
  (237, 1, .ireturn, [1]),
  (238, 1, .iload_n 3, []),
  (239, 3, .ifCond .eq 34, []),
  (242, 1, .aload_n 0, []),
  (243, 3, .getfield 34, [5, 7, 2, 0, 102, 0]),
  (246, 1, .aload_n 0, []),
  (247, 3, .getfield 84, [5, 10, 0, 0, 0, 0]),
  (250, 1, .aload_n 0, []),
  (251, 3, .getfield 38, [5, 8, 2, 0, 103, 0]),
  (254, 1, .iload_n 1, []),
  (255, 3, .invokevirtual 115, [63, 1, 0, 103, 0, 102]),
  (258, 3, .ifCond .eq 15, []),
  (261, 1, .aload_n 0, []),
  (262, 1, .iload_n 1, []),
  (263, 3, .invokevirtual 119, [99, 1, 0, 105]),
  (266, 3, .ifCond .eq 7, []),
  (269, 1, .iconst 1, []),
  (270, 3, .goto 4, []),
  (273, 1, .iconst 0, []),
  (274, 1, .ireturn, [1]),
  (275, 1, .iconst 1, []),
  (276, 1, .ireturn, [1])]
/-- SyntaxRules$Fitting.hasParts(I)Z -/
def c99 : List zE := [(0, 1, .aload_n 0, []),
  (1, 3, .getfield 38, [5, 8, 2, 0, 103, 0]),
  (4, 3, .getfield 122, [3, 7, 3, 9, 4140, 0]),
  (7, 1, .iload_n 1, []),
  (8, 1, .iaload, [40]),
  (9, 1, .aload_n 0, []),
  (10, 3, .getfield 38, [5, 8, 2, 0, 103, 0]),
  (13, 3, .getfield 123, [3, 8, 3, 10, 4140, 0]),
  (16, 1, .iload_n 1, []),
  (17, 1, .iaload, [40]),
  (18, 1, .isub, []),
  (19, 1, .istore_n 2, []),
  (20, 1, .aload_n 0, []),
  (21, 3, .getfield 38, [5, 8, 2, 0, 103, 0]),
  (24, 3, .getfield 123, [3, 8, 3, 10, 4140, 0]),
  (27, 1, .iload_n 1, []),
  (28, 1, .iaload, [40]),
  (29, 3, .ifCond .ne 27, []),
  (32, 1, .aload_n 0, []),
  (33, 3, .getfield 34, [5, 7, 2, 0, 102, 0]),
  (36, 3, .getfield 93, [2, 4, 3, 6, 6140, 0]),
  (39, 1, .aload_n 0, []),
  (40, 3, .getfield 84, [5, 10, 0, 0, 0, 0]),
  (43, 1, .iaload, [40]),
  (44, 1, .iload_n 2, []),
  (45, 3, .if_icmp .ne 7, []),
  (48, 1, .iconst 1, []),
  (49, 3, .goto 28, []),
  (52, 1, .iconst 0, []),
  (53, 3, .goto 24, []),
  (56, 1, .aload_n 0, []),
  (57, 3, .getfield 34, [5, 7, 2, 0, 102, 0]),
  (60, 3, .getfield 93, [2, 4, 3, 6, 6140, 0]),
  (63, 1, .aload_n 0, []),
  (64, 3, .getfield 84, [5, 10, 0, 0, 0, 0]),
  (67, 1, .iaload, [40]),
  (68, 1, .iload_n 2, []),
  (69, 3, .if_icmp .lt 7, []),
  (72, 1, .iconst 1, []),
  (73, 3, .goto 4, []),
  (76, 1, .iconst 0, []),
  (77, 1, .ireturn, [1])]
/-- SyntaxRules$Fitting.openChoice(I)Z -/
def c100 : List zE := [(0, 1, .aload_n 0, []),
  (1, 3, .getfield 46, [5, 6, 0, 0, 0, 0]),
  (4, 1, .iconst 3, []),
  (5, 3, .if_icmp .ge 23, []),
  (8, 1, .aload_n 0, []),
  (9, 3, .getfield 27, [5, 5, 3, 6, 440, 0]),
  (12, 1, .aload_n 0, []),
  (13, 3, .getfield 46, [5, 6, 0, 0, 0, 0]),
  (16, 1, .iload_n 1, []),
  (17, 1, .iastore, [40]),
  (18, 1, .aload_n 0, []),
  (19, 1, .dup, []),
  (20, 3, .getfield 46, [5, 6, 0, 0, 0, 0]),
  (23, 1, .iconst 1, []),
  (24, 1, .iadd, []),
  (25, 3, .putfield 46, [5, 6, 0, 0, 0]),
  (28, 1, .iconst 1, []),
  (29, 1, .ireturn, [1])]
/-- SyntaxRules$Fitting.enterRow(I)Z -/
def c101 : List zE := [(0, 1, .aload_n 0, []),
  (1, 3, .getfield 9, [5, 0, 3, 1, 2140, 0]),
  (4, 1, .iload_n 1, []),
  (5, 1, .aload_n 0, []),
  (6, 3, .getfield 84, [5, 10, 0, 0, 0, 0]),
  (9, 1, .iastore, [40]),
  (10, 1, .aload_n 0, []),
  (11, 3, .getfield 15, [5, 1, 3, 2, 2140, 0]),
  (14, 1, .iload_n 1, []),
  (15, 1, .iconst (-1), []),
  (16, 1, .iastore, [40]),
  (17, 1, .aload_n 0, []),
  (18, 3, .getfield 18, [5, 2, 3, 3, 2140, 0]),
  (21, 1, .iload_n 1, []),
  (22, 1, .iconst 0, []),
  (23, 1, .iastore, [40]),
  (24, 1, .aload_n 0, []),
  (25, 3, .getfield 21, [5, 3, 3, 4, 2140, 0]),
  (28, 1, .iload_n 1, []),
  (29, 1, .aload_n 0, []),
  (30, 3, .getfield 84, [5, 10, 0, 0, 0, 0]),
  (33, 1, .iastore, [40]),
  (34, 1, .aload_n 0, []),
  (35, 3, .getfield 24, [5, 4, 3, 5, 2140, 0]),
  (38, 1, .iload_n 1, []),
  (39, 1, .aload_n 0, []),
  (40, 3, .getfield 87, [5, 11, 0, 0, 0, 0]),
  (43, 1, .iastore, [40]),
  (44, 1, .aload_n 0, []),
  (45, 3, .getfield 38, [5, 8, 2, 0, 103, 0]),
  (48, 1, .iload_n 1, []),
  (49, 3, .invokevirtual 126, [69, 1, 0, 103]),
  (52, 3, .ifCond .le 9, []),
  (55, 1, .aload_n 0, []),
  (56, 1, .iload_n 1, []),
  (57, 3, .invokevirtual 112, [100, 1, 0, 105]),
  (60, 1, .ireturn, [1]),
  (61, 1, .aload_n 0, []),
  (62, 3, .getfield 87, [5, 11, 0, 0, 0, 0]),
  (65, 1, .aload_n 0, []),
  (66, 3, .getfield 38, [5, 8, 2, 0, 103, 0]),
  (69, 1, .iload_n 1, []),
  (70, 3, .invokevirtual 73, [70, 1, 0, 103]),
  (73, 1, .isub, []),
  (74, 1, .istore_n 2, []),
  (75, 1, .iconst 0, []),
  (76, 1, .istore_n 3, []),
  (77, 1, .iload_n 3, []),
  (78, 1, .iload_n 2, []),
  (79, 3, .if_icmp .ge 14, []),
  (82, 1, .aload_n 0, []),
  (83, 1, .iload_n 1, []),
  (84, 3, .invokevirtual 77, [102, 0, 0, 105]),
  (87, 3, .iinc 3 1, []),
  (90, 3, .goto (-13), []),
  (93, 1, .iconst 1, []),
  (94, 1, .ireturn, [1])]
/-- SyntaxRules$Fitting.takePart(I)V -/
def c102 : List zE := [(0, 1, .aload_n 0, []),
  (1, 3, .getfield 15, [5, 1, 3, 2, 2140, 0]),
  (4, 1, .iload_n 1, []),
  (5, 1, .aload_n 0, []),
  (6, 3, .getfield 21, [5, 3, 3, 4, 2140, 0]),
  (9, 1, .iload_n 1, []),
  (10, 1, .iaload, [40]),
  (11, 1, .iastore, [40]),
  (12, 1, .aload_n 0, []),
  (13, 3, .getfield 21, [5, 3, 3, 4, 2140, 0]),
  (16, 1, .iload_n 1, []),
  (17, 1, .dup2, []),
  (18, 1, .iaload, [40]),
  (19, 1, .aload_n 0, []),
  (20, 3, .getfield 34, [5, 7, 2, 0, 102, 0]),
  (23, 3, .getfield 105, [2, 7, 3, 9, 6140, 0]),
  (26, 1, .aload_n 0, []),
  (27, 3, .getfield 21, [5, 3, 3, 4, 2140, 0]),
  (30, 1, .iload_n 1, []),
  (31, 1, .iaload, [40]),
  (32, 1, .iaload, [40]),
  (33, 1, .iadd, []),
  (34, 1, .iastore, [40]),
  (35, 1, .aload_n 0, []),
  (36, 3, .getfield 24, [5, 4, 3, 5, 2140, 0]),
  (39, 1, .iload_n 1, []),
  (40, 1, .dup2, []),
  (41, 1, .iaload, [40]),
  (42, 1, .iconst 1, []),
  (43, 1, .isub, []),
  (44, 1, .iastore, [40]),
  (45, 1, .aload_n 0, []),
  (46, 3, .getfield 18, [5, 2, 3, 3, 2140, 0]),
  (49, 1, .iload_n 1, []),
  (50, 1, .dup2, []),
  (51, 1, .iaload, [40]),
  (52, 1, .iconst 1, []),
  (53, 1, .iadd, []),
  (54, 1, .iastore, [40]),
  (55, 1, .return_, [])]
/-- SyntaxRules$Fitting.isAsBefore(I)Z -/
def c103 : List zE := [(0, 1, .aload_n 0, []),
  (1, 3, .getfield 38, [5, 8, 2, 0, 103, 0]),
  (4, 3, .getfield 129, [3, 2, 3, 4, 4140, 0]),
  (7, 1, .iload_n 1, []),
  (8, 1, .iaload, [40]),
  (9, 1, .iconst (-1), []),
  (10, 3, .if_icmp .ne 7, []),
  (13, 1, .iload_n 1, []),
  (14, 3, .goto 23, []),
  (17, 1, .aload_n 0, []),
  (18, 3, .getfield 38, [5, 8, 2, 0, 103, 0]),
  (21, 1, .aload_n 0, []),
  (22, 3, .getfield 42, [5, 9, 0, 0, 0, 0]),
  (25, 1, .aload_n 0, []),
  (26, 3, .getfield 38, [5, 8, 2, 0, 103, 0]),
  (29, 3, .getfield 129, [3, 2, 3, 4, 4140, 0]),
  (32, 1, .iload_n 1, []),
  (33, 1, .iaload, [40]),
  (34, 3, .invokevirtual 132, [68, 1, 0, 0, 103]),
  (37, 1, .istore_n 2, []),
  (38, 1, .iload_n 2, []),
  (39, 1, .iconst (-1), []),
  (40, 3, .if_icmp .eq 8, []),
  (43, 1, .iload_n 2, []),
  (44, 1, .iload_n 1, []),
  (45, 3, .if_icmp .ne 5, []),
  (48, 1, .iconst 1, []),
  (49, 1, .ireturn, [1]),
  (50, 1, .aload_n 0, []),
  (51, 3, .getfield 21, [5, 3, 3, 4, 2140, 0]),
  (54, 1, .iload_n 1, []),
  (55, 1, .iaload, [40]),
  (56, 1, .aload_n 0, []),
  (57, 3, .getfield 9, [5, 0, 3, 1, 2140, 0]),
  (60, 1, .iload_n 1, []),
  (61, 1, .iaload, [40]),
  (62, 1, .isub, []),
  (63, 1, .istore_n 3, []),
  (64, 1, .aload_n 0, []),
  (65, 3, .getfield 18, [5, 2, 3, 3, 2140, 0]),
  (68, 1, .iload_n 2, []),
  (69, 1, .iaload, [40]),
  (70, 1, .aload_n 0, []),
  (71, 3, .getfield 18, [5, 2, 3, 3, 2140, 0]),
  (74, 1, .iload_n 1, []),
  (75, 1, .iaload, [40]),
  (76, 3, .if_icmp .ne 47, []),
  (79, 1, .aload_n 0, []),
  (80, 3, .getfield 21, [5, 3, 3, 4, 2140, 0]),
  (83, 1, .iload_n 2, []),
  (84, 1, .iaload, [40]),
  (85, 1, .aload_n 0, []),
  (86, 3, .getfield 9, [5, 0, 3, 1, 2140, 0]),
  (89, 1, .iload_n 2, []),
  (90, 1, .iaload, [40]),
  (91, 1, .isub, []),
  (92, 1, .iload_n 3, []),
  (93, 3, .if_icmp .ne 30, []),
  (96, 1, .aload_n 0, []),
  (97, 3, .getfield 34, [5, 7, 2, 0, 102, 0]),
  (100, 1, .aload_n 0, []),
  (101, 3, .getfield 9, [5, 0, 3, 1, 2140, 0]),
  (104, 1, .iload_n 2, []),
  (105, 1, .iaload, [40]),
  (106, 1, .aload_n 0, []),
  (107, 3, .getfield 9, [5, 0, 3, 1, 2140, 0]),
  (110, 1, .iload_n 1, []),
  (111, 1, .iaload, [40]),
  (112, 1, .iload_n 3, []),
  (113, 3, .invokevirtual 136, [62, 1, 0, 0, 0, 102]),
  (116, 3, .ifCond .eq 7, []),
  (119, 1, .iconst 1, []),
  (120, 3, .goto 4, []),
  (123, 1, .iconst 0, []),
  (124, 1, .ireturn, [1])]
/-- SyntaxRules$TestTree.<init>()V -/
def c104 : List zE := [(0, 1, .aload_n 0, []),
  (1, 3, .invokespecial 5, [9999, 0, 0]),
  (4, 1, .aload_n 0, []),
  (5, 2, .bipush 40, []),
  (7, 2, .newarray .int, [40]),
  (9, 3, .putfield 11, [6, 1, 3, 1, 0]),
  (12, 1, .aload_n 0, []),
  (13, 2, .bipush 40, []),
  (15, 2, .newarray .int, [40]),
  (17, 3, .putfield 15, [6, 2, 3, 1, 0]),
  (20, 1, .aload_n 0, []),
  (21, 2, .bipush 40, []),
  (23, 2, .newarray .int, [40]),
  (25, 3, .putfield 18, [6, 3, 3, 1, 0]),
  (28, 1, .aload_n 0, []),
  (29, 2, .bipush 26, []),
  (31, 2, .newarray .int, [40]),
  (33, 3, .putfield 21, [6, 4, 3, 1, 0]),
  (36, 1, .aload_n 0, []),
  (37, 3, .sipush 320, []),
  (40, 2, .newarray .int, [40]),
  (42, 3, .putfield 24, [6, 7, 3, 1, 0]),
  (45, 1, .aload_n 0, []),
  (46, 3, .sipush 320, []),
  (49, 3, .anewarray 27, [44]),
  (52, 3, .putfield 29, [6, 8, 3, 1, 0]),
  (55, 1, .aload_n 0, []),
  (56, 3, .sipush 320, []),
  (59, 2, .newarray .int, [40]),
  (61, 3, .putfield 33, [6, 9, 3, 1, 0]),
  (64, 1, .aload_n 0, []),
  (65, 3, .sipush 320, []),
  (68, 2, .newarray .int, [40]),
  (70, 3, .putfield 36, [6, 10, 3, 1, 0]),
  (73, 1, .aload_n 0, []),
  (74, 3, .sipush 320, []),
  (77, 2, .newarray .int, [40]),
  (79, 3, .putfield 39, [6, 11, 3, 1, 0]),
  (82, 1, .aload_n 0, []),
  (83, 3, .sipush 320, []),
  (86, 2, .newarray .int, [40]),
  (88, 3, .putfield 42, [6, 12, 3, 1, 0]),
  (91, 1, .aload_n 0, []),
  (92, 3, .sipush 320, []),
  (95, 2, .newarray .int, [40]),
  (97, 3, .putfield 45, [6, 13, 3, 1, 0]),
  (100, 1, .aload_n 0, []),
  (101, 3, .sipush 320, []),
  (104, 2, .newarray .boolean, [41]),
  (106, 3, .putfield 48, [6, 14, 3, 1, 0]),
  (109, 1, .aload_n 0, []),
  (110, 2, .bipush 20, []),
  (112, 2, .newarray .int, [40]),
  (114, 3, .putfield 52, [6, 15, 3, 1, 1]),
  (117, 1, .return_, [])]
/-- SyntaxRules$TestTree.layRow(LSyntaxRules$Rule;)I -/
def c105 : List zE := [(0, 1, .aload_n 0, []),
  (1, 1, .iconst 0, []),
  (2, 3, .putfield 55, [6, 0, 0, 0, 0]),
  (5, 1, .iconst 0, []),
  (6, 1, .istore_n 2, []),
  (7, 1, .iload_n 2, []),
  (8, 2, .bipush 26, []),
  (10, 3, .if_icmp .ge 16, []),
  (13, 1, .aload_n 0, []),
  (14, 3, .getfield 21, [6, 4, 3, 4, 2740, 0]),
  (17, 1, .iload_n 2, []),
  (18, 1, .iconst (-1), []),
  (19, 1, .iastore, [40]),
  (20, 3, .iinc 2 1, []),
  (23, 3, .goto (-16), []),
  (26, 1, .iconst 0, []),
  (27, 1, .istore_n 2, []),
  (28, 1, .iload_n 2, []),
  (29, 1, .aload_n 1, []),
  (30, 3, .getfield 59, [3, 14, 0, 0, 0, 0]),
  (33, 3, .if_icmp .ge 112, []),
  (36, 1, .aload_n 1, []),
  (37, 3, .getfield 62, [3, 1, 3, 3, 4140, 0]),
  (40, 1, .iload_n 2, []),
  (41, 1, .iaload, [40]),
  (42, 1, .iconst 2, []),
  (43, 3, .if_icmp .eq 12, []),
  (46, 1, .aload_n 1, []),
  (47, 3, .getfield 65, [3, 8, 3, 10, 4140, 0]),
  (50, 1, .iload_n 2, []),
  (51, 1, .iaload, [40]),
  (52, 3, .ifCond .le 24, []),
  (55, 1, .aload_n 0, []),
  (56, 1, .iconst 5, []),
  (57, 1, .iload_n 2, []),
  (58, 1, .iconst (-1), []),
  (59, 3, .invokevirtual 68, [107, 0, 0, 0, 0, 106]),
  (62, 1, .iload_n 2, []),
  (63, 1, .aload_n 1, []),
  (64, 3, .getfield 72, [3, 10, 3, 12, 4140, 0]),
  (67, 1, .iload_n 2, []),
  (68, 1, .iaload, [40]),
  (69, 1, .iconst 1, []),
  (70, 1, .isub, []),
  (71, 1, .iadd, []),
  (72, 1, .istore_n 2, []),
  (73, 3, .goto 66, []),
  (76, 1, .aload_n 1, []),
  (77, 3, .getfield 62, [3, 1, 3, 3, 4140, 0]),
  (80, 1, .iload_n 2, []),
  (81, 1, .iaload, [40]),
  (82, 1, .iconst 4, []),
  (83, 3, .if_icmp .ne 20, []),
  (86, 1, .aload_n 0, []),
  (87, 1, .iconst 1, []),
  (88, 1, .iload_n 2, []),
  (89, 1, .iconst (-1), []),
  (90, 3, .invokevirtual 68, [107, 0, 0, 0, 0, 106]),
  (93, 1, .aload_n 0, []),
  (94, 1, .iconst 2, []),
  (95, 1, .iload_n 2, []),
  (96, 1, .iconst (-1), []),
  (97, 3, .invokevirtual 68, [107, 0, 0, 0, 0, 106]),
  (100, 3, .goto 39, []),
  (103, 1, .aload_n 1, []),
  (104, 3, .getfield 62, [3, 1, 3, 3, 4140, 0]),
  (107, 1, .iload_n 2, []),
  (108, 1, .iaload, [40]),
  (109, 1, .iconst 3, []),
  (110, 3, .if_icmp .ne 13, []),
  (113, 1, .aload_n 0, []),
  (114, 1, .iconst 0, []),
  (115, 1, .iload_n 2, []),
  (116, 1, .iconst (-1), []),
  (117, 3, .invokevirtual 68, [107, 0, 0, 0, 0, 106]),
  (120, 3, .goto 19, []),
  (123, 1, .aload_n 1, []),
  (124, 3, .getfield 62, [3, 1, 3, 3, 4140, 0]),
  (127, 1, .iload_n 2, []),
  (128, 1, .iaload, [40]),
  (129, 1, .iconst 1, []),
  (130, 3, .if_icmp .ne 9, []),
  (133, 1, .aload_n 0, []),
  (134, 1, .aload_n 1, []),
  (135, 1, .iload_n 2, []),
  (136, 3, .invokevirtual 75, [106, 0, 0, 103, 106]),
  (139, 3, .iinc 2 1, []),
  (142, 3, .goto (-114), []),
  (145, 1, .aload_n 0, []),
  (146, 3, .getfield 55, [6, 0, 0, 0, 0, 0]),
  (149, 1, .ireturn, [0])]
/-- SyntaxRules$TestTree.layHole(LSyntaxRules$Rule;I)V -/
def c106 : List zE := [(0, 1, .aload_n 1, []),
  (1, 3, .getfield 79, [3, 2, 3, 4, 4140, 0]),
  (4, 1, .iload_n 2, []),
  (5, 1, .iaload, [40]),
  (6, 1, .istore_n 3, []),
  (7, 1, .aload_n 1, []),
  (8, 3, .getfield 82, [3, 3, 3, 5, 4140, 0]),
  (11, 1, .iload_n 2, []),
  (12, 1, .iaload, [40]),
  (13, 1, .iconst (-1), []),
  (14, 3, .if_icmp .eq 10, []),
  (17, 1, .aload_n 0, []),
  (18, 1, .iconst 3, []),
  (19, 1, .iload_n 2, []),
  (20, 1, .iconst (-1), []),
  (21, 3, .invokevirtual 68, [107, 0, 0, 0, 0, 106]),
  (24, 1, .aload_n 0, []),
  (25, 3, .getfield 21, [6, 4, 3, 4, 2740, 0]),
  (28, 1, .iload_n 3, []),
  (29, 1, .iaload, [40]),
  (30, 1, .iconst (-1), []),
  (31, 3, .if_icmp .ne 13, []),
  (34, 1, .aload_n 0, []),
  (35, 3, .getfield 21, [6, 4, 3, 4, 2740, 0]),
  (38, 1, .iload_n 3, []),
  (39, 1, .iload_n 2, []),
  (40, 1, .iastore, [40]),
  (41, 3, .goto 15, []),
  (44, 1, .aload_n 0, []),
  (45, 1, .iconst 4, []),
  (46, 1, .iload_n 2, []),
  (47, 1, .aload_n 0, []),
  (48, 3, .getfield 21, [6, 4, 3, 4, 2740, 0]),
  (51, 1, .iload_n 3, []),
  (52, 1, .iaload, [40]),
  (53, 3, .invokevirtual 68, [107, 0, 0, 0, 0, 106]),
  (56, 1, .return_, [])]
/-- SyntaxRules$TestTree.addTest(III)V -/
def c107 : List zE := [(0, 1, .aload_n 0, []),
  (1, 3, .getfield 55, [6, 0, 0, 0, 0, 0]),
  (4, 2, .bipush 40, []),
  (6, 3, .if_icmp .ge 43, []),
  (9, 1, .aload_n 0, []),
  (10, 3, .getfield 11, [6, 1, 3, 1, 4140, 0]),
  (13, 1, .aload_n 0, []),
  (14, 3, .getfield 55, [6, 0, 0, 0, 0, 0]),
  (17, 1, .iload_n 1, []),
  (18, 1, .iastore, [40]),
  (19, 1, .aload_n 0, []),
  (20, 3, .getfield 15, [6, 2, 3, 2, 4140, 0]),
  (23, 1, .aload_n 0, []),
  (24, 3, .getfield 55, [6, 0, 0, 0, 0, 0]),
  (27, 1, .iload_n 2, []),
  (28, 1, .iastore, [40]),
  (29, 1, .aload_n 0, []),
  (30, 3, .getfield 18, [6, 3, 3, 3, 4140, 0]),
  (33, 1, .aload_n 0, []),
  (34, 3, .getfield 55, [6, 0, 0, 0, 0, 0]),
  (37, 1, .iload_n 3, []),
  (38, 1, .iastore, [40]),
  (39, 1, .aload_n 0, []),
  (40, 1, .dup, []),
  (41, 3, .getfield 55, [6, 0, 0, 0, 0, 0]),
  (44, 1, .iconst 1, []),
  (45, 1, .iadd, []),
  (46, 3, .putfield 55, [6, 0, 0, 0, 0]),
  (49, 1, .return_, [])]
/-- SyntaxRules$TestTree.layAll([LSyntaxRules$Rule;)I -/
def c108 : List zE := [(0, 1, .aload_n 0, []),
  (1, 1, .iconst 0, []),
  (2, 3, .putfield 85, [6, 5, 0, 0, 0]),
  (5, 1, .aload_n 0, []),
  (6, 1, .iconst (-1), []),
  (7, 3, .putfield 88, [6, 6, 0, 0, 0]),
  (10, 1, .iconst 0, []),
  (11, 1, .istore_n 2, []),
  (12, 1, .iload_n 2, []),
  (13, 2, .bipush 8, []),
  (15, 3, .if_icmp .ge 22, []),
  (18, 1, .aload_n 1, []),
  (19, 1, .iload_n 2, []),
  (20, 1, .aaload, [44, 0]),
  (21, 3, .ifnull 10, []),
  (24, 1, .aload_n 0, []),
  (25, 1, .aload_n 1, []),
  (26, 1, .iload_n 2, []),
  (27, 1, .aaload, [44, 0]),
  (28, 3, .invokevirtual 91, [109, 0, 103, 106]),
  (31, 3, .iinc 2 1, []),
  (34, 3, .goto (-22), []),
  (37, 1, .aload_n 0, []),
  (38, 3, .getfield 85, [6, 5, 0, 0, 0, 0]),
  (41, 1, .ireturn, [0])]
/-- SyntaxRules$TestTree.hangRow(LSyntaxRules$Rule;)V -/
def c109 : List zE := [(0, 1, .aload_n 0, []),
  (1, 1, .aload_n 1, []),
  (2, 3, .invokevirtual 95, [105, 1, 103, 106]),
  (5, 1, .pop, []),
  (6, 1, .iconst (-1), []),
  (7, 1, .istore_n 2, []),
  (8, 1, .iconst 0, []),
  (9, 1, .istore_n 3, []),
  (10, 1, .iload_n 3, []),
  (11, 1, .aload_n 0, []),
  (12, 3, .getfield 55, [6, 0, 0, 0, 0, 0]),
  (15, 3, .if_icmp .ge 37, []),
  (18, 1, .aload_n 0, []),
  (19, 1, .iload_n 2, []),
  (20, 1, .aload_n 1, []),
  (21, 1, .iload_n 3, []),
  (22, 3, .invokevirtual 99, [110, 1, 0, 103, 0, 106]),
  (25, 2, .istore 4, []),
  (27, 2, .iload 4, []),
  (29, 1, .iconst (-1), []),
  (30, 3, .if_icmp .ne 13, []),
  (33, 1, .aload_n 0, []),
  (34, 1, .iload_n 2, []),
  (35, 1, .aload_n 1, []),
  (36, 1, .iload_n 3, []),
  (37, 3, .invokevirtual 103, [112, 1, 0, 103, 0, 106]),
  (40, 3, .goto 5, []),
  (43, 2, .iload 4, []),
  (45, 1, .istore_n 2, []),
  (46, 3, .iinc 3 1, []),
  (49, 3, .goto (-39), []),
  (52, 1, .return_, [])]
/-- SyntaxRules$TestTree.findBelow(ILSyntaxRules$Rule;I)I -/
def c110 : List zE := [(0, 1, .iload_n 1, []),
  (1, 1, .iconst (-1), []),
  (2, 3, .if_icmp .ne 10, []),
  (5, 1, .aload_n 0, []),
  (6, 3, .getfield 88, [6, 6, 0, 0, 0, 0]),
  (9, 3, .goto 9, []),
  (12, 1, .aload_n 0, []),
  (13, 3, .getfield 42, [6, 12, 3, 10, 32140, 0]),
  (16, 1, .iload_n 1, []),
  (17, 1, .iaload, [40]),
  (18, 2, .istore 4, []),
  (20, 1, .iconst 0, []),
  (21, 2, .istore 5, []),
  (23, 2, .iload 5, []),
  (25, 3, .sipush 320, []),
  (28, 3, .if_icmp .ge 38, []),
  (31, 2, .iload 4, []),
  (33, 1, .iconst (-1), []),
  (34, 3, .if_icmp .eq 32, []),
  (37, 1, .aload_n 0, []),
  (38, 2, .iload 4, []),
  (40, 1, .aload_n 2, []),
  (41, 1, .iload_n 3, []),
  (42, 3, .invokevirtual 106, [111, 1, 0, 103, 0, 106]),
  (45, 3, .ifCond .eq 6, []),
  (48, 2, .iload 4, []),
  (50, 1, .ireturn, [0]),
  (51, 1, .aload_n 0, []),
  (52, 3, .getfield 45, [6, 13, 3, 11, 32140, 0]),
  (55, 2, .iload 4, []),
  (57, 1, .iaload, [40]),
  (58, 2, .istore 4, []),
  (60, 3, .iinc 5 1, []),
  (63, 3, .goto (-40), []),
  (66, 1, .iconst (-1), []),
  (67, 1, .ireturn, [0])]
/-- SyntaxRules$TestTree.asksSame(ILSyntaxRules$Rule;I)Z -/
def c111 : List zE := [(0, 1, .aload_n 0, []),
  (1, 3, .getfield 29, [6, 8, 3, 6, 32144, 0]),
  (4, 1, .iload_n 1, []),
  (5, 1, .aaload, [44, 103]),
  (6, 2, .astore 4, []),
  (8, 1, .aload_n 0, []),
  (9, 3, .getfield 24, [6, 7, 3, 5, 32140, 0]),
  (12, 1, .iload_n 1, []),
  (13, 1, .iaload, [40]),
  (14, 1, .aload_n 0, []),
  (15, 3, .getfield 11, [6, 1, 3, 1, 4140, 0]),
  (18, 1, .iload_n 3, []),
  (19, 1, .iaload, [40]),
  (20, 3, .if_icmp .ne 24, []),
  (23, 2, .aload 4, []),
  (25, 1, .aload_n 0, []),
  (26, 3, .getfield 33, [6, 9, 3, 7, 32140, 0]),
  (29, 1, .iload_n 1, []),
  (30, 1, .iaload, [40]),
  (31, 1, .aload_n 2, []),
  (32, 1, .aload_n 0, []),
  (33, 3, .getfield 15, [6, 2, 3, 2, 4140, 0]),
  (36, 1, .iload_n 3, []),
  (37, 1, .iaload, [40]),
  (38, 3, .invokevirtual 110, [73, 1, 0, 103, 0, 103]),
  (41, 3, .ifCond .ne 5, []),
  (44, 1, .iconst 0, []),
  (45, 1, .ireturn, [1]),
  (46, 1, .aload_n 0, []),
  (47, 3, .getfield 11, [6, 1, 3, 1, 4140, 0]),
  (50, 1, .iload_n 3, []),
  (51, 1, .iaload, [40]),
  (52, 32, .tableswitch 134 2 5 #[32, 64, 96, 115], []),
  (84, 2, .aload 4, []),
  (86, 3, .getfield 113, [3, 7, 3, 9, 4140, 0]),
  (89, 1, .aload_n 0, []),
  (90, 3, .getfield 33, [6, 9, 3, 7, 32140, 0]),
  (93, 1, .iload_n 1, []),
  (94, 1, .iaload, [40]),
  (95, 1, .iaload, [40]),
  (96, 1, .aload_n 2, []),
  (97, 3, .getfield 113, [3, 7, 3, 9, 4140, 0]),
  (100, 1, .aload_n 0, []),
  (101, 3, .getfield 15, [6, 2, 3, 2, 4140, 0]),
  (104, 1, .iload_n 3, []),
  (105, 1, .iaload, [40]),
  (106, 1, .iaload, [40]),
  (107, 3, .if_icmp .ne 7, []),
  (110, 1, .iconst 1, []),
  (111, 3, .goto 4, []),
  (114, 1, .iconst 0, []),
  (115, 1, .ireturn, [1]),
  (116, 2, .aload 4, []),
  (118, 3, .getfield 82, [3, 3, 3, 5, 4140, 0]),
  (121, 1, .aload_n 0, []),
  (122, 3, .getfield 33, [6, 9, 3, 7, 32140, 0]),
  (125, 1, .iload_n 1, []),
  (126, 1, .iaload, [40]),
  (127, 1, .iaload, [40]),
  (128, 1, .aload_n 2, []),
  (129, 3, .getfield 82, [3, 3, 3, 5, 4140, 0]),
  (132, 1, .aload_n 0, []),
  (133, 3, .getfield 15, [6, 2, 3, 2, 4140, 0]),
  (136, 1, .iload_n 3, []),
  (137, 1, .iaload, [40]),
  (138, 1, .iaload, [40]),
  (139, 3, .if_icmp .ne 7, []),
  (142, 1, .iconst 1, []),
  (143, 3, .goto 4, []),
  (146, 1, .iconst 0, []),
  (147, 1, .ireturn, [1]),
  (148, 2, .aload 4, []),
  (150, 1, .aload_n 0, []),
  (151, 3, .getfield 36, [6, 10, 3, 8, 32140, 0]),
  (154, 1, .iload_n 1, []),
  (155, 1, .iaload, [40]),
  (156, 1, .aload_n 2, []),
  (157, 1, .aload_n 0, []),
  (158, 3, .getfield 18, [6, 3, 3, 3, 4140, 0]),
  (161, 1, .iload_n 3, []),
  (162, 1, .iaload, [40]),
  (163, 3, .invokevirtual 110, [73, 1, 0, 103, 0, 103]),
  (166, 1, .ireturn, [1]),
  (167, 2, .aload 4, []),
  (169, 1, .aload_n 0, []),
  (170, 3, .getfield 33, [6, 9, 3, 7, 32140, 0]),
  (173, 1, .iload_n 1, []),
  (174, 1, .iaload, [40]),
  (175, 1, .aload_n 2, []),
  (176, 1, .aload_n 0, []),
  (177, 3, .getfield 15, [6, 2, 3, 2, 4140, 0]),
  (180, 1, .iload_n 3, []),
  (181, 1, .iaload, [40]),
  (182, 3, .invokevirtual 116, [72, 1, 0, 103, 0, 103]),
  (185, 1, .ireturn, [1]),
  (186, 2, .aload 4, []),
  (188, 1, .aload_n 0, []),
  (189, 3, .getfield 33, [6, 9, 3, 7, 32140, 0]),
  (192, 1, .iload_n 1, []),
  (193, 1, .iaload, [40]),
  (194, 1, .aload_n 2, []),
  (195, 1, .aload_n 0, []),
  (196, 3, .getfield 15, [6, 2, 3, 2, 4140, 0]),
  (199, 1, .iload_n 3, []),
  (200, 1, .iaload, [40]),
  (201, 3, .invokevirtual 119, [71, 1, 0, 103, 0, 103]),
  (204, 1, .ireturn, [1])]
/-- SyntaxRules$TestTree.hangTest(ILSyntaxRules$Rule;I)I -/
def c112 : List zE := [(0, 1, .aload_n 0, []),
  (1, 3, .getfield 85, [6, 5, 0, 0, 0, 0]),
  (4, 3, .sipush 320, []),
  (7, 3, .if_icmp .ne 5, []),
  (10, 1, .iload_n 1, []),
  (11, 1, .ireturn, [0]),
  (12, 1, .aload_n 0, []),
  (13, 3, .getfield 85, [6, 5, 0, 0, 0, 0]),
  (16, 2, .istore 4, []),
  (18, 1, .aload_n 0, []),
  (19, 1, .dup, []),
  (20, 3, .getfield 85, [6, 5, 0, 0, 0, 0]),
  (23, 1, .iconst 1, []),
  (24, 1, .iadd, []),
  (25, 3, .putfield 85, [6, 5, 0, 0, 0]),
  (28, 1, .aload_n 0, []),
  (29, 3, .getfield 24, [6, 7, 3, 5, 32140, 0]),
  (32, 2, .iload 4, []),
  (34, 1, .aload_n 0, []),
  (35, 3, .getfield 11, [6, 1, 3, 1, 4140, 0]),
  (38, 1, .iload_n 3, []),
  (39, 1, .iaload, [40]),
  (40, 1, .iastore, [40]),
  (41, 1, .aload_n 0, []),
  (42, 3, .getfield 29, [6, 8, 3, 6, 32144, 0]),
  (45, 2, .iload 4, []),
  (47, 1, .aload_n 2, []),
  (48, 1, .aastore, [44, 103]),
  (49, 1, .aload_n 0, []),
  (50, 3, .getfield 33, [6, 9, 3, 7, 32140, 0]),
  (53, 2, .iload 4, []),
  (55, 1, .aload_n 0, []),
  (56, 3, .getfield 15, [6, 2, 3, 2, 4140, 0]),
  (59, 1, .iload_n 3, []),
  (60, 1, .iaload, [40]),
  (61, 1, .iastore, [40]),
  (62, 1, .aload_n 0, []),
  (63, 3, .getfield 36, [6, 10, 3, 8, 32140, 0]),
  (66, 2, .iload 4, []),
  (68, 1, .aload_n 0, []),
  (69, 3, .getfield 18, [6, 3, 3, 3, 4140, 0]),
  (72, 1, .iload_n 3, []),
  (73, 1, .iaload, [40]),
  (74, 1, .iastore, [40]),
  (75, 1, .aload_n 0, []),
  (76, 3, .getfield 39, [6, 11, 3, 9, 32140, 0]),
  (79, 2, .iload 4, []),
  (81, 1, .iload_n 1, []),
  (82, 1, .iastore, [40]),
  (83, 1, .aload_n 0, []),
  (84, 3, .getfield 42, [6, 12, 3, 10, 32140, 0]),
  (87, 2, .iload 4, []),
  (89, 1, .iconst (-1), []),
  (90, 1, .iastore, [40]),
  (91, 1, .iload_n 1, []),
  (92, 1, .iconst (-1), []),
  (93, 3, .if_icmp .ne 23, []),
  (96, 1, .aload_n 0, []),
  (97, 3, .getfield 45, [6, 13, 3, 11, 32140, 0]),
  (100, 2, .iload 4, []),
  (102, 1, .aload_n 0, []),
  (103, 3, .getfield 88, [6, 6, 0, 0, 0, 0]),
  (106, 1, .iastore, [40]),
  (107, 1, .aload_n 0, []),
  (108, 2, .iload 4, []),
  (110, 3, .putfield 88, [6, 6, 0, 0, 0]),
  (113, 3, .goto 24, []),
  (116, 1, .aload_n 0, []),
  (117, 3, .getfield 45, [6, 13, 3, 11, 32140, 0]),
  (120, 2, .iload 4, []),
  (122, 1, .aload_n 0, []),
  (123, 3, .getfield 42, [6, 12, 3, 10, 32140, 0]),
  (126, 1, .iload_n 1, []),
  (127, 1, .iaload, [40]),
  (128, 1, .iastore, [40]),
  (129, 1, .aload_n 0, []),
  (130, 3, .getfield 42, [6, 12, 3, 10, 32140, 0]),
  (133, 1, .iload_n 1, []),
  (134, 2, .iload 4, []),
  (136, 1, .iastore, [40]),
  (137, 2, .iload 4, []),
  (139, 1, .ireturn, [0])]
/-- SyntaxRules$TestTree.askedOf(LSyntaxRules$Source;ILSyntaxRules$Fitting;)I -/
def c113 : List zE := [(0, 1, .iconst 0, []),
  (1, 2, .istore 4, []),
  (3, 1, .iconst 0, []),
  (4, 2, .istore 5, []),
  (6, 2, .iload 5, []),
  (8, 1, .aload_n 0, []),
  (9, 3, .getfield 85, [6, 5, 0, 0, 0, 0]),
  (12, 3, .if_icmp .ge 86, []),
  (15, 1, .aload_n 0, []),
  (16, 3, .getfield 39, [6, 11, 3, 9, 32140, 0]),
  (19, 2, .iload 5, []),
  (21, 1, .iaload, [40]),
  (22, 1, .iconst (-1), []),
  (23, 3, .if_icmp .eq 18, []),
  (26, 1, .aload_n 0, []),
  (27, 3, .getfield 48, [6, 14, 3, 12, 32141, 0]),
  (30, 1, .aload_n 0, []),
  (31, 3, .getfield 39, [6, 11, 3, 9, 32140, 0]),
  (34, 2, .iload 5, []),
  (36, 1, .iaload, [40]),
  (37, 1, .baload, [41]),
  (38, 3, .ifCond .eq 7, []),
  (41, 1, .iconst 1, []),
  (42, 3, .goto 4, []),
  (45, 1, .iconst 0, []),
  (46, 2, .istore 6, []),
  (48, 1, .aload_n 0, []),
  (49, 3, .getfield 48, [6, 14, 3, 12, 32141, 0]),
  (52, 2, .iload 5, []),
  (54, 2, .iload 6, []),
  (56, 3, .ifCond .eq 19, []),
  (59, 1, .aload_n 0, []),
  (60, 2, .iload 5, []),
  (62, 1, .aload_n 1, []),
  (63, 1, .iload_n 2, []),
  (64, 1, .aload_n 3, []),
  (65, 3, .invokevirtual 122, [114, 1, 105, 0, 102, 0, 106]),
  (68, 3, .ifCond .eq 7, []),
  (71, 1, .iconst 1, []),
  (72, 3, .goto 4, []),
  (75, 1, .iconst 0, []),
  (76, 1, .bastore, [41]),
  (77, 2, .iload 4, []),
  (79, 2, .iload 6, []),
  (81, 3, .ifCond .eq 7, []),
  (84, 1, .iconst 1, []),
  (85, 3, .goto 4, []),
  (88, 1, .iconst 0, []),
  (89, 1, .iadd, []),
  (90, 2, .istore 4, []),
  (92, 3, .iinc 5 1, []),
  (95, 3, .goto (-89), []),
  (98, 2, .iload 4, []),
  (100, 1, .ireturn, [0])]
/-- SyntaxRules$TestTree.holds(ILSyntaxRules$Source;ILSyntaxRules$Fitting;)Z -/
def c114 : List zE := [(0, 1, .aload_n 0, []),
  (1, 3, .getfield 29, [6, 8, 3, 6, 32144, 0]),
  (4, 1, .iload_n 1, []),
  (5, 1, .aaload, [44, 103]),
  (6, 2, .astore 5, []),
  (8, 1, .aload_n 0, []),
  (9, 3, .getfield 33, [6, 9, 3, 7, 32140, 0]),
  (12, 1, .iload_n 1, []),
  (13, 1, .iaload, [40]),
  (14, 2, .istore 6, []),
  (16, 1, .aload_n 0, []),
  (17, 2, .aload 5, []),
  (19, 2, .iload 6, []),
  (21, 1, .aload_n 2, []),
  (22, 1, .iload_n 3, []),
  (23, 3, .invokevirtual 126, [116, 1, 0, 102, 0, 103, 106]),
  (26, 2, .istore 7, []),
  (28, 2, .iload 7, []),
  (30, 1, .iconst (-1), []),
  (31, 3, .if_icmp .ne 5, []),
  (34, 1, .iconst 0, []),
  (35, 1, .ireturn, [1]),
  (36, 1, .aload_n 0, []),
  (37, 3, .getfield 24, [6, 7, 3, 5, 32140, 0]),
  (40, 1, .iload_n 1, []),
  (41, 1, .iaload, [40]),
  (42, 34, .tableswitch 155 1 5 #[34, 64, 88, 112, 133], []),
  (76, 1, .aload_n 2, []),
  (77, 3, .getfield 130, [2, 1, 3, 3, 6140, 0]),
  (80, 2, .iload 7, []),
  (82, 1, .iaload, [40]),
  (83, 1, .iconst 2, []),
  (84, 3, .if_icmp .ne 20, []),
  (87, 1, .aload_n 2, []),
  (88, 2, .iload 7, []),
  (90, 2, .aload 5, []),
  (92, 2, .iload 6, []),
  (94, 3, .invokevirtual 133, [63, 1, 0, 103, 0, 102]),
  (97, 3, .ifCond .eq 7, []),
  (100, 1, .iconst 1, []),
  (101, 3, .goto 4, []),
  (104, 1, .iconst 0, []),
  (105, 1, .ireturn, [1]),
  (106, 1, .aload_n 2, []),
  (107, 3, .getfield 136, [2, 4, 3, 6, 6140, 0]),
  (110, 2, .iload 7, []),
  (112, 1, .iaload, [40]),
  (113, 2, .aload 5, []),
  (115, 3, .getfield 113, [3, 7, 3, 9, 4140, 0]),
  (118, 2, .iload 6, []),
  (120, 1, .iaload, [40]),
  (121, 3, .if_icmp .ne 7, []),
  (124, 1, .iconst 1, []),
  (125, 3, .goto 4, []),
  (128, 1, .iconst 0, []),
  (129, 1, .ireturn, [1]),
  (130, 1, .aload_n 2, []),
  (131, 3, .getfield 130, [2, 1, 3, 3, 6140, 0]),
  (134, 2, .iload 7, []),
  (136, 1, .iaload, [40]),
  (137, 2, .aload 5, []),
  (139, 3, .getfield 82, [3, 3, 3, 5, 4140, 0]),
  (142, 2, .iload 6, []),
  (144, 1, .iaload, [40]),
  (145, 3, .if_icmp .ne 7, []),
  (148, 1, .iconst 1, []),
  (149, 3, .goto 4, []),
  (152, 1, .iconst 0, []),
  (153, 1, .ireturn, [1]),
  (154, 1, .aload_n 2, []),
  (155, 2, .iload 7, []),
  (157, 1, .aload_n 0, []),
  (158, 2, .aload 5, []),
  (160, 1, .aload_n 0, []),
  (161, 3, .getfield 36, [6, 10, 3, 8, 32140, 0]),
  (164, 1, .iload_n 1, []),
  (165, 1, .iaload, [40]),
  (166, 1, .aload_n 2, []),
  (167, 1, .iload_n 3, []),
  (168, 3, .invokevirtual 126, [116, 1, 0, 102, 0, 103, 106]),
  (171, 3, .invokestatic 137, [115, 1, 0, 0, 102]),
  (174, 1, .ireturn, [1]),
  (175, 2, .aload 4, []),
  (177, 1, .aload_n 2, []),
  (178, 2, .aload 5, []),
  (180, 2, .iload 6, []),
  (182, 2, .iload 7, []),
  (184, 1, .iconst 1, []),
  (185, 3, .invokevirtual 141, [94, 1, 0, 0, 0, 103, 102, 105]),
  (188, 3, .ifCond .le 7, []),
  (191, 1, .iconst 1, []),
  (192, 3, .goto 4, []),
  (195, 1, .iconst 0, []),
  (196, 1, .ireturn, [1]),
  (197, 1, .aload_n 2, []),
  (198, 3, .getfield 130, [2, 1, 3, 3, 6140, 0]),
  (201, 2, .iload 7, []),
  (203, 1, .iaload, [40]),
  (204, 1, .iconst 2, []),
  (205, 3, .if_icmp .eq 20, []),
  (208, 1, .aload_n 2, []),
  (209, 2, .iload 7, []),
  (211, 2, .aload 5, []),
  (213, 2, .iload 6, []),
  (215, 3, .invokevirtual 133, [63, 1, 0, 103, 0, 102]),
  (218, 3, .ifCond .eq 7, []),
  (221, 1, .iconst 1, []),
  (222, 3, .goto 4, []),
  (225, 1, .iconst 0, []),
  (226, 1, .ireturn, [1])]
/-- SyntaxRules$TestTree.isTwin(LSyntaxRules$Source;II)Z -/
def c115 : List zE := [(0, 1, .iload_n 2, []),
  (1, 1, .iconst (-1), []),
  (2, 3, .if_icmp .eq 16, []),
  (5, 1, .aload_n 0, []),
  (6, 1, .iload_n 1, []),
  (7, 1, .iload_n 2, []),
  (8, 3, .invokevirtual 147, [61, 1, 0, 0, 102]),
  (11, 3, .ifCond .eq 7, []),
  (14, 1, .iconst 1, []),
  (15, 3, .goto 4, []),
  (18, 1, .iconst 0, []),
  (19, 1, .ireturn, [1])]
/-- SyntaxRules$TestTree.follow(LSyntaxRules$Rule;ILSyntaxRules$Source;I)I -/
def c116 : List zE := [(0, 1, .iconst 0, []),
  (1, 2, .istore 5, []),
  (3, 1, .iload_n 2, []),
  (4, 2, .istore 6, []),
  (6, 2, .iload 5, []),
  (8, 2, .bipush 20, []),
  (10, 3, .if_icmp .ge 43, []),
  (13, 1, .aload_n 1, []),
  (14, 3, .getfield 151, [3, 4, 3, 6, 4140, 0]),
  (17, 2, .iload 6, []),
  (19, 1, .iaload, [40]),
  (20, 1, .iconst (-1), []),
  (21, 3, .if_icmp .eq 32, []),
  (24, 1, .aload_n 0, []),
  (25, 3, .getfield 52, [6, 15, 3, 13, 2140, 0]),
  (28, 2, .iload 5, []),
  (30, 1, .aload_n 1, []),
  (31, 3, .getfield 154, [3, 6, 3, 8, 4140, 0]),
  (34, 2, .iload 6, []),
  (36, 1, .iaload, [40]),
  (37, 1, .iastore, [40]),
  (38, 3, .iinc 5 1, []),
  (41, 1, .aload_n 1, []),
  (42, 3, .getfield 151, [3, 4, 3, 6, 4140, 0]),
  (45, 2, .iload 6, []),
  (47, 1, .iaload, [40]),
  (48, 2, .istore 6, []),
  (50, 3, .goto (-44), []),
  (53, 2, .iload 4, []),
  (55, 2, .istore 7, []),
  (57, 2, .iload 5, []),
  (59, 1, .iconst 1, []),
  (60, 1, .isub, []),
  (61, 2, .istore 8, []),
  (63, 2, .iload 8, []),
  (65, 3, .ifCond .lt 30, []),
  (68, 2, .iload 7, []),
  (70, 1, .iconst (-1), []),
  (71, 3, .if_icmp .eq 24, []),
  (74, 1, .aload_n 3, []),
  (75, 2, .iload 7, []),
  (77, 1, .aload_n 0, []),
  (78, 3, .getfield 52, [6, 15, 3, 13, 2140, 0]),
  (81, 2, .iload 8, []),
  (83, 1, .iaload, [40]),
  (84, 3, .invokevirtual 157, [64, 1, 0, 0, 102]),
  (87, 2, .istore 7, []),
  (89, 3, .iinc 8 (-1), []),
  (92, 3, .goto (-29), []),
  (95, 2, .iload 7, []),
  (97, 1, .ireturn, [0])]
/-- SyntaxRules$Walk.<init>()V -/
def c117 : List zE := [(0, 1, .aload_n 0, []),
  (1, 3, .invokespecial 3, [9999, 0, 0]),
  (4, 1, .aload_n 0, []),
  (5, 2, .bipush 60, []),
  (7, 2, .newarray .int, [40]),
  (9, 3, .putfield 9, [7, 1, 3, 1, 0]),
  (12, 1, .aload_n 0, []),
  (13, 2, .bipush 60, []),
  (15, 2, .newarray .int, [40]),
  (17, 3, .putfield 15, [7, 2, 3, 1, 0]),
  (20, 1, .aload_n 0, []),
  (21, 2, .bipush 60, []),
  (23, 2, .newarray .int, [40]),
  (25, 3, .putfield 18, [7, 3, 3, 1, 0]),
  (28, 1, .aload_n 0, []),
  (29, 2, .bipush 60, []),
  (31, 2, .newarray .boolean, [41]),
  (33, 3, .putfield 21, [7, 4, 3, 1, 1]),
  (36, 1, .return_, [])]
/-- SyntaxRules$Walk.lay(LSyntaxRules$Source;[LSyntaxRules$Rule;ILSyntaxRules$Fitting;)V -/
def c118 : List zE := [(0, 1, .iconst 0, []),
  (1, 2, .istore 5, []),
  (3, 2, .iload 5, []),
  (5, 1, .aload_n 1, []),
  (6, 3, .getfield 25, [2, 14, 0, 0, 0, 0]),
  (9, 3, .if_icmp .ge 41, []),
  (12, 1, .aload_n 0, []),
  (13, 3, .getfield 18, [7, 3, 3, 3, 6140, 0]),
  (16, 2, .iload 5, []),
  (18, 2, .aload 4, []),
  (20, 1, .aload_n 1, []),
  (21, 1, .aload_n 2, []),
  (22, 2, .iload 5, []),
  (24, 3, .invokevirtual 31, [92, 1, 0, 944, 102, 105]),
  (27, 1, .iastore, [40]),
  (28, 1, .aload_n 0, []),
  (29, 3, .getfield 15, [7, 2, 3, 2, 6140, 0]),
  (32, 2, .iload 5, []),
  (34, 1, .iconst (-1), []),
  (35, 1, .iastore, [40]),
  (36, 1, .aload_n 0, []),
  (37, 3, .getfield 21, [7, 4, 3, 4, 6141, 0]),
  (40, 2, .iload 5, []),
  (42, 1, .iconst 0, []),
  (43, 1, .bastore, [41]),
  (44, 3, .iinc 5 1, []),
  (47, 3, .goto (-44), []),
  (50, 1, .iload_n 3, []),
  (51, 3, .ifCond .ne 11, []),
  (54, 1, .aload_n 0, []),
  (55, 1, .aload_n 1, []),
  (56, 3, .invokevirtual 37, [119, 0, 102, 107]),
  (59, 3, .goto 8, []),
  (62, 1, .aload_n 0, []),
  (63, 1, .aload_n 1, []),
  (64, 3, .invokevirtual 41, [120, 0, 102, 107]),
  (67, 1, .aload_n 0, []),
  (68, 1, .iconst 0, []),
  (69, 3, .putfield 44, [7, 0, 0, 0, 0]),
  (72, 1, .iconst 0, []),
  (73, 2, .istore 5, []),
  (75, 2, .iload 5, []),
  (77, 1, .aload_n 1, []),
  (78, 3, .getfield 25, [2, 14, 0, 0, 0, 0]),
  (81, 3, .if_icmp .ge 41, []),
  (84, 1, .aload_n 0, []),
  (85, 3, .getfield 15, [7, 2, 3, 2, 6140, 0]),
  (88, 2, .iload 5, []),
  (90, 1, .iaload, [40]),
  (91, 1, .iconst (-1), []),
  (92, 3, .if_icmp .eq 24, []),
  (95, 1, .aload_n 0, []),
  (96, 3, .getfield 9, [7, 1, 3, 1, 6140, 0]),
  (99, 1, .aload_n 0, []),
  (100, 3, .getfield 44, [7, 0, 0, 0, 0, 0]),
  (103, 2, .iload 5, []),
  (105, 1, .iastore, [40]),
  (106, 1, .aload_n 0, []),
  (107, 1, .dup, []),
  (108, 3, .getfield 44, [7, 0, 0, 0, 0, 0]),
  (111, 1, .iconst 1, []),
  (112, 1, .iadd, []),
  (113, 3, .putfield 44, [7, 0, 0, 0, 0]),
  (116, 3, .iinc 5 1, []),
  (119, 3, .goto (-44), []),
  (122, 1, .return_, [])]
/-- SyntaxRules$Walk.fromOutside(LSyntaxRules$Source;)V -/
def c119 : List zE := [(0, 1, .iconst 0, []),
  (1, 1, .istore_n 2, []),
  (2, 1, .iconst 0, []),
  (3, 1, .istore_n 3, []),
  (4, 1, .iload_n 3, []),
  (5, 1, .aload_n 1, []),
  (6, 3, .getfield 25, [2, 14, 0, 0, 0, 0]),
  (9, 3, .if_icmp .ge 47, []),
  (12, 1, .iload_n 3, []),
  (13, 1, .iload_n 2, []),
  (14, 3, .if_icmp .lt 36, []),
  (17, 1, .aload_n 0, []),
  (18, 3, .getfield 18, [7, 3, 3, 3, 6140, 0]),
  (21, 1, .iload_n 3, []),
  (22, 1, .iaload, [40]),
  (23, 3, .ifCond .eq 27, []),
  (26, 1, .aload_n 0, []),
  (27, 3, .getfield 15, [7, 2, 3, 2, 6140, 0]),
  (30, 1, .iload_n 3, []),
  (31, 1, .aload_n 0, []),
  (32, 3, .getfield 18, [7, 3, 3, 3, 6140, 0]),
  (35, 1, .iload_n 3, []),
  (36, 1, .iaload, [40]),
  (37, 3, .invokestatic 47, [257, 1, 0]),
  (40, 1, .iastore, [40]),
  (41, 1, .iload_n 3, []),
  (42, 1, .aload_n 1, []),
  (43, 3, .getfield 53, [2, 7, 3, 9, 6140, 0]),
  (46, 1, .iload_n 3, []),
  (47, 1, .iaload, [40]),
  (48, 1, .iadd, []),
  (49, 1, .istore_n 2, []),
  (50, 3, .iinc 3 1, []),
  (53, 3, .goto (-49), []),
  (56, 1, .return_, [])]
/-- SyntaxRules$Walk.fromInside(LSyntaxRules$Source;)V -/
def c120 : List zE := [(0, 1, .aload_n 1, []),
  (1, 3, .getfield 25, [2, 14, 0, 0, 0, 0]),
  (4, 1, .iconst 1, []),
  (5, 1, .isub, []),
  (6, 1, .istore_n 2, []),
  (7, 1, .iload_n 2, []),
  (8, 3, .ifCond .lt 80, []),
  (11, 1, .aload_n 0, []),
  (12, 3, .getfield 21, [7, 4, 3, 4, 6141, 0]),
  (15, 1, .iload_n 2, []),
  (16, 1, .baload, [41]),
  (17, 3, .ifCond .ne 34, []),
  (20, 1, .aload_n 0, []),
  (21, 3, .getfield 18, [7, 3, 3, 3, 6140, 0]),
  (24, 1, .iload_n 2, []),
  (25, 1, .iaload, [40]),
  (26, 3, .ifCond .eq 25, []),
  (29, 1, .aload_n 0, []),
  (30, 3, .getfield 15, [7, 2, 3, 2, 6140, 0]),
  (33, 1, .iload_n 2, []),
  (34, 1, .aload_n 0, []),
  (35, 3, .getfield 18, [7, 3, 3, 3, 6140, 0]),
  (38, 1, .iload_n 2, []),
  (39, 1, .iaload, [40]),
  (40, 3, .invokestatic 47, [257, 1, 0]),
  (43, 1, .iastore, [40]),
  (44, 1, .aload_n 0, []),
  (45, 3, .getfield 21, [7, 4, 3, 4, 6141, 0]),
  (48, 1, .iload_n 2, []),
  (49, 1, .iconst 1, []),
  (50, 1, .bastore, [41]),
  (51, 1, .aload_n 0, []),
  (52, 3, .getfield 21, [7, 4, 3, 4, 6141, 0]),
  (55, 1, .iload_n 2, []),
  (56, 1, .baload, [41]),
  (57, 3, .ifCond .eq 25, []),
  (60, 1, .aload_n 1, []),
  (61, 3, .getfield 56, [2, 2, 3, 4, 6140, 0]),
  (64, 1, .iload_n 2, []),
  (65, 1, .iaload, [40]),
  (66, 1, .iconst (-1), []),
  (67, 3, .if_icmp .eq 15, []),
  (70, 1, .aload_n 0, []),
  (71, 3, .getfield 21, [7, 4, 3, 4, 6141, 0]),
  (74, 1, .aload_n 1, []),
  (75, 3, .getfield 56, [2, 2, 3, 4, 6140, 0]),
  (78, 1, .iload_n 2, []),
  (79, 1, .iaload, [40]),
  (80, 1, .iconst 1, []),
  (81, 1, .bastore, [41]),
  (82, 3, .iinc 2 (-1), []),
  (85, 3, .goto (-78), []),
  (88, 1, .return_, [])]
/-- SyntaxRules$Walk.ruleOf(I)I -/
def c121 : List zE := [(0, 1, .aload_n 0, []),
  (1, 3, .getfield 15, [7, 2, 3, 2, 6140, 0]),
  (4, 1, .aload_n 0, []),
  (5, 3, .getfield 9, [7, 1, 3, 1, 6140, 0]),
  (8, 1, .iload_n 1, []),
  (9, 1, .iaload, [40]),
  (10, 1, .iaload, [40]),
  (11, 1, .ireturn, [0])]
/-- SyntaxRules$Writer.<init>()V -/
def c122 : List zE := [(0, 1, .aload_n 0, []),
  (1, 3, .invokespecial 3, [9999, 0, 0]),
  (4, 1, .aload_n 0, []),
  (5, 3, .new 9, [1, 2]),
  (8, 1, .dup, []),
  (9, 3, .invokespecial 11, [43, 0, 0]),
  (12, 3, .putfield 12, [8, 6, 3, 1, 0]),
  (15, 1, .aload_n 0, []),
  (16, 2, .bipush 40, []),
  (18, 2, .newarray .int, [40]),
  (20, 3, .putfield 18, [8, 7, 3, 1, 0]),
  (23, 1, .aload_n 0, []),
  (24, 2, .bipush 40, []),
  (26, 2, .newarray .int, [40]),
  (28, 3, .putfield 22, [8, 8, 3, 1, 1]),
  (31, 1, .return_, [])]
/-- SyntaxRules$Writer.clear(I)V -/
def c123 : List zE := [(0, 1, .aload_n 0, []),
  (1, 1, .iconst 0, []),
  (2, 3, .putfield 25, [8, 0, 0, 0, 0]),
  (5, 1, .aload_n 0, []),
  (6, 1, .iconst 0, []),
  (7, 3, .putfield 29, [8, 1, 0, 0, 0]),
  (10, 1, .aload_n 0, []),
  (11, 1, .iconst (-1), []),
  (12, 3, .putfield 32, [8, 2, 0, 0, 0]),
  (15, 1, .aload_n 0, []),
  (16, 1, .iload_n 1, []),
  (17, 3, .putfield 35, [8, 3, 0, 0, 0]),
  (20, 1, .aload_n 0, []),
  (21, 1, .iconst (-1), []),
  (22, 3, .putfield 38, [8, 4, 0, 0, 0]),
  (25, 1, .aload_n 0, []),
  (26, 1, .iconst 0, []),
  (27, 3, .putfield 41, [8, 5, 1, 0, 0]),
  (30, 1, .return_, [])]
/-- SyntaxRules$Writer.written()LSyntaxRules$Text; -/
def c124 : List zE := [(0, 1, .aload_n 0, []),
  (1, 3, .getfield 12, [8, 6, 3, 1, 101, 0]),
  (4, 1, .aload_n 0, []),
  (5, 3, .getfield 25, [8, 0, 0, 0, 0, 0]),
  (8, 3, .sipush 300, []),
  (11, 3, .invokestatic 45, [260, 1, 0, 0]),
  (14, 3, .putfield 51, [1, 1, 0, 0, 0]),
  (17, 1, .aload_n 0, []),
  (18, 3, .getfield 12, [8, 6, 3, 1, 101, 0]),
  (21, 1, .areturn, [101])]
/-- SyntaxRules$Writer.putSeam()V -/
def c125 : List zE := [(0, 1, .aload_n 0, []),
  (1, 1, .iconst 1, []),
  (2, 3, .putfield 41, [8, 5, 1, 0, 0]),
  (5, 1, .return_, [])]
/-- SyntaxRules$Writer.writeEdit(LSyntaxRules$Source;LSyntaxRules$Rule;ILSyntaxRules$Fitting;)V -/
def c126 : List zE := [(0, 1, .aload_n 2, []),
  (1, 3, .getfield 52, [3, 14, 0, 0, 0, 0]),
  (4, 2, .istore 5, []),
  (6, 2, .iload 5, []),
  (8, 1, .aload_n 2, []),
  (9, 3, .getfield 57, [3, 13, 0, 0, 0, 0]),
  (12, 3, .if_icmp .ge 19, []),
  (15, 1, .aload_n 0, []),
  (16, 1, .aload_n 1, []),
  (17, 1, .aload_n 2, []),
  (18, 2, .iload 5, []),
  (20, 2, .aload 4, []),
  (22, 3, .invokevirtual 60, [127, 0, 105, 0, 103, 102, 108]),
  (25, 3, .iinc 5 1, []),
  (28, 3, .goto (-22), []),
  (31, 1, .iconst 0, []),
  (32, 2, .istore 5, []),
  (34, 2, .iload 5, []),
  (36, 1, .aload_n 1, []),
  (37, 3, .getfield 64, [2, 15, 0, 0, 0, 0]),
  (40, 3, .if_icmp .ge 104, []),
  (43, 1, .aload_n 1, []),
  (44, 3, .getfield 69, [2, 11, 3, 13, 15140, 0]),
  (47, 2, .iload 5, []),
  (49, 1, .iaload, [40]),
  (50, 2, .istore 6, []),
  (52, 2, .iload 6, []),
  (54, 1, .aload_n 1, []),
  (55, 3, .getfield 72, [2, 12, 3, 14, 15140, 0]),
  (58, 2, .iload 5, []),
  (60, 1, .iaload, [40]),
  (61, 1, .iadd, []),
  (62, 2, .istore 7, []),
  (64, 2, .iload 6, []),
  (66, 1, .aload_n 1, []),
  (67, 3, .getfield 75, [2, 5, 3, 7, 6140, 0]),
  (70, 1, .iload_n 3, []),
  (71, 1, .iaload, [40]),
  (72, 3, .if_icmp .lt 18, []),
  (75, 2, .iload 7, []),
  (77, 1, .aload_n 1, []),
  (78, 3, .getfield 78, [2, 6, 3, 8, 6140, 0]),
  (81, 1, .iload_n 3, []),
  (82, 1, .iaload, [40]),
  (83, 3, .if_icmp .gt 7, []),
  (86, 1, .iconst 1, []),
  (87, 3, .goto 4, []),
  (90, 1, .iconst 0, []),
  (91, 2, .istore 8, []),
  (93, 2, .iload 8, []),
  (95, 3, .ifCond .eq 43, []),
  (98, 1, .aload_n 0, []),
  (99, 1, .aload_n 2, []),
  (100, 2, .iload 6, []),
  (102, 2, .iload 7, []),
  (104, 3, .invokevirtual 81, [128, 1, 0, 0, 103, 108]),
  (107, 3, .ifCond .ne 31, []),
  (110, 1, .aload_n 0, []),
  (111, 1, .aload_n 1, []),
  (112, 3, .getfield 85, [2, 0, 3, 1, 101, 0]),
  (115, 2, .iload 6, []),
  (117, 2, .iload 7, []),
  (119, 3, .invokevirtual 88, [131, 0, 0, 0, 101, 108]),
  (122, 1, .aload_n 0, []),
  (123, 2, .bipush 32, []),
  (125, 3, .invokevirtual 92, [132, 0, 0, 108]),
  (128, 1, .aload_n 0, []),
  (129, 1, .dup, []),
  (130, 3, .getfield 29, [8, 1, 0, 0, 0, 0]),
  (133, 1, .iconst 1, []),
  (134, 1, .iadd, []),
  (135, 3, .putfield 29, [8, 1, 0, 0, 0]),
  (138, 3, .iinc 5 1, []),
  (141, 3, .goto (-107), []),
  (144, 1, .aload_n 0, []),
  (145, 1, .aload_n 1, []),
  (146, 1, .aload_n 2, []),
  (147, 3, .invokevirtual 96, [129, 0, 103, 102, 108]),
  (150, 1, .return_, [])]
/-- SyntaxRules$Writer.findHeld(LSyntaxRules$Source;LSyntaxRules$Rule;ILSyntaxRules$Fitting;)V -/
def c127 : List zE := [(0, 1, .aload_n 0, []),
  (1, 3, .getfield 18, [8, 7, 3, 3, 4140, 0]),
  (4, 1, .iload_n 3, []),
  (5, 1, .iconst 0, []),
  (6, 1, .iastore, [40]),
  (7, 1, .aload_n 0, []),
  (8, 3, .getfield 22, [8, 8, 3, 4, 4140, 0]),
  (11, 1, .iload_n 3, []),
  (12, 1, .iconst 0, []),
  (13, 1, .iastore, [40]),
  (14, 1, .aload_n 2, []),
  (15, 3, .getfield 100, [3, 2, 3, 4, 4140, 0]),
  (18, 1, .iload_n 3, []),
  (19, 1, .iaload, [40]),
  (20, 1, .iconst (-1), []),
  (21, 3, .if_icmp .ne 7, []),
  (24, 1, .iconst (-1), []),
  (25, 3, .goto 14, []),
  (28, 1, .aload_n 2, []),
  (29, 1, .iconst 0, []),
  (30, 1, .aload_n 2, []),
  (31, 3, .getfield 100, [3, 2, 3, 4, 4140, 0]),
  (34, 1, .iload_n 3, []),
  (35, 1, .iaload, [40]),
  (36, 3, .invokevirtual 103, [68, 1, 0, 0, 103]),
  (39, 2, .istore 5, []),
  (41, 2, .iload 5, []),
  (43, 1, .iconst (-1), []),
  (44, 3, .if_icmp .eq 52, []),
  (47, 2, .aload 4, []),
  (49, 3, .getfield 106, [5, 2, 3, 3, 2140, 0]),
  (52, 2, .iload 5, []),
  (54, 1, .iaload, [40]),
  (55, 3, .ifCond .le 41, []),
  (58, 1, .aload_n 0, []),
  (59, 3, .getfield 18, [8, 7, 3, 3, 4140, 0]),
  (62, 1, .iload_n 3, []),
  (63, 1, .aload_n 1, []),
  (64, 3, .getfield 75, [2, 5, 3, 7, 6140, 0]),
  (67, 2, .aload 4, []),
  (69, 3, .getfield 111, [5, 0, 3, 1, 2140, 0]),
  (72, 2, .iload 5, []),
  (74, 1, .iaload, [40]),
  (75, 1, .iaload, [40]),
  (76, 1, .iastore, [40]),
  (77, 1, .aload_n 0, []),
  (78, 3, .getfield 22, [8, 8, 3, 4, 4140, 0]),
  (81, 1, .iload_n 3, []),
  (82, 1, .aload_n 1, []),
  (83, 3, .getfield 78, [2, 6, 3, 8, 6140, 0]),
  (86, 2, .aload 4, []),
  (88, 3, .getfield 114, [5, 1, 3, 2, 2140, 0]),
  (91, 2, .iload 5, []),
  (93, 1, .iaload, [40]),
  (94, 1, .iaload, [40]),
  (95, 1, .iastore, [40]),
  (96, 1, .return_, [])]
/-- SyntaxRules$Writer.isHeld(LSyntaxRules$Rule;II)Z -/
def c128 : List zE := [(0, 1, .aload_n 1, []),
  (1, 3, .getfield 52, [3, 14, 0, 0, 0, 0]),
  (4, 2, .istore 4, []),
  (6, 2, .iload 4, []),
  (8, 1, .aload_n 1, []),
  (9, 3, .getfield 57, [3, 13, 0, 0, 0, 0]),
  (12, 3, .if_icmp .ge 33, []),
  (15, 1, .aload_n 0, []),
  (16, 3, .getfield 18, [8, 7, 3, 3, 4140, 0]),
  (19, 2, .iload 4, []),
  (21, 1, .iaload, [40]),
  (22, 1, .iload_n 2, []),
  (23, 3, .if_icmp .gt 16, []),
  (26, 1, .iload_n 3, []),
  (27, 1, .aload_n 0, []),
  (28, 3, .getfield 22, [8, 8, 3, 4, 4140, 0]),
  (31, 2, .iload 4, []),
  (33, 1, .iaload, [40]),
  (34, 3, .if_icmp .gt 5, []),
  (37, 1, .iconst 1, []),
  (38, 1, .ireturn, [1]),
  (39, 3, .iinc 4 1, []),
  (42, 3, .goto (-36), []),
  (45, 1, .iconst 0, []),
  (46, 1, .ireturn, [1])]
/-- SyntaxRules$Writer.writePut(LSyntaxRules$Source;LSyntaxRules$Rule;)V -/
def c129 : List zE := [(0, 1, .aload_n 2, []),
  (1, 3, .getfield 52, [3, 14, 0, 0, 0, 0]),
  (4, 1, .istore_n 3, []),
  (5, 1, .iload_n 3, []),
  (6, 1, .aload_n 2, []),
  (7, 3, .getfield 57, [3, 13, 0, 0, 0, 0]),
  (10, 3, .if_icmp .ge 151, []),
  (13, 1, .aload_n 2, []),
  (14, 3, .getfield 100, [3, 2, 3, 4, 4140, 0]),
  (17, 1, .iload_n 3, []),
  (18, 1, .iaload, [40]),
  (19, 1, .iconst (-1), []),
  (20, 3, .if_icmp .eq 7, []),
  (23, 1, .iconst 1, []),
  (24, 3, .goto 4, []),
  (27, 1, .iconst 0, []),
  (28, 2, .istore 4, []),
  (30, 2, .iload 4, []),
  (32, 3, .ifCond .eq 22, []),
  (35, 1, .aload_n 0, []),
  (36, 3, .getfield 18, [8, 7, 3, 3, 4140, 0]),
  (39, 1, .iload_n 3, []),
  (40, 1, .iaload, [40]),
  (41, 1, .aload_n 0, []),
  (42, 3, .getfield 22, [8, 8, 3, 4, 4140, 0]),
  (45, 1, .iload_n 3, []),
  (46, 1, .iaload, [40]),
  (47, 3, .if_icmp .ne 7, []),
  (50, 1, .iconst 1, []),
  (51, 3, .goto 4, []),
  (54, 1, .iconst 0, []),
  (55, 2, .istore 5, []),
  (57, 1, .aload_n 2, []),
  (58, 3, .getfield 117, [3, 4, 3, 6, 4140, 0]),
  (61, 1, .iload_n 3, []),
  (62, 1, .iaload, [40]),
  (63, 1, .iconst (-1), []),
  (64, 3, .if_icmp .eq 14, []),
  (67, 2, .iload 5, []),
  (69, 3, .ifCond .ne 9, []),
  (72, 1, .aload_n 0, []),
  (73, 2, .bipush 32, []),
  (75, 3, .invokevirtual 92, [132, 0, 0, 108]),
  (78, 2, .iload 4, []),
  (80, 3, .ifCond .eq 26, []),
  (83, 1, .aload_n 0, []),
  (84, 1, .aload_n 1, []),
  (85, 3, .getfield 85, [2, 0, 3, 1, 101, 0]),
  (88, 1, .aload_n 0, []),
  (89, 3, .getfield 18, [8, 7, 3, 3, 4140, 0]),
  (92, 1, .iload_n 3, []),
  (93, 1, .iaload, [40]),
  (94, 1, .aload_n 0, []),
  (95, 3, .getfield 22, [8, 8, 3, 4, 4140, 0]),
  (98, 1, .iload_n 3, []),
  (99, 1, .iaload, [40]),
  (100, 3, .invokevirtual 88, [131, 0, 0, 0, 101, 108]),
  (103, 3, .goto 46, []),
  (106, 1, .aload_n 2, []),
  (107, 3, .getfield 120, [3, 1, 3, 3, 4140, 0]),
  (110, 1, .iload_n 3, []),
  (111, 1, .iaload, [40]),
  (112, 1, .iconst 4, []),
  (113, 3, .if_icmp .ne 9, []),
  (116, 1, .aload_n 0, []),
  (117, 2, .bipush 40, []),
  (119, 3, .invokevirtual 92, [132, 0, 0, 108]),
  (122, 1, .aload_n 0, []),
  (123, 1, .aload_n 2, []),
  (124, 3, .getfield 123, [3, 0, 3, 1, 101, 0]),
  (127, 1, .aload_n 2, []),
  (128, 3, .getfield 124, [3, 11, 3, 13, 4140, 0]),
  (131, 1, .iload_n 3, []),
  (132, 1, .iaload, [40]),
  (133, 1, .aload_n 2, []),
  (134, 3, .getfield 124, [3, 11, 3, 13, 4140, 0]),
  (137, 1, .iload_n 3, []),
  (138, 1, .iaload, [40]),
  (139, 1, .aload_n 2, []),
  (140, 3, .getfield 127, [3, 12, 3, 14, 4140, 0]),
  (143, 1, .iload_n 3, []),
  (144, 1, .iaload, [40]),
  (145, 1, .iadd, []),
  (146, 3, .invokevirtual 88, [131, 0, 0, 0, 101, 108]),
  (149, 1, .aload_n 0, []),
  (150, 1, .aload_n 2, []),
  (151, 1, .iload_n 3, []),
  (152, 3, .invokevirtual 130, [130, 0, 0, 103, 108]),
  (155, 3, .iinc 3 1, []),
  (158, 3, .goto (-153), []),
  (161, 1, .return_, [])]
/-- SyntaxRules$Writer.closeTerms(LSyntaxRules$Rule;I)V -/
def c130 : List zE := [(0, 1, .iload_n 2, []),
  (1, 1, .istore_n 3, []),
  (2, 1, .iconst 0, []),
  (3, 2, .istore 4, []),
  (5, 2, .iload 4, []),
  (7, 2, .bipush 20, []),
  (9, 3, .if_icmp .ge 52, []),
  (12, 1, .iload_n 3, []),
  (13, 1, .iconst (-1), []),
  (14, 3, .if_icmp .eq 47, []),
  (17, 1, .iload_n 3, []),
  (18, 1, .aload_n 1, []),
  (19, 3, .getfield 134, [3, 10, 3, 12, 4140, 0]),
  (22, 1, .iload_n 3, []),
  (23, 1, .iaload, [40]),
  (24, 1, .iadd, []),
  (25, 1, .iload_n 2, []),
  (26, 1, .iconst 1, []),
  (27, 1, .iadd, []),
  (28, 3, .if_icmp .eq 4, []),
  (31, 1, .return_, []),
  (32, 1, .aload_n 1, []),
  (33, 3, .getfield 120, [3, 1, 3, 3, 4140, 0]),
  (36, 1, .iload_n 3, []),
  (37, 1, .iaload, [40]),
  (38, 1, .iconst 4, []),
  (39, 3, .if_icmp .ne 9, []),
  (42, 1, .aload_n 0, []),
  (43, 2, .bipush 41, []),
  (45, 3, .invokevirtual 92, [132, 0, 0, 108]),
  (48, 1, .aload_n 1, []),
  (49, 3, .getfield 117, [3, 4, 3, 6, 4140, 0]),
  (52, 1, .iload_n 3, []),
  (53, 1, .iaload, [40]),
  (54, 1, .istore_n 3, []),
  (55, 3, .iinc 4 1, []),
  (58, 3, .goto (-53), []),
  (61, 1, .return_, [])]
/-- SyntaxRules$Writer.putRow(LSyntaxRules$Text;II)V -/
def c131 : List zE := [(0, 1, .iload_n 2, []),
  (1, 2, .istore 4, []),
  (3, 2, .iload 4, []),
  (5, 1, .iload_n 3, []),
  (6, 3, .if_icmp .ge 19, []),
  (9, 1, .aload_n 0, []),
  (10, 1, .aload_n 1, []),
  (11, 2, .iload 4, []),
  (13, 3, .invokevirtual 137, [44, 1, 0, 101]),
  (16, 3, .invokevirtual 92, [132, 0, 0, 108]),
  (19, 3, .iinc 4 1, []),
  (22, 3, .goto (-19), []),
  (25, 1, .return_, [])]
/-- SyntaxRules$Writer.putSign(I)V -/
def c132 : List zE := [(0, 1, .aload_n 0, []),
  (1, 3, .getfield 41, [8, 5, 1, 0, 0, 0]),
  (4, 3, .ifCond .eq 43, []),
  (7, 1, .aload_n 0, []),
  (8, 3, .getfield 38, [8, 4, 0, 0, 0, 0]),
  (11, 3, .invokestatic 140, [33, 1, 0]),
  (14, 3, .ifCond .eq 10, []),
  (17, 1, .iload_n 1, []),
  (18, 3, .invokestatic 140, [33, 1, 0]),
  (21, 3, .ifCond .ne 20, []),
  (24, 1, .aload_n 0, []),
  (25, 3, .getfield 38, [8, 4, 0, 0, 0, 0]),
  (28, 3, .invokestatic 144, [34, 1, 0]),
  (31, 3, .ifCond .eq 16, []),
  (34, 1, .iload_n 1, []),
  (35, 3, .invokestatic 144, [34, 1, 0]),
  (38, 3, .ifCond .eq 9, []),
  (41, 1, .aload_n 0, []),
  (42, 2, .bipush 32, []),
  (44, 3, .invokevirtual 147, [133, 0, 0, 108]),
  (47, 1, .aload_n 0, []),
  (48, 1, .iconst 0, []),
  (49, 3, .putfield 41, [8, 5, 1, 0, 0]),
  (52, 1, .aload_n 0, []),
  (53, 1, .iload_n 1, []),
  (54, 3, .invokevirtual 147, [133, 0, 0, 108]),
  (57, 1, .return_, [])]
/-- SyntaxRules$Writer.append(I)V -/
def c133 : List zE := [(0, 1, .aload_n 0, []),
  (1, 3, .getfield 25, [8, 0, 0, 0, 0, 0]),
  (4, 3, .sipush 300, []),
  (7, 3, .if_icmp .ge 16, []),
  (10, 1, .aload_n 0, []),
  (11, 3, .getfield 12, [8, 6, 3, 1, 101, 0]),
  (14, 3, .getfield 150, [1, 0, 3, 1, 30140, 0]),
  (17, 1, .aload_n 0, []),
  (18, 3, .getfield 25, [8, 0, 0, 0, 0, 0]),
  (21, 1, .iload_n 1, []),
  (22, 1, .iastore, [40]),
  (23, 1, .aload_n 0, []),
  (24, 3, .getfield 25, [8, 0, 0, 0, 0, 0]),
  (27, 1, .aload_n 0, []),
  (28, 3, .getfield 35, [8, 3, 0, 0, 0, 0]),
  (31, 3, .if_icmp .ne 8, []),
  (34, 1, .aload_n 0, []),
  (35, 1, .iload_n 1, []),
  (36, 3, .putfield 32, [8, 2, 0, 0, 0]),
  (39, 1, .aload_n 0, []),
  (40, 1, .iload_n 1, []),
  (41, 3, .putfield 38, [8, 4, 0, 0, 0]),
  (44, 1, .aload_n 0, []),
  (45, 1, .dup, []),
  (46, 3, .getfield 25, [8, 0, 0, 0, 0, 0]),
  (49, 1, .iconst 1, []),
  (50, 1, .iadd, []),
  (51, 3, .putfield 25, [8, 0, 0, 0, 0]),
  (54, 1, .return_, [])]
/-- SyntaxRules$Past.<init>()V -/
def c134 : List zE := [(0, 1, .aload_n 0, []),
  (1, 3, .invokespecial 3, [9999, 0, 0]),
  (4, 1, .aload_n 0, []),
  (5, 2, .bipush 8, []),
  (7, 3, .anewarray 9, [45]),
  (10, 3, .putfield 11, [9, 2, 3, 1, 1]),
  (13, 1, .iconst 0, []),
  (14, 1, .istore_n 1, []),
  (15, 1, .iload_n 1, []),
  (16, 2, .bipush 8, []),
  (18, 3, .if_icmp .ge 22, []),
  (21, 1, .aload_n 0, []),
  (22, 3, .getfield 11, [9, 2, 3, 1, 945, 0]),
  (25, 1, .iload_n 1, []),
  (26, 3, .new 9, [1, 2]),
  (29, 1, .dup, []),
  (30, 3, .invokespecial 17, [43, 0, 0]),
  (33, 1, .aastore, [45, 101]),
  (34, 3, .iinc 1 1, []),
  (37, 3, .goto (-22), []),
  (40, 1, .return_, [])]
/-- SyntaxRules$Past.add(LSyntaxRules$Text;)V -/
def c135 : List zE := [(0, 1, .aload_n 0, []),
  (1, 3, .getfield 18, [9, 0, 0, 0, 0, 0]),
  (4, 2, .bipush 8, []),
  (6, 3, .if_icmp .ne 26, []),
  (9, 1, .aload_n 0, []),
  (10, 1, .aload_n 0, []),
  (11, 3, .getfield 22, [9, 1, 0, 0, 0, 0]),
  (14, 1, .iconst 1, []),
  (15, 1, .iadd, []),
  (16, 2, .bipush 8, []),
  (18, 1, .irem, []),
  (19, 3, .putfield 22, [9, 1, 0, 0, 0]),
  (22, 1, .aload_n 0, []),
  (23, 1, .dup, []),
  (24, 3, .getfield 18, [9, 0, 0, 0, 0, 0]),
  (27, 1, .iconst 1, []),
  (28, 1, .isub, []),
  (29, 3, .putfield 18, [9, 0, 0, 0, 0]),
  (32, 1, .aload_n 0, []),
  (33, 3, .getfield 11, [9, 2, 3, 1, 945, 0]),
  (36, 1, .aload_n 0, []),
  (37, 3, .getfield 22, [9, 1, 0, 0, 0, 0]),
  (40, 1, .aload_n 0, []),
  (41, 3, .getfield 18, [9, 0, 0, 0, 0, 0]),
  (44, 1, .iadd, []),
  (45, 2, .bipush 8, []),
  (47, 1, .irem, []),
  (48, 1, .aaload, [45, 101]),
  (49, 1, .aload_n 1, []),
  (50, 3, .invokevirtual 25, [45, 0, 101, 101]),
  (53, 1, .aload_n 0, []),
  (54, 1, .dup, []),
  (55, 3, .getfield 18, [9, 0, 0, 0, 0, 0]),
  (58, 1, .iconst 1, []),
  (59, 1, .iadd, []),
  (60, 3, .putfield 18, [9, 0, 0, 0, 0]),
  (63, 1, .return_, [])]
/-- SyntaxRules$Past.takeLatest()LSyntaxRules$Text; -/
def c136 : List zE := [(0, 1, .aload_n 0, []),
  (1, 3, .getfield 18, [9, 0, 0, 0, 0, 0]),
  (4, 3, .ifCond .ne 5, []),
  (7, 1, .aconst_null, []),
  (8, 1, .areturn, [0]),
  (9, 1, .aload_n 0, []),
  (10, 1, .dup, []),
  (11, 3, .getfield 18, [9, 0, 0, 0, 0, 0]),
  (14, 1, .iconst 1, []),
  (15, 1, .isub, []),
  (16, 3, .putfield 18, [9, 0, 0, 0, 0]),
  (19, 1, .aload_n 0, []),
  (20, 3, .getfield 11, [9, 2, 3, 1, 945, 0]),
  (23, 1, .aload_n 0, []),
  (24, 3, .getfield 22, [9, 1, 0, 0, 0, 0]),
  (27, 1, .aload_n 0, []),
  (28, 3, .getfield 18, [9, 0, 0, 0, 0, 0]),
  (31, 1, .iadd, []),
  (32, 2, .bipush 8, []),
  (34, 1, .irem, []),
  (35, 1, .aaload, [45, 101]),
  (36, 1, .areturn, [0])]
/-- SyntaxRules$Past.forget()V -/
def c137 : List zE := [(0, 1, .aload_n 0, []),
  (1, 1, .iconst 0, []),
  (2, 3, .putfield 18, [9, 0, 0, 0, 0]),
  (5, 1, .return_, [])]
/-- SyntaxRules$Kept.<init>()V -/
def c138 : List zE := [(0, 1, .aload_n 0, []),
  (1, 3, .invokespecial 3, [9999, 0, 0]),
  (4, 1, .aload_n 0, []),
  (5, 3, .new 9, [1, 2]),
  (8, 1, .dup, []),
  (9, 3, .invokespecial 11, [43, 0, 0]),
  (12, 3, .putfield 12, [10, 1, 3, 1, 0]),
  (15, 1, .aload_n 0, []),
  (16, 2, .bipush 8, []),
  (18, 3, .anewarray 18, [44]),
  (21, 3, .putfield 20, [10, 2, 3, 1, 1]),
  (24, 1, .return_, [])]
/-- SyntaxRulesModel.<init>()V -/
def c139 : List zE := [(0, 1, .aload_n 0, []),
  (1, 3, .invokespecial 1, [9999, 0, 0]),
  (4, 1, .aload_n 0, []),
  (5, 3, .sipush 2709, []),
  (8, 2, .newarray .int, [40]),
  (10, 3, .putfield 7, [11, 1, 3, 1, 0]),
  (13, 1, .aload_n 0, []),
  (14, 3, .sipush 5418, []),
  (17, 2, .newarray .int, [40]),
  (19, 3, .putfield 13, [11, 2, 3, 1, 0]),
  (22, 1, .aload_n 0, []),
  (23, 1, .iconst 2, []),
  (24, 2, .newarray .boolean, [41]),
  (26, 3, .putfield 16, [11, 3, 3, 1, 0]),
  (29, 1, .aload_n 0, []),
  (30, 3, .sipush 2408, []),
  (33, 2, .newarray .int, [40]),
  (35, 3, .putfield 20, [11, 4, 3, 1, 0]),
  (38, 1, .aload_n 0, []),
  (39, 3, .sipush 300, []),
  (42, 2, .newarray .byte, [42]),
  (44, 3, .putfield 23, [11, 6, 3, 1, 0]),
  (47, 1, .aload_n 0, []),
  (48, 3, .sipush 302, []),
  (51, 2, .newarray .int, [40]),
  (53, 3, .putfield 27, [11, 8, 3, 1, 0]),
  (56, 1, .aload_n 0, []),
  (57, 3, .sipush 600, []),
  (60, 2, .newarray .int, [40]),
  (62, 3, .putfield 30, [11, 10, 3, 1, 0]),
  (65, 1, .aload_n 0, []),
  (66, 3, .sipush 450, []),
  (69, 2, .newarray .int, [40]),
  (71, 3, .putfield 33, [11, 12, 3, 1, 0]),
  (74, 1, .aload_n 0, []),
  (75, 2, .bipush 16, []),
  (77, 2, .newarray .int, [40]),
  (79, 3, .putfield 36, [11, 14, 3, 1, 0]),
  (82, 1, .aload_n 0, []),
  (83, 3, .sipush 600, []),
  (86, 2, .newarray .int, [40]),
  (88, 3, .putfield 39, [11, 19, 3, 1, 0]),
  (91, 1, .aload_n 0, []),
  (92, 3, .sipush 450, []),
  (95, 2, .newarray .int, [40]),
  (97, 3, .putfield 42, [11, 21, 3, 1, 0]),
  (100, 1, .aload_n 0, []),
  (101, 3, .sipush 3936, []),
  (104, 2, .newarray .int, [40]),
  (106, 3, .putfield 45, [11, 23, 3, 1, 0]),
  (109, 1, .aload_n 0, []),
  (110, 2, .bipush 16, []),
  (112, 2, .newarray .int, [40]),
  (114, 3, .putfield 48, [11, 24, 3, 1, 0]),
  (117, 1, .aload_n 0, []),
  (118, 3, .sipush 492, []),
  (121, 2, .newarray .int, [40]),
  (123, 3, .putfield 51, [11, 25, 3, 1, 0]),
  (126, 1, .aload_n 0, []),
  (127, 1, .iconst 2, []),
  (128, 2, .newarray .int, [40]),
  (130, 3, .putfield 54, [11, 26, 3, 1, 0]),
  (133, 1, .aload_n 0, []),
  (134, 2, .bipush 26, []),
  (136, 2, .newarray .int, [40]),
  (138, 3, .putfield 57, [11, 30, 3, 1, 0]),
  (141, 1, .aload_n 0, []),
  (142, 2, .bipush 21, []),
  (144, 2, .newarray .int, [40]),
  (146, 3, .putfield 60, [11, 31, 3, 1, 0]),
  (149, 1, .aload_n 0, []),
  (150, 1, .iconst 3, []),
  (151, 2, .newarray .int, [40]),
  (153, 3, .putfield 63, [11, 34, 3, 1, 0]),
  (156, 1, .aload_n 0, []),
  (157, 2, .bipush 26, []),
  (159, 2, .newarray .int, [40]),
  (161, 3, .putfield 66, [11, 37, 3, 1, 0]),
  (164, 1, .aload_n 0, []),
  (165, 2, .bipush 26, []),
  (167, 2, .newarray .int, [40]),
  (169, 3, .putfield 69, [11, 38, 3, 1, 0]),
  (172, 1, .aload_n 0, []),
  (173, 2, .bipush 21, []),
  (175, 2, .newarray .int, [40]),
  (177, 3, .putfield 72, [11, 39, 3, 1, 0]),
  (180, 1, .aload_n 0, []),
  (181, 2, .bipush 21, []),
  (183, 2, .newarray .int, [40]),
  (185, 3, .putfield 75, [11, 40, 3, 1, 0]),
  (188, 1, .aload_n 0, []),
  (189, 2, .bipush 8, []),
  (191, 2, .newarray .int, [40]),
  (193, 3, .putfield 78, [11, 41, 3, 1, 0]),
  (196, 1, .aload_n 0, []),
  (197, 3, .sipush 320, []),
  (200, 2, .newarray .int, [40]),
  (202, 3, .putfield 81, [11, 42, 3, 1, 0]),
  (205, 1, .aload_n 0, []),
  (206, 3, .sipush 320, []),
  (209, 2, .newarray .int, [40]),
  (211, 3, .putfield 84, [11, 43, 3, 1, 0]),
  (214, 1, .aload_n 0, []),
  (215, 3, .sipush 320, []),
  (218, 2, .newarray .int, [40]),
  (220, 3, .putfield 87, [11, 44, 3, 1, 0]),
  (223, 1, .aload_n 0, []),
  (224, 3, .sipush 6720, []),
  (227, 2, .newarray .int, [40]),
  (229, 3, .putfield 90, [11, 45, 3, 1, 0]),
  (232, 1, .aload_n 0, []),
  (233, 3, .sipush 320, []),
  (236, 2, .newarray .int, [40]),
  (238, 3, .putfield 93, [11, 46, 3, 1, 0]),
  (241, 1, .aload_n 0, []),
  (242, 3, .sipush 6720, []),
  (245, 2, .newarray .int, [40]),
  (247, 3, .putfield 96, [11, 47, 3, 1, 0]),
  (250, 1, .aload_n 0, []),
  (251, 2, .bipush 21, []),
  (253, 2, .newarray .int, [40]),
  (255, 3, .putfield 99, [11, 48, 3, 1, 0]),
  (258, 1, .aload_n 0, []),
  (259, 2, .bipush 26, []),
  (261, 2, .newarray .int, [40]),
  (263, 3, .putfield 102, [11, 50, 3, 1, 0]),
  (266, 1, .aload_n 0, []),
  (267, 3, .sipush 546, []),
  (270, 2, .newarray .int, [40]),
  (272, 3, .putfield 105, [11, 51, 3, 1, 0]),
  (275, 1, .aload_n 0, []),
  (276, 3, .sipush 320, []),
  (279, 2, .newarray .int, [40]),
  (281, 3, .putfield 108, [11, 52, 3, 1, 0]),
  (284, 1, .aload_n 0, []),
  (285, 3, .sipush 320, []),
  (288, 2, .newarray .int, [40]),
  (290, 3, .putfield 111, [11, 53, 3, 1, 0]),
  (293, 1, .aload_n 0, []),
  (294, 3, .sipush 320, []),
  (297, 2, .newarray .boolean, [41]),
  (299, 3, .putfield 114, [11, 56, 3, 1, 0]),
  (302, 1, .aload_n 0, []),
  (303, 2, .bipush 60, []),
  (305, 2, .newarray .int, [40]),
  (307, 3, .putfield 117, [11, 57, 3, 1, 0]),
  (310, 1, .aload_n 0, []),
  (311, 2, .bipush 60, []),
  (313, 2, .newarray .int, [40]),
  (315, 3, .putfield 120, [11, 58, 3, 1, 0]),
  (318, 1, .aload_n 0, []),
  (319, 2, .bipush 60, []),
  (321, 2, .newarray .int, [40]),
  (323, 3, .putfield 123, [11, 60, 3, 1, 0]),
  (326, 1, .aload_n 0, []),
  (327, 3, .sipush 7000, []),
  (330, 2, .newarray .byte, [42]),
  (332, 3, .putfield 126, [11, 61, 3, 1, 0]),
  (335, 1, .aload_n 0, []),
  (336, 2, .bipush 26, []),
  (338, 2, .newarray .int, [40]),
  (340, 3, .putfield 129, [11, 64, 3, 1, 0]),
  (343, 1, .aload_n 0, []),
  (344, 2, .bipush 26, []),
  (346, 2, .newarray .int, [40]),
  (348, 3, .putfield 132, [11, 65, 3, 1, 0]),
  (351, 1, .aload_n 0, []),
  (352, 3, .sipush 2107, []),
  (355, 2, .newarray .int, [40]),
  (357, 3, .putfield 135, [11, 67, 3, 1, 1]),
  (360, 1, .aload_n 0, []),
  (361, 3, .getfield 7, [11, 1, 3, 1, 271040, 0]),
  (364, 1, .iconst 0, []),
  (365, 2, .bipush 97, []),
  (367, 1, .iastore, [40]),
  (368, 1, .aload_n 0, []),
  (369, 3, .getfield 7, [11, 1, 3, 1, 271040, 0]),
  (372, 3, .sipush 300, []),
  (375, 1, .iconst 1, []),
  (376, 1, .iastore, [40]),
  (377, 1, .aload_n 0, []),
  (378, 3, .invokevirtual 138, [156, 0, 111]),
  (381, 1, .return_, [])]
/-- SyntaxRulesModel.thrown()I -/
def c140 : List zE := [(0, 1, .aload_n 0, []),
  (1, 3, .getfield 141, [11, 0, 0, 0, 0, 0]),
  (4, 1, .ireturn, [0])]
/-- SyntaxRulesModel.in(JJJ)Z -/
def c141 : List zE := [(0, 1, .lload_n 0, []),
  (1, 1, .lload_n 2, []),
  (2, 1, .lcmp, []),
  (3, 3, .ifCond .lt 14, []),
  (6, 1, .lload_n 0, []),
  (7, 2, .lload 4, []),
  (9, 1, .lcmp, []),
  (10, 3, .ifCond .gt 7, []),
  (13, 1, .iconst 1, []),
  (14, 3, .goto 4, []),
  (17, 1, .iconst 0, []),
  (18, 1, .ireturn, [1])]
/-- SyntaxRulesModel.ruleAt(I)I -/
def c142 : List zE := [(0, 3, .sipush 301, []),
  (3, 3, .sipush 301, []),
  (6, 1, .iload_n 0, []),
  (7, 1, .imul, []),
  (8, 1, .iadd, []),
  (9, 1, .ireturn, [0])]
/-- SyntaxRulesModel.isRule(I)Z -/
def c143 : List zE := [(0, 1, .iload_n 1, []),
  (1, 1, .i2l, []),
  (2, 1, .lconst 0, []),
  (3, 3, .ldc2_w 145, [7]),
  (6, 3, .invokestatic 147, [141, 1, 1, 1, 1]),
  (9, 3, .ifCond .eq 23, []),
  (12, 1, .aload_n 0, []),
  (13, 3, .getfield 7, [11, 1, 3, 1, 271040, 0]),
  (16, 1, .iload_n 1, []),
  (17, 3, .invokestatic 151, [142, 1, 0]),
  (20, 3, .sipush 300, []),
  (23, 1, .iadd, []),
  (24, 1, .iaload, [40]),
  (25, 3, .ifCond .le 7, []),
  (28, 1, .iconst 1, []),
  (29, 3, .goto 4, []),
  (32, 1, .iconst 0, []),
  (33, 1, .ireturn, [1])]
/-- SyntaxRulesModel.isLetter(I)Z -/
def c144 : List zE := [(0, 1, .iload_n 0, []),
  (1, 1, .i2l, []),
  (2, 3, .ldc2_w 155, [97]),
  (5, 3, .ldc2_w 157, [122]),
  (8, 3, .invokestatic 147, [141, 1, 1, 1, 1]),
  (11, 1, .ireturn, [1])]
/-- SyntaxRulesModel.isDigit(I)Z -/
def c145 : List zE := [(0, 1, .iload_n 0, []),
  (1, 1, .i2l, []),
  (2, 3, .ldc2_w 159, [48]),
  (5, 3, .ldc2_w 161, [57]),
  (8, 3, .invokestatic 147, [141, 1, 1, 1, 1]),
  (11, 1, .ireturn, [1])]
/-- SyntaxRulesModel.sign(I)I -/
def c146 : List zE := [(0, 1, .aload_n 0, []),
  (1, 1, .iconst 0, []),
  (2, 3, .putfield 141, [11, 0, 0, 0, 0]),
  (5, 1, .aload_n 0, []),
  (6, 3, .getfield 163, [11, 7, 0, 0, 0, 0]),
  (9, 1, .iconst 4, []),
  (10, 1, .iadd, []),
  (11, 3, .sipush 300, []),
  (14, 3, .if_icmp .le 5, []),
  (17, 1, .iconst (-1), []),
  (18, 1, .ireturn, [0]),
  (19, 2, .bipush 24, []),
  (21, 1, .istore_n 2, []),
  (22, 1, .iload_n 2, []),
  (23, 3, .ifCond .lt 32, []),
  (26, 1, .aload_n 0, []),
  (27, 3, .getfield 23, [11, 6, 3, 5, 30142, 0]),
  (30, 1, .aload_n 0, []),
  (31, 3, .getfield 163, [11, 7, 0, 0, 0, 0]),
  (34, 1, .iload_n 1, []),
  (35, 1, .iload_n 2, []),
  (36, 1, .iushr, []),
  (37, 1, .i2b, []),
  (38, 1, .bastore, [42]),
  (39, 1, .aload_n 0, []),
  (40, 1, .dup, []),
  (41, 3, .getfield 163, [11, 7, 0, 0, 0, 0]),
  (44, 1, .iconst 1, []),
  (45, 1, .iadd, []),
  (46, 3, .putfield 163, [11, 7, 0, 0, 0]),
  (49, 3, .iinc 2 (-8), []),
  (52, 3, .goto (-30), []),
  (55, 1, .aload_n 0, []),
  (56, 3, .getfield 163, [11, 7, 0, 0, 0, 0]),
  (59, 1, .ireturn, [0])]
/-- SyntaxRulesModel.end(I)Z -/
def c147 : List zE := [(0, 1, .aload_n 0, []),
  (1, 1, .iconst 0, []),
  (2, 3, .putfield 141, [11, 0, 0, 0, 0]),
  (5, 1, .iload_n 1, []),
  (6, 1, .i2l, []),
  (7, 1, .lconst 0, []),
  (8, 1, .aload_n 0, []),
  (9, 3, .getfield 163, [11, 7, 0, 0, 0, 0]),
  (12, 1, .i2l, []),
  (13, 3, .invokestatic 147, [141, 1, 1, 1, 1]),
  (16, 3, .ifCond .ne 5, []),
  (19, 1, .iconst 0, []),
  (20, 1, .ireturn, [1]),
  (21, 1, .aload_n 0, []),
  (22, 1, .iload_n 1, []),
  (23, 3, .putfield 163, [11, 7, 0, 0, 0]),
  (26, 1, .iconst 1, []),
  (27, 1, .ireturn, [1])]
/-- SyntaxRulesModel.wrong()V -/
def c148 : List zE := [(0, 1, .aload_n 0, []),
  (1, 1, .aload_n 0, []),
  (2, 3, .getfield 166, [11, 18, 1, 0, 0, 0]),
  (5, 3, .ifCond .eq 10, []),
  (8, 1, .aload_n 0, []),
  (9, 3, .getfield 170, [11, 16, 0, 0, 0, 0]),
  (12, 3, .goto 7, []),
  (15, 1, .aload_n 0, []),
  (16, 3, .getfield 173, [11, 17, 0, 0, 0, 0]),
  (19, 3, .putfield 173, [11, 17, 0, 0, 0]),
  (22, 1, .aload_n 0, []),
  (23, 1, .iconst 0, []),
  (24, 3, .putfield 166, [11, 18, 1, 0, 0]),
  (27, 1, .return_, [])]
/-- SyntaxRulesModel.here()I -/
def c149 : List zE := [(0, 1, .aload_n 0, []),
  (1, 3, .getfield 170, [11, 16, 0, 0, 0, 0]),
  (4, 1, .aload_n 0, []),
  (5, 3, .getfield 176, [11, 9, 0, 0, 0, 0]),
  (8, 3, .if_icmp .ge 15, []),
  (11, 1, .aload_n 0, []),
  (12, 3, .getfield 27, [11, 8, 3, 6, 30340, 0]),
  (15, 1, .aload_n 0, []),
  (16, 3, .getfield 170, [11, 16, 0, 0, 0, 0]),
  (19, 1, .iaload, [40]),
  (20, 3, .goto 4, []),
  (23, 1, .iconst (-1), []),
  (24, 1, .ireturn, [0])]
/-- SyntaxRulesModel.readNote()V -/
def c150 : List zE := [(0, 1, .aload_n 0, []),
  (1, 3, .getfield 170, [11, 16, 0, 0, 0, 0]),
  (4, 1, .istore_n 1, []),
  (5, 1, .aload_n 0, []),
  (6, 1, .dup, []),
  (7, 3, .getfield 170, [11, 16, 0, 0, 0, 0]),
  (10, 1, .iconst 1, []),
  (11, 1, .iadd, []),
  (12, 3, .putfield 170, [11, 16, 0, 0, 0]),
  (15, 1, .aload_n 0, []),
  (16, 3, .getfield 166, [11, 18, 1, 0, 0, 0]),
  (19, 3, .ifCond .eq 58, []),
  (22, 1, .aload_n 0, []),
  (23, 3, .invokevirtual 179, [149, 1, 111]),
  (26, 2, .bipush 93, []),
  (28, 3, .if_icmp .eq 49, []),
  (31, 1, .aload_n 0, []),
  (32, 3, .invokevirtual 179, [149, 1, 111]),
  (35, 2, .bipush 10, []),
  (37, 3, .if_icmp .eq 20, []),
  (40, 1, .aload_n 0, []),
  (41, 3, .invokevirtual 179, [149, 1, 111]),
  (44, 1, .i2l, []),
  (45, 3, .ldc2_w 183, [32]),
  (48, 3, .ldc2_w 185, [126]),
  (51, 3, .invokestatic 147, [141, 1, 1, 1, 1]),
  (54, 3, .ifCond .eq 16, []),
  (57, 1, .aload_n 0, []),
  (58, 1, .dup, []),
  (59, 3, .getfield 170, [11, 16, 0, 0, 0, 0]),
  (62, 1, .iconst 1, []),
  (63, 1, .iadd, []),
  (64, 3, .putfield 170, [11, 16, 0, 0, 0]),
  (67, 3, .goto (-52), []),
  (70, 1, .aload_n 0, []),
  (71, 3, .invokevirtual 187, [148, 0, 111]),
  (74, 3, .goto (-59), []),
  (77, 1, .aload_n 0, []),
  (78, 1, .dup, []),
  (79, 3, .getfield 170, [11, 16, 0, 0, 0, 0]),
  (82, 1, .aload_n 0, []),
  (83, 3, .getfield 166, [11, 18, 1, 0, 0, 0]),
  (86, 3, .ifCond .eq 7, []),
  (89, 1, .iconst 1, []),
  (90, 3, .goto 4, []),
  (93, 1, .iconst 0, []),
  (94, 1, .iadd, []),
  (95, 3, .putfield 170, [11, 16, 0, 0, 0]),
  (98, 1, .aload_n 0, []),
  (99, 3, .getfield 166, [11, 18, 1, 0, 0, 0]),
  (102, 3, .ifCond .eq 71, []),
  (105, 1, .iconst 3, []),
  (106, 1, .aload_n 0, []),
  (107, 3, .getfield 190, [11, 13, 0, 0, 0, 0]),
  (110, 1, .imul, []),
  (111, 1, .istore_n 2, []),
  (112, 1, .aload_n 0, []),
  (113, 3, .getfield 33, [11, 12, 3, 8, 45140, 0]),
  (116, 1, .iload_n 2, []),
  (117, 1, .iload_n 1, []),
  (118, 1, .iastore, [40]),
  (119, 1, .aload_n 0, []),
  (120, 3, .getfield 33, [11, 12, 3, 8, 45140, 0]),
  (123, 1, .iload_n 2, []),
  (124, 1, .iconst 1, []),
  (125, 1, .iadd, []),
  (126, 1, .aload_n 0, []),
  (127, 3, .getfield 170, [11, 16, 0, 0, 0, 0]),
  (130, 1, .iload_n 1, []),
  (131, 1, .isub, []),
  (132, 1, .iastore, [40]),
  (133, 1, .aload_n 0, []),
  (134, 3, .getfield 33, [11, 12, 3, 8, 45140, 0]),
  (137, 1, .iload_n 2, []),
  (138, 1, .iconst 2, []),
  (139, 1, .iadd, []),
  (140, 1, .aload_n 0, []),
  (141, 3, .getfield 193, [11, 15, 0, 0, 0, 0]),
  (144, 3, .ifCond .ne 7, []),
  (147, 1, .iconst (-1), []),
  (148, 3, .goto 14, []),
  (151, 1, .aload_n 0, []),
  (152, 3, .getfield 36, [11, 14, 3, 9, 1740, 0]),
  (155, 1, .aload_n 0, []),
  (156, 3, .getfield 193, [11, 15, 0, 0, 0, 0]),
  (159, 1, .iconst 1, []),
  (160, 1, .isub, []),
  (161, 1, .iaload, [40]),
  (162, 1, .iastore, [40]),
  (163, 1, .aload_n 0, []),
  (164, 1, .dup, []),
  (165, 3, .getfield 190, [11, 13, 0, 0, 0, 0]),
  (168, 1, .iconst 1, []),
  (169, 1, .iadd, []),
  (170, 3, .putfield 190, [11, 13, 0, 0, 0]),
  (173, 1, .return_, [])]
/-- SyntaxRulesModel.skipLayout()V -/
def c151 : List zE := [(0, 1, .aload_n 0, []),
  (1, 3, .getfield 166, [11, 18, 1, 0, 0, 0]),
  (4, 3, .ifCond .eq 59, []),
  (7, 1, .aload_n 0, []),
  (8, 3, .invokevirtual 179, [149, 1, 111]),
  (11, 2, .bipush 32, []),
  (13, 3, .if_icmp .eq 21, []),
  (16, 1, .aload_n 0, []),
  (17, 3, .invokevirtual 179, [149, 1, 111]),
  (20, 2, .bipush 10, []),
  (22, 3, .if_icmp .eq 12, []),
  (25, 1, .aload_n 0, []),
  (26, 3, .invokevirtual 179, [149, 1, 111]),
  (29, 2, .bipush 91, []),
  (31, 3, .if_icmp .ne 32, []),
  (34, 1, .aload_n 0, []),
  (35, 3, .invokevirtual 179, [149, 1, 111]),
  (38, 2, .bipush 91, []),
  (40, 3, .if_icmp .ne 10, []),
  (43, 1, .aload_n 0, []),
  (44, 3, .invokevirtual 196, [150, 0, 111]),
  (47, 3, .goto (-47), []),
  (50, 1, .aload_n 0, []),
  (51, 1, .dup, []),
  (52, 3, .getfield 170, [11, 16, 0, 0, 0, 0]),
  (55, 1, .iconst 1, []),
  (56, 1, .iadd, []),
  (57, 3, .putfield 170, [11, 16, 0, 0, 0]),
  (60, 3, .goto (-60), []),
  (63, 1, .return_, [])]
/-- SyntaxRulesModel.readRow(ZI)I -/
def c152 : List zE := [(0, 1, .aload_n 0, []),
  (1, 3, .getfield 170, [11, 16, 0, 0, 0, 0]),
  (4, 1, .istore_n 3, []),
  (5, 1, .aload_n 0, []),
  (6, 3, .getfield 166, [11, 18, 1, 0, 0, 0]),
  (9, 3, .ifCond .eq 60, []),
  (12, 1, .iload_n 1, []),
  (13, 3, .ifCond .eq 16, []),
  (16, 1, .aload_n 0, []),
  (17, 3, .invokevirtual 179, [149, 1, 111]),
  (20, 3, .invokestatic 199, [144, 1, 0]),
  (23, 3, .ifCond .eq 46, []),
  (26, 3, .goto 13, []),
  (29, 1, .aload_n 0, []),
  (30, 3, .invokevirtual 179, [149, 1, 111]),
  (33, 3, .invokestatic 203, [145, 1, 0]),
  (36, 3, .ifCond .eq 33, []),
  (39, 1, .aload_n 0, []),
  (40, 3, .getfield 170, [11, 16, 0, 0, 0, 0]),
  (43, 1, .iload_n 3, []),
  (44, 1, .isub, []),
  (45, 1, .iload_n 2, []),
  (46, 3, .if_icmp .ne 10, []),
  (49, 1, .aload_n 0, []),
  (50, 3, .invokevirtual 187, [148, 0, 111]),
  (53, 3, .goto (-48), []),
  (56, 1, .aload_n 0, []),
  (57, 1, .dup, []),
  (58, 3, .getfield 170, [11, 16, 0, 0, 0, 0]),
  (61, 1, .iconst 1, []),
  (62, 1, .iadd, []),
  (63, 3, .putfield 170, [11, 16, 0, 0, 0]),
  (66, 3, .goto (-61), []),
  (69, 1, .aload_n 0, []),
  (70, 3, .getfield 170, [11, 16, 0, 0, 0, 0]),
  (73, 1, .iload_n 3, []),
  (74, 1, .isub, []),
  (75, 1, .ireturn, [0])]
/-- SyntaxRulesModel.readNode()V -/
def c153 : List zE := [(0, 1, .aload_n 0, []),
  (1, 3, .invokevirtual 179, [149, 1, 111]),
  (4, 1, .istore_n 1, []),
  (5, 1, .iload_n 1, []),
  (6, 3, .invokestatic 199, [144, 1, 0]),
  (9, 3, .ifCond .ne 16, []),
  (12, 1, .iload_n 1, []),
  (13, 3, .invokestatic 203, [145, 1, 0]),
  (16, 3, .ifCond .ne 9, []),
  (19, 1, .iload_n 1, []),
  (20, 2, .bipush 40, []),
  (22, 3, .if_icmp .ne 7, []),
  (25, 1, .iconst 1, []),
  (26, 3, .goto 4, []),
  (29, 1, .iconst 0, []),
  (30, 1, .istore_n 2, []),
  (31, 1, .iload_n 2, []),
  (32, 3, .ifCond .eq 60, []),
  (35, 1, .aload_n 0, []),
  (36, 3, .getfield 206, [11, 11, 0, 0, 0, 0]),
  (39, 2, .bipush 60, []),
  (41, 3, .if_icmp .eq 51, []),
  (44, 1, .aload_n 0, []),
  (45, 3, .getfield 193, [11, 15, 0, 0, 0, 0]),
  (48, 3, .ifCond .le 29, []),
  (51, 1, .aload_n 0, []),
  (52, 3, .getfield 30, [11, 10, 3, 7, 60140, 0]),
  (55, 2, .bipush 10, []),
  (57, 1, .aload_n 0, []),
  (58, 3, .getfield 36, [11, 14, 3, 9, 1740, 0]),
  (61, 1, .aload_n 0, []),
  (62, 3, .getfield 193, [11, 15, 0, 0, 0, 0]),
  (65, 1, .iconst 1, []),
  (66, 1, .isub, []),
  (67, 1, .iaload, [40]),
  (68, 1, .imul, []),
  (69, 1, .iconst 3, []),
  (70, 1, .iadd, []),
  (71, 1, .iaload, [40]),
  (72, 2, .bipush 12, []),
  (74, 3, .if_icmp .eq 18, []),
  (77, 1, .iload_n 1, []),
  (78, 2, .bipush 40, []),
  (80, 3, .if_icmp .ne 17, []),
  (83, 1, .aload_n 0, []),
  (84, 3, .getfield 193, [11, 15, 0, 0, 0, 0]),
  (87, 2, .bipush 16, []),
  (89, 3, .if_icmp .ne 8, []),
  (92, 1, .aload_n 0, []),
  (93, 3, .invokevirtual 187, [148, 0, 111]),
  (96, 1, .return_, []),
  (97, 2, .bipush 10, []),
  (99, 1, .aload_n 0, []),
  (100, 3, .getfield 206, [11, 11, 0, 0, 0, 0]),
  (103, 1, .imul, []),
  (104, 1, .istore_n 3, []),
  (105, 1, .aload_n 0, []),
  (106, 3, .getfield 193, [11, 15, 0, 0, 0, 0]),
  (109, 3, .ifCond .ne 7, []),
  (112, 1, .iconst (-1), []),
  (113, 3, .goto 14, []),
  (116, 1, .aload_n 0, []),
  (117, 3, .getfield 36, [11, 14, 3, 9, 1740, 0]),
  (120, 1, .aload_n 0, []),
  (121, 3, .getfield 193, [11, 15, 0, 0, 0, 0]),
  (124, 1, .iconst 1, []),
  (125, 1, .isub, []),
  (126, 1, .iaload, [40]),
  (127, 2, .istore 4, []),
  (129, 1, .aload_n 0, []),
  (130, 3, .getfield 30, [11, 10, 3, 7, 60140, 0]),
  (133, 1, .iload_n 3, []),
  (134, 1, .iconst 0, []),
  (135, 1, .iadd, []),
  (136, 1, .iload_n 1, []),
  (137, 3, .invokestatic 203, [145, 1, 0]),
  (140, 3, .ifCond .eq 7, []),
  (143, 1, .iconst 0, []),
  (144, 3, .goto 15, []),
  (147, 1, .iload_n 1, []),
  (148, 3, .invokestatic 199, [144, 1, 0]),
  (151, 3, .ifCond .eq 7, []),
  (154, 1, .iconst 1, []),
  (155, 3, .goto 4, []),
  (158, 1, .iconst 2, []),
  (159, 1, .iastore, [40]),
  (160, 1, .aload_n 0, []),
  (161, 3, .getfield 30, [11, 10, 3, 7, 60140, 0]),
  (164, 1, .iload_n 3, []),
  (165, 1, .iconst 1, []),
  (166, 1, .iadd, []),
  (167, 2, .iload 4, []),
  (169, 1, .iastore, [40]),
  (170, 1, .aload_n 0, []),
  (171, 3, .getfield 30, [11, 10, 3, 7, 60140, 0]),
  (174, 1, .iload_n 3, []),
  (175, 1, .iconst 2, []),
  (176, 1, .iadd, []),
  (177, 2, .iload 4, []),
  (179, 1, .iconst (-1), []),
  (180, 3, .if_icmp .ne 7, []),
  (183, 1, .iconst (-1), []),
  (184, 3, .goto 15, []),
  (187, 1, .aload_n 0, []),
  (188, 3, .getfield 30, [11, 10, 3, 7, 60140, 0]),
  (191, 2, .bipush 10, []),
  (193, 2, .iload 4, []),
  (195, 1, .imul, []),
  (196, 1, .iconst 3, []),
  (197, 1, .iadd, []),
  (198, 1, .iaload, [40]),
  (199, 1, .iastore, [40]),
  (200, 1, .aload_n 0, []),
  (201, 3, .getfield 30, [11, 10, 3, 7, 60140, 0]),
  (204, 1, .iload_n 3, []),
  (205, 1, .iconst 3, []),
  (206, 1, .iadd, []),
  (207, 1, .iconst 0, []),
  (208, 1, .iastore, [40]),
  (209, 1, .aload_n 0, []),
  (210, 3, .getfield 30, [11, 10, 3, 7, 60140, 0]),
  (213, 1, .iload_n 3, []),
  (214, 1, .iconst 4, []),
  (215, 1, .iadd, []),
  (216, 1, .aload_n 0, []),
  (217, 3, .getfield 170, [11, 16, 0, 0, 0, 0]),
  (220, 1, .iastore, [40]),
  (221, 1, .aload_n 0, []),
  (222, 3, .getfield 30, [11, 10, 3, 7, 60140, 0]),
  (225, 1, .iload_n 3, []),
  (226, 2, .bipush 6, []),
  (228, 1, .iadd, []),
  (229, 1, .iconst 1, []),
  (230, 1, .iastore, [40]),
  (231, 1, .aload_n 0, []),
  (232, 3, .getfield 30, [11, 10, 3, 7, 60140, 0]),
  (235, 1, .iload_n 3, []),
  (236, 2, .bipush 7, []),
  (238, 1, .iadd, []),
  (239, 1, .aload_n 0, []),
  (240, 3, .getfield 193, [11, 15, 0, 0, 0, 0]),
  (243, 1, .iastore, [40]),
  (244, 2, .iload 4, []),
  (246, 1, .iconst (-1), []),
  (247, 3, .if_icmp .eq 19, []),
  (250, 1, .aload_n 0, []),
  (251, 3, .getfield 30, [11, 10, 3, 7, 60140, 0]),
  (254, 2, .bipush 10, []),
  (256, 2, .iload 4, []),
  (258, 1, .imul, []),
  (259, 1, .iconst 3, []),
  (260, 1, .iadd, []),
  (261, 1, .dup2, []),
  (262, 1, .iaload, [40]),
  (263, 1, .iconst 1, []),
  (264, 1, .iadd, []),
  (265, 1, .iastore, [40]),
  (266, 1, .aload_n 0, []),
  (267, 1, .dup, []),
  (268, 3, .getfield 206, [11, 11, 0, 0, 0, 0]),
  (271, 1, .iconst 1, []),
  (272, 1, .iadd, []),
  (273, 3, .putfield 206, [11, 11, 0, 0, 0]),
  (276, 1, .iload_n 1, []),
  (277, 2, .bipush 40, []),
  (279, 3, .if_icmp .ne 63, []),
  (282, 1, .aload_n 0, []),
  (283, 3, .getfield 36, [11, 14, 3, 9, 1740, 0]),
  (286, 1, .aload_n 0, []),
  (287, 3, .getfield 193, [11, 15, 0, 0, 0, 0]),
  (290, 1, .aload_n 0, []),
  (291, 3, .getfield 206, [11, 11, 0, 0, 0, 0]),
  (294, 1, .iconst 1, []),
  (295, 1, .isub, []),
  (296, 1, .iastore, [40]),
  (297, 1, .aload_n 0, []),
  (298, 1, .dup, []),
  (299, 3, .getfield 193, [11, 15, 0, 0, 0, 0]),
  (302, 1, .iconst 1, []),
  (303, 1, .iadd, []),
  (304, 3, .putfield 193, [11, 15, 0, 0, 0]),
  (307, 1, .aload_n 0, []),
  (308, 1, .dup, []),
  (309, 3, .getfield 170, [11, 16, 0, 0, 0, 0]),
  (312, 1, .iconst 1, []),
  (313, 1, .iadd, []),
  (314, 3, .putfield 170, [11, 16, 0, 0, 0]),
  (317, 1, .aload_n 0, []),
  (318, 3, .invokevirtual 209, [151, 0, 111]),
  (321, 1, .aload_n 0, []),
  (322, 3, .getfield 166, [11, 18, 1, 0, 0, 0]),
  (325, 3, .ifCond .eq 17, []),
  (328, 1, .aload_n 0, []),
  (329, 3, .invokevirtual 179, [149, 1, 111]),
  (332, 3, .invokestatic 199, [144, 1, 0]),
  (335, 3, .ifCond .ne 7, []),
  (338, 1, .aload_n 0, []),
  (339, 3, .invokevirtual 187, [148, 0, 111]),
  (342, 1, .aload_n 0, []),
  (343, 3, .getfield 30, [11, 10, 3, 7, 60140, 0]),
  (346, 1, .iload_n 3, []),
  (347, 2, .bipush 8, []),
  (349, 1, .iadd, []),
  (350, 1, .aload_n 0, []),
  (351, 3, .getfield 170, [11, 16, 0, 0, 0, 0]),
  (354, 1, .iastore, [40]),
  (355, 1, .aload_n 0, []),
  (356, 3, .getfield 30, [11, 10, 3, 7, 60140, 0]),
  (359, 1, .iload_n 3, []),
  (360, 2, .bipush 9, []),
  (362, 1, .iadd, []),
  (363, 1, .aload_n 0, []),
  (364, 1, .iload_n 1, []),
  (365, 3, .invokestatic 203, [145, 1, 0]),
  (368, 3, .ifCond .ne 7, []),
  (371, 1, .iconst 1, []),
  (372, 3, .goto 4, []),
  (375, 1, .iconst 0, []),
  (376, 1, .iload_n 1, []),
  (377, 3, .invokestatic 203, [145, 1, 0]),
  (380, 3, .ifCond .eq 7, []),
  (383, 1, .iconst 4, []),
  (384, 3, .goto 5, []),
  (387, 2, .bipush 8, []),
  (389, 3, .invokevirtual 212, [152, 1, 0, 0, 111]),
  (392, 1, .iastore, [40]),
  (393, 1, .aload_n 0, []),
  (394, 3, .getfield 30, [11, 10, 3, 7, 60140, 0]),
  (397, 1, .iload_n 3, []),
  (398, 1, .iconst 5, []),
  (399, 1, .iadd, []),
  (400, 1, .aload_n 0, []),
  (401, 3, .getfield 170, [11, 16, 0, 0, 0, 0]),
  (404, 1, .iastore, [40]),
  (405, 1, .return_, [])]
/-- SyntaxRulesModel.close()V -/
def c154 : List zE := [(0, 1, .aload_n 0, []),
  (1, 1, .dup, []),
  (2, 3, .getfield 193, [11, 15, 0, 0, 0, 0]),
  (5, 1, .iconst 1, []),
  (6, 1, .isub, []),
  (7, 3, .putfield 193, [11, 15, 0, 0, 0]),
  (10, 2, .bipush 10, []),
  (12, 1, .aload_n 0, []),
  (13, 3, .getfield 36, [11, 14, 3, 9, 1740, 0]),
  (16, 1, .aload_n 0, []),
  (17, 3, .getfield 193, [11, 15, 0, 0, 0, 0]),
  (20, 1, .iaload, [40]),
  (21, 1, .imul, []),
  (22, 1, .istore_n 1, []),
  (23, 1, .aload_n 0, []),
  (24, 1, .dup, []),
  (25, 3, .getfield 170, [11, 16, 0, 0, 0, 0]),
  (28, 1, .iconst 1, []),
  (29, 1, .iadd, []),
  (30, 3, .putfield 170, [11, 16, 0, 0, 0]),
  (33, 1, .aload_n 0, []),
  (34, 3, .getfield 30, [11, 10, 3, 7, 60140, 0]),
  (37, 1, .iload_n 1, []),
  (38, 1, .iconst 5, []),
  (39, 1, .iadd, []),
  (40, 1, .aload_n 0, []),
  (41, 3, .getfield 170, [11, 16, 0, 0, 0, 0]),
  (44, 1, .iastore, [40]),
  (45, 1, .aload_n 0, []),
  (46, 3, .getfield 30, [11, 10, 3, 7, 60140, 0]),
  (49, 1, .iload_n 1, []),
  (50, 2, .bipush 6, []),
  (52, 1, .iadd, []),
  (53, 1, .aload_n 0, []),
  (54, 3, .getfield 206, [11, 11, 0, 0, 0, 0]),
  (57, 1, .aload_n 0, []),
  (58, 3, .getfield 36, [11, 14, 3, 9, 1740, 0]),
  (61, 1, .aload_n 0, []),
  (62, 3, .getfield 193, [11, 15, 0, 0, 0, 0]),
  (65, 1, .iaload, [40]),
  (66, 1, .isub, []),
  (67, 1, .iastore, [40]),
  (68, 1, .return_, [])]
/-- SyntaxRulesModel.parses()Z -/
def c155 : List zE := [(0, 1, .aload_n 0, []),
  (1, 1, .iconst 0, []),
  (2, 3, .putfield 170, [11, 16, 0, 0, 0]),
  (5, 1, .aload_n 0, []),
  (6, 1, .iconst 1, []),
  (7, 3, .putfield 166, [11, 18, 1, 0, 0]),
  (10, 1, .aload_n 0, []),
  (11, 1, .iconst 0, []),
  (12, 3, .putfield 206, [11, 11, 0, 0, 0]),
  (15, 1, .aload_n 0, []),
  (16, 1, .iconst 0, []),
  (17, 3, .putfield 190, [11, 13, 0, 0, 0]),
  (20, 1, .aload_n 0, []),
  (21, 1, .iconst 0, []),
  (22, 3, .putfield 193, [11, 15, 0, 0, 0]),
  (25, 1, .aload_n 0, []),
  (26, 3, .invokevirtual 209, [151, 0, 111]),
  (29, 1, .aload_n 0, []),
  (30, 3, .getfield 166, [11, 18, 1, 0, 0, 0]),
  (33, 3, .ifCond .eq 69, []),
  (36, 1, .aload_n 0, []),
  (37, 3, .getfield 170, [11, 16, 0, 0, 0, 0]),
  (40, 1, .aload_n 0, []),
  (41, 3, .getfield 176, [11, 9, 0, 0, 0, 0]),
  (44, 3, .if_icmp .ge 58, []),
  (47, 1, .aload_n 0, []),
  (48, 3, .getfield 193, [11, 15, 0, 0, 0, 0]),
  (51, 3, .ifCond .le 19, []),
  (54, 1, .aload_n 0, []),
  (55, 3, .invokevirtual 179, [149, 1, 111]),
  (58, 2, .bipush 41, []),
  (60, 3, .if_icmp .ne 10, []),
  (63, 1, .aload_n 0, []),
  (64, 3, .invokevirtual 216, [154, 0, 111]),
  (67, 3, .goto 28, []),
  (70, 1, .aload_n 0, []),
  (71, 3, .getfield 193, [11, 15, 0, 0, 0, 0]),
  (74, 3, .ifCond .ne 17, []),
  (77, 1, .aload_n 0, []),
  (78, 3, .getfield 206, [11, 11, 0, 0, 0, 0]),
  (81, 3, .ifCond .le 10, []),
  (84, 1, .aload_n 0, []),
  (85, 3, .invokevirtual 187, [148, 0, 111]),
  (88, 3, .goto 7, []),
  (91, 1, .aload_n 0, []),
  (92, 3, .invokevirtual 219, [153, 0, 111]),
  (95, 1, .aload_n 0, []),
  (96, 3, .invokevirtual 209, [151, 0, 111]),
  (99, 3, .goto (-70), []),
  (102, 1, .aload_n 0, []),
  (103, 3, .getfield 166, [11, 18, 1, 0, 0, 0]),
  (106, 3, .ifCond .eq 21, []),
  (109, 1, .aload_n 0, []),
  (110, 3, .getfield 193, [11, 15, 0, 0, 0, 0]),
  (113, 3, .ifCond .gt 10, []),
  (116, 1, .aload_n 0, []),
  (117, 3, .getfield 206, [11, 11, 0, 0, 0, 0]),
  (120, 3, .ifCond .ne 7, []),
  (123, 1, .aload_n 0, []),
  (124, 3, .invokevirtual 187, [148, 0, 111]),
  (127, 1, .aload_n 0, []),
  (128, 3, .getfield 166, [11, 18, 1, 0, 0, 0]),
  (131, 1, .ireturn, [1])]
/-- SyntaxRulesModel.parseRow()V -/
def c156 : List zE := [(0, 1, .aload_n 0, []),
  (1, 1, .aload_n 0, []),
  (2, 3, .getfield 7, [11, 1, 3, 1, 271040, 0]),
  (5, 3, .sipush 300, []),
  (8, 1, .iaload, [40]),
  (9, 3, .putfield 176, [11, 9, 0, 0, 0]),
  (12, 1, .iconst 0, []),
  (13, 1, .istore_n 1, []),
  (14, 1, .iload_n 1, []),
  (15, 1, .aload_n 0, []),
  (16, 3, .getfield 176, [11, 9, 0, 0, 0, 0]),
  (19, 3, .if_icmp .ge 21, []),
  (22, 1, .aload_n 0, []),
  (23, 3, .getfield 27, [11, 8, 3, 6, 30340, 0]),
  (26, 1, .iload_n 1, []),
  (27, 1, .aload_n 0, []),
  (28, 3, .getfield 7, [11, 1, 3, 1, 271040, 0]),
  (31, 1, .iload_n 1, []),
  (32, 1, .iaload, [40]),
  (33, 1, .iastore, [40]),
  (34, 3, .iinc 1 1, []),
  (37, 3, .goto (-23), []),
  (40, 1, .aload_n 0, []),
  (41, 3, .invokevirtual 222, [155, 1, 111]),
  (44, 1, .pop, []),
  (45, 1, .aload_n 0, []),
  (46, 1, .aload_n 0, []),
  (47, 3, .getfield 206, [11, 11, 0, 0, 0, 0]),
  (50, 3, .putfield 226, [11, 20, 0, 0, 0]),
  (53, 1, .aload_n 0, []),
  (54, 1, .aload_n 0, []),
  (55, 3, .getfield 190, [11, 13, 0, 0, 0, 0]),
  (58, 3, .putfield 229, [11, 22, 0, 0, 0]),
  (61, 1, .iconst 0, []),
  (62, 1, .istore_n 1, []),
  (63, 1, .iload_n 1, []),
  (64, 2, .bipush 10, []),
  (66, 1, .aload_n 0, []),
  (67, 3, .getfield 226, [11, 20, 0, 0, 0, 0]),
  (70, 1, .imul, []),
  (71, 3, .if_icmp .ge 21, []),
  (74, 1, .aload_n 0, []),
  (75, 3, .getfield 39, [11, 19, 3, 10, 60140, 0]),
  (78, 1, .iload_n 1, []),
  (79, 1, .aload_n 0, []),
  (80, 3, .getfield 30, [11, 10, 3, 7, 60140, 0]),
  (83, 1, .iload_n 1, []),
  (84, 1, .iaload, [40]),
  (85, 1, .iastore, [40]),
  (86, 3, .iinc 1 1, []),
  (89, 3, .goto (-26), []),
  (92, 1, .iconst 0, []),
  (93, 1, .istore_n 1, []),
  (94, 1, .iload_n 1, []),
  (95, 1, .iconst 3, []),
  (96, 1, .aload_n 0, []),
  (97, 3, .getfield 229, [11, 22, 0, 0, 0, 0]),
  (100, 1, .imul, []),
  (101, 3, .if_icmp .ge 21, []),
  (104, 1, .aload_n 0, []),
  (105, 3, .getfield 42, [11, 21, 3, 11, 45140, 0]),
  (108, 1, .iload_n 1, []),
  (109, 1, .aload_n 0, []),
  (110, 3, .getfield 33, [11, 12, 3, 8, 45140, 0]),
  (113, 1, .iload_n 1, []),
  (114, 1, .iaload, [40]),
  (115, 1, .iastore, [40]),
  (116, 3, .iinc 1 1, []),
  (119, 3, .goto (-25), []),
  (122, 1, .return_, [])]
/-- SyntaxRulesModel.isNode(I)Z -/
def c157 : List zE := [(0, 1, .iload_n 1, []),
  (1, 1, .i2l, []),
  (2, 1, .lconst 0, []),
  (3, 1, .aload_n 0, []),
  (4, 3, .getfield 226, [11, 20, 0, 0, 0, 0]),
  (7, 1, .i2l, []),
  (8, 1, .lconst 1, []),
  (9, 1, .lsub, []),
  (10, 3, .invokestatic 147, [141, 1, 1, 1, 1]),
  (13, 1, .ireturn, [1])]
/-- SyntaxRulesModel.of(II)I -/
def c158 : List zE := [(0, 1, .aload_n 0, []),
  (1, 3, .getfield 39, [11, 19, 3, 10, 60140, 0]),
  (4, 2, .bipush 10, []),
  (6, 1, .iload_n 1, []),
  (7, 1, .imul, []),
  (8, 1, .iload_n 2, []),
  (9, 1, .iadd, []),
  (10, 1, .iaload, [40]),
  (11, 1, .ireturn, [0])]
/-- SyntaxRulesModel.remember([I)V -/
def c159 : List zE := [(0, 1, .aload_n 0, []),
  (1, 3, .getfield 232, [11, 5, 0, 0, 0, 0]),
  (4, 2, .bipush 8, []),
  (6, 3, .if_icmp .ne 49, []),
  (9, 1, .aload_n 0, []),
  (10, 1, .dup, []),
  (11, 3, .getfield 232, [11, 5, 0, 0, 0, 0]),
  (14, 1, .iconst 1, []),
  (15, 1, .isub, []),
  (16, 3, .putfield 232, [11, 5, 0, 0, 0]),
  (19, 1, .iconst 0, []),
  (20, 1, .istore_n 2, []),
  (21, 1, .iload_n 2, []),
  (22, 3, .sipush 301, []),
  (25, 1, .aload_n 0, []),
  (26, 3, .getfield 232, [11, 5, 0, 0, 0, 0]),
  (29, 1, .imul, []),
  (30, 3, .if_icmp .ge 25, []),
  (33, 1, .aload_n 0, []),
  (34, 3, .getfield 20, [11, 4, 3, 4, 240940, 0]),
  (37, 1, .iload_n 2, []),
  (38, 1, .aload_n 0, []),
  (39, 3, .getfield 20, [11, 4, 3, 4, 240940, 0]),
  (42, 1, .iload_n 2, []),
  (43, 3, .sipush 301, []),
  (46, 1, .iadd, []),
  (47, 1, .iaload, [40]),
  (48, 1, .iastore, [40]),
  (49, 3, .iinc 2 1, []),
  (52, 3, .goto (-31), []),
  (55, 1, .iconst 0, []),
  (56, 1, .istore_n 2, []),
  (57, 1, .iload_n 2, []),
  (58, 3, .sipush 301, []),
  (61, 3, .if_icmp .ge 27, []),
  (64, 1, .aload_n 0, []),
  (65, 3, .getfield 20, [11, 4, 3, 4, 240940, 0]),
  (68, 3, .sipush 301, []),
  (71, 1, .aload_n 0, []),
  (72, 3, .getfield 232, [11, 5, 0, 0, 0, 0]),
  (75, 1, .imul, []),
  (76, 1, .iload_n 2, []),
  (77, 1, .iadd, []),
  (78, 1, .aload_n 1, []),
  (79, 1, .iload_n 2, []),
  (80, 1, .iaload, [40]),
  (81, 1, .iastore, [40]),
  (82, 3, .iinc 2 1, []),
  (85, 3, .goto (-28), []),
  (88, 1, .aload_n 0, []),
  (89, 1, .dup, []),
  (90, 3, .getfield 232, [11, 5, 0, 0, 0, 0]),
  (93, 1, .iconst 1, []),
  (94, 1, .iadd, []),
  (95, 3, .putfield 232, [11, 5, 0, 0, 0]),
  (98, 1, .return_, [])]
/-- SyntaxRulesModel.become()V -/
def c160 : List zE := [(0, 1, .iconst 0, []),
  (1, 1, .istore_n 1, []),
  (2, 1, .iload_n 1, []),
  (3, 3, .sipush 300, []),
  (6, 3, .if_icmp .ge 33, []),
  (9, 1, .aload_n 0, []),
  (10, 3, .getfield 7, [11, 1, 3, 1, 271040, 0]),
  (13, 1, .iload_n 1, []),
  (14, 1, .iload_n 1, []),
  (15, 1, .aload_n 0, []),
  (16, 3, .getfield 176, [11, 9, 0, 0, 0, 0]),
  (19, 3, .if_icmp .ge 12, []),
  (22, 1, .aload_n 0, []),
  (23, 3, .getfield 27, [11, 8, 3, 6, 30340, 0]),
  (26, 1, .iload_n 1, []),
  (27, 1, .iaload, [40]),
  (28, 3, .goto 4, []),
  (31, 1, .iconst 0, []),
  (32, 1, .iastore, [40]),
  (33, 3, .iinc 1 1, []),
  (36, 3, .goto (-34), []),
  (39, 1, .aload_n 0, []),
  (40, 3, .getfield 7, [11, 1, 3, 1, 271040, 0]),
  (43, 3, .sipush 300, []),
  (46, 1, .aload_n 0, []),
  (47, 3, .getfield 176, [11, 9, 0, 0, 0, 0]),
  (50, 1, .iastore, [40]),
  (51, 1, .aload_n 0, []),
  (52, 3, .invokevirtual 138, [156, 0, 111]),
  (55, 1, .return_, [])]
/-- SyntaxRulesModel.takeText()V -/
def c161 : List zE := [(0, 1, .aload_n 0, []),
  (1, 1, .aload_n 0, []),
  (2, 3, .getfield 163, [11, 7, 0, 0, 0, 0]),
  (5, 3, .putfield 176, [11, 9, 0, 0, 0]),
  (8, 1, .iconst 0, []),
  (9, 1, .istore_n 1, []),
  (10, 1, .iload_n 1, []),
  (11, 1, .aload_n 0, []),
  (12, 3, .getfield 163, [11, 7, 0, 0, 0, 0]),
  (15, 3, .if_icmp .ge 25, []),
  (18, 1, .aload_n 0, []),
  (19, 3, .getfield 27, [11, 8, 3, 6, 30340, 0]),
  (22, 1, .iload_n 1, []),
  (23, 1, .aload_n 0, []),
  (24, 3, .getfield 23, [11, 6, 3, 5, 30142, 0]),
  (27, 1, .iload_n 1, []),
  (28, 1, .baload, [42]),
  (29, 3, .sipush 255, []),
  (32, 1, .iand, []),
  (33, 1, .iastore, [40]),
  (34, 3, .iinc 1 1, []),
  (37, 3, .goto (-27), []),
  (40, 1, .aload_n 0, []),
  (41, 1, .iconst 0, []),
  (42, 3, .putfield 163, [11, 7, 0, 0, 0]),
  (45, 1, .return_, [])]
/-- SyntaxRulesModel.source()I -/
def c162 : List zE := [(0, 1, .aload_n 0, []),
  (1, 1, .iconst 0, []),
  (2, 3, .putfield 141, [11, 0, 0, 0, 0]),
  (5, 1, .aload_n 0, []),
  (6, 3, .invokevirtual 235, [161, 0, 111]),
  (9, 1, .aload_n 0, []),
  (10, 3, .invokevirtual 222, [155, 1, 111]),
  (13, 3, .ifCond .ne 12, []),
  (16, 3, .sipush (-1000), []),
  (19, 1, .aload_n 0, []),
  (20, 3, .getfield 173, [11, 17, 0, 0, 0, 0]),
  (23, 1, .isub, []),
  (24, 1, .ireturn, [0]),
  (25, 1, .aload_n 0, []),
  (26, 1, .aload_n 0, []),
  (27, 3, .getfield 7, [11, 1, 3, 1, 271040, 0]),
  (30, 3, .invokevirtual 238, [159, 0, 140, 111]),
  (33, 1, .aload_n 0, []),
  (34, 3, .invokevirtual 242, [160, 0, 111]),
  (37, 1, .aload_n 0, []),
  (38, 3, .getfield 226, [11, 20, 0, 0, 0, 0]),
  (41, 1, .ireturn, [0])]
/-- SyntaxRulesModel.peek()I -/
def c163 : List zE := [(0, 1, .aload_n 0, []),
  (1, 3, .invokevirtual 179, [149, 1, 111]),
  (4, 2, .bipush 32, []),
  (6, 3, .if_icmp .ne 16, []),
  (9, 1, .aload_n 0, []),
  (10, 1, .dup, []),
  (11, 3, .getfield 170, [11, 16, 0, 0, 0, 0]),
  (14, 1, .iconst 1, []),
  (15, 1, .iadd, []),
  (16, 3, .putfield 170, [11, 16, 0, 0, 0]),
  (19, 3, .goto (-19), []),
  (22, 1, .aload_n 0, []),
  (23, 3, .invokevirtual 179, [149, 1, 111]),
  (26, 1, .ireturn, [0])]
/-- SyntaxRulesModel.put(III)I -/
def c164 : List zE := [(0, 3, .sipush 246, []),
  (3, 1, .aload_n 0, []),
  (4, 3, .getfield 245, [11, 32, 0, 0, 0, 0]),
  (7, 1, .imul, []),
  (8, 2, .bipush 6, []),
  (10, 1, .aload_n 0, []),
  (11, 3, .getfield 54, [11, 26, 3, 15, 340, 0]),
  (14, 1, .aload_n 0, []),
  (15, 3, .getfield 245, [11, 32, 0, 0, 0, 0]),
  (18, 1, .iaload, [40]),
  (19, 1, .imul, []),
  (20, 1, .iadd, []),
  (21, 2, .istore 4, []),
  (23, 1, .aload_n 0, []),
  (24, 3, .getfield 51, [11, 25, 3, 14, 49340, 0]),
  (27, 2, .iload 4, []),
  (29, 1, .iload_n 1, []),
  (30, 1, .iastore, [40]),
  (31, 1, .aload_n 0, []),
  (32, 3, .getfield 51, [11, 25, 3, 14, 49340, 0]),
  (35, 2, .iload 4, []),
  (37, 1, .iconst 1, []),
  (38, 1, .iadd, []),
  (39, 1, .iload_n 2, []),
  (40, 1, .iastore, [40]),
  (41, 1, .aload_n 0, []),
  (42, 3, .getfield 51, [11, 25, 3, 14, 49340, 0]),
  (45, 2, .iload 4, []),
  (47, 1, .iconst 2, []),
  (48, 1, .iadd, []),
  (49, 1, .iload_n 3, []),
  (50, 1, .iastore, [40]),
  (51, 1, .aload_n 0, []),
  (52, 3, .getfield 51, [11, 25, 3, 14, 49340, 0]),
  (55, 2, .iload 4, []),
  (57, 1, .iconst 3, []),
  (58, 1, .iadd, []),
  (59, 1, .iconst 0, []),
  (60, 1, .iastore, [40]),
  (61, 1, .aload_n 0, []),
  (62, 3, .getfield 51, [11, 25, 3, 14, 49340, 0]),
  (65, 2, .iload 4, []),
  (67, 1, .iconst 4, []),
  (68, 1, .iadd, []),
  (69, 1, .iconst 0, []),
  (70, 1, .iastore, [40]),
  (71, 1, .aload_n 0, []),
  (72, 3, .getfield 51, [11, 25, 3, 14, 49340, 0]),
  (75, 2, .iload 4, []),
  (77, 1, .iconst 5, []),
  (78, 1, .iadd, []),
  (79, 1, .iconst 0, []),
  (80, 1, .iastore, [40]),
  (81, 1, .aload_n 0, []),
  (82, 3, .getfield 54, [11, 26, 3, 15, 340, 0]),
  (85, 1, .aload_n 0, []),
  (86, 3, .getfield 245, [11, 32, 0, 0, 0, 0]),
  (89, 1, .dup2, []),
  (90, 1, .iaload, [40]),
  (91, 1, .iconst 1, []),
  (92, 1, .iadd, []),
  (93, 1, .iastore, [40]),
  (94, 2, .iload 4, []),
  (96, 1, .ireturn, [0])]
/-- SyntaxRulesModel.readName(II)V -/
def c165 : List zE := [(0, 1, .aload_n 0, []),
  (1, 1, .iload_n 1, []),
  (2, 1, .iload_n 2, []),
  (3, 1, .iconst 0, []),
  (4, 3, .invokevirtual 248, [164, 1, 0, 0, 0, 111]),
  (7, 1, .istore_n 3, []),
  (8, 1, .aload_n 0, []),
  (9, 3, .getfield 51, [11, 25, 3, 14, 49340, 0]),
  (12, 1, .iload_n 3, []),
  (13, 1, .iconst 3, []),
  (14, 1, .iadd, []),
  (15, 1, .aload_n 0, []),
  (16, 3, .getfield 170, [11, 16, 0, 0, 0, 0]),
  (19, 1, .iastore, [40]),
  (20, 1, .aload_n 0, []),
  (21, 3, .getfield 51, [11, 25, 3, 14, 49340, 0]),
  (24, 1, .iload_n 3, []),
  (25, 1, .iconst 4, []),
  (26, 1, .iadd, []),
  (27, 1, .aload_n 0, []),
  (28, 1, .iload_n 1, []),
  (29, 1, .iconst 4, []),
  (30, 3, .if_icmp .eq 7, []),
  (33, 1, .iconst 1, []),
  (34, 3, .goto 4, []),
  (37, 1, .iconst 0, []),
  (38, 1, .iload_n 1, []),
  (39, 1, .iconst 4, []),
  (40, 3, .if_icmp .ne 7, []),
  (43, 1, .iconst 4, []),
  (44, 3, .goto 5, []),
  (47, 2, .bipush 8, []),
  (49, 3, .invokevirtual 212, [152, 1, 0, 0, 111]),
  (52, 1, .iastore, [40]),
  (53, 1, .return_, [])]
/-- SyntaxRulesModel.readHole(I)I -/
def c166 : List zE := [(0, 1, .aload_n 0, []),
  (1, 1, .dup, []),
  (2, 3, .getfield 170, [11, 16, 0, 0, 0, 0]),
  (5, 1, .iconst 1, []),
  (6, 1, .iadd, []),
  (7, 3, .putfield 170, [11, 16, 0, 0, 0]),
  (10, 1, .aload_n 0, []),
  (11, 3, .invokevirtual 179, [149, 1, 111]),
  (14, 1, .istore_n 2, []),
  (15, 1, .iload_n 2, []),
  (16, 1, .i2l, []),
  (17, 3, .ldc2_w 252, [65]),
  (20, 3, .ldc2_w 254, [90]),
  (23, 3, .invokestatic 147, [141, 1, 1, 1, 1]),
  (26, 3, .ifCond .eq 36, []),
  (29, 1, .aload_n 0, []),
  (30, 3, .getfield 57, [11, 30, 3, 16, 2740, 0]),
  (33, 1, .iload_n 2, []),
  (34, 2, .bipush 65, []),
  (36, 1, .isub, []),
  (37, 1, .iaload, [40]),
  (38, 1, .iload_n 1, []),
  (39, 3, .if_icmp .eq 29, []),
  (42, 1, .aload_n 0, []),
  (43, 3, .getfield 245, [11, 32, 0, 0, 0, 0]),
  (46, 1, .iconst 1, []),
  (47, 3, .if_icmp .eq 15, []),
  (50, 1, .aload_n 0, []),
  (51, 3, .getfield 57, [11, 30, 3, 16, 2740, 0]),
  (54, 1, .iload_n 2, []),
  (55, 2, .bipush 65, []),
  (57, 1, .isub, []),
  (58, 1, .iaload, [40]),
  (59, 3, .ifCond .eq 9, []),
  (62, 1, .aload_n 0, []),
  (63, 3, .invokevirtual 187, [148, 0, 111]),
  (66, 1, .iconst 0, []),
  (67, 1, .ireturn, [0]),
  (68, 1, .aload_n 0, []),
  (69, 3, .getfield 57, [11, 30, 3, 16, 2740, 0]),
  (72, 1, .iload_n 2, []),
  (73, 2, .bipush 65, []),
  (75, 1, .isub, []),
  (76, 1, .iload_n 1, []),
  (77, 1, .iastore, [40]),
  (78, 1, .aload_n 0, []),
  (79, 1, .dup, []),
  (80, 3, .getfield 170, [11, 16, 0, 0, 0, 0]),
  (83, 1, .iconst 1, []),
  (84, 1, .iadd, []),
  (85, 3, .putfield 170, [11, 16, 0, 0, 0]),
  (88, 1, .iload_n 2, []),
  (89, 2, .bipush 65, []),
  (91, 1, .isub, []),
  (92, 1, .ireturn, [0])]
/-- SyntaxRulesModel.readKind(I)V -/
def c167 : List zE := [(0, 1, .aload_n 0, []),
  (1, 3, .getfield 51, [11, 25, 3, 14, 49340, 0]),
  (4, 1, .iload_n 1, []),
  (5, 1, .iconst 2, []),
  (6, 1, .iadd, []),
  (7, 1, .iconst (-1), []),
  (8, 1, .iastore, [40]),
  (9, 1, .aload_n 0, []),
  (10, 3, .getfield 245, [11, 32, 0, 0, 0, 0]),
  (13, 3, .ifCond .ne 98, []),
  (16, 1, .aload_n 0, []),
  (17, 3, .getfield 166, [11, 18, 1, 0, 0, 0]),
  (20, 3, .ifCond .eq 91, []),
  (23, 1, .aload_n 0, []),
  (24, 3, .invokevirtual 179, [149, 1, 111]),
  (27, 2, .bipush 58, []),
  (29, 3, .if_icmp .ne 82, []),
  (32, 1, .aload_n 0, []),
  (33, 1, .dup, []),
  (34, 3, .getfield 170, [11, 16, 0, 0, 0, 0]),
  (37, 1, .iconst 1, []),
  (38, 1, .iadd, []),
  (39, 3, .putfield 170, [11, 16, 0, 0, 0]),
  (42, 1, .aload_n 0, []),
  (43, 3, .invokevirtual 179, [149, 1, 111]),
  (46, 1, .istore_n 2, []),
  (47, 1, .aload_n 0, []),
  (48, 3, .getfield 51, [11, 25, 3, 14, 49340, 0]),
  (51, 1, .iload_n 1, []),
  (52, 1, .iconst 2, []),
  (53, 1, .iadd, []),
  (54, 1, .iload_n 2, []),
  (55, 2, .bipush 110, []),
  (57, 3, .if_icmp .ne 7, []),
  (60, 1, .iconst 0, []),
  (61, 3, .goto 14, []),
  (64, 1, .iload_n 2, []),
  (65, 2, .bipush 119, []),
  (67, 3, .if_icmp .ne 7, []),
  (70, 1, .iconst 1, []),
  (71, 3, .goto 4, []),
  (74, 1, .iconst 2, []),
  (75, 1, .iastore, [40]),
  (76, 1, .iload_n 2, []),
  (77, 2, .bipush 110, []),
  (79, 3, .if_icmp .eq 15, []),
  (82, 1, .iload_n 2, []),
  (83, 2, .bipush 119, []),
  (85, 3, .if_icmp .eq 9, []),
  (88, 1, .iload_n 2, []),
  (89, 2, .bipush 99, []),
  (91, 3, .if_icmp .ne 16, []),
  (94, 1, .aload_n 0, []),
  (95, 1, .dup, []),
  (96, 3, .getfield 170, [11, 16, 0, 0, 0, 0]),
  (99, 1, .iconst 1, []),
  (100, 1, .iadd, []),
  (101, 3, .putfield 170, [11, 16, 0, 0, 0]),
  (104, 3, .goto 7, []),
  (107, 1, .aload_n 0, []),
  (108, 3, .invokevirtual 187, [148, 0, 111]),
  (111, 1, .return_, [])]
/-- SyntaxRulesModel.readOpen()V -/
def c168 : List zE := [(0, 1, .aload_n 0, []),
  (1, 1, .dup, []),
  (2, 3, .getfield 170, [11, 16, 0, 0, 0, 0]),
  (5, 1, .iconst 1, []),
  (6, 1, .iadd, []),
  (7, 3, .putfield 170, [11, 16, 0, 0, 0]),
  (10, 1, .aload_n 0, []),
  (11, 3, .invokevirtual 256, [163, 1, 111]),
  (14, 3, .invokestatic 199, [144, 1, 0]),
  (17, 3, .ifCond .ne 8, []),
  (20, 1, .aload_n 0, []),
  (21, 3, .invokevirtual 187, [148, 0, 111]),
  (24, 1, .return_, []),
  (25, 1, .aload_n 0, []),
  (26, 3, .getfield 60, [11, 31, 3, 17, 2240, 0]),
  (29, 1, .aload_n 0, []),
  (30, 3, .getfield 193, [11, 15, 0, 0, 0, 0]),
  (33, 3, .sipush 246, []),
  (36, 1, .aload_n 0, []),
  (37, 3, .getfield 245, [11, 32, 0, 0, 0, 0]),
  (40, 1, .imul, []),
  (41, 2, .bipush 6, []),
  (43, 1, .aload_n 0, []),
  (44, 3, .getfield 54, [11, 26, 3, 15, 340, 0]),
  (47, 1, .aload_n 0, []),
  (48, 3, .getfield 245, [11, 32, 0, 0, 0, 0]),
  (51, 1, .iaload, [40]),
  (52, 1, .imul, []),
  (53, 1, .iadd, []),
  (54, 1, .iastore, [40]),
  (55, 1, .aload_n 0, []),
  (56, 1, .dup, []),
  (57, 3, .getfield 193, [11, 15, 0, 0, 0, 0]),
  (60, 1, .iconst 1, []),
  (61, 1, .iadd, []),
  (62, 3, .putfield 193, [11, 15, 0, 0, 0]),
  (65, 1, .aload_n 0, []),
  (66, 1, .iconst 5, []),
  (67, 1, .iconst 0, []),
  (68, 3, .invokevirtual 259, [165, 0, 0, 0, 111]),
  (71, 1, .return_, [])]
/-- SyntaxRulesModel.countItem(Z)V -/
def c169 : List zE := [(0, 1, .aload_n 0, []),
  (1, 3, .getfield 263, [11, 33, 1, 0, 0, 0]),
  (4, 3, .ifCond .ne 76, []),
  (7, 1, .aload_n 0, []),
  (8, 3, .getfield 193, [11, 15, 0, 0, 0, 0]),
  (11, 3, .ifCond .le 69, []),
  (14, 1, .aload_n 0, []),
  (15, 3, .getfield 51, [11, 25, 3, 14, 49340, 0]),
  (18, 1, .aload_n 0, []),
  (19, 3, .getfield 60, [11, 31, 3, 17, 2240, 0]),
  (22, 1, .aload_n 0, []),
  (23, 3, .getfield 193, [11, 15, 0, 0, 0, 0]),
  (26, 1, .iconst 1, []),
  (27, 1, .isub, []),
  (28, 1, .iaload, [40]),
  (29, 1, .iconst 1, []),
  (30, 1, .iadd, []),
  (31, 1, .dup2, []),
  (32, 1, .iaload, [40]),
  (33, 1, .iconst 1, []),
  (34, 1, .iadd, []),
  (35, 1, .iastore, [40]),
  (36, 1, .aload_n 0, []),
  (37, 3, .getfield 51, [11, 25, 3, 14, 49340, 0]),
  (40, 1, .aload_n 0, []),
  (41, 3, .getfield 60, [11, 31, 3, 17, 2240, 0]),
  (44, 1, .aload_n 0, []),
  (45, 3, .getfield 193, [11, 15, 0, 0, 0, 0]),
  (48, 1, .iconst 1, []),
  (49, 1, .isub, []),
  (50, 1, .iaload, [40]),
  (51, 1, .iconst 5, []),
  (52, 1, .iadd, []),
  (53, 1, .iload_n 1, []),
  (54, 3, .ifCond .eq 7, []),
  (57, 1, .iconst 1, []),
  (58, 3, .goto 21, []),
  (61, 1, .aload_n 0, []),
  (62, 3, .getfield 51, [11, 25, 3, 14, 49340, 0]),
  (65, 1, .aload_n 0, []),
  (66, 3, .getfield 60, [11, 31, 3, 17, 2240, 0]),
  (69, 1, .aload_n 0, []),
  (70, 3, .getfield 193, [11, 15, 0, 0, 0, 0]),
  (73, 1, .iconst 1, []),
  (74, 1, .isub, []),
  (75, 1, .iaload, [40]),
  (76, 1, .iconst 5, []),
  (77, 1, .iadd, []),
  (78, 1, .iaload, [40]),
  (79, 1, .iastore, [40]),
  (80, 1, .aload_n 0, []),
  (81, 1, .iconst 0, []),
  (82, 3, .putfield 263, [11, 33, 1, 0, 0]),
  (85, 1, .aload_n 0, []),
  (86, 1, .dup, []),
  (87, 3, .getfield 266, [11, 27, 0, 0, 0, 0]),
  (90, 1, .iconst 1, []),
  (91, 1, .iadd, []),
  (92, 3, .putfield 266, [11, 27, 0, 0, 0]),
  (95, 1, .return_, [])]
/-- SyntaxRulesModel.canBegin(I)Z -/
def c170 : List zE := [(0, 1, .iload_n 1, []),
  (1, 2, .bipush 63, []),
  (3, 3, .if_icmp .eq 23, []),
  (6, 1, .iload_n 1, []),
  (7, 2, .bipush 40, []),
  (9, 3, .if_icmp .eq 17, []),
  (12, 1, .iload_n 1, []),
  (13, 3, .invokestatic 199, [144, 1, 0]),
  (16, 3, .ifCond .ne 10, []),
  (19, 1, .iload_n 1, []),
  (20, 3, .invokestatic 203, [145, 1, 0]),
  (23, 3, .ifCond .eq 5, []),
  (26, 1, .iconst 1, []),
  (27, 1, .ireturn, [1]),
  (28, 1, .iload_n 1, []),
  (29, 2, .bipush 42, []),
  (31, 3, .if_icmp .ne 39, []),
  (34, 1, .aload_n 0, []),
  (35, 3, .getfield 193, [11, 15, 0, 0, 0, 0]),
  (38, 3, .ifCond .le 30, []),
  (41, 1, .aload_n 0, []),
  (42, 3, .getfield 263, [11, 33, 1, 0, 0, 0]),
  (45, 3, .ifCond .ne 23, []),
  (48, 1, .aload_n 0, []),
  (49, 3, .getfield 245, [11, 32, 0, 0, 0, 0]),
  (52, 1, .iconst 1, []),
  (53, 3, .if_icmp .eq 11, []),
  (56, 1, .aload_n 0, []),
  (57, 3, .getfield 269, [11, 28, 0, 0, 0, 0]),
  (60, 1, .iconst 2, []),
  (61, 3, .if_icmp .ge 7, []),
  (64, 1, .iconst 1, []),
  (65, 3, .goto 4, []),
  (68, 1, .iconst 0, []),
  (69, 1, .ireturn, [1]),
  (70, 1, .aload_n 0, []),
  (71, 3, .getfield 245, [11, 32, 0, 0, 0, 0]),
  (74, 3, .ifCond .ne 26, []),
  (77, 1, .iload_n 1, []),
  (78, 2, .bipush 95, []),
  (80, 3, .if_icmp .eq 16, []),
  (83, 1, .iload_n 1, []),
  (84, 2, .bipush 94, []),
  (86, 3, .if_icmp .ne 14, []),
  (89, 1, .aload_n 0, []),
  (90, 3, .getfield 272, [11, 29, 0, 0, 0, 0]),
  (93, 3, .ifCond .ne 7, []),
  (96, 1, .iconst 1, []),
  (97, 3, .goto 4, []),
  (100, 1, .iconst 0, []),
  (101, 1, .ireturn, [1])]
/-- SyntaxRulesModel.readItem()V -/
def c171 : List zE := [(0, 1, .aload_n 0, []),
  (1, 3, .invokevirtual 256, [163, 1, 111]),
  (4, 1, .istore_n 1, []),
  (5, 1, .aload_n 0, []),
  (6, 1, .iload_n 1, []),
  (7, 3, .invokevirtual 275, [170, 1, 0, 111]),
  (10, 3, .ifCond .eq 12, []),
  (13, 1, .aload_n 0, []),
  (14, 3, .getfield 266, [11, 27, 0, 0, 0, 0]),
  (17, 2, .bipush 20, []),
  (19, 3, .if_icmp .ne 8, []),
  (22, 1, .aload_n 0, []),
  (23, 3, .invokevirtual 187, [148, 0, 111]),
  (26, 1, .return_, []),
  (27, 1, .aload_n 0, []),
  (28, 1, .iload_n 1, []),
  (29, 2, .bipush 42, []),
  (31, 3, .if_icmp .ne 7, []),
  (34, 1, .iconst 1, []),
  (35, 3, .goto 4, []),
  (38, 1, .iconst 0, []),
  (39, 3, .invokevirtual 278, [169, 0, 0, 111]),
  (42, 1, .iload_n 1, []),
  (43, 2, .bipush 95, []),
  (45, 3, .if_icmp .ne 24, []),
  (48, 1, .aload_n 0, []),
  (49, 1, .dup, []),
  (50, 3, .getfield 170, [11, 16, 0, 0, 0, 0]),
  (53, 1, .iconst 1, []),
  (54, 1, .iadd, []),
  (55, 3, .putfield 170, [11, 16, 0, 0, 0]),
  (58, 1, .aload_n 0, []),
  (59, 1, .iconst 0, []),
  (60, 1, .iconst 0, []),
  (61, 1, .iconst 0, []),
  (62, 3, .invokevirtual 248, [164, 1, 0, 0, 0, 111]),
  (65, 1, .pop, []),
  (66, 3, .goto 131, []),
  (69, 1, .iload_n 1, []),
  (70, 2, .bipush 94, []),
  (72, 3, .if_icmp .ne 39, []),
  (75, 1, .aload_n 0, []),
  (76, 1, .dup, []),
  (77, 3, .getfield 170, [11, 16, 0, 0, 0, 0]),
  (80, 1, .iconst 1, []),
  (81, 1, .iadd, []),
  (82, 3, .putfield 170, [11, 16, 0, 0, 0]),
  (85, 1, .aload_n 0, []),
  (86, 1, .dup, []),
  (87, 3, .getfield 272, [11, 29, 0, 0, 0, 0]),
  (90, 1, .iconst 1, []),
  (91, 1, .iadd, []),
  (92, 3, .putfield 272, [11, 29, 0, 0, 0]),
  (95, 1, .aload_n 0, []),
  (96, 1, .iconst 2, []),
  (97, 1, .iconst 0, []),
  (98, 1, .iconst 0, []),
  (99, 3, .invokevirtual 248, [164, 1, 0, 0, 0, 111]),
  (102, 1, .pop, []),
  (103, 1, .aload_n 0, []),
  (104, 1, .iconst 1, []),
  (105, 3, .putfield 263, [11, 33, 1, 0, 0]),
  (108, 3, .goto 89, []),
  (111, 1, .iload_n 1, []),
  (112, 2, .bipush 63, []),
  (114, 3, .if_icmp .ne 21, []),
  (117, 1, .aload_n 0, []),
  (118, 1, .aload_n 0, []),
  (119, 1, .iconst 1, []),
  (120, 1, .aload_n 0, []),
  (121, 1, .iconst 1, []),
  (122, 3, .invokevirtual 282, [166, 1, 0, 111]),
  (125, 1, .iconst 0, []),
  (126, 3, .invokevirtual 248, [164, 1, 0, 0, 0, 111]),
  (129, 3, .invokevirtual 285, [167, 0, 0, 111]),
  (132, 3, .goto 65, []),
  (135, 1, .iload_n 1, []),
  (136, 2, .bipush 42, []),
  (138, 3, .if_icmp .ne 29, []),
  (141, 1, .aload_n 0, []),
  (142, 1, .dup, []),
  (143, 3, .getfield 269, [11, 28, 0, 0, 0, 0]),
  (146, 1, .iconst 1, []),
  (147, 1, .iadd, []),
  (148, 3, .putfield 269, [11, 28, 0, 0, 0]),
  (151, 1, .aload_n 0, []),
  (152, 2, .bipush 6, []),
  (154, 1, .aload_n 0, []),
  (155, 1, .iconst 2, []),
  (156, 3, .invokevirtual 282, [166, 1, 0, 111]),
  (159, 1, .iconst 0, []),
  (160, 3, .invokevirtual 248, [164, 1, 0, 0, 0, 111]),
  (163, 1, .pop, []),
  (164, 3, .goto 33, []),
  (167, 1, .iload_n 1, []),
  (168, 2, .bipush 40, []),
  (170, 3, .if_icmp .ne 10, []),
  (173, 1, .aload_n 0, []),
  (174, 3, .invokevirtual 289, [168, 0, 111]),
  (177, 3, .goto 20, []),
  (180, 1, .aload_n 0, []),
  (181, 1, .iload_n 1, []),
  (182, 3, .invokestatic 203, [145, 1, 0]),
  (185, 3, .ifCond .eq 7, []),
  (188, 1, .iconst 4, []),
  (189, 3, .goto 4, []),
  (192, 1, .iconst 3, []),
  (193, 1, .iconst 0, []),
  (194, 3, .invokevirtual 259, [165, 0, 0, 0, 111]),
  (197, 1, .return_, [])]
/-- SyntaxRulesModel.readSide(I)V -/
def c172 : List zE := [(0, 1, .aload_n 0, []),
  (1, 1, .iload_n 1, []),
  (2, 3, .putfield 245, [11, 32, 0, 0, 0]),
  (5, 1, .aload_n 0, []),
  (6, 1, .iconst 0, []),
  (7, 3, .putfield 266, [11, 27, 0, 0, 0]),
  (10, 1, .aload_n 0, []),
  (11, 1, .iconst 0, []),
  (12, 3, .putfield 269, [11, 28, 0, 0, 0]),
  (15, 1, .aload_n 0, []),
  (16, 1, .iconst 0, []),
  (17, 3, .putfield 272, [11, 29, 0, 0, 0]),
  (20, 1, .aload_n 0, []),
  (21, 1, .iconst 0, []),
  (22, 3, .putfield 263, [11, 33, 1, 0, 0]),
  (25, 1, .aload_n 0, []),
  (26, 3, .getfield 54, [11, 26, 3, 15, 340, 0]),
  (29, 1, .aload_n 0, []),
  (30, 3, .getfield 245, [11, 32, 0, 0, 0, 0]),
  (33, 1, .iconst 0, []),
  (34, 1, .iastore, [40]),
  (35, 1, .aload_n 0, []),
  (36, 1, .iconst 0, []),
  (37, 3, .putfield 193, [11, 15, 0, 0, 0]),
  (40, 1, .iconst 1, []),
  (41, 1, .istore_n 2, []),
  (42, 1, .iload_n 2, []),
  (43, 3, .ifCond .eq 117, []),
  (46, 1, .aload_n 0, []),
  (47, 3, .getfield 166, [11, 18, 1, 0, 0, 0]),
  (50, 3, .ifCond .eq 110, []),
  (53, 1, .aload_n 0, []),
  (54, 3, .getfield 193, [11, 15, 0, 0, 0, 0]),
  (57, 3, .ifCond .le 76, []),
  (60, 1, .aload_n 0, []),
  (61, 3, .getfield 263, [11, 33, 1, 0, 0, 0]),
  (64, 3, .ifCond .ne 69, []),
  (67, 1, .aload_n 0, []),
  (68, 3, .invokevirtual 256, [163, 1, 111]),
  (71, 2, .bipush 41, []),
  (73, 3, .if_icmp .ne 60, []),
  (76, 1, .aload_n 0, []),
  (77, 1, .dup, []),
  (78, 3, .getfield 170, [11, 16, 0, 0, 0, 0]),
  (81, 1, .iconst 1, []),
  (82, 1, .iadd, []),
  (83, 3, .putfield 170, [11, 16, 0, 0, 0]),
  (86, 1, .aload_n 0, []),
  (87, 1, .dup, []),
  (88, 3, .getfield 193, [11, 15, 0, 0, 0, 0]),
  (91, 1, .iconst 1, []),
  (92, 1, .isub, []),
  (93, 3, .putfield 193, [11, 15, 0, 0, 0]),
  (96, 1, .aload_n 0, []),
  (97, 3, .getfield 51, [11, 25, 3, 14, 49340, 0]),
  (100, 1, .aload_n 0, []),
  (101, 3, .getfield 60, [11, 31, 3, 17, 2240, 0]),
  (104, 1, .aload_n 0, []),
  (105, 3, .getfield 193, [11, 15, 0, 0, 0, 0]),
  (108, 1, .iaload, [40]),
  (109, 1, .iconst 2, []),
  (110, 1, .iadd, []),
  (111, 1, .aload_n 0, []),
  (112, 3, .getfield 54, [11, 26, 3, 15, 340, 0]),
  (115, 1, .aload_n 0, []),
  (116, 3, .getfield 245, [11, 32, 0, 0, 0, 0]),
  (119, 1, .iaload, [40]),
  (120, 1, .iastore, [40]),
  (121, 1, .aload_n 0, []),
  (122, 2, .bipush 7, []),
  (124, 1, .iconst 0, []),
  (125, 1, .iconst 0, []),
  (126, 3, .invokevirtual 248, [164, 1, 0, 0, 0, 111]),
  (129, 1, .pop, []),
  (130, 3, .goto 7, []),
  (133, 1, .aload_n 0, []),
  (134, 3, .invokevirtual 292, [171, 0, 111]),
  (137, 1, .aload_n 0, []),
  (138, 3, .getfield 193, [11, 15, 0, 0, 0, 0]),
  (141, 3, .ifCond .gt 10, []),
  (144, 1, .aload_n 0, []),
  (145, 3, .getfield 263, [11, 33, 1, 0, 0, 0]),
  (148, 3, .ifCond .eq 7, []),
  (151, 1, .iconst 1, []),
  (152, 3, .goto 4, []),
  (155, 1, .iconst 0, []),
  (156, 1, .istore_n 2, []),
  (157, 3, .goto (-115), []),
  (160, 1, .return_, [])]
/-- SyntaxRulesModel.readsRule()Z -/
def c173 : List zE := [(0, 1, .aload_n 0, []),
  (1, 1, .iconst 0, []),
  (2, 3, .putfield 170, [11, 16, 0, 0, 0]),
  (5, 1, .aload_n 0, []),
  (6, 1, .iconst 1, []),
  (7, 3, .putfield 166, [11, 18, 1, 0, 0]),
  (10, 1, .iconst 0, []),
  (11, 1, .istore_n 1, []),
  (12, 1, .iload_n 1, []),
  (13, 2, .bipush 26, []),
  (15, 3, .if_icmp .ge 16, []),
  (18, 1, .aload_n 0, []),
  (19, 3, .getfield 57, [11, 30, 3, 16, 2740, 0]),
  (22, 1, .iload_n 1, []),
  (23, 1, .iconst 0, []),
  (24, 1, .iastore, [40]),
  (25, 3, .iinc 1 1, []),
  (28, 3, .goto (-16), []),
  (31, 1, .aload_n 0, []),
  (32, 1, .iconst 0, []),
  (33, 3, .invokevirtual 295, [172, 0, 0, 111]),
  (36, 1, .aload_n 0, []),
  (37, 3, .getfield 166, [11, 18, 1, 0, 0, 0]),
  (40, 3, .ifCond .eq 16, []),
  (43, 1, .aload_n 0, []),
  (44, 3, .invokevirtual 256, [163, 1, 111]),
  (47, 2, .bipush 61, []),
  (49, 3, .if_icmp .eq 7, []),
  (52, 1, .aload_n 0, []),
  (53, 3, .invokevirtual 187, [148, 0, 111]),
  (56, 1, .aload_n 0, []),
  (57, 1, .dup, []),
  (58, 3, .getfield 170, [11, 16, 0, 0, 0, 0]),
  (61, 1, .aload_n 0, []),
  (62, 3, .getfield 166, [11, 18, 1, 0, 0, 0]),
  (65, 3, .ifCond .eq 7, []),
  (68, 1, .iconst 1, []),
  (69, 3, .goto 4, []),
  (72, 1, .iconst 0, []),
  (73, 1, .iadd, []),
  (74, 3, .putfield 170, [11, 16, 0, 0, 0]),
  (77, 1, .aload_n 0, []),
  (78, 3, .getfield 166, [11, 18, 1, 0, 0, 0]),
  (81, 3, .ifCond .eq 8, []),
  (84, 1, .aload_n 0, []),
  (85, 1, .iconst 1, []),
  (86, 3, .invokevirtual 295, [172, 0, 0, 111]),
  (89, 1, .aload_n 0, []),
  (90, 3, .getfield 166, [11, 18, 1, 0, 0, 0]),
  (93, 3, .ifCond .eq 15, []),
  (96, 1, .aload_n 0, []),
  (97, 3, .invokevirtual 256, [163, 1, 111]),
  (100, 1, .iconst (-1), []),
  (101, 3, .if_icmp .eq 7, []),
  (104, 1, .aload_n 0, []),
  (105, 3, .invokevirtual 187, [148, 0, 111]),
  (108, 1, .aload_n 0, []),
  (109, 3, .getfield 166, [11, 18, 1, 0, 0, 0]),
  (112, 1, .ireturn, [1])]
/-- SyntaxRulesModel.takeRule(I)V -/
def c174 : List zE := [(0, 1, .iconst 0, []),
  (1, 1, .istore_n 2, []),
  (2, 1, .iload_n 2, []),
  (3, 1, .iconst 2, []),
  (4, 3, .if_icmp .ge 68, []),
  (7, 1, .aload_n 0, []),
  (8, 3, .getfield 48, [11, 24, 3, 13, 1740, 0]),
  (11, 1, .iconst 2, []),
  (12, 1, .iload_n 1, []),
  (13, 1, .imul, []),
  (14, 1, .iload_n 2, []),
  (15, 1, .iadd, []),
  (16, 1, .aload_n 0, []),
  (17, 3, .getfield 54, [11, 26, 3, 15, 340, 0]),
  (20, 1, .iload_n 2, []),
  (21, 1, .iaload, [40]),
  (22, 1, .iastore, [40]),
  (23, 1, .iconst 0, []),
  (24, 1, .istore_n 3, []),
  (25, 1, .iload_n 3, []),
  (26, 3, .sipush 246, []),
  (29, 3, .if_icmp .ge 37, []),
  (32, 1, .aload_n 0, []),
  (33, 3, .getfield 45, [11, 23, 3, 12, 393740, 0]),
  (36, 3, .sipush 246, []),
  (39, 1, .iconst 2, []),
  (40, 1, .iload_n 1, []),
  (41, 1, .imul, []),
  (42, 1, .iload_n 2, []),
  (43, 1, .iadd, []),
  (44, 1, .imul, []),
  (45, 1, .iload_n 3, []),
  (46, 1, .iadd, []),
  (47, 1, .aload_n 0, []),
  (48, 3, .getfield 51, [11, 25, 3, 14, 49340, 0]),
  (51, 3, .sipush 246, []),
  (54, 1, .iload_n 2, []),
  (55, 1, .imul, []),
  (56, 1, .iload_n 3, []),
  (57, 1, .iadd, []),
  (58, 1, .iaload, [40]),
  (59, 1, .iastore, [40]),
  (60, 3, .iinc 3 1, []),
  (63, 3, .goto (-38), []),
  (66, 3, .iinc 2 1, []),
  (69, 3, .goto (-67), []),
  (72, 1, .return_, [])]
/-- SyntaxRulesModel.rule()I -/
def c175 : List zE := [(0, 1, .aload_n 0, []),
  (1, 1, .iconst 0, []),
  (2, 3, .putfield 141, [11, 0, 0, 0, 0]),
  (5, 1, .aload_n 0, []),
  (6, 3, .invokevirtual 235, [161, 0, 111]),
  (9, 1, .aload_n 0, []),
  (10, 3, .invokevirtual 298, [173, 1, 111]),
  (13, 3, .ifCond .ne 12, []),
  (16, 3, .sipush (-1000), []),
  (19, 1, .aload_n 0, []),
  (20, 3, .getfield 173, [11, 17, 0, 0, 0, 0]),
  (23, 1, .isub, []),
  (24, 1, .ireturn, [0]),
  (25, 1, .iconst 0, []),
  (26, 1, .istore_n 1, []),
  (27, 1, .iload_n 1, []),
  (28, 2, .bipush 8, []),
  (30, 3, .if_icmp .ge 17, []),
  (33, 1, .aload_n 0, []),
  (34, 1, .iload_n 1, []),
  (35, 3, .invokevirtual 301, [143, 1, 0, 111]),
  (38, 3, .ifCond .eq 9, []),
  (41, 3, .iinc 1 1, []),
  (44, 3, .goto (-17), []),
  (47, 1, .iload_n 1, []),
  (48, 2, .bipush 8, []),
  (50, 3, .if_icmp .ne 6, []),
  (53, 2, .bipush (-3), []),
  (55, 1, .ireturn, [0]),
  (56, 1, .iconst 0, []),
  (57, 1, .istore_n 2, []),
  (58, 1, .iload_n 2, []),
  (59, 1, .aload_n 0, []),
  (60, 3, .getfield 176, [11, 9, 0, 0, 0, 0]),
  (63, 3, .if_icmp .ge 26, []),
  (66, 1, .aload_n 0, []),
  (67, 3, .getfield 7, [11, 1, 3, 1, 271040, 0]),
  (70, 1, .iload_n 1, []),
  (71, 3, .invokestatic 151, [142, 1, 0]),
  (74, 1, .iload_n 2, []),
  (75, 1, .iadd, []),
  (76, 1, .aload_n 0, []),
  (77, 3, .getfield 27, [11, 8, 3, 6, 30340, 0]),
  (80, 1, .iload_n 2, []),
  (81, 1, .iaload, [40]),
  (82, 1, .iastore, [40]),
  (83, 3, .iinc 2 1, []),
  (86, 3, .goto (-28), []),
  (89, 1, .aload_n 0, []),
  (90, 3, .getfield 7, [11, 1, 3, 1, 271040, 0]),
  (93, 1, .iload_n 1, []),
  (94, 3, .invokestatic 151, [142, 1, 0]),
  (97, 3, .sipush 300, []),
  (100, 1, .iadd, []),
  (101, 1, .aload_n 0, []),
  (102, 3, .getfield 176, [11, 9, 0, 0, 0, 0]),
  (105, 1, .iastore, [40]),
  (106, 1, .aload_n 0, []),
  (107, 1, .iload_n 1, []),
  (108, 3, .invokevirtual 304, [174, 0, 0, 111]),
  (111, 1, .aload_n 0, []),
  (112, 3, .invokevirtual 307, [218, 0, 111]),
  (115, 1, .iload_n 1, []),
  (116, 1, .ireturn, [0])]
/-- SyntaxRulesModel.readRules()V -/
def c176 : List zE := [(0, 1, .iconst 0, []),
  (1, 1, .istore_n 1, []),
  (2, 1, .iload_n 1, []),
  (3, 2, .bipush 8, []),
  (5, 3, .if_icmp .ge 77, []),
  (8, 1, .aload_n 0, []),
  (9, 1, .iload_n 1, []),
  (10, 3, .invokevirtual 301, [143, 1, 0, 111]),
  (13, 3, .ifCond .eq 63, []),
  (16, 1, .aload_n 0, []),
  (17, 1, .aload_n 0, []),
  (18, 3, .getfield 7, [11, 1, 3, 1, 271040, 0]),
  (21, 1, .iload_n 1, []),
  (22, 3, .invokestatic 151, [142, 1, 0]),
  (25, 3, .sipush 300, []),
  (28, 1, .iadd, []),
  (29, 1, .iaload, [40]),
  (30, 3, .putfield 176, [11, 9, 0, 0, 0]),
  (33, 1, .iconst 0, []),
  (34, 1, .istore_n 2, []),
  (35, 1, .iload_n 2, []),
  (36, 1, .aload_n 0, []),
  (37, 3, .getfield 176, [11, 9, 0, 0, 0, 0]),
  (40, 3, .if_icmp .ge 26, []),
  (43, 1, .aload_n 0, []),
  (44, 3, .getfield 27, [11, 8, 3, 6, 30340, 0]),
  (47, 1, .iload_n 2, []),
  (48, 1, .aload_n 0, []),
  (49, 3, .getfield 7, [11, 1, 3, 1, 271040, 0]),
  (52, 1, .iload_n 1, []),
  (53, 3, .invokestatic 151, [142, 1, 0]),
  (56, 1, .iload_n 2, []),
  (57, 1, .iadd, []),
  (58, 1, .iaload, [40]),
  (59, 1, .iastore, [40]),
  (60, 3, .iinc 2 1, []),
  (63, 3, .goto (-28), []),
  (66, 1, .aload_n 0, []),
  (67, 3, .invokevirtual 298, [173, 1, 111]),
  (70, 1, .pop, []),
  (71, 1, .aload_n 0, []),
  (72, 1, .iload_n 1, []),
  (73, 3, .invokevirtual 304, [174, 0, 0, 111]),
  (76, 3, .iinc 1 1, []),
  (79, 3, .goto (-77), []),
  (82, 1, .aload_n 0, []),
  (83, 3, .invokevirtual 307, [218, 0, 111]),
  (86, 1, .return_, [])]
/-- SyntaxRulesModel.rulesMany()I -/
def c177 : List zE := [(0, 1, .iconst 0, []),
  (1, 1, .istore_n 1, []),
  (2, 1, .iconst 0, []),
  (3, 1, .istore_n 2, []),
  (4, 1, .iload_n 2, []),
  (5, 2, .bipush 8, []),
  (7, 3, .if_icmp .ge 25, []),
  (10, 1, .iload_n 1, []),
  (11, 1, .aload_n 0, []),
  (12, 1, .iload_n 2, []),
  (13, 3, .invokevirtual 301, [143, 1, 0, 111]),
  (16, 3, .ifCond .eq 7, []),
  (19, 1, .iconst 1, []),
  (20, 3, .goto 4, []),
  (23, 1, .iconst 0, []),
  (24, 1, .iadd, []),
  (25, 1, .istore_n 1, []),
  (26, 3, .iinc 2 1, []),
  (29, 3, .goto (-25), []),
  (32, 1, .iload_n 1, []),
  (33, 1, .ireturn, [0])]
/-- SyntaxRulesModel.drop(I)I -/
def c178 : List zE := [(0, 1, .aload_n 0, []),
  (1, 1, .iconst 0, []),
  (2, 3, .putfield 141, [11, 0, 0, 0, 0]),
  (5, 1, .aload_n 0, []),
  (6, 1, .iload_n 1, []),
  (7, 3, .invokevirtual 301, [143, 1, 0, 111]),
  (10, 3, .ifCond .ne 6, []),
  (13, 2, .bipush (-2), []),
  (15, 1, .ireturn, [0]),
  (16, 1, .aload_n 0, []),
  (17, 3, .getfield 7, [11, 1, 3, 1, 271040, 0]),
  (20, 1, .iload_n 1, []),
  (21, 3, .invokestatic 151, [142, 1, 0]),
  (24, 3, .sipush 300, []),
  (27, 1, .iadd, []),
  (28, 1, .iconst 0, []),
  (29, 1, .iastore, [40]),
  (30, 1, .aload_n 0, []),
  (31, 3, .invokevirtual 307, [218, 0, 111]),
  (34, 1, .aload_n 0, []),
  (35, 3, .invokevirtual 310, [177, 1, 111]),
  (38, 1, .ireturn, [0])]
/-- SyntaxRulesModel.token(IIII)I -/
def c179 : List zE := [(0, 1, .aload_n 0, []),
  (1, 3, .getfield 45, [11, 23, 3, 12, 393740, 0]),
  (4, 3, .sipush 246, []),
  (7, 1, .iconst 2, []),
  (8, 1, .iload_n 1, []),
  (9, 1, .imul, []),
  (10, 1, .iload_n 2, []),
  (11, 1, .iadd, []),
  (12, 1, .imul, []),
  (13, 2, .bipush 6, []),
  (15, 1, .iload_n 3, []),
  (16, 1, .imul, []),
  (17, 1, .iadd, []),
  (18, 2, .iload 4, []),
  (20, 1, .iadd, []),
  (21, 1, .iaload, [40]),
  (22, 1, .ireturn, [0])]
/-- SyntaxRulesModel.isSame(II)Z -/
def c180 : List zE := [(0, 1, .aload_n 0, []),
  (1, 1, .iload_n 1, []),
  (2, 1, .iconst 0, []),
  (3, 3, .invokevirtual 313, [158, 1, 0, 0, 111]),
  (6, 1, .aload_n 0, []),
  (7, 1, .iload_n 2, []),
  (8, 1, .iconst 0, []),
  (9, 3, .invokevirtual 313, [158, 1, 0, 0, 111]),
  (12, 3, .if_icmp .ne 39, []),
  (15, 1, .aload_n 0, []),
  (16, 1, .iload_n 1, []),
  (17, 2, .bipush 9, []),
  (19, 3, .invokevirtual 313, [158, 1, 0, 0, 111]),
  (22, 1, .aload_n 0, []),
  (23, 1, .iload_n 2, []),
  (24, 2, .bipush 9, []),
  (26, 3, .invokevirtual 313, [158, 1, 0, 0, 111]),
  (29, 3, .if_icmp .ne 22, []),
  (32, 1, .aload_n 0, []),
  (33, 1, .iload_n 1, []),
  (34, 1, .iconst 3, []),
  (35, 3, .invokevirtual 313, [158, 1, 0, 0, 111]),
  (38, 1, .aload_n 0, []),
  (39, 1, .iload_n 2, []),
  (40, 1, .iconst 3, []),
  (41, 3, .invokevirtual 313, [158, 1, 0, 0, 111]),
  (44, 3, .if_icmp .ne 7, []),
  (47, 1, .iconst 1, []),
  (48, 3, .goto 4, []),
  (51, 1, .iconst 0, []),
  (52, 1, .istore_n 3, []),
  (53, 1, .iconst 0, []),
  (54, 2, .istore 4, []),
  (56, 1, .iload_n 3, []),
  (57, 3, .ifCond .eq 60, []),
  (60, 2, .iload 4, []),
  (62, 1, .aload_n 0, []),
  (63, 1, .iload_n 1, []),
  (64, 2, .bipush 9, []),
  (66, 3, .invokevirtual 313, [158, 1, 0, 0, 111]),
  (69, 3, .if_icmp .ge 48, []),
  (72, 1, .aload_n 0, []),
  (73, 3, .getfield 7, [11, 1, 3, 1, 271040, 0]),
  (76, 1, .aload_n 0, []),
  (77, 1, .iload_n 1, []),
  (78, 2, .bipush 8, []),
  (80, 3, .invokevirtual 313, [158, 1, 0, 0, 111]),
  (83, 2, .iload 4, []),
  (85, 1, .iadd, []),
  (86, 1, .iaload, [40]),
  (87, 1, .aload_n 0, []),
  (88, 3, .getfield 7, [11, 1, 3, 1, 271040, 0]),
  (91, 1, .aload_n 0, []),
  (92, 1, .iload_n 2, []),
  (93, 2, .bipush 8, []),
  (95, 3, .invokevirtual 313, [158, 1, 0, 0, 111]),
  (98, 2, .iload 4, []),
  (100, 1, .iadd, []),
  (101, 1, .iaload, [40]),
  (102, 3, .if_icmp .ne 7, []),
  (105, 1, .iconst 1, []),
  (106, 3, .goto 4, []),
  (109, 1, .iconst 0, []),
  (110, 1, .istore_n 3, []),
  (111, 3, .iinc 4 1, []),
  (114, 3, .goto (-58), []),
  (117, 1, .iload_n 3, []),
  (118, 1, .ireturn, [1])]
/-- SyntaxRulesModel.areAlike(II)Z -/
def c181 : List zE := [(0, 1, .aload_n 0, []),
  (1, 1, .iload_n 1, []),
  (2, 2, .bipush 6, []),
  (4, 3, .invokevirtual 313, [158, 1, 0, 0, 111]),
  (7, 1, .aload_n 0, []),
  (8, 1, .iload_n 2, []),
  (9, 2, .bipush 6, []),
  (11, 3, .invokevirtual 313, [158, 1, 0, 0, 111]),
  (14, 3, .if_icmp .ne 7, []),
  (17, 1, .iconst 1, []),
  (18, 3, .goto 4, []),
  (21, 1, .iconst 0, []),
  (22, 1, .istore_n 3, []),
  (23, 1, .iconst 0, []),
  (24, 2, .istore 4, []),
  (26, 1, .iload_n 3, []),
  (27, 3, .ifCond .eq 34, []),
  (30, 2, .iload 4, []),
  (32, 1, .aload_n 0, []),
  (33, 1, .iload_n 1, []),
  (34, 2, .bipush 6, []),
  (36, 3, .invokevirtual 313, [158, 1, 0, 0, 111]),
  (39, 3, .if_icmp .ge 22, []),
  (42, 1, .aload_n 0, []),
  (43, 1, .iload_n 1, []),
  (44, 2, .iload 4, []),
  (46, 1, .iadd, []),
  (47, 1, .iload_n 2, []),
  (48, 2, .iload 4, []),
  (50, 1, .iadd, []),
  (51, 3, .invokevirtual 317, [180, 1, 0, 0, 111]),
  (54, 1, .istore_n 3, []),
  (55, 3, .iinc 4 1, []),
  (58, 3, .goto (-32), []),
  (61, 1, .iload_n 3, []),
  (62, 1, .ireturn, [1])]
/-- SyntaxRulesModel.areRowsAlike(III)Z -/
def c182 : List zE := [(0, 1, .iload_n 1, []),
  (1, 2, .istore 4, []),
  (3, 1, .iload_n 2, []),
  (4, 2, .istore 5, []),
  (6, 1, .iconst 1, []),
  (7, 2, .istore 6, []),
  (9, 1, .iconst 0, []),
  (10, 2, .istore 7, []),
  (12, 2, .iload 6, []),
  (14, 3, .ifCond .eq 51, []),
  (17, 2, .iload 7, []),
  (19, 1, .iload_n 3, []),
  (20, 3, .if_icmp .ge 45, []),
  (23, 1, .aload_n 0, []),
  (24, 2, .iload 4, []),
  (26, 2, .iload 5, []),
  (28, 3, .invokevirtual 321, [181, 1, 0, 0, 111]),
  (31, 2, .istore 6, []),
  (33, 2, .iload 4, []),
  (35, 1, .aload_n 0, []),
  (36, 2, .iload 4, []),
  (38, 2, .bipush 6, []),
  (40, 3, .invokevirtual 313, [158, 1, 0, 0, 111]),
  (43, 1, .iadd, []),
  (44, 2, .istore 4, []),
  (46, 2, .iload 5, []),
  (48, 1, .aload_n 0, []),
  (49, 2, .iload 5, []),
  (51, 2, .bipush 6, []),
  (53, 3, .invokevirtual 313, [158, 1, 0, 0, 111]),
  (56, 1, .iadd, []),
  (57, 2, .istore 5, []),
  (59, 3, .iinc 7 1, []),
  (62, 3, .goto (-50), []),
  (65, 2, .iload 6, []),
  (67, 1, .ireturn, [1])]
/-- SyntaxRulesModel.isName(IIII)Z -/
def c183 : List zE := [(0, 1, .aload_n 0, []),
  (1, 1, .iload_n 1, []),
  (2, 1, .iconst 0, []),
  (3, 1, .iload_n 2, []),
  (4, 1, .iconst 4, []),
  (5, 3, .invokevirtual 324, [179, 1, 0, 0, 0, 0, 111]),
  (8, 2, .istore 5, []),
  (10, 1, .aload_n 0, []),
  (11, 2, .iload 4, []),
  (13, 1, .iconst 0, []),
  (14, 3, .invokevirtual 313, [158, 1, 0, 0, 111]),
  (17, 1, .iload_n 3, []),
  (18, 3, .if_icmp .ne 20, []),
  (21, 1, .aload_n 0, []),
  (22, 2, .iload 4, []),
  (24, 2, .bipush 9, []),
  (26, 3, .invokevirtual 313, [158, 1, 0, 0, 111]),
  (29, 2, .iload 5, []),
  (31, 3, .if_icmp .ne 7, []),
  (34, 1, .iconst 1, []),
  (35, 3, .goto 4, []),
  (38, 1, .iconst 0, []),
  (39, 2, .istore 6, []),
  (41, 1, .iconst 0, []),
  (42, 2, .istore 7, []),
  (44, 2, .iload 6, []),
  (46, 3, .ifCond .eq 63, []),
  (49, 2, .iload 7, []),
  (51, 2, .iload 5, []),
  (53, 3, .if_icmp .ge 56, []),
  (56, 1, .aload_n 0, []),
  (57, 3, .getfield 7, [11, 1, 3, 1, 271040, 0]),
  (60, 1, .aload_n 0, []),
  (61, 2, .iload 4, []),
  (63, 2, .bipush 8, []),
  (65, 3, .invokevirtual 313, [158, 1, 0, 0, 111]),
  (68, 2, .iload 7, []),
  (70, 1, .iadd, []),
  (71, 1, .iaload, [40]),
  (72, 1, .aload_n 0, []),
  (73, 3, .getfield 7, [11, 1, 3, 1, 271040, 0]),
  (76, 1, .iload_n 1, []),
  (77, 3, .invokestatic 151, [142, 1, 0]),
  (80, 1, .aload_n 0, []),
  (81, 1, .iload_n 1, []),
  (82, 1, .iconst 0, []),
  (83, 1, .iload_n 2, []),
  (84, 1, .iconst 3, []),
  (85, 3, .invokevirtual 324, [179, 1, 0, 0, 0, 0, 111]),
  (88, 1, .iadd, []),
  (89, 2, .iload 7, []),
  (91, 1, .iadd, []),
  (92, 1, .iaload, [40]),
  (93, 3, .if_icmp .ne 7, []),
  (96, 1, .iconst 1, []),
  (97, 3, .goto 4, []),
  (100, 1, .iconst 0, []),
  (101, 2, .istore 6, []),
  (103, 3, .iinc 7 1, []),
  (106, 3, .goto (-62), []),
  (109, 2, .iload 6, []),
  (111, 1, .ireturn, [1])]
/-- SyntaxRulesModel.fitsHole(III)Z -/
def c184 : List zE := [(0, 1, .aload_n 0, []),
  (1, 1, .iload_n 1, []),
  (2, 1, .iconst 0, []),
  (3, 1, .iload_n 2, []),
  (4, 1, .iconst 1, []),
  (5, 3, .invokevirtual 324, [179, 1, 0, 0, 0, 0, 111]),
  (8, 2, .istore 4, []),
  (10, 1, .aload_n 0, []),
  (11, 1, .iload_n 1, []),
  (12, 1, .iconst 0, []),
  (13, 1, .iload_n 2, []),
  (14, 1, .iconst 2, []),
  (15, 3, .invokevirtual 324, [179, 1, 0, 0, 0, 0, 111]),
  (18, 2, .istore 5, []),
  (20, 2, .iload 5, []),
  (22, 1, .iconst (-1), []),
  (23, 3, .if_icmp .eq 16, []),
  (26, 1, .aload_n 0, []),
  (27, 1, .iload_n 3, []),
  (28, 1, .iconst 0, []),
  (29, 3, .invokevirtual 313, [158, 1, 0, 0, 111]),
  (32, 2, .iload 5, []),
  (34, 3, .if_icmp .eq 5, []),
  (37, 1, .iconst 0, []),
  (38, 1, .ireturn, [1]),
  (39, 1, .aload_n 0, []),
  (40, 3, .getfield 69, [11, 38, 3, 20, 2740, 0]),
  (43, 2, .iload 4, []),
  (45, 1, .iaload, [40]),
  (46, 1, .iconst (-1), []),
  (47, 3, .if_icmp .eq 16, []),
  (50, 1, .aload_n 0, []),
  (51, 1, .aload_n 0, []),
  (52, 3, .getfield 66, [11, 37, 3, 19, 2740, 0]),
  (55, 2, .iload 4, []),
  (57, 1, .iaload, [40]),
  (58, 1, .iload_n 3, []),
  (59, 3, .invokevirtual 321, [181, 1, 0, 0, 111]),
  (62, 1, .ireturn, [1]),
  (63, 1, .aload_n 0, []),
  (64, 3, .getfield 66, [11, 37, 3, 19, 2740, 0]),
  (67, 2, .iload 4, []),
  (69, 1, .iload_n 3, []),
  (70, 1, .iastore, [40]),
  (71, 1, .aload_n 0, []),
  (72, 3, .getfield 69, [11, 38, 3, 20, 2740, 0]),
  (75, 2, .iload 4, []),
  (77, 1, .iconst 1, []),
  (78, 1, .iastore, [40]),
  (79, 1, .iconst 1, []),
  (80, 1, .ireturn, [1])]
/-- SyntaxRulesModel.fitsRow(III)Z -/
def c185 : List zE := [(0, 1, .aload_n 0, []),
  (1, 1, .iload_n 1, []),
  (2, 1, .iconst 0, []),
  (3, 1, .iload_n 2, []),
  (4, 1, .iconst 1, []),
  (5, 3, .invokevirtual 324, [179, 1, 0, 0, 0, 0, 111]),
  (8, 2, .istore 4, []),
  (10, 1, .aload_n 0, []),
  (11, 3, .getfield 63, [11, 34, 3, 18, 440, 0]),
  (14, 1, .aload_n 0, []),
  (15, 3, .getfield 328, [11, 35, 0, 0, 0, 0]),
  (18, 1, .iaload, [40]),
  (19, 2, .istore 5, []),
  (21, 1, .aload_n 0, []),
  (22, 1, .dup, []),
  (23, 3, .getfield 328, [11, 35, 0, 0, 0, 0]),
  (26, 1, .iconst 1, []),
  (27, 1, .iadd, []),
  (28, 3, .putfield 328, [11, 35, 0, 0, 0]),
  (31, 2, .iload 5, []),
  (33, 1, .aload_n 0, []),
  (34, 3, .getfield 75, [11, 40, 3, 22, 2240, 0]),
  (37, 1, .iload_n 3, []),
  (38, 1, .iaload, [40]),
  (39, 3, .if_icmp .le 10, []),
  (42, 1, .aload_n 0, []),
  (43, 1, .iconst 1, []),
  (44, 3, .putfield 331, [11, 36, 1, 0, 0]),
  (47, 1, .iconst 0, []),
  (48, 1, .ireturn, [1]),
  (49, 1, .aload_n 0, []),
  (50, 3, .getfield 72, [11, 39, 3, 21, 2240, 0]),
  (53, 1, .iload_n 3, []),
  (54, 1, .iaload, [40]),
  (55, 2, .istore 6, []),
  (57, 1, .iconst 0, []),
  (58, 2, .istore 7, []),
  (60, 2, .iload 7, []),
  (62, 2, .iload 5, []),
  (64, 3, .if_icmp .ge 30, []),
  (67, 1, .aload_n 0, []),
  (68, 3, .getfield 72, [11, 39, 3, 21, 2240, 0]),
  (71, 1, .iload_n 3, []),
  (72, 1, .dup2, []),
  (73, 1, .iaload, [40]),
  (74, 1, .aload_n 0, []),
  (75, 1, .aload_n 0, []),
  (76, 3, .getfield 72, [11, 39, 3, 21, 2240, 0]),
  (79, 1, .iload_n 3, []),
  (80, 1, .iaload, [40]),
  (81, 2, .bipush 6, []),
  (83, 3, .invokevirtual 313, [158, 1, 0, 0, 111]),
  (86, 1, .iadd, []),
  (87, 1, .iastore, [40]),
  (88, 3, .iinc 7 1, []),
  (91, 3, .goto (-31), []),
  (94, 1, .aload_n 0, []),
  (95, 3, .getfield 75, [11, 40, 3, 22, 2240, 0]),
  (98, 1, .iload_n 3, []),
  (99, 1, .dup2, []),
  (100, 1, .iaload, [40]),
  (101, 2, .iload 5, []),
  (103, 1, .isub, []),
  (104, 1, .iastore, [40]),
  (105, 1, .aload_n 0, []),
  (106, 3, .getfield 69, [11, 38, 3, 20, 2740, 0]),
  (109, 2, .iload 4, []),
  (111, 1, .iaload, [40]),
  (112, 1, .iconst (-1), []),
  (113, 3, .if_icmp .eq 39, []),
  (116, 1, .aload_n 0, []),
  (117, 3, .getfield 69, [11, 38, 3, 20, 2740, 0]),
  (120, 2, .iload 4, []),
  (122, 1, .iaload, [40]),
  (123, 2, .iload 5, []),
  (125, 3, .if_icmp .ne 25, []),
  (128, 1, .aload_n 0, []),
  (129, 1, .aload_n 0, []),
  (130, 3, .getfield 66, [11, 37, 3, 19, 2740, 0]),
  (133, 2, .iload 4, []),
  (135, 1, .iaload, [40]),
  (136, 2, .iload 6, []),
  (138, 2, .iload 5, []),
  (140, 3, .invokevirtual 334, [182, 1, 0, 0, 0, 111]),
  (143, 3, .ifCond .eq 7, []),
  (146, 1, .iconst 1, []),
  (147, 3, .goto 4, []),
  (150, 1, .iconst 0, []),
  (151, 1, .ireturn, [1]),
  (152, 1, .aload_n 0, []),
  (153, 3, .getfield 66, [11, 37, 3, 19, 2740, 0]),
  (156, 2, .iload 4, []),
  (158, 2, .iload 6, []),
  (160, 1, .iastore, [40]),
  (161, 1, .aload_n 0, []),
  (162, 3, .getfield 69, [11, 38, 3, 20, 2740, 0]),
  (165, 2, .iload 4, []),
  (167, 2, .iload 5, []),
  (169, 1, .iastore, [40]),
  (170, 1, .iconst 1, []),
  (171, 1, .ireturn, [1])]
/-- SyntaxRulesModel.fitsLeaf(III)Z -/
def c186 : List zE := [(0, 1, .aload_n 0, []),
  (1, 1, .iload_n 1, []),
  (2, 1, .iconst 0, []),
  (3, 1, .iload_n 2, []),
  (4, 1, .iconst 0, []),
  (5, 3, .invokevirtual 324, [179, 1, 0, 0, 0, 0, 111]),
  (8, 32, .tableswitch 51 0 3 #[32, 34, 51, 42], []),
  (40, 1, .iconst 1, []),
  (41, 1, .ireturn, [1]),
  (42, 1, .aload_n 0, []),
  (43, 1, .iload_n 1, []),
  (44, 1, .iload_n 2, []),
  (45, 1, .iload_n 3, []),
  (46, 3, .invokevirtual 338, [184, 1, 0, 0, 0, 111]),
  (49, 1, .ireturn, [1]),
  (50, 1, .aload_n 0, []),
  (51, 1, .iload_n 1, []),
  (52, 1, .iload_n 2, []),
  (53, 1, .iconst 1, []),
  (54, 1, .iload_n 3, []),
  (55, 3, .invokevirtual 341, [183, 1, 0, 0, 0, 0, 111]),
  (58, 1, .ireturn, [1]),
  (59, 1, .aload_n 0, []),
  (60, 1, .iload_n 1, []),
  (61, 1, .iload_n 2, []),
  (62, 1, .iconst 0, []),
  (63, 1, .iload_n 3, []),
  (64, 3, .invokevirtual 341, [183, 1, 0, 0, 0, 0, 111]),
  (67, 1, .ireturn, [1])]
/-- SyntaxRulesModel.goesAlong(III)Z -/
def c187 : List zE := [(0, 1, .aload_n 0, []),
  (1, 1, .iconst 0, []),
  (2, 3, .putfield 328, [11, 35, 0, 0, 0]),
  (5, 1, .aload_n 0, []),
  (6, 1, .iconst 0, []),
  (7, 3, .putfield 331, [11, 36, 1, 0, 0]),
  (10, 1, .iconst 0, []),
  (11, 2, .istore 4, []),
  (13, 2, .iload 4, []),
  (15, 2, .bipush 26, []),
  (17, 3, .if_icmp .ge 17, []),
  (20, 1, .aload_n 0, []),
  (21, 3, .getfield 69, [11, 38, 3, 20, 2740, 0]),
  (24, 2, .iload 4, []),
  (26, 1, .iconst (-1), []),
  (27, 1, .iastore, [40]),
  (28, 3, .iinc 4 1, []),
  (31, 3, .goto (-18), []),
  (34, 1, .iconst (-1), []),
  (35, 2, .istore 4, []),
  (37, 1, .iload_n 3, []),
  (38, 2, .istore 5, []),
  (40, 1, .iload_n 2, []),
  (41, 2, .istore 6, []),
  (43, 2, .iload 6, []),
  (45, 1, .iload_n 2, []),
  (46, 3, .if_icmp .eq 15, []),
  (49, 2, .iload 4, []),
  (51, 1, .iconst (-1), []),
  (52, 3, .if_icmp .ne 9, []),
  (55, 2, .iload 5, []),
  (57, 1, .iconst (-1), []),
  (58, 3, .if_icmp .eq 248, []),
  (61, 1, .aload_n 0, []),
  (62, 1, .iload_n 1, []),
  (63, 1, .iconst 0, []),
  (64, 2, .iload 6, []),
  (66, 1, .iconst 0, []),
  (67, 3, .invokevirtual 324, [179, 1, 0, 0, 0, 0, 111]),
  (70, 2, .istore 7, []),
  (72, 2, .iload 7, []),
  (74, 2, .bipush 7, []),
  (76, 3, .if_icmp .ne 21, []),
  (79, 1, .aload_n 0, []),
  (80, 3, .getfield 75, [11, 40, 3, 22, 2240, 0]),
  (83, 2, .iload 4, []),
  (85, 1, .iaload, [40]),
  (86, 3, .ifCond .le 5, []),
  (89, 1, .iconst 0, []),
  (90, 1, .ireturn, [1]),
  (91, 3, .iinc 4 (-1), []),
  (94, 3, .goto 206, []),
  (97, 2, .iload 7, []),
  (99, 2, .bipush 6, []),
  (101, 3, .if_icmp .ne 17, []),
  (104, 1, .aload_n 0, []),
  (105, 1, .iload_n 1, []),
  (106, 2, .iload 6, []),
  (108, 2, .iload 4, []),
  (110, 3, .invokevirtual 345, [185, 1, 0, 0, 0, 111]),
  (113, 3, .ifCond .ne 187, []),
  (116, 1, .iconst 0, []),
  (117, 1, .ireturn, [1]),
  (118, 2, .iload 5, []),
  (120, 2, .istore 8, []),
  (122, 2, .iload 8, []),
  (124, 1, .iconst (-1), []),
  (125, 3, .if_icmp .ne 53, []),
  (128, 1, .aload_n 0, []),
  (129, 3, .getfield 75, [11, 40, 3, 22, 2240, 0]),
  (132, 2, .iload 4, []),
  (134, 1, .iaload, [40]),
  (135, 3, .ifCond .ne 5, []),
  (138, 1, .iconst 0, []),
  (139, 1, .ireturn, [1]),
  (140, 1, .aload_n 0, []),
  (141, 3, .getfield 72, [11, 39, 3, 21, 2240, 0]),
  (144, 2, .iload 4, []),
  (146, 1, .iaload, [40]),
  (147, 2, .istore 8, []),
  (149, 1, .aload_n 0, []),
  (150, 3, .getfield 72, [11, 39, 3, 21, 2240, 0]),
  (153, 2, .iload 4, []),
  (155, 1, .dup2, []),
  (156, 1, .iaload, [40]),
  (157, 1, .aload_n 0, []),
  (158, 2, .iload 8, []),
  (160, 2, .bipush 6, []),
  (162, 3, .invokevirtual 313, [158, 1, 0, 0, 111]),
  (165, 1, .iadd, []),
  (166, 1, .iastore, [40]),
  (167, 1, .aload_n 0, []),
  (168, 3, .getfield 75, [11, 40, 3, 22, 2240, 0]),
  (171, 2, .iload 4, []),
  (173, 1, .dup2, []),
  (174, 1, .iaload, [40]),
  (175, 1, .iconst 1, []),
  (176, 1, .isub, []),
  (177, 1, .iastore, [40]),
  (178, 1, .iconst (-1), []),
  (179, 2, .istore 5, []),
  (181, 2, .iload 7, []),
  (183, 1, .iconst 2, []),
  (184, 3, .if_icmp .ne 50, []),
  (187, 2, .iload 8, []),
  (189, 1, .aload_n 0, []),
  (190, 3, .getfield 63, [11, 34, 3, 18, 440, 0]),
  (193, 1, .aload_n 0, []),
  (194, 3, .getfield 328, [11, 35, 0, 0, 0, 0]),
  (197, 1, .iaload, [40]),
  (198, 1, .iadd, []),
  (199, 2, .istore 5, []),
  (201, 1, .aload_n 0, []),
  (202, 1, .dup, []),
  (203, 3, .getfield 328, [11, 35, 0, 0, 0, 0]),
  (206, 1, .iconst 1, []),
  (207, 1, .iadd, []),
  (208, 3, .putfield 328, [11, 35, 0, 0, 0]),
  (211, 2, .iload 5, []),
  (213, 2, .iload 8, []),
  (215, 1, .aload_n 0, []),
  (216, 2, .iload 8, []),
  (218, 2, .bipush 6, []),
  (220, 3, .invokevirtual 313, [158, 1, 0, 0, 111]),
  (223, 1, .iadd, []),
  (224, 3, .if_icmp .lt 76, []),
  (227, 1, .aload_n 0, []),
  (228, 1, .iconst 1, []),
  (229, 3, .putfield 331, [11, 36, 1, 0, 0]),
  (232, 1, .iconst 0, []),
  (233, 1, .ireturn, [1]),
  (234, 2, .iload 7, []),
  (236, 1, .iconst 5, []),
  (237, 3, .if_icmp .ne 49, []),
  (240, 1, .aload_n 0, []),
  (241, 1, .iload_n 1, []),
  (242, 2, .iload 6, []),
  (244, 1, .iconst 2, []),
  (245, 2, .iload 8, []),
  (247, 3, .invokevirtual 341, [183, 1, 0, 0, 0, 0, 111]),
  (250, 3, .ifCond .ne 5, []),
  (253, 1, .iconst 0, []),
  (254, 1, .ireturn, [1]),
  (255, 3, .iinc 4 1, []),
  (258, 1, .aload_n 0, []),
  (259, 3, .getfield 72, [11, 39, 3, 21, 2240, 0]),
  (262, 2, .iload 4, []),
  (264, 2, .iload 8, []),
  (266, 1, .iconst 1, []),
  (267, 1, .iadd, []),
  (268, 1, .iastore, [40]),
  (269, 1, .aload_n 0, []),
  (270, 3, .getfield 75, [11, 40, 3, 22, 2240, 0]),
  (273, 2, .iload 4, []),
  (275, 1, .aload_n 0, []),
  (276, 2, .iload 8, []),
  (278, 1, .iconst 3, []),
  (279, 3, .invokevirtual 313, [158, 1, 0, 0, 111]),
  (282, 1, .iastore, [40]),
  (283, 3, .goto 17, []),
  (286, 1, .aload_n 0, []),
  (287, 1, .iload_n 1, []),
  (288, 2, .iload 6, []),
  (290, 2, .iload 8, []),
  (292, 3, .invokevirtual 348, [186, 1, 0, 0, 0, 111]),
  (295, 3, .ifCond .ne 5, []),
  (298, 1, .iconst 0, []),
  (299, 1, .ireturn, [1]),
  (300, 3, .iinc 6 1, []),
  (303, 3, .goto (-260), []),
  (306, 1, .iconst 1, []),
  (307, 1, .ireturn, [1])]
/-- SyntaxRulesModel.goesOn()Z -/
def c188 : List zE := [(0, 1, .aload_n 0, []),
  (1, 3, .getfield 331, [11, 36, 1, 0, 0, 0]),
  (4, 3, .ifCond .eq 12, []),
  (7, 1, .aload_n 0, []),
  (8, 3, .getfield 328, [11, 35, 0, 0, 0, 0]),
  (11, 1, .iconst 2, []),
  (12, 1, .isub, []),
  (13, 3, .goto 9, []),
  (16, 1, .aload_n 0, []),
  (17, 3, .getfield 328, [11, 35, 0, 0, 0, 0]),
  (20, 1, .iconst 1, []),
  (21, 1, .isub, []),
  (22, 1, .istore_n 1, []),
  (23, 1, .iload_n 1, []),
  (24, 3, .ifCond .ge 5, []),
  (27, 1, .iconst 0, []),
  (28, 1, .ireturn, [1]),
  (29, 1, .aload_n 0, []),
  (30, 3, .getfield 63, [11, 34, 3, 18, 440, 0]),
  (33, 1, .iload_n 1, []),
  (34, 1, .dup2, []),
  (35, 1, .iaload, [40]),
  (36, 1, .iconst 1, []),
  (37, 1, .iadd, []),
  (38, 1, .iastore, [40]),
  (39, 1, .iload_n 1, []),
  (40, 1, .iconst 1, []),
  (41, 1, .iadd, []),
  (42, 1, .istore_n 2, []),
  (43, 1, .iload_n 2, []),
  (44, 1, .iconst 3, []),
  (45, 3, .if_icmp .ge 16, []),
  (48, 1, .aload_n 0, []),
  (49, 3, .getfield 63, [11, 34, 3, 18, 440, 0]),
  (52, 1, .iload_n 2, []),
  (53, 1, .iconst 0, []),
  (54, 1, .iastore, [40]),
  (55, 3, .iinc 2 1, []),
  (58, 3, .goto (-15), []),
  (61, 1, .iconst 1, []),
  (62, 1, .ireturn, [1])]
/-- SyntaxRulesModel.startChoices()V -/
def c189 : List zE := [(0, 1, .iconst 0, []),
  (1, 1, .istore_n 1, []),
  (2, 1, .iload_n 1, []),
  (3, 1, .iconst 3, []),
  (4, 3, .if_icmp .ge 16, []),
  (7, 1, .aload_n 0, []),
  (8, 3, .getfield 63, [11, 34, 3, 18, 440, 0]),
  (11, 1, .iload_n 1, []),
  (12, 1, .iconst 0, []),
  (13, 1, .iastore, [40]),
  (14, 3, .iinc 1 1, []),
  (17, 3, .goto (-15), []),
  (20, 1, .return_, [])]
/-- SyntaxRulesModel.fits(III)Z -/
def c190 : List zE := [(0, 1, .aload_n 0, []),
  (1, 3, .invokevirtual 351, [189, 0, 111]),
  (4, 1, .aload_n 0, []),
  (5, 1, .iload_n 1, []),
  (6, 1, .iload_n 2, []),
  (7, 1, .iload_n 3, []),
  (8, 3, .invokevirtual 354, [187, 1, 0, 0, 0, 111]),
  (11, 2, .istore 4, []),
  (13, 2, .iload 4, []),
  (15, 3, .ifCond .ne 22, []),
  (18, 1, .aload_n 0, []),
  (19, 3, .invokevirtual 357, [188, 1, 111]),
  (22, 3, .ifCond .eq 15, []),
  (25, 1, .aload_n 0, []),
  (26, 1, .iload_n 1, []),
  (27, 1, .iload_n 2, []),
  (28, 1, .iload_n 3, []),
  (29, 3, .invokevirtual 354, [187, 1, 0, 0, 0, 111]),
  (32, 2, .istore 4, []),
  (34, 3, .goto (-21), []),
  (37, 2, .iload 4, []),
  (39, 1, .ireturn, [1])]
/-- SyntaxRulesModel.fits(II)Z -/
def c191 : List zE := [(0, 1, .aload_n 0, []),
  (1, 1, .iload_n 1, []),
  (2, 3, .invokevirtual 301, [143, 1, 0, 111]),
  (5, 3, .ifCond .eq 17, []),
  (8, 1, .aload_n 0, []),
  (9, 1, .iload_n 1, []),
  (10, 1, .iconst 0, []),
  (11, 1, .iload_n 2, []),
  (12, 3, .invokevirtual 360, [190, 1, 0, 0, 0, 111]),
  (15, 3, .ifCond .eq 7, []),
  (18, 1, .iconst 1, []),
  (19, 3, .goto 4, []),
  (22, 1, .iconst 0, []),
  (23, 1, .ireturn, [1])]
/-- SyntaxRulesModel.ways(II)I -/
def c192 : List zE := [(0, 1, .aload_n 0, []),
  (1, 1, .iconst 0, []),
  (2, 3, .putfield 141, [11, 0, 0, 0, 0]),
  (5, 1, .aload_n 0, []),
  (6, 1, .iload_n 1, []),
  (7, 3, .invokevirtual 301, [143, 1, 0, 111]),
  (10, 3, .ifCond .eq 11, []),
  (13, 1, .aload_n 0, []),
  (14, 1, .iload_n 2, []),
  (15, 3, .invokevirtual 363, [157, 1, 0, 111]),
  (18, 3, .ifCond .ne 5, []),
  (21, 1, .iconst (-1), []),
  (22, 1, .ireturn, [0]),
  (23, 1, .iconst 0, []),
  (24, 1, .istore_n 3, []),
  (25, 1, .aload_n 0, []),
  (26, 3, .invokevirtual 351, [189, 0, 111]),
  (29, 1, .iconst 1, []),
  (30, 2, .istore 4, []),
  (32, 2, .iload 4, []),
  (34, 3, .ifCond .eq 37, []),
  (37, 1, .iload_n 3, []),
  (38, 3, .sipush 500, []),
  (41, 3, .if_icmp .ge 30, []),
  (44, 1, .iload_n 3, []),
  (45, 1, .aload_n 0, []),
  (46, 1, .iload_n 1, []),
  (47, 1, .iconst 0, []),
  (48, 1, .iload_n 2, []),
  (49, 3, .invokevirtual 354, [187, 1, 0, 0, 0, 111]),
  (52, 3, .ifCond .eq 7, []),
  (55, 1, .iconst 1, []),
  (56, 3, .goto 4, []),
  (59, 1, .iconst 0, []),
  (60, 1, .iadd, []),
  (61, 1, .istore_n 3, []),
  (62, 1, .aload_n 0, []),
  (63, 3, .invokevirtual 357, [188, 1, 111]),
  (66, 2, .istore 4, []),
  (68, 3, .goto (-36), []),
  (71, 1, .iload_n 3, []),
  (72, 1, .ireturn, [0])]
/-- SyntaxRulesModel.held(IIII)I -/
def c193 : List zE := [(0, 1, .aload_n 0, []),
  (1, 1, .iconst 0, []),
  (2, 3, .putfield 141, [11, 0, 0, 0, 0]),
  (5, 1, .aload_n 0, []),
  (6, 1, .iload_n 2, []),
  (7, 3, .invokevirtual 363, [157, 1, 0, 111]),
  (10, 3, .ifCond .eq 45, []),
  (13, 1, .iload_n 3, []),
  (14, 1, .i2l, []),
  (15, 1, .lconst 0, []),
  (16, 3, .ldc2_w 366, [25]),
  (19, 3, .invokestatic 147, [141, 1, 1, 1, 1]),
  (22, 3, .ifCond .eq 33, []),
  (25, 2, .iload 4, []),
  (27, 1, .i2l, []),
  (28, 1, .lconst 0, []),
  (29, 1, .lconst 1, []),
  (30, 3, .invokestatic 147, [141, 1, 1, 1, 1]),
  (33, 3, .ifCond .eq 22, []),
  (36, 1, .aload_n 0, []),
  (37, 1, .iload_n 1, []),
  (38, 1, .iload_n 2, []),
  (39, 3, .invokevirtual 368, [191, 1, 0, 0, 111]),
  (42, 3, .ifCond .eq 13, []),
  (45, 1, .aload_n 0, []),
  (46, 3, .getfield 69, [11, 38, 3, 20, 2740, 0]),
  (49, 1, .iload_n 3, []),
  (50, 1, .iaload, [40]),
  (51, 1, .iconst (-1), []),
  (52, 3, .if_icmp .ne 5, []),
  (55, 1, .iconst (-1), []),
  (56, 1, .ireturn, [0]),
  (57, 2, .iload 4, []),
  (59, 1, .iconst 1, []),
  (60, 3, .if_icmp .ne 12, []),
  (63, 1, .aload_n 0, []),
  (64, 3, .getfield 69, [11, 38, 3, 20, 2740, 0]),
  (67, 1, .iload_n 3, []),
  (68, 1, .iaload, [40]),
  (69, 3, .goto 22, []),
  (72, 1, .aload_n 0, []),
  (73, 3, .getfield 69, [11, 38, 3, 20, 2740, 0]),
  (76, 1, .iload_n 3, []),
  (77, 1, .iaload, [40]),
  (78, 3, .ifCond .ne 7, []),
  (81, 1, .iconst (-1), []),
  (82, 3, .goto 9, []),
  (85, 1, .aload_n 0, []),
  (86, 3, .getfield 66, [11, 37, 3, 19, 2740, 0]),
  (89, 1, .iload_n 3, []),
  (90, 1, .iaload, [40]),
  (91, 1, .ireturn, [0])]
/-- SyntaxRulesModel.found(II)I -/
def c194 : List zE := [(0, 1, .aload_n 0, []),
  (1, 1, .iconst 0, []),
  (2, 3, .putfield 141, [11, 0, 0, 0, 0]),
  (5, 1, .aload_n 0, []),
  (6, 1, .iload_n 1, []),
  (7, 3, .invokevirtual 301, [143, 1, 0, 111]),
  (10, 3, .ifCond .eq 8, []),
  (13, 1, .iload_n 2, []),
  (14, 1, .iconst (-1), []),
  (15, 3, .if_icmp .ge 5, []),
  (18, 1, .iconst (-1), []),
  (19, 1, .ireturn, [0]),
  (20, 1, .iconst 0, []),
  (21, 1, .istore_n 3, []),
  (22, 1, .iconst 0, []),
  (23, 2, .istore 4, []),
  (25, 2, .iload 4, []),
  (27, 1, .aload_n 0, []),
  (28, 3, .getfield 226, [11, 20, 0, 0, 0, 0]),
  (31, 3, .if_icmp .ge 30, []),
  (34, 1, .aload_n 0, []),
  (35, 1, .iload_n 1, []),
  (36, 2, .iload 4, []),
  (38, 3, .invokevirtual 368, [191, 1, 0, 0, 111]),
  (41, 3, .ifCond .eq 14, []),
  (44, 1, .iload_n 3, []),
  (45, 1, .iload_n 2, []),
  (46, 3, .if_icmp .ne 6, []),
  (49, 2, .iload 4, []),
  (51, 1, .ireturn, [0]),
  (52, 3, .iinc 3 1, []),
  (55, 3, .iinc 4 1, []),
  (58, 3, .goto (-33), []),
  (61, 1, .iload_n 2, []),
  (62, 1, .iconst (-1), []),
  (63, 3, .if_icmp .ne 7, []),
  (66, 1, .iload_n 3, []),
  (67, 3, .goto 4, []),
  (70, 1, .iconst (-1), []),
  (71, 1, .ireturn, [0])]
/-- SyntaxRulesModel.fitting(I)I -/
def c195 : List zE := [(0, 1, .iconst 0, []),
  (1, 1, .istore_n 2, []),
  (2, 1, .iconst 0, []),
  (3, 1, .istore_n 3, []),
  (4, 1, .iload_n 3, []),
  (5, 2, .bipush 8, []),
  (7, 3, .if_icmp .ge 28, []),
  (10, 1, .iload_n 2, []),
  (11, 1, .aload_n 0, []),
  (12, 1, .iload_n 3, []),
  (13, 1, .iload_n 1, []),
  (14, 3, .invokevirtual 368, [191, 1, 0, 0, 111]),
  (17, 3, .ifCond .eq 9, []),
  (20, 1, .iconst 1, []),
  (21, 1, .iload_n 3, []),
  (22, 1, .ishl, []),
  (23, 3, .goto 4, []),
  (26, 1, .iconst 0, []),
  (27, 1, .ior, []),
  (28, 1, .istore_n 2, []),
  (29, 3, .iinc 3 1, []),
  (32, 3, .goto (-28), []),
  (35, 1, .iload_n 2, []),
  (36, 1, .ireturn, [0])]
/-- SyntaxRulesModel.rulesOf(I)I -/
def c196 : List zE := [(0, 1, .aload_n 0, []),
  (1, 1, .iconst 0, []),
  (2, 3, .putfield 141, [11, 0, 0, 0, 0]),
  (5, 1, .aload_n 0, []),
  (6, 1, .iload_n 1, []),
  (7, 3, .invokevirtual 363, [157, 1, 0, 111]),
  (10, 3, .ifCond .eq 11, []),
  (13, 1, .aload_n 0, []),
  (14, 1, .iload_n 1, []),
  (15, 3, .invokevirtual 370, [195, 1, 0, 111]),
  (18, 3, .goto 4, []),
  (21, 1, .iconst (-1), []),
  (22, 1, .ireturn, [0])]
/-- SyntaxRulesModel.node(II)I -/
def c197 : List zE := [(0, 1, .aload_n 0, []),
  (1, 1, .aload_n 0, []),
  (2, 1, .iload_n 1, []),
  (3, 3, .invokevirtual 363, [157, 1, 0, 111]),
  (6, 3, .ifCond .eq 7, []),
  (9, 1, .iconst 0, []),
  (10, 3, .goto 4, []),
  (13, 1, .iconst 1, []),
  (14, 3, .putfield 141, [11, 0, 0, 0, 0]),
  (17, 1, .aload_n 0, []),
  (18, 3, .getfield 141, [11, 0, 0, 0, 0, 0]),
  (21, 1, .iconst 1, []),
  (22, 3, .if_icmp .ne 5, []),
  (25, 1, .iconst 0, []),
  (26, 1, .ireturn, [0]),
  (27, 1, .iload_n 2, []),
  (28, 48, .tableswitch 113 0 7 #[48, 55, 62, 69, 76, 83, 97, 105], []),
  (76, 1, .aload_n 0, []),
  (77, 1, .iload_n 1, []),
  (78, 1, .iconst 0, []),
  (79, 3, .invokevirtual 313, [158, 1, 0, 0, 111]),
  (82, 1, .ireturn, [0]),
  (83, 1, .aload_n 0, []),
  (84, 1, .iload_n 1, []),
  (85, 1, .iconst 1, []),
  (86, 3, .invokevirtual 313, [158, 1, 0, 0, 111]),
  (89, 1, .ireturn, [0]),
  (90, 1, .aload_n 0, []),
  (91, 1, .iload_n 1, []),
  (92, 1, .iconst 2, []),
  (93, 3, .invokevirtual 313, [158, 1, 0, 0, 111]),
  (96, 1, .ireturn, [0]),
  (97, 1, .aload_n 0, []),
  (98, 1, .iload_n 1, []),
  (99, 1, .iconst 3, []),
  (100, 3, .invokevirtual 313, [158, 1, 0, 0, 111]),
  (103, 1, .ireturn, [0]),
  (104, 1, .aload_n 0, []),
  (105, 1, .iload_n 1, []),
  (106, 1, .iconst 4, []),
  (107, 3, .invokevirtual 313, [158, 1, 0, 0, 111]),
  (110, 1, .ireturn, [0]),
  (111, 1, .aload_n 0, []),
  (112, 1, .iload_n 1, []),
  (113, 1, .iconst 5, []),
  (114, 3, .invokevirtual 313, [158, 1, 0, 0, 111]),
  (117, 1, .aload_n 0, []),
  (118, 1, .iload_n 1, []),
  (119, 1, .iconst 4, []),
  (120, 3, .invokevirtual 313, [158, 1, 0, 0, 111]),
  (123, 1, .isub, []),
  (124, 1, .ireturn, [0]),
  (125, 1, .aload_n 0, []),
  (126, 1, .iload_n 1, []),
  (127, 2, .bipush 6, []),
  (129, 3, .invokevirtual 313, [158, 1, 0, 0, 111]),
  (132, 1, .ireturn, [0]),
  (133, 1, .aload_n 0, []),
  (134, 1, .iload_n 1, []),
  (135, 2, .bipush 7, []),
  (137, 3, .invokevirtual 313, [158, 1, 0, 0, 111]),
  (140, 1, .ireturn, [0]),
  (141, 1, .iconst (-1), []),
  (142, 1, .ireturn, [0])]
/-- SyntaxRulesModel.name(II)I -/
def c198 : List zE := [(0, 1, .aload_n 0, []),
  (1, 1, .iconst 0, []),
  (2, 3, .putfield 141, [11, 0, 0, 0, 0]),
  (5, 1, .aload_n 0, []),
  (6, 1, .iload_n 1, []),
  (7, 3, .invokevirtual 363, [157, 1, 0, 111]),
  (10, 3, .ifCond .eq 39, []),
  (13, 1, .iload_n 2, []),
  (14, 1, .i2l, []),
  (15, 1, .lconst 0, []),
  (16, 1, .aload_n 0, []),
  (17, 1, .iload_n 1, []),
  (18, 2, .bipush 9, []),
  (20, 3, .invokevirtual 313, [158, 1, 0, 0, 111]),
  (23, 1, .i2l, []),
  (24, 1, .lconst 1, []),
  (25, 1, .lsub, []),
  (26, 3, .invokestatic 147, [141, 1, 1, 1, 1]),
  (29, 3, .ifCond .eq 20, []),
  (32, 1, .aload_n 0, []),
  (33, 3, .getfield 7, [11, 1, 3, 1, 271040, 0]),
  (36, 1, .aload_n 0, []),
  (37, 1, .iload_n 1, []),
  (38, 2, .bipush 8, []),
  (40, 3, .invokevirtual 313, [158, 1, 0, 0, 111]),
  (43, 1, .iload_n 2, []),
  (44, 1, .iadd, []),
  (45, 1, .iaload, [40]),
  (46, 3, .goto 4, []),
  (49, 1, .iconst (-1), []),
  (50, 1, .ireturn, [0])]
/-- SyntaxRulesModel.comment(II)I -/
def c199 : List zE := [(0, 1, .aload_n 0, []),
  (1, 1, .iconst 0, []),
  (2, 3, .putfield 141, [11, 0, 0, 0, 0]),
  (5, 1, .iload_n 1, []),
  (6, 1, .iconst (-1), []),
  (7, 3, .if_icmp .ne 16, []),
  (10, 1, .iload_n 2, []),
  (11, 3, .ifCond .ne 10, []),
  (14, 1, .aload_n 0, []),
  (15, 3, .getfield 229, [11, 22, 0, 0, 0, 0]),
  (18, 3, .goto 4, []),
  (21, 1, .iconst (-1), []),
  (22, 1, .ireturn, [0]),
  (23, 1, .iload_n 1, []),
  (24, 1, .i2l, []),
  (25, 1, .lconst 0, []),
  (26, 1, .aload_n 0, []),
  (27, 3, .getfield 229, [11, 22, 0, 0, 0, 0]),
  (30, 1, .i2l, []),
  (31, 1, .lconst 1, []),
  (32, 1, .lsub, []),
  (33, 3, .invokestatic 147, [141, 1, 1, 1, 1]),
  (36, 3, .ifCond .eq 28, []),
  (39, 1, .iload_n 2, []),
  (40, 1, .i2l, []),
  (41, 1, .lconst 0, []),
  (42, 3, .ldc2_w 373, [2]),
  (45, 3, .invokestatic 147, [141, 1, 1, 1, 1]),
  (48, 3, .ifCond .eq 16, []),
  (51, 1, .aload_n 0, []),
  (52, 3, .getfield 42, [11, 21, 3, 11, 45140, 0]),
  (55, 1, .iconst 3, []),
  (56, 1, .iload_n 1, []),
  (57, 1, .imul, []),
  (58, 1, .iload_n 2, []),
  (59, 1, .iadd, []),
  (60, 1, .iaload, [40]),
  (61, 3, .goto 4, []),
  (64, 1, .iconst (-1), []),
  (65, 1, .ireturn, [0])]
/-- SyntaxRulesModel.letter(I)I -/
def c200 : List zE := [(0, 1, .aload_n 0, []),
  (1, 1, .iconst 0, []),
  (2, 3, .putfield 141, [11, 0, 0, 0, 0]),
  (5, 1, .iload_n 1, []),
  (6, 1, .i2l, []),
  (7, 1, .lconst 0, []),
  (8, 1, .aload_n 0, []),
  (9, 3, .getfield 7, [11, 1, 3, 1, 271040, 0]),
  (12, 3, .sipush 300, []),
  (15, 1, .iaload, [40]),
  (16, 1, .i2l, []),
  (17, 1, .lconst 1, []),
  (18, 1, .lsub, []),
  (19, 3, .invokestatic 147, [141, 1, 1, 1, 1]),
  (22, 3, .ifCond .eq 12, []),
  (25, 1, .aload_n 0, []),
  (26, 3, .getfield 7, [11, 1, 3, 1, 271040, 0]),
  (29, 1, .iload_n 1, []),
  (30, 1, .iaload, [40]),
  (31, 3, .goto 4, []),
  (34, 1, .iconst (-1), []),
  (35, 1, .ireturn, [0])]
/-- SyntaxRulesModel.alike(II)I -/
def c201 : List zE := [(0, 1, .aload_n 0, []),
  (1, 1, .iconst 0, []),
  (2, 3, .putfield 141, [11, 0, 0, 0, 0]),
  (5, 1, .aload_n 0, []),
  (6, 1, .iload_n 1, []),
  (7, 3, .invokevirtual 363, [157, 1, 0, 111]),
  (10, 3, .ifCond .eq 11, []),
  (13, 1, .aload_n 0, []),
  (14, 1, .iload_n 2, []),
  (15, 3, .invokevirtual 363, [157, 1, 0, 111]),
  (18, 3, .ifCond .ne 7, []),
  (21, 1, .iconst (-1), []),
  (22, 3, .goto 17, []),
  (25, 1, .aload_n 0, []),
  (26, 1, .iload_n 1, []),
  (27, 1, .iload_n 2, []),
  (28, 3, .invokevirtual 321, [181, 1, 0, 0, 111]),
  (31, 3, .ifCond .eq 7, []),
  (34, 1, .iconst 1, []),
  (35, 3, .goto 4, []),
  (38, 1, .iconst 0, []),
  (39, 1, .ireturn, [0])]
/-- SyntaxRulesModel.twins(II)I -/
def c202 : List zE := [(0, 1, .aload_n 0, []),
  (1, 1, .iconst 0, []),
  (2, 3, .putfield 141, [11, 0, 0, 0, 0]),
  (5, 1, .aload_n 0, []),
  (6, 1, .iload_n 1, []),
  (7, 3, .invokevirtual 363, [157, 1, 0, 111]),
  (10, 3, .ifCond .eq 13, []),
  (13, 1, .iload_n 2, []),
  (14, 1, .i2l, []),
  (15, 1, .lconst 0, []),
  (16, 1, .lconst 1, []),
  (17, 3, .invokestatic 147, [141, 1, 1, 1, 1]),
  (20, 3, .ifCond .ne 5, []),
  (23, 1, .iconst (-1), []),
  (24, 1, .ireturn, [0]),
  (25, 1, .iconst 0, []),
  (26, 1, .istore_n 3, []),
  (27, 1, .iconst (-1), []),
  (28, 2, .istore 4, []),
  (30, 1, .iconst 0, []),
  (31, 2, .istore 5, []),
  (33, 2, .iload 5, []),
  (35, 1, .aload_n 0, []),
  (36, 3, .getfield 226, [11, 20, 0, 0, 0, 0]),
  (39, 3, .if_icmp .ge 37, []),
  (42, 1, .aload_n 0, []),
  (43, 1, .iload_n 1, []),
  (44, 2, .iload 5, []),
  (46, 3, .invokevirtual 321, [181, 1, 0, 0, 111]),
  (49, 3, .ifCond .eq 21, []),
  (52, 3, .iinc 3 1, []),
  (55, 2, .iload 4, []),
  (57, 1, .iconst (-1), []),
  (58, 3, .if_icmp .ne 8, []),
  (61, 2, .iload 5, []),
  (63, 3, .goto 5, []),
  (66, 2, .iload 4, []),
  (68, 2, .istore 4, []),
  (70, 3, .iinc 5 1, []),
  (73, 3, .goto (-40), []),
  (76, 1, .iload_n 2, []),
  (77, 3, .ifCond .ne 7, []),
  (80, 1, .iload_n 3, []),
  (81, 3, .goto 5, []),
  (84, 2, .iload 4, []),
  (86, 1, .ireturn, [0])]
/-- SyntaxRulesModel.tokensOf(III)I -/
def c203 : List zE := [(0, 1, .iconst 0, []),
  (1, 2, .istore 4, []),
  (3, 1, .iconst 0, []),
  (4, 2, .istore 5, []),
  (6, 2, .iload 5, []),
  (8, 1, .aload_n 0, []),
  (9, 3, .getfield 48, [11, 24, 3, 13, 1740, 0]),
  (12, 1, .iconst 2, []),
  (13, 1, .iload_n 1, []),
  (14, 1, .imul, []),
  (15, 1, .iload_n 2, []),
  (16, 1, .iadd, []),
  (17, 1, .iaload, [40]),
  (18, 3, .if_icmp .ge 32, []),
  (21, 2, .iload 4, []),
  (23, 1, .aload_n 0, []),
  (24, 1, .iload_n 1, []),
  (25, 1, .iload_n 2, []),
  (26, 2, .iload 5, []),
  (28, 1, .iconst 0, []),
  (29, 3, .invokevirtual 324, [179, 1, 0, 0, 0, 0, 111]),
  (32, 1, .iload_n 3, []),
  (33, 3, .if_icmp .ne 7, []),
  (36, 1, .iconst 1, []),
  (37, 3, .goto 4, []),
  (40, 1, .iconst 0, []),
  (41, 1, .iadd, []),
  (42, 2, .istore 4, []),
  (44, 3, .iinc 5 1, []),
  (47, 3, .goto (-41), []),
  (50, 2, .iload 4, []),
  (52, 1, .ireturn, [0])]
/-- SyntaxRulesModel.lettersOf(I)I -/
def c204 : List zE := [(0, 1, .iconst 0, []),
  (1, 1, .istore_n 2, []),
  (2, 1, .iconst 0, []),
  (3, 1, .istore_n 3, []),
  (4, 1, .iload_n 3, []),
  (5, 1, .aload_n 0, []),
  (6, 3, .getfield 48, [11, 24, 3, 13, 1740, 0]),
  (9, 1, .iconst 2, []),
  (10, 1, .iload_n 1, []),
  (11, 1, .imul, []),
  (12, 1, .iaload, [40]),
  (13, 3, .if_icmp .ge 49, []),
  (16, 1, .aload_n 0, []),
  (17, 1, .iload_n 1, []),
  (18, 1, .iconst 0, []),
  (19, 1, .iload_n 3, []),
  (20, 1, .iconst 0, []),
  (21, 3, .invokevirtual 324, [179, 1, 0, 0, 0, 0, 111]),
  (24, 2, .istore 4, []),
  (26, 1, .iload_n 2, []),
  (27, 2, .iload 4, []),
  (29, 1, .iconst 1, []),
  (30, 3, .if_icmp .eq 10, []),
  (33, 2, .iload 4, []),
  (35, 2, .bipush 6, []),
  (37, 3, .if_icmp .ne 16, []),
  (40, 1, .iconst 1, []),
  (41, 1, .aload_n 0, []),
  (42, 1, .iload_n 1, []),
  (43, 1, .iconst 0, []),
  (44, 1, .iload_n 3, []),
  (45, 1, .iconst 1, []),
  (46, 3, .invokevirtual 324, [179, 1, 0, 0, 0, 0, 111]),
  (49, 1, .ishl, []),
  (50, 3, .goto 4, []),
  (53, 1, .iconst 0, []),
  (54, 1, .ior, []),
  (55, 1, .istore_n 2, []),
  (56, 3, .iinc 3 1, []),
  (59, 3, .goto (-55), []),
  (62, 1, .iconst 0, []),
  (63, 1, .istore_n 3, []),
  (64, 1, .iload_n 2, []),
  (65, 2, .istore 4, []),
  (67, 2, .iload 4, []),
  (69, 3, .ifCond .eq 18, []),
  (72, 3, .iinc 3 1, []),
  (75, 2, .iload 4, []),
  (77, 2, .iload 4, []),
  (79, 1, .iconst 1, []),
  (80, 1, .isub, []),
  (81, 1, .iand, []),
  (82, 2, .istore 4, []),
  (84, 3, .goto (-17), []),
  (87, 1, .iload_n 3, []),
  (88, 1, .ireturn, [0])]
/-- SyntaxRulesModel.told(II)I -/
def c205 : List zE := [(0, 1, .aload_n 0, []),
  (1, 1, .iconst 0, []),
  (2, 3, .putfield 141, [11, 0, 0, 0, 0]),
  (5, 1, .aload_n 0, []),
  (6, 1, .iload_n 1, []),
  (7, 3, .invokevirtual 301, [143, 1, 0, 111]),
  (10, 3, .ifCond .ne 5, []),
  (13, 1, .iconst (-1), []),
  (14, 1, .ireturn, [0]),
  (15, 1, .iload_n 2, []),
  (16, 36, .tableswitch 74 0 4 #[36, 43, 52, 60, 66], []),
  (52, 1, .aload_n 0, []),
  (53, 3, .getfield 78, [11, 41, 3, 23, 940, 0]),
  (56, 1, .iload_n 1, []),
  (57, 1, .iaload, [40]),
  (58, 1, .ireturn, [0]),
  (59, 1, .aload_n 0, []),
  (60, 1, .iload_n 1, []),
  (61, 1, .iconst 0, []),
  (62, 2, .bipush 6, []),
  (64, 3, .invokevirtual 375, [203, 1, 0, 0, 0, 111]),
  (67, 1, .ireturn, [0]),
  (68, 1, .aload_n 0, []),
  (69, 1, .iload_n 1, []),
  (70, 1, .iconst 0, []),
  (71, 1, .iconst 2, []),
  (72, 3, .invokevirtual 375, [203, 1, 0, 0, 0, 111]),
  (75, 1, .ireturn, [0]),
  (76, 1, .aload_n 0, []),
  (77, 1, .iload_n 1, []),
  (78, 3, .invokevirtual 378, [204, 1, 0, 111]),
  (81, 1, .ireturn, [0]),
  (82, 1, .aload_n 0, []),
  (83, 1, .iload_n 1, []),
  (84, 1, .iconst 1, []),
  (85, 1, .iconst 5, []),
  (86, 3, .invokevirtual 375, [203, 1, 0, 0, 0, 111]),
  (89, 1, .ireturn, [0]),
  (90, 1, .iconst (-1), []),
  (91, 1, .ireturn, [0])]
/-- SyntaxRulesModel.behind(II)I -/
def c206 : List zE := [(0, 1, .iload_n 2, []),
  (1, 1, .istore_n 3, []),
  (2, 1, .aload_n 0, []),
  (3, 1, .iload_n 1, []),
  (4, 1, .iconst 0, []),
  (5, 1, .iload_n 3, []),
  (6, 1, .iconst 0, []),
  (7, 3, .invokevirtual 324, [179, 1, 0, 0, 0, 0, 111]),
  (10, 1, .iconst 2, []),
  (11, 3, .if_icmp .ne 9, []),
  (14, 3, .iinc 3 1, []),
  (17, 3, .goto (-15), []),
  (20, 1, .aload_n 0, []),
  (21, 1, .iload_n 1, []),
  (22, 1, .iconst 0, []),
  (23, 1, .iload_n 3, []),
  (24, 1, .iconst 0, []),
  (25, 3, .invokevirtual 324, [179, 1, 0, 0, 0, 0, 111]),
  (28, 1, .iconst 5, []),
  (29, 3, .if_icmp .ne 16, []),
  (32, 1, .aload_n 0, []),
  (33, 1, .iload_n 1, []),
  (34, 1, .iconst 0, []),
  (35, 1, .iload_n 3, []),
  (36, 1, .iconst 2, []),
  (37, 3, .invokevirtual 324, [179, 1, 0, 0, 0, 0, 111]),
  (40, 1, .iconst 1, []),
  (41, 1, .iadd, []),
  (42, 3, .goto 6, []),
  (45, 1, .iload_n 3, []),
  (46, 1, .iconst 1, []),
  (47, 1, .iadd, []),
  (48, 1, .ireturn, [0])]
/-- SyntaxRulesModel.addTest(III)I -/
def c207 : List zE := [(0, 2, .bipush 40, []),
  (2, 1, .iload_n 1, []),
  (3, 1, .imul, []),
  (4, 1, .aload_n 0, []),
  (5, 3, .getfield 78, [11, 41, 3, 23, 940, 0]),
  (8, 1, .iload_n 1, []),
  (9, 1, .iaload, [40]),
  (10, 1, .iadd, []),
  (11, 2, .istore 4, []),
  (13, 1, .aload_n 0, []),
  (14, 3, .getfield 78, [11, 41, 3, 23, 940, 0]),
  (17, 1, .iload_n 1, []),
  (18, 1, .dup2, []),
  (19, 1, .iaload, [40]),
  (20, 1, .iconst 1, []),
  (21, 1, .iadd, []),
  (22, 1, .iastore, [40]),
  (23, 1, .aload_n 0, []),
  (24, 3, .getfield 81, [11, 42, 3, 24, 32140, 0]),
  (27, 2, .iload 4, []),
  (29, 1, .iload_n 2, []),
  (30, 1, .iastore, [40]),
  (31, 1, .aload_n 0, []),
  (32, 3, .getfield 84, [11, 43, 3, 25, 32140, 0]),
  (35, 2, .iload 4, []),
  (37, 1, .iload_n 3, []),
  (38, 1, .iastore, [40]),
  (39, 1, .aload_n 0, []),
  (40, 3, .getfield 87, [11, 44, 3, 26, 32140, 0]),
  (43, 2, .iload 4, []),
  (45, 1, .aload_n 0, []),
  (46, 3, .getfield 381, [11, 49, 0, 0, 0, 0]),
  (49, 1, .iastore, [40]),
  (50, 1, .aload_n 0, []),
  (51, 3, .getfield 93, [11, 46, 3, 28, 32140, 0]),
  (54, 2, .iload 4, []),
  (56, 1, .iconst 0, []),
  (57, 1, .iastore, [40]),
  (58, 1, .iconst 0, []),
  (59, 2, .istore 5, []),
  (61, 2, .iload 5, []),
  (63, 1, .aload_n 0, []),
  (64, 3, .getfield 381, [11, 49, 0, 0, 0, 0]),
  (67, 3, .if_icmp .ge 29, []),
  (70, 1, .aload_n 0, []),
  (71, 3, .getfield 90, [11, 45, 3, 27, 672140, 0]),
  (74, 2, .bipush 21, []),
  (76, 2, .iload 4, []),
  (78, 1, .imul, []),
  (79, 2, .iload 5, []),
  (81, 1, .iadd, []),
  (82, 1, .aload_n 0, []),
  (83, 3, .getfield 99, [11, 48, 3, 30, 2240, 0]),
  (86, 2, .iload 5, []),
  (88, 1, .iaload, [40]),
  (89, 1, .iastore, [40]),
  (90, 3, .iinc 5 1, []),
  (93, 3, .goto (-32), []),
  (96, 2, .iload 4, []),
  (98, 1, .ireturn, [0])]
/-- SyntaxRulesModel.testHole(II)V -/
def c208 : List zE := [(0, 1, .aload_n 0, []),
  (1, 1, .iload_n 1, []),
  (2, 1, .iconst 0, []),
  (3, 1, .iload_n 2, []),
  (4, 1, .iconst 1, []),
  (5, 3, .invokevirtual 324, [179, 1, 0, 0, 0, 0, 111]),
  (8, 1, .istore_n 3, []),
  (9, 1, .aload_n 0, []),
  (10, 1, .iload_n 1, []),
  (11, 1, .iconst 0, []),
  (12, 1, .iload_n 2, []),
  (13, 1, .iconst 2, []),
  (14, 3, .invokevirtual 324, [179, 1, 0, 0, 0, 0, 111]),
  (17, 1, .iconst (-1), []),
  (18, 3, .if_icmp .eq 11, []),
  (21, 1, .aload_n 0, []),
  (22, 1, .iload_n 1, []),
  (23, 1, .iconst 3, []),
  (24, 1, .iload_n 2, []),
  (25, 3, .invokevirtual 384, [207, 1, 0, 0, 0, 111]),
  (28, 1, .pop, []),
  (29, 1, .aload_n 0, []),
  (30, 3, .getfield 102, [11, 50, 3, 31, 2740, 0]),
  (33, 1, .iload_n 3, []),
  (34, 1, .iaload, [40]),
  (35, 1, .iconst (-1), []),
  (36, 3, .if_icmp .eq 71, []),
  (39, 1, .aload_n 0, []),
  (40, 1, .iload_n 1, []),
  (41, 1, .iconst 4, []),
  (42, 1, .iload_n 2, []),
  (43, 3, .invokevirtual 384, [207, 1, 0, 0, 0, 111]),
  (46, 2, .istore 4, []),
  (48, 1, .aload_n 0, []),
  (49, 3, .getfield 93, [11, 46, 3, 28, 32140, 0]),
  (52, 2, .iload 4, []),
  (54, 1, .aload_n 0, []),
  (55, 3, .getfield 102, [11, 50, 3, 31, 2740, 0]),
  (58, 1, .iload_n 3, []),
  (59, 1, .iaload, [40]),
  (60, 1, .iastore, [40]),
  (61, 1, .iconst 0, []),
  (62, 2, .istore 5, []),
  (64, 2, .iload 5, []),
  (66, 1, .aload_n 0, []),
  (67, 3, .getfield 102, [11, 50, 3, 31, 2740, 0]),
  (70, 1, .iload_n 3, []),
  (71, 1, .iaload, [40]),
  (72, 3, .if_icmp .ge 34, []),
  (75, 1, .aload_n 0, []),
  (76, 3, .getfield 96, [11, 47, 3, 29, 672140, 0]),
  (79, 2, .bipush 21, []),
  (81, 2, .iload 4, []),
  (83, 1, .imul, []),
  (84, 2, .iload 5, []),
  (86, 1, .iadd, []),
  (87, 1, .aload_n 0, []),
  (88, 3, .getfield 105, [11, 51, 3, 32, 54740, 0]),
  (91, 2, .bipush 21, []),
  (93, 1, .iload_n 3, []),
  (94, 1, .imul, []),
  (95, 2, .iload 5, []),
  (97, 1, .iadd, []),
  (98, 1, .iaload, [40]),
  (99, 1, .iastore, [40]),
  (100, 3, .iinc 5 1, []),
  (103, 3, .goto (-39), []),
  (106, 1, .return_, []),
  (107, 1, .aload_n 0, []),
  (108, 3, .getfield 102, [11, 50, 3, 31, 2740, 0]),
  (111, 1, .iload_n 3, []),
  (112, 1, .aload_n 0, []),
  (113, 3, .getfield 381, [11, 49, 0, 0, 0, 0]),
  (116, 1, .iastore, [40]),
  (117, 1, .iconst 0, []),
  (118, 2, .istore 4, []),
  (120, 2, .iload 4, []),
  (122, 1, .aload_n 0, []),
  (123, 3, .getfield 381, [11, 49, 0, 0, 0, 0]),
  (126, 3, .if_icmp .ge 28, []),
  (129, 1, .aload_n 0, []),
  (130, 3, .getfield 105, [11, 51, 3, 32, 54740, 0]),
  (133, 2, .bipush 21, []),
  (135, 1, .iload_n 3, []),
  (136, 1, .imul, []),
  (137, 2, .iload 4, []),
  (139, 1, .iadd, []),
  (140, 1, .aload_n 0, []),
  (141, 3, .getfield 99, [11, 48, 3, 30, 2240, 0]),
  (144, 2, .iload 4, []),
  (146, 1, .iaload, [40]),
  (147, 1, .iastore, [40]),
  (148, 3, .iinc 4 1, []),
  (151, 3, .goto (-31), []),
  (154, 1, .return_, [])]
/-- SyntaxRulesModel.testItem(II)I -/
def c209 : List zE := [(0, 1, .aload_n 0, []),
  (1, 1, .iload_n 1, []),
  (2, 1, .iconst 0, []),
  (3, 1, .iload_n 2, []),
  (4, 1, .iconst 0, []),
  (5, 3, .invokevirtual 324, [179, 1, 0, 0, 0, 0, 111]),
  (8, 1, .istore_n 3, []),
  (9, 1, .iload_n 3, []),
  (10, 1, .iconst 2, []),
  (11, 3, .if_icmp .eq 20, []),
  (14, 1, .iload_n 3, []),
  (15, 1, .iconst 5, []),
  (16, 3, .if_icmp .ne 30, []),
  (19, 1, .aload_n 0, []),
  (20, 1, .iload_n 1, []),
  (21, 1, .iconst 0, []),
  (22, 1, .iload_n 2, []),
  (23, 1, .iconst 5, []),
  (24, 3, .invokevirtual 324, [179, 1, 0, 0, 0, 0, 111]),
  (27, 1, .iconst 1, []),
  (28, 3, .if_icmp .ne 18, []),
  (31, 1, .aload_n 0, []),
  (32, 1, .iload_n 1, []),
  (33, 1, .iconst 5, []),
  (34, 1, .iload_n 2, []),
  (35, 3, .invokevirtual 384, [207, 1, 0, 0, 0, 111]),
  (38, 1, .pop, []),
  (39, 1, .aload_n 0, []),
  (40, 1, .iload_n 1, []),
  (41, 1, .iload_n 2, []),
  (42, 3, .invokevirtual 387, [206, 1, 0, 0, 111]),
  (45, 1, .ireturn, [0]),
  (46, 1, .iload_n 3, []),
  (47, 1, .iconst 5, []),
  (48, 3, .if_icmp .ne 43, []),
  (51, 1, .aload_n 0, []),
  (52, 1, .iload_n 1, []),
  (53, 1, .iconst 1, []),
  (54, 1, .iload_n 2, []),
  (55, 3, .invokevirtual 384, [207, 1, 0, 0, 0, 111]),
  (58, 1, .pop, []),
  (59, 1, .aload_n 0, []),
  (60, 1, .iload_n 1, []),
  (61, 1, .iconst 2, []),
  (62, 1, .iload_n 2, []),
  (63, 3, .invokevirtual 384, [207, 1, 0, 0, 0, 111]),
  (66, 1, .pop, []),
  (67, 1, .aload_n 0, []),
  (68, 3, .getfield 99, [11, 48, 3, 30, 2240, 0]),
  (71, 1, .aload_n 0, []),
  (72, 3, .getfield 381, [11, 49, 0, 0, 0, 0]),
  (75, 1, .iconst 0, []),
  (76, 1, .iastore, [40]),
  (77, 1, .aload_n 0, []),
  (78, 1, .dup, []),
  (79, 3, .getfield 381, [11, 49, 0, 0, 0, 0]),
  (82, 1, .iconst 1, []),
  (83, 1, .iadd, []),
  (84, 3, .putfield 381, [11, 49, 0, 0, 0]),
  (87, 1, .iload_n 2, []),
  (88, 1, .iconst 1, []),
  (89, 1, .iadd, []),
  (90, 1, .ireturn, [0]),
  (91, 1, .iload_n 3, []),
  (92, 1, .iconst 1, []),
  (93, 3, .if_icmp .ne 12, []),
  (96, 1, .aload_n 0, []),
  (97, 1, .iload_n 1, []),
  (98, 1, .iload_n 2, []),
  (99, 3, .invokevirtual 390, [208, 0, 0, 0, 111]),
  (102, 3, .goto 15, []),
  (105, 1, .iload_n 3, []),
  (106, 3, .ifCond .eq 11, []),
  (109, 1, .aload_n 0, []),
  (110, 1, .iload_n 1, []),
  (111, 1, .iconst 0, []),
  (112, 1, .iload_n 2, []),
  (113, 3, .invokevirtual 384, [207, 1, 0, 0, 0, 111]),
  (116, 1, .pop, []),
  (117, 1, .iload_n 2, []),
  (118, 1, .iconst 1, []),
  (119, 1, .iadd, []),
  (120, 1, .ireturn, [0])]
/-- SyntaxRulesModel.layTestsOf(I)V -/
def c210 : List zE := [(0, 1, .aload_n 0, []),
  (1, 3, .getfield 78, [11, 41, 3, 23, 940, 0]),
  (4, 1, .iload_n 1, []),
  (5, 1, .iconst 0, []),
  (6, 1, .iastore, [40]),
  (7, 1, .aload_n 0, []),
  (8, 1, .iconst 0, []),
  (9, 3, .putfield 381, [11, 49, 0, 0, 0]),
  (12, 1, .iconst 0, []),
  (13, 1, .istore_n 2, []),
  (14, 1, .iload_n 2, []),
  (15, 2, .bipush 26, []),
  (17, 3, .if_icmp .ge 16, []),
  (20, 1, .aload_n 0, []),
  (21, 3, .getfield 102, [11, 50, 3, 31, 2740, 0]),
  (24, 1, .iload_n 2, []),
  (25, 1, .iconst (-1), []),
  (26, 1, .iastore, [40]),
  (27, 3, .iinc 2 1, []),
  (30, 3, .goto (-16), []),
  (33, 1, .iconst 0, []),
  (34, 1, .istore_n 2, []),
  (35, 1, .iload_n 2, []),
  (36, 1, .aload_n 0, []),
  (37, 3, .getfield 48, [11, 24, 3, 13, 1740, 0]),
  (40, 1, .iconst 2, []),
  (41, 1, .iload_n 1, []),
  (42, 1, .imul, []),
  (43, 1, .iaload, [40]),
  (44, 3, .if_icmp .ge 89, []),
  (47, 1, .aload_n 0, []),
  (48, 1, .iload_n 1, []),
  (49, 1, .iconst 0, []),
  (50, 1, .iload_n 2, []),
  (51, 1, .iconst 0, []),
  (52, 3, .invokevirtual 324, [179, 1, 0, 0, 0, 0, 111]),
  (55, 2, .bipush 7, []),
  (57, 3, .if_icmp .ne 7, []),
  (60, 1, .iconst 1, []),
  (61, 3, .goto 4, []),
  (64, 1, .iconst 0, []),
  (65, 1, .istore_n 3, []),
  (66, 1, .aload_n 0, []),
  (67, 3, .getfield 381, [11, 49, 0, 0, 0, 0]),
  (70, 2, .istore 4, []),
  (72, 1, .iload_n 3, []),
  (73, 3, .ifCond .eq 19, []),
  (76, 1, .aload_n 0, []),
  (77, 1, .dup, []),
  (78, 3, .getfield 381, [11, 49, 0, 0, 0, 0]),
  (81, 1, .iconst 1, []),
  (82, 1, .isub, []),
  (83, 3, .putfield 381, [11, 49, 0, 0, 0]),
  (86, 3, .iinc 2 1, []),
  (89, 3, .goto 10, []),
  (92, 1, .aload_n 0, []),
  (93, 1, .iload_n 1, []),
  (94, 1, .iload_n 2, []),
  (95, 3, .invokevirtual 393, [209, 1, 0, 0, 111]),
  (98, 1, .istore_n 2, []),
  (99, 1, .aload_n 0, []),
  (100, 3, .getfield 381, [11, 49, 0, 0, 0, 0]),
  (103, 3, .ifCond .le 27, []),
  (106, 1, .aload_n 0, []),
  (107, 3, .getfield 381, [11, 49, 0, 0, 0, 0]),
  (110, 2, .iload 4, []),
  (112, 3, .if_icmp .gt 18, []),
  (115, 1, .aload_n 0, []),
  (116, 3, .getfield 99, [11, 48, 3, 30, 2240, 0]),
  (119, 1, .aload_n 0, []),
  (120, 3, .getfield 381, [11, 49, 0, 0, 0, 0]),
  (123, 1, .iconst 1, []),
  (124, 1, .isub, []),
  (125, 1, .dup2, []),
  (126, 1, .iaload, [40]),
  (127, 1, .iconst 1, []),
  (128, 1, .iadd, []),
  (129, 1, .iastore, [40]),
  (130, 3, .goto (-95), []),
  (133, 1, .return_, [])]
/-- SyntaxRulesModel.isSameWord(IIII)Z -/
def c211 : List zE := [(0, 1, .aload_n 0, []),
  (1, 1, .iload_n 1, []),
  (2, 1, .iconst 0, []),
  (3, 1, .iload_n 2, []),
  (4, 1, .iconst 4, []),
  (5, 3, .invokevirtual 324, [179, 1, 0, 0, 0, 0, 111]),
  (8, 1, .aload_n 0, []),
  (9, 1, .iload_n 3, []),
  (10, 1, .iconst 0, []),
  (11, 2, .iload 4, []),
  (13, 1, .iconst 4, []),
  (14, 3, .invokevirtual 324, [179, 1, 0, 0, 0, 0, 111]),
  (17, 3, .if_icmp .ne 7, []),
  (20, 1, .iconst 1, []),
  (21, 3, .goto 4, []),
  (24, 1, .iconst 0, []),
  (25, 2, .istore 5, []),
  (27, 1, .iconst 0, []),
  (28, 2, .istore 6, []),
  (30, 2, .iload 5, []),
  (32, 3, .ifCond .eq 75, []),
  (35, 2, .iload 6, []),
  (37, 1, .aload_n 0, []),
  (38, 1, .iload_n 1, []),
  (39, 1, .iconst 0, []),
  (40, 1, .iload_n 2, []),
  (41, 1, .iconst 4, []),
  (42, 3, .invokevirtual 324, [179, 1, 0, 0, 0, 0, 111]),
  (45, 3, .if_icmp .ge 62, []),
  (48, 1, .aload_n 0, []),
  (49, 3, .getfield 7, [11, 1, 3, 1, 271040, 0]),
  (52, 1, .iload_n 1, []),
  (53, 3, .invokestatic 151, [142, 1, 0]),
  (56, 1, .aload_n 0, []),
  (57, 1, .iload_n 1, []),
  (58, 1, .iconst 0, []),
  (59, 1, .iload_n 2, []),
  (60, 1, .iconst 3, []),
  (61, 3, .invokevirtual 324, [179, 1, 0, 0, 0, 0, 111]),
  (64, 1, .iadd, []),
  (65, 2, .iload 6, []),
  (67, 1, .iadd, []),
  (68, 1, .iaload, [40]),
  (69, 1, .aload_n 0, []),
  (70, 3, .getfield 7, [11, 1, 3, 1, 271040, 0]),
  (73, 1, .iload_n 3, []),
  (74, 3, .invokestatic 151, [142, 1, 0]),
  (77, 1, .aload_n 0, []),
  (78, 1, .iload_n 3, []),
  (79, 1, .iconst 0, []),
  (80, 2, .iload 4, []),
  (82, 1, .iconst 3, []),
  (83, 3, .invokevirtual 324, [179, 1, 0, 0, 0, 0, 111]),
  (86, 1, .iadd, []),
  (87, 2, .iload 6, []),
  (89, 1, .iadd, []),
  (90, 1, .iaload, [40]),
  (91, 3, .if_icmp .ne 7, []),
  (94, 1, .iconst 1, []),
  (95, 3, .goto 4, []),
  (98, 1, .iconst 0, []),
  (99, 2, .istore 5, []),
  (101, 3, .iinc 6 1, []),
  (104, 3, .goto (-74), []),
  (107, 2, .iload 5, []),
  (109, 1, .ireturn, [1])]
/-- SyntaxRulesModel.isSameToken(IIII)Z -/
def c212 : List zE := [(0, 1, .aload_n 0, []),
  (1, 1, .iload_n 1, []),
  (2, 1, .iconst 0, []),
  (3, 1, .iload_n 2, []),
  (4, 1, .iconst 0, []),
  (5, 3, .invokevirtual 324, [179, 1, 0, 0, 0, 0, 111]),
  (8, 2, .istore 5, []),
  (10, 2, .iload 5, []),
  (12, 1, .aload_n 0, []),
  (13, 1, .iload_n 3, []),
  (14, 1, .iconst 0, []),
  (15, 2, .iload 4, []),
  (17, 1, .iconst 0, []),
  (18, 3, .invokevirtual 324, [179, 1, 0, 0, 0, 0, 111]),
  (21, 3, .if_icmp .eq 5, []),
  (24, 1, .iconst 0, []),
  (25, 1, .ireturn, [1]),
  (26, 2, .iload 5, []),
  (28, 40, .tableswitch 122 1 6 #[40, 122, 112, 112, 112, 86], []),
  (68, 1, .aload_n 0, []),
  (69, 1, .iload_n 1, []),
  (70, 1, .iconst 0, []),
  (71, 1, .iload_n 2, []),
  (72, 1, .iconst 1, []),
  (73, 3, .invokevirtual 324, [179, 1, 0, 0, 0, 0, 111]),
  (76, 1, .aload_n 0, []),
  (77, 1, .iload_n 3, []),
  (78, 1, .iconst 0, []),
  (79, 2, .iload 4, []),
  (81, 1, .iconst 1, []),
  (82, 3, .invokevirtual 324, [179, 1, 0, 0, 0, 0, 111]),
  (85, 3, .if_icmp .ne 27, []),
  (88, 1, .aload_n 0, []),
  (89, 1, .iload_n 1, []),
  (90, 1, .iconst 0, []),
  (91, 1, .iload_n 2, []),
  (92, 1, .iconst 2, []),
  (93, 3, .invokevirtual 324, [179, 1, 0, 0, 0, 0, 111]),
  (96, 1, .aload_n 0, []),
  (97, 1, .iload_n 3, []),
  (98, 1, .iconst 0, []),
  (99, 2, .iload 4, []),
  (101, 1, .iconst 2, []),
  (102, 3, .invokevirtual 324, [179, 1, 0, 0, 0, 0, 111]),
  (105, 3, .if_icmp .ne 7, []),
  (108, 1, .iconst 1, []),
  (109, 3, .goto 4, []),
  (112, 1, .iconst 0, []),
  (113, 1, .ireturn, [1]),
  (114, 1, .aload_n 0, []),
  (115, 1, .iload_n 1, []),
  (116, 1, .iconst 0, []),
  (117, 1, .iload_n 2, []),
  (118, 1, .iconst 1, []),
  (119, 3, .invokevirtual 324, [179, 1, 0, 0, 0, 0, 111]),
  (122, 1, .aload_n 0, []),
  (123, 1, .iload_n 3, []),
  (124, 1, .iconst 0, []),
  (125, 2, .iload 4, []),
  (127, 1, .iconst 1, []),
  (128, 3, .invokevirtual 324, [179, 1, 0, 0, 0, 0, 111]),
  (131, 3, .if_icmp .ne 7, []),
  (134, 1, .iconst 1, []),
  (135, 3, .goto 4, []),
  (138, 1, .iconst 0, []),
  (139, 1, .ireturn, [1]),
  (140, 1, .aload_n 0, []),
  (141, 1, .iload_n 1, []),
  (142, 1, .iload_n 2, []),
  (143, 1, .iload_n 3, []),
  (144, 2, .iload 4, []),
  (146, 3, .invokevirtual 396, [211, 1, 0, 0, 0, 0, 111]),
  (149, 1, .ireturn, [1]),
  (150, 1, .iconst 1, []),
  (151, 1, .ireturn, [1])]
/-- SyntaxRulesModel.areSameTokens(IIII)Z -/
def c213 : List zE := [(0, 1, .aload_n 0, []),
  (1, 1, .iload_n 1, []),
  (2, 1, .iload_n 2, []),
  (3, 3, .invokevirtual 387, [206, 1, 0, 0, 111]),
  (6, 1, .iload_n 2, []),
  (7, 1, .isub, []),
  (8, 2, .istore 5, []),
  (10, 1, .aload_n 0, []),
  (11, 1, .iload_n 3, []),
  (12, 2, .iload 4, []),
  (14, 3, .invokevirtual 387, [206, 1, 0, 0, 111]),
  (17, 2, .iload 4, []),
  (19, 1, .isub, []),
  (20, 2, .iload 5, []),
  (22, 3, .if_icmp .ne 7, []),
  (25, 1, .iconst 1, []),
  (26, 3, .goto 4, []),
  (29, 1, .iconst 0, []),
  (30, 2, .istore 6, []),
  (32, 1, .iconst 0, []),
  (33, 2, .istore 7, []),
  (35, 2, .iload 6, []),
  (37, 3, .ifCond .eq 33, []),
  (40, 2, .iload 7, []),
  (42, 2, .iload 5, []),
  (44, 3, .if_icmp .ge 26, []),
  (47, 1, .aload_n 0, []),
  (48, 1, .iload_n 1, []),
  (49, 1, .iload_n 2, []),
  (50, 2, .iload 7, []),
  (52, 1, .iadd, []),
  (53, 1, .iload_n 3, []),
  (54, 2, .iload 4, []),
  (56, 2, .iload 7, []),
  (58, 1, .iadd, []),
  (59, 3, .invokevirtual 399, [212, 1, 0, 0, 0, 0, 111]),
  (62, 2, .istore 6, []),
  (64, 3, .iinc 7 1, []),
  (67, 3, .goto (-32), []),
  (70, 2, .iload 6, []),
  (72, 1, .ireturn, [1])]
/-- SyntaxRulesModel.isSameAsked(II)Z -/
def c214 : List zE := [(0, 1, .iload_n 1, []),
  (1, 2, .bipush 40, []),
  (3, 1, .idiv, []),
  (4, 1, .istore_n 3, []),
  (5, 1, .iload_n 2, []),
  (6, 2, .bipush 40, []),
  (8, 1, .idiv, []),
  (9, 2, .istore 4, []),
  (11, 1, .aload_n 0, []),
  (12, 3, .getfield 84, [11, 43, 3, 25, 32140, 0]),
  (15, 1, .iload_n 1, []),
  (16, 1, .iaload, [40]),
  (17, 2, .istore 5, []),
  (19, 1, .aload_n 0, []),
  (20, 3, .getfield 84, [11, 43, 3, 25, 32140, 0]),
  (23, 1, .iload_n 2, []),
  (24, 1, .iaload, [40]),
  (25, 2, .istore 6, []),
  (27, 1, .aload_n 0, []),
  (28, 3, .getfield 81, [11, 42, 3, 24, 32140, 0]),
  (31, 1, .iload_n 1, []),
  (32, 1, .iaload, [40]),
  (33, 35, .tableswitch 152 0 4 #[35, 77, 89, 117, 145], []),
  (68, 1, .aload_n 0, []),
  (69, 1, .iload_n 3, []),
  (70, 1, .iconst 0, []),
  (71, 2, .iload 5, []),
  (73, 1, .iconst 0, []),
  (74, 3, .invokevirtual 324, [179, 1, 0, 0, 0, 0, 111]),
  (77, 1, .aload_n 0, []),
  (78, 2, .iload 4, []),
  (80, 1, .iconst 0, []),
  (81, 2, .iload 6, []),
  (83, 1, .iconst 0, []),
  (84, 3, .invokevirtual 324, [179, 1, 0, 0, 0, 0, 111]),
  (87, 3, .if_icmp .ne 21, []),
  (90, 1, .aload_n 0, []),
  (91, 1, .iload_n 3, []),
  (92, 2, .iload 5, []),
  (94, 2, .iload 4, []),
  (96, 2, .iload 6, []),
  (98, 3, .invokevirtual 396, [211, 1, 0, 0, 0, 0, 111]),
  (101, 3, .ifCond .eq 7, []),
  (104, 1, .iconst 1, []),
  (105, 3, .goto 4, []),
  (108, 1, .iconst 0, []),
  (109, 1, .ireturn, [1]),
  (110, 1, .aload_n 0, []),
  (111, 1, .iload_n 3, []),
  (112, 2, .iload 5, []),
  (114, 2, .iload 4, []),
  (116, 2, .iload 6, []),
  (118, 3, .invokevirtual 396, [211, 1, 0, 0, 0, 0, 111]),
  (121, 1, .ireturn, [1]),
  (122, 1, .aload_n 0, []),
  (123, 1, .iload_n 3, []),
  (124, 1, .iconst 0, []),
  (125, 2, .iload 5, []),
  (127, 1, .iconst 1, []),
  (128, 3, .invokevirtual 324, [179, 1, 0, 0, 0, 0, 111]),
  (131, 1, .aload_n 0, []),
  (132, 2, .iload 4, []),
  (134, 1, .iconst 0, []),
  (135, 2, .iload 6, []),
  (137, 1, .iconst 1, []),
  (138, 3, .invokevirtual 324, [179, 1, 0, 0, 0, 0, 111]),
  (141, 3, .if_icmp .ne 7, []),
  (144, 1, .iconst 1, []),
  (145, 3, .goto 4, []),
  (148, 1, .iconst 0, []),
  (149, 1, .ireturn, [1]),
  (150, 1, .aload_n 0, []),
  (151, 1, .iload_n 3, []),
  (152, 1, .iconst 0, []),
  (153, 2, .iload 5, []),
  (155, 1, .iconst 2, []),
  (156, 3, .invokevirtual 324, [179, 1, 0, 0, 0, 0, 111]),
  (159, 1, .aload_n 0, []),
  (160, 2, .iload 4, []),
  (162, 1, .iconst 0, []),
  (163, 2, .iload 6, []),
  (165, 1, .iconst 2, []),
  (166, 3, .invokevirtual 324, [179, 1, 0, 0, 0, 0, 111]),
  (169, 3, .if_icmp .ne 7, []),
  (172, 1, .iconst 1, []),
  (173, 3, .goto 4, []),
  (176, 1, .iconst 0, []),
  (177, 1, .ireturn, [1]),
  (178, 1, .aload_n 0, []),
  (179, 1, .iload_n 1, []),
  (180, 1, .iload_n 2, []),
  (181, 3, .invokevirtual 402, [215, 1, 0, 0, 111]),
  (184, 1, .ireturn, [1]),
  (185, 1, .aload_n 0, []),
  (186, 1, .iload_n 3, []),
  (187, 2, .iload 5, []),
  (189, 2, .iload 4, []),
  (191, 2, .iload 6, []),
  (193, 3, .invokevirtual 405, [213, 1, 0, 0, 0, 0, 111]),
  (196, 1, .ireturn, [1])]
/-- SyntaxRulesModel.isSameOther(II)Z -/
def c215 : List zE := [(0, 1, .aload_n 0, []),
  (1, 3, .getfield 93, [11, 46, 3, 28, 32140, 0]),
  (4, 1, .iload_n 1, []),
  (5, 1, .iaload, [40]),
  (6, 1, .aload_n 0, []),
  (7, 3, .getfield 93, [11, 46, 3, 28, 32140, 0]),
  (10, 1, .iload_n 2, []),
  (11, 1, .iaload, [40]),
  (12, 3, .if_icmp .ne 7, []),
  (15, 1, .iconst 1, []),
  (16, 3, .goto 4, []),
  (19, 1, .iconst 0, []),
  (20, 1, .istore_n 3, []),
  (21, 1, .iconst 0, []),
  (22, 2, .istore 4, []),
  (24, 1, .iload_n 3, []),
  (25, 3, .ifCond .eq 53, []),
  (28, 2, .iload 4, []),
  (30, 1, .aload_n 0, []),
  (31, 3, .getfield 93, [11, 46, 3, 28, 32140, 0]),
  (34, 1, .iload_n 1, []),
  (35, 1, .iaload, [40]),
  (36, 3, .if_icmp .ge 42, []),
  (39, 1, .aload_n 0, []),
  (40, 3, .getfield 96, [11, 47, 3, 29, 672140, 0]),
  (43, 2, .bipush 21, []),
  (45, 1, .iload_n 1, []),
  (46, 1, .imul, []),
  (47, 2, .iload 4, []),
  (49, 1, .iadd, []),
  (50, 1, .iaload, [40]),
  (51, 1, .aload_n 0, []),
  (52, 3, .getfield 96, [11, 47, 3, 29, 672140, 0]),
  (55, 2, .bipush 21, []),
  (57, 1, .iload_n 2, []),
  (58, 1, .imul, []),
  (59, 2, .iload 4, []),
  (61, 1, .iadd, []),
  (62, 1, .iaload, [40]),
  (63, 3, .if_icmp .ne 7, []),
  (66, 1, .iconst 1, []),
  (67, 3, .goto 4, []),
  (70, 1, .iconst 0, []),
  (71, 1, .istore_n 3, []),
  (72, 3, .iinc 4 1, []),
  (75, 3, .goto (-51), []),
  (78, 1, .iload_n 3, []),
  (79, 1, .ireturn, [1])]
/-- SyntaxRulesModel.isSameTest(II)Z -/
def c216 : List zE := [(0, 1, .aload_n 0, []),
  (1, 3, .getfield 81, [11, 42, 3, 24, 32140, 0]),
  (4, 1, .iload_n 1, []),
  (5, 1, .iaload, [40]),
  (6, 1, .aload_n 0, []),
  (7, 3, .getfield 81, [11, 42, 3, 24, 32140, 0]),
  (10, 1, .iload_n 2, []),
  (11, 1, .iaload, [40]),
  (12, 3, .if_icmp .ne 22, []),
  (15, 1, .aload_n 0, []),
  (16, 3, .getfield 87, [11, 44, 3, 26, 32140, 0]),
  (19, 1, .iload_n 1, []),
  (20, 1, .iaload, [40]),
  (21, 1, .aload_n 0, []),
  (22, 3, .getfield 87, [11, 44, 3, 26, 32140, 0]),
  (25, 1, .iload_n 2, []),
  (26, 1, .iaload, [40]),
  (27, 3, .if_icmp .ne 7, []),
  (30, 1, .iconst 1, []),
  (31, 3, .goto 4, []),
  (34, 1, .iconst 0, []),
  (35, 1, .istore_n 3, []),
  (36, 1, .iconst 0, []),
  (37, 2, .istore 4, []),
  (39, 1, .iload_n 3, []),
  (40, 3, .ifCond .eq 53, []),
  (43, 2, .iload 4, []),
  (45, 1, .aload_n 0, []),
  (46, 3, .getfield 87, [11, 44, 3, 26, 32140, 0]),
  (49, 1, .iload_n 1, []),
  (50, 1, .iaload, [40]),
  (51, 3, .if_icmp .ge 42, []),
  (54, 1, .aload_n 0, []),
  (55, 3, .getfield 90, [11, 45, 3, 27, 672140, 0]),
  (58, 2, .bipush 21, []),
  (60, 1, .iload_n 1, []),
  (61, 1, .imul, []),
  (62, 2, .iload 4, []),
  (64, 1, .iadd, []),
  (65, 1, .iaload, [40]),
  (66, 1, .aload_n 0, []),
  (67, 3, .getfield 90, [11, 45, 3, 27, 672140, 0]),
  (70, 2, .bipush 21, []),
  (72, 1, .iload_n 2, []),
  (73, 1, .imul, []),
  (74, 2, .iload 4, []),
  (76, 1, .iadd, []),
  (77, 1, .iaload, [40]),
  (78, 3, .if_icmp .ne 7, []),
  (81, 1, .iconst 1, []),
  (82, 3, .goto 4, []),
  (85, 1, .iconst 0, []),
  (86, 1, .istore_n 3, []),
  (87, 3, .iinc 4 1, []),
  (90, 3, .goto (-51), []),
  (93, 1, .iload_n 3, []),
  (94, 3, .ifCond .eq 16, []),
  (97, 1, .aload_n 0, []),
  (98, 1, .iload_n 1, []),
  (99, 1, .iload_n 2, []),
  (100, 3, .invokevirtual 408, [214, 1, 0, 0, 111]),
  (103, 3, .ifCond .eq 7, []),
  (106, 1, .iconst 1, []),
  (107, 3, .goto 4, []),
  (110, 1, .iconst 0, []),
  (111, 1, .ireturn, [1])]
/-- SyntaxRulesModel.childOf(II)I -/
def c217 : List zE := [(0, 1, .iconst 0, []),
  (1, 1, .istore_n 3, []),
  (2, 1, .iload_n 3, []),
  (3, 1, .aload_n 0, []),
  (4, 3, .getfield 411, [11, 54, 0, 0, 0, 0]),
  (7, 3, .if_icmp .ge 35, []),
  (10, 1, .aload_n 0, []),
  (11, 3, .getfield 111, [11, 53, 3, 34, 32140, 0]),
  (14, 1, .iload_n 3, []),
  (15, 1, .iaload, [40]),
  (16, 1, .iload_n 1, []),
  (17, 3, .if_icmp .ne 19, []),
  (20, 1, .aload_n 0, []),
  (21, 1, .aload_n 0, []),
  (22, 3, .getfield 108, [11, 52, 3, 33, 32140, 0]),
  (25, 1, .iload_n 3, []),
  (26, 1, .iaload, [40]),
  (27, 1, .iload_n 2, []),
  (28, 3, .invokevirtual 414, [216, 1, 0, 0, 111]),
  (31, 3, .ifCond .eq 5, []),
  (34, 1, .iload_n 3, []),
  (35, 1, .ireturn, [0]),
  (36, 3, .iinc 3 1, []),
  (39, 3, .goto (-37), []),
  (42, 1, .aload_n 0, []),
  (43, 3, .getfield 108, [11, 52, 3, 33, 32140, 0]),
  (46, 1, .aload_n 0, []),
  (47, 3, .getfield 411, [11, 54, 0, 0, 0, 0]),
  (50, 1, .iload_n 2, []),
  (51, 1, .iastore, [40]),
  (52, 1, .aload_n 0, []),
  (53, 3, .getfield 111, [11, 53, 3, 34, 32140, 0]),
  (56, 1, .aload_n 0, []),
  (57, 3, .getfield 411, [11, 54, 0, 0, 0, 0]),
  (60, 1, .iload_n 1, []),
  (61, 1, .iastore, [40]),
  (62, 1, .aload_n 0, []),
  (63, 1, .dup, []),
  (64, 3, .getfield 411, [11, 54, 0, 0, 0, 0]),
  (67, 1, .iconst 1, []),
  (68, 1, .iadd, []),
  (69, 3, .putfield 411, [11, 54, 0, 0, 0]),
  (72, 1, .aload_n 0, []),
  (73, 3, .getfield 411, [11, 54, 0, 0, 0, 0]),
  (76, 1, .iconst 1, []),
  (77, 1, .isub, []),
  (78, 1, .ireturn, [0])]
/-- SyntaxRulesModel.layTests()V -/
def c218 : List zE := [(0, 1, .aload_n 0, []),
  (1, 1, .iconst 0, []),
  (2, 3, .putfield 411, [11, 54, 0, 0, 0]),
  (5, 1, .aload_n 0, []),
  (6, 1, .iconst 0, []),
  (7, 3, .putfield 417, [11, 55, 0, 0, 0]),
  (10, 1, .iconst 0, []),
  (11, 1, .istore_n 1, []),
  (12, 1, .iload_n 1, []),
  (13, 2, .bipush 8, []),
  (15, 3, .if_icmp .ge 69, []),
  (18, 1, .aload_n 0, []),
  (19, 1, .iload_n 1, []),
  (20, 3, .invokevirtual 301, [143, 1, 0, 111]),
  (23, 3, .ifCond .eq 55, []),
  (26, 1, .aload_n 0, []),
  (27, 1, .iload_n 1, []),
  (28, 3, .invokevirtual 420, [210, 0, 0, 111]),
  (31, 1, .aload_n 0, []),
  (32, 1, .dup, []),
  (33, 3, .getfield 417, [11, 55, 0, 0, 0, 0]),
  (36, 1, .aload_n 0, []),
  (37, 3, .getfield 78, [11, 41, 3, 23, 940, 0]),
  (40, 1, .iload_n 1, []),
  (41, 1, .iaload, [40]),
  (42, 1, .iadd, []),
  (43, 3, .putfield 417, [11, 55, 0, 0, 0]),
  (46, 1, .iconst (-1), []),
  (47, 1, .istore_n 2, []),
  (48, 1, .iconst 0, []),
  (49, 1, .istore_n 3, []),
  (50, 1, .iload_n 3, []),
  (51, 1, .aload_n 0, []),
  (52, 3, .getfield 78, [11, 41, 3, 23, 940, 0]),
  (55, 1, .iload_n 1, []),
  (56, 1, .iaload, [40]),
  (57, 3, .if_icmp .ge 21, []),
  (60, 1, .aload_n 0, []),
  (61, 1, .iload_n 2, []),
  (62, 2, .bipush 40, []),
  (64, 1, .iload_n 1, []),
  (65, 1, .imul, []),
  (66, 1, .iload_n 3, []),
  (67, 1, .iadd, []),
  (68, 3, .invokevirtual 423, [217, 1, 0, 0, 111]),
  (71, 1, .istore_n 2, []),
  (72, 3, .iinc 3 1, []),
  (75, 3, .goto (-25), []),
  (78, 3, .iinc 1 1, []),
  (81, 3, .goto (-69), []),
  (84, 1, .return_, [])]
/-- SyntaxRulesModel.tests(I)I -/
def c219 : List zE := [(0, 1, .aload_n 0, []),
  (1, 1, .iconst 0, []),
  (2, 3, .putfield 141, [11, 0, 0, 0, 0]),
  (5, 1, .iload_n 1, []),
  (6, 3, .ifCond .ne 10, []),
  (9, 1, .aload_n 0, []),
  (10, 3, .getfield 417, [11, 55, 0, 0, 0, 0]),
  (13, 3, .goto 16, []),
  (16, 1, .iload_n 1, []),
  (17, 1, .iconst 1, []),
  (18, 3, .if_icmp .ne 10, []),
  (21, 1, .aload_n 0, []),
  (22, 3, .getfield 411, [11, 54, 0, 0, 0, 0]),
  (25, 3, .goto 4, []),
  (28, 1, .iconst (-1), []),
  (29, 1, .ireturn, [0])]
/-- SyntaxRulesModel.nodeAt(I[III)I -/
def c220 : List zE := [(0, 1, .iload_n 1, []),
  (1, 2, .istore 5, []),
  (3, 1, .iconst 0, []),
  (4, 2, .istore 6, []),
  (6, 2, .iload 6, []),
  (8, 2, .iload 4, []),
  (10, 3, .if_icmp .ge 52, []),
  (13, 2, .iload 5, []),
  (15, 1, .iconst 1, []),
  (16, 1, .iadd, []),
  (17, 2, .istore 7, []),
  (19, 1, .iconst 0, []),
  (20, 2, .istore 8, []),
  (22, 2, .iload 8, []),
  (24, 1, .aload_n 2, []),
  (25, 1, .iload_n 3, []),
  (26, 2, .iload 6, []),
  (28, 1, .iadd, []),
  (29, 1, .iaload, [40]),
  (30, 3, .if_icmp .ge 22, []),
  (33, 2, .iload 7, []),
  (35, 1, .aload_n 0, []),
  (36, 2, .iload 7, []),
  (38, 2, .bipush 6, []),
  (40, 3, .invokevirtual 313, [158, 1, 0, 0, 111]),
  (43, 1, .iadd, []),
  (44, 2, .istore 7, []),
  (46, 3, .iinc 8 1, []),
  (49, 3, .goto (-27), []),
  (52, 2, .iload 7, []),
  (54, 2, .istore 5, []),
  (56, 3, .iinc 6 1, []),
  (59, 3, .goto (-53), []),
  (62, 2, .iload 5, []),
  (64, 1, .ireturn, [0])]
/-- SyntaxRulesModel.isSo(II)Z -/
def c221 : List zE := [(0, 1, .iload_n 1, []),
  (1, 2, .bipush 40, []),
  (3, 1, .idiv, []),
  (4, 1, .istore_n 3, []),
  (5, 1, .aload_n 0, []),
  (6, 3, .getfield 84, [11, 43, 3, 25, 32140, 0]),
  (9, 1, .iload_n 1, []),
  (10, 1, .iaload, [40]),
  (11, 2, .istore 4, []),
  (13, 1, .aload_n 0, []),
  (14, 1, .iload_n 2, []),
  (15, 1, .aload_n 0, []),
  (16, 3, .getfield 90, [11, 45, 3, 27, 672140, 0]),
  (19, 2, .bipush 21, []),
  (21, 1, .iload_n 1, []),
  (22, 1, .imul, []),
  (23, 1, .aload_n 0, []),
  (24, 3, .getfield 87, [11, 44, 3, 26, 32140, 0]),
  (27, 1, .iload_n 1, []),
  (28, 1, .iaload, [40]),
  (29, 3, .invokevirtual 426, [220, 1, 0, 0, 672140, 0, 111]),
  (32, 2, .istore 5, []),
  (34, 1, .aload_n 0, []),
  (35, 3, .getfield 81, [11, 42, 3, 24, 32140, 0]),
  (38, 1, .iload_n 1, []),
  (39, 1, .iaload, [40]),
  (40, 36, .tableswitch 151 0 4 #[36, 64, 75, 100, 125], []),
  (76, 1, .aload_n 0, []),
  (77, 1, .iload_n 3, []),
  (78, 2, .iload 4, []),
  (80, 1, .aload_n 0, []),
  (81, 1, .iload_n 3, []),
  (82, 1, .iconst 0, []),
  (83, 2, .iload 4, []),
  (85, 1, .iconst 0, []),
  (86, 3, .invokevirtual 324, [179, 1, 0, 0, 0, 0, 111]),
  (89, 1, .iconst 4, []),
  (90, 3, .if_icmp .ne 7, []),
  (93, 1, .iconst 0, []),
  (94, 3, .goto 4, []),
  (97, 1, .iconst 1, []),
  (98, 2, .iload 5, []),
  (100, 3, .invokevirtual 341, [183, 1, 0, 0, 0, 0, 111]),
  (103, 1, .ireturn, [1]),
  (104, 1, .aload_n 0, []),
  (105, 1, .iload_n 3, []),
  (106, 2, .iload 4, []),
  (108, 1, .iconst 2, []),
  (109, 2, .iload 5, []),
  (111, 3, .invokevirtual 341, [183, 1, 0, 0, 0, 0, 111]),
  (114, 1, .ireturn, [1]),
  (115, 1, .aload_n 0, []),
  (116, 2, .iload 5, []),
  (118, 1, .iconst 3, []),
  (119, 3, .invokevirtual 313, [158, 1, 0, 0, 111]),
  (122, 1, .aload_n 0, []),
  (123, 1, .iload_n 3, []),
  (124, 1, .iconst 0, []),
  (125, 2, .iload 4, []),
  (127, 1, .iconst 1, []),
  (128, 3, .invokevirtual 324, [179, 1, 0, 0, 0, 0, 111]),
  (131, 3, .if_icmp .ne 7, []),
  (134, 1, .iconst 1, []),
  (135, 3, .goto 4, []),
  (138, 1, .iconst 0, []),
  (139, 1, .ireturn, [1]),
  (140, 1, .aload_n 0, []),
  (141, 2, .iload 5, []),
  (143, 1, .iconst 0, []),
  (144, 3, .invokevirtual 313, [158, 1, 0, 0, 111]),
  (147, 1, .aload_n 0, []),
  (148, 1, .iload_n 3, []),
  (149, 1, .iconst 0, []),
  (150, 2, .iload 4, []),
  (152, 1, .iconst 2, []),
  (153, 3, .invokevirtual 324, [179, 1, 0, 0, 0, 0, 111]),
  (156, 3, .if_icmp .ne 7, []),
  (159, 1, .iconst 1, []),
  (160, 3, .goto 4, []),
  (163, 1, .iconst 0, []),
  (164, 1, .ireturn, [1]),
  (165, 1, .aload_n 0, []),
  (166, 1, .aload_n 0, []),
  (167, 1, .iload_n 2, []),
  (168, 1, .aload_n 0, []),
  (169, 3, .getfield 96, [11, 47, 3, 29, 672140, 0]),
  (172, 2, .bipush 21, []),
  (174, 1, .iload_n 1, []),
  (175, 1, .imul, []),
  (176, 1, .aload_n 0, []),
  (177, 3, .getfield 93, [11, 46, 3, 28, 32140, 0]),
  (180, 1, .iload_n 1, []),
  (181, 1, .iaload, [40]),
  (182, 3, .invokevirtual 426, [220, 1, 0, 0, 672140, 0, 111]),
  (185, 2, .iload 5, []),
  (187, 3, .invokevirtual 321, [181, 1, 0, 0, 111]),
  (190, 1, .ireturn, [1]),
  (191, 1, .aload_n 0, []),
  (192, 1, .iload_n 3, []),
  (193, 2, .iload 4, []),
  (195, 2, .iload 5, []),
  (197, 3, .invokevirtual 360, [190, 1, 0, 0, 0, 111]),
  (200, 1, .ireturn, [1])]
/-- SyntaxRulesModel.asked(I)I -/
def c222 : List zE := [(0, 1, .aload_n 0, []),
  (1, 1, .iconst 0, []),
  (2, 3, .putfield 141, [11, 0, 0, 0, 0]),
  (5, 1, .aload_n 0, []),
  (6, 1, .iload_n 1, []),
  (7, 3, .invokevirtual 363, [157, 1, 0, 111]),
  (10, 3, .ifCond .ne 5, []),
  (13, 1, .iconst (-1), []),
  (14, 1, .ireturn, [0]),
  (15, 1, .iconst 0, []),
  (16, 1, .istore_n 2, []),
  (17, 1, .iconst 0, []),
  (18, 1, .istore_n 3, []),
  (19, 1, .iload_n 3, []),
  (20, 1, .aload_n 0, []),
  (21, 3, .getfield 411, [11, 54, 0, 0, 0, 0]),
  (24, 3, .if_icmp .ge 83, []),
  (27, 1, .aload_n 0, []),
  (28, 3, .getfield 111, [11, 53, 3, 34, 32140, 0]),
  (31, 1, .iload_n 3, []),
  (32, 1, .iaload, [40]),
  (33, 1, .iconst (-1), []),
  (34, 3, .if_icmp .eq 17, []),
  (37, 1, .aload_n 0, []),
  (38, 3, .getfield 114, [11, 56, 3, 35, 32141, 0]),
  (41, 1, .aload_n 0, []),
  (42, 3, .getfield 111, [11, 53, 3, 34, 32140, 0]),
  (45, 1, .iload_n 3, []),
  (46, 1, .iaload, [40]),
  (47, 1, .baload, [41]),
  (48, 3, .ifCond .eq 7, []),
  (51, 1, .iconst 1, []),
  (52, 3, .goto 4, []),
  (55, 1, .iconst 0, []),
  (56, 2, .istore 4, []),
  (58, 1, .aload_n 0, []),
  (59, 3, .getfield 114, [11, 56, 3, 35, 32141, 0]),
  (62, 1, .iload_n 3, []),
  (63, 2, .iload 4, []),
  (65, 3, .ifCond .eq 21, []),
  (68, 1, .aload_n 0, []),
  (69, 1, .aload_n 0, []),
  (70, 3, .getfield 108, [11, 52, 3, 33, 32140, 0]),
  (73, 1, .iload_n 3, []),
  (74, 1, .iaload, [40]),
  (75, 1, .iload_n 1, []),
  (76, 3, .invokevirtual 430, [221, 1, 0, 0, 111]),
  (79, 3, .ifCond .eq 7, []),
  (82, 1, .iconst 1, []),
  (83, 3, .goto 4, []),
  (86, 1, .iconst 0, []),
  (87, 1, .bastore, [41]),
  (88, 1, .iload_n 2, []),
  (89, 2, .iload 4, []),
  (91, 3, .ifCond .eq 7, []),
  (94, 1, .iconst 1, []),
  (95, 3, .goto 4, []),
  (98, 1, .iconst 0, []),
  (99, 1, .iadd, []),
  (100, 1, .istore_n 2, []),
  (101, 3, .iinc 3 1, []),
  (104, 3, .goto (-85), []),
  (107, 1, .iload_n 2, []),
  (108, 1, .ireturn, [0])]
/-- SyntaxRulesModel.leastRule(I)I -/
def c223 : List zE := [(0, 1, .iconst 0, []),
  (1, 1, .istore_n 2, []),
  (2, 1, .iload_n 2, []),
  (3, 2, .bipush 8, []),
  (5, 3, .if_icmp .ge 20, []),
  (8, 1, .aload_n 0, []),
  (9, 1, .iload_n 2, []),
  (10, 1, .iload_n 1, []),
  (11, 3, .invokevirtual 368, [191, 1, 0, 0, 111]),
  (14, 3, .ifCond .eq 5, []),
  (17, 1, .iload_n 2, []),
  (18, 1, .ireturn, [0]),
  (19, 3, .iinc 2 1, []),
  (22, 3, .goto (-20), []),
  (25, 1, .iconst (-1), []),
  (26, 1, .ireturn, [0])]
/-- SyntaxRulesModel.addEdit(II)V -/
def c224 : List zE := [(0, 1, .aload_n 0, []),
  (1, 3, .getfield 433, [11, 59, 0, 0, 0, 0]),
  (4, 1, .istore_n 3, []),
  (5, 1, .iload_n 3, []),
  (6, 3, .ifCond .le 49, []),
  (9, 1, .aload_n 0, []),
  (10, 3, .getfield 117, [11, 57, 3, 36, 6140, 0]),
  (13, 1, .iload_n 3, []),
  (14, 1, .iconst 1, []),
  (15, 1, .isub, []),
  (16, 1, .iaload, [40]),
  (17, 1, .iload_n 1, []),
  (18, 3, .if_icmp .le 37, []),
  (21, 1, .aload_n 0, []),
  (22, 3, .getfield 117, [11, 57, 3, 36, 6140, 0]),
  (25, 1, .iload_n 3, []),
  (26, 1, .aload_n 0, []),
  (27, 3, .getfield 117, [11, 57, 3, 36, 6140, 0]),
  (30, 1, .iload_n 3, []),
  (31, 1, .iconst 1, []),
  (32, 1, .isub, []),
  (33, 1, .iaload, [40]),
  (34, 1, .iastore, [40]),
  (35, 1, .aload_n 0, []),
  (36, 3, .getfield 120, [11, 58, 3, 37, 6140, 0]),
  (39, 1, .iload_n 3, []),
  (40, 1, .aload_n 0, []),
  (41, 3, .getfield 120, [11, 58, 3, 37, 6140, 0]),
  (44, 1, .iload_n 3, []),
  (45, 1, .iconst 1, []),
  (46, 1, .isub, []),
  (47, 1, .iaload, [40]),
  (48, 1, .iastore, [40]),
  (49, 3, .iinc 3 (-1), []),
  (52, 3, .goto (-47), []),
  (55, 1, .aload_n 0, []),
  (56, 3, .getfield 117, [11, 57, 3, 36, 6140, 0]),
  (59, 1, .iload_n 3, []),
  (60, 1, .iload_n 1, []),
  (61, 1, .iastore, [40]),
  (62, 1, .aload_n 0, []),
  (63, 3, .getfield 120, [11, 58, 3, 37, 6140, 0]),
  (66, 1, .iload_n 3, []),
  (67, 1, .iload_n 2, []),
  (68, 1, .iastore, [40]),
  (69, 1, .aload_n 0, []),
  (70, 1, .dup, []),
  (71, 3, .getfield 433, [11, 59, 0, 0, 0, 0]),
  (74, 1, .iconst 1, []),
  (75, 1, .iadd, []),
  (76, 3, .putfield 433, [11, 59, 0, 0, 0]),
  (79, 1, .return_, [])]
/-- SyntaxRulesModel.walkOutside()V -/
def c225 : List zE := [(0, 1, .iconst 0, []),
  (1, 1, .istore_n 1, []),
  (2, 1, .iload_n 1, []),
  (3, 1, .aload_n 0, []),
  (4, 3, .getfield 226, [11, 20, 0, 0, 0, 0]),
  (7, 3, .if_icmp .ge 39, []),
  (10, 1, .aload_n 0, []),
  (11, 1, .iload_n 1, []),
  (12, 3, .invokevirtual 436, [223, 1, 0, 111]),
  (15, 1, .istore_n 2, []),
  (16, 1, .iload_n 2, []),
  (17, 1, .iconst (-1), []),
  (18, 3, .if_icmp .ne 9, []),
  (21, 3, .iinc 1 1, []),
  (24, 3, .goto 19, []),
  (27, 1, .aload_n 0, []),
  (28, 1, .iload_n 1, []),
  (29, 1, .iload_n 2, []),
  (30, 3, .invokevirtual 439, [224, 0, 0, 0, 111]),
  (33, 1, .iload_n 1, []),
  (34, 1, .aload_n 0, []),
  (35, 1, .iload_n 1, []),
  (36, 2, .bipush 6, []),
  (38, 3, .invokevirtual 313, [158, 1, 0, 0, 111]),
  (41, 1, .iadd, []),
  (42, 1, .istore_n 1, []),
  (43, 3, .goto (-41), []),
  (46, 1, .return_, [])]
/-- SyntaxRulesModel.hasEdit(I)Z -/
def c226 : List zE := [(0, 1, .iconst 0, []),
  (1, 1, .istore_n 2, []),
  (2, 1, .iconst 0, []),
  (3, 1, .istore_n 3, []),
  (4, 1, .iload_n 3, []),
  (5, 1, .aload_n 0, []),
  (6, 3, .getfield 433, [11, 59, 0, 0, 0, 0]),
  (9, 3, .if_icmp .ge 47, []),
  (12, 1, .iload_n 2, []),
  (13, 3, .ifCond .ne 31, []),
  (16, 1, .aload_n 0, []),
  (17, 3, .getfield 117, [11, 57, 3, 36, 6140, 0]),
  (20, 1, .iload_n 3, []),
  (21, 1, .iaload, [40]),
  (22, 1, .iload_n 1, []),
  (23, 3, .if_icmp .lt 25, []),
  (26, 1, .aload_n 0, []),
  (27, 3, .getfield 117, [11, 57, 3, 36, 6140, 0]),
  (30, 1, .iload_n 3, []),
  (31, 1, .iaload, [40]),
  (32, 1, .iload_n 1, []),
  (33, 1, .aload_n 0, []),
  (34, 1, .iload_n 1, []),
  (35, 2, .bipush 6, []),
  (37, 3, .invokevirtual 313, [158, 1, 0, 0, 111]),
  (40, 1, .iadd, []),
  (41, 3, .if_icmp .ge 7, []),
  (44, 1, .iconst 1, []),
  (45, 3, .goto 4, []),
  (48, 1, .iconst 0, []),
  (49, 1, .istore_n 2, []),
  (50, 3, .iinc 3 1, []),
  (53, 3, .goto (-49), []),
  (56, 1, .iload_n 2, []),
  (57, 1, .ireturn, [1])]
/-- SyntaxRulesModel.walkInside()V -/
def c227 : List zE := [(0, 1, .iconst 0, []),
  (1, 1, .istore_n 1, []),
  (2, 1, .iload_n 1, []),
  (3, 1, .aload_n 0, []),
  (4, 3, .getfield 226, [11, 20, 0, 0, 0, 0]),
  (7, 3, .if_icmp .ge 64, []),
  (10, 1, .iload_n 1, []),
  (11, 1, .istore_n 2, []),
  (12, 1, .iload_n 2, []),
  (13, 3, .ifCond .le 45, []),
  (16, 1, .aload_n 0, []),
  (17, 1, .aload_n 0, []),
  (18, 3, .getfield 123, [11, 60, 3, 38, 6140, 0]),
  (21, 1, .iload_n 2, []),
  (22, 1, .iconst 1, []),
  (23, 1, .isub, []),
  (24, 1, .iaload, [40]),
  (25, 1, .iconst 5, []),
  (26, 3, .invokevirtual 313, [158, 1, 0, 0, 111]),
  (29, 1, .aload_n 0, []),
  (30, 1, .iload_n 1, []),
  (31, 1, .iconst 5, []),
  (32, 3, .invokevirtual 313, [158, 1, 0, 0, 111]),
  (35, 3, .if_icmp .le 23, []),
  (38, 1, .aload_n 0, []),
  (39, 3, .getfield 123, [11, 60, 3, 38, 6140, 0]),
  (42, 1, .iload_n 2, []),
  (43, 1, .aload_n 0, []),
  (44, 3, .getfield 123, [11, 60, 3, 38, 6140, 0]),
  (47, 1, .iload_n 2, []),
  (48, 1, .iconst 1, []),
  (49, 1, .isub, []),
  (50, 1, .iaload, [40]),
  (51, 1, .iastore, [40]),
  (52, 3, .iinc 2 (-1), []),
  (55, 3, .goto (-43), []),
  (58, 1, .aload_n 0, []),
  (59, 3, .getfield 123, [11, 60, 3, 38, 6140, 0]),
  (62, 1, .iload_n 2, []),
  (63, 1, .iload_n 1, []),
  (64, 1, .iastore, [40]),
  (65, 3, .iinc 1 1, []),
  (68, 3, .goto (-66), []),
  (71, 1, .iconst 0, []),
  (72, 1, .istore_n 1, []),
  (73, 1, .iload_n 1, []),
  (74, 1, .aload_n 0, []),
  (75, 3, .getfield 226, [11, 20, 0, 0, 0, 0]),
  (78, 3, .if_icmp .ge 53, []),
  (81, 1, .aload_n 0, []),
  (82, 1, .aload_n 0, []),
  (83, 3, .getfield 123, [11, 60, 3, 38, 6140, 0]),
  (86, 1, .iload_n 1, []),
  (87, 1, .iaload, [40]),
  (88, 3, .invokevirtual 442, [226, 1, 0, 111]),
  (91, 3, .ifCond .eq 7, []),
  (94, 1, .iconst (-1), []),
  (95, 3, .goto 13, []),
  (98, 1, .aload_n 0, []),
  (99, 1, .aload_n 0, []),
  (100, 3, .getfield 123, [11, 60, 3, 38, 6140, 0]),
  (103, 1, .iload_n 1, []),
  (104, 1, .iaload, [40]),
  (105, 3, .invokevirtual 436, [223, 1, 0, 111]),
  (108, 1, .istore_n 2, []),
  (109, 1, .iload_n 2, []),
  (110, 1, .iconst (-1), []),
  (111, 3, .if_icmp .eq 14, []),
  (114, 1, .aload_n 0, []),
  (115, 1, .aload_n 0, []),
  (116, 3, .getfield 123, [11, 60, 3, 38, 6140, 0]),
  (119, 1, .iload_n 1, []),
  (120, 1, .iaload, [40]),
  (121, 1, .iload_n 2, []),
  (122, 3, .invokevirtual 439, [224, 0, 0, 0, 111]),
  (125, 3, .iinc 1 1, []),
  (128, 3, .goto (-55), []),
  (131, 1, .return_, [])]
/-- SyntaxRulesModel.isWay(I)Z -/
def c228 : List zE := [(0, 1, .iload_n 0, []),
  (1, 1, .i2l, []),
  (2, 1, .lconst 0, []),
  (3, 1, .lconst 1, []),
  (4, 3, .invokestatic 147, [141, 1, 1, 1, 1]),
  (7, 1, .ireturn, [1])]
/-- SyntaxRulesModel.walk(I)V -/
def c229 : List zE := [(0, 1, .aload_n 0, []),
  (1, 1, .iconst 0, []),
  (2, 3, .putfield 433, [11, 59, 0, 0, 0]),
  (5, 1, .iload_n 1, []),
  (6, 3, .ifCond .ne 10, []),
  (9, 1, .aload_n 0, []),
  (10, 3, .invokevirtual 445, [225, 0, 111]),
  (13, 3, .goto 7, []),
  (16, 1, .aload_n 0, []),
  (17, 3, .invokevirtual 448, [227, 0, 111]),
  (20, 1, .return_, [])]
/-- SyntaxRulesModel.puts(I)V -/
def c230 : List zE := [(0, 1, .aload_n 0, []),
  (1, 3, .getfield 126, [11, 61, 3, 39, 700142, 0]),
  (4, 1, .aload_n 0, []),
  (5, 3, .getfield 451, [11, 62, 0, 0, 0, 0]),
  (8, 1, .iload_n 1, []),
  (9, 1, .i2b, []),
  (10, 1, .bastore, [42]),
  (11, 1, .aload_n 0, []),
  (12, 1, .dup, []),
  (13, 3, .getfield 451, [11, 62, 0, 0, 0, 0]),
  (16, 1, .iconst 1, []),
  (17, 1, .iadd, []),
  (18, 3, .putfield 451, [11, 62, 0, 0, 0]),
  (21, 1, .return_, [])]
/-- SyntaxRulesModel.putsRow(II)V -/
def c231 : List zE := [(0, 1, .iload_n 1, []),
  (1, 1, .istore_n 3, []),
  (2, 1, .iload_n 3, []),
  (3, 1, .iload_n 2, []),
  (4, 3, .if_icmp .ge 19, []),
  (7, 1, .aload_n 0, []),
  (8, 1, .aload_n 0, []),
  (9, 3, .getfield 7, [11, 1, 3, 1, 271040, 0]),
  (12, 1, .iload_n 3, []),
  (13, 1, .iaload, [40]),
  (14, 3, .invokevirtual 454, [230, 0, 0, 111]),
  (17, 3, .iinc 3 1, []),
  (20, 3, .goto (-18), []),
  (23, 1, .return_, [])]
/-- SyntaxRulesModel.layHeld()V -/
def c232 : List zE := [(0, 1, .iconst 0, []),
  (1, 1, .istore_n 1, []),
  (2, 1, .iload_n 1, []),
  (3, 2, .bipush 26, []),
  (5, 3, .if_icmp .ge 96, []),
  (8, 1, .aload_n 0, []),
  (9, 3, .getfield 129, [11, 64, 3, 40, 2740, 0]),
  (12, 1, .iload_n 1, []),
  (13, 1, .iconst 0, []),
  (14, 1, .iastore, [40]),
  (15, 1, .aload_n 0, []),
  (16, 3, .getfield 132, [11, 65, 3, 41, 2740, 0]),
  (19, 1, .iload_n 1, []),
  (20, 1, .iconst 0, []),
  (21, 1, .iastore, [40]),
  (22, 1, .aload_n 0, []),
  (23, 3, .getfield 69, [11, 38, 3, 20, 2740, 0]),
  (26, 1, .iload_n 1, []),
  (27, 1, .iaload, [40]),
  (28, 3, .ifCond .le 67, []),
  (31, 1, .aload_n 0, []),
  (32, 3, .getfield 66, [11, 37, 3, 19, 2740, 0]),
  (35, 1, .iload_n 1, []),
  (36, 1, .iaload, [40]),
  (37, 1, .istore_n 2, []),
  (38, 1, .iconst 1, []),
  (39, 1, .istore_n 3, []),
  (40, 1, .iload_n 3, []),
  (41, 1, .aload_n 0, []),
  (42, 3, .getfield 69, [11, 38, 3, 20, 2740, 0]),
  (45, 1, .iload_n 1, []),
  (46, 1, .iaload, [40]),
  (47, 3, .if_icmp .ge 19, []),
  (50, 1, .iload_n 2, []),
  (51, 1, .aload_n 0, []),
  (52, 1, .iload_n 2, []),
  (53, 2, .bipush 6, []),
  (55, 3, .invokevirtual 313, [158, 1, 0, 0, 111]),
  (58, 1, .iadd, []),
  (59, 1, .istore_n 2, []),
  (60, 3, .iinc 3 1, []),
  (63, 3, .goto (-23), []),
  (66, 1, .aload_n 0, []),
  (67, 3, .getfield 129, [11, 64, 3, 40, 2740, 0]),
  (70, 1, .iload_n 1, []),
  (71, 1, .aload_n 0, []),
  (72, 1, .aload_n 0, []),
  (73, 3, .getfield 66, [11, 37, 3, 19, 2740, 0]),
  (76, 1, .iload_n 1, []),
  (77, 1, .iaload, [40]),
  (78, 1, .iconst 4, []),
  (79, 3, .invokevirtual 313, [158, 1, 0, 0, 111]),
  (82, 1, .iastore, [40]),
  (83, 1, .aload_n 0, []),
  (84, 3, .getfield 132, [11, 65, 3, 41, 2740, 0]),
  (87, 1, .iload_n 1, []),
  (88, 1, .aload_n 0, []),
  (89, 1, .iload_n 2, []),
  (90, 1, .iconst 5, []),
  (91, 3, .invokevirtual 313, [158, 1, 0, 0, 111]),
  (94, 1, .iastore, [40]),
  (95, 3, .iinc 1 1, []),
  (98, 3, .goto (-96), []),
  (101, 1, .return_, [])]
/-- SyntaxRulesModel.isHeld(II)Z -/
def c233 : List zE := [(0, 1, .iconst 0, []),
  (1, 1, .istore_n 3, []),
  (2, 1, .iconst 0, []),
  (3, 2, .istore 4, []),
  (5, 2, .iload 4, []),
  (7, 1, .aload_n 0, []),
  (8, 3, .getfield 48, [11, 24, 3, 13, 1740, 0]),
  (11, 1, .iconst 2, []),
  (12, 1, .iload_n 1, []),
  (13, 1, .imul, []),
  (14, 1, .iconst 1, []),
  (15, 1, .iadd, []),
  (16, 1, .iaload, [40]),
  (17, 3, .if_icmp .ge 90, []),
  (20, 1, .aload_n 0, []),
  (21, 1, .iload_n 1, []),
  (22, 1, .iconst 1, []),
  (23, 2, .iload 4, []),
  (25, 1, .iconst 0, []),
  (26, 3, .invokevirtual 324, [179, 1, 0, 0, 0, 0, 111]),
  (29, 2, .istore 5, []),
  (31, 1, .aload_n 0, []),
  (32, 1, .iload_n 1, []),
  (33, 1, .iconst 1, []),
  (34, 2, .iload 4, []),
  (36, 1, .iconst 1, []),
  (37, 3, .invokevirtual 324, [179, 1, 0, 0, 0, 0, 111]),
  (40, 2, .istore 6, []),
  (42, 1, .iload_n 3, []),
  (43, 3, .ifCond .ne 52, []),
  (46, 2, .iload 5, []),
  (48, 1, .iconst 1, []),
  (49, 3, .if_icmp .eq 10, []),
  (52, 2, .iload 5, []),
  (54, 2, .bipush 6, []),
  (56, 3, .if_icmp .ne 43, []),
  (59, 1, .aload_n 0, []),
  (60, 3, .getfield 42, [11, 21, 3, 11, 45140, 0]),
  (63, 1, .iconst 3, []),
  (64, 1, .iload_n 2, []),
  (65, 1, .imul, []),
  (66, 1, .iaload, [40]),
  (67, 1, .aload_n 0, []),
  (68, 3, .getfield 129, [11, 64, 3, 40, 2740, 0]),
  (71, 2, .iload 6, []),
  (73, 1, .iaload, [40]),
  (74, 3, .if_icmp .lt 25, []),
  (77, 1, .aload_n 0, []),
  (78, 3, .getfield 42, [11, 21, 3, 11, 45140, 0]),
  (81, 1, .iconst 3, []),
  (82, 1, .iload_n 2, []),
  (83, 1, .imul, []),
  (84, 1, .iaload, [40]),
  (85, 1, .aload_n 0, []),
  (86, 3, .getfield 132, [11, 65, 3, 41, 2740, 0]),
  (89, 2, .iload 6, []),
  (91, 1, .iaload, [40]),
  (92, 3, .if_icmp .ge 7, []),
  (95, 1, .iconst 1, []),
  (96, 3, .goto 4, []),
  (99, 1, .iconst 0, []),
  (100, 1, .istore_n 3, []),
  (101, 3, .iinc 4 1, []),
  (104, 3, .goto (-99), []),
  (107, 1, .iload_n 3, []),
  (108, 1, .ireturn, [1])]
/-- SyntaxRulesModel.putsToken(IIZ)V -/
def c234 : List zE := [(0, 1, .aload_n 0, []),
  (1, 1, .iload_n 1, []),
  (2, 1, .iconst 1, []),
  (3, 1, .iload_n 2, []),
  (4, 1, .iconst 0, []),
  (5, 3, .invokevirtual 324, [179, 1, 0, 0, 0, 0, 111]),
  (8, 2, .istore 4, []),
  (10, 1, .aload_n 0, []),
  (11, 1, .iload_n 1, []),
  (12, 1, .iconst 1, []),
  (13, 1, .iload_n 2, []),
  (14, 1, .iconst 1, []),
  (15, 3, .invokevirtual 324, [179, 1, 0, 0, 0, 0, 111]),
  (18, 2, .istore 5, []),
  (20, 2, .iload 4, []),
  (22, 1, .iconst 1, []),
  (23, 3, .if_icmp .eq 10, []),
  (26, 2, .iload 4, []),
  (28, 2, .bipush 6, []),
  (30, 3, .if_icmp .ne 7, []),
  (33, 1, .iconst 1, []),
  (34, 3, .goto 4, []),
  (37, 1, .iconst 0, []),
  (38, 2, .istore 6, []),
  (40, 1, .iload_n 3, []),
  (41, 3, .ifCond .ne 31, []),
  (44, 2, .iload 4, []),
  (46, 2, .bipush 7, []),
  (48, 3, .if_icmp .eq 24, []),
  (51, 2, .iload 6, []),
  (53, 3, .ifCond .eq 13, []),
  (56, 1, .aload_n 0, []),
  (57, 3, .getfield 132, [11, 65, 3, 41, 2740, 0]),
  (60, 2, .iload 5, []),
  (62, 1, .iaload, [40]),
  (63, 3, .ifCond .eq 9, []),
  (66, 1, .aload_n 0, []),
  (67, 2, .bipush 32, []),
  (69, 3, .invokevirtual 454, [230, 0, 0, 111]),
  (72, 2, .iload 4, []),
  (74, 2, .bipush 7, []),
  (76, 3, .if_icmp .ne 12, []),
  (79, 1, .aload_n 0, []),
  (80, 2, .bipush 41, []),
  (82, 3, .invokevirtual 454, [230, 0, 0, 111]),
  (85, 3, .goto 73, []),
  (88, 2, .iload 6, []),
  (90, 3, .ifCond .eq 24, []),
  (93, 1, .aload_n 0, []),
  (94, 1, .aload_n 0, []),
  (95, 3, .getfield 129, [11, 64, 3, 40, 2740, 0]),
  (98, 2, .iload 5, []),
  (100, 1, .iaload, [40]),
  (101, 1, .aload_n 0, []),
  (102, 3, .getfield 132, [11, 65, 3, 41, 2740, 0]),
  (105, 2, .iload 5, []),
  (107, 1, .iaload, [40]),
  (108, 3, .invokevirtual 457, [231, 0, 0, 0, 111]),
  (111, 3, .goto 47, []),
  (114, 2, .iload 4, []),
  (116, 1, .iconst 5, []),
  (117, 3, .if_icmp .ne 9, []),
  (120, 1, .aload_n 0, []),
  (121, 2, .bipush 40, []),
  (123, 3, .invokevirtual 454, [230, 0, 0, 111]),
  (126, 1, .iload_n 1, []),
  (127, 3, .invokestatic 151, [142, 1, 0]),
  (130, 1, .aload_n 0, []),
  (131, 1, .iload_n 1, []),
  (132, 1, .iconst 1, []),
  (133, 1, .iload_n 2, []),
  (134, 1, .iconst 3, []),
  (135, 3, .invokevirtual 324, [179, 1, 0, 0, 0, 0, 111]),
  (138, 1, .iadd, []),
  (139, 2, .istore 7, []),
  (141, 1, .aload_n 0, []),
  (142, 2, .iload 7, []),
  (144, 2, .iload 7, []),
  (146, 1, .aload_n 0, []),
  (147, 1, .iload_n 1, []),
  (148, 1, .iconst 1, []),
  (149, 1, .iload_n 2, []),
  (150, 1, .iconst 4, []),
  (151, 3, .invokevirtual 324, [179, 1, 0, 0, 0, 0, 111]),
  (154, 1, .iadd, []),
  (155, 3, .invokevirtual 457, [231, 0, 0, 0, 111]),
  (158, 1, .return_, [])]
/-- SyntaxRulesModel.layComing(I)V -/
def c235 : List zE := [(0, 1, .aload_n 0, []),
  (1, 3, .getfield 120, [11, 58, 3, 37, 6140, 0]),
  (4, 1, .iload_n 1, []),
  (5, 1, .iaload, [40]),
  (6, 1, .istore_n 2, []),
  (7, 1, .aload_n 0, []),
  (8, 3, .getfield 117, [11, 57, 3, 36, 6140, 0]),
  (11, 1, .iload_n 1, []),
  (12, 1, .iaload, [40]),
  (13, 1, .istore_n 3, []),
  (14, 1, .aload_n 0, []),
  (15, 1, .iload_n 2, []),
  (16, 1, .iload_n 3, []),
  (17, 3, .invokevirtual 368, [191, 1, 0, 0, 111]),
  (20, 1, .pop, []),
  (21, 1, .aload_n 0, []),
  (22, 3, .invokevirtual 460, [232, 0, 111]),
  (25, 1, .aload_n 0, []),
  (26, 1, .iconst 0, []),
  (27, 3, .putfield 451, [11, 62, 0, 0, 0]),
  (30, 1, .aload_n 0, []),
  (31, 1, .iconst 0, []),
  (32, 3, .putfield 463, [11, 63, 0, 0, 0]),
  (35, 1, .iconst 0, []),
  (36, 2, .istore 4, []),
  (38, 2, .iload 4, []),
  (40, 1, .aload_n 0, []),
  (41, 3, .getfield 229, [11, 22, 0, 0, 0, 0]),
  (44, 3, .if_icmp .ge 117, []),
  (47, 1, .aload_n 0, []),
  (48, 3, .getfield 42, [11, 21, 3, 11, 45140, 0]),
  (51, 1, .iconst 3, []),
  (52, 2, .iload 4, []),
  (54, 1, .imul, []),
  (55, 1, .iaload, [40]),
  (56, 1, .aload_n 0, []),
  (57, 1, .iload_n 3, []),
  (58, 1, .iconst 4, []),
  (59, 3, .invokevirtual 313, [158, 1, 0, 0, 111]),
  (62, 3, .if_icmp .lt 25, []),
  (65, 1, .aload_n 0, []),
  (66, 3, .getfield 42, [11, 21, 3, 11, 45140, 0]),
  (69, 1, .iconst 3, []),
  (70, 2, .iload 4, []),
  (72, 1, .imul, []),
  (73, 1, .iaload, [40]),
  (74, 1, .aload_n 0, []),
  (75, 1, .iload_n 3, []),
  (76, 1, .iconst 5, []),
  (77, 3, .invokevirtual 313, [158, 1, 0, 0, 111]),
  (80, 3, .if_icmp .ge 7, []),
  (83, 1, .iconst 1, []),
  (84, 3, .goto 4, []),
  (87, 1, .iconst 0, []),
  (88, 2, .istore 5, []),
  (90, 2, .iload 5, []),
  (92, 3, .ifCond .eq 63, []),
  (95, 1, .aload_n 0, []),
  (96, 1, .iload_n 2, []),
  (97, 2, .iload 4, []),
  (99, 3, .invokevirtual 466, [233, 1, 0, 0, 111]),
  (102, 3, .ifCond .ne 53, []),
  (105, 1, .aload_n 0, []),
  (106, 1, .aload_n 0, []),
  (107, 3, .getfield 42, [11, 21, 3, 11, 45140, 0]),
  (110, 1, .iconst 3, []),
  (111, 2, .iload 4, []),
  (113, 1, .imul, []),
  (114, 1, .iaload, [40]),
  (115, 1, .aload_n 0, []),
  (116, 3, .getfield 42, [11, 21, 3, 11, 45140, 0]),
  (119, 1, .iconst 3, []),
  (120, 2, .iload 4, []),
  (122, 1, .imul, []),
  (123, 1, .iaload, [40]),
  (124, 1, .aload_n 0, []),
  (125, 3, .getfield 42, [11, 21, 3, 11, 45140, 0]),
  (128, 1, .iconst 3, []),
  (129, 2, .iload 4, []),
  (131, 1, .imul, []),
  (132, 1, .iconst 1, []),
  (133, 1, .iadd, []),
  (134, 1, .iaload, [40]),
  (135, 1, .iadd, []),
  (136, 3, .invokevirtual 457, [231, 0, 0, 0, 111]),
  (139, 1, .aload_n 0, []),
  (140, 2, .bipush 32, []),
  (142, 3, .invokevirtual 454, [230, 0, 0, 111]),
  (145, 1, .aload_n 0, []),
  (146, 1, .dup, []),
  (147, 3, .getfield 463, [11, 63, 0, 0, 0, 0]),
  (150, 1, .iconst 1, []),
  (151, 1, .iadd, []),
  (152, 3, .putfield 463, [11, 63, 0, 0, 0]),
  (155, 3, .iinc 4 1, []),
  (158, 3, .goto (-120), []),
  (161, 1, .iconst 0, []),
  (162, 2, .istore 4, []),
  (164, 2, .iload 4, []),
  (166, 1, .aload_n 0, []),
  (167, 3, .getfield 48, [11, 24, 3, 13, 1740, 0]),
  (170, 1, .iconst 2, []),
  (171, 1, .iload_n 2, []),
  (172, 1, .imul, []),
  (173, 1, .iconst 1, []),
  (174, 1, .iadd, []),
  (175, 1, .iaload, [40]),
  (176, 3, .if_icmp .ge 26, []),
  (179, 1, .aload_n 0, []),
  (180, 1, .iload_n 2, []),
  (181, 2, .iload 4, []),
  (183, 2, .iload 4, []),
  (185, 3, .ifCond .ne 7, []),
  (188, 1, .iconst 1, []),
  (189, 3, .goto 4, []),
  (192, 1, .iconst 0, []),
  (193, 3, .invokevirtual 469, [234, 0, 0, 0, 0, 111]),
  (196, 3, .iinc 4 1, []),
  (199, 3, .goto (-35), []),
  (202, 1, .return_, [])]
/-- SyntaxRulesModel.edit(III)I -/
def c236 : List zE := [(0, 1, .aload_n 0, []),
  (1, 1, .iconst 0, []),
  (2, 3, .putfield 141, [11, 0, 0, 0, 0]),
  (5, 1, .iload_n 1, []),
  (6, 3, .invokestatic 473, [228, 1, 0]),
  (9, 3, .ifCond .ne 5, []),
  (12, 1, .iconst (-1), []),
  (13, 1, .ireturn, [0]),
  (14, 1, .aload_n 0, []),
  (15, 1, .iload_n 1, []),
  (16, 3, .invokevirtual 476, [229, 0, 0, 111]),
  (19, 1, .iload_n 2, []),
  (20, 1, .iconst (-1), []),
  (21, 3, .if_icmp .ne 16, []),
  (24, 1, .iload_n 3, []),
  (25, 3, .ifCond .ne 10, []),
  (28, 1, .aload_n 0, []),
  (29, 3, .getfield 433, [11, 59, 0, 0, 0, 0]),
  (32, 3, .goto 4, []),
  (35, 1, .iconst (-1), []),
  (36, 1, .ireturn, [0]),
  (37, 1, .iload_n 2, []),
  (38, 1, .i2l, []),
  (39, 1, .lconst 0, []),
  (40, 1, .aload_n 0, []),
  (41, 3, .getfield 433, [11, 59, 0, 0, 0, 0]),
  (44, 1, .i2l, []),
  (45, 1, .lconst 1, []),
  (46, 1, .lsub, []),
  (47, 3, .invokestatic 147, [141, 1, 1, 1, 1]),
  (50, 3, .ifCond .eq 15, []),
  (53, 1, .iload_n 3, []),
  (54, 1, .i2l, []),
  (55, 1, .lconst 0, []),
  (56, 3, .ldc2_w 479, [3]),
  (59, 3, .invokestatic 147, [141, 1, 1, 1, 1]),
  (62, 3, .ifCond .ne 5, []),
  (65, 1, .iconst (-1), []),
  (66, 1, .ireturn, [0]),
  (67, 1, .iload_n 3, []),
  (68, 1, .iconst 2, []),
  (69, 3, .if_icmp .ge 23, []),
  (72, 1, .iload_n 3, []),
  (73, 3, .ifCond .ne 12, []),
  (76, 1, .aload_n 0, []),
  (77, 3, .getfield 120, [11, 58, 3, 37, 6140, 0]),
  (80, 1, .iload_n 2, []),
  (81, 1, .iaload, [40]),
  (82, 3, .goto 9, []),
  (85, 1, .aload_n 0, []),
  (86, 3, .getfield 117, [11, 57, 3, 36, 6140, 0]),
  (89, 1, .iload_n 2, []),
  (90, 1, .iaload, [40]),
  (91, 1, .ireturn, [0]),
  (92, 1, .aload_n 0, []),
  (93, 1, .iload_n 2, []),
  (94, 3, .invokevirtual 481, [235, 0, 0, 111]),
  (97, 1, .iload_n 3, []),
  (98, 1, .iconst 2, []),
  (99, 3, .if_icmp .ne 10, []),
  (102, 1, .aload_n 0, []),
  (103, 3, .getfield 451, [11, 62, 0, 0, 0, 0]),
  (106, 3, .goto 7, []),
  (109, 1, .aload_n 0, []),
  (110, 3, .getfield 463, [11, 63, 0, 0, 0, 0]),
  (113, 1, .ireturn, [0])]
/-- SyntaxRulesModel.comes(III)I -/
def c237 : List zE := [(0, 1, .aload_n 0, []),
  (1, 1, .iconst 0, []),
  (2, 3, .putfield 141, [11, 0, 0, 0, 0]),
  (5, 1, .iload_n 1, []),
  (6, 3, .invokestatic 473, [228, 1, 0]),
  (9, 3, .ifCond .ne 5, []),
  (12, 1, .iconst (-1), []),
  (13, 1, .ireturn, [0]),
  (14, 1, .aload_n 0, []),
  (15, 1, .iload_n 1, []),
  (16, 3, .invokevirtual 476, [229, 0, 0, 111]),
  (19, 1, .iload_n 2, []),
  (20, 1, .i2l, []),
  (21, 1, .lconst 0, []),
  (22, 1, .aload_n 0, []),
  (23, 3, .getfield 433, [11, 59, 0, 0, 0, 0]),
  (26, 1, .i2l, []),
  (27, 1, .lconst 1, []),
  (28, 1, .lsub, []),
  (29, 3, .invokestatic 147, [141, 1, 1, 1, 1]),
  (32, 3, .ifCond .ne 5, []),
  (35, 1, .iconst (-1), []),
  (36, 1, .ireturn, [0]),
  (37, 1, .aload_n 0, []),
  (38, 1, .iload_n 2, []),
  (39, 3, .invokevirtual 481, [235, 0, 0, 111]),
  (42, 1, .iload_n 3, []),
  (43, 1, .i2l, []),
  (44, 1, .lconst 0, []),
  (45, 1, .aload_n 0, []),
  (46, 3, .getfield 451, [11, 62, 0, 0, 0, 0]),
  (49, 1, .i2l, []),
  (50, 1, .lconst 1, []),
  (51, 1, .lsub, []),
  (52, 3, .invokestatic 147, [141, 1, 1, 1, 1]),
  (55, 3, .ifCond .eq 12, []),
  (58, 1, .aload_n 0, []),
  (59, 3, .getfield 126, [11, 61, 3, 39, 700142, 0]),
  (62, 1, .iload_n 3, []),
  (63, 1, .baload, [42]),
  (64, 3, .goto 4, []),
  (67, 1, .iconst (-1), []),
  (68, 1, .ireturn, [0])]
/-- SyntaxRulesModel.rulesIn(I)I -/
def c238 : List zE := [(0, 1, .iconst 0, []),
  (1, 1, .istore_n 2, []),
  (2, 1, .iload_n 1, []),
  (3, 1, .istore_n 3, []),
  (4, 1, .iload_n 3, []),
  (5, 3, .ifCond .eq 15, []),
  (8, 3, .iinc 2 1, []),
  (11, 1, .iload_n 3, []),
  (12, 1, .iload_n 3, []),
  (13, 1, .iconst 1, []),
  (14, 1, .isub, []),
  (15, 1, .iand, []),
  (16, 1, .istore_n 3, []),
  (17, 3, .goto (-13), []),
  (20, 1, .iload_n 2, []),
  (21, 1, .ireturn, [0])]
/-- SyntaxRulesModel.isEdit(I)Z -/
def c239 : List zE := [(0, 1, .iconst 0, []),
  (1, 1, .istore_n 2, []),
  (2, 1, .iconst 0, []),
  (3, 1, .istore_n 3, []),
  (4, 1, .iload_n 3, []),
  (5, 1, .aload_n 0, []),
  (6, 3, .getfield 433, [11, 59, 0, 0, 0, 0]),
  (9, 3, .if_icmp .ge 29, []),
  (12, 1, .iload_n 2, []),
  (13, 3, .ifCond .ne 13, []),
  (16, 1, .aload_n 0, []),
  (17, 3, .getfield 117, [11, 57, 3, 36, 6140, 0]),
  (20, 1, .iload_n 3, []),
  (21, 1, .iaload, [40]),
  (22, 1, .iload_n 1, []),
  (23, 3, .if_icmp .ne 7, []),
  (26, 1, .iconst 1, []),
  (27, 3, .goto 4, []),
  (30, 1, .iconst 0, []),
  (31, 1, .istore_n 2, []),
  (32, 3, .iinc 3 1, []),
  (35, 3, .goto (-31), []),
  (38, 1, .iload_n 2, []),
  (39, 1, .ireturn, [1])]
/-- SyntaxRulesModel.conflicts(II)I -/
def c240 : List zE := [(0, 1, .aload_n 0, []),
  (1, 1, .iconst 0, []),
  (2, 3, .putfield 141, [11, 0, 0, 0, 0]),
  (5, 1, .iload_n 1, []),
  (6, 3, .invokestatic 473, [228, 1, 0]),
  (9, 3, .ifCond .eq 15, []),
  (12, 1, .iload_n 2, []),
  (13, 1, .i2l, []),
  (14, 1, .lconst 0, []),
  (15, 3, .ldc2_w 373, [2]),
  (18, 3, .invokestatic 147, [141, 1, 1, 1, 1]),
  (21, 3, .ifCond .ne 5, []),
  (24, 1, .iconst (-1), []),
  (25, 1, .ireturn, [0]),
  (26, 1, .aload_n 0, []),
  (27, 1, .iload_n 1, []),
  (28, 3, .invokevirtual 476, [229, 0, 0, 111]),
  (31, 1, .iconst 0, []),
  (32, 1, .istore_n 3, []),
  (33, 1, .iconst 0, []),
  (34, 2, .istore 4, []),
  (36, 1, .iconst 0, []),
  (37, 2, .istore 5, []),
  (39, 1, .iconst 0, []),
  (40, 2, .istore 6, []),
  (42, 2, .iload 6, []),
  (44, 1, .aload_n 0, []),
  (45, 3, .getfield 226, [11, 20, 0, 0, 0, 0]),
  (48, 3, .if_icmp .ge 75, []),
  (51, 1, .aload_n 0, []),
  (52, 2, .iload 6, []),
  (54, 3, .invokevirtual 370, [195, 1, 0, 111]),
  (57, 2, .istore 7, []),
  (59, 2, .iload 5, []),
  (61, 2, .iload 7, []),
  (63, 1, .ior, []),
  (64, 2, .istore 5, []),
  (66, 1, .iload_n 3, []),
  (67, 2, .iload 7, []),
  (69, 3, .ifCond .eq 16, []),
  (72, 1, .aload_n 0, []),
  (73, 2, .iload 6, []),
  (75, 3, .invokevirtual 484, [239, 1, 0, 111]),
  (78, 3, .ifCond .ne 7, []),
  (81, 1, .iconst 1, []),
  (82, 3, .goto 4, []),
  (85, 1, .iconst 0, []),
  (86, 1, .iadd, []),
  (87, 1, .istore_n 3, []),
  (88, 2, .iload 4, []),
  (90, 1, .aload_n 0, []),
  (91, 2, .iload 7, []),
  (93, 3, .invokevirtual 487, [238, 1, 0, 111]),
  (96, 1, .iconst 1, []),
  (97, 3, .if_icmp .le 16, []),
  (100, 1, .aload_n 0, []),
  (101, 2, .iload 6, []),
  (103, 3, .invokevirtual 484, [239, 1, 0, 111]),
  (106, 3, .ifCond .eq 7, []),
  (109, 1, .iconst 1, []),
  (110, 3, .goto 4, []),
  (113, 1, .iconst 0, []),
  (114, 1, .iadd, []),
  (115, 2, .istore 4, []),
  (117, 3, .iinc 6 1, []),
  (120, 3, .goto (-78), []),
  (123, 1, .iconst 0, []),
  (124, 2, .istore 6, []),
  (126, 2, .iload 6, []),
  (128, 1, .aload_n 0, []),
  (129, 3, .getfield 433, [11, 59, 0, 0, 0, 0]),
  (132, 3, .if_icmp .ge 25, []),
  (135, 2, .iload 5, []),
  (137, 1, .iconst 1, []),
  (138, 1, .aload_n 0, []),
  (139, 3, .getfield 120, [11, 58, 3, 37, 6140, 0]),
  (142, 2, .iload 6, []),
  (144, 1, .iaload, [40]),
  (145, 1, .ishl, []),
  (146, 1, .iconst (-1), []),
  (147, 1, .ixor, []),
  (148, 1, .iand, []),
  (149, 2, .istore 5, []),
  (151, 3, .iinc 6 1, []),
  (154, 3, .goto (-28), []),
  (157, 1, .iload_n 2, []),
  (158, 3, .ifCond .ne 7, []),
  (161, 1, .iload_n 3, []),
  (162, 3, .goto 15, []),
  (165, 1, .iload_n 2, []),
  (166, 1, .iconst 1, []),
  (167, 3, .if_icmp .ne 8, []),
  (170, 2, .iload 4, []),
  (172, 3, .goto 5, []),
  (175, 2, .iload 5, []),
  (177, 1, .ireturn, [0])]
/-- SyntaxRulesModel.areBeside(II)Z -/
def c241 : List zE := [(0, 1, .iload_n 0, []),
  (1, 3, .invokestatic 199, [144, 1, 0]),
  (4, 3, .ifCond .eq 10, []),
  (7, 1, .iload_n 1, []),
  (8, 3, .invokestatic 199, [144, 1, 0]),
  (11, 3, .ifCond .ne 17, []),
  (14, 1, .iload_n 0, []),
  (15, 3, .invokestatic 203, [145, 1, 0]),
  (18, 3, .ifCond .eq 14, []),
  (21, 1, .iload_n 1, []),
  (22, 3, .invokestatic 203, [145, 1, 0]),
  (25, 3, .ifCond .eq 7, []),
  (28, 1, .iconst 1, []),
  (29, 3, .goto 4, []),
  (32, 1, .iconst 0, []),
  (33, 1, .ireturn, [1])]
/-- SyntaxRulesModel.brings(IZ)V -/
def c242 : List zE := [(0, 1, .iload_n 2, []),
  (1, 3, .ifCond .eq 32, []),
  (4, 1, .aload_n 0, []),
  (5, 3, .getfield 176, [11, 9, 0, 0, 0, 0]),
  (8, 3, .ifCond .le 25, []),
  (11, 1, .aload_n 0, []),
  (12, 3, .getfield 27, [11, 8, 3, 6, 30340, 0]),
  (15, 1, .aload_n 0, []),
  (16, 3, .getfield 176, [11, 9, 0, 0, 0, 0]),
  (19, 1, .iconst 1, []),
  (20, 1, .isub, []),
  (21, 1, .iaload, [40]),
  (22, 1, .iload_n 1, []),
  (23, 3, .invokestatic 490, [241, 1, 0, 0]),
  (26, 3, .ifCond .eq 7, []),
  (29, 1, .iconst 1, []),
  (30, 3, .goto 4, []),
  (33, 1, .iconst 0, []),
  (34, 1, .istore_n 3, []),
  (35, 1, .aload_n 0, []),
  (36, 3, .getfield 176, [11, 9, 0, 0, 0, 0]),
  (39, 1, .iload_n 3, []),
  (40, 3, .ifCond .eq 7, []),
  (43, 1, .iconst 2, []),
  (44, 3, .goto 4, []),
  (47, 1, .iconst 1, []),
  (48, 1, .iadd, []),
  (49, 3, .sipush 300, []),
  (52, 3, .if_icmp .le 9, []),
  (55, 1, .aload_n 0, []),
  (56, 1, .iconst 1, []),
  (57, 3, .putfield 493, [11, 66, 1, 0, 0]),
  (60, 1, .return_, []),
  (61, 1, .iload_n 3, []),
  (62, 3, .ifCond .eq 24, []),
  (65, 1, .aload_n 0, []),
  (66, 3, .getfield 27, [11, 8, 3, 6, 30340, 0]),
  (69, 1, .aload_n 0, []),
  (70, 3, .getfield 176, [11, 9, 0, 0, 0, 0]),
  (73, 2, .bipush 32, []),
  (75, 1, .iastore, [40]),
  (76, 1, .aload_n 0, []),
  (77, 1, .dup, []),
  (78, 3, .getfield 176, [11, 9, 0, 0, 0, 0]),
  (81, 1, .iconst 1, []),
  (82, 1, .iadd, []),
  (83, 3, .putfield 176, [11, 9, 0, 0, 0]),
  (86, 1, .aload_n 0, []),
  (87, 3, .getfield 27, [11, 8, 3, 6, 30340, 0]),
  (90, 1, .aload_n 0, []),
  (91, 3, .getfield 176, [11, 9, 0, 0, 0, 0]),
  (94, 1, .iload_n 1, []),
  (95, 1, .iastore, [40]),
  (96, 1, .aload_n 0, []),
  (97, 1, .dup, []),
  (98, 3, .getfield 176, [11, 9, 0, 0, 0, 0]),
  (101, 1, .iconst 1, []),
  (102, 1, .iadd, []),
  (103, 3, .putfield 176, [11, 9, 0, 0, 0]),
  (106, 1, .return_, [])]
/-- SyntaxRulesModel.layApplied(I)Z -/
def c243 : List zE := [(0, 1, .aload_n 0, []),
  (1, 1, .iload_n 1, []),
  (2, 3, .invokevirtual 476, [229, 0, 0, 111]),
  (5, 1, .aload_n 0, []),
  (6, 1, .iconst 0, []),
  (7, 3, .putfield 176, [11, 9, 0, 0, 0]),
  (10, 1, .aload_n 0, []),
  (11, 1, .iconst 0, []),
  (12, 3, .putfield 493, [11, 66, 1, 0, 0]),
  (15, 1, .iconst 0, []),
  (16, 1, .istore_n 2, []),
  (17, 1, .iconst 0, []),
  (18, 1, .istore_n 3, []),
  (19, 1, .iload_n 3, []),
  (20, 1, .aload_n 0, []),
  (21, 3, .getfield 433, [11, 59, 0, 0, 0, 0]),
  (24, 3, .if_icmp .gt 168, []),
  (27, 1, .aload_n 0, []),
  (28, 3, .getfield 493, [11, 66, 1, 0, 0, 0]),
  (31, 3, .ifCond .ne 161, []),
  (34, 1, .iload_n 3, []),
  (35, 1, .aload_n 0, []),
  (36, 3, .getfield 433, [11, 59, 0, 0, 0, 0]),
  (39, 3, .if_icmp .ne 14, []),
  (42, 1, .aload_n 0, []),
  (43, 3, .getfield 7, [11, 1, 3, 1, 271040, 0]),
  (46, 3, .sipush 300, []),
  (49, 1, .iaload, [40]),
  (50, 3, .goto 14, []),
  (53, 1, .aload_n 0, []),
  (54, 1, .aload_n 0, []),
  (55, 3, .getfield 117, [11, 57, 3, 36, 6140, 0]),
  (58, 1, .iload_n 3, []),
  (59, 1, .iaload, [40]),
  (60, 1, .iconst 4, []),
  (61, 3, .invokevirtual 313, [158, 1, 0, 0, 111]),
  (64, 2, .istore 4, []),
  (66, 1, .iload_n 2, []),
  (67, 2, .istore 5, []),
  (69, 2, .iload 5, []),
  (71, 2, .iload 4, []),
  (73, 3, .if_icmp .ge 42, []),
  (76, 1, .aload_n 0, []),
  (77, 3, .getfield 493, [11, 66, 1, 0, 0, 0]),
  (80, 3, .ifCond .ne 35, []),
  (83, 1, .aload_n 0, []),
  (84, 1, .aload_n 0, []),
  (85, 3, .getfield 7, [11, 1, 3, 1, 271040, 0]),
  (88, 2, .iload 5, []),
  (90, 1, .iaload, [40]),
  (91, 2, .iload 5, []),
  (93, 1, .iload_n 2, []),
  (94, 3, .if_icmp .ne 11, []),
  (97, 1, .iload_n 3, []),
  (98, 3, .ifCond .le 7, []),
  (101, 1, .iconst 1, []),
  (102, 3, .goto 4, []),
  (105, 1, .iconst 0, []),
  (106, 3, .invokevirtual 496, [242, 0, 0, 0, 111]),
  (109, 3, .iinc 5 1, []),
  (112, 3, .goto (-43), []),
  (115, 1, .iload_n 3, []),
  (116, 1, .aload_n 0, []),
  (117, 3, .getfield 433, [11, 59, 0, 0, 0, 0]),
  (120, 3, .if_icmp .ge 66, []),
  (123, 1, .aload_n 0, []),
  (124, 1, .iload_n 3, []),
  (125, 3, .invokevirtual 481, [235, 0, 0, 111]),
  (128, 1, .iconst 0, []),
  (129, 2, .istore 5, []),
  (131, 2, .iload 5, []),
  (133, 1, .aload_n 0, []),
  (134, 3, .getfield 451, [11, 62, 0, 0, 0, 0]),
  (137, 3, .if_icmp .ge 37, []),
  (140, 1, .aload_n 0, []),
  (141, 3, .getfield 493, [11, 66, 1, 0, 0, 0]),
  (144, 3, .ifCond .ne 30, []),
  (147, 1, .aload_n 0, []),
  (148, 1, .aload_n 0, []),
  (149, 3, .getfield 126, [11, 61, 3, 39, 700142, 0]),
  (152, 2, .iload 5, []),
  (154, 1, .baload, [42]),
  (155, 2, .iload 5, []),
  (157, 3, .ifCond .ne 7, []),
  (160, 1, .iconst 1, []),
  (161, 3, .goto 4, []),
  (164, 1, .iconst 0, []),
  (165, 3, .invokevirtual 496, [242, 0, 0, 0, 111]),
  (168, 3, .iinc 5 1, []),
  (171, 3, .goto (-40), []),
  (174, 1, .aload_n 0, []),
  (175, 1, .aload_n 0, []),
  (176, 3, .getfield 117, [11, 57, 3, 36, 6140, 0]),
  (179, 1, .iload_n 3, []),
  (180, 1, .iaload, [40]),
  (181, 1, .iconst 5, []),
  (182, 3, .invokevirtual 313, [158, 1, 0, 0, 111]),
  (185, 1, .istore_n 2, []),
  (186, 3, .iinc 3 1, []),
  (189, 3, .goto (-170), []),
  (192, 1, .aload_n 0, []),
  (193, 3, .getfield 493, [11, 66, 1, 0, 0, 0]),
  (196, 3, .ifCond .ne 14, []),
  (199, 1, .aload_n 0, []),
  (200, 3, .invokevirtual 222, [155, 1, 111]),
  (203, 3, .ifCond .eq 7, []),
  (206, 1, .iconst 1, []),
  (207, 3, .goto 4, []),
  (210, 1, .iconst 0, []),
  (211, 1, .ireturn, [1])]
/-- SyntaxRulesModel.bytesThen()I -/
def c244 : List zE := [(0, 1, .aload_n 0, []),
  (1, 3, .getfield 176, [11, 9, 0, 0, 0, 0]),
  (4, 1, .ireturn, [0])]
/-- SyntaxRulesModel.would(II)I -/
def c245 : List zE := [(0, 1, .aload_n 0, []),
  (1, 1, .iconst 0, []),
  (2, 3, .putfield 141, [11, 0, 0, 0, 0]),
  (5, 1, .iload_n 1, []),
  (6, 3, .invokestatic 473, [228, 1, 0]),
  (9, 3, .ifCond .eq 15, []),
  (12, 1, .iload_n 2, []),
  (13, 1, .i2l, []),
  (14, 1, .lconst 0, []),
  (15, 3, .ldc2_w 373, [2]),
  (18, 3, .invokestatic 147, [141, 1, 1, 1, 1]),
  (21, 3, .ifCond .ne 5, []),
  (24, 1, .iconst (-1), []),
  (25, 1, .ireturn, [0]),
  (26, 1, .aload_n 0, []),
  (27, 1, .iload_n 1, []),
  (28, 3, .invokevirtual 500, [243, 1, 0, 111]),
  (31, 3, .ifCond .ne 6, []),
  (34, 2, .bipush (-3), []),
  (36, 1, .ireturn, [0]),
  (37, 1, .iload_n 2, []),
  (38, 3, .ifCond .ne 10, []),
  (41, 1, .aload_n 0, []),
  (42, 3, .invokevirtual 503, [244, 1, 111]),
  (45, 3, .goto 19, []),
  (48, 1, .iload_n 2, []),
  (49, 1, .iconst 1, []),
  (50, 3, .if_icmp .ne 10, []),
  (53, 1, .aload_n 0, []),
  (54, 3, .getfield 206, [11, 11, 0, 0, 0, 0]),
  (57, 3, .goto 7, []),
  (60, 1, .aload_n 0, []),
  (61, 3, .getfield 190, [11, 13, 0, 0, 0, 0]),
  (64, 1, .ireturn, [0])]
/-- SyntaxRulesModel.apply(I)I -/
def c246 : List zE := [(0, 1, .aload_n 0, []),
  (1, 1, .iconst 0, []),
  (2, 3, .putfield 141, [11, 0, 0, 0, 0]),
  (5, 1, .iload_n 1, []),
  (6, 3, .invokestatic 473, [228, 1, 0]),
  (9, 3, .ifCond .ne 5, []),
  (12, 1, .iconst (-1), []),
  (13, 1, .ireturn, [0]),
  (14, 1, .aload_n 0, []),
  (15, 1, .iload_n 1, []),
  (16, 3, .invokevirtual 500, [243, 1, 0, 111]),
  (19, 1, .istore_n 2, []),
  (20, 1, .aload_n 0, []),
  (21, 3, .getfield 433, [11, 59, 0, 0, 0, 0]),
  (24, 1, .istore_n 3, []),
  (25, 1, .iload_n 3, []),
  (26, 3, .ifCond .ne 5, []),
  (29, 1, .iconst 0, []),
  (30, 1, .ireturn, [0]),
  (31, 1, .iload_n 2, []),
  (32, 3, .ifCond .ne 6, []),
  (35, 2, .bipush (-3), []),
  (37, 1, .ireturn, [0]),
  (38, 1, .aload_n 0, []),
  (39, 1, .aload_n 0, []),
  (40, 3, .getfield 7, [11, 1, 3, 1, 271040, 0]),
  (43, 3, .invokevirtual 238, [159, 0, 140, 111]),
  (46, 1, .aload_n 0, []),
  (47, 3, .invokevirtual 242, [160, 0, 111]),
  (50, 1, .iload_n 3, []),
  (51, 1, .ireturn, [0])]
/-- SyntaxRulesModel.cameAhead(I)Z -/
def c247 : List zE := [(0, 1, .iconst 0, []),
  (1, 1, .istore_n 2, []),
  (2, 1, .iconst 0, []),
  (3, 1, .istore_n 3, []),
  (4, 1, .iload_n 3, []),
  (5, 1, .iload_n 1, []),
  (6, 3, .if_icmp .ge 73, []),
  (9, 1, .iconst 0, []),
  (10, 2, .istore 4, []),
  (12, 2, .iload 4, []),
  (14, 3, .sipush 301, []),
  (17, 3, .if_icmp .ge 38, []),
  (20, 1, .aload_n 0, []),
  (21, 3, .getfield 135, [11, 67, 3, 42, 210840, 0]),
  (24, 3, .sipush 301, []),
  (27, 1, .iload_n 3, []),
  (28, 1, .imul, []),
  (29, 2, .iload 4, []),
  (31, 1, .iadd, []),
  (32, 1, .iaload, [40]),
  (33, 1, .aload_n 0, []),
  (34, 3, .getfield 135, [11, 67, 3, 42, 210840, 0]),
  (37, 3, .sipush 301, []),
  (40, 1, .iload_n 1, []),
  (41, 1, .imul, []),
  (42, 2, .iload 4, []),
  (44, 1, .iadd, []),
  (45, 1, .iaload, [40]),
  (46, 3, .if_icmp .ne 9, []),
  (49, 3, .iinc 4 1, []),
  (52, 3, .goto (-40), []),
  (55, 1, .iload_n 2, []),
  (56, 3, .ifCond .ne 11, []),
  (59, 2, .iload 4, []),
  (61, 3, .sipush 301, []),
  (64, 3, .if_icmp .ne 7, []),
  (67, 1, .iconst 1, []),
  (68, 3, .goto 4, []),
  (71, 1, .iconst 0, []),
  (72, 1, .istore_n 2, []),
  (73, 3, .iinc 3 1, []),
  (76, 3, .goto (-72), []),
  (79, 1, .iload_n 2, []),
  (80, 1, .ireturn, [1])]
/-- SyntaxRulesModel.keepCame(I)V -/
def c248 : List zE := [(0, 1, .iconst 0, []),
  (1, 1, .istore_n 2, []),
  (2, 1, .iload_n 2, []),
  (3, 3, .sipush 301, []),
  (6, 3, .if_icmp .ge 27, []),
  (9, 1, .aload_n 0, []),
  (10, 3, .getfield 135, [11, 67, 3, 42, 210840, 0]),
  (13, 3, .sipush 301, []),
  (16, 1, .iload_n 1, []),
  (17, 1, .imul, []),
  (18, 1, .iload_n 2, []),
  (19, 1, .iadd, []),
  (20, 1, .aload_n 0, []),
  (21, 3, .getfield 7, [11, 1, 3, 1, 271040, 0]),
  (24, 1, .iload_n 2, []),
  (25, 1, .iaload, [40]),
  (26, 1, .iastore, [40]),
  (27, 3, .iinc 2 1, []),
  (30, 3, .goto (-28), []),
  (33, 1, .return_, [])]
/-- SyntaxRulesModel.goRounds(II)I -/
def c249 : List zE := [(0, 1, .aload_n 0, []),
  (1, 1, .iconst 0, []),
  (2, 3, .invokevirtual 506, [248, 0, 0, 111]),
  (5, 1, .iconst 0, []),
  (6, 1, .istore_n 3, []),
  (7, 1, .iconst 1, []),
  (8, 2, .istore 4, []),
  (10, 1, .iload_n 3, []),
  (11, 1, .iload_n 2, []),
  (12, 3, .if_icmp .ge 50, []),
  (15, 2, .iload 4, []),
  (17, 3, .ifCond .eq 45, []),
  (20, 1, .aload_n 0, []),
  (21, 1, .iload_n 1, []),
  (22, 3, .invokevirtual 500, [243, 1, 0, 111]),
  (25, 3, .ifCond .eq 14, []),
  (28, 1, .aload_n 0, []),
  (29, 3, .getfield 433, [11, 59, 0, 0, 0, 0]),
  (32, 3, .ifCond .le 7, []),
  (35, 1, .iconst 1, []),
  (36, 3, .goto 4, []),
  (39, 1, .iconst 0, []),
  (40, 2, .istore 4, []),
  (42, 2, .iload 4, []),
  (44, 3, .ifCond .eq (-34), []),
  (47, 1, .aload_n 0, []),
  (48, 3, .invokevirtual 242, [160, 0, 111]),
  (51, 3, .iinc 3 1, []),
  (54, 1, .aload_n 0, []),
  (55, 1, .iload_n 3, []),
  (56, 3, .invokevirtual 506, [248, 0, 0, 111]),
  (59, 3, .goto (-49), []),
  (62, 1, .iload_n 3, []),
  (63, 1, .ireturn, [0])]
/-- SyntaxRulesModel.rounds(II)I -/
def c250 : List zE := [(0, 1, .aload_n 0, []),
  (1, 1, .iconst 0, []),
  (2, 3, .putfield 141, [11, 0, 0, 0, 0]),
  (5, 1, .iload_n 1, []),
  (6, 3, .invokestatic 473, [228, 1, 0]),
  (9, 3, .ifCond .eq 15, []),
  (12, 1, .iload_n 2, []),
  (13, 1, .i2l, []),
  (14, 1, .lconst 1, []),
  (15, 3, .ldc2_w 509, [6]),
  (18, 3, .invokestatic 147, [141, 1, 1, 1, 1]),
  (21, 3, .ifCond .ne 5, []),
  (24, 1, .iconst (-1), []),
  (25, 1, .ireturn, [0]),
  (26, 1, .aload_n 0, []),
  (27, 1, .iload_n 1, []),
  (28, 1, .iload_n 2, []),
  (29, 3, .invokevirtual 511, [249, 1, 0, 0, 111]),
  (32, 1, .istore_n 3, []),
  (33, 1, .iload_n 3, []),
  (34, 3, .ifCond .le 11, []),
  (37, 1, .aload_n 0, []),
  (38, 1, .aload_n 0, []),
  (39, 3, .getfield 135, [11, 67, 3, 42, 210840, 0]),
  (42, 3, .invokevirtual 238, [159, 0, 140, 111]),
  (45, 1, .iload_n 3, []),
  (46, 1, .ireturn, [0])]
/-- SyntaxRulesModel.after(III)I -/
def c251 : List zE := [(0, 1, .aload_n 0, []),
  (1, 1, .iconst 0, []),
  (2, 3, .putfield 141, [11, 0, 0, 0, 0]),
  (5, 1, .iload_n 1, []),
  (6, 3, .invokestatic 473, [228, 1, 0]),
  (9, 3, .ifCond .eq 27, []),
  (12, 1, .iload_n 2, []),
  (13, 1, .i2l, []),
  (14, 1, .lconst 1, []),
  (15, 3, .ldc2_w 509, [6]),
  (18, 3, .invokestatic 147, [141, 1, 1, 1, 1]),
  (21, 3, .ifCond .eq 15, []),
  (24, 1, .iload_n 3, []),
  (25, 1, .i2l, []),
  (26, 1, .lconst 0, []),
  (27, 3, .ldc2_w 373, [2]),
  (30, 3, .invokestatic 147, [141, 1, 1, 1, 1]),
  (33, 3, .ifCond .ne 5, []),
  (36, 1, .iconst (-1), []),
  (37, 1, .ireturn, [0]),
  (38, 1, .aload_n 0, []),
  (39, 1, .iload_n 1, []),
  (40, 1, .iload_n 2, []),
  (41, 3, .invokevirtual 511, [249, 1, 0, 0, 111]),
  (44, 2, .istore 4, []),
  (46, 1, .aload_n 0, []),
  (47, 3, .getfield 7, [11, 1, 3, 1, 271040, 0]),
  (50, 3, .sipush 300, []),
  (53, 1, .iaload, [40]),
  (54, 2, .istore 5, []),
  (56, 1, .iload_n 3, []),
  (57, 1, .iconst 1, []),
  (58, 3, .if_icmp .ne 14, []),
  (61, 1, .aload_n 0, []),
  (62, 1, .iload_n 1, []),
  (63, 3, .invokevirtual 476, [229, 0, 0, 111]),
  (66, 1, .aload_n 0, []),
  (67, 3, .getfield 433, [11, 59, 0, 0, 0, 0]),
  (70, 2, .istore 5, []),
  (72, 1, .iload_n 3, []),
  (73, 1, .iconst 2, []),
  (74, 3, .if_icmp .ne 39, []),
  (77, 1, .iconst 0, []),
  (78, 2, .istore 5, []),
  (80, 1, .iconst 1, []),
  (81, 2, .istore 6, []),
  (83, 2, .iload 6, []),
  (85, 2, .iload 4, []),
  (87, 3, .if_icmp .gt 26, []),
  (90, 1, .aload_n 0, []),
  (91, 2, .iload 6, []),
  (93, 3, .invokevirtual 514, [247, 1, 0, 111]),
  (96, 3, .ifCond .eq 7, []),
  (99, 1, .iconst 1, []),
  (100, 3, .goto 5, []),
  (103, 2, .iload 5, []),
  (105, 2, .istore 5, []),
  (107, 3, .iinc 6 1, []),
  (110, 3, .goto (-27), []),
  (113, 1, .iconst 0, []),
  (114, 2, .istore 6, []),
  (116, 2, .iload 6, []),
  (118, 3, .sipush 301, []),
  (121, 3, .if_icmp .ge 23, []),
  (124, 1, .aload_n 0, []),
  (125, 3, .getfield 7, [11, 1, 3, 1, 271040, 0]),
  (128, 2, .iload 6, []),
  (130, 1, .aload_n 0, []),
  (131, 3, .getfield 135, [11, 67, 3, 42, 210840, 0]),
  (134, 2, .iload 6, []),
  (136, 1, .iaload, [40]),
  (137, 1, .iastore, [40]),
  (138, 3, .iinc 6 1, []),
  (141, 3, .goto (-25), []),
  (144, 1, .aload_n 0, []),
  (145, 3, .invokevirtual 138, [156, 0, 111]),
  (148, 2, .iload 5, []),
  (150, 1, .ireturn, [0])]
/-- SyntaxRulesModel.undo()I -/
def c252 : List zE := [(0, 1, .aload_n 0, []),
  (1, 1, .iconst 0, []),
  (2, 3, .putfield 141, [11, 0, 0, 0, 0]),
  (5, 1, .aload_n 0, []),
  (6, 3, .getfield 232, [11, 5, 0, 0, 0, 0]),
  (9, 3, .ifCond .ne 6, []),
  (12, 2, .bipush (-3), []),
  (14, 1, .ireturn, [0]),
  (15, 1, .aload_n 0, []),
  (16, 1, .dup, []),
  (17, 3, .getfield 232, [11, 5, 0, 0, 0, 0]),
  (20, 1, .iconst 1, []),
  (21, 1, .isub, []),
  (22, 3, .putfield 232, [11, 5, 0, 0, 0]),
  (25, 1, .iconst 0, []),
  (26, 1, .istore_n 1, []),
  (27, 1, .iload_n 1, []),
  (28, 3, .sipush 301, []),
  (31, 3, .if_icmp .ge 30, []),
  (34, 1, .aload_n 0, []),
  (35, 3, .getfield 7, [11, 1, 3, 1, 271040, 0]),
  (38, 1, .iload_n 1, []),
  (39, 1, .aload_n 0, []),
  (40, 3, .getfield 20, [11, 4, 3, 4, 240940, 0]),
  (43, 3, .sipush 301, []),
  (46, 1, .aload_n 0, []),
  (47, 3, .getfield 232, [11, 5, 0, 0, 0, 0]),
  (50, 1, .imul, []),
  (51, 1, .iload_n 1, []),
  (52, 1, .iadd, []),
  (53, 1, .iaload, [40]),
  (54, 1, .iastore, [40]),
  (55, 3, .iinc 1 1, []),
  (58, 3, .goto (-31), []),
  (61, 1, .aload_n 0, []),
  (62, 3, .invokevirtual 138, [156, 0, 111]),
  (65, 1, .aload_n 0, []),
  (66, 3, .getfield 232, [11, 5, 0, 0, 0, 0]),
  (69, 1, .ireturn, [0])]
/-- SyntaxRulesModel.keep(I)Z -/
def c253 : List zE := [(0, 1, .aload_n 0, []),
  (1, 1, .iconst 0, []),
  (2, 3, .putfield 141, [11, 0, 0, 0, 0]),
  (5, 1, .iload_n 1, []),
  (6, 1, .i2l, []),
  (7, 1, .lconst 0, []),
  (8, 1, .lconst 1, []),
  (9, 3, .invokestatic 147, [141, 1, 1, 1, 1]),
  (12, 3, .ifCond .ne 5, []),
  (15, 1, .iconst 0, []),
  (16, 1, .ireturn, [1]),
  (17, 1, .iconst 0, []),
  (18, 1, .istore_n 2, []),
  (19, 1, .iload_n 2, []),
  (20, 3, .sipush 2709, []),
  (23, 3, .if_icmp .ge 27, []),
  (26, 1, .aload_n 0, []),
  (27, 3, .getfield 13, [11, 2, 3, 2, 541940, 0]),
  (30, 3, .sipush 2709, []),
  (33, 1, .iload_n 1, []),
  (34, 1, .imul, []),
  (35, 1, .iload_n 2, []),
  (36, 1, .iadd, []),
  (37, 1, .aload_n 0, []),
  (38, 3, .getfield 7, [11, 1, 3, 1, 271040, 0]),
  (41, 1, .iload_n 2, []),
  (42, 1, .iaload, [40]),
  (43, 1, .iastore, [40]),
  (44, 3, .iinc 2 1, []),
  (47, 3, .goto (-28), []),
  (50, 1, .aload_n 0, []),
  (51, 3, .getfield 16, [11, 3, 3, 3, 341, 0]),
  (54, 1, .iload_n 1, []),
  (55, 1, .iconst 1, []),
  (56, 1, .bastore, [41]),
  (57, 1, .iconst 1, []),
  (58, 1, .ireturn, [1])]
/-- SyntaxRulesModel.again(I)Z -/
def c254 : List zE := [(0, 1, .aload_n 0, []),
  (1, 1, .iconst 0, []),
  (2, 3, .putfield 141, [11, 0, 0, 0, 0]),
  (5, 1, .iload_n 1, []),
  (6, 1, .i2l, []),
  (7, 1, .lconst 0, []),
  (8, 1, .lconst 1, []),
  (9, 3, .invokestatic 147, [141, 1, 1, 1, 1]),
  (12, 3, .ifCond .eq 12, []),
  (15, 1, .aload_n 0, []),
  (16, 3, .getfield 16, [11, 3, 3, 3, 341, 0]),
  (19, 1, .iload_n 1, []),
  (20, 1, .baload, [41]),
  (21, 3, .ifCond .ne 5, []),
  (24, 1, .iconst 0, []),
  (25, 1, .ireturn, [1]),
  (26, 1, .iconst 0, []),
  (27, 1, .istore_n 2, []),
  (28, 1, .iload_n 2, []),
  (29, 3, .sipush 2709, []),
  (32, 3, .if_icmp .ge 27, []),
  (35, 1, .aload_n 0, []),
  (36, 3, .getfield 7, [11, 1, 3, 1, 271040, 0]),
  (39, 1, .iload_n 2, []),
  (40, 1, .aload_n 0, []),
  (41, 3, .getfield 13, [11, 2, 3, 2, 541940, 0]),
  (44, 3, .sipush 2709, []),
  (47, 1, .iload_n 1, []),
  (48, 1, .imul, []),
  (49, 1, .iload_n 2, []),
  (50, 1, .iadd, []),
  (51, 1, .iaload, [40]),
  (52, 1, .iastore, [40]),
  (53, 3, .iinc 2 1, []),
  (56, 3, .goto (-28), []),
  (59, 1, .aload_n 0, []),
  (60, 1, .iconst 0, []),
  (61, 3, .putfield 232, [11, 5, 0, 0, 0]),
  (64, 1, .aload_n 0, []),
  (65, 3, .invokevirtual 517, [176, 0, 111]),
  (68, 1, .aload_n 0, []),
  (69, 3, .invokevirtual 138, [156, 0, 111]),
  (72, 1, .iconst 1, []),
  (73, 1, .ireturn, [1])]
/-- SyntaxRulesModel.deepest()I -/
def c255 : List zE := [(0, 1, .iconst 0, []),
  (1, 1, .istore_n 1, []),
  (2, 1, .iconst 0, []),
  (3, 1, .istore_n 2, []),
  (4, 1, .iload_n 2, []),
  (5, 1, .aload_n 0, []),
  (6, 3, .getfield 226, [11, 20, 0, 0, 0, 0]),
  (9, 3, .if_icmp .ge 36, []),
  (12, 1, .aload_n 0, []),
  (13, 1, .iload_n 2, []),
  (14, 2, .bipush 7, []),
  (16, 3, .invokevirtual 313, [158, 1, 0, 0, 111]),
  (19, 1, .iconst 1, []),
  (20, 1, .iadd, []),
  (21, 1, .iload_n 1, []),
  (22, 3, .if_icmp .le 15, []),
  (25, 1, .aload_n 0, []),
  (26, 1, .iload_n 2, []),
  (27, 2, .bipush 7, []),
  (29, 3, .invokevirtual 313, [158, 1, 0, 0, 111]),
  (32, 1, .iconst 1, []),
  (33, 1, .iadd, []),
  (34, 3, .goto 4, []),
  (37, 1, .iload_n 1, []),
  (38, 1, .istore_n 1, []),
  (39, 3, .iinc 2 1, []),
  (42, 3, .goto (-38), []),
  (45, 1, .iload_n 1, []),
  (46, 1, .ireturn, [0])]
/-- SyntaxRulesModel.count(I)I -/
def c256 : List zE := [(0, 1, .aload_n 0, []),
  (1, 1, .iconst 0, []),
  (2, 3, .putfield 141, [11, 0, 0, 0, 0]),
  (5, 1, .iload_n 1, []),
  (6, 42, .tableswitch 81 0 6 #[42, 47, 56, 61, 66, 71, 76], []),
  (48, 1, .aload_n 0, []),
  (49, 3, .getfield 226, [11, 20, 0, 0, 0, 0]),
  (52, 1, .ireturn, [0]),
  (53, 1, .aload_n 0, []),
  (54, 3, .getfield 7, [11, 1, 3, 1, 271040, 0]),
  (57, 3, .sipush 300, []),
  (60, 1, .iaload, [40]),
  (61, 1, .ireturn, [0]),
  (62, 1, .aload_n 0, []),
  (63, 3, .getfield 229, [11, 22, 0, 0, 0, 0]),
  (66, 1, .ireturn, [0]),
  (67, 1, .aload_n 0, []),
  (68, 3, .invokevirtual 310, [177, 1, 111]),
  (71, 1, .ireturn, [0]),
  (72, 1, .aload_n 0, []),
  (73, 3, .getfield 163, [11, 7, 0, 0, 0, 0]),
  (76, 1, .ireturn, [0]),
  (77, 1, .aload_n 0, []),
  (78, 3, .getfield 232, [11, 5, 0, 0, 0, 0]),
  (81, 1, .ireturn, [0]),
  (82, 1, .aload_n 0, []),
  (83, 3, .invokevirtual 520, [255, 1, 111]),
  (86, 1, .ireturn, [0]),
  (87, 1, .iconst (-1), []),
  (88, 1, .ireturn, [0])]
/-- java/lang/Integer.numberOfTrailingZeros(I)I -/
def c257 : List zE := [(0, 1, .iload_n 0, []),
  (1, 1, .iconst (-1), []),
  (2, 1, .ixor, []),
  (3, 1, .iload_n 0, []),
  (4, 1, .iconst 1, []),
  (5, 1, .isub, []),
  (6, 1, .iand, []),
  (7, 1, .istore_n 0, []),
  (8, 1, .iload_n 0, []),
  (9, 3, .ifCond .gt 8, []),
  (12, 1, .iload_n 0, []),
  (13, 2, .bipush 32, []),
  (15, 1, .iand, []),
  (16, 1, .ireturn, [0]),
  (17, 1, .iconst 1, []),
  (18, 1, .istore_n 1, []),
  (19, 1, .iload_n 0, []),
  (20, 3, .ldc_w 264, [65536]),
  (23, 3, .if_icmp .le 11, []),
  (26, 3, .iinc 1 16, []),
  (29, 1, .iload_n 0, []),
  (30, 2, .bipush 16, []),
  (32, 1, .iushr, []),
  (33, 1, .istore_n 0, []),
  (34, 1, .iload_n 0, []),
  (35, 3, .sipush 256, []),
  (38, 3, .if_icmp .le 11, []),
  (41, 3, .iinc 1 8, []),
  (44, 1, .iload_n 0, []),
  (45, 2, .bipush 8, []),
  (47, 1, .iushr, []),
  (48, 1, .istore_n 0, []),
  (49, 1, .iload_n 0, []),
  (50, 2, .bipush 16, []),
  (52, 3, .if_icmp .le 10, []),
  (55, 3, .iinc 1 4, []),
  (58, 1, .iload_n 0, []),
  (59, 1, .iconst 4, []),
  (60, 1, .iushr, []),
  (61, 1, .istore_n 0, []),
  (62, 1, .iload_n 0, []),
  (63, 1, .iconst 4, []),
  (64, 3, .if_icmp .le 10, []),
  (67, 3, .iinc 1 2, []),
  (70, 1, .iload_n 0, []),
  (71, 1, .iconst 2, []),
  (72, 1, .iushr, []),
  (73, 1, .istore_n 0, []),
  (74, 1, .iload_n 1, []),
  (75, 1, .iload_n 0, []),
  (76, 1, .iconst 1, []),
  (77, 1, .iushr, []),
  (78, 1, .iadd, []),
  (79, 1, .ireturn, [0])]
/-- java/lang/Integer.bitCount(I)I -/
def c258 : List zE := [(0, 1, .iload_n 0, []),
  (1, 1, .iload_n 0, []),
  (2, 1, .iconst 1, []),
  (3, 1, .iushr, []),
  (4, 3, .ldc_w 265, [1431655765]),
  (7, 1, .iand, []),
  (8, 1, .isub, []),
  (9, 1, .istore_n 0, []),
  (10, 1, .iload_n 0, []),
  (11, 3, .ldc_w 266, [858993459]),
  (14, 1, .iand, []),
  (15, 1, .iload_n 0, []),
  (16, 1, .iconst 2, []),
  (17, 1, .iushr, []),
  (18, 3, .ldc_w 266, [858993459]),
  (21, 1, .iand, []),
  (22, 1, .iadd, []),
  (23, 1, .istore_n 0, []),
  (24, 1, .iload_n 0, []),
  (25, 1, .iload_n 0, []),
  (26, 1, .iconst 4, []),
  (27, 1, .iushr, []),
  (28, 1, .iadd, []),
  (29, 3, .ldc_w 267, [252645135]),
  (32, 1, .iand, []),
  (33, 1, .istore_n 0, []),
  (34, 1, .iload_n 0, []),
  (35, 1, .iload_n 0, []),
  (36, 2, .bipush 8, []),
  (38, 1, .iushr, []),
  (39, 1, .iadd, []),
  (40, 1, .istore_n 0, []),
  (41, 1, .iload_n 0, []),
  (42, 1, .iload_n 0, []),
  (43, 2, .bipush 16, []),
  (45, 1, .iushr, []),
  (46, 1, .iadd, []),
  (47, 1, .istore_n 0, []),
  (48, 1, .iload_n 0, []),
  (49, 2, .bipush 63, []),
  (51, 1, .iand, []),
  (52, 1, .ireturn, [0])]
/-- java/lang/Math.max(II)I -/
def c259 : List zE := [(0, 1, .iload_n 0, []),
  (1, 1, .iload_n 1, []),
  (2, 3, .if_icmp .lt 7, []),
  (5, 1, .iload_n 0, []),
  (6, 3, .goto 4, []),
  (9, 1, .iload_n 1, []),
  (10, 1, .ireturn, [0])]
/-- java/lang/Math.min(II)I -/
def c260 : List zE := [(0, 1, .iload_n 0, []),
  (1, 1, .iload_n 1, []),
  (2, 3, .if_icmp .gt 7, []),
  (5, 1, .iload_n 0, []),
  (6, 3, .goto 4, []),
  (9, 1, .iload_n 1, []),
  (10, 1, .ireturn, [0])]
/-- SyntaxRulesLaw.node(LSyntaxRules;II[J)I -/
def c261 : List zE := []
/-- SyntaxRulesLaw.law([I)Z -/
def c262 : List zE := [(0, 3, .new 8, [0, 13]),
  (3, 1, .dup, []),
  (4, 3, .invokespecial 15, [0, 0, 0]),
  (7, 1, .astore_n 1, []),
  (8, 3, .new 16, [11, 68]),
  (11, 1, .dup, []),
  (12, 3, .invokespecial 18, [139, 0, 0]),
  (15, 1, .astore_n 2, []),
  (16, 1, .iconst 1, []),
  (17, 2, .newarray .long, [43]),
  (19, 1, .astore_n 3, []),
  (20, 1, .iconst 0, []),
  (21, 2, .istore 4, []),
  (23, 2, .iload 4, []),
  (25, 1, .aload_n 0, []),
  (26, 1, .arraylength, [47]),
  (27, 1, .iconst 5, []),
  (28, 1, .isub, []),
  (29, 3, .if_icmp .gt 1105, []),
  (32, 1, .aload_n 0, []),
  (33, 2, .iload 4, []),
  (35, 1, .iaload, [47]),
  (36, 2, .bipush 31, []),
  (38, 1, .iand, []),
  (39, 129, .tableswitch 1089 0 28 #[129, 154, 179, 192, 205, 230, 298, 335, 372, 397, 434, 471, 508, 545, 606, 643, 668, 693, 718, 767, 816, 853, 890, 915, 952, 1001, 1014, 1039, 1064], []),
  (168, 1, .aload_n 1, []),
  (169, 1, .aload_n 0, []),
  (170, 2, .iload 4, []),
  (172, 1, .iconst 1, []),
  (173, 1, .iadd, []),
  (174, 1, .iaload, [47]),
  (175, 3, .invokevirtual 19, [1, 1, 0, 100]),
  (178, 1, .aload_n 2, []),
  (179, 1, .aload_n 0, []),
  (180, 2, .iload 4, []),
  (182, 1, .iconst 1, []),
  (183, 1, .iadd, []),
  (184, 1, .iaload, [47]),
  (185, 3, .invokevirtual 23, [146, 1, 0, 111]),
  (188, 3, .if_icmp .eq 940, []),
  (191, 1, .iconst 0, []),
  (192, 1, .ireturn, [1]),
  (193, 1, .aload_n 1, []),
  (194, 1, .aload_n 0, []),
  (195, 2, .iload 4, []),
  (197, 1, .iconst 1, []),
  (198, 1, .iadd, []),
  (199, 1, .iaload, [47]),
  (200, 3, .invokevirtual 24, [2, 1, 0, 100]),
  (203, 1, .aload_n 2, []),
  (204, 1, .aload_n 0, []),
  (205, 2, .iload 4, []),
  (207, 1, .iconst 1, []),
  (208, 1, .iadd, []),
  (209, 1, .iaload, [47]),
  (210, 3, .invokevirtual 28, [147, 1, 0, 111]),
  (213, 3, .if_icmp .eq 915, []),
  (216, 1, .iconst 0, []),
  (217, 1, .ireturn, [1]),
  (218, 1, .aload_n 1, []),
  (219, 3, .invokevirtual 29, [3, 1, 100]),
  (222, 1, .aload_n 2, []),
  (223, 3, .invokevirtual 33, [162, 1, 111]),
  (226, 3, .if_icmp .eq 902, []),
  (229, 1, .iconst 0, []),
  (230, 1, .ireturn, [1]),
  (231, 1, .aload_n 1, []),
  (232, 3, .invokevirtual 34, [4, 1, 100]),
  (235, 1, .aload_n 2, []),
  (236, 3, .invokevirtual 37, [175, 1, 111]),
  (239, 3, .if_icmp .eq 889, []),
  (242, 1, .iconst 0, []),
  (243, 1, .ireturn, [1]),
  (244, 1, .aload_n 1, []),
  (245, 1, .aload_n 0, []),
  (246, 2, .iload 4, []),
  (248, 1, .iconst 1, []),
  (249, 1, .iadd, []),
  (250, 1, .iaload, [47]),
  (251, 3, .invokevirtual 38, [5, 1, 0, 100]),
  (254, 1, .aload_n 2, []),
  (255, 1, .aload_n 0, []),
  (256, 2, .iload 4, []),
  (258, 1, .iconst 1, []),
  (259, 1, .iadd, []),
  (260, 1, .iaload, [47]),
  (261, 3, .invokevirtual 41, [178, 1, 0, 111]),
  (264, 3, .if_icmp .eq 864, []),
  (267, 1, .iconst 0, []),
  (268, 1, .ireturn, [1]),
  (269, 1, .aload_n 1, []),
  (270, 1, .aload_n 0, []),
  (271, 2, .iload 4, []),
  (273, 1, .iconst 1, []),
  (274, 1, .iadd, []),
  (275, 1, .iaload, [47]),
  (276, 1, .aload_n 0, []),
  (277, 2, .iload 4, []),
  (279, 1, .iconst 2, []),
  (280, 1, .iadd, []),
  (281, 1, .iaload, [47]),
  (282, 1, .aload_n 3, []),
  (283, 3, .invokestatic 42, [9997, 1, 243, 0, 0, 100]),
  (286, 2, .istore 5, []),
  (288, 1, .aload_n 2, []),
  (289, 1, .aload_n 0, []),
  (290, 2, .iload 4, []),
  (292, 1, .iconst 1, []),
  (293, 1, .iadd, []),
  (294, 1, .iaload, [47]),
  (295, 1, .aload_n 0, []),
  (296, 2, .iload 4, []),
  (298, 1, .iconst 2, []),
  (299, 1, .iadd, []),
  (300, 1, .iaload, [47]),
  (301, 3, .invokevirtual 47, [197, 1, 0, 0, 111]),
  (304, 2, .istore 6, []),
  (306, 1, .aload_n 2, []),
  (307, 3, .invokevirtual 48, [140, 1, 111]),
  (310, 2, .iload 5, []),
  (312, 3, .if_icmp .eq 5, []),
  (315, 1, .iconst 0, []),
  (316, 1, .ireturn, [1]),
  (317, 2, .iload 5, []),
  (319, 3, .ifCond .ne 15, []),
  (322, 1, .aload_n 3, []),
  (323, 1, .iconst 0, []),
  (324, 1, .laload, [43]),
  (325, 2, .iload 6, []),
  (327, 1, .i2l, []),
  (328, 1, .lcmp, []),
  (329, 3, .ifCond .eq 5, []),
  (332, 1, .iconst 0, []),
  (333, 1, .ireturn, [1]),
  (334, 3, .goto 794, []),
  (337, 1, .aload_n 1, []),
  (338, 1, .aload_n 0, []),
  (339, 2, .iload 4, []),
  (341, 1, .iconst 1, []),
  (342, 1, .iadd, []),
  (343, 1, .iaload, [47]),
  (344, 1, .aload_n 0, []),
  (345, 2, .iload 4, []),
  (347, 1, .iconst 2, []),
  (348, 1, .iadd, []),
  (349, 1, .iaload, [47]),
  (350, 3, .invokevirtual 51, [7, 1, 0, 0, 100]),
  (353, 1, .aload_n 2, []),
  (354, 1, .aload_n 0, []),
  (355, 2, .iload 4, []),
  (357, 1, .iconst 1, []),
  (358, 1, .iadd, []),
  (359, 1, .iaload, [47]),
  (360, 1, .aload_n 0, []),
  (361, 2, .iload 4, []),
  (363, 1, .iconst 2, []),
  (364, 1, .iadd, []),
  (365, 1, .iaload, [47]),
  (366, 3, .invokevirtual 54, [198, 1, 0, 0, 111]),
  (369, 3, .if_icmp .eq 759, []),
  (372, 1, .iconst 0, []),
  (373, 1, .ireturn, [1]),
  (374, 1, .aload_n 1, []),
  (375, 1, .aload_n 0, []),
  (376, 2, .iload 4, []),
  (378, 1, .iconst 1, []),
  (379, 1, .iadd, []),
  (380, 1, .iaload, [47]),
  (381, 1, .aload_n 0, []),
  (382, 2, .iload 4, []),
  (384, 1, .iconst 2, []),
  (385, 1, .iadd, []),
  (386, 1, .iaload, [47]),
  (387, 3, .invokevirtual 55, [8, 1, 0, 0, 100]),
  (390, 1, .aload_n 2, []),
  (391, 1, .aload_n 0, []),
  (392, 2, .iload 4, []),
  (394, 1, .iconst 1, []),
  (395, 1, .iadd, []),
  (396, 1, .iaload, [47]),
  (397, 1, .aload_n 0, []),
  (398, 2, .iload 4, []),
  (400, 1, .iconst 2, []),
  (401, 1, .iadd, []),
  (402, 1, .iaload, [47]),
  (403, 3, .invokevirtual 58, [199, 1, 0, 0, 111]),
  (406, 3, .if_icmp .eq 722, []),
  (409, 1, .iconst 0, []),
  (410, 1, .ireturn, [1]),
  (411, 1, .aload_n 1, []),
  (412, 1, .aload_n 0, []),
  (413, 2, .iload 4, []),
  (415, 1, .iconst 1, []),
  (416, 1, .iadd, []),
  (417, 1, .iaload, [47]),
  (418, 3, .invokevirtual 59, [9, 1, 0, 100]),
  (421, 1, .aload_n 2, []),
  (422, 1, .aload_n 0, []),
  (423, 2, .iload 4, []),
  (425, 1, .iconst 1, []),
  (426, 1, .iadd, []),
  (427, 1, .iaload, [47]),
  (428, 3, .invokevirtual 62, [200, 1, 0, 111]),
  (431, 3, .if_icmp .eq 697, []),
  (434, 1, .iconst 0, []),
  (435, 1, .ireturn, [1]),
  (436, 1, .aload_n 1, []),
  (437, 1, .aload_n 0, []),
  (438, 2, .iload 4, []),
  (440, 1, .iconst 1, []),
  (441, 1, .iadd, []),
  (442, 1, .iaload, [47]),
  (443, 1, .aload_n 0, []),
  (444, 2, .iload 4, []),
  (446, 1, .iconst 2, []),
  (447, 1, .iadd, []),
  (448, 1, .iaload, [47]),
  (449, 3, .invokevirtual 63, [10, 1, 0, 0, 100]),
  (452, 1, .aload_n 2, []),
  (453, 1, .aload_n 0, []),
  (454, 2, .iload 4, []),
  (456, 1, .iconst 1, []),
  (457, 1, .iadd, []),
  (458, 1, .iaload, [47]),
  (459, 1, .aload_n 0, []),
  (460, 2, .iload 4, []),
  (462, 1, .iconst 2, []),
  (463, 1, .iadd, []),
  (464, 1, .iaload, [47]),
  (465, 3, .invokevirtual 66, [201, 1, 0, 0, 111]),
  (468, 3, .if_icmp .eq 660, []),
  (471, 1, .iconst 0, []),
  (472, 1, .ireturn, [1]),
  (473, 1, .aload_n 1, []),
  (474, 1, .aload_n 0, []),
  (475, 2, .iload 4, []),
  (477, 1, .iconst 1, []),
  (478, 1, .iadd, []),
  (479, 1, .iaload, [47]),
  (480, 1, .aload_n 0, []),
  (481, 2, .iload 4, []),
  (483, 1, .iconst 2, []),
  (484, 1, .iadd, []),
  (485, 1, .iaload, [47]),
  (486, 3, .invokevirtual 67, [11, 1, 0, 0, 100]),
  (489, 1, .aload_n 2, []),
  (490, 1, .aload_n 0, []),
  (491, 2, .iload 4, []),
  (493, 1, .iconst 1, []),
  (494, 1, .iadd, []),
  (495, 1, .iaload, [47]),
  (496, 1, .aload_n 0, []),
  (497, 2, .iload 4, []),
  (499, 1, .iconst 2, []),
  (500, 1, .iadd, []),
  (501, 1, .iaload, [47]),
  (502, 3, .invokevirtual 70, [202, 1, 0, 0, 111]),
  (505, 3, .if_icmp .eq 623, []),
  (508, 1, .iconst 0, []),
  (509, 1, .ireturn, [1]),
  (510, 1, .aload_n 1, []),
  (511, 1, .aload_n 0, []),
  (512, 2, .iload 4, []),
  (514, 1, .iconst 1, []),
  (515, 1, .iadd, []),
  (516, 1, .iaload, [47]),
  (517, 1, .aload_n 0, []),
  (518, 2, .iload 4, []),
  (520, 1, .iconst 2, []),
  (521, 1, .iadd, []),
  (522, 1, .iaload, [47]),
  (523, 3, .invokevirtual 71, [12, 1, 0, 0, 100]),
  (526, 1, .aload_n 2, []),
  (527, 1, .aload_n 0, []),
  (528, 2, .iload 4, []),
  (530, 1, .iconst 1, []),
  (531, 1, .iadd, []),
  (532, 1, .iaload, [47]),
  (533, 1, .aload_n 0, []),
  (534, 2, .iload 4, []),
  (536, 1, .iconst 2, []),
  (537, 1, .iadd, []),
  (538, 1, .iaload, [47]),
  (539, 3, .invokevirtual 74, [205, 1, 0, 0, 111]),
  (542, 3, .if_icmp .eq 586, []),
  (545, 1, .iconst 0, []),
  (546, 1, .ireturn, [1]),
  (547, 1, .aload_n 1, []),
  (548, 1, .aload_n 0, []),
  (549, 2, .iload 4, []),
  (551, 1, .iconst 1, []),
  (552, 1, .iadd, []),
  (553, 1, .iaload, [47]),
  (554, 1, .aload_n 0, []),
  (555, 2, .iload 4, []),
  (557, 1, .iconst 2, []),
  (558, 1, .iadd, []),
  (559, 1, .iaload, [47]),
  (560, 3, .invokevirtual 75, [13, 1, 0, 0, 100]),
  (563, 1, .aload_n 2, []),
  (564, 1, .aload_n 0, []),
  (565, 2, .iload 4, []),
  (567, 1, .iconst 1, []),
  (568, 1, .iadd, []),
  (569, 1, .iaload, [47]),
  (570, 1, .aload_n 0, []),
  (571, 2, .iload 4, []),
  (573, 1, .iconst 2, []),
  (574, 1, .iadd, []),
  (575, 1, .iaload, [47]),
  (576, 3, .invokevirtual 78, [192, 1, 0, 0, 111]),
  (579, 3, .if_icmp .eq 549, []),
  (582, 1, .iconst 0, []),
  (583, 1, .ireturn, [1]),
  (584, 1, .aload_n 1, []),
  (585, 1, .aload_n 0, []),
  (586, 2, .iload 4, []),
  (588, 1, .iconst 1, []),
  (589, 1, .iadd, []),
  (590, 1, .iaload, [47]),
  (591, 1, .aload_n 0, []),
  (592, 2, .iload 4, []),
  (594, 1, .iconst 2, []),
  (595, 1, .iadd, []),
  (596, 1, .iaload, [47]),
  (597, 1, .aload_n 0, []),
  (598, 2, .iload 4, []),
  (600, 1, .iconst 3, []),
  (601, 1, .iadd, []),
  (602, 1, .iaload, [47]),
  (603, 1, .aload_n 0, []),
  (604, 2, .iload 4, []),
  (606, 1, .iconst 4, []),
  (607, 1, .iadd, []),
  (608, 1, .iaload, [47]),
  (609, 3, .invokevirtual 79, [14, 1, 0, 0, 0, 0, 100]),
  (612, 1, .aload_n 2, []),
  (613, 1, .aload_n 0, []),
  (614, 2, .iload 4, []),
  (616, 1, .iconst 1, []),
  (617, 1, .iadd, []),
  (618, 1, .iaload, [47]),
  (619, 1, .aload_n 0, []),
  (620, 2, .iload 4, []),
  (622, 1, .iconst 2, []),
  (623, 1, .iadd, []),
  (624, 1, .iaload, [47]),
  (625, 1, .aload_n 0, []),
  (626, 2, .iload 4, []),
  (628, 1, .iconst 3, []),
  (629, 1, .iadd, []),
  (630, 1, .iaload, [47]),
  (631, 1, .aload_n 0, []),
  (632, 2, .iload 4, []),
  (634, 1, .iconst 4, []),
  (635, 1, .iadd, []),
  (636, 1, .iaload, [47]),
  (637, 3, .invokevirtual 83, [193, 1, 0, 0, 0, 0, 111]),
  (640, 3, .if_icmp .eq 488, []),
  (643, 1, .iconst 0, []),
  (644, 1, .ireturn, [1]),
  (645, 1, .aload_n 1, []),
  (646, 1, .aload_n 0, []),
  (647, 2, .iload 4, []),
  (649, 1, .iconst 1, []),
  (650, 1, .iadd, []),
  (651, 1, .iaload, [47]),
  (652, 1, .aload_n 0, []),
  (653, 2, .iload 4, []),
  (655, 1, .iconst 2, []),
  (656, 1, .iadd, []),
  (657, 1, .iaload, [47]),
  (658, 3, .invokevirtual 84, [15, 1, 0, 0, 100]),
  (661, 1, .aload_n 2, []),
  (662, 1, .aload_n 0, []),
  (663, 2, .iload 4, []),
  (665, 1, .iconst 1, []),
  (666, 1, .iadd, []),
  (667, 1, .iaload, [47]),
  (668, 1, .aload_n 0, []),
  (669, 2, .iload 4, []),
  (671, 1, .iconst 2, []),
  (672, 1, .iadd, []),
  (673, 1, .iaload, [47]),
  (674, 3, .invokevirtual 87, [194, 1, 0, 0, 111]),
  (677, 3, .if_icmp .eq 451, []),
  (680, 1, .iconst 0, []),
  (681, 1, .ireturn, [1]),
  (682, 1, .aload_n 1, []),
  (683, 1, .aload_n 0, []),
  (684, 2, .iload 4, []),
  (686, 1, .iconst 1, []),
  (687, 1, .iadd, []),
  (688, 1, .iaload, [47]),
  (689, 3, .invokevirtual 88, [16, 1, 0, 100]),
  (692, 1, .aload_n 2, []),
  (693, 1, .aload_n 0, []),
  (694, 2, .iload 4, []),
  (696, 1, .iconst 1, []),
  (697, 1, .iadd, []),
  (698, 1, .iaload, [47]),
  (699, 3, .invokevirtual 91, [196, 1, 0, 111]),
  (702, 3, .if_icmp .eq 426, []),
  (705, 1, .iconst 0, []),
  (706, 1, .ireturn, [1]),
  (707, 1, .aload_n 1, []),
  (708, 1, .aload_n 0, []),
  (709, 2, .iload 4, []),
  (711, 1, .iconst 1, []),
  (712, 1, .iadd, []),
  (713, 1, .iaload, [47]),
  (714, 3, .invokevirtual 92, [17, 1, 0, 100]),
  (717, 1, .aload_n 2, []),
  (718, 1, .aload_n 0, []),
  (719, 2, .iload 4, []),
  (721, 1, .iconst 1, []),
  (722, 1, .iadd, []),
  (723, 1, .iaload, [47]),
  (724, 3, .invokevirtual 95, [219, 1, 0, 111]),
  (727, 3, .if_icmp .eq 401, []),
  (730, 1, .iconst 0, []),
  (731, 1, .ireturn, [1]),
  (732, 1, .aload_n 1, []),
  (733, 1, .aload_n 0, []),
  (734, 2, .iload 4, []),
  (736, 1, .iconst 1, []),
  (737, 1, .iadd, []),
  (738, 1, .iaload, [47]),
  (739, 3, .invokevirtual 96, [18, 1, 0, 100]),
  (742, 1, .aload_n 2, []),
  (743, 1, .aload_n 0, []),
  (744, 2, .iload 4, []),
  (746, 1, .iconst 1, []),
  (747, 1, .iadd, []),
  (748, 1, .iaload, [47]),
  (749, 3, .invokevirtual 99, [222, 1, 0, 111]),
  (752, 3, .if_icmp .eq 376, []),
  (755, 1, .iconst 0, []),
  (756, 1, .ireturn, [1]),
  (757, 1, .aload_n 1, []),
  (758, 1, .aload_n 0, []),
  (759, 2, .iload 4, []),
  (761, 1, .iconst 1, []),
  (762, 1, .iadd, []),
  (763, 1, .iaload, [47]),
  (764, 1, .aload_n 0, []),
  (765, 2, .iload 4, []),
  (767, 1, .iconst 2, []),
  (768, 1, .iadd, []),
  (769, 1, .iaload, [47]),
  (770, 1, .aload_n 0, []),
  (771, 2, .iload 4, []),
  (773, 1, .iconst 3, []),
  (774, 1, .iadd, []),
  (775, 1, .iaload, [47]),
  (776, 3, .invokevirtual 100, [19, 1, 0, 0, 0, 100]),
  (779, 1, .aload_n 2, []),
  (780, 1, .aload_n 0, []),
  (781, 2, .iload 4, []),
  (783, 1, .iconst 1, []),
  (784, 1, .iadd, []),
  (785, 1, .iaload, [47]),
  (786, 1, .aload_n 0, []),
  (787, 2, .iload 4, []),
  (789, 1, .iconst 2, []),
  (790, 1, .iadd, []),
  (791, 1, .iaload, [47]),
  (792, 1, .aload_n 0, []),
  (793, 2, .iload 4, []),
  (795, 1, .iconst 3, []),
  (796, 1, .iadd, []),
  (797, 1, .iaload, [47]),
  (798, 3, .invokevirtual 104, [236, 1, 0, 0, 0, 111]),
  (801, 3, .if_icmp .eq 327, []),
  (804, 1, .iconst 0, []),
  (805, 1, .ireturn, [1]),
  (806, 1, .aload_n 1, []),
  (807, 1, .aload_n 0, []),
  (808, 2, .iload 4, []),
  (810, 1, .iconst 1, []),
  (811, 1, .iadd, []),
  (812, 1, .iaload, [47]),
  (813, 1, .aload_n 0, []),
  (814, 2, .iload 4, []),
  (816, 1, .iconst 2, []),
  (817, 1, .iadd, []),
  (818, 1, .iaload, [47]),
  (819, 1, .aload_n 0, []),
  (820, 2, .iload 4, []),
  (822, 1, .iconst 3, []),
  (823, 1, .iadd, []),
  (824, 1, .iaload, [47]),
  (825, 3, .invokevirtual 105, [20, 1, 0, 0, 0, 100]),
  (828, 1, .aload_n 2, []),
  (829, 1, .aload_n 0, []),
  (830, 2, .iload 4, []),
  (832, 1, .iconst 1, []),
  (833, 1, .iadd, []),
  (834, 1, .iaload, [47]),
  (835, 1, .aload_n 0, []),
  (836, 2, .iload 4, []),
  (838, 1, .iconst 2, []),
  (839, 1, .iadd, []),
  (840, 1, .iaload, [47]),
  (841, 1, .aload_n 0, []),
  (842, 2, .iload 4, []),
  (844, 1, .iconst 3, []),
  (845, 1, .iadd, []),
  (846, 1, .iaload, [47]),
  (847, 3, .invokevirtual 108, [237, 1, 0, 0, 0, 111]),
  (850, 3, .if_icmp .eq 278, []),
  (853, 1, .iconst 0, []),
  (854, 1, .ireturn, [1]),
  (855, 1, .aload_n 1, []),
  (856, 1, .aload_n 0, []),
  (857, 2, .iload 4, []),
  (859, 1, .iconst 1, []),
  (860, 1, .iadd, []),
  (861, 1, .iaload, [47]),
  (862, 1, .aload_n 0, []),
  (863, 2, .iload 4, []),
  (865, 1, .iconst 2, []),
  (866, 1, .iadd, []),
  (867, 1, .iaload, [47]),
  (868, 3, .invokevirtual 109, [21, 1, 0, 0, 100]),
  (871, 1, .aload_n 2, []),
  (872, 1, .aload_n 0, []),
  (873, 2, .iload 4, []),
  (875, 1, .iconst 1, []),
  (876, 1, .iadd, []),
  (877, 1, .iaload, [47]),
  (878, 1, .aload_n 0, []),
  (879, 2, .iload 4, []),
  (881, 1, .iconst 2, []),
  (882, 1, .iadd, []),
  (883, 1, .iaload, [47]),
  (884, 3, .invokevirtual 112, [240, 1, 0, 0, 111]),
  (887, 3, .if_icmp .eq 241, []),
  (890, 1, .iconst 0, []),
  (891, 1, .ireturn, [1]),
  (892, 1, .aload_n 1, []),
  (893, 1, .aload_n 0, []),
  (894, 2, .iload 4, []),
  (896, 1, .iconst 1, []),
  (897, 1, .iadd, []),
  (898, 1, .iaload, [47]),
  (899, 1, .aload_n 0, []),
  (900, 2, .iload 4, []),
  (902, 1, .iconst 2, []),
  (903, 1, .iadd, []),
  (904, 1, .iaload, [47]),
  (905, 3, .invokevirtual 113, [22, 1, 0, 0, 100]),
  (908, 1, .aload_n 2, []),
  (909, 1, .aload_n 0, []),
  (910, 2, .iload 4, []),
  (912, 1, .iconst 1, []),
  (913, 1, .iadd, []),
  (914, 1, .iaload, [47]),
  (915, 1, .aload_n 0, []),
  (916, 2, .iload 4, []),
  (918, 1, .iconst 2, []),
  (919, 1, .iadd, []),
  (920, 1, .iaload, [47]),
  (921, 3, .invokevirtual 116, [245, 1, 0, 0, 111]),
  (924, 3, .if_icmp .eq 204, []),
  (927, 1, .iconst 0, []),
  (928, 1, .ireturn, [1]),
  (929, 1, .aload_n 1, []),
  (930, 1, .aload_n 0, []),
  (931, 2, .iload 4, []),
  (933, 1, .iconst 1, []),
  (934, 1, .iadd, []),
  (935, 1, .iaload, [47]),
  (936, 3, .invokevirtual 117, [23, 1, 0, 100]),
  (939, 1, .aload_n 2, []),
  (940, 1, .aload_n 0, []),
  (941, 2, .iload 4, []),
  (943, 1, .iconst 1, []),
  (944, 1, .iadd, []),
  (945, 1, .iaload, [47]),
  (946, 3, .invokevirtual 120, [246, 1, 0, 111]),
  (949, 3, .if_icmp .eq 179, []),
  (952, 1, .iconst 0, []),
  (953, 1, .ireturn, [1]),
  (954, 1, .aload_n 1, []),
  (955, 1, .aload_n 0, []),
  (956, 2, .iload 4, []),
  (958, 1, .iconst 1, []),
  (959, 1, .iadd, []),
  (960, 1, .iaload, [47]),
  (961, 1, .aload_n 0, []),
  (962, 2, .iload 4, []),
  (964, 1, .iconst 2, []),
  (965, 1, .iadd, []),
  (966, 1, .iaload, [47]),
  (967, 3, .invokevirtual 121, [24, 1, 0, 0, 100]),
  (970, 1, .aload_n 2, []),
  (971, 1, .aload_n 0, []),
  (972, 2, .iload 4, []),
  (974, 1, .iconst 1, []),
  (975, 1, .iadd, []),
  (976, 1, .iaload, [47]),
  (977, 1, .aload_n 0, []),
  (978, 2, .iload 4, []),
  (980, 1, .iconst 2, []),
  (981, 1, .iadd, []),
  (982, 1, .iaload, [47]),
  (983, 3, .invokevirtual 124, [250, 1, 0, 0, 111]),
  (986, 3, .if_icmp .eq 142, []),
  (989, 1, .iconst 0, []),
  (990, 1, .ireturn, [1]),
  (991, 1, .aload_n 1, []),
  (992, 1, .aload_n 0, []),
  (993, 2, .iload 4, []),
  (995, 1, .iconst 1, []),
  (996, 1, .iadd, []),
  (997, 1, .iaload, [47]),
  (998, 1, .aload_n 0, []),
  (999, 2, .iload 4, []),
  (1001, 1, .iconst 2, []),
  (1002, 1, .iadd, []),
  (1003, 1, .iaload, [47]),
  (1004, 1, .aload_n 0, []),
  (1005, 2, .iload 4, []),
  (1007, 1, .iconst 3, []),
  (1008, 1, .iadd, []),
  (1009, 1, .iaload, [47]),
  (1010, 3, .invokevirtual 125, [25, 1, 0, 0, 0, 100]),
  (1013, 1, .aload_n 2, []),
  (1014, 1, .aload_n 0, []),
  (1015, 2, .iload 4, []),
  (1017, 1, .iconst 1, []),
  (1018, 1, .iadd, []),
  (1019, 1, .iaload, [47]),
  (1020, 1, .aload_n 0, []),
  (1021, 2, .iload 4, []),
  (1023, 1, .iconst 2, []),
  (1024, 1, .iadd, []),
  (1025, 1, .iaload, [47]),
  (1026, 1, .aload_n 0, []),
  (1027, 2, .iload 4, []),
  (1029, 1, .iconst 3, []),
  (1030, 1, .iadd, []),
  (1031, 1, .iaload, [47]),
  (1032, 3, .invokevirtual 128, [251, 1, 0, 0, 0, 111]),
  (1035, 3, .if_icmp .eq 93, []),
  (1038, 1, .iconst 0, []),
  (1039, 1, .ireturn, [1]),
  (1040, 1, .aload_n 1, []),
  (1041, 3, .invokevirtual 129, [26, 1, 100]),
  (1044, 1, .aload_n 2, []),
  (1045, 3, .invokevirtual 132, [252, 1, 111]),
  (1048, 3, .if_icmp .eq 80, []),
  (1051, 1, .iconst 0, []),
  (1052, 1, .ireturn, [1]),
  (1053, 1, .aload_n 1, []),
  (1054, 1, .aload_n 0, []),
  (1055, 2, .iload 4, []),
  (1057, 1, .iconst 1, []),
  (1058, 1, .iadd, []),
  (1059, 1, .iaload, [47]),
  (1060, 3, .invokevirtual 133, [27, 1, 0, 100]),
  (1063, 1, .aload_n 2, []),
  (1064, 1, .aload_n 0, []),
  (1065, 2, .iload 4, []),
  (1067, 1, .iconst 1, []),
  (1068, 1, .iadd, []),
  (1069, 1, .iaload, [47]),
  (1070, 3, .invokevirtual 136, [253, 1, 0, 111]),
  (1073, 3, .if_icmp .eq 55, []),
  (1076, 1, .iconst 0, []),
  (1077, 1, .ireturn, [1]),
  (1078, 1, .aload_n 1, []),
  (1079, 1, .aload_n 0, []),
  (1080, 2, .iload 4, []),
  (1082, 1, .iconst 1, []),
  (1083, 1, .iadd, []),
  (1084, 1, .iaload, [47]),
  (1085, 3, .invokevirtual 137, [28, 1, 0, 100]),
  (1088, 1, .aload_n 2, []),
  (1089, 1, .aload_n 0, []),
  (1090, 2, .iload 4, []),
  (1092, 1, .iconst 1, []),
  (1093, 1, .iadd, []),
  (1094, 1, .iaload, [47]),
  (1095, 3, .invokevirtual 140, [254, 1, 0, 111]),
  (1098, 3, .if_icmp .eq 30, []),
  (1101, 1, .iconst 0, []),
  (1102, 1, .ireturn, [1]),
  (1103, 1, .aload_n 1, []),
  (1104, 1, .aload_n 0, []),
  (1105, 2, .iload 4, []),
  (1107, 1, .iconst 1, []),
  (1108, 1, .iadd, []),
  (1109, 1, .iaload, [47]),
  (1110, 3, .invokevirtual 141, [29, 1, 0, 100]),
  (1113, 1, .aload_n 2, []),
  (1114, 1, .aload_n 0, []),
  (1115, 2, .iload 4, []),
  (1117, 1, .iconst 1, []),
  (1118, 1, .iadd, []),
  (1119, 1, .iaload, [47]),
  (1120, 3, .invokevirtual 144, [256, 1, 0, 111]),
  (1123, 3, .if_icmp .eq 5, []),
  (1126, 1, .iconst 0, []),
  (1127, 1, .ireturn, [1]),
  (1128, 3, .iinc 4 5, []),
  (1131, 3, .goto (-1108), []),
  (1134, 1, .iconst 1, []),
  (1135, 1, .ireturn, [1])]
def zPRl : List (List zE) := [c0, c1, c2, c3, c4, c5, c6, c7, c8, c9, c10, c11, c12, c13, c14, c15, c16, c17, c18, c19, c20, c21, c22, c23, c24, c25, c26, c27, c28, c29, c30, c31, c32, c33, c34, c35, c36, c37, c38, c39, c40, c41, c42, c43, c44, c45, c46, c47, c48, c49, c50, c51, c52, c53, c54, c55, c56, c57, c58, c59, c60, c61, c62, c63, c64, c65, c66, c67, c68, c69, c70, c71, c72, c73, c74, c75, c76, c77, c78, c79, c80, c81, c82, c83, c84, c85, c86, c87, c88, c89, c90, c91, c92, c93, c94, c95, c96, c97, c98, c99, c100, c101, c102, c103, c104, c105, c106, c107, c108, c109, c110, c111, c112, c113, c114, c115, c116, c117, c118, c119, c120, c121, c122, c123, c124, c125, c126, c127, c128, c129, c130, c131, c132, c133, c134, c135, c136, c137, c138, c139, c140, c141, c142, c143, c144, c145, c146, c147, c148, c149, c150, c151, c152, c153, c154, c155, c156, c157, c158, c159, c160, c161, c162, c163, c164, c165, c166, c167, c168, c169, c170, c171, c172, c173, c174, c175, c176, c177, c178, c179, c180, c181, c182, c183, c184, c185, c186, c187, c188, c189, c190, c191, c192, c193, c194, c195, c196, c197, c198, c199, c200, c201, c202, c203, c204, c205, c206, c207, c208, c209, c210, c211, c212, c213, c214, c215, c216, c217, c218, c219, c220, c221, c222, c223, c224, c225, c226, c227, c228, c229, c230, c231, c232, c233, c234, c235, c236, c237, c238, c239, c240, c241, c242, c243, c244, c245, c246, c247, c248, c249, c250, c251, c252, c253, c254, c255, c256, c257, c258, c259, c260, c261, c262]
def zPR (y : Nat) : List zE := zPRl.getD y []
def zLMl : List Nat := [2, 3, 2, 2, 3, 2, 3, 3, 3, 2, 3, 5, 4, 3, 6, 5, 2, 2, 2, 4, 4, 9, 5, 3, 4, 8, 2, 2, 2, 2, 2, 2, 1, 1, 1, 3, 3, 2, 3, 4, 6, 4, 3, 1, 2, 2, 2, 6, 6, 1, 2, 3, 2, 5, 2, 3, 5, 2, 3, 3, 2, 3, 7, 5, 5, 3, 1, 6, 4, 2, 3, 5, 7, 7, 1, 2, 1, 3, 2, 1, 4, 1, 2, 3, 2, 5, 4, 5, 2, 2, 1, 4, 6, 2, 12, 2, 2, 5, 4, 3, 2, 4, 2, 4, 1, 3, 4, 4, 3, 5, 6, 5, 5, 7, 8, 3, 9, 1, 6, 4, 3, 2, 1, 2, 1, 1, 9, 6, 5, 6, 5, 5, 2, 2, 2, 2, 1, 1, 1, 1, 1, 6, 1, 2, 1, 1, 3, 2, 1, 1, 3, 1, 4, 5, 2, 1, 2, 2, 3, 3, 2, 2, 1, 1, 5, 4, 3, 3, 1, 2, 2, 2, 3, 2, 4, 3, 3, 3, 2, 5, 5, 5, 8, 8, 6, 8, 4, 9, 3, 2, 5, 3, 5, 5, 5, 4, 2, 3, 3, 3, 2, 3, 6, 6, 5, 3, 4, 6, 6, 4, 5, 7, 6, 8, 7, 5, 5, 4, 4, 2, 9, 6, 5, 3, 4, 3, 4, 3, 1, 2, 2, 4, 4, 7, 8, 6, 4, 4, 4, 4, 8, 2, 4, 6, 1, 3, 4, 5, 3, 5, 4, 7, 2, 3, 3, 3, 2, 2, 1, 2, 2, 5, 7]
def zLM (y : Nat) : Nat := zLMl.getD y 0
abbrev zK (y pc : Nat) (ls st : List zV) (h : zH) (Q : Option zV → zH → Prop) : Prop := zW zPR zLM y pc ls st h Q
def zC0 (y : Nat) (args : List zV) (h : zH) (K : zH → Prop) : Prop := zM zPR zLM y args h (fun r h1 => r = none ∧ K h1)
def zC1 (y : Nat) (args : List zV) (h : zH) (K : Int → zH → Prop) : Prop := zM zPR zLM y args h (fun r h1 => ∃ v : Int, r = some (.inl v) ∧ K v h1)
def zCr (y t : Nat) (args : List zV) (h : zH) (K : Nat → zH → Prop) : Prop := zM zPR zLM y args h (fun r h1 => ∃ x : Nat, r = some (.inr (.inl (x, t))) ∧ K x h1)
end
section
-- 0 SyntaxRules.<init>()V
set_option maxRecDepth 100000 in
set_option maxHeartbeats 4000000 in
theorem k0_0 (a0 : Nat) (h : zH) (Q : Option zV → zH → Prop) (k :
  ∀ h47 : zH, h47 = nw h 21 2 →
  zC0 43 [vR (nx h) 0] h47 (fun h48 =>
  (zty 120 a0 h48) ∧ ∀ h49 : zH, h49 = sR h48 a0 0 (nx h) →
  ∀ h50 : zH, h50 = nw h49 22 18 →
  zC0 49 [vR (nx h49) 0] h50 (fun h51 =>
  (zty 120 a0 h51) ∧ ∀ h52 : zH, h52 = sR h51 a0 1 (nx h49) →
  ∀ h53 : zH, h53 = nw h52 22 18 →
  zC0 49 [vR (nx h52) 0] h53 (fun h54 =>
  (zty 120 a0 h54) ∧ ∀ h55 : zH, h55 = sR h54 a0 2 (nx h52) →
  ∀ h56 : zH, h56 = nw h55 22 18 →
  zC0 49 [vR (nx h55) 0] h56 (fun h57 =>
  (zty 120 a0 h57) ∧ ∀ h58 : zH, h58 = sR h57 a0 3 (nx h55) →
  (0 ≤ (8 : Int) ∧ (8 : Int) ≤ 10000) ∧ ∀ h59 : zH, h59 = nw h58 44 ((8 : Int)).toNat →
  (zty 120 a0 h59) ∧ ∀ h60 : zH, h60 = sR h59 a0 4 (nx h58) →
  ∀ h61 : zH, h61 = nw h60 24 11 →
  zC0 74 [vR (nx h60) 0] h61 (fun h62 =>
  (zty 120 a0 h62) ∧ ∀ h63 : zH, h63 = sR h62 a0 5 (nx h60) →
  ∀ h64 : zH, h64 = nw h63 25 12 →
  zC0 90 [vR (nx h63) 0] h64 (fun h65 =>
  (zty 120 a0 h65) ∧ ∀ h66 : zH, h66 = sR h65 a0 6 (nx h63) →
  ∀ h67 : zH, h67 = nw h66 26 16 →
  zC0 104 [vR (nx h66) 0] h67 (fun h68 =>
  (zty 120 a0 h68) ∧ ∀ h69 : zH, h69 = sR h68 a0 7 (nx h66) →
  ∀ h70 : zH, h70 = nw h69 27 5 →
  zC0 117 [vR (nx h69) 0] h70 (fun h71 =>
  (zty 120 a0 h71) ∧ ∀ h72 : zH, h72 = sR h71 a0 8 (nx h69) →
  ∀ h73 : zH, h73 = nw h72 28 9 →
  zC0 122 [vR (nx h72) 0] h73 (fun h74 =>
  (zty 120 a0 h74) ∧ ∀ h75 : zH, h75 = sR h74 a0 9 (nx h72) →
  ∀ h76 : zH, h76 = nw h75 29 3 →
  zC0 134 [vR (nx h75) 0] h76 (fun h77 =>
  (zty 120 a0 h77) ∧ ∀ h78 : zH, h78 = sR h77 a0 10 (nx h75) →
  (0 ≤ (2 : Int) ∧ (2 : Int) ≤ 10000) ∧ ∀ h79 : zH, h79 = nw h78 46 ((2 : Int)).toNat →
  (zty 120 a0 h79) ∧ ∀ h80 : zH, h80 = sR h79 a0 11 (nx h78) →
  (0 ≤ (6 : Int) ∧ (6 : Int) ≤ 10000) ∧ ∀ h81 : zH, h81 = nw h80 45 ((6 : Int)).toNat →
  (zty 120 a0 h81) ∧ (gR (sR h81 a0 12 (nx h80)) a0 0 = a0 + 1) ∧ (zty 101 (a0 + 1) (sR h81 a0 12 (nx h80))) ∧ (gR (sR h81 a0 12 (nx h80)) a0 3 = a0 + 35) ∧ (zty 102 (a0 + 35) (sR h81 a0 12 (nx h80))) ∧ (gR (sR h81 a0 12 (nx h80)) a0 4 = a0 + 51) ∧ (zty 944 (a0 + 51) (sR h81 a0 12 (nx h80))) ∧ (gR (sR h81 a0 12 (nx h80)) a0 5 = a0 + 52) ∧ (zty 104 (a0 + 52) (sR h81 a0 12 (nx h80))) ∧ (gR (sR h81 a0 12 (nx h80)) a0 6 = a0 + 54) ∧ (zty 105 (a0 + 54) (sR h81 a0 12 (nx h80))) ∧ (gR (sR h81 a0 12 (nx h80)) a0 7 = a0 + 61) ∧ (zty 106 (a0 + 61) (sR h81 a0 12 (nx h80))) ∧ (gR (sR h81 a0 12 (nx h80)) a0 8 = a0 + 75) ∧ (zty 107 (a0 + 75) (sR h81 a0 12 (nx h80))) ∧ (gR (sR h81 a0 12 (nx h80)) a0 9 = a0 + 80) ∧ (zty 108 (a0 + 80) (sR h81 a0 12 (nx h80))) ∧ (gR (sR h81 a0 12 (nx h80)) a0 10 = a0 + 85) ∧ (zty 109 (a0 + 85) (sR h81 a0 12 (nx h80))) ∧ (gR (sR h81 a0 12 (nx h80)) a0 11 = a0 + 103) ∧ (zty 346 (a0 + 103) (sR h81 a0 12 (nx h80))) ∧ (gR (sR h81 a0 12 (nx h80)) a0 12 = a0 + 104) ∧ (zty 745 (a0 + 104) (sR h81 a0 12 (nx h80))) ∧ ∀ h82 : zH, h82 = sT (sR h81 a0 12 (nx h80)) a0 0 →
  zK 0 142 [vR a0 0, vI 0] [] h82 Q))))))))))) : zK 0 0 [vR a0 0, vU] [] h Q :=
  zwpe_W (cd := c0) rfl [142, 168] 400 0 _ _ _ _ k
set_option maxRecDepth 100000 in
set_option maxHeartbeats 4000000 in
theorem k0_142 (a0 : Nat) (l1 : Int) (h : zH) (Q : Option zV → zH → Prop) (k :
  (2 ≤ l1 →
    zK 0 168 [vR a0 0, vI 0] [] h Q) ∧
    (¬ (2 ≤ l1) →
    (zty 100 a0 h) ∧ ∀ h83 : zH, h83 = nw h 30 3 →
    zC0 138 [vR (nx h) 0] h83 (fun h84 =>
    (0 ≤ (l1 : Int)) ∧ ((l1 : Int) < 2) ∧ ((nx h : Nat) = 0 ∨ zty 110 (nx h) h84) ∧ ∀ h85 : zH, h85 = sR h84 (a0 + 103) l1 (nx h) →
    (inR (l1 + 1)) ∧ zK 0 142 [vR a0 0, vI (l1 + 1)] [] h85 Q))) : zK 0 142 [vR a0 0, vI l1] [] h Q :=
  zwpe_W (cd := c0) rfl [142, 168] 400 142 _ _ _ _ k
set_option maxRecDepth 100000 in
set_option maxHeartbeats 4000000 in
theorem k0_168 (a0 : Nat) (l1 : Int) (h : zH) (Q : Option zV → zH → Prop) (k :
  (6 ≤ l1 →
    (zty 100 a0 h) ∧ (0 ≤ (0 : Int)) ∧ ((0 : Int) < 300) ∧ ∀ h86 : zH, h86 = sI h (a0 + 1 + 1) 0 97 →
    (zty 100 a0 h86) ∧ ∀ h87 : zH, h87 = sI h86 (a0 + 1) 1 1 →
    (zty 100 a0 h87) ∧ (zty 102 (gR h87 a0 1) h87) ∧ (zty 100 a0 h87) ∧ zC1 50 [vR (gR h87 a0 1) 102, vR (a0 + 1) 101] h87 (fun v88 h88 =>
    (zty 100 a0 h88) ∧ ∀ h89 : zH, h89 = sI h88 (a0 + 1) 1 0 →
    Q none h89)) ∧
    (¬ (6 ≤ l1) →
    (zty 100 a0 h) ∧ ∀ h90 : zH, h90 = nw h 21 2 →
    zC0 43 [vR (nx h) 0] h90 (fun h91 =>
    (0 ≤ (l1 : Int)) ∧ ((l1 : Int) < 6) ∧ ((nx h : Nat) = 0 ∨ zty 101 (nx h) h91) ∧ ∀ h92 : zH, h92 = sR h91 (a0 + 104) l1 (nx h) →
    (inR (l1 + 1)) ∧ zK 0 168 [vR a0 0, vI (l1 + 1)] [] h92 Q))) : zK 0 168 [vR a0 0, vI l1] [] h Q :=
  zwpe_W (cd := c0) rfl [142, 168] 400 168 _ _ _ _ k
-- 1 SyntaxRules.sign(I)I
set_option maxRecDepth 100000 in
set_option maxHeartbeats 4000000 in
theorem k1_0 (p1 : Int) (h : zH) (Q : Option zV → zH → Prop) (k :
  (inR ((gI h 3 1) + 4)) ∧ (((gI h 3 1) + 4) ≤ 300 →
    zK 1 20 [vR 2 100, vI p1, vI 24] [] h Q) ∧
    (¬ (((gI h 3 1) + 4) ≤ 300) →
    Q (some (vI ((-1)))) h)) : zK 1 0 [vR 2 100, vI p1, vU] [] h Q :=
  zwpe_W (cd := c1) rfl [20] 400 0 _ _ _ _ k
set_option maxRecDepth 100000 in
set_option maxHeartbeats 4000000 in
theorem k1_20 (l1 : Int) (l2 : Int) (h : zH) (Q : Option zV → zH → Prop) (k :
  (l2 < 0 →
    Q (some (vI (gI h 3 1))) h) ∧
    (¬ (l2 < 0) →
    (0 ≤ (gI h 3 1 : Int)) ∧ ((gI h 3 1 : Int) < 300) ∧ ∀ h3 : zH, h3 = sI h 4 (gI h 3 1) (iAnd (iUshr l1 l2) 255) →
    (inR ((gI h3 3 1) + 1)) ∧ ∀ h4 : zH, h4 = sI h3 3 1 ((gI h3 3 1) + 1) →
    (inR (l2 + (-8))) ∧ zK 1 20 [vR 2 100, vI l1, vI (l2 + (-8))] [] h4 Q)) : zK 1 20 [vR 2 100, vI l1, vI l2] [] h Q :=
  zwpe_W (cd := c1) rfl [20] 400 20 _ _ _ _ k
-- 2 SyntaxRules.end(I)Z
set_option maxRecDepth 100000 in
set_option maxHeartbeats 4000000 in
theorem k2_0 (p1 : Int) (h : zH) (Q : Option zV → zH → Prop) (k :
  (p1 < 0 →
    ((0 : Int) = 0 ∨ (0 : Int) = 1) ∧ Q (some (vI 0)) h) ∧
    (¬ (p1 < 0) →
    (p1 ≤ (gI h 3 1) →
      ∀ h2 : zH, h2 = sI h 3 1 p1 →
      ((1 : Int) = 0 ∨ (1 : Int) = 1) ∧ Q (some (vI 1)) h2) ∧
      (¬ (p1 ≤ (gI h 3 1)) →
      ((0 : Int) = 0 ∨ (0 : Int) = 1) ∧ Q (some (vI 0)) h))) : zK 2 0 [vR 2 100, vI p1] [] h Q :=
  zwpe_W (cd := c2) rfl [] 400 0 _ _ _ _ k
-- 3 SyntaxRules.source()I
set_option maxRecDepth 100000 in
set_option maxHeartbeats 4000000 in
theorem k3_0 (h : zH) (Q : Option zV → zH → Prop) (k :
  (zty 102 (gR h 2 2) h) ∧ zC1 50 [vR (gR h 2 2) 102, vR 3 101] h (fun v5 h5 =>
  ∀ h6 : zH, h6 = sI h5 3 1 0 →
  (¬ v5 = 0 →
    (zty 102 (gR h6 2 1) h6) ∧ zC0 135 [vR 87 109, vR (gR h6 2 1 + 1) 101] h6 (fun h7 =>
    zC0 37 [vR 2 100] h7 (fun h8 =>
    (zty 102 (gR h8 2 1) h8) ∧ Q (some (vI (gI h8 (gR h8 2 1) 14))) h8))) ∧
    (¬ (¬ v5 = 0) →
    (zty 102 (gR h6 2 2) h6) ∧ (inR ((-1000) - (gI h6 (gR h6 2 2) 16))) ∧ Q (some (vI ((-1000) - (gI h6 (gR h6 2 2) 16)))) h6))) : zK 3 0 [vR 2 100, vU] [] h Q :=
  zwpe_W (cd := c3) rfl [] 400 0 _ _ _ _ k
-- 4 SyntaxRules.rule()I
set_option maxRecDepth 100000 in
set_option maxHeartbeats 4000000 in
theorem k4_0 (h : zH) (Q : Option zV → zH → Prop) (k :
  zCr 75 0 [vR 54 104, vR 3 101] h (fun v4 h4 =>
  ∀ h5 : zH, h5 = sI h4 3 1 0 →
  (¬ (v4 : Nat) = 0 →
    zK 4 38 [vR 2 100, vR v4 0, vI 0] [] h5 Q) ∧
    (¬ (¬ (v4 : Nat) = 0) →
    (inR ((-1000) - (gI h5 54 0))) ∧ Q (some (vI ((-1000) - (gI h5 54 0)))) h5))) : zK 4 0 [vR 2 100, vU, vU] [] h Q :=
  zwpe_W (cd := c4) rfl [38] 400 0 _ _ _ _ k
set_option maxRecDepth 100000 in
set_option maxHeartbeats 4000000 in
theorem k4_38 (a1 : Nat) (l2 : Int) (h : zH) (Q : Option zV → zH → Prop) (k :
  (8 ≤ l2 →
    Q (some (vI ((-3)))) h) ∧
    (¬ (8 ≤ l2) →
    (0 ≤ (l2 : Int)) ∧ ((l2 : Int) < 8) ∧ (¬ ((gR h 53 l2) : Nat) = 0 →
      (inR (l2 + 1)) ∧ zK 4 38 [vR 2 100, vR a1 0, vI (l2 + 1)] [] h Q) ∧
      (¬ (¬ ((gR h 53 l2) : Nat) = 0) →
      (0 ≤ (l2 : Int)) ∧ ((l2 : Int) < 8) ∧ ((a1 : Nat) = 0 ∨ zty 103 a1 h) ∧ ∀ h6 : zH, h6 = sR h 53 l2 a1 →
      Q (some (vI l2)) h6))) : zK 4 38 [vR 2 100, vR a1 0, vI l2] [] h Q :=
  zwpe_W (cd := c4) rfl [38] 400 38 _ _ _ _ k
-- 5 SyntaxRules.drop(I)I
set_option maxRecDepth 100000 in
set_option maxHeartbeats 4000000 in
theorem k5_0 (p1 : Int) (h : zH) (Q : Option zV → zH → Prop) (k :
  zC1 31 [vR 2 100, vI p1] h (fun v4 h4 =>
  (¬ v4 = 0 →
    (0 ≤ (p1 : Int)) ∧ ((p1 : Int) < 8) ∧ ((0 : Nat) = 0 ∨ zty 103 0 h4) ∧ ∀ h5 : zH, h5 = sR h4 53 p1 0 →
    zC1 35 [vR 2 100] h5 (fun v6 h6 =>
    Q (some (vI v6)) h6)) ∧
    (¬ (¬ v4 = 0) →
    Q (some (vI ((-2)))) h4))) : zK 5 0 [vR 2 100, vI p1] [] h Q :=
  zwpe_W (cd := c5) rfl [] 400 0 _ _ _ _ k
-- 7 SyntaxRules.name(II)I
set_option maxRecDepth 100000 in
set_option maxHeartbeats 4000000 in
theorem k7_0 (p1 : Int) (p2 : Int) (h : zH) (Q : Option zV → zH → Prop) (k :
  zC1 30 [vR 2 100, vI p1] h (fun v3 h3 =>
  (v3 = 0 →
    Q (some (vI ((-1)))) h3) ∧
    (¬ (v3 = 0) →
    (p2 < 0 →
      Q (some (vI ((-1)))) h3) ∧
      (¬ (p2 < 0) →
      (zty 102 (gR h3 2 1) h3) ∧ (0 ≤ (p1 : Int)) ∧ ((p1 : Int) < 60) ∧ (p2 < (gI h3 (gR h3 2 1 + 12) p1) →
        (zty 102 (gR h3 2 1) h3) ∧ (zty 102 (gR h3 2 1) h3) ∧ (0 ≤ (p1 : Int)) ∧ ((p1 : Int) < 60) ∧ (inR ((gI h3 (gR h3 2 1 + 11) p1) + p2)) ∧ zC1 44 [vR (gR h3 2 1 + 1) 101, vI ((gI h3 (gR h3 2 1 + 11) p1) + p2)] h3 (fun v4 h4 =>
        Q (some (vI v4)) h4)) ∧
        (¬ (p2 < (gI h3 (gR h3 2 1 + 12) p1)) →
        Q (some (vI ((-1)))) h3))))) : zK 7 0 [vR 2 100, vI p1, vI p2] [] h Q :=
  zwpe_W (cd := c7) rfl [] 400 0 _ _ _ _ k
-- 8 SyntaxRules.comment(II)I
set_option maxRecDepth 100000 in
set_option maxHeartbeats 4000000 in
theorem k8_0 (p1 : Int) (p2 : Int) (h : zH) (Q : Option zV → zH → Prop) (k :
  (¬ p1 = (-1) →
    zK 8 17 [vR 2 100, vI p1, vI p2] [] h Q) ∧
    (¬ (¬ p1 = (-1)) →
    (¬ p2 = 0 →
      zK 8 17 [vR 2 100, vI p1, vI p2] [] h Q) ∧
      (¬ (¬ p2 = 0) →
      (zty 102 (gR h 2 1) h) ∧ Q (some (vI (gI h (gR h 2 1) 15))) h))) : zK 8 0 [vR 2 100, vI p1, vI p2] [] h Q :=
  zwpe_W (cd := c8) rfl [17] 400 0 _ _ _ _ k
set_option maxRecDepth 100000 in
set_option maxHeartbeats 4000000 in
theorem k8_17 (l1 : Int) (l2 : Int) (h : zH) (Q : Option zV → zH → Prop) (k :
  (l1 < 0 →
    Q (some (vI ((-1)))) h) ∧
    (¬ (l1 < 0) →
    (zty 102 (gR h 2 1) h) ∧ (l1 < (gI h (gR h 2 1) 15) →
      (l2 = (0 : Int) →
        (zty 102 (gR h 2 1) h) ∧ (0 ≤ (l1 : Int)) ∧ ((l1 : Int) < 150) ∧ Q (some (vI (gI h (gR h 2 1 + 13) l1))) h) ∧
        (¬ (l2 = (0 : Int)) →
        (l2 = ((0 : Int) + 1) →
        (zty 102 (gR h 2 1) h) ∧ (0 ≤ (l1 : Int)) ∧ ((l1 : Int) < 150) ∧ Q (some (vI (gI h (gR h 2 1 + 14) l1))) h) ∧
        (¬ (l2 = ((0 : Int) + 1)) →
        (l2 = ((0 : Int) + 1 + 1) →
        (zty 102 (gR h 2 1) h) ∧ (0 ≤ (l1 : Int)) ∧ ((l1 : Int) < 150) ∧ Q (some (vI (gI h (gR h 2 1 + 15) l1))) h) ∧
        (¬ (l2 = ((0 : Int) + 1 + 1)) →
        Q (some (vI ((-1)))) h)))) ∧
      (¬ (l1 < (gI h (gR h 2 1) 15)) →
      Q (some (vI ((-1)))) h))) : zK 8 17 [vR 2 100, vI l1, vI l2] [] h Q :=
  zwpe_W (cd := c8) rfl [17] 400 17 _ _ _ _ k
-- 9 SyntaxRules.letter(I)I
set_option maxRecDepth 100000 in
set_option maxHeartbeats 4000000 in
theorem k9_0 (p1 : Int) (h : zH) (Q : Option zV → zH → Prop) (k :
  (zty 102 (gR h 2 1) h) ∧ zC1 44 [vR (gR h 2 1 + 1) 101, vI p1] h (fun v2 h2 =>
  Q (some (vI v2)) h2)) : zK 9 0 [vR 2 100, vI p1] [] h Q :=
  zwpe_W (cd := c9) rfl [] 400 0 _ _ _ _ k
-- 10 SyntaxRules.alike(II)I
set_option maxRecDepth 100000 in
set_option maxHeartbeats 4000000 in
theorem k10_0 (p1 : Int) (p2 : Int) (h : zH) (Q : Option zV → zH → Prop) (k :
  zC1 30 [vR 2 100, vI p1] h (fun v4 h4 =>
  (v4 = 0 →
    Q (some (vI ((-1)))) h4) ∧
    (¬ (v4 = 0) →
    zC1 30 [vR 2 100, vI p2] h4 (fun v5 h5 =>
    (¬ v5 = 0 →
      (zty 102 (gR h5 2 1) h5) ∧ zC1 61 [vR (gR h5 2 1) 102, vI p1, vI p2] h5 (fun v6 h6 =>
      (v6 = 0 →
        Q (some (vI 0)) h6) ∧
        (¬ (v6 = 0) →
        Q (some (vI 1)) h6))) ∧
      (¬ (¬ v5 = 0) →
      Q (some (vI ((-1)))) h5))))) : zK 10 0 [vR 2 100, vI p1, vI p2] [] h Q :=
  zwpe_W (cd := c10) rfl [] 400 0 _ _ _ _ k
-- 11 SyntaxRules.twins(II)I
set_option maxRecDepth 100000 in
set_option maxHeartbeats 4000000 in
theorem k11_0 (p1 : Int) (p2 : Int) (h : zH) (Q : Option zV → zH → Prop) (k :
  zC1 30 [vR 2 100, vI p1] h (fun v3 h3 =>
  (v3 = 0 →
    Q (some (vI ((-1)))) h3) ∧
    (¬ (v3 = 0) →
    (p2 < 0 →
      Q (some (vI ((-1)))) h3) ∧
      (¬ (p2 < 0) →
      (p2 ≤ 1 →
        zK 11 24 [vR 2 100, vI p1, vI p2, vI 0, vI 0] [] h3 Q) ∧
        (¬ (p2 ≤ 1) →
        Q (some (vI ((-1)))) h3))))) : zK 11 0 [vR 2 100, vI p1, vI p2, vU, vU] [] h Q :=
  zwpe_W (cd := c11) rfl [24] 400 0 _ _ _ _ k
set_option maxRecDepth 100000 in
set_option maxHeartbeats 4000000 in
theorem k11_24 (l1 : Int) (l2 : Int) (l3 : Int) (l4 : Int) (h : zH) (Q : Option zV → zH → Prop) (k :
  (zty 102 (gR h 2 1) h) ∧ ((gI h (gR h 2 1) 14) ≤ l4 →
    Q (some (vI l3)) h) ∧
    (¬ ((gI h (gR h 2 1) 14) ≤ l4) →
    (zty 102 (gR h 2 1) h) ∧ zC1 61 [vR (gR h 2 1) 102, vI l1, vI l4] h (fun v4 h4 =>
    (v4 = 0 →
      (inR (l4 + 1)) ∧ zK 11 24 [vR 2 100, vI l1, vI l2, vI l3, vI (l4 + 1)] [] h4 Q) ∧
      (¬ (v4 = 0) →
      (¬ l2 = 1 →
        (inR (l3 + 1)) ∧ (inR (l4 + 1)) ∧ zK 11 24 [vR 2 100, vI l1, vI l2, vI (l3 + 1), vI (l4 + 1)] [] h4 Q) ∧
        (¬ (¬ l2 = 1) →
        Q (some (vI l4)) h4))))) : zK 11 24 [vR 2 100, vI l1, vI l2, vI l3, vI l4] [] h Q :=
  zwpe_W (cd := c11) rfl [24] 400 24 _ _ _ _ k
-- 12 SyntaxRules.told(II)I
set_option maxRecDepth 100000 in
set_option maxHeartbeats 4000000 in
theorem k12_0 (p1 : Int) (p2 : Int) (h : zH) (Q : Option zV → zH → Prop) (k :
  zC1 31 [vR 2 100, vI p1] h (fun v7 h7 =>
  (¬ v7 = 0 →
    (0 ≤ (p1 : Int)) ∧ ((p1 : Int) < 8) ∧ (p2 = (0 : Int) →
      (zty 103 (gR h7 53 p1) h7) ∧ zC1 105 [vR 63 106, vR (gR h7 53 p1) 103] h7 (fun v12 h12 =>
      Q (some (vI v12)) h12)) ∧
      (¬ (p2 = (0 : Int)) →
      (p2 = ((0 : Int) + 1) →
      (zty 103 (gR h7 53 p1) h7) ∧ (zty 103 (gR h7 53 p1) h7) ∧ zC1 67 [vR (gR h7 53 p1) 103, vI 5, vI 0, vI (gI h7 (gR h7 53 p1) 14)] h7 (fun v11 h11 =>
      Q (some (vI v11)) h11)) ∧
      (¬ (p2 = ((0 : Int) + 1)) →
      (p2 = ((0 : Int) + 1 + 1) →
      (zty 103 (gR h7 53 p1) h7) ∧ (zty 103 (gR h7 53 p1) h7) ∧ zC1 67 [vR (gR h7 53 p1) 103, vI 2, vI 0, vI (gI h7 (gR h7 53 p1) 14)] h7 (fun v10 h10 =>
      Q (some (vI v10)) h10)) ∧
      (¬ (p2 = ((0 : Int) + 1 + 1)) →
      (p2 = ((0 : Int) + 1 + 1 + 1) →
      (zty 103 (gR h7 53 p1) h7) ∧ zC1 258 [vI (gI h7 (gR h7 53 p1) 15)] h7 (fun v9 h9 =>
      Q (some (vI v9)) h9)) ∧
      (¬ (p2 = ((0 : Int) + 1 + 1 + 1)) →
      (p2 = ((0 : Int) + 1 + 1 + 1 + 1) →
      (zty 103 (gR h7 53 p1) h7) ∧ (zty 103 (gR h7 53 p1) h7) ∧ (zty 103 (gR h7 53 p1) h7) ∧ zC1 67 [vR (gR h7 53 p1) 103, vI 4, vI (gI h7 (gR h7 53 p1) 14), vI (gI h7 (gR h7 53 p1) 13)] h7 (fun v8 h8 =>
      Q (some (vI v8)) h8)) ∧
      (¬ (p2 = ((0 : Int) + 1 + 1 + 1 + 1)) →
      Q (some (vI ((-1)))) h7)))))) ∧
    (¬ (¬ v7 = 0) →
    Q (some (vI ((-1)))) h7))) : zK 12 0 [vR 2 100, vI p1, vI p2, vU] [] h Q :=
  zwpe_W (cd := c12) rfl [] 400 0 _ _ _ _ k
-- 13 SyntaxRules.ways(II)I
set_option maxRecDepth 100000 in
set_option maxHeartbeats 4000000 in
theorem k13_0 (p1 : Int) (p2 : Int) (h : zH) (Q : Option zV → zH → Prop) (k :
  zC1 31 [vR 2 100, vI p1] h (fun v4 h4 =>
  (v4 = 0 →
    Q (some (vI ((-1)))) h4) ∧
    (¬ (v4 = 0) →
    zC1 30 [vR 2 100, vI p2] h4 (fun v5 h5 =>
    (¬ v5 = 0 →
      (zty 102 (gR h5 2 1) h5) ∧ (0 ≤ (p1 : Int)) ∧ ((p1 : Int) < 8) ∧ (zty 103 (gR h5 53 p1) h5) ∧ zC1 94 [vR 56 105, vR (gR h5 2 1) 102, vR (gR h5 53 p1) 103, vI 0, vI p2, vI 500] h5 (fun v6 h6 =>
      Q (some (vI v6)) h6)) ∧
      (¬ (¬ v5 = 0) →
      Q (some (vI ((-1)))) h5))))) : zK 13 0 [vR 2 100, vI p1, vI p2] [] h Q :=
  zwpe_W (cd := c13) rfl [] 400 0 _ _ _ _ k
-- 14 SyntaxRules.held(IIII)I
set_option maxRecDepth 100000 in
set_option maxHeartbeats 4000000 in
theorem k14_0 (p1 : Int) (p2 : Int) (p3 : Int) (p4 : Int) (h : zH) (Q : Option zV → zH → Prop) (k :
  zC1 31 [vR 2 100, vI p1] h (fun v6 h6 =>
  (v6 = 0 →
    Q (some (vI ((-1)))) h6) ∧
    (¬ (v6 = 0) →
    zC1 30 [vR 2 100, vI p2] h6 (fun v7 h7 =>
    (v7 = 0 →
      Q (some (vI ((-1)))) h7) ∧
      (¬ (v7 = 0) →
      (p3 < 0 →
        Q (some (vI ((-1)))) h7) ∧
        (¬ (p3 < 0) →
        (26 ≤ p3 →
          Q (some (vI ((-1)))) h7) ∧
          (¬ (26 ≤ p3) →
          (p4 < 0 →
            Q (some (vI ((-1)))) h7) ∧
            (¬ (p4 < 0) →
            (p4 ≤ 1 →
              (0 ≤ (p1 : Int)) ∧ ((p1 : Int) < 8) ∧ (zty 103 (gR h7 53 p1) h7) ∧ zC1 68 [vR (gR h7 53 p1) 103, vI 0, vI p3] h7 (fun v8 h8 =>
              (v8 = (-1) →
                Q (some (vI ((-1)))) h8) ∧
                (¬ (v8 = (-1)) →
                (zty 102 (gR h8 2 1) h8) ∧ (0 ≤ (p1 : Int)) ∧ ((p1 : Int) < 8) ∧ (zty 103 (gR h8 53 p1) h8) ∧ zC1 91 [vR 56 105, vR (gR h8 2 1) 102, vR (gR h8 53 p1) 103, vI p2] h8 (fun v9 h9 =>
                (¬ v9 = 0 →
                  (¬ p4 = 0 →
                    (0 ≤ (v8 : Int)) ∧ ((v8 : Int) < 20) ∧ Q (some (vI (gI h9 59 v8))) h9) ∧
                    (¬ (¬ p4 = 0) →
                    zC1 93 [vR 56 105, vI v8] h9 (fun v10 h10 =>
                    Q (some (vI v10)) h10))) ∧
                  (¬ (¬ v9 = 0) →
                  Q (some (vI ((-1)))) h9))))) ∧
              (¬ (p4 ≤ 1) →
              Q (some (vI ((-1)))) h7))))))))) : zK 14 0 [vR 2 100, vI p1, vI p2, vI p3, vI p4, vU] [] h Q :=
  zwpe_W (cd := c14) rfl [] 400 0 _ _ _ _ k
-- 15 SyntaxRules.found(II)I
set_option maxRecDepth 100000 in
set_option maxHeartbeats 4000000 in
theorem k15_0 (p1 : Int) (p2 : Int) (h : zH) (Q : Option zV → zH → Prop) (k :
  zC1 31 [vR 2 100, vI p1] h (fun v3 h3 =>
  (v3 = 0 →
    Q (some (vI ((-1)))) h3) ∧
    (¬ (v3 = 0) →
    ((-1) ≤ p2 →
      zK 15 20 [vR 2 100, vI p1, vI p2, vI 0, vI 0] [] h3 Q) ∧
      (¬ ((-1) ≤ p2) →
      Q (some (vI ((-1)))) h3)))) : zK 15 0 [vR 2 100, vI p1, vI p2, vU, vU] [] h Q :=
  zwpe_W (cd := c15) rfl [20] 400 0 _ _ _ _ k
set_option maxRecDepth 100000 in
set_option maxHeartbeats 4000000 in
theorem k15_20 (l1 : Int) (l2 : Int) (l3 : Int) (l4 : Int) (h : zH) (Q : Option zV → zH → Prop) (k :
  (zty 102 (gR h 2 1) h) ∧ ((gI h (gR h 2 1) 14) ≤ l4 →
    (¬ l2 = (-1) →
      Q (some (vI ((-1)))) h) ∧
      (¬ (¬ l2 = (-1)) →
      Q (some (vI l3)) h)) ∧
    (¬ ((gI h (gR h 2 1) 14) ≤ l4) →
    (zty 102 (gR h 2 1) h) ∧ (0 ≤ (l1 : Int)) ∧ ((l1 : Int) < 8) ∧ (zty 103 (gR h 53 l1) h) ∧ zC1 91 [vR 56 105, vR (gR h 2 1) 102, vR (gR h 53 l1) 103, vI l4] h (fun v4 h4 =>
    (v4 = 0 →
      (inR (l4 + 1)) ∧ zK 15 20 [vR 2 100, vI l1, vI l2, vI l3, vI (l4 + 1)] [] h4 Q) ∧
      (¬ (v4 = 0) →
      (¬ l3 = l2 →
        (inR (l3 + 1)) ∧ (inR (l4 + 1)) ∧ zK 15 20 [vR 2 100, vI l1, vI l2, vI (l3 + 1), vI (l4 + 1)] [] h4 Q) ∧
        (¬ (¬ l3 = l2) →
        Q (some (vI l4)) h4))))) : zK 15 20 [vR 2 100, vI l1, vI l2, vI l3, vI l4] [] h Q :=
  zwpe_W (cd := c15) rfl [20] 400 20 _ _ _ _ k
-- 16 SyntaxRules.rulesOf(I)I
set_option maxRecDepth 100000 in
set_option maxHeartbeats 4000000 in
theorem k16_0 (p1 : Int) (h : zH) (Q : Option zV → zH → Prop) (k :
  zC1 30 [vR 2 100, vI p1] h (fun v3 h3 =>
  (v3 = 0 →
    Q (some (vI ((-1)))) h3) ∧
    (¬ (v3 = 0) →
    (zty 102 (gR h3 2 1) h3) ∧ zC1 92 [vR 56 105, vR (gR h3 2 1) 102, vR 53 944, vI p1] h3 (fun v4 h4 =>
    Q (some (vI v4)) h4)))) : zK 16 0 [vR 2 100, vI p1] [] h Q :=
  zwpe_W (cd := c16) rfl [] 400 0 _ _ _ _ k
-- 17 SyntaxRules.tests(I)I
set_option maxRecDepth 100000 in
set_option maxHeartbeats 4000000 in
theorem k17_0 (p1 : Int) (h : zH) (Q : Option zV → zH → Prop) (k :
  (p1 = 0 →
    zC1 36 [vR 2 100] h (fun v4 h4 =>
    Q (some (vI v4)) h4)) ∧
    (¬ (p1 = 0) →
    (p1 = 1 →
    zC1 108 [vR 63 106, vR 53 944] h (fun v3 h3 =>
    Q (some (vI v3)) h3)) ∧
    (¬ (p1 = 1) →
    Q (some (vI ((-1)))) h))) : zK 17 0 [vR 2 100, vI p1] [] h Q :=
  zwpe_W (cd := c17) rfl [] 400 0 _ _ _ _ k
-- 18 SyntaxRules.asked(I)I
set_option maxRecDepth 100000 in
set_option maxHeartbeats 4000000 in
theorem k18_0 (p1 : Int) (h : zH) (Q : Option zV → zH → Prop) (k :
  zC1 30 [vR 2 100, vI p1] h (fun v4 h4 =>
  (¬ v4 = 0 →
    zC1 108 [vR 63 106, vR 53 944] h4 (fun v5 h5 =>
    (zty 102 (gR h5 2 1) h5) ∧ zC1 113 [vR 63 106, vR (gR h5 2 1) 102, vI p1, vR 56 105] h5 (fun v6 h6 =>
    Q (some (vI v6)) h6))) ∧
    (¬ (¬ v4 = 0) →
    Q (some (vI ((-1)))) h4))) : zK 18 0 [vR 2 100, vI p1] [] h Q :=
  zwpe_W (cd := c18) rfl [] 400 0 _ _ _ _ k
-- 19 SyntaxRules.edit(III)I
set_option maxRecDepth 100000 in
set_option maxHeartbeats 4000000 in
theorem k19_0 (p1 : Int) (p2 : Int) (p3 : Int) (h : zH) (Q : Option zV → zH → Prop) (k :
  zC1 32 [vI p1] h (fun v6 h6 =>
  (¬ v6 = 0 →
    (zty 102 (gR h6 2 1) h6) ∧ zC0 118 [vR 77 107, vR (gR h6 2 1) 102, vR 53 944, vI p1, vR 56 105] h6 (fun h7 =>
    (¬ p2 = (-1) →
      zK 19 46 [vR 2 100, vI p1, vI p2, vI p3] [] h7 Q) ∧
      (¬ (¬ p2 = (-1)) →
      (¬ p3 = 0 →
        zK 19 46 [vR 2 100, vI p1, vI p2, vI p3] [] h7 Q) ∧
        (¬ (¬ p3 = 0) →
        Q (some (vI (gI h7 77 0))) h7)))) ∧
    (¬ (¬ v6 = 0) →
    Q (some (vI ((-1)))) h6))) : zK 19 0 [vR 2 100, vI p1, vI p2, vI p3] [] h Q :=
  zwpe_W (cd := c19) rfl [46] 400 0 _ _ _ _ k
set_option maxRecDepth 100000 in
set_option maxHeartbeats 4000000 in
theorem k19_46 (u1 : zV) (l2 : Int) (l3 : Int) (h : zH) (Q : Option zV → zH → Prop) (k :
  (l2 < 0 →
    Q (some (vI ((-1)))) h) ∧
    (¬ (l2 < 0) →
    (l2 < (gI h 77 0) →
      (l3 = (0 : Int) →
        zC1 121 [vR 77 107, vI l2] h (fun v10 h10 =>
        Q (some (vI v10)) h10)) ∧
        (¬ (l3 = (0 : Int)) →
        (l3 = ((0 : Int) + 1) →
        (0 ≤ (l2 : Int)) ∧ ((l2 : Int) < 60) ∧ Q (some (vI (gI h 78 l2))) h) ∧
        (¬ (l3 = ((0 : Int) + 1)) →
        (l3 = ((0 : Int) + 1 + 1) →
        zCr 38 108 [vR 2 100, vI l2, vI ((-1))] h (fun v9 h9 =>
        Q (some (vI (gI h9 v9 0))) h9)) ∧
        (¬ (l3 = ((0 : Int) + 1 + 1)) →
        (l3 = ((0 : Int) + 1 + 1 + 1) →
        zCr 38 108 [vR 2 100, vI l2, vI ((-1))] h (fun v8 h8 =>
        Q (some (vI (gI h8 v8 1))) h8)) ∧
        (¬ (l3 = ((0 : Int) + 1 + 1 + 1)) →
        Q (some (vI ((-1)))) h))))) ∧
      (¬ (l2 < (gI h 77 0)) →
      Q (some (vI ((-1)))) h))) : zK 19 46 [vR 2 100, u1, vI l2, vI l3] [] h Q :=
  zwpe_W (cd := c19) rfl [46] 400 46 _ _ _ _ k
-- 20 SyntaxRules.comes(III)I
set_option maxRecDepth 100000 in
set_option maxHeartbeats 4000000 in
theorem k20_0 (p1 : Int) (p2 : Int) (p3 : Int) (h : zH) (Q : Option zV → zH → Prop) (k :
  zC1 32 [vI p1] h (fun v4 h4 =>
  (v4 = 0 →
    Q (some (vI ((-1)))) h4) ∧
    (¬ (v4 = 0) →
    (0 ≤ p3 →
      (zty 102 (gR h4 2 1) h4) ∧ zC0 118 [vR 77 107, vR (gR h4 2 1) 102, vR 53 944, vI p1, vR 56 105] h4 (fun h5 =>
      (p2 < 0 →
        Q (some (vI ((-1)))) h5) ∧
        (¬ (p2 < 0) →
        (p2 < (gI h5 77 0) →
          zCr 38 108 [vR 2 100, vI p2, vI p3] h5 (fun v6 h6 =>
          Q (some (vI (gI h6 v6 2))) h6)) ∧
          (¬ (p2 < (gI h5 77 0)) →
          Q (some (vI ((-1)))) h5)))) ∧
      (¬ (0 ≤ p3) →
      Q (some (vI ((-1)))) h4)))) : zK 20 0 [vR 2 100, vI p1, vI p2, vI p3] [] h Q :=
  zwpe_W (cd := c20) rfl [] 400 0 _ _ _ _ k
-- 21 SyntaxRules.conflicts(II)I
set_option maxRecDepth 100000 in
set_option maxHeartbeats 4000000 in
theorem k21_0 (p1 : Int) (p2 : Int) (h : zH) (Q : Option zV → zH → Prop) (k :
  zC1 32 [vI p1] h (fun v4 h4 =>
  (v4 = 0 →
    Q (some (vI ((-1)))) h4) ∧
    (¬ (v4 = 0) →
    (p2 < 0 →
      Q (some (vI ((-1)))) h4) ∧
      (¬ (p2 < 0) →
      (p2 ≤ 2 →
        (zty 102 (gR h4 2 1) h4) ∧ zC0 118 [vR 77 107, vR (gR h4 2 1) 102, vR 53 944, vI p1, vR 56 105] h4 (fun h5 =>
        zK 21 52 [vR 2 100, vI p1, vI p2, vI 0, vI 0, vI 0, vI 0, vI 0, vU] [] h5 Q)) ∧
        (¬ (p2 ≤ 2) →
        Q (some (vI ((-1)))) h4))))) : zK 21 0 [vR 2 100, vI p1, vI p2, vU, vU, vU, vU, vU, vU] [] h Q :=
  zwpe_W (cd := c21) rfl [52] 400 0 _ _ _ _ k
set_option maxRecDepth 100000 in
set_option maxHeartbeats 4000000 in
theorem k21_52 (u1 : zV) (l2 : Int) (l3 : Int) (l4 : Int) (l5 : Int) (l6 : Int) (l7 : Int) (u8 : zV) (h : zH) (Q : Option zV → zH → Prop) (k :
  (zty 102 (gR h 2 1) h) ∧ ((gI h (gR h 2 1) 14) ≤ l7 →
    (¬ l2 = 0 →
      (¬ l2 = 1 →
        Q (some (vI (iAnd l5 (iXor l6 (-1))))) h) ∧
        (¬ (¬ l2 = 1) →
        Q (some (vI l4)) h)) ∧
      (¬ (¬ l2 = 0) →
      Q (some (vI l3)) h)) ∧
    (¬ ((gI h (gR h 2 1) 14) ≤ l7) →
    (0 ≤ (l7 : Int)) ∧ ((l7 : Int) < 60) ∧ (0 ≤ (l7 : Int)) ∧ ((l7 : Int) < 60) ∧ ((gI h 79 l7) = (-1) →
      ((gI h 80 l7) = 0 →
        (inR (l7 + 1)) ∧ zK 21 52 [vR 2 100, u1, vI l2, vI l3, vI l4, vI (iOr l5 (gI h 80 l7)), vI l6, vI (l7 + 1), vI (gI h 80 l7)] [] h Q) ∧
        (¬ ((gI h 80 l7) = 0) →
        (inR (l3 + 1)) ∧ (inR (l7 + 1)) ∧ zK 21 52 [vR 2 100, u1, vI l2, vI (l3 + 1), vI l4, vI (iOr l5 (gI h 80 l7)), vI l6, vI (l7 + 1), vI (gI h 80 l7)] [] h Q)) ∧
      (¬ ((gI h 79 l7) = (-1)) →
      (0 ≤ (l7 : Int)) ∧ ((l7 : Int) < 60) ∧ zC1 258 [vI (gI h 80 l7)] h (fun v6 h6 =>
      (v6 ≤ 1 →
        (inR (l4 + 0)) ∧ (inR (l7 + 1)) ∧ zK 21 52 [vR 2 100, u1, vI l2, vI l3, vI (l4 + 0), vI (iOr l5 (gI h 80 l7)), vI (iOr l6 (iShl 1 (gI h 79 l7))), vI (l7 + 1), vI (gI h 80 l7)] [] h6 Q) ∧
        (¬ (v6 ≤ 1) →
        (inR (l4 + 1)) ∧ (inR (l7 + 1)) ∧ zK 21 52 [vR 2 100, u1, vI l2, vI l3, vI (l4 + 1), vI (iOr l5 (gI h 80 l7)), vI (iOr l6 (iShl 1 (gI h 79 l7))), vI (l7 + 1), vI (gI h 80 l7)] [] h6 Q))))) : zK 21 52 [vR 2 100, u1, vI l2, vI l3, vI l4, vI l5, vI l6, vI l7, u8] [] h Q :=
  zwpe_W (cd := c21) rfl [52] 400 52 _ _ _ _ k
-- 22 SyntaxRules.would(II)I
set_option maxRecDepth 100000 in
set_option maxHeartbeats 4000000 in
theorem k22_0 (p1 : Int) (p2 : Int) (h : zH) (Q : Option zV → zH → Prop) (k :
  zC1 32 [vI p1] h (fun v3 h3 =>
  (v3 = 0 →
    Q (some (vI ((-1)))) h3) ∧
    (¬ (v3 = 0) →
    (p2 < 0 →
      Q (some (vI ((-1)))) h3) ∧
      (¬ (p2 < 0) →
      (p2 ≤ 2 →
        (zty 102 (gR h3 2 1) h3) ∧ (zty 102 (gR h3 2 2) h3) ∧ zC1 40 [vR 2 100, vR (gR h3 2 1) 102, vR (gR h3 2 2) 102, vI p1] h3 (fun v4 h4 =>
        (¬ v4 = (-3) →
          (¬ v4 = 0 →
            (zty 102 (gR h4 2 2) h4) ∧ zK 22 56 [vR 2 100, vI p1, vI p2, vI v4, vU] [vR (gR h4 2 2) 102] h4 Q) ∧
            (¬ (¬ v4 = 0) →
            (zty 102 (gR h4 2 1) h4) ∧ zK 22 56 [vR 2 100, vI p1, vI p2, vI v4, vU] [vR (gR h4 2 1) 102] h4 Q)) ∧
          (¬ (¬ v4 = (-3)) →
          Q (some (vI ((-3)))) h4))) ∧
        (¬ (p2 ≤ 2) →
        Q (some (vI ((-1)))) h3))))) : zK 22 0 [vR 2 100, vI p1, vI p2, vU, vU] [] h Q :=
  zwpe_W (cd := c22) rfl [56] 400 0 _ _ _ _ k
set_option maxRecDepth 100000 in
set_option maxHeartbeats 4000000 in
theorem k22_56 (u0 : zV) (u1 : zV) (l2 : Int) (u3 : zV) (u4 : zV) (b0 : Nat) (h : zH) (Q : Option zV → zH → Prop) (k :
  (¬ l2 = 0 →
    (¬ l2 = 1 →
      Q (some (vI (gI h b0 15))) h) ∧
      (¬ (¬ l2 = 1) →
      Q (some (vI (gI h b0 14))) h)) ∧
    (¬ (¬ l2 = 0) →
    Q (some (vI (gI h (b0 + 1) 1))) h)) : zK 22 56 [u0, u1, vI l2, u3, u4] [vR b0 102] h Q :=
  zwpe_W (cd := c22) rfl [56] 400 56 _ _ _ _ k
-- 23 SyntaxRules.apply(I)I
set_option maxRecDepth 100000 in
set_option maxHeartbeats 4000000 in
theorem k23_0 (p1 : Int) (h : zH) (Q : Option zV → zH → Prop) (k :
  zC1 32 [vI p1] h (fun v5 h5 =>
  (¬ v5 = 0 →
    (zty 102 (gR h5 2 1) h5) ∧ (zty 102 (gR h5 2 2) h5) ∧ zC1 40 [vR 2 100, vR (gR h5 2 1) 102, vR (gR h5 2 2) 102, vI p1] h5 (fun v6 h6 =>
    (v6 ≤ 0 →
      Q (some (vI v6)) h6) ∧
      (¬ (v6 ≤ 0) →
      (zty 102 (gR h6 2 1) h6) ∧ zC0 135 [vR 87 109, vR (gR h6 2 1 + 1) 101] h6 (fun h7 =>
      zC0 37 [vR 2 100] h7 (fun h8 =>
      Q (some (vI v6)) h8))))) ∧
    (¬ (¬ v5 = 0) →
    Q (some (vI ((-1)))) h5))) : zK 23 0 [vR 2 100, vI p1, vU] [] h Q :=
  zwpe_W (cd := c23) rfl [] 400 0 _ _ _ _ k
-- 24 SyntaxRules.rounds(II)I
set_option maxRecDepth 100000 in
set_option maxHeartbeats 4000000 in
theorem k24_0 (p1 : Int) (p2 : Int) (h : zH) (Q : Option zV → zH → Prop) (k :
  zC1 32 [vI p1] h (fun v6 h6 =>
  (v6 = 0 →
    Q (some (vI ((-1)))) h6) ∧
    (¬ (v6 = 0) →
    (p2 < 1 →
      Q (some (vI ((-1)))) h6) ∧
      (¬ (p2 < 1) →
      (p2 ≤ 6 →
        zK 24 22 [vR 2 100, vI p1, vI p2, vI 0] [] h6 Q) ∧
        (¬ (p2 ≤ 6) →
        Q (some (vI ((-1)))) h6))))) : zK 24 0 [vR 2 100, vI p1, vI p2, vU] [] h Q :=
  zwpe_W (cd := c24) rfl [22] 400 0 _ _ _ _ k
set_option maxRecDepth 100000 in
set_option maxHeartbeats 4000000 in
theorem k24_22 (l1 : Int) (l2 : Int) (l3 : Int) (h : zH) (Q : Option zV → zH → Prop) (k :
  (l2 ≤ l3 →
    Q (some (vI l2)) h) ∧
    (¬ (l2 ≤ l3) →
    (zty 102 (gR h 2 1) h) ∧ (zty 102 (gR h 2 2) h) ∧ zC1 40 [vR 2 100, vR (gR h 2 1) 102, vR (gR h 2 2) 102, vI l1] h (fun v7 h7 =>
    (0 < v7 →
      (¬ l3 = 0 →
        zC0 37 [vR 2 100] h7 (fun h8 =>
        (inR (l3 + 1)) ∧ zK 24 22 [vR 2 100, vI l1, vI l2, vI (l3 + 1)] [] h8 Q)) ∧
        (¬ (¬ l3 = 0) →
        (zty 102 (gR h7 2 1) h7) ∧ zC0 135 [vR 87 109, vR (gR h7 2 1 + 1) 101] h7 (fun h9 =>
        zC0 37 [vR 2 100] h9 (fun h10 =>
        (inR (l3 + 1)) ∧ zK 24 22 [vR 2 100, vI l1, vI l2, vI (l3 + 1)] [] h10 Q)))) ∧
      (¬ (0 < v7) →
      Q (some (vI l3)) h7)))) : zK 24 22 [vR 2 100, vI l1, vI l2, vI l3] [] h Q :=
  zwpe_W (cd := c24) rfl [22] 400 22 _ _ _ _ k
-- 25 SyntaxRules.after(III)I
set_option maxRecDepth 100000 in
set_option maxHeartbeats 4000000 in
theorem k25_0 (p1 : Int) (p2 : Int) (p3 : Int) (h : zH) (Q : Option zV → zH → Prop) (k :
  zC1 32 [vI p1] h (fun v6 h6 =>
  (v6 = 0 →
    Q (some (vI ((-1)))) h6) ∧
    (¬ (v6 = 0) →
    (p2 < 1 →
      Q (some (vI ((-1)))) h6) ∧
      (¬ (p2 < 1) →
      (6 < p2 →
        Q (some (vI ((-1)))) h6) ∧
        (¬ (6 < p2) →
        (p3 < 0 →
          Q (some (vI ((-1)))) h6) ∧
          (¬ (p3 < 0) →
          (p3 ≤ 2 →
            (zty 102 (gR h6 2 1) h6) ∧ zK 25 41 [vR 2 100, vI p1, vI p2, vI p3, vR (gR h6 2 1) 102, vI 0, vI 0, vU] [] h6 Q) ∧
            (¬ (p3 ≤ 2) →
            Q (some (vI ((-1)))) h6))))))) : zK 25 0 [vR 2 100, vI p1, vI p2, vI p3, vU, vU, vU, vU] [] h Q :=
  zwpe_W (cd := c25) rfl [41, 67, 135] 400 0 _ _ _ _ k
set_option maxRecDepth 100000 in
set_option maxHeartbeats 4000000 in
theorem k25_41 (l1 : Int) (l2 : Int) (l3 : Int) (a4 : Nat) (l5 : Int) (l6 : Int) (u7 : zV) (h : zH) (Q : Option zV → zH → Prop) (k :
  (l2 ≤ l6 →
    zK 25 135 [vR 2 100, vI l1, vI l2, vI l3, vR a4 102, vI l5, vI l6, u7] [] h Q) ∧
    (¬ (l2 ≤ l6) →
    (zty 102 (gR h 2 2) h) ∧ (¬ (a4 : Nat) = (gR h 2 2) →
      (zty 102 (gR h 2 2) h) ∧ zK 25 67 [vR 2 100, vI l1, vI l2, vI l3, vR a4 102, vI l5, vI l6, u7] [vR (gR h 2 2) 102] h Q) ∧
      (¬ (¬ (a4 : Nat) = (gR h 2 2)) →
      zK 25 67 [vR 2 100, vI l1, vI l2, vI l3, vR a4 102, vI l5, vI l6, u7] [vR 37 102] h Q))) : zK 25 41 [vR 2 100, vI l1, vI l2, vI l3, vR a4 102, vI l5, vI l6, u7] [] h Q :=
  zwpe_W (cd := c25) rfl [41, 67, 135] 400 41 _ _ _ _ k
set_option maxRecDepth 100000 in
set_option maxHeartbeats 4000000 in
theorem k25_67 (l1 : Int) (l2 : Int) (l3 : Int) (a4 : Nat) (l5 : Int) (l6 : Int) (u7 : zV) (b0 : Nat) (h : zH) (Q : Option zV → zH → Prop) (k :
  zC1 40 [vR 2 100, vR a4 102, vR b0 102, vI l1] h (fun v7 h7 =>
  (0 < v7 →
    (0 ≤ (l6 : Int)) ∧ ((l6 : Int) < 6) ∧ (zty 101 (gR h7 106 l6) h7) ∧ zC0 45 [vR (gR h7 106 l6) 101, vR (a4 + 1) 101] h7 (fun h8 =>
    (¬ l5 = 0 →
      (inR (l6 + 1)) ∧ zK 25 41 [vR 2 100, vI l1, vI l2, vI l3, vR b0 102, vI 1, vI (l6 + 1), vR b0 102] [] h8 Q) ∧
      (¬ (¬ l5 = 0) →
      zC1 41 [vR 2 100, vR (b0 + 1) 101, vI l6] h8 (fun v9 h9 =>
      (v9 = 0 →
        (inR (l6 + 1)) ∧ zK 25 41 [vR 2 100, vI l1, vI l2, vI l3, vR b0 102, vI 0, vI (l6 + 1), vR b0 102] [] h9 Q) ∧
        (¬ (v9 = 0) →
        (inR (l6 + 1)) ∧ zK 25 41 [vR 2 100, vI l1, vI l2, vI l3, vR b0 102, vI 1, vI (l6 + 1), vR b0 102] [] h9 Q))))) ∧
    (¬ (0 < v7) →
    zK 25 135 [vR 2 100, vI l1, vI l2, vI l3, vR a4 102, vI l5, vI l6, vR b0 102] [] h7 Q))) : zK 25 67 [vR 2 100, vI l1, vI l2, vI l3, vR a4 102, vI l5, vI l6, u7] [vR b0 102] h Q :=
  zwpe_W (cd := c25) rfl [41, 67, 135] 400 67 _ _ _ _ k
set_option maxRecDepth 100000 in
set_option maxHeartbeats 4000000 in
theorem k25_135 (l1 : Int) (u2 : zV) (l3 : Int) (a4 : Nat) (l5 : Int) (u6 : zV) (u7 : zV) (h : zH) (Q : Option zV → zH → Prop) (k :
  (¬ l3 = 0 →
    (¬ l3 = 2 →
      zC0 118 [vR 77 107, vR a4 102, vR 53 944, vI l1, vR 56 105] h (fun h10 =>
      Q (some (vI (gI h10 77 0))) h10)) ∧
      (¬ (¬ l3 = 2) →
      (l5 = 0 →
        Q (some (vI 0)) h) ∧
        (¬ (l5 = 0) →
        Q (some (vI 1)) h))) ∧
    (¬ (¬ l3 = 0) →
    Q (some (vI (gI h (a4 + 1) 1))) h)) : zK 25 135 [vR 2 100, vI l1, u2, vI l3, vR a4 102, vI l5, u6, u7] [] h Q :=
  zwpe_W (cd := c25) rfl [41, 67, 135] 400 135 _ _ _ _ k
-- 26 SyntaxRules.undo()I
set_option maxRecDepth 100000 in
set_option maxHeartbeats 4000000 in
theorem k26_0 (h : zH) (Q : Option zV → zH → Prop) (k :
  zCr 136 0 [vR 87 109] h (fun v3 h3 =>
  (¬ (v3 : Nat) = 0 →
    (zty 102 (gR h3 2 1) h3) ∧ (zty 101 v3 h3) ∧ zC1 50 [vR (gR h3 2 1) 102, vR v3 101] h3 (fun v4 h4 =>
    Q (some (vI (gI h4 87 0))) h4)) ∧
    (¬ (¬ (v3 : Nat) = 0) →
    Q (some (vI ((-3)))) h3))) : zK 26 0 [vR 2 100, vU] [] h Q :=
  zwpe_W (cd := c26) rfl [] 400 0 _ _ _ _ k
-- 27 SyntaxRules.keep(I)Z
set_option maxRecDepth 100000 in
set_option maxHeartbeats 4000000 in
theorem k27_0 (p1 : Int) (h : zH) (Q : Option zV → zH → Prop) (k :
  (p1 < 0 →
    ((0 : Int) = 0 ∨ (0 : Int) = 1) ∧ Q (some (vI 0)) h) ∧
    (¬ (p1 < 0) →
    (p1 < 2 →
      (0 ≤ (p1 : Int)) ∧ ((p1 : Int) < 2) ∧ (zty 110 (gR h 105 p1) h) ∧ (zty 102 (gR h 2 1) h) ∧ zC0 45 [vR (gR h 105 p1 + 1) 101, vR (gR h 2 1 + 1) 101] h (fun h4 =>
      (0 ≤ (p1 : Int)) ∧ ((p1 : Int) < 2) ∧ (zty 110 (gR h4 105 p1) h4) ∧ zC0 42 [vR 53 944, vR (gR h4 105 p1 + 3) 944] h4 (fun h5 =>
      (0 ≤ (p1 : Int)) ∧ ((p1 : Int) < 2) ∧ (zty 110 (gR h5 105 p1) h5) ∧ ((1 : Int) = 0 ∨ (1 : Int) = 1) ∧ ∀ h6 : zH, h6 = sI h5 (gR h5 105 p1) 0 1 →
      ((1 : Int) = 0 ∨ (1 : Int) = 1) ∧ Q (some (vI 1)) h6))) ∧
      (¬ (p1 < 2) →
      ((0 : Int) = 0 ∨ (0 : Int) = 1) ∧ Q (some (vI 0)) h))) : zK 27 0 [vR 2 100, vI p1] [] h Q :=
  zwpe_W (cd := c27) rfl [] 400 0 _ _ _ _ k
-- 28 SyntaxRules.again(I)Z
set_option maxRecDepth 100000 in
set_option maxHeartbeats 4000000 in
theorem k28_0 (p1 : Int) (h : zH) (Q : Option zV → zH → Prop) (k :
  (p1 < 0 →
    ((0 : Int) = 0 ∨ (0 : Int) = 1) ∧ Q (some (vI 0)) h) ∧
    (¬ (p1 < 0) →
    (2 ≤ p1 →
      ((0 : Int) = 0 ∨ (0 : Int) = 1) ∧ Q (some (vI 0)) h) ∧
      (¬ (2 ≤ p1) →
      (0 ≤ (p1 : Int)) ∧ ((p1 : Int) < 2) ∧ (zty 110 (gR h 105 p1) h) ∧ (¬ (gI h (gR h 105 p1) 0) = 0 →
        (zty 102 (gR h 2 1) h) ∧ (0 ≤ (p1 : Int)) ∧ ((p1 : Int) < 2) ∧ (zty 110 (gR h 105 p1) h) ∧ zC1 50 [vR (gR h 2 1) 102, vR (gR h 105 p1 + 1) 101] h (fun v4 h4 =>
        (0 ≤ (p1 : Int)) ∧ ((p1 : Int) < 2) ∧ (zty 110 (gR h4 105 p1) h4) ∧ zC0 42 [vR (gR h4 105 p1 + 3) 944, vR 53 944] h4 (fun h5 =>
        zC0 137 [vR 87 109] h5 (fun h6 =>
        ((1 : Int) = 0 ∨ (1 : Int) = 1) ∧ Q (some (vI 1)) h6)))) ∧
        (¬ (¬ (gI h (gR h 105 p1) 0) = 0) →
        ((0 : Int) = 0 ∨ (0 : Int) = 1) ∧ Q (some (vI 0)) h)))) : zK 28 0 [vR 2 100, vI p1] [] h Q :=
  zwpe_W (cd := c28) rfl [] 400 0 _ _ _ _ k
-- 29 SyntaxRules.count(I)I
set_option maxRecDepth 100000 in
set_option maxHeartbeats 4000000 in
theorem k29_0 (p1 : Int) (h : zH) (Q : Option zV → zH → Prop) (k :
  (p1 = (0 : Int) →
    (zty 102 (gR h 2 1) h) ∧ Q (some (vI (gI h (gR h 2 1) 14))) h) ∧
    (¬ (p1 = (0 : Int)) →
    (p1 = ((0 : Int) + 1) →
    (zty 102 (gR h 2 1) h) ∧ Q (some (vI (gI h (gR h 2 1 + 1) 1))) h) ∧
    (¬ (p1 = ((0 : Int) + 1)) →
    (p1 = ((0 : Int) + 1 + 1) →
    (zty 102 (gR h 2 1) h) ∧ Q (some (vI (gI h (gR h 2 1) 15))) h) ∧
    (¬ (p1 = ((0 : Int) + 1 + 1)) →
    (p1 = ((0 : Int) + 1 + 1 + 1) →
    zC1 35 [vR 2 100] h (fun v4 h4 =>
    Q (some (vI v4)) h4)) ∧
    (¬ (p1 = ((0 : Int) + 1 + 1 + 1)) →
    (p1 = ((0 : Int) + 1 + 1 + 1 + 1) →
    Q (some (vI (gI h 3 1))) h) ∧
    (¬ (p1 = ((0 : Int) + 1 + 1 + 1 + 1)) →
    (p1 = ((0 : Int) + 1 + 1 + 1 + 1 + 1) →
    Q (some (vI (gI h 87 0))) h) ∧
    (¬ (p1 = ((0 : Int) + 1 + 1 + 1 + 1 + 1)) →
    (p1 = ((0 : Int) + 1 + 1 + 1 + 1 + 1 + 1) →
    (zty 102 (gR h 2 1) h) ∧ zC1 65 [vR (gR h 2 1) 102] h (fun v3 h3 =>
    Q (some (vI v3)) h3)) ∧
    (¬ (p1 = ((0 : Int) + 1 + 1 + 1 + 1 + 1 + 1)) →
    Q (some (vI ((-1)))) h)))))))) : zK 29 0 [vR 2 100, vI p1] [] h Q :=
  zwpe_W (cd := c29) rfl [] 400 0 _ _ _ _ k
-- 30 SyntaxRules.isNode(I)Z
set_option maxRecDepth 100000 in
set_option maxHeartbeats 4000000 in
theorem k30_0 (p1 : Int) (h : zH) (Q : Option zV → zH → Prop) (k :
  (p1 < 0 →
    ((0 : Int) = 0 ∨ (0 : Int) = 1) ∧ Q (some (vI 0)) h) ∧
    (¬ (p1 < 0) →
    (zty 102 (gR h 2 1) h) ∧ ((gI h (gR h 2 1) 14) ≤ p1 →
      ((0 : Int) = 0 ∨ (0 : Int) = 1) ∧ Q (some (vI 0)) h) ∧
      (¬ ((gI h (gR h 2 1) 14) ≤ p1) →
      ((1 : Int) = 0 ∨ (1 : Int) = 1) ∧ Q (some (vI 1)) h))) : zK 30 0 [vR 2 100, vI p1] [] h Q :=
  zwpe_W (cd := c30) rfl [] 400 0 _ _ _ _ k
-- 31 SyntaxRules.isRule(I)Z
set_option maxRecDepth 100000 in
set_option maxHeartbeats 4000000 in
theorem k31_0 (p1 : Int) (h : zH) (Q : Option zV → zH → Prop) (k :
  (p1 < 0 →
    ((0 : Int) = 0 ∨ (0 : Int) = 1) ∧ Q (some (vI 0)) h) ∧
    (¬ (p1 < 0) →
    (8 ≤ p1 →
      ((0 : Int) = 0 ∨ (0 : Int) = 1) ∧ Q (some (vI 0)) h) ∧
      (¬ (8 ≤ p1) →
      (0 ≤ (p1 : Int)) ∧ ((p1 : Int) < 8) ∧ (((gR h 53 p1) : Nat) = 0 →
        ((0 : Int) = 0 ∨ (0 : Int) = 1) ∧ Q (some (vI 0)) h) ∧
        (¬ (((gR h 53 p1) : Nat) = 0) →
        ((1 : Int) = 0 ∨ (1 : Int) = 1) ∧ Q (some (vI 1)) h)))) : zK 31 0 [vR 2 100, vI p1] [] h Q :=
  zwpe_W (cd := c31) rfl [] 400 0 _ _ _ _ k
-- 32 SyntaxRules.isWay(I)Z
set_option maxRecDepth 100000 in
set_option maxHeartbeats 4000000 in
theorem k32_0 (p0 : Int) (h : zH) (Q : Option zV → zH → Prop) (k :
  (p0 = 0 →
    ((1 : Int) = 0 ∨ (1 : Int) = 1) ∧ Q (some (vI 1)) h) ∧
    (¬ (p0 = 0) →
    (¬ p0 = 1 →
      ((0 : Int) = 0 ∨ (0 : Int) = 1) ∧ Q (some (vI 0)) h) ∧
      (¬ (¬ p0 = 1) →
      ((1 : Int) = 0 ∨ (1 : Int) = 1) ∧ Q (some (vI 1)) h))) : zK 32 0 [vI p0] [] h Q :=
  zwpe_W (cd := c32) rfl [] 400 0 _ _ _ _ k
-- 33 SyntaxRules.isLetter(I)Z
set_option maxRecDepth 100000 in
set_option maxHeartbeats 4000000 in
theorem k33_0 (p0 : Int) (h : zH) (Q : Option zV → zH → Prop) (k :
  (p0 < 97 →
    ((0 : Int) = 0 ∨ (0 : Int) = 1) ∧ Q (some (vI 0)) h) ∧
    (¬ (p0 < 97) →
    (122 < p0 →
      ((0 : Int) = 0 ∨ (0 : Int) = 1) ∧ Q (some (vI 0)) h) ∧
      (¬ (122 < p0) →
      ((1 : Int) = 0 ∨ (1 : Int) = 1) ∧ Q (some (vI 1)) h))) : zK 33 0 [vI p0] [] h Q :=
  zwpe_W (cd := c33) rfl [] 400 0 _ _ _ _ k
-- 34 SyntaxRules.isDigit(I)Z
set_option maxRecDepth 100000 in
set_option maxHeartbeats 4000000 in
theorem k34_0 (p0 : Int) (h : zH) (Q : Option zV → zH → Prop) (k :
  (p0 < 48 →
    ((0 : Int) = 0 ∨ (0 : Int) = 1) ∧ Q (some (vI 0)) h) ∧
    (¬ (p0 < 48) →
    (57 < p0 →
      ((0 : Int) = 0 ∨ (0 : Int) = 1) ∧ Q (some (vI 0)) h) ∧
      (¬ (57 < p0) →
      ((1 : Int) = 0 ∨ (1 : Int) = 1) ∧ Q (some (vI 1)) h))) : zK 34 0 [vI p0] [] h Q :=
  zwpe_W (cd := c34) rfl [] 400 0 _ _ _ _ k
-- 35 SyntaxRules.ruleCount()I
set_option maxRecDepth 100000 in
set_option maxHeartbeats 4000000 in
theorem k35_0 (h : zH) (Q : Option zV → zH → Prop) (k :
  zK 35 4 [vR 2 100, vI 0, vI 0] [] h Q) : zK 35 0 [vR 2 100, vU, vU] [] h Q :=
  zwpe_W (cd := c35) rfl [4] 400 0 _ _ _ _ k
set_option maxRecDepth 100000 in
set_option maxHeartbeats 4000000 in
theorem k35_4 (l1 : Int) (l2 : Int) (h : zH) (Q : Option zV → zH → Prop) (k :
  (8 ≤ l2 →
    Q (some (vI l1)) h) ∧
    (¬ (8 ≤ l2) →
    (0 ≤ (l2 : Int)) ∧ ((l2 : Int) < 8) ∧ (¬ ((gR h 53 l2) : Nat) = 0 →
      (inR (l1 + 1)) ∧ (inR (l2 + 1)) ∧ zK 35 4 [vR 2 100, vI (l1 + 1), vI (l2 + 1)] [] h Q) ∧
      (¬ (¬ ((gR h 53 l2) : Nat) = 0) →
      (inR (l1 + 0)) ∧ (inR (l2 + 1)) ∧ zK 35 4 [vR 2 100, vI (l1 + 0), vI (l2 + 1)] [] h Q))) : zK 35 4 [vR 2 100, vI l1, vI l2] [] h Q :=
  zwpe_W (cd := c35) rfl [4] 400 4 _ _ _ _ k
-- 36 SyntaxRules.testsOfAll()I
set_option maxRecDepth 100000 in
set_option maxHeartbeats 4000000 in
theorem k36_0 (h : zH) (Q : Option zV → zH → Prop) (k :
  zK 36 4 [vR 2 100, vI 0, vI 0] [] h Q) : zK 36 0 [vR 2 100, vU, vU] [] h Q :=
  zwpe_W (cd := c36) rfl [4] 400 0 _ _ _ _ k
set_option maxRecDepth 100000 in
set_option maxHeartbeats 4000000 in
theorem k36_4 (l1 : Int) (l2 : Int) (h : zH) (Q : Option zV → zH → Prop) (k :
  (8 ≤ l2 →
    Q (some (vI l1)) h) ∧
    (¬ (8 ≤ l2) →
    (0 ≤ (l2 : Int)) ∧ ((l2 : Int) < 8) ∧ (¬ ((gR h 53 l2) : Nat) = 0 →
      (0 ≤ (l2 : Int)) ∧ ((l2 : Int) < 8) ∧ (zty 103 (gR h 53 l2) h) ∧ zC1 105 [vR 63 106, vR (gR h 53 l2) 103] h (fun v2 h2 =>
      (inR (l1 + v2)) ∧ (inR (l2 + 1)) ∧ zK 36 4 [vR 2 100, vI (l1 + v2), vI (l2 + 1)] [] h2 Q)) ∧
      (¬ (¬ ((gR h 53 l2) : Nat) = 0) →
      (inR (l1 + 0)) ∧ (inR (l2 + 1)) ∧ zK 36 4 [vR 2 100, vI (l1 + 0), vI (l2 + 1)] [] h Q))) : zK 36 4 [vR 2 100, vI l1, vI l2] [] h Q :=
  zwpe_W (cd := c36) rfl [4] 400 4 _ _ _ _ k
-- 37 SyntaxRules.turn()V
set_option maxRecDepth 100000 in
set_option maxHeartbeats 4000000 in
theorem k37_0 (h : zH) (Q : Option zV → zH → Prop) (k :
  (zty 102 (gR h 2 1) h) ∧ (zty 102 (gR h 2 2) h) ∧ ∀ h3 : zH, h3 = sR h 2 1 (gR h 2 2) →
  ∀ h4 : zH, h4 = sR h3 2 2 (gR h 2 1) →
  Q none h4) : zK 37 0 [vR 2 100, vU] [] h Q :=
  zwpe_W (cd := c37) rfl [] 400 0 _ _ _ _ k
-- 38 SyntaxRules.writtenAlone(II)LSyntaxRules$Writer;
set_option maxRecDepth 100000 in
set_option maxHeartbeats 4000000 in
theorem k38_0 (p1 : Int) (p2 : Int) (h : zH) (Q : Option zV → zH → Prop) (k :
  zC0 123 [vR 82 108, vI p2] h (fun h3 =>
  (zty 102 (gR h3 2 1) h3) ∧ zC0 39 [vR 2 100, vR (gR h3 2 1) 102, vI p1] h3 (fun h4 =>
  Q (some (vR 82 108)) h4))) : zK 38 0 [vR 2 100, vI p1, vI p2] [] h Q :=
  zwpe_W (cd := c38) rfl [] 400 0 _ _ _ _ k
-- 39 SyntaxRules.writeEdit(LSyntaxRules$Source;I)V
set_option maxRecDepth 100000 in
set_option maxHeartbeats 4000000 in
theorem k39_0 (p1 : Nat) (p2 : Int) (h : zH) (Q : Option zV → zH → Prop) (k :
  zC1 121 [vR 77 107, vI p2] h (fun v4 h4 =>
  (0 ≤ (v4 : Int)) ∧ ((v4 : Int) < 8) ∧ (((gR h4 53 v4) : Nat) = 0 →
    Q none h4) ∧
    (¬ (((gR h4 53 v4) : Nat) = 0) →
    (0 ≤ (p2 : Int)) ∧ ((p2 : Int) < 60) ∧ (zty 103 (gR h4 53 v4) h4) ∧ zC1 91 [vR 56 105, vR p1 102, vR (gR h4 53 v4) 103, vI (gI h4 78 p2)] h4 (fun v5 h5 =>
    (v5 = 0 →
      Q none h5) ∧
      (¬ (v5 = 0) →
      (0 ≤ (p2 : Int)) ∧ ((p2 : Int) < 60) ∧ (zty 103 (gR h4 53 v4) h5) ∧ zC0 126 [vR 82 108, vR p1 102, vR (gR h4 53 v4) 103, vI (gI h5 78 p2), vR 56 105] h5 (fun h6 =>
      Q none h6)))))) : zK 39 0 [vR 2 100, vR p1 102, vI p2, vU] [] h Q :=
  zwpe_W (cd := c39) rfl [] 400 0 _ _ _ _ k
-- 40 SyntaxRules.step(LSyntaxRules$Source;LSyntaxRules$Source;I)I
set_option maxRecDepth 100000 in
set_option maxHeartbeats 4000000 in
theorem k40_0 (p1 : Nat) (p2 : Nat) (p3 : Int) (h : zH) (Q : Option zV → zH → Prop) (k :
  zC0 118 [vR 77 107, vR p1 102, vR 53 944, vI p3, vR 56 105] h (fun h10 =>
  (¬ (gI h10 77 0) = 0 →
    zC0 123 [vR 82 108, vI ((-1))] h10 (fun h11 =>
    zK 40 43 [vR 2 100, vR p1 102, vR p2 102, vI p3, vI 0, vI 0] [] h11 Q)) ∧
    (¬ (¬ (gI h10 77 0) = 0) →
    Q (some (vI 0)) h10))) : zK 40 0 [vR 2 100, vR p1 102, vR p2 102, vI p3, vU, vU] [] h Q :=
  zwpe_W (cd := c40) rfl [43] 400 0 _ _ _ _ k
set_option maxRecDepth 100000 in
set_option maxHeartbeats 4000000 in
theorem k40_43 (a1 : Nat) (a2 : Nat) (u3 : zV) (l4 : Int) (l5 : Int) (h : zH) (Q : Option zV → zH → Prop) (k :
  ((gI h 77 0) ≤ l5 →
    zC0 131 [vR 82 108, vR (a1 + 1) 101, vI l4, vI (gI h (a1 + 1) 1)] h (fun h12 =>
    (300 < (gI h12 82 0) →
      Q (some (vI ((-3)))) h12) ∧
      (¬ (300 < (gI h12 82 0)) →
      zCr 124 101 [vR 82 108] h12 (fun v13 h13 =>
      zC1 50 [vR a2 102, vR v13 101] h13 (fun v14 h14 =>
      (¬ v14 = 0 →
        Q (some (vI (gI h14 77 0))) h14) ∧
        (¬ (¬ v14 = 0) →
        Q (some (vI ((-3)))) h14)))))) ∧
    (¬ ((gI h 77 0) ≤ l5) →
    (0 ≤ (l5 : Int)) ∧ ((l5 : Int) < 60) ∧ (0 ≤ (gI h 78 l5 : Int)) ∧ ((gI h 78 l5 : Int) < 60) ∧ zC0 131 [vR 82 108, vR (a1 + 1) 101, vI l4, vI (gI h (a1 + 7) (gI h 78 l5))] h (fun h15 =>
    zC0 125 [vR 82 108] h15 (fun h16 =>
    zC0 39 [vR 2 100, vR a1 102, vI l5] h16 (fun h17 =>
    zC0 125 [vR 82 108] h17 (fun h18 =>
    (0 ≤ (l5 : Int)) ∧ ((l5 : Int) < 60) ∧ (0 ≤ (gI h18 78 l5 : Int)) ∧ ((gI h18 78 l5 : Int) < 60) ∧ (inR (l5 + 1)) ∧ zK 40 43 [vR 2 100, vR a1 102, vR a2 102, u3, vI (gI h18 (a1 + 8) (gI h18 78 l5)), vI (l5 + 1)] [] h18 Q)))))) : zK 40 43 [vR 2 100, vR a1 102, vR a2 102, u3, vI l4, vI l5] [] h Q :=
  zwpe_W (cd := c40) rfl [43] 400 43 _ _ _ _ k
-- 41 SyntaxRules.wasSeen(LSyntaxRules$Text;I)Z
set_option maxRecDepth 100000 in
set_option maxHeartbeats 4000000 in
theorem k41_0 (p1 : Nat) (p2 : Int) (h : zH) (Q : Option zV → zH → Prop) (k :
  zK 41 2 [vR 2 100, vR p1 101, vI p2, vI 0] [] h Q) : zK 41 0 [vR 2 100, vR p1 101, vI p2, vU] [] h Q :=
  zwpe_W (cd := c41) rfl [2] 400 0 _ _ _ _ k
set_option maxRecDepth 100000 in
set_option maxHeartbeats 4000000 in
theorem k41_2 (a1 : Nat) (l2 : Int) (l3 : Int) (h : zH) (Q : Option zV → zH → Prop) (k :
  (l2 < l3 →
    ((0 : Int) = 0 ∨ (0 : Int) = 1) ∧ Q (some (vI 0)) h) ∧
    (¬ (l2 < l3) →
    (0 ≤ (l3 : Int)) ∧ ((l3 : Int) < 6) ∧ (zty 101 (gR h 106 l3) h) ∧ zC1 46 [vR (gR h 106 l3) 101, vR a1 101] h (fun v2 h2 =>
    (v2 = 0 →
      (inR (l3 + 1)) ∧ zK 41 2 [vR 2 100, vR a1 101, vI l2, vI (l3 + 1)] [] h2 Q) ∧
      (¬ (v2 = 0) →
      ((1 : Int) = 0 ∨ (1 : Int) = 1) ∧ Q (some (vI 1)) h2)))) : zK 41 2 [vR 2 100, vR a1 101, vI l2, vI l3] [] h Q :=
  zwpe_W (cd := c41) rfl [2] 400 2 _ _ _ _ k
-- 42 SyntaxRules.copyRules([LSyntaxRules$Rule;[LSyntaxRules$Rule;)V
set_option maxRecDepth 100000 in
set_option maxHeartbeats 4000000 in
theorem k42_0 (p0 : Nat) (p1 : Nat) (h : zH) (Q : Option zV → zH → Prop) (k :
  zK 42 2 [vR p0 944, vR p1 944, vI 0] [] h Q) : zK 42 0 [vR p0 944, vR p1 944, vU] [] h Q :=
  zwpe_W (cd := c42) rfl [2] 400 0 _ _ _ _ k
set_option maxRecDepth 100000 in
set_option maxHeartbeats 4000000 in
theorem k42_2 (a0 : Nat) (a1 : Nat) (l2 : Int) (h : zH) (Q : Option zV → zH → Prop) (k :
  (8 ≤ l2 →
    Q none h) ∧
    (¬ (8 ≤ l2) →
    (0 ≤ (l2 : Int)) ∧ ((l2 : Int) < 8) ∧ (0 ≤ (l2 : Int)) ∧ ((l2 : Int) < 8) ∧ ((gR h a0 l2 : Nat) = 0 ∨ zty 103 (gR h a0 l2) h) ∧ ∀ h2 : zH, h2 = sR h a1 l2 (gR h a0 l2) →
    (inR (l2 + 1)) ∧ zK 42 2 [vR a0 944, vR a1 944, vI (l2 + 1)] [] h2 Q)) : zK 42 2 [vR a0 944, vR a1 944, vI l2] [] h Q :=
  zwpe_W (cd := c42) rfl [2] 400 2 _ _ _ _ k
-- 43 SyntaxRules$Text.<init>()V
set_option maxRecDepth 100000 in
set_option maxHeartbeats 4000000 in
theorem k43_0 (a0 : Nat) (h : zH) (Q : Option zV → zH → Prop) (k :
  (0 ≤ (300 : Int) ∧ (300 : Int) ≤ 10000) ∧ ∀ h3 : zH, h3 = nw h 40 ((300 : Int)).toNat →
  (zty 121 a0 h3) ∧ (gR (sR h3 a0 0 (nx h)) a0 0 = a0 + 1) ∧ (zty 30140 (a0 + 1) (sR h3 a0 0 (nx h))) ∧ ∀ h4 : zH, h4 = sT (sR h3 a0 0 (nx h)) a0 1 →
  Q none h4) : zK 43 0 [vR a0 0] [] h Q :=
  zwpe_W (cd := c43) rfl [] 400 0 _ _ _ _ k
-- 44 SyntaxRules$Text.at(I)I
set_option maxRecDepth 100000 in
set_option maxHeartbeats 4000000 in
theorem k44_0 (a0 : Nat) (p1 : Int) (h : zH) (Q : Option zV → zH → Prop) (k :
  (p1 < 0 →
    Q (some (vI ((-1)))) h) ∧
    (¬ (p1 < 0) →
    ((gI h a0 1) ≤ p1 →
      Q (some (vI ((-1)))) h) ∧
      (¬ ((gI h a0 1) ≤ p1) →
      (0 ≤ (p1 : Int)) ∧ ((p1 : Int) < 300) ∧ Q (some (vI (gI h (a0 + 1) p1))) h))) : zK 44 0 [vR a0 101, vI p1] [] h Q :=
  zwpe_W (cd := c44) rfl [] 400 0 _ _ _ _ k
-- 45 SyntaxRules$Text.take(LSyntaxRules$Text;)V
set_option maxRecDepth 100000 in
set_option maxHeartbeats 4000000 in
theorem k45_0 (a0 : Nat) (p1 : Nat) (h : zH) (Q : Option zV → zH → Prop) (k :
  (0 ≤ (0 : Int)) ∧ (0 ≤ (0 : Int)) ∧ (0 ≤ (gI h p1 1 : Int)) ∧ ((0 : Int) + (gI h p1 1) ≤ Int.ofNat (ln h (p1 + 1))) ∧ ((0 : Int) + (gI h p1 1) ≤ Int.ofNat (ln h (a0 + 1))) ∧ ∀ h3 : zH, h3 = cp h (p1 + 1) 0 (a0 + 1) 0 (gI h p1 1) →
  ∀ h4 : zH, h4 = sI h3 a0 1 (gI h3 p1 1) →
  Q none h4) : zK 45 0 [vR a0 101, vR p1 101] [] h Q :=
  zwpe_W (cd := c45) rfl [] 400 0 _ _ _ _ k
-- 46 SyntaxRules$Text.same(LSyntaxRules$Text;)Z
set_option maxRecDepth 100000 in
set_option maxHeartbeats 4000000 in
theorem k46_0 (a0 : Nat) (p1 : Nat) (h : zH) (Q : Option zV → zH → Prop) (k :
  (¬ (gI h a0 1) = (gI h p1 1) →
    ((0 : Int) = 0 ∨ (0 : Int) = 1) ∧ Q (some (vI 0)) h) ∧
    (¬ (¬ (gI h a0 1) = (gI h p1 1)) →
    zC1 47 [vR a0 101, vI 0, vR p1 101, vI 0, vI (gI h a0 1)] h (fun v2 h2 =>
    (v2 = 0 →
      ((0 : Int) = 0 ∨ (0 : Int) = 1) ∧ Q (some (vI 0)) h2) ∧
      (¬ (v2 = 0) →
      ((1 : Int) = 0 ∨ (1 : Int) = 1) ∧ Q (some (vI 1)) h2)))) : zK 46 0 [vR a0 101, vR p1 101] [] h Q :=
  zwpe_W (cd := c46) rfl [] 400 0 _ _ _ _ k
-- 47 SyntaxRules$Text.sameRow(ILSyntaxRules$Text;II)Z
set_option maxRecDepth 100000 in
set_option maxHeartbeats 4000000 in
theorem k47_0 (a0 : Nat) (p1 : Int) (p2 : Nat) (p3 : Int) (p4 : Int) (h : zH) (Q : Option zV → zH → Prop) (k :
  (p1 < 0 →
    ((0 : Int) = 0 ∨ (0 : Int) = 1) ∧ Q (some (vI 0)) h) ∧
    (¬ (p1 < 0) →
    (p3 < 0 →
      ((0 : Int) = 0 ∨ (0 : Int) = 1) ∧ Q (some (vI 0)) h) ∧
      (¬ (p3 < 0) →
      (inR (p1 + p4)) ∧ ((gI h a0 1) < (p1 + p4) →
        ((0 : Int) = 0 ∨ (0 : Int) = 1) ∧ Q (some (vI 0)) h) ∧
        (¬ ((gI h a0 1) < (p1 + p4)) →
        (inR (p3 + p4)) ∧ ((p3 + p4) ≤ (gI h p2 1) →
          zK 47 35 [vR a0 101, vI p1, vR p2 101, vI p3, vI p4, vI 0] [] h Q) ∧
          (¬ ((p3 + p4) ≤ (gI h p2 1)) →
          ((0 : Int) = 0 ∨ (0 : Int) = 1) ∧ Q (some (vI 0)) h))))) : zK 47 0 [vR a0 101, vI p1, vR p2 101, vI p3, vI p4, vU] [] h Q :=
  zwpe_W (cd := c47) rfl [35] 400 0 _ _ _ _ k
set_option maxRecDepth 100000 in
set_option maxHeartbeats 4000000 in
theorem k47_35 (a0 : Nat) (l1 : Int) (a2 : Nat) (l3 : Int) (l4 : Int) (l5 : Int) (h : zH) (Q : Option zV → zH → Prop) (k :
  (l4 ≤ l5 →
    ((1 : Int) = 0 ∨ (1 : Int) = 1) ∧ Q (some (vI 1)) h) ∧
    (¬ (l4 ≤ l5) →
    (inR (l1 + l5)) ∧ (0 ≤ (l1 + l5 : Int)) ∧ ((l1 + l5 : Int) < 300) ∧ (inR (l3 + l5)) ∧ (0 ≤ (l3 + l5 : Int)) ∧ ((l3 + l5 : Int) < 300) ∧ ((gI h (a0 + 1) (l1 + l5)) = (gI h (a2 + 1) (l3 + l5)) →
      (inR (l5 + 1)) ∧ zK 47 35 [vR a0 101, vI l1, vR a2 101, vI l3, vI l4, vI (l5 + 1)] [] h Q) ∧
      (¬ ((gI h (a0 + 1) (l1 + l5)) = (gI h (a2 + 1) (l3 + l5))) →
      ((0 : Int) = 0 ∨ (0 : Int) = 1) ∧ Q (some (vI 0)) h))) : zK 47 35 [vR a0 101, vI l1, vR a2 101, vI l3, vI l4, vI l5] [] h Q :=
  zwpe_W (cd := c47) rfl [35] 400 35 _ _ _ _ k
-- 48 SyntaxRules$Text.rowAt(IZI)I
set_option maxRecDepth 100000 in
set_option maxHeartbeats 4000000 in
theorem k48_0 (a0 : Nat) (p1 : Int) (p2 : Int) (p3 : Int) (h : zH) (Q : Option zV → zH → Prop) (k :
  zK 48 3 [vR a0 101, vI p1, vI p2, vI p3, vI 0, vU] [] h Q) : zK 48 0 [vR a0 101, vI p1, vI p2, vI p3, vU, vU] [] h Q :=
  zwpe_W (cd := c48) rfl [3] 400 0 _ _ _ _ k
set_option maxRecDepth 100000 in
set_option maxHeartbeats 4000000 in
theorem k48_3 (a0 : Nat) (l1 : Int) (l2 : Int) (l3 : Int) (l4 : Int) (u5 : zV) (h : zH) (Q : Option zV → zH → Prop) (k :
  (l3 < l4 →
    (inR (l3 + 1)) ∧ Q (some (vI (l3 + 1))) h) ∧
    (¬ (l3 < l4) →
    (inR (l1 + l4)) ∧ zC1 44 [vR a0 101, vI (l1 + l4)] h (fun v4 h4 =>
    (l2 = 0 →
      zC1 34 [vI v4] h4 (fun v5 h5 =>
      (¬ v5 = 0 →
        (inR (l4 + 1)) ∧ zK 48 3 [vR a0 101, vI l1, vI l2, vI l3, vI (l4 + 1), vI v4] [] h5 Q) ∧
        (¬ (¬ v5 = 0) →
        Q (some (vI l4)) h5))) ∧
      (¬ (l2 = 0) →
      zC1 33 [vI v4] h4 (fun v6 h6 =>
      (¬ v6 = 0 →
        (inR (l4 + 1)) ∧ zK 48 3 [vR a0 101, vI l1, vI l2, vI l3, vI (l4 + 1), vI v4] [] h6 Q) ∧
        (¬ (¬ v6 = 0) →
        Q (some (vI l4)) h6)))))) : zK 48 3 [vR a0 101, vI l1, vI l2, vI l3, vI l4, u5] [] h Q :=
  zwpe_W (cd := c48) rfl [3] 400 3 _ _ _ _ k
-- 49 SyntaxRules$Source.<init>()V
set_option maxRecDepth 100000 in
set_option maxHeartbeats 4000000 in
theorem k49_0 (a0 : Nat) (h : zH) (Q : Option zV → zH → Prop) (k :
  ∀ h30 : zH, h30 = nw h 21 2 →
  zC0 43 [vR (nx h) 0] h30 (fun h31 =>
  (zty 122 a0 h31) ∧ ∀ h32 : zH, h32 = sR h31 a0 0 (nx h) →
  (0 ≤ (60 : Int) ∧ (60 : Int) ≤ 10000) ∧ ∀ h33 : zH, h33 = nw h32 40 ((60 : Int)).toNat →
  (zty 122 a0 h33) ∧ ∀ h34 : zH, h34 = sR h33 a0 1 (nx h32) →
  (0 ≤ (60 : Int) ∧ (60 : Int) ≤ 10000) ∧ ∀ h35 : zH, h35 = nw h34 40 ((60 : Int)).toNat →
  (zty 122 a0 h35) ∧ ∀ h36 : zH, h36 = sR h35 a0 2 (nx h34) →
  (0 ≤ (60 : Int) ∧ (60 : Int) ≤ 10000) ∧ ∀ h37 : zH, h37 = nw h36 40 ((60 : Int)).toNat →
  (zty 122 a0 h37) ∧ ∀ h38 : zH, h38 = sR h37 a0 3 (nx h36) →
  (0 ≤ (60 : Int) ∧ (60 : Int) ≤ 10000) ∧ ∀ h39 : zH, h39 = nw h38 40 ((60 : Int)).toNat →
  (zty 122 a0 h39) ∧ ∀ h40 : zH, h40 = sR h39 a0 4 (nx h38) →
  (0 ≤ (60 : Int) ∧ (60 : Int) ≤ 10000) ∧ ∀ h41 : zH, h41 = nw h40 40 ((60 : Int)).toNat →
  (zty 122 a0 h41) ∧ ∀ h42 : zH, h42 = sR h41 a0 5 (nx h40) →
  (0 ≤ (60 : Int) ∧ (60 : Int) ≤ 10000) ∧ ∀ h43 : zH, h43 = nw h42 40 ((60 : Int)).toNat →
  (zty 122 a0 h43) ∧ ∀ h44 : zH, h44 = sR h43 a0 6 (nx h42) →
  (0 ≤ (60 : Int) ∧ (60 : Int) ≤ 10000) ∧ ∀ h45 : zH, h45 = nw h44 40 ((60 : Int)).toNat →
  (zty 122 a0 h45) ∧ ∀ h46 : zH, h46 = sR h45 a0 7 (nx h44) →
  (0 ≤ (60 : Int) ∧ (60 : Int) ≤ 10000) ∧ ∀ h47 : zH, h47 = nw h46 40 ((60 : Int)).toNat →
  (zty 122 a0 h47) ∧ ∀ h48 : zH, h48 = sR h47 a0 8 (nx h46) →
  (0 ≤ (60 : Int) ∧ (60 : Int) ≤ 10000) ∧ ∀ h49 : zH, h49 = nw h48 40 ((60 : Int)).toNat →
  (zty 122 a0 h49) ∧ ∀ h50 : zH, h50 = sR h49 a0 9 (nx h48) →
  (0 ≤ (60 : Int) ∧ (60 : Int) ≤ 10000) ∧ ∀ h51 : zH, h51 = nw h50 40 ((60 : Int)).toNat →
  (zty 122 a0 h51) ∧ ∀ h52 : zH, h52 = sR h51 a0 10 (nx h50) →
  (0 ≤ (150 : Int) ∧ (150 : Int) ≤ 10000) ∧ ∀ h53 : zH, h53 = nw h52 40 ((150 : Int)).toNat →
  (zty 122 a0 h53) ∧ ∀ h54 : zH, h54 = sR h53 a0 11 (nx h52) →
  (0 ≤ (150 : Int) ∧ (150 : Int) ≤ 10000) ∧ ∀ h55 : zH, h55 = nw h54 40 ((150 : Int)).toNat →
  (zty 122 a0 h55) ∧ ∀ h56 : zH, h56 = sR h55 a0 12 (nx h54) →
  (0 ≤ (150 : Int) ∧ (150 : Int) ≤ 10000) ∧ ∀ h57 : zH, h57 = nw h56 40 ((150 : Int)).toNat →
  (zty 122 a0 h57) ∧ (gR (sR h57 a0 13 (nx h56)) a0 0 = a0 + 1) ∧ (zty 101 (a0 + 1) (sR h57 a0 13 (nx h56))) ∧ (gR (sR h57 a0 13 (nx h56)) a0 1 = a0 + 3) ∧ (zty 6140 (a0 + 3) (sR h57 a0 13 (nx h56))) ∧ (gR (sR h57 a0 13 (nx h56)) a0 2 = a0 + 4) ∧ (zty 6140 (a0 + 4) (sR h57 a0 13 (nx h56))) ∧ (gR (sR h57 a0 13 (nx h56)) a0 3 = a0 + 5) ∧ (zty 6140 (a0 + 5) (sR h57 a0 13 (nx h56))) ∧ (gR (sR h57 a0 13 (nx h56)) a0 4 = a0 + 6) ∧ (zty 6140 (a0 + 6) (sR h57 a0 13 (nx h56))) ∧ (gR (sR h57 a0 13 (nx h56)) a0 5 = a0 + 7) ∧ (zty 6140 (a0 + 7) (sR h57 a0 13 (nx h56))) ∧ (gR (sR h57 a0 13 (nx h56)) a0 6 = a0 + 8) ∧ (zty 6140 (a0 + 8) (sR h57 a0 13 (nx h56))) ∧ (gR (sR h57 a0 13 (nx h56)) a0 7 = a0 + 9) ∧ (zty 6140 (a0 + 9) (sR h57 a0 13 (nx h56))) ∧ (gR (sR h57 a0 13 (nx h56)) a0 8 = a0 + 10) ∧ (zty 6140 (a0 + 10) (sR h57 a0 13 (nx h56))) ∧ (gR (sR h57 a0 13 (nx h56)) a0 9 = a0 + 11) ∧ (zty 6140 (a0 + 11) (sR h57 a0 13 (nx h56))) ∧ (gR (sR h57 a0 13 (nx h56)) a0 10 = a0 + 12) ∧ (zty 6140 (a0 + 12) (sR h57 a0 13 (nx h56))) ∧ (gR (sR h57 a0 13 (nx h56)) a0 11 = a0 + 13) ∧ (zty 15140 (a0 + 13) (sR h57 a0 13 (nx h56))) ∧ (gR (sR h57 a0 13 (nx h56)) a0 12 = a0 + 14) ∧ (zty 15140 (a0 + 14) (sR h57 a0 13 (nx h56))) ∧ (gR (sR h57 a0 13 (nx h56)) a0 13 = a0 + 15) ∧ (zty 15140 (a0 + 15) (sR h57 a0 13 (nx h56))) ∧ ∀ h58 : zH, h58 = sT (sR h57 a0 13 (nx h56)) a0 2 →
  Q none h58)) : zK 49 0 [vR a0 0] [] h Q :=
  zwpe_W (cd := c49) rfl [] 400 0 _ _ _ _ k
-- 50 SyntaxRules$Source.read(LSyntaxRules$Text;)Z
set_option maxRecDepth 100000 in
set_option maxHeartbeats 4000000 in
theorem k50_0 (a0 : Nat) (p1 : Nat) (h : zH) (Q : Option zV → zH → Prop) (k :
  zC0 45 [vR (a0 + 1) 101, vR p1 101] h (fun h8 =>
  ∀ h9 : zH, h9 = sI h8 a0 14 0 →
  ∀ h10 : zH, h10 = sI h9 a0 15 0 →
  ∀ h11 : zH, h11 = sI h10 a0 16 0 →
  ∀ h12 : zH, h12 = sI h11 a0 17 (-1) →
  zC1 51 [vR a0 102] h12 (fun v13 h13 =>
  (v13 = 0 →
    ((0 : Int) = 0 ∨ (0 : Int) = 1) ∧ Q (some (vI 0)) h13) ∧
    (¬ (v13 = 0) →
    zC1 58 [vR a0 102] h13 (fun v14 h14 =>
    (v14 = 0 →
      ((0 : Int) = 0 ∨ (0 : Int) = 1) ∧ Q (some (vI 0)) h14) ∧
      (¬ (v14 = 0) →
      (¬ (gI h14 a0 16) = (gI h14 (a0 + 1) 1) →
        ((0 : Int) = 0 ∨ (0 : Int) = 1) ∧ Q (some (vI 0)) h14) ∧
        (¬ (¬ (gI h14 a0 16) = (gI h14 (a0 + 1) 1)) →
        ((1 : Int) = 0 ∨ (1 : Int) = 1) ∧ Q (some (vI 1)) h14))))))) : zK 50 0 [vR a0 102, vR p1 101] [] h Q :=
  zwpe_W (cd := c50) rfl [] 400 0 _ _ _ _ k
-- 51 SyntaxRules$Source.readTerm()Z
set_option maxRecDepth 100000 in
set_option maxHeartbeats 4000000 in
theorem k51_0 (a0 : Nat) (h : zH) (Q : Option zV → zH → Prop) (k :
  zK 51 2 [vR a0 102, vI 0, vU] [] h Q) : zK 51 0 [vR a0 102, vU, vU] [] h Q :=
  zwpe_W (cd := c51) rfl [2, 51] 400 0 _ _ _ _ k
set_option maxRecDepth 100000 in
set_option maxHeartbeats 4000000 in
theorem k51_2 (a0 : Nat) (l1 : Int) (u2 : zV) (h : zH) (Q : Option zV → zH → Prop) (k :
  (300 < l1 →
    ((0 : Int) = 0 ∨ (0 : Int) = 1) ∧ Q (some (vI 0)) h) ∧
    (¬ (300 < l1) →
    zC1 58 [vR a0 102] h (fun v5 h5 =>
    (¬ v5 = 0 →
      zC1 44 [vR (a0 + 1) 101, vI (gI h5 a0 16)] h5 (fun v6 h6 =>
      (¬ v6 = 41 →
        zK 51 51 [vR a0 102, vI l1, vI v6] [] h6 Q) ∧
        (¬ (¬ v6 = 41) →
        ((gI h6 a0 17) = (-1) →
          zK 51 51 [vR a0 102, vI l1, vI v6] [] h6 Q) ∧
          (¬ ((gI h6 a0 17) = (-1)) →
          zC0 52 [vR a0 102] h6 (fun h7 =>
          (¬ (gI h7 a0 17) = (-1) →
            (inR (l1 + 1)) ∧ zK 51 2 [vR a0 102, vI (l1 + 1), vI v6] [] h7 Q) ∧
            (¬ (¬ (gI h7 a0 17) = (-1)) →
            ((1 : Int) = 0 ∨ (1 : Int) = 1) ∧ Q (some (vI 1)) h7)))))) ∧
      (¬ (¬ v5 = 0) →
      ((0 : Int) = 0 ∨ (0 : Int) = 1) ∧ Q (some (vI 0)) h5)))) : zK 51 2 [vR a0 102, vI l1, u2] [] h Q :=
  zwpe_W (cd := c51) rfl [2, 51] 400 2 _ _ _ _ k
set_option maxRecDepth 100000 in
set_option maxHeartbeats 4000000 in
theorem k51_51 (a0 : Nat) (l1 : Int) (l2 : Int) (h : zH) (Q : Option zV → zH → Prop) (k :
  zC1 53 [vR a0 102, vI l2] h (fun v8 h8 =>
  (¬ v8 = 0 →
    (¬ (gI h8 a0 17) = (-1) →
      (inR (l1 + 1)) ∧ zK 51 2 [vR a0 102, vI (l1 + 1), vI l2] [] h8 Q) ∧
      (¬ (¬ (gI h8 a0 17) = (-1)) →
      ((1 : Int) = 0 ∨ (1 : Int) = 1) ∧ Q (some (vI 1)) h8)) ∧
    (¬ (¬ v8 = 0) →
    ((0 : Int) = 0 ∨ (0 : Int) = 1) ∧ Q (some (vI 0)) h8))) : zK 51 51 [vR a0 102, vI l1, vI l2] [] h Q :=
  zwpe_W (cd := c51) rfl [2, 51] 400 51 _ _ _ _ k
-- 52 SyntaxRules$Source.closeTerm()V
set_option maxRecDepth 100000 in
set_option maxHeartbeats 4000000 in
theorem k52_0 (a0 : Nat) (h : zH) (Q : Option zV → zH → Prop) (k :
  (inR ((gI h a0 16) + 1)) ∧ ∀ h4 : zH, h4 = sI h a0 16 ((gI h a0 16) + 1) →
  zC1 57 [vR a0 102, vI (gI h4 a0 17)] h4 (fun v5 h5 =>
  (0 ≤ (gI h4 a0 17 : Int)) ∧ ((gI h4 a0 17 : Int) < 60) ∧ ∀ h6 : zH, h6 = sI h5 a0 17 (gI h5 (a0 + 4) (gI h4 a0 17)) →
  Q none h6)) : zK 52 0 [vR a0 102, vU] [] h Q :=
  zwpe_W (cd := c52) rfl [] 400 0 _ _ _ _ k
-- 53 SyntaxRules$Source.readNode(I)Z
set_option maxRecDepth 100000 in
set_option maxHeartbeats 4000000 in
theorem k53_0 (a0 : Nat) (p1 : Int) (h : zH) (Q : Option zV → zH → Prop) (k :
  (¬ p1 = 40 →
    zK 53 11 [vR a0 102, vI p1, vU, vU, vU] [vI 0] h Q) ∧
    (¬ (¬ p1 = 40) →
    zK 53 11 [vR a0 102, vI p1, vU, vU, vU] [vI 1] h Q)) : zK 53 0 [vR a0 102, vI p1, vU, vU, vU] [] h Q :=
  zwpe_W (cd := c53) rfl [11, 32, 60] 400 0 _ _ _ _ k
set_option maxRecDepth 100000 in
set_option maxHeartbeats 4000000 in
theorem k53_11 (a0 : Nat) (l1 : Int) (u2 : zV) (u3 : zV) (u4 : zV) (s0 : Int) (h : zH) (Q : Option zV → zH → Prop) (k :
  zC1 33 [vI l1] h (fun v13 h13 =>
  (¬ s0 = 0 →
    zK 53 32 [vR a0 102, vI l1, vI s0, vI v13, u4] [] h13 Q) ∧
    (¬ (¬ s0 = 0) →
    (¬ v13 = 0 →
      zK 53 32 [vR a0 102, vI l1, vI s0, vI v13, u4] [] h13 Q) ∧
      (¬ (¬ v13 = 0) →
      zC1 34 [vI l1] h13 (fun v14 h14 =>
      (v14 = 0 →
        ((0 : Int) = 0 ∨ (0 : Int) = 1) ∧ Q (some (vI 0)) h14) ∧
        (¬ (v14 = 0) →
        zK 53 32 [vR a0 102, vI l1, vI s0, vI v13, u4] [] h14 Q)))))) : zK 53 11 [vR a0 102, vI l1, u2, u3, u4] [vI s0] h Q :=
  zwpe_W (cd := c53) rfl [11, 32, 60] 400 11 _ _ _ _ k
set_option maxRecDepth 100000 in
set_option maxHeartbeats 4000000 in
theorem k53_32 (a0 : Nat) (u1 : zV) (l2 : Int) (l3 : Int) (u4 : zV) (h : zH) (Q : Option zV → zH → Prop) (k :
  zC1 54 [vR a0 102, vI l2] h (fun v15 h15 =>
  (¬ v15 = 0 →
    (l2 = 0 →
      (l3 = 0 →
        zK 53 60 [vR a0 102, u1, vI l2, vI l3, u4] [vI 0, vR a0 102] h15 Q) ∧
        (¬ (l3 = 0) →
        zK 53 60 [vR a0 102, u1, vI l2, vI l3, u4] [vI 1, vR a0 102] h15 Q)) ∧
      (¬ (l2 = 0) →
      zK 53 60 [vR a0 102, u1, vI l2, vI l3, u4] [vI 2, vR a0 102] h15 Q)) ∧
    (¬ (¬ v15 = 0) →
    ((0 : Int) = 0 ∨ (0 : Int) = 1) ∧ Q (some (vI 0)) h15))) : zK 53 32 [vR a0 102, u1, vI l2, vI l3, u4] [] h Q :=
  zwpe_W (cd := c53) rfl [11, 32, 60] 400 32 _ _ _ _ k
set_option maxRecDepth 100000 in
set_option maxHeartbeats 4000000 in
theorem k53_60 (a0 : Nat) (u1 : zV) (l2 : Int) (l3 : Int) (u4 : zV) (s0 : Int) (b1 : Nat) (h : zH) (Q : Option zV → zH → Prop) (k :
  zC1 55 [vR b1 102, vI s0] h (fun v16 h16 =>
  (¬ l2 = 0 →
    (inR ((gI h16 a0 16) + 1)) ∧ ∀ h17 : zH, h17 = sI h16 a0 16 ((gI h16 a0 16) + 1) →
    ∀ h18 : zH, h18 = sI h17 a0 17 v16 →
    zC1 58 [vR a0 102] h18 (fun v19 h19 =>
    (v19 = 0 →
      ((0 : Int) = 0 ∨ (0 : Int) = 1) ∧ Q (some (vI 0)) h19) ∧
      (¬ (v19 = 0) →
      zC1 44 [vR (a0 + 1) 101, vI (gI h19 a0 16)] h19 (fun v20 h20 =>
      zC1 33 [vI v20] h20 (fun v21 h21 =>
      (v21 = 0 →
        ((0 : Int) = 0 ∨ (0 : Int) = 1) ∧ Q (some (vI 0)) h21) ∧
        (¬ (v21 = 0) →
        zC1 56 [vR a0 102, vI v16, vI 1] h21 (fun v22 h22 =>
        (v22 = 0 →
          ((0 : Int) = 0 ∨ (0 : Int) = 1) ∧ Q (some (vI 0)) h22) ∧
          (¬ (v22 = 0) →
          ((1 : Int) = 0 ∨ (1 : Int) = 1) ∧ Q (some (vI 1)) h22)))))))) ∧
    (¬ (¬ l2 = 0) →
    zC1 56 [vR a0 102, vI v16, vI l3] h16 (fun v23 h23 =>
    (v23 = 0 →
      ((0 : Int) = 0 ∨ (0 : Int) = 1) ∧ Q (some (vI 0)) h23) ∧
      (¬ (v23 = 0) →
      zC1 57 [vR a0 102, vI v16] h23 (fun v24 h24 =>
      (v24 = 0 →
        ((0 : Int) = 0 ∨ (0 : Int) = 1) ∧ Q (some (vI 0)) h24) ∧
        (¬ (v24 = 0) →
        ((1 : Int) = 0 ∨ (1 : Int) = 1) ∧ Q (some (vI 1)) h24))))))) : zK 53 60 [vR a0 102, u1, vI l2, vI l3, u4] [vI s0, vR b1 102] h Q :=
  zwpe_W (cd := c53) rfl [11, 32, 60] 400 60 _ _ _ _ k
-- 54 SyntaxRules$Source.hasRoom(Z)Z
set_option maxRecDepth 100000 in
set_option maxHeartbeats 4000000 in
theorem k54_0 (a0 : Nat) (p1 : Int) (h : zH) (Q : Option zV → zH → Prop) (k :
  (¬ (gI h a0 14) = 60 →
    ((gI h a0 17) = (-1) →
      ((1 : Int) = 0 ∨ (1 : Int) = 1) ∧ Q (some (vI 1)) h) ∧
      (¬ ((gI h a0 17) = (-1)) →
      (0 ≤ (gI h a0 17 : Int)) ∧ ((gI h a0 17 : Int) < 60) ∧ (12 ≤ (gI h (a0 + 6) (gI h a0 17)) →
        ((0 : Int) = 0 ∨ (0 : Int) = 1) ∧ Q (some (vI 0)) h) ∧
        (¬ (12 ≤ (gI h (a0 + 6) (gI h a0 17))) →
        (p1 = 0 →
          ((1 : Int) = 0 ∨ (1 : Int) = 1) ∧ Q (some (vI 1)) h) ∧
          (¬ (p1 = 0) →
          (0 ≤ (gI h a0 17 : Int)) ∧ ((gI h a0 17 : Int) < 60) ∧ (inR ((gI h (a0 + 10) (gI h a0 17)) + 1)) ∧ (((gI h (a0 + 10) (gI h a0 17)) + 1) = 16 →
            ((0 : Int) = 0 ∨ (0 : Int) = 1) ∧ Q (some (vI 0)) h) ∧
            (¬ (((gI h (a0 + 10) (gI h a0 17)) + 1) = 16) →
            ((1 : Int) = 0 ∨ (1 : Int) = 1) ∧ Q (some (vI 1)) h))))) ∧
    (¬ (¬ (gI h a0 14) = 60) →
    ((0 : Int) = 0 ∨ (0 : Int) = 1) ∧ Q (some (vI 0)) h)) : zK 54 0 [vR a0 102, vI p1] [] h Q :=
  zwpe_W (cd := c54) rfl [] 400 0 _ _ _ _ k
-- 55 SyntaxRules$Source.addNode(I)I
set_option maxRecDepth 100000 in
set_option maxHeartbeats 4000000 in
theorem k55_0 (a0 : Nat) (p1 : Int) (h : zH) (Q : Option zV → zH → Prop) (k :
  (inR ((gI h a0 14) + 1)) ∧ ∀ h11 : zH, h11 = sI h a0 14 ((gI h a0 14) + 1) →
  (0 ≤ (gI h a0 14 : Int)) ∧ ((gI h a0 14 : Int) < 60) ∧ ∀ h12 : zH, h12 = sI h11 (a0 + 3) (gI h a0 14) p1 →
  (0 ≤ (gI h a0 14 : Int)) ∧ ((gI h a0 14 : Int) < 60) ∧ ∀ h13 : zH, h13 = sI h12 (a0 + 4) (gI h a0 14) (gI h12 a0 17) →
  (0 ≤ (gI h a0 14 : Int)) ∧ ((gI h a0 14 : Int) < 60) ∧ ∀ h14 : zH, h14 = sI h13 (a0 + 6) (gI h a0 14) 0 →
  (0 ≤ (gI h a0 14 : Int)) ∧ ((gI h a0 14 : Int) < 60) ∧ ∀ h15 : zH, h15 = sI h14 (a0 + 7) (gI h a0 14) (gI h14 a0 16) →
  (¬ (gI h15 a0 17) = (-1) →
    (0 ≤ (gI h15 a0 17 : Int)) ∧ ((gI h15 a0 17 : Int) < 60) ∧ (0 ≤ (gI h a0 14 : Int)) ∧ ((gI h a0 14 : Int) < 60) ∧ ∀ h16 : zH, h16 = sI h15 (a0 + 5) (gI h a0 14) (gI h15 (a0 + 6) (gI h15 a0 17)) →
    (0 ≤ (gI h16 a0 17 : Int)) ∧ ((gI h16 a0 17 : Int) < 60) ∧ (inR ((gI h16 (a0 + 10) (gI h16 a0 17)) + 1)) ∧ (0 ≤ (gI h a0 14 : Int)) ∧ ((gI h a0 14 : Int) < 60) ∧ ∀ h17 : zH, h17 = sI h16 (a0 + 10) (gI h a0 14) ((gI h16 (a0 + 10) (gI h16 a0 17)) + 1) →
    (0 ≤ (gI h17 a0 17 : Int)) ∧ ((gI h17 a0 17 : Int) < 60) ∧ (inR ((gI h17 (a0 + 6) (gI h17 a0 17)) + 1)) ∧ (0 ≤ (gI h17 a0 17 : Int)) ∧ ((gI h17 a0 17 : Int) < 60) ∧ ∀ h18 : zH, h18 = sI h17 (a0 + 6) (gI h17 a0 17) ((gI h17 (a0 + 6) (gI h17 a0 17)) + 1) →
    Q (some (vI (gI h a0 14))) h18) ∧
    (¬ (¬ (gI h15 a0 17) = (-1)) →
    (0 ≤ (gI h a0 14 : Int)) ∧ ((gI h a0 14 : Int) < 60) ∧ ∀ h19 : zH, h19 = sI h15 (a0 + 5) (gI h a0 14) (-1) →
    (0 ≤ (gI h a0 14 : Int)) ∧ ((gI h a0 14 : Int) < 60) ∧ ∀ h20 : zH, h20 = sI h19 (a0 + 10) (gI h a0 14) 0 →
    Q (some (vI (gI h a0 14))) h20)) : zK 55 0 [vR a0 102, vI p1, vU] [] h Q :=
  zwpe_W (cd := c55) rfl [] 400 0 _ _ _ _ k
-- 56 SyntaxRules$Source.readName(IZ)Z
set_option maxRecDepth 100000 in
set_option maxHeartbeats 4000000 in
theorem k56_0 (a0 : Nat) (p1 : Int) (p2 : Int) (h : zH) (Q : Option zV → zH → Prop) (k :
  (p2 = 0 →
    zK 56 10 [vR a0 102, vI p1, vI p2, vU, vU] [vI 4] h Q) ∧
    (¬ (p2 = 0) →
    zK 56 10 [vR a0 102, vI p1, vI p2, vU, vU] [vI 8] h Q)) : zK 56 0 [vR a0 102, vI p1, vI p2, vU, vU] [] h Q :=
  zwpe_W (cd := c56) rfl [10] 400 0 _ _ _ _ k
set_option maxRecDepth 100000 in
set_option maxHeartbeats 4000000 in
theorem k56_10 (a0 : Nat) (l1 : Int) (l2 : Int) (u3 : zV) (u4 : zV) (s0 : Int) (h : zH) (Q : Option zV → zH → Prop) (k :
  zC1 48 [vR (a0 + 1) 101, vI (gI h a0 16), vI l2, vI s0] h (fun v6 h6 =>
  (v6 ≤ s0 →
    (0 ≤ (l1 : Int)) ∧ ((l1 : Int) < 60) ∧ ∀ h7 : zH, h7 = sI h6 (a0 + 11) l1 (gI h6 a0 16) →
    (0 ≤ (l1 : Int)) ∧ ((l1 : Int) < 60) ∧ ∀ h8 : zH, h8 = sI h7 (a0 + 12) l1 v6 →
    (inR ((gI h8 a0 16) + v6)) ∧ ∀ h9 : zH, h9 = sI h8 a0 16 ((gI h8 a0 16) + v6) →
    ((1 : Int) = 0 ∨ (1 : Int) = 1) ∧ Q (some (vI 1)) h9) ∧
    (¬ (v6 ≤ s0) →
    (inR ((gI h6 a0 16) + s0)) ∧ ∀ h10 : zH, h10 = sI h6 a0 16 ((gI h6 a0 16) + s0) →
    ((0 : Int) = 0 ∨ (0 : Int) = 1) ∧ Q (some (vI 0)) h10))) : zK 56 10 [vR a0 102, vI l1, vI l2, u3, u4] [vI s0] h Q :=
  zwpe_W (cd := c56) rfl [10] 400 10 _ _ _ _ k
-- 57 SyntaxRules$Source.finishNode(I)Z
set_option maxRecDepth 100000 in
set_option maxHeartbeats 4000000 in
theorem k57_0 (a0 : Nat) (p1 : Int) (h : zH) (Q : Option zV → zH → Prop) (k :
  (0 ≤ (p1 : Int)) ∧ ((p1 : Int) < 60) ∧ ∀ h3 : zH, h3 = sI h (a0 + 8) p1 (gI h a0 16) →
  (inR ((gI h3 a0 14) - p1)) ∧ (0 ≤ (p1 : Int)) ∧ ((p1 : Int) < 60) ∧ ∀ h4 : zH, h4 = sI h3 (a0 + 9) p1 ((gI h3 a0 14) - p1) →
  ((1 : Int) = 0 ∨ (1 : Int) = 1) ∧ Q (some (vI 1)) h4) : zK 57 0 [vR a0 102, vI p1] [] h Q :=
  zwpe_W (cd := c57) rfl [] 400 0 _ _ _ _ k
-- 58 SyntaxRules$Source.passLayout()Z
set_option maxRecDepth 100000 in
set_option maxHeartbeats 4000000 in
theorem k58_0 (a0 : Nat) (h : zH) (Q : Option zV → zH → Prop) (k :
  zK 58 2 [vR a0 102, vI 0, vU] [] h Q) : zK 58 0 [vR a0 102, vU, vU] [] h Q :=
  zwpe_W (cd := c58) rfl [2] 400 0 _ _ _ _ k
set_option maxRecDepth 100000 in
set_option maxHeartbeats 4000000 in
theorem k58_2 (a0 : Nat) (l1 : Int) (u2 : zV) (h : zH) (Q : Option zV → zH → Prop) (k :
  (300 < l1 →
    ((1 : Int) = 0 ∨ (1 : Int) = 1) ∧ Q (some (vI 1)) h) ∧
    (¬ (300 < l1) →
    zC1 44 [vR (a0 + 1) 101, vI (gI h a0 16)] h (fun v5 h5 =>
    (v5 = 32 →
      (inR ((gI h5 a0 16) + 1)) ∧ ∀ h6 : zH, h6 = sI h5 a0 16 ((gI h5 a0 16) + 1) →
      (inR (l1 + 1)) ∧ zK 58 2 [vR a0 102, vI (l1 + 1), vI v5] [] h6 Q) ∧
      (¬ (v5 = 32) →
      (¬ v5 = 10 →
        (v5 = 91 →
          zC1 59 [vR a0 102] h5 (fun v7 h7 =>
          (¬ v7 = 0 →
            (inR (l1 + 1)) ∧ zK 58 2 [vR a0 102, vI (l1 + 1), vI v5] [] h7 Q) ∧
            (¬ (¬ v7 = 0) →
            ((0 : Int) = 0 ∨ (0 : Int) = 1) ∧ Q (some (vI 0)) h7))) ∧
          (¬ (v5 = 91) →
          ((1 : Int) = 0 ∨ (1 : Int) = 1) ∧ Q (some (vI 1)) h5)) ∧
        (¬ (¬ v5 = 10) →
        (inR ((gI h5 a0 16) + 1)) ∧ ∀ h8 : zH, h8 = sI h5 a0 16 ((gI h5 a0 16) + 1) →
        (inR (l1 + 1)) ∧ zK 58 2 [vR a0 102, vI (l1 + 1), vI v5] [] h8 Q))))) : zK 58 2 [vR a0 102, vI l1, u2] [] h Q :=
  zwpe_W (cd := c58) rfl [2] 400 2 _ _ _ _ k
-- 59 SyntaxRules$Source.passComment()Z
set_option maxRecDepth 100000 in
set_option maxHeartbeats 4000000 in
theorem k59_0 (a0 : Nat) (h : zH) (Q : Option zV → zH → Prop) (k :
  (inR ((gI h a0 16) + 1)) ∧ zK 59 7 [vR a0 102, vI ((gI h a0 16) + 1), vU] [] h Q) : zK 59 0 [vR a0 102, vU, vU] [] h Q :=
  zwpe_W (cd := c59) rfl [7] 400 0 _ _ _ _ k
set_option maxRecDepth 100000 in
set_option maxHeartbeats 4000000 in
theorem k59_7 (a0 : Nat) (l1 : Int) (u2 : zV) (h : zH) (Q : Option zV → zH → Prop) (k :
  ((gI h (a0 + 1) 1) ≤ l1 →
    ∀ h5 : zH, h5 = sI h a0 16 (gI h (a0 + 1) 1) →
    ((0 : Int) = 0 ∨ (0 : Int) = 1) ∧ Q (some (vI 0)) h5) ∧
    (¬ ((gI h (a0 + 1) 1) ≤ l1) →
    (0 ≤ (l1 : Int)) ∧ ((l1 : Int) < 300) ∧ (¬ (gI h (a0 + 1 + 1) l1) = 93 →
      ((gI h (a0 + 1 + 1) l1) = 10 →
        (inR (l1 + 1)) ∧ zK 59 7 [vR a0 102, vI (l1 + 1), vI (gI h (a0 + 1 + 1) l1)] [] h Q) ∧
        (¬ ((gI h (a0 + 1 + 1) l1) = 10) →
        ((gI h (a0 + 1 + 1) l1) < 32 →
          ∀ h6 : zH, h6 = sI h a0 16 l1 →
          ((0 : Int) = 0 ∨ (0 : Int) = 1) ∧ Q (some (vI 0)) h6) ∧
          (¬ ((gI h (a0 + 1 + 1) l1) < 32) →
          ((gI h (a0 + 1 + 1) l1) ≤ 126 →
            (inR (l1 + 1)) ∧ zK 59 7 [vR a0 102, vI (l1 + 1), vI (gI h (a0 + 1 + 1) l1)] [] h Q) ∧
            (¬ ((gI h (a0 + 1 + 1) l1) ≤ 126) →
            ∀ h7 : zH, h7 = sI h a0 16 l1 →
            ((0 : Int) = 0 ∨ (0 : Int) = 1) ∧ Q (some (vI 0)) h7)))) ∧
      (¬ (¬ (gI h (a0 + 1 + 1) l1) = 93) →
      (inR (l1 + 1)) ∧ zC0 60 [vR a0 102, vI (l1 + 1)] h (fun h8 =>
      ((1 : Int) = 0 ∨ (1 : Int) = 1) ∧ Q (some (vI 1)) h8)))) : zK 59 7 [vR a0 102, vI l1, u2] [] h Q :=
  zwpe_W (cd := c59) rfl [7] 400 7 _ _ _ _ k
-- 60 SyntaxRules$Source.addComment(I)V
set_option maxRecDepth 100000 in
set_option maxHeartbeats 4000000 in
theorem k60_0 (a0 : Nat) (p1 : Int) (h : zH) (Q : Option zV → zH → Prop) (k :
  (150 ≤ (gI h a0 15) →
    ∀ h7 : zH, h7 = sI h a0 16 p1 →
    Q none h7) ∧
    (¬ (150 ≤ (gI h a0 15)) →
    (0 ≤ (gI h a0 15 : Int)) ∧ ((gI h a0 15 : Int) < 150) ∧ ∀ h8 : zH, h8 = sI h (a0 + 13) (gI h a0 15) (gI h a0 16) →
    (inR (p1 - (gI h8 a0 16))) ∧ (0 ≤ (gI h8 a0 15 : Int)) ∧ ((gI h8 a0 15 : Int) < 150) ∧ ∀ h9 : zH, h9 = sI h8 (a0 + 14) (gI h8 a0 15) (p1 - (gI h8 a0 16)) →
    (0 ≤ (gI h9 a0 15 : Int)) ∧ ((gI h9 a0 15 : Int) < 150) ∧ ∀ h10 : zH, h10 = sI h9 (a0 + 15) (gI h9 a0 15) (gI h9 a0 17) →
    (inR ((gI h10 a0 15) + 1)) ∧ ∀ h11 : zH, h11 = sI h10 a0 15 ((gI h10 a0 15) + 1) →
    ∀ h12 : zH, h12 = sI h11 a0 16 p1 →
    Q none h12)) : zK 60 0 [vR a0 102, vI p1] [] h Q :=
  zwpe_W (cd := c60) rfl [] 400 0 _ _ _ _ k
-- 61 SyntaxRules$Source.sameNode(II)Z
set_option maxRecDepth 100000 in
set_option maxHeartbeats 4000000 in
theorem k61_0 (a0 : Nat) (p1 : Int) (p2 : Int) (h : zH) (Q : Option zV → zH → Prop) (k :
  (0 ≤ (p1 : Int)) ∧ ((p1 : Int) < 60) ∧ (0 ≤ (p2 : Int)) ∧ ((p2 : Int) < 60) ∧ (¬ (gI h (a0 + 9) p1) = (gI h (a0 + 9) p2) →
    ((0 : Int) = 0 ∨ (0 : Int) = 1) ∧ Q (some (vI 0)) h) ∧
    (¬ (¬ (gI h (a0 + 9) p1) = (gI h (a0 + 9) p2)) →
    (0 ≤ (p1 : Int)) ∧ ((p1 : Int) < 60) ∧ zC1 62 [vR a0 102, vI p1, vI p2, vI (gI h (a0 + 9) p1)] h (fun v2 h2 =>
    (v2 = 0 →
      ((0 : Int) = 0 ∨ (0 : Int) = 1) ∧ Q (some (vI 0)) h2) ∧
      (¬ (v2 = 0) →
      ((1 : Int) = 0 ∨ (1 : Int) = 1) ∧ Q (some (vI 1)) h2)))) : zK 61 0 [vR a0 102, vI p1, vI p2] [] h Q :=
  zwpe_W (cd := c61) rfl [] 400 0 _ _ _ _ k
-- 62 SyntaxRules$Source.sameRow(III)Z
set_option maxRecDepth 100000 in
set_option maxHeartbeats 4000000 in
theorem k62_0 (a0 : Nat) (p1 : Int) (p2 : Int) (p3 : Int) (h : zH) (Q : Option zV → zH → Prop) (k :
  zK 62 3 [vR a0 102, vI p1, vI p2, vI p3, vI 0, vU, vU] [] h Q) : zK 62 0 [vR a0 102, vI p1, vI p2, vI p3, vU, vU, vU] [] h Q :=
  zwpe_W (cd := c62) rfl [3] 400 0 _ _ _ _ k
set_option maxRecDepth 100000 in
set_option maxHeartbeats 4000000 in
theorem k62_3 (a0 : Nat) (l1 : Int) (l2 : Int) (l3 : Int) (l4 : Int) (u5 : zV) (u6 : zV) (h : zH) (Q : Option zV → zH → Prop) (k :
  (l3 ≤ l4 →
    ((1 : Int) = 0 ∨ (1 : Int) = 1) ∧ Q (some (vI 1)) h) ∧
    (¬ (l3 ≤ l4) →
    (l1 = l2 →
      ((1 : Int) = 0 ∨ (1 : Int) = 1) ∧ Q (some (vI 1)) h) ∧
      (¬ (l1 = l2) →
      (inR (l1 + l4)) ∧ (inR (l2 + l4)) ∧ (0 ≤ (l1 + l4 : Int)) ∧ ((l1 + l4 : Int) < 60) ∧ (0 ≤ (l2 + l4 : Int)) ∧ ((l2 + l4 : Int) < 60) ∧ (¬ (gI h (a0 + 3) (l1 + l4)) = (gI h (a0 + 3) (l2 + l4)) →
        ((0 : Int) = 0 ∨ (0 : Int) = 1) ∧ Q (some (vI 0)) h) ∧
        (¬ (¬ (gI h (a0 + 3) (l1 + l4)) = (gI h (a0 + 3) (l2 + l4))) →
        (0 ≤ (l1 + l4 : Int)) ∧ ((l1 + l4 : Int) < 60) ∧ (0 ≤ (l2 + l4 : Int)) ∧ ((l2 + l4 : Int) < 60) ∧ (¬ (gI h (a0 + 6) (l1 + l4)) = (gI h (a0 + 6) (l2 + l4)) →
          ((0 : Int) = 0 ∨ (0 : Int) = 1) ∧ Q (some (vI 0)) h) ∧
          (¬ (¬ (gI h (a0 + 6) (l1 + l4)) = (gI h (a0 + 6) (l2 + l4))) →
          (0 ≤ (l1 + l4 : Int)) ∧ ((l1 + l4 : Int) < 60) ∧ (0 ≤ (l2 + l4 : Int)) ∧ ((l2 + l4 : Int) < 60) ∧ (¬ (gI h (a0 + 12) (l1 + l4)) = (gI h (a0 + 12) (l2 + l4)) →
            ((0 : Int) = 0 ∨ (0 : Int) = 1) ∧ Q (some (vI 0)) h) ∧
            (¬ (¬ (gI h (a0 + 12) (l1 + l4)) = (gI h (a0 + 12) (l2 + l4))) →
            (0 ≤ (l1 + l4 : Int)) ∧ ((l1 + l4 : Int) < 60) ∧ (0 ≤ (l2 + l4 : Int)) ∧ ((l2 + l4 : Int) < 60) ∧ (0 ≤ (l1 + l4 : Int)) ∧ ((l1 + l4 : Int) < 60) ∧ zC1 47 [vR (a0 + 1) 101, vI (gI h (a0 + 11) (l1 + l4)), vR (a0 + 1) 101, vI (gI h (a0 + 11) (l2 + l4)), vI (gI h (a0 + 12) (l1 + l4))] h (fun v2 h2 =>
            (¬ v2 = 0 →
              (inR (l4 + 1)) ∧ zK 62 3 [vR a0 102, vI l1, vI l2, vI l3, vI (l4 + 1), vI (l1 + l4), vI (l2 + l4)] [] h2 Q) ∧
              (¬ (¬ v2 = 0) →
              ((0 : Int) = 0 ∨ (0 : Int) = 1) ∧ Q (some (vI 0)) h2)))))))) : zK 62 3 [vR a0 102, vI l1, vI l2, vI l3, vI l4, u5, u6] [] h Q :=
  zwpe_W (cd := c62) rfl [3] 400 3 _ _ _ _ k
-- 63 SyntaxRules$Source.isNamed(ILSyntaxRules$Rule;I)Z
set_option maxRecDepth 100000 in
set_option maxHeartbeats 4000000 in
theorem k63_0 (a0 : Nat) (p1 : Int) (p2 : Nat) (p3 : Int) (h : zH) (Q : Option zV → zH → Prop) (k :
  (0 ≤ (p1 : Int)) ∧ ((p1 : Int) < 60) ∧ (0 ≤ (p3 : Int)) ∧ ((p3 : Int) < 40) ∧ (¬ (gI h (a0 + 12) p1) = (gI h (p2 + 14) p3) →
    ((0 : Int) = 0 ∨ (0 : Int) = 1) ∧ Q (some (vI 0)) h) ∧
    (¬ (¬ (gI h (a0 + 12) p1) = (gI h (p2 + 14) p3)) →
    (0 ≤ (p1 : Int)) ∧ ((p1 : Int) < 60) ∧ (0 ≤ (p3 : Int)) ∧ ((p3 : Int) < 40) ∧ zC1 47 [vR (a0 + 1) 101, vI (gI h (a0 + 11) p1), vR (p2 + 1) 101, vI (gI h (p2 + 13) p3), vI (gI h (a0 + 12) p1)] h (fun v2 h2 =>
    (v2 = 0 →
      ((0 : Int) = 0 ∨ (0 : Int) = 1) ∧ Q (some (vI 0)) h2) ∧
      (¬ (v2 = 0) →
      ((1 : Int) = 0 ∨ (1 : Int) = 1) ∧ Q (some (vI 1)) h2)))) : zK 63 0 [vR a0 102, vI p1, vR p2 103, vI p3, vU] [] h Q :=
  zwpe_W (cd := c63) rfl [] 400 0 _ _ _ _ k
-- 64 SyntaxRules$Source.partOf(II)I
set_option maxRecDepth 100000 in
set_option maxHeartbeats 4000000 in
theorem k64_0 (a0 : Nat) (p1 : Int) (p2 : Int) (h : zH) (Q : Option zV → zH → Prop) (k :
  (p2 < 0 →
    Q (some (vI ((-1)))) h) ∧
    (¬ (p2 < 0) →
    (0 ≤ (p1 : Int)) ∧ ((p1 : Int) < 60) ∧ (p2 < (gI h (a0 + 6) p1) →
      (inR (p1 + 1)) ∧ zK 64 23 [vR a0 102, vI p1, vI p2, vI (p1 + 1), vI 0] [] h Q) ∧
      (¬ (p2 < (gI h (a0 + 6) p1)) →
      Q (some (vI ((-1)))) h))) : zK 64 0 [vR a0 102, vI p1, vI p2, vU, vU] [] h Q :=
  zwpe_W (cd := c64) rfl [23] 400 0 _ _ _ _ k
set_option maxRecDepth 100000 in
set_option maxHeartbeats 4000000 in
theorem k64_23 (a0 : Nat) (u1 : zV) (l2 : Int) (l3 : Int) (l4 : Int) (h : zH) (Q : Option zV → zH → Prop) (k :
  (l2 ≤ l4 →
    Q (some (vI l3)) h) ∧
    (¬ (l2 ≤ l4) →
    (0 ≤ (l3 : Int)) ∧ ((l3 : Int) < 60) ∧ (inR (l3 + (gI h (a0 + 9) l3))) ∧ (inR (l4 + 1)) ∧ zK 64 23 [vR a0 102, u1, vI l2, vI (l3 + (gI h (a0 + 9) l3)), vI (l4 + 1)] [] h Q)) : zK 64 23 [vR a0 102, u1, vI l2, vI l3, vI l4] [] h Q :=
  zwpe_W (cd := c64) rfl [23] 400 23 _ _ _ _ k
-- 65 SyntaxRules$Source.mostWithin()I
set_option maxRecDepth 100000 in
set_option maxHeartbeats 4000000 in
theorem k65_0 (a0 : Nat) (h : zH) (Q : Option zV → zH → Prop) (k :
  zK 65 4 [vR a0 102, vI 0, vI 0] [] h Q) : zK 65 0 [vR a0 102, vU, vU] [] h Q :=
  zwpe_W (cd := c65) rfl [4] 400 0 _ _ _ _ k
set_option maxRecDepth 100000 in
set_option maxHeartbeats 4000000 in
theorem k65_4 (a0 : Nat) (l1 : Int) (l2 : Int) (h : zH) (Q : Option zV → zH → Prop) (k :
  ((gI h a0 14) ≤ l2 →
    (inR (l1 + 1)) ∧ Q (some (vI (l1 + 1))) h) ∧
    (¬ ((gI h a0 14) ≤ l2) →
    (0 ≤ (l2 : Int)) ∧ ((l2 : Int) < 60) ∧ zC1 259 [vI l1, vI (gI h (a0 + 10) l2)] h (fun v2 h2 =>
    (inR (l2 + 1)) ∧ zK 65 4 [vR a0 102, vI v2, vI (l2 + 1)] [] h2 Q))) : zK 65 4 [vR a0 102, vI l1, vI l2] [] h Q :=
  zwpe_W (cd := c65) rfl [4] 400 4 _ _ _ _ k
-- 66 SyntaxRules$Rule.<init>()V
set_option maxRecDepth 100000 in
set_option maxHeartbeats 4000000 in
theorem k66_0 (a0 : Nat) (h : zH) (Q : Option zV → zH → Prop) (k :
  ∀ h28 : zH, h28 = nw h 21 2 →
  zC0 43 [vR (nx h) 0] h28 (fun h29 =>
  (zty 123 a0 h29) ∧ ∀ h30 : zH, h30 = sR h29 a0 0 (nx h) →
  (0 ≤ (40 : Int) ∧ (40 : Int) ≤ 10000) ∧ ∀ h31 : zH, h31 = nw h30 40 ((40 : Int)).toNat →
  (zty 123 a0 h31) ∧ ∀ h32 : zH, h32 = sR h31 a0 1 (nx h30) →
  (0 ≤ (40 : Int) ∧ (40 : Int) ≤ 10000) ∧ ∀ h33 : zH, h33 = nw h32 40 ((40 : Int)).toNat →
  (zty 123 a0 h33) ∧ ∀ h34 : zH, h34 = sR h33 a0 2 (nx h32) →
  (0 ≤ (40 : Int) ∧ (40 : Int) ≤ 10000) ∧ ∀ h35 : zH, h35 = nw h34 40 ((40 : Int)).toNat →
  (zty 123 a0 h35) ∧ ∀ h36 : zH, h36 = sR h35 a0 3 (nx h34) →
  (0 ≤ (40 : Int) ∧ (40 : Int) ≤ 10000) ∧ ∀ h37 : zH, h37 = nw h36 40 ((40 : Int)).toNat →
  (zty 123 a0 h37) ∧ ∀ h38 : zH, h38 = sR h37 a0 4 (nx h36) →
  (0 ≤ (40 : Int) ∧ (40 : Int) ≤ 10000) ∧ ∀ h39 : zH, h39 = nw h38 40 ((40 : Int)).toNat →
  (zty 123 a0 h39) ∧ ∀ h40 : zH, h40 = sR h39 a0 5 (nx h38) →
  (0 ≤ (40 : Int) ∧ (40 : Int) ≤ 10000) ∧ ∀ h41 : zH, h41 = nw h40 40 ((40 : Int)).toNat →
  (zty 123 a0 h41) ∧ ∀ h42 : zH, h42 = sR h41 a0 6 (nx h40) →
  (0 ≤ (40 : Int) ∧ (40 : Int) ≤ 10000) ∧ ∀ h43 : zH, h43 = nw h42 40 ((40 : Int)).toNat →
  (zty 123 a0 h43) ∧ ∀ h44 : zH, h44 = sR h43 a0 7 (nx h42) →
  (0 ≤ (40 : Int) ∧ (40 : Int) ≤ 10000) ∧ ∀ h45 : zH, h45 = nw h44 40 ((40 : Int)).toNat →
  (zty 123 a0 h45) ∧ ∀ h46 : zH, h46 = sR h45 a0 8 (nx h44) →
  (0 ≤ (40 : Int) ∧ (40 : Int) ≤ 10000) ∧ ∀ h47 : zH, h47 = nw h46 40 ((40 : Int)).toNat →
  (zty 123 a0 h47) ∧ ∀ h48 : zH, h48 = sR h47 a0 9 (nx h46) →
  (0 ≤ (40 : Int) ∧ (40 : Int) ≤ 10000) ∧ ∀ h49 : zH, h49 = nw h48 40 ((40 : Int)).toNat →
  (zty 123 a0 h49) ∧ ∀ h50 : zH, h50 = sR h49 a0 10 (nx h48) →
  (0 ≤ (40 : Int) ∧ (40 : Int) ≤ 10000) ∧ ∀ h51 : zH, h51 = nw h50 40 ((40 : Int)).toNat →
  (zty 123 a0 h51) ∧ ∀ h52 : zH, h52 = sR h51 a0 11 (nx h50) →
  (0 ≤ (40 : Int) ∧ (40 : Int) ≤ 10000) ∧ ∀ h53 : zH, h53 = nw h52 40 ((40 : Int)).toNat →
  (zty 123 a0 h53) ∧ (gR (sR h53 a0 12 (nx h52)) a0 0 = a0 + 1) ∧ (zty 101 (a0 + 1) (sR h53 a0 12 (nx h52))) ∧ (gR (sR h53 a0 12 (nx h52)) a0 1 = a0 + 3) ∧ (zty 4140 (a0 + 3) (sR h53 a0 12 (nx h52))) ∧ (gR (sR h53 a0 12 (nx h52)) a0 2 = a0 + 4) ∧ (zty 4140 (a0 + 4) (sR h53 a0 12 (nx h52))) ∧ (gR (sR h53 a0 12 (nx h52)) a0 3 = a0 + 5) ∧ (zty 4140 (a0 + 5) (sR h53 a0 12 (nx h52))) ∧ (gR (sR h53 a0 12 (nx h52)) a0 4 = a0 + 6) ∧ (zty 4140 (a0 + 6) (sR h53 a0 12 (nx h52))) ∧ (gR (sR h53 a0 12 (nx h52)) a0 5 = a0 + 7) ∧ (zty 4140 (a0 + 7) (sR h53 a0 12 (nx h52))) ∧ (gR (sR h53 a0 12 (nx h52)) a0 6 = a0 + 8) ∧ (zty 4140 (a0 + 8) (sR h53 a0 12 (nx h52))) ∧ (gR (sR h53 a0 12 (nx h52)) a0 7 = a0 + 9) ∧ (zty 4140 (a0 + 9) (sR h53 a0 12 (nx h52))) ∧ (gR (sR h53 a0 12 (nx h52)) a0 8 = a0 + 10) ∧ (zty 4140 (a0 + 10) (sR h53 a0 12 (nx h52))) ∧ (gR (sR h53 a0 12 (nx h52)) a0 9 = a0 + 11) ∧ (zty 4140 (a0 + 11) (sR h53 a0 12 (nx h52))) ∧ (gR (sR h53 a0 12 (nx h52)) a0 10 = a0 + 12) ∧ (zty 4140 (a0 + 12) (sR h53 a0 12 (nx h52))) ∧ (gR (sR h53 a0 12 (nx h52)) a0 11 = a0 + 13) ∧ (zty 4140 (a0 + 13) (sR h53 a0 12 (nx h52))) ∧ (gR (sR h53 a0 12 (nx h52)) a0 12 = a0 + 14) ∧ (zty 4140 (a0 + 14) (sR h53 a0 12 (nx h52))) ∧ ∀ h54 : zH, h54 = sT (sR h53 a0 12 (nx h52)) a0 3 →
  Q none h54)) : zK 66 0 [vR a0 0] [] h Q :=
  zwpe_W (cd := c66) rfl [] 400 0 _ _ _ _ k
-- 67 SyntaxRules$Rule.itemsOf(III)I
set_option maxRecDepth 100000 in
set_option maxHeartbeats 4000000 in
theorem k67_0 (a0 : Nat) (p1 : Int) (p2 : Int) (p3 : Int) (h : zH) (Q : Option zV → zH → Prop) (k :
  zK 67 6 [vR a0 103, vI p1, vI p2, vI p3, vI 0, vI p2] [] h Q) : zK 67 0 [vR a0 103, vI p1, vI p2, vI p3, vU, vU] [] h Q :=
  zwpe_W (cd := c67) rfl [6] 400 0 _ _ _ _ k
set_option maxRecDepth 100000 in
set_option maxHeartbeats 4000000 in
theorem k67_6 (a0 : Nat) (l1 : Int) (u2 : zV) (l3 : Int) (l4 : Int) (l5 : Int) (h : zH) (Q : Option zV → zH → Prop) (k :
  (l3 ≤ l5 →
    Q (some (vI l4)) h) ∧
    (¬ (l3 ≤ l5) →
    (0 ≤ (l5 : Int)) ∧ ((l5 : Int) < 40) ∧ (¬ (gI h (a0 + 3) l5) = l1 →
      (inR (l4 + 0)) ∧ (inR (l5 + 1)) ∧ zK 67 6 [vR a0 103, vI l1, u2, vI l3, vI (l4 + 0), vI (l5 + 1)] [] h Q) ∧
      (¬ (¬ (gI h (a0 + 3) l5) = l1) →
      (inR (l4 + 1)) ∧ (inR (l5 + 1)) ∧ zK 67 6 [vR a0 103, vI l1, u2, vI l3, vI (l4 + 1), vI (l5 + 1)] [] h Q))) : zK 67 6 [vR a0 103, vI l1, u2, vI l3, vI l4, vI l5] [] h Q :=
  zwpe_W (cd := c67) rfl [6] 400 6 _ _ _ _ k
-- 68 SyntaxRules$Rule.standing(II)I
set_option maxRecDepth 100000 in
set_option maxHeartbeats 4000000 in
theorem k68_0 (a0 : Nat) (p1 : Int) (p2 : Int) (h : zH) (Q : Option zV → zH → Prop) (k :
  zK 68 2 [vR a0 103, vI p1, vI p2, vI p1] [] h Q) : zK 68 0 [vR a0 103, vI p1, vI p2, vU] [] h Q :=
  zwpe_W (cd := c68) rfl [2] 400 0 _ _ _ _ k
set_option maxRecDepth 100000 in
set_option maxHeartbeats 4000000 in
theorem k68_2 (a0 : Nat) (u1 : zV) (l2 : Int) (l3 : Int) (h : zH) (Q : Option zV → zH → Prop) (k :
  ((gI h a0 14) ≤ l3 →
    Q (some (vI ((-1)))) h) ∧
    (¬ ((gI h a0 14) ≤ l3) →
    (0 ≤ (l3 : Int)) ∧ ((l3 : Int) < 40) ∧ (¬ (gI h (a0 + 4) l3) = l2 →
      (inR (l3 + 1)) ∧ zK 68 2 [vR a0 103, u1, vI l2, vI (l3 + 1)] [] h Q) ∧
      (¬ (¬ (gI h (a0 + 4) l3) = l2) →
      Q (some (vI l3)) h))) : zK 68 2 [vR a0 103, u1, vI l2, vI l3] [] h Q :=
  zwpe_W (cd := c68) rfl [2] 400 2 _ _ _ _ k
-- 69 SyntaxRules$Rule.rowsBehind(I)I
set_option maxRecDepth 100000 in
set_option maxHeartbeats 4000000 in
theorem k69_0 (a0 : Nat) (p1 : Int) (h : zH) (Q : Option zV → zH → Prop) (k :
  (0 ≤ (p1 : Int)) ∧ ((p1 : Int) < 40) ∧ (¬ (gI h (a0 + 6) p1) = (-1) →
    (0 ≤ (p1 : Int)) ∧ ((p1 : Int) < 40) ∧ (0 ≤ (gI h (a0 + 6) p1 : Int)) ∧ ((gI h (a0 + 6) p1 : Int) < 40) ∧ (0 ≤ (p1 : Int)) ∧ ((p1 : Int) < 40) ∧ (inR ((gI h (a0 + 10) (gI h (a0 + 6) p1)) - (gI h (a0 + 11) p1))) ∧ Q (some (vI ((gI h (a0 + 10) (gI h (a0 + 6) p1)) - (gI h (a0 + 11) p1)))) h) ∧
    (¬ (¬ (gI h (a0 + 6) p1) = (-1)) →
    Q (some (vI 0)) h)) : zK 69 0 [vR a0 103, vI p1] [] h Q :=
  zwpe_W (cd := c69) rfl [] 400 0 _ _ _ _ k
-- 70 SyntaxRules$Rule.singlesBehind(I)I
set_option maxRecDepth 100000 in
set_option maxHeartbeats 4000000 in
theorem k70_0 (a0 : Nat) (p1 : Int) (h : zH) (Q : Option zV → zH → Prop) (k :
  (0 ≤ (p1 : Int)) ∧ ((p1 : Int) < 40) ∧ (¬ (gI h (a0 + 6) p1) = (-1) →
    (0 ≤ (gI h (a0 + 6) p1 : Int)) ∧ ((gI h (a0 + 6) p1 : Int) < 40) ∧ (0 ≤ (p1 : Int)) ∧ ((p1 : Int) < 40) ∧ (inR ((gI h (a0 + 9) (gI h (a0 + 6) p1)) - (gI h (a0 + 8) p1))) ∧ (inR (((gI h (a0 + 9) (gI h (a0 + 6) p1)) - (gI h (a0 + 8) p1)) - 1)) ∧ (0 ≤ (gI h (a0 + 6) p1 : Int)) ∧ ((gI h (a0 + 6) p1 : Int) < 40) ∧ (0 ≤ (p1 : Int)) ∧ ((p1 : Int) < 40) ∧ (inR ((gI h (a0 + 10) (gI h (a0 + 6) p1)) - (gI h (a0 + 11) p1))) ∧ (inR ((((gI h (a0 + 9) (gI h (a0 + 6) p1)) - (gI h (a0 + 8) p1)) - 1) - ((gI h (a0 + 10) (gI h (a0 + 6) p1)) - (gI h (a0 + 11) p1)))) ∧ Q (some (vI ((((gI h (a0 + 9) (gI h (a0 + 6) p1)) - (gI h (a0 + 8) p1)) - 1) - ((gI h (a0 + 10) (gI h (a0 + 6) p1)) - (gI h (a0 + 11) p1))))) h) ∧
    (¬ (¬ (gI h (a0 + 6) p1) = (-1)) →
    Q (some (vI 0)) h)) : zK 70 0 [vR a0 103, vI p1, vU] [] h Q :=
  zwpe_W (cd := c70) rfl [] 400 0 _ _ _ _ k
-- 71 SyntaxRules$Rule.sameWord(ILSyntaxRules$Rule;I)Z
set_option maxRecDepth 100000 in
set_option maxHeartbeats 4000000 in
theorem k71_0 (a0 : Nat) (p1 : Int) (p2 : Nat) (p3 : Int) (h : zH) (Q : Option zV → zH → Prop) (k :
  (0 ≤ (p1 : Int)) ∧ ((p1 : Int) < 40) ∧ (0 ≤ (p3 : Int)) ∧ ((p3 : Int) < 40) ∧ (¬ (gI h (a0 + 14) p1) = (gI h (p2 + 14) p3) →
    ((0 : Int) = 0 ∨ (0 : Int) = 1) ∧ Q (some (vI 0)) h) ∧
    (¬ (¬ (gI h (a0 + 14) p1) = (gI h (p2 + 14) p3)) →
    (0 ≤ (p1 : Int)) ∧ ((p1 : Int) < 40) ∧ (0 ≤ (p3 : Int)) ∧ ((p3 : Int) < 40) ∧ zC1 47 [vR (a0 + 1) 101, vI (gI h (a0 + 13) p1), vR (p2 + 1) 101, vI (gI h (p2 + 13) p3), vI (gI h (a0 + 14) p1)] h (fun v2 h2 =>
    (v2 = 0 →
      ((0 : Int) = 0 ∨ (0 : Int) = 1) ∧ Q (some (vI 0)) h2) ∧
      (¬ (v2 = 0) →
      ((1 : Int) = 0 ∨ (1 : Int) = 1) ∧ Q (some (vI 1)) h2)))) : zK 71 0 [vR a0 103, vI p1, vR p2 103, vI p3, vU] [] h Q :=
  zwpe_W (cd := c71) rfl [] 400 0 _ _ _ _ k
-- 72 SyntaxRules$Rule.sameTokens(ILSyntaxRules$Rule;I)Z
set_option maxRecDepth 100000 in
set_option maxHeartbeats 4000000 in
theorem k72_0 (a0 : Nat) (p1 : Int) (p2 : Nat) (p3 : Int) (h : zH) (Q : Option zV → zH → Prop) (k :
  (0 ≤ (p1 : Int)) ∧ ((p1 : Int) < 40) ∧ (0 ≤ (p3 : Int)) ∧ ((p3 : Int) < 40) ∧ ((gI h (a0 + 12) p1) = (gI h (p2 + 12) p3) →
    zK 72 20 [vR a0 103, vI p1, vR p2 103, vI p3, vI 0, vU, vU] [] h Q) ∧
    (¬ ((gI h (a0 + 12) p1) = (gI h (p2 + 12) p3)) →
    ((0 : Int) = 0 ∨ (0 : Int) = 1) ∧ Q (some (vI 0)) h)) : zK 72 0 [vR a0 103, vI p1, vR p2 103, vI p3, vU, vU, vU] [] h Q :=
  zwpe_W (cd := c72) rfl [20] 400 0 _ _ _ _ k
set_option maxRecDepth 100000 in
set_option maxHeartbeats 4000000 in
theorem k72_20 (a0 : Nat) (l1 : Int) (a2 : Nat) (l3 : Int) (l4 : Int) (u5 : zV) (u6 : zV) (h : zH) (Q : Option zV → zH → Prop) (k :
  (0 ≤ (l1 : Int)) ∧ ((l1 : Int) < 40) ∧ ((gI h (a0 + 12) l1) ≤ l4 →
    ((1 : Int) = 0 ∨ (1 : Int) = 1) ∧ Q (some (vI 1)) h) ∧
    (¬ ((gI h (a0 + 12) l1) ≤ l4) →
    (inR (l1 + l4)) ∧ (inR (l3 + l4)) ∧ (0 ≤ (l1 + l4 : Int)) ∧ ((l1 + l4 : Int) < 40) ∧ (0 ≤ (l3 + l4 : Int)) ∧ ((l3 + l4 : Int) < 40) ∧ (¬ (gI h (a0 + 3) (l1 + l4)) = (gI h (a2 + 3) (l3 + l4)) →
      ((0 : Int) = 0 ∨ (0 : Int) = 1) ∧ Q (some (vI 0)) h) ∧
      (¬ (¬ (gI h (a0 + 3) (l1 + l4)) = (gI h (a2 + 3) (l3 + l4))) →
      (0 ≤ (l1 + l4 : Int)) ∧ ((l1 + l4 : Int) < 40) ∧ (0 ≤ (l3 + l4 : Int)) ∧ ((l3 + l4 : Int) < 40) ∧ (¬ (gI h (a0 + 4) (l1 + l4)) = (gI h (a2 + 4) (l3 + l4)) →
        ((0 : Int) = 0 ∨ (0 : Int) = 1) ∧ Q (some (vI 0)) h) ∧
        (¬ (¬ (gI h (a0 + 4) (l1 + l4)) = (gI h (a2 + 4) (l3 + l4))) →
        (0 ≤ (l1 + l4 : Int)) ∧ ((l1 + l4 : Int) < 40) ∧ (0 ≤ (l3 + l4 : Int)) ∧ ((l3 + l4 : Int) < 40) ∧ (¬ (gI h (a0 + 5) (l1 + l4)) = (gI h (a2 + 5) (l3 + l4)) →
          ((0 : Int) = 0 ∨ (0 : Int) = 1) ∧ Q (some (vI 0)) h) ∧
          (¬ (¬ (gI h (a0 + 5) (l1 + l4)) = (gI h (a2 + 5) (l3 + l4))) →
          (0 ≤ (l1 + l4 : Int)) ∧ ((l1 + l4 : Int) < 40) ∧ (0 ≤ (l3 + l4 : Int)) ∧ ((l3 + l4 : Int) < 40) ∧ (¬ (gI h (a0 + 9) (l1 + l4)) = (gI h (a2 + 9) (l3 + l4)) →
            ((0 : Int) = 0 ∨ (0 : Int) = 1) ∧ Q (some (vI 0)) h) ∧
            (¬ (¬ (gI h (a0 + 9) (l1 + l4)) = (gI h (a2 + 9) (l3 + l4))) →
            zC1 71 [vR a0 103, vI (l1 + l4), vR a2 103, vI (l3 + l4)] h (fun v2 h2 =>
            (¬ v2 = 0 →
              (inR (l4 + 1)) ∧ zK 72 20 [vR a0 103, vI l1, vR a2 103, vI l3, vI (l4 + 1), vI (l1 + l4), vI (l3 + l4)] [] h2 Q) ∧
              (¬ (¬ v2 = 0) →
              ((0 : Int) = 0 ∨ (0 : Int) = 1) ∧ Q (some (vI 0)) h2)))))))) : zK 72 20 [vR a0 103, vI l1, vR a2 103, vI l3, vI l4, u5, u6] [] h Q :=
  zwpe_W (cd := c72) rfl [20] 400 20 _ _ _ _ k
-- 73 SyntaxRules$Rule.samePath(ILSyntaxRules$Rule;I)Z
set_option maxRecDepth 100000 in
set_option maxHeartbeats 4000000 in
theorem k73_0 (a0 : Nat) (p1 : Int) (p2 : Nat) (p3 : Int) (h : zH) (Q : Option zV → zH → Prop) (k :
  zK 73 9 [vR a0 103, vI p1, vR p2 103, vI p3, vI p1, vI p3, vI 0] [] h Q) : zK 73 0 [vR a0 103, vI p1, vR p2 103, vI p3, vU, vU, vU] [] h Q :=
  zwpe_W (cd := c73) rfl [9] 400 0 _ _ _ _ k
set_option maxRecDepth 100000 in
set_option maxHeartbeats 4000000 in
theorem k73_9 (a0 : Nat) (u1 : zV) (a2 : Nat) (u3 : zV) (l4 : Int) (l5 : Int) (l6 : Int) (h : zH) (Q : Option zV → zH → Prop) (k :
  (20 ≤ l6 →
    (¬ l4 = l5 →
      ((0 : Int) = 0 ∨ (0 : Int) = 1) ∧ Q (some (vI 0)) h) ∧
      (¬ (¬ l4 = l5) →
      ((1 : Int) = 0 ∨ (1 : Int) = 1) ∧ Q (some (vI 1)) h)) ∧
    (¬ (20 ≤ l6) →
    (l4 = (-1) →
      (¬ l4 = l5 →
        ((0 : Int) = 0 ∨ (0 : Int) = 1) ∧ Q (some (vI 0)) h) ∧
        (¬ (¬ l4 = l5) →
        ((1 : Int) = 0 ∨ (1 : Int) = 1) ∧ Q (some (vI 1)) h)) ∧
      (¬ (l4 = (-1)) →
      (l5 = (-1) →
        (¬ l4 = l5 →
          ((0 : Int) = 0 ∨ (0 : Int) = 1) ∧ Q (some (vI 0)) h) ∧
          (¬ (¬ l4 = l5) →
          ((1 : Int) = 0 ∨ (1 : Int) = 1) ∧ Q (some (vI 1)) h)) ∧
        (¬ (l5 = (-1)) →
        (0 ≤ (l4 : Int)) ∧ ((l4 : Int) < 40) ∧ (0 ≤ (l5 : Int)) ∧ ((l5 : Int) < 40) ∧ ((gI h (a0 + 8) l4) = (gI h (a2 + 8) l5) →
          (0 ≤ (l4 : Int)) ∧ ((l4 : Int) < 40) ∧ (0 ≤ (l5 : Int)) ∧ ((l5 : Int) < 40) ∧ (inR (l6 + 1)) ∧ zK 73 9 [vR a0 103, u1, vR a2 103, u3, vI (gI h (a0 + 6) l4), vI (gI h (a2 + 6) l5), vI (l6 + 1)] [] h Q) ∧
          (¬ ((gI h (a0 + 8) l4) = (gI h (a2 + 8) l5)) →
          ((0 : Int) = 0 ∨ (0 : Int) = 1) ∧ Q (some (vI 0)) h))))) : zK 73 9 [vR a0 103, u1, vR a2 103, u3, vI l4, vI l5, vI l6] [] h Q :=
  zwpe_W (cd := c73) rfl [9] 400 9 _ _ _ _ k
-- 74 SyntaxRules$RuleReader.<init>()V
set_option maxRecDepth 100000 in
set_option maxHeartbeats 4000000 in
theorem k74_0 (a0 : Nat) (h : zH) (Q : Option zV → zH → Prop) (k :
  (0 ≤ (40 : Int) ∧ (40 : Int) ≤ 10000) ∧ ∀ h3 : zH, h3 = nw h 40 ((40 : Int)).toNat →
  (zty 124 a0 h3) ∧ (gR (sR h3 a0 10 (nx h)) a0 10 = a0 + 1) ∧ (zty 4140 (a0 + 1) (sR h3 a0 10 (nx h))) ∧ ∀ h4 : zH, h4 = sT (sR h3 a0 10 (nx h)) a0 4 →
  Q none h4) : zK 74 0 [vR a0 0] [] h Q :=
  zwpe_W (cd := c74) rfl [] 400 0 _ _ _ _ k
-- 75 SyntaxRules$RuleReader.read(LSyntaxRules$Text;)LSyntaxRules$Rule;
set_option maxRecDepth 100000 in
set_option maxHeartbeats 4000000 in
theorem k75_0 (p1 : Nat) (h : zH) (Q : Option zV → zH → Prop) (k :
  ∀ h17 : zH, h17 = nw h 23 16 →
  zC0 66 [vR (nx h) 0] h17 (fun h18 =>
  ∀ h19 : zH, h19 = sR h18 54 2 (nx h) →
  (zty 103 (gR h19 54 2) h19) ∧ zC0 45 [vR (gR h19 54 2 + 1) 101, vR p1 101] h19 (fun h20 =>
  (zty 103 (gR h20 54 2) h20) ∧ ∀ h21 : zH, h21 = sR h20 54 1 (gR h20 54 2 + 1) →
  ∀ h22 : zH, h22 = sI h21 54 0 0 →
  ∀ h23 : zH, h23 = sI h22 54 6 0 →
  ∀ h24 : zH, h24 = sI h23 54 7 0 →
  ∀ h25 : zH, h25 = sI h24 54 8 0 →
  ∀ h26 : zH, h26 = sI h25 54 9 0 →
  ((0 : Int) = 0 ∨ (0 : Int) = 1) ∧ ∀ h27 : zH, h27 = sI h26 54 5 0 →
  zC1 77 [vR 54 104] h27 (fun v28 h28 =>
  (v28 = 0 →
    Q (some (vR 0 0)) h28) ∧
    (¬ (v28 = 0) →
    zC1 76 [vR 54 104] h28 (fun v29 h29 =>
    (¬ v29 = 0 →
      ((1 : Int) = 0 ∨ (1 : Int) = 1) ∧ ∀ h30 : zH, h30 = sI h29 54 5 1 →
      zC1 77 [vR 54 104] h30 (fun v31 h31 =>
      (¬ v31 = 0 →
        zC0 78 [vR 54 104] h31 (fun h32 =>
        (zty 101 (gR h32 54 1) h32) ∧ (¬ (gI h32 54 0) = (gI h32 (gR h32 54 1) 1) →
          Q (some (vR 0 0)) h32) ∧
          (¬ (¬ (gI h32 54 0) = (gI h32 (gR h32 54 1) 1)) →
          (zty 103 (gR h32 54 2) h32) ∧ Q (some (vR (gR h32 54 2) 0)) h32))) ∧
        (¬ (¬ v31 = 0) →
        Q (some (vR 0 0)) h31))) ∧
      (¬ (¬ v29 = 0) →
      Q (some (vR 0 0)) h29))))))) : zK 75 0 [vR 54 104, vR p1 101] [] h Q :=
  zwpe_W (cd := c75) rfl [] 400 0 _ _ _ _ k
-- 76 SyntaxRules$RuleReader.passEquals()Z
set_option maxRecDepth 100000 in
set_option maxHeartbeats 4000000 in
theorem k76_0 (h : zH) (Q : Option zV → zH → Prop) (k :
  (zty 103 (gR h 54 2) h) ∧ (zty 103 (gR h 54 2) h) ∧ ∀ h6 : zH, h6 = sI h (gR h 54 2) 14 (gI h (gR h 54 2) 13) →
  (zty 103 (gR h6 54 2) h6) ∧ ∀ h7 : zH, h7 = sI h6 (gR h6 54 2) 15 (iOr (gI h6 54 8) (gI h6 54 9)) →
  zC0 78 [vR 54 104] h7 (fun h8 =>
  (zty 101 (gR h8 54 1) h8) ∧ zC1 44 [vR (gR h8 54 1) 101, vI (gI h8 54 0)] h8 (fun v9 h9 =>
  (v9 = 61 →
    (inR ((gI h9 54 0) + 1)) ∧ ∀ h10 : zH, h10 = sI h9 54 0 ((gI h9 54 0) + 1) →
    ((1 : Int) = 0 ∨ (1 : Int) = 1) ∧ Q (some (vI 1)) h10) ∧
    (¬ (v9 = 61) →
    ((0 : Int) = 0 ∨ (0 : Int) = 1) ∧ Q (some (vI 0)) h9)))) : zK 76 0 [vR 54 104] [] h Q :=
  zwpe_W (cd := c76) rfl [] 400 0 _ _ _ _ k
-- 77 SyntaxRules$RuleReader.readSide()Z
set_option maxRecDepth 100000 in
set_option maxHeartbeats 4000000 in
theorem k77_0 (h : zH) (Q : Option zV → zH → Prop) (k :
  ∀ h9 : zH, h9 = sI h 54 3 (-1) →
  (zty 103 (gR h9 54 2) h9) ∧ ∀ h10 : zH, h10 = sI h9 54 4 (gI h9 (gR h9 54 2) 13) →
  zK 77 18 [vR 54 104, vI 0, vU] [] h10 Q) : zK 77 0 [vR 54 104, vU, vU] [] h Q :=
  zwpe_W (cd := c77) rfl [18, 76] 400 0 _ _ _ _ k
set_option maxRecDepth 100000 in
set_option maxHeartbeats 4000000 in
theorem k77_18 (l1 : Int) (u2 : zV) (h : zH) (Q : Option zV → zH → Prop) (k :
  (300 < l1 →
    ((0 : Int) = 0 ∨ (0 : Int) = 1) ∧ Q (some (vI 0)) h) ∧
    (¬ (300 < l1) →
    zC0 78 [vR 54 104] h (fun h11 =>
    (zty 101 (gR h11 54 1) h11) ∧ zC1 44 [vR (gR h11 54 1) 101, vI (gI h11 54 0)] h11 (fun v12 h12 =>
    (¬ v12 = 41 →
      zK 77 76 [vR 54 104, vI l1, vI v12] [] h12 Q) ∧
      (¬ (¬ v12 = 41) →
      zC1 79 [vR 54 104] h12 (fun v13 h13 =>
      (v13 = 0 →
        zK 77 76 [vR 54 104, vI l1, vI v12] [] h13 Q) ∧
        (¬ (v13 = 0) →
        (inR ((gI h13 54 0) + 1)) ∧ ∀ h14 : zH, h14 = sI h13 54 0 ((gI h13 54 0) + 1) →
        zC1 89 [vR 54 104, vI (gI h14 54 3)] h14 (fun v15 h15 =>
        (¬ (gI h15 54 3) = (-1) →
          (inR (l1 + 1)) ∧ zK 77 18 [vR 54 104, vI (l1 + 1), vI v12] [] h15 Q) ∧
          (¬ (¬ (gI h15 54 3) = (-1)) →
          ((1 : Int) = 0 ∨ (1 : Int) = 1) ∧ Q (some (vI 1)) h15))))))))) : zK 77 18 [vR 54 104, vI l1, u2] [] h Q :=
  zwpe_W (cd := c77) rfl [18, 76] 400 18 _ _ _ _ k
set_option maxRecDepth 100000 in
set_option maxHeartbeats 4000000 in
theorem k77_76 (l1 : Int) (l2 : Int) (h : zH) (Q : Option zV → zH → Prop) (k :
  zC1 80 [vR 54 104, vI l2] h (fun v16 h16 =>
  (¬ v16 = 0 →
    (¬ (gI h16 54 3) = (-1) →
      (inR (l1 + 1)) ∧ zK 77 18 [vR 54 104, vI (l1 + 1), vI l2] [] h16 Q) ∧
      (¬ (¬ (gI h16 54 3) = (-1)) →
      ((1 : Int) = 0 ∨ (1 : Int) = 1) ∧ Q (some (vI 1)) h16)) ∧
    (¬ (¬ v16 = 0) →
    ((0 : Int) = 0 ∨ (0 : Int) = 1) ∧ Q (some (vI 0)) h16))) : zK 77 76 [vR 54 104, vI l1, vI l2] [] h Q :=
  zwpe_W (cd := c77) rfl [18, 76] 400 76 _ _ _ _ k
-- 78 SyntaxRules$RuleReader.passBlanks()V
set_option maxRecDepth 100000 in
set_option maxHeartbeats 4000000 in
theorem k78_0 (h : zH) (Q : Option zV → zH → Prop) (k :
  zK 78 2 [vR 54 104, vI 0] [] h Q) : zK 78 0 [vR 54 104, vU] [] h Q :=
  zwpe_W (cd := c78) rfl [2] 400 0 _ _ _ _ k
set_option maxRecDepth 100000 in
set_option maxHeartbeats 4000000 in
theorem k78_2 (l1 : Int) (h : zH) (Q : Option zV → zH → Prop) (k :
  (300 < l1 →
    Q none h) ∧
    (¬ (300 < l1) →
    (zty 101 (gR h 54 1) h) ∧ zC1 44 [vR (gR h 54 1) 101, vI (gI h 54 0)] h (fun v3 h3 =>
    (¬ v3 = 32 →
      Q none h3) ∧
      (¬ (¬ v3 = 32) →
      (inR ((gI h3 54 0) + 1)) ∧ ∀ h4 : zH, h4 = sI h3 54 0 ((gI h3 54 0) + 1) →
      (inR (l1 + 1)) ∧ zK 78 2 [vR 54 104, vI (l1 + 1)] [] h4 Q)))) : zK 78 2 [vR 54 104, vI l1] [] h Q :=
  zwpe_W (cd := c78) rfl [2] 400 2 _ _ _ _ k
-- 79 SyntaxRules$RuleReader.isInTerm()Z
set_option maxRecDepth 100000 in
set_option maxHeartbeats 4000000 in
theorem k79_0 (h : zH) (Q : Option zV → zH → Prop) (k :
  ((gI h 54 3) = (-1) →
    ((0 : Int) = 0 ∨ (0 : Int) = 1) ∧ Q (some (vI 0)) h) ∧
    (¬ ((gI h 54 3) = (-1)) →
    (zty 103 (gR h 54 2) h) ∧ (0 ≤ (gI h 54 3 : Int)) ∧ ((gI h 54 3 : Int) < 40) ∧ (¬ (gI h (gR h 54 2 + 3) (gI h 54 3)) = 4 →
      ((0 : Int) = 0 ∨ (0 : Int) = 1) ∧ Q (some (vI 0)) h) ∧
      (¬ (¬ (gI h (gR h 54 2 + 3) (gI h 54 3)) = 4) →
      ((1 : Int) = 0 ∨ (1 : Int) = 1) ∧ Q (some (vI 1)) h))) : zK 79 0 [vR 54 104] [] h Q :=
  zwpe_W (cd := c79) rfl [] 400 0 _ _ _ _ k
-- 80 SyntaxRules$RuleReader.readItem(I)Z
set_option maxRecDepth 100000 in
set_option maxHeartbeats 4000000 in
theorem k80_0 (p1 : Int) (h : zH) (Q : Option zV → zH → Prop) (k :
  zC1 81 [vI p1] h (fun v18 h18 =>
  (v18 = (-1) →
    ((0 : Int) = 0 ∨ (0 : Int) = 1) ∧ Q (some (vI 0)) h18) ∧
    (¬ (v18 = (-1)) →
    (zty 103 (gR h18 54 2) h18) ∧ (inR ((gI h18 (gR h18 54 2) 13) - (gI h18 54 4))) ∧ (((gI h18 (gR h18 54 2) 13) - (gI h18 54 4)) = 20 →
      ((0 : Int) = 0 ∨ (0 : Int) = 1) ∧ Q (some (vI 0)) h18) ∧
      (¬ (((gI h18 (gR h18 54 2) 13) - (gI h18 54 4)) = 20) →
      zC1 82 [vR 54 104, vI v18] h18 (fun v19 h19 =>
      (¬ v19 = 0 →
        zC1 83 [vR 54 104, vI v18] h19 (fun v20 h20 =>
        (¬ v18 = 3 →
          (inR ((gI h20 54 0) + 1)) ∧ ∀ h21 : zH, h21 = sI h20 54 0 ((gI h20 54 0) + 1) →
          (v18 = (1 : Int) →
            zK 80 120 [vR 54 104, vI p1, vI v18, vI v20] [] h21 Q) ∧
            (¬ (v18 = (1 : Int)) →
            (v18 = ((1 : Int) + 1) →
            ∀ h29 : zH, h29 = sI h21 54 3 v20 →
            ((1 : Int) = 0 ∨ (1 : Int) = 1) ∧ Q (some (vI 1)) h29) ∧
            (¬ (v18 = ((1 : Int) + 1)) →
            (v18 = ((1 : Int) + 1 + 1) →
            zC1 89 [vR 54 104, vI v20] h21 (fun v28 h28 =>
            ((v28 : Int) = 0 ∨ (v28 : Int) = 1) ∧ Q (some (vI v28)) h28)) ∧
            (¬ (v18 = ((1 : Int) + 1 + 1)) →
            (v18 = ((1 : Int) + 1 + 1 + 1) →
            ∀ h23 : zH, h23 = sI h21 54 3 v20 →
            zC0 78 [vR 54 104] h23 (fun h24 =>
            (zty 101 (gR h24 54 1) h24) ∧ zC1 44 [vR (gR h24 54 1) 101, vI (gI h24 54 0)] h24 (fun v25 h25 =>
            zC1 33 [vI v25] h25 (fun v26 h26 =>
            (v26 = 0 →
              ((0 : Int) = 0 ∨ (0 : Int) = 1) ∧ Q (some (vI 0)) h26) ∧
              (¬ (v26 = 0) →
              zC1 85 [vR 54 104, vI v20, vI 1] h26 (fun v27 h27 =>
              (v27 = 0 →
                ((0 : Int) = 0 ∨ (0 : Int) = 1) ∧ Q (some (vI 0)) h27) ∧
                (¬ (v27 = 0) →
                ((1 : Int) = 0 ∨ (1 : Int) = 1) ∧ Q (some (vI 1)) h27))))))) ∧
            (¬ (v18 = ((1 : Int) + 1 + 1 + 1)) →
            (v18 = ((1 : Int) + 1 + 1 + 1 + 1) →
            zK 80 120 [vR 54 104, vI p1, vI v18, vI v20] [] h21 Q) ∧
            (¬ (v18 = ((1 : Int) + 1 + 1 + 1 + 1)) →
            zC1 89 [vR 54 104, vI v20] h21 (fun v22 h22 =>
            ((v22 : Int) = 0 ∨ (v22 : Int) = 1) ∧ Q (some (vI v22)) h22))))))) ∧
          (¬ (¬ v18 = 3) →
          zC1 33 [vI p1] h20 (fun v30 h30 =>
          zC1 85 [vR 54 104, vI v20, vI v30] h30 (fun v31 h31 =>
          (v31 = 0 →
            ((0 : Int) = 0 ∨ (0 : Int) = 1) ∧ Q (some (vI 0)) h31) ∧
            (¬ (v31 = 0) →
            zC1 89 [vR 54 104, vI v20] h31 (fun v32 h32 =>
            (v32 = 0 →
              ((0 : Int) = 0 ∨ (0 : Int) = 1) ∧ Q (some (vI 0)) h32) ∧
              (¬ (v32 = 0) →
              ((1 : Int) = 0 ∨ (1 : Int) = 1) ∧ Q (some (vI 1)) h32)))))))) ∧
        (¬ (¬ v19 = 0) →
        ((0 : Int) = 0 ∨ (0 : Int) = 1) ∧ Q (some (vI 0)) h19)))))) : zK 80 0 [vR 54 104, vI p1, vU, vU] [] h Q :=
  zwpe_W (cd := c80) rfl [120] 400 0 _ _ _ _ k
set_option maxRecDepth 100000 in
set_option maxHeartbeats 4000000 in
theorem k80_120 (u1 : zV) (u2 : zV) (l3 : Int) (h : zH) (Q : Option zV → zH → Prop) (k :
  zC1 86 [vR 54 104, vI l3] h (fun v33 h33 =>
  (v33 = 0 →
    ((0 : Int) = 0 ∨ (0 : Int) = 1) ∧ Q (some (vI 0)) h33) ∧
    (¬ (v33 = 0) →
    zC1 89 [vR 54 104, vI l3] h33 (fun v34 h34 =>
    (v34 = 0 →
      ((0 : Int) = 0 ∨ (0 : Int) = 1) ∧ Q (some (vI 0)) h34) ∧
      (¬ (v34 = 0) →
      ((1 : Int) = 0 ∨ (1 : Int) = 1) ∧ Q (some (vI 1)) h34))))) : zK 80 120 [vR 54 104, u1, u2, vI l3] [] h Q :=
  zwpe_W (cd := c80) rfl [120] 400 120 _ _ _ _ k
-- 81 SyntaxRules$RuleReader.opOf(I)I
set_option maxRecDepth 100000 in
set_option maxHeartbeats 4000000 in
theorem k81_0 (p0 : Int) (h : zH) (Q : Option zV → zH → Prop) (k :
  (p0 = 40 →
    Q (some (vI 4)) h) ∧
    (¬ (p0 = 40) →
    (p0 = 42 →
    Q (some (vI 5)) h) ∧
    (¬ (p0 = 42) →
    (p0 = 63 →
    Q (some (vI 1)) h) ∧
    (¬ (p0 = 63) →
    (p0 = 94 →
    Q (some (vI 2)) h) ∧
    (¬ (p0 = 94) →
    (p0 = 95 →
    Q (some (vI 0)) h) ∧
    (¬ (p0 = 95) →
    zC1 33 [vI p0] h (fun v3 h3 =>
    (¬ v3 = 0 →
      Q (some (vI 3)) h3) ∧
      (¬ (¬ v3 = 0) →
      zC1 34 [vI p0] h3 (fun v4 h4 =>
      (v4 = 0 →
        Q (some (vI ((-1)))) h4) ∧
        (¬ (v4 = 0) →
        Q (some (vI 3)) h4)))))))))) : zK 81 0 [vI p0] [] h Q :=
  zwpe_W (cd := c81) rfl [] 400 0 _ _ _ _ k
-- 82 SyntaxRules$RuleReader.mayStand(I)Z
set_option maxRecDepth 100000 in
set_option maxHeartbeats 4000000 in
theorem k82_0 (p1 : Int) (h : zH) (Q : Option zV → zH → Prop) (k :
  (p1 = 0 →
    (¬ (gI h 54 5) = 0 →
      ((0 : Int) = 0 ∨ (0 : Int) = 1) ∧ Q (some (vI 0)) h) ∧
      (¬ (¬ (gI h 54 5) = 0) →
      ((1 : Int) = 0 ∨ (1 : Int) = 1) ∧ Q (some (vI 1)) h)) ∧
    (¬ (p1 = 0) →
    (p1 = 2 →
    (¬ (gI h 54 5) = 0 →
      ((0 : Int) = 0 ∨ (0 : Int) = 1) ∧ Q (some (vI 0)) h) ∧
      (¬ (¬ (gI h 54 5) = 0) →
      (¬ (gI h 54 7) = 0 →
        ((0 : Int) = 0 ∨ (0 : Int) = 1) ∧ Q (some (vI 0)) h) ∧
        (¬ (¬ (gI h 54 7) = 0) →
        ((1 : Int) = 0 ∨ (1 : Int) = 1) ∧ Q (some (vI 1)) h))) ∧
    (¬ (p1 = 2) →
    (p1 = 5 →
    zC1 79 [vR 54 104] h (fun v2 h2 =>
    (v2 = 0 →
      ((0 : Int) = 0 ∨ (0 : Int) = 1) ∧ Q (some (vI 0)) h2) ∧
      (¬ (v2 = 0) →
      (¬ (gI h2 54 5) = 0 →
        ((1 : Int) = 0 ∨ (1 : Int) = 1) ∧ Q (some (vI 1)) h2) ∧
        (¬ (¬ (gI h2 54 5) = 0) →
        (2 ≤ (gI h2 54 6) →
          ((0 : Int) = 0 ∨ (0 : Int) = 1) ∧ Q (some (vI 0)) h2) ∧
          (¬ (2 ≤ (gI h2 54 6)) →
          ((1 : Int) = 0 ∨ (1 : Int) = 1) ∧ Q (some (vI 1)) h2))))) ∧
    (¬ (p1 = 5) →
    ((1 : Int) = 0 ∨ (1 : Int) = 1) ∧ Q (some (vI 1)) h)))) : zK 82 0 [vR 54 104, vI p1] [] h Q :=
  zwpe_W (cd := c82) rfl [] 400 0 _ _ _ _ k
-- 83 SyntaxRules$RuleReader.addItem(I)I
set_option maxRecDepth 100000 in
set_option maxHeartbeats 4000000 in
theorem k83_0 (p1 : Int) (h : zH) (Q : Option zV → zH → Prop) (k :
  (zty 103 (gR h 54 2) h) ∧ (zty 103 (gR h 54 2) h) ∧ (inR ((gI h (gR h 54 2) 13) + 1)) ∧ ∀ h11 : zH, h11 = sI h (gR h 54 2) 13 ((gI h (gR h 54 2) 13) + 1) →
  (zty 103 (gR h11 54 2) h11) ∧ (0 ≤ (gI h (gR h 54 2) 13 : Int)) ∧ ((gI h (gR h 54 2) 13 : Int) < 40) ∧ ∀ h12 : zH, h12 = sI h11 (gR h11 54 2 + 3) (gI h (gR h 54 2) 13) p1 →
  (zty 103 (gR h12 54 2) h12) ∧ (0 ≤ (gI h (gR h 54 2) 13 : Int)) ∧ ((gI h (gR h 54 2) 13 : Int) < 40) ∧ ∀ h13 : zH, h13 = sI h12 (gR h12 54 2 + 4) (gI h (gR h 54 2) 13) (-1) →
  (zty 103 (gR h13 54 2) h13) ∧ (0 ≤ (gI h (gR h 54 2) 13 : Int)) ∧ ((gI h (gR h 54 2) 13 : Int) < 40) ∧ ∀ h14 : zH, h14 = sI h13 (gR h13 54 2 + 5) (gI h (gR h 54 2) 13) (-1) →
  (zty 103 (gR h14 54 2) h14) ∧ (0 ≤ (gI h (gR h 54 2) 13 : Int)) ∧ ((gI h (gR h 54 2) 13 : Int) < 40) ∧ ∀ h15 : zH, h15 = sI h14 (gR h14 54 2 + 6) (gI h (gR h 54 2) 13) (gI h14 54 3) →
  (zty 103 (gR h15 54 2) h15) ∧ (0 ≤ (gI h (gR h 54 2) 13 : Int)) ∧ ((gI h (gR h 54 2) 13 : Int) < 40) ∧ ∀ h16 : zH, h16 = sI h15 (gR h15 54 2 + 7) (gI h (gR h 54 2) 13) (-1) →
  (¬ (gI h16 54 5) = 0 →
    ((gI h16 54 3) = (-1) →
      Q (some (vI (gI h (gR h 54 2) 13))) h16) ∧
      (¬ ((gI h16 54 3) = (-1)) →
      zC0 84 [vR 54 104, vI (gI h (gR h 54 2) 13)] h16 (fun h17 =>
      Q (some (vI (gI h (gR h 54 2) 13))) h17))) ∧
    (¬ (¬ (gI h16 54 5) = 0) →
    (¬ p1 = 2 →
      zK 83 96 [vR 54 104, vI p1, vI (gI h (gR h 54 2) 13)] [vI 0, vI (gI h16 54 7), vR 54 104] h16 Q) ∧
      (¬ (¬ p1 = 2) →
      zK 83 96 [vR 54 104, vI p1, vI (gI h (gR h 54 2) 13)] [vI 1, vI (gI h16 54 7), vR 54 104] h16 Q))) : zK 83 0 [vR 54 104, vI p1, vU] [] h Q :=
  zwpe_W (cd := c83) rfl [96, 115] 400 0 _ _ _ _ k
set_option maxRecDepth 100000 in
set_option maxHeartbeats 4000000 in
theorem k83_96 (l1 : Int) (l2 : Int) (s0 : Int) (s1 : Int) (h : zH) (Q : Option zV → zH → Prop) (k :
  (inR (s1 + s0)) ∧ ∀ h18 : zH, h18 = sI h 54 7 (s1 + s0) →
  (¬ l1 = 5 →
    zK 83 115 [vR 54 104, vI l1, vI l2] [vI 0, vI (gI h18 54 6), vR 54 104] h18 Q) ∧
    (¬ (¬ l1 = 5) →
    zK 83 115 [vR 54 104, vI l1, vI l2] [vI 1, vI (gI h18 54 6), vR 54 104] h18 Q)) : zK 83 96 [vR 54 104, vI l1, vI l2] [vI s0, vI s1, vR 54 104] h Q :=
  zwpe_W (cd := c83) rfl [96, 115] 400 96 _ _ _ _ k
set_option maxRecDepth 100000 in
set_option maxHeartbeats 4000000 in
theorem k83_115 (u1 : zV) (l2 : Int) (s0 : Int) (s1 : Int) (h : zH) (Q : Option zV → zH → Prop) (k :
  (inR (s1 + s0)) ∧ ∀ h19 : zH, h19 = sI h 54 6 (s1 + s0) →
  ((gI h19 54 3) = (-1) →
    Q (some (vI l2)) h19) ∧
    (¬ ((gI h19 54 3) = (-1)) →
    zC0 84 [vR 54 104, vI l2] h19 (fun h20 =>
    Q (some (vI l2)) h20))) : zK 83 115 [vR 54 104, u1, vI l2] [vI s0, vI s1, vR 54 104] h Q :=
  zwpe_W (cd := c83) rfl [96, 115] 400 115 _ _ _ _ k
-- 84 SyntaxRules$RuleReader.hangItem(I)V
set_option maxRecDepth 100000 in
set_option maxHeartbeats 4000000 in
theorem k84_0 (p1 : Int) (h : zH) (Q : Option zV → zH → Prop) (k :
  (zty 103 (gR h 54 2) h) ∧ (zty 103 (gR h 54 2) h) ∧ (0 ≤ (gI h 54 3 : Int)) ∧ ((gI h 54 3 : Int) < 40) ∧ (0 ≤ (p1 : Int)) ∧ ((p1 : Int) < 40) ∧ ∀ h7 : zH, h7 = sI h (gR h 54 2 + 8) p1 (gI h (gR h 54 2 + 9) (gI h 54 3)) →
  (zty 103 (gR h7 54 2) h7) ∧ (zty 103 (gR h7 54 2) h7) ∧ (0 ≤ (gI h7 54 3 : Int)) ∧ ((gI h7 54 3 : Int) < 40) ∧ (¬ (gI h7 (gR h7 54 2 + 9) (gI h7 54 3)) = 0 →
    (0 ≤ (gI h7 54 3 : Int)) ∧ ((gI h7 54 3 : Int) < 40) ∧ zK 84 57 [vR 54 104, vI p1] [vI (gI h7 55 (gI h7 54 3)), vI p1, vR (gR h7 54 2 + 7) 4140] h7 Q) ∧
    (¬ (¬ (gI h7 (gR h7 54 2 + 9) (gI h7 54 3)) = 0) →
    zK 84 57 [vR 54 104, vI p1] [vI ((-1)), vI p1, vR (gR h7 54 2 + 7) 4140] h7 Q)) : zK 84 0 [vR 54 104, vI p1] [] h Q :=
  zwpe_W (cd := c84) rfl [57, 115] 400 0 _ _ _ _ k
set_option maxRecDepth 100000 in
set_option maxHeartbeats 4000000 in
theorem k84_57 (l1 : Int) (s0 : Int) (s1 : Int) (b2 : Nat) (h : zH) (Q : Option zV → zH → Prop) (k :
  (0 ≤ (s1 : Int)) ∧ ((s1 : Int) < 40) ∧ ∀ h8 : zH, h8 = sI h b2 s1 s0 →
  (0 ≤ (gI h8 54 3 : Int)) ∧ ((gI h8 54 3 : Int) < 40) ∧ ∀ h9 : zH, h9 = sI h8 55 (gI h8 54 3) l1 →
  (zty 103 (gR h9 54 2) h9) ∧ (0 ≤ (gI h9 54 3 : Int)) ∧ ((gI h9 54 3 : Int) < 40) ∧ (inR ((gI h9 (gR h9 54 2 + 9) (gI h9 54 3)) + 1)) ∧ (0 ≤ (gI h9 54 3 : Int)) ∧ ((gI h9 54 3 : Int) < 40) ∧ ∀ h10 : zH, h10 = sI h9 (gR h9 54 2 + 9) (gI h9 54 3) ((gI h9 (gR h9 54 2 + 9) (gI h9 54 3)) + 1) →
  (zty 103 (gR h10 54 2) h10) ∧ (0 ≤ (gI h10 54 3 : Int)) ∧ ((gI h10 54 3 : Int) < 40) ∧ (zty 103 (gR h10 54 2) h10) ∧ (0 ≤ (l1 : Int)) ∧ ((l1 : Int) < 40) ∧ (¬ (gI h10 (gR h10 54 2 + 3) l1) = 5 →
    zK 84 115 [vR 54 104, vI l1] [vI 0, vI (gI h10 (gR h10 54 2 + 10) (gI h10 54 3)), vI (gI h10 54 3), vR (gR h10 54 2 + 10) 4140] h10 Q) ∧
    (¬ (¬ (gI h10 (gR h10 54 2 + 3) l1) = 5) →
    zK 84 115 [vR 54 104, vI l1] [vI 1, vI (gI h10 (gR h10 54 2 + 10) (gI h10 54 3)), vI (gI h10 54 3), vR (gR h10 54 2 + 10) 4140] h10 Q)) : zK 84 57 [vR 54 104, vI l1] [vI s0, vI s1, vR b2 4140] h Q :=
  zwpe_W (cd := c84) rfl [57, 115] 400 57 _ _ _ _ k
set_option maxRecDepth 100000 in
set_option maxHeartbeats 4000000 in
theorem k84_115 (l1 : Int) (s0 : Int) (s1 : Int) (s2 : Int) (b3 : Nat) (h : zH) (Q : Option zV → zH → Prop) (k :
  (inR (s1 + s0)) ∧ (0 ≤ (s2 : Int)) ∧ ((s2 : Int) < 40) ∧ ∀ h11 : zH, h11 = sI h b3 s2 (s1 + s0) →
  (zty 103 (gR h11 54 2) h11) ∧ (zty 103 (gR h11 54 2) h11) ∧ (0 ≤ (gI h11 54 3 : Int)) ∧ ((gI h11 54 3 : Int) < 40) ∧ (0 ≤ (l1 : Int)) ∧ ((l1 : Int) < 40) ∧ ∀ h12 : zH, h12 = sI h11 (gR h11 54 2 + 11) l1 (gI h11 (gR h11 54 2 + 10) (gI h11 54 3)) →
  Q none h12) : zK 84 115 [vR 54 104, vI l1] [vI s0, vI s1, vI s2, vR b3 4140] h Q :=
  zwpe_W (cd := c84) rfl [57, 115] 400 115 _ _ _ _ k
-- 85 SyntaxRules$RuleReader.readWord(IZ)Z
set_option maxRecDepth 100000 in
set_option maxHeartbeats 4000000 in
theorem k85_0 (p1 : Int) (p2 : Int) (h : zH) (Q : Option zV → zH → Prop) (k :
  (p2 = 0 →
    zK 85 10 [vR 54 104, vI p1, vI p2, vU, vU] [vI 4] h Q) ∧
    (¬ (p2 = 0) →
    zK 85 10 [vR 54 104, vI p1, vI p2, vU, vU] [vI 8] h Q)) : zK 85 0 [vR 54 104, vI p1, vI p2, vU, vU] [] h Q :=
  zwpe_W (cd := c85) rfl [10] 400 0 _ _ _ _ k
set_option maxRecDepth 100000 in
set_option maxHeartbeats 4000000 in
theorem k85_10 (l1 : Int) (l2 : Int) (u3 : zV) (u4 : zV) (s0 : Int) (h : zH) (Q : Option zV → zH → Prop) (k :
  (zty 101 (gR h 54 1) h) ∧ zC1 48 [vR (gR h 54 1) 101, vI (gI h 54 0), vI l2, vI s0] h (fun v6 h6 =>
  (v6 ≤ s0 →
    (zty 103 (gR h6 54 2) h6) ∧ (0 ≤ (l1 : Int)) ∧ ((l1 : Int) < 40) ∧ ∀ h7 : zH, h7 = sI h6 (gR h6 54 2 + 13) l1 (gI h6 54 0) →
    (zty 103 (gR h7 54 2) h7) ∧ (0 ≤ (l1 : Int)) ∧ ((l1 : Int) < 40) ∧ ∀ h8 : zH, h8 = sI h7 (gR h7 54 2 + 14) l1 v6 →
    (inR ((gI h8 54 0) + v6)) ∧ ∀ h9 : zH, h9 = sI h8 54 0 ((gI h8 54 0) + v6) →
    ((1 : Int) = 0 ∨ (1 : Int) = 1) ∧ Q (some (vI 1)) h9) ∧
    (¬ (v6 ≤ s0) →
    (inR ((gI h6 54 0) + s0)) ∧ ∀ h10 : zH, h10 = sI h6 54 0 ((gI h6 54 0) + s0) →
    ((0 : Int) = 0 ∨ (0 : Int) = 1) ∧ Q (some (vI 0)) h10))) : zK 85 10 [vR 54 104, vI l1, vI l2, u3, u4] [vI s0] h Q :=
  zwpe_W (cd := c85) rfl [10] 400 10 _ _ _ _ k
-- 86 SyntaxRules$RuleReader.readHole(I)Z
set_option maxRecDepth 100000 in
set_option maxHeartbeats 4000000 in
theorem k86_0 (p1 : Int) (h : zH) (Q : Option zV → zH → Prop) (k :
  (zty 101 (gR h 54 1) h) ∧ zC1 44 [vR (gR h 54 1) 101, vI (gI h 54 0)] h (fun v7 h7 =>
  (inR (v7 - 65)) ∧ (zty 103 (gR h7 54 2) h7) ∧ (0 ≤ (p1 : Int)) ∧ ((p1 : Int) < 40) ∧ (¬ (gI h7 (gR h7 54 2 + 3) p1) = 5 →
    zK 86 33 [vR 54 104, vI p1, vI (v7 - 65), vU] [vI 0] h7 Q) ∧
    (¬ (¬ (gI h7 (gR h7 54 2 + 3) p1) = 5) →
    zK 86 33 [vR 54 104, vI p1, vI (v7 - 65), vU] [vI 1] h7 Q))) : zK 86 0 [vR 54 104, vI p1, vU, vU] [] h Q :=
  zwpe_W (cd := c86) rfl [33] 400 0 _ _ _ _ k
set_option maxRecDepth 100000 in
set_option maxHeartbeats 4000000 in
theorem k86_33 (l1 : Int) (l2 : Int) (u3 : zV) (s0 : Int) (h : zH) (Q : Option zV → zH → Prop) (k :
  (l2 < 0 →
    ((0 : Int) = 0 ∨ (0 : Int) = 1) ∧ Q (some (vI 0)) h) ∧
    (¬ (l2 < 0) →
    (26 ≤ l2 →
      ((0 : Int) = 0 ∨ (0 : Int) = 1) ∧ Q (some (vI 0)) h) ∧
      (¬ (26 ≤ l2) →
      zC1 87 [vR 54 104, vI (iShl 1 l2), vI s0] h (fun v8 h8 =>
      (¬ v8 = 0 →
        (inR ((gI h8 54 0) + 1)) ∧ ∀ h9 : zH, h9 = sI h8 54 0 ((gI h8 54 0) + 1) →
        (zty 103 (gR h9 54 2) h9) ∧ (0 ≤ (l1 : Int)) ∧ ((l1 : Int) < 40) ∧ ∀ h10 : zH, h10 = sI h9 (gR h9 54 2 + 4) l1 l2 →
        (¬ s0 = 0 →
          ((1 : Int) = 0 ∨ (1 : Int) = 1) ∧ Q (some (vI 1)) h10) ∧
          (¬ (¬ s0 = 0) →
          (¬ (gI h10 54 5) = 0 →
            ((1 : Int) = 0 ∨ (1 : Int) = 1) ∧ Q (some (vI 1)) h10) ∧
            (¬ (¬ (gI h10 54 5) = 0) →
            (zty 101 (gR h10 54 1) h10) ∧ zC1 44 [vR (gR h10 54 1) 101, vI (gI h10 54 0)] h10 (fun v11 h11 =>
            (¬ v11 = 58 →
              ((1 : Int) = 0 ∨ (1 : Int) = 1) ∧ Q (some (vI 1)) h11) ∧
              (¬ (¬ v11 = 58) →
              zC1 88 [vR 54 104, vI l1] h11 (fun v12 h12 =>
              (v12 = 0 →
                ((0 : Int) = 0 ∨ (0 : Int) = 1) ∧ Q (some (vI 0)) h12) ∧
                (¬ (v12 = 0) →
                ((1 : Int) = 0 ∨ (1 : Int) = 1) ∧ Q (some (vI 1)) h12))))))) ∧
        (¬ (¬ v8 = 0) →
        ((0 : Int) = 0 ∨ (0 : Int) = 1) ∧ Q (some (vI 0)) h8))))) : zK 86 33 [vR 54 104, vI l1, vI l2, u3] [vI s0] h Q :=
  zwpe_W (cd := c86) rfl [33] 400 33 _ _ _ _ k
-- 87 SyntaxRules$RuleReader.mayBear(IZ)Z
set_option maxRecDepth 100000 in
set_option maxHeartbeats 4000000 in
theorem k87_0 (p1 : Int) (p2 : Int) (h : zH) (Q : Option zV → zH → Prop) (k :
  (p2 = 0 →
    zK 87 15 [vR 54 104, vI p1, vI p2, vU, vU] [vI (gI h 54 9)] h Q) ∧
    (¬ (p2 = 0) →
    zK 87 15 [vR 54 104, vI p1, vI p2, vU, vU] [vI (gI h 54 8)] h Q)) : zK 87 0 [vR 54 104, vI p1, vI p2, vU, vU] [] h Q :=
  zwpe_W (cd := c87) rfl [15, 31, 55] 400 0 _ _ _ _ k
set_option maxRecDepth 100000 in
set_option maxHeartbeats 4000000 in
theorem k87_15 (l1 : Int) (l2 : Int) (u3 : zV) (u4 : zV) (s0 : Int) (h : zH) (Q : Option zV → zH → Prop) (k :
  (l2 = 0 →
    zK 87 31 [vR 54 104, vI l1, vI l2, vI s0, u4] [vI (gI h 54 8)] h Q) ∧
    (¬ (l2 = 0) →
    zK 87 31 [vR 54 104, vI l1, vI l2, vI s0, u4] [vI (gI h 54 9)] h Q)) : zK 87 15 [vR 54 104, vI l1, vI l2, u3, u4] [vI s0] h Q :=
  zwpe_W (cd := c87) rfl [15, 31, 55] 400 15 _ _ _ _ k
set_option maxRecDepth 100000 in
set_option maxHeartbeats 4000000 in
theorem k87_31 (l1 : Int) (l2 : Int) (l3 : Int) (u4 : zV) (s0 : Int) (h : zH) (Q : Option zV → zH → Prop) (k :
  (¬ (iAnd l3 l1) = 0 →
    ((0 : Int) = 0 ∨ (0 : Int) = 1) ∧ Q (some (vI 0)) h) ∧
    (¬ (¬ (iAnd l3 l1) = 0) →
    ((gI h 54 5) = 0 →
      zK 87 55 [vR 54 104, vI l1, vI l2, vI l3, vI s0] [] h Q) ∧
      (¬ ((gI h 54 5) = 0) →
      (¬ (iAnd s0 l1) = 0 →
        zK 87 55 [vR 54 104, vI l1, vI l2, vI l3, vI s0] [] h Q) ∧
        (¬ (¬ (iAnd s0 l1) = 0) →
        ((0 : Int) = 0 ∨ (0 : Int) = 1) ∧ Q (some (vI 0)) h)))) : zK 87 31 [vR 54 104, vI l1, vI l2, vI l3, u4] [vI s0] h Q :=
  zwpe_W (cd := c87) rfl [15, 31, 55] 400 31 _ _ _ _ k
set_option maxRecDepth 100000 in
set_option maxHeartbeats 4000000 in
theorem k87_55 (l1 : Int) (l2 : Int) (u3 : zV) (u4 : zV) (h : zH) (Q : Option zV → zH → Prop) (k :
  (l2 = 0 →
    ∀ h3 : zH, h3 = sI h 54 8 (iOr (gI h 54 8) l1) →
    ((1 : Int) = 0 ∨ (1 : Int) = 1) ∧ Q (some (vI 1)) h3) ∧
    (¬ (l2 = 0) →
    ∀ h4 : zH, h4 = sI h 54 9 (iOr (gI h 54 9) l1) →
    ((1 : Int) = 0 ∨ (1 : Int) = 1) ∧ Q (some (vI 1)) h4)) : zK 87 55 [vR 54 104, vI l1, vI l2, u3, u4] [] h Q :=
  zwpe_W (cd := c87) rfl [15, 31, 55] 400 55 _ _ _ _ k
-- 88 SyntaxRules$RuleReader.readKind(I)Z
set_option maxRecDepth 100000 in
set_option maxHeartbeats 4000000 in
theorem k88_0 (p1 : Int) (h : zH) (Q : Option zV → zH → Prop) (k :
  (inR ((gI h 54 0) + 1)) ∧ ∀ h9 : zH, h9 = sI h 54 0 ((gI h 54 0) + 1) →
  (zty 101 (gR h9 54 1) h9) ∧ zC1 44 [vR (gR h9 54 1) 101, vI (gI h9 54 0)] h9 (fun v10 h10 =>
  (v10 = 99 →
    (zty 103 (gR h10 54 2) h10) ∧ (0 ≤ (p1 : Int)) ∧ ((p1 : Int) < 40) ∧ ∀ h15 : zH, h15 = sI h10 (gR h10 54 2 + 5) p1 2 →
    (inR ((gI h15 54 0) + 1)) ∧ ∀ h16 : zH, h16 = sI h15 54 0 ((gI h15 54 0) + 1) →
    ((1 : Int) = 0 ∨ (1 : Int) = 1) ∧ Q (some (vI 1)) h16) ∧
    (¬ (v10 = 99) →
    (v10 = 110 →
    (zty 103 (gR h10 54 2) h10) ∧ (0 ≤ (p1 : Int)) ∧ ((p1 : Int) < 40) ∧ ∀ h13 : zH, h13 = sI h10 (gR h10 54 2 + 5) p1 0 →
    (inR ((gI h13 54 0) + 1)) ∧ ∀ h14 : zH, h14 = sI h13 54 0 ((gI h13 54 0) + 1) →
    ((1 : Int) = 0 ∨ (1 : Int) = 1) ∧ Q (some (vI 1)) h14) ∧
    (¬ (v10 = 110) →
    (v10 = 119 →
    (zty 103 (gR h10 54 2) h10) ∧ (0 ≤ (p1 : Int)) ∧ ((p1 : Int) < 40) ∧ ∀ h11 : zH, h11 = sI h10 (gR h10 54 2 + 5) p1 1 →
    (inR ((gI h11 54 0) + 1)) ∧ ∀ h12 : zH, h12 = sI h11 54 0 ((gI h11 54 0) + 1) →
    ((1 : Int) = 0 ∨ (1 : Int) = 1) ∧ Q (some (vI 1)) h12) ∧
    (¬ (v10 = 119) →
    ((0 : Int) = 0 ∨ (0 : Int) = 1) ∧ Q (some (vI 0)) h10))))) : zK 88 0 [vR 54 104, vI p1] [] h Q :=
  zwpe_W (cd := c88) rfl [] 400 0 _ _ _ _ k
-- 89 SyntaxRules$RuleReader.finishItem(I)Z
set_option maxRecDepth 100000 in
set_option maxHeartbeats 4000000 in
theorem k89_0 (p1 : Int) (h : zH) (Q : Option zV → zH → Prop) (k :
  (zty 103 (gR h 54 2) h) ∧ (zty 103 (gR h 54 2) h) ∧ (inR ((gI h (gR h 54 2) 13) - p1)) ∧ (0 ≤ (p1 : Int)) ∧ ((p1 : Int) < 40) ∧ ∀ h5 : zH, h5 = sI h (gR h 54 2 + 12) p1 ((gI h (gR h 54 2) 13) - p1) →
  (zty 103 (gR h5 54 2) h5) ∧ (0 ≤ (p1 : Int)) ∧ ((p1 : Int) < 40) ∧ ∀ h6 : zH, h6 = sI h5 54 3 (gI h5 (gR h5 54 2 + 6) p1) →
  ((gI h6 54 3) = (-1) →
    ((1 : Int) = 0 ∨ (1 : Int) = 1) ∧ Q (some (vI 1)) h6) ∧
    (¬ ((gI h6 54 3) = (-1)) →
    (zty 103 (gR h6 54 2) h6) ∧ (0 ≤ (gI h6 54 3 : Int)) ∧ ((gI h6 54 3 : Int) < 40) ∧ (¬ (gI h6 (gR h6 54 2 + 3) (gI h6 54 3)) = 2 →
      ((1 : Int) = 0 ∨ (1 : Int) = 1) ∧ Q (some (vI 1)) h6) ∧
      (¬ (¬ (gI h6 (gR h6 54 2 + 3) (gI h6 54 3)) = 2) →
      (zty 103 (gR h6 54 2) h6) ∧ (zty 103 (gR h6 54 2) h6) ∧ (inR ((gI h6 (gR h6 54 2) 13) - (gI h6 54 3))) ∧ (0 ≤ (gI h6 54 3 : Int)) ∧ ((gI h6 54 3 : Int) < 40) ∧ ∀ h7 : zH, h7 = sI h6 (gR h6 54 2 + 12) (gI h6 54 3) ((gI h6 (gR h6 54 2) 13) - (gI h6 54 3)) →
      (zty 103 (gR h7 54 2) h7) ∧ (0 ≤ (gI h7 54 3 : Int)) ∧ ((gI h7 54 3 : Int) < 40) ∧ ∀ h8 : zH, h8 = sI h7 54 3 (gI h7 (gR h7 54 2 + 6) (gI h7 54 3)) →
      ((1 : Int) = 0 ∨ (1 : Int) = 1) ∧ Q (some (vI 1)) h8))) : zK 89 0 [vR 54 104, vI p1] [] h Q :=
  zwpe_W (cd := c89) rfl [] 400 0 _ _ _ _ k
-- 90 SyntaxRules$Fitting.<init>()V
set_option maxRecDepth 100000 in
set_option maxHeartbeats 4000000 in
theorem k90_0 (a0 : Nat) (h : zH) (Q : Option zV → zH → Prop) (k :
  (0 ≤ (20 : Int) ∧ (20 : Int) ≤ 10000) ∧ ∀ h13 : zH, h13 = nw h 40 ((20 : Int)).toNat →
  (zty 125 a0 h13) ∧ ∀ h14 : zH, h14 = sR h13 a0 0 (nx h) →
  (0 ≤ (20 : Int) ∧ (20 : Int) ≤ 10000) ∧ ∀ h15 : zH, h15 = nw h14 40 ((20 : Int)).toNat →
  (zty 125 a0 h15) ∧ ∀ h16 : zH, h16 = sR h15 a0 1 (nx h14) →
  (0 ≤ (20 : Int) ∧ (20 : Int) ≤ 10000) ∧ ∀ h17 : zH, h17 = nw h16 40 ((20 : Int)).toNat →
  (zty 125 a0 h17) ∧ ∀ h18 : zH, h18 = sR h17 a0 2 (nx h16) →
  (0 ≤ (20 : Int) ∧ (20 : Int) ≤ 10000) ∧ ∀ h19 : zH, h19 = nw h18 40 ((20 : Int)).toNat →
  (zty 125 a0 h19) ∧ ∀ h20 : zH, h20 = sR h19 a0 3 (nx h18) →
  (0 ≤ (20 : Int) ∧ (20 : Int) ≤ 10000) ∧ ∀ h21 : zH, h21 = nw h20 40 ((20 : Int)).toNat →
  (zty 125 a0 h21) ∧ ∀ h22 : zH, h22 = sR h21 a0 4 (nx h20) →
  (0 ≤ (3 : Int) ∧ (3 : Int) ≤ 10000) ∧ ∀ h23 : zH, h23 = nw h22 40 ((3 : Int)).toNat →
  (zty 125 a0 h23) ∧ (gR (sR h23 a0 5 (nx h22)) a0 0 = a0 + 1) ∧ (zty 2140 (a0 + 1) (sR h23 a0 5 (nx h22))) ∧ (gR (sR h23 a0 5 (nx h22)) a0 1 = a0 + 2) ∧ (zty 2140 (a0 + 2) (sR h23 a0 5 (nx h22))) ∧ (gR (sR h23 a0 5 (nx h22)) a0 2 = a0 + 3) ∧ (zty 2140 (a0 + 3) (sR h23 a0 5 (nx h22))) ∧ (gR (sR h23 a0 5 (nx h22)) a0 3 = a0 + 4) ∧ (zty 2140 (a0 + 4) (sR h23 a0 5 (nx h22))) ∧ (gR (sR h23 a0 5 (nx h22)) a0 4 = a0 + 5) ∧ (zty 2140 (a0 + 5) (sR h23 a0 5 (nx h22))) ∧ (gR (sR h23 a0 5 (nx h22)) a0 5 = a0 + 6) ∧ (zty 440 (a0 + 6) (sR h23 a0 5 (nx h22))) ∧ ∀ h24 : zH, h24 = sT (sR h23 a0 5 (nx h22)) a0 5 →
  Q none h24) : zK 90 0 [vR a0 0] [] h Q :=
  zwpe_W (cd := c90) rfl [] 400 0 _ _ _ _ k
-- 91 SyntaxRules$Fitting.fits(LSyntaxRules$Source;LSyntaxRules$Rule;I)Z
set_option maxRecDepth 100000 in
set_option maxHeartbeats 4000000 in
theorem k91_0 (p1 : Nat) (p2 : Nat) (p3 : Int) (h : zH) (Q : Option zV → zH → Prop) (k :
  zC1 94 [vR 56 105, vR p1 102, vR p2 103, vI 0, vI p3, vI 1] h (fun v2 h2 =>
  (v2 ≤ 0 →
    ((0 : Int) = 0 ∨ (0 : Int) = 1) ∧ Q (some (vI 0)) h2) ∧
    (¬ (v2 ≤ 0) →
    ((1 : Int) = 0 ∨ (1 : Int) = 1) ∧ Q (some (vI 1)) h2))) : zK 91 0 [vR 56 105, vR p1 102, vR p2 103, vI p3] [] h Q :=
  zwpe_W (cd := c91) rfl [] 400 0 _ _ _ _ k
-- 92 SyntaxRules$Fitting.fittingRules(LSyntaxRules$Source;[LSyntaxRules$Rule;I)I
set_option maxRecDepth 100000 in
set_option maxHeartbeats 4000000 in
theorem k92_0 (p1 : Nat) (p2 : Nat) (p3 : Int) (h : zH) (Q : Option zV → zH → Prop) (k :
  zK 92 6 [vR 56 105, vR p1 102, vR p2 944, vI p3, vI 0, vI 0] [] h Q) : zK 92 0 [vR 56 105, vR p1 102, vR p2 944, vI p3, vU, vU] [] h Q :=
  zwpe_W (cd := c92) rfl [6] 400 0 _ _ _ _ k
set_option maxRecDepth 100000 in
set_option maxHeartbeats 4000000 in
theorem k92_6 (a1 : Nat) (a2 : Nat) (l3 : Int) (l4 : Int) (l5 : Int) (h : zH) (Q : Option zV → zH → Prop) (k :
  (8 ≤ l5 →
    Q (some (vI l4)) h) ∧
    (¬ (8 ≤ l5) →
    (0 ≤ (l5 : Int)) ∧ ((l5 : Int) < 8) ∧ (((gR h a2 l5) : Nat) = 0 →
      (inR (l5 + 1)) ∧ zK 92 6 [vR 56 105, vR a1 102, vR a2 944, vI l3, vI l4, vI (l5 + 1)] [] h Q) ∧
      (¬ (((gR h a2 l5) : Nat) = 0) →
      (0 ≤ (l5 : Int)) ∧ ((l5 : Int) < 8) ∧ (zty 103 (gR h a2 l5) h) ∧ zC1 94 [vR 56 105, vR a1 102, vR (gR h a2 l5) 103, vI 0, vI l3, vI 1] h (fun v2 h2 =>
      (v2 ≤ 0 →
        (inR (l5 + 1)) ∧ zK 92 6 [vR 56 105, vR a1 102, vR a2 944, vI l3, vI l4, vI (l5 + 1)] [] h2 Q) ∧
        (¬ (v2 ≤ 0) →
        (inR (l5 + 1)) ∧ zK 92 6 [vR 56 105, vR a1 102, vR a2 944, vI l3, vI (iOr l4 (iShl 1 l5)), vI (l5 + 1)] [] h2 Q))))) : zK 92 6 [vR 56 105, vR a1 102, vR a2 944, vI l3, vI l4, vI l5] [] h Q :=
  zwpe_W (cd := c92) rfl [6] 400 6 _ _ _ _ k
-- 93 SyntaxRules$Fitting.firstHeld(I)I
set_option maxRecDepth 100000 in
set_option maxHeartbeats 4000000 in
theorem k93_0 (p1 : Int) (h : zH) (Q : Option zV → zH → Prop) (k :
  (0 ≤ (p1 : Int)) ∧ ((p1 : Int) < 20) ∧ (¬ (gI h 59 p1) = 0 →
    (0 ≤ (p1 : Int)) ∧ ((p1 : Int) < 20) ∧ Q (some (vI (gI h 57 p1))) h) ∧
    (¬ (¬ (gI h 59 p1) = 0) →
    Q (some (vI ((-1)))) h)) : zK 93 0 [vR 56 105, vI p1] [] h Q :=
  zwpe_W (cd := c93) rfl [] 400 0 _ _ _ _ k
-- 94 SyntaxRules$Fitting.search(LSyntaxRules$Source;LSyntaxRules$Rule;III)I
set_option maxRecDepth 100000 in
set_option maxHeartbeats 4000000 in
theorem k94_0 (p1 : Nat) (p2 : Nat) (p3 : Int) (p4 : Int) (p5 : Int) (h : zH) (Q : Option zV → zH → Prop) (k :
  ∀ h8 : zH, h8 = sR h 56 7 p1 →
  ∀ h9 : zH, h9 = sR h8 56 8 p2 →
  ∀ h10 : zH, h10 = sI h9 56 9 p3 →
  ∀ h11 : zH, h11 = sI h10 56 6 0 →
  (zty 103 (gR h11 56 8) h11) ∧ (0 ≤ (gI h11 56 9 : Int)) ∧ ((gI h11 56 9 : Int) < 40) ∧ (inR ((gI h11 56 9) + (gI h11 (gR h11 56 8 + 12) (gI h11 56 9)))) ∧ zK 94 54 [vR 56 105, vR p1 102, vR p2 103, vI p3, vI p4, vI p5, vI ((gI h11 56 9) + (gI h11 (gR h11 56 8 + 12) (gI h11 56 9))), vI 0, vI (gI h11 56 9), vI 1, vI 0, vU] [] h11 Q) : zK 94 0 [vR 56 105, vR p1 102, vR p2 103, vI p3, vI p4, vI p5, vU, vU, vU, vU, vU, vU] [] h Q :=
  zwpe_W (cd := c94) rfl [54, 83, 96, 97, 126, 144, 145] 400 0 _ _ _ _ k
set_option maxRecDepth 100000 in
set_option maxHeartbeats 4000000 in
theorem k94_54 (u1 : zV) (u2 : zV) (u3 : zV) (l4 : Int) (l5 : Int) (l6 : Int) (l7 : Int) (l8 : Int) (l9 : Int) (l10 : Int) (u11 : zV) (h : zH) (Q : Option zV → zH → Prop) (k :
  (1000000 ≤ l10 →
    Q (some (vI l7)) h) ∧
    (¬ (1000000 ≤ l10) →
    (l8 = (-1) →
      Q (some (vI l7)) h) ∧
      (¬ (l8 = (-1)) →
      (l9 = 0 →
        zK 94 83 [vR 56 105, u1, u2, u3, vI l4, vI l5, vI l6, vI l7, vI l8, vI l9, vI l10, u11] [] h Q) ∧
        (¬ (l9 = 0) →
        zC1 98 [vR 56 105, vI l8, vI l4] h (fun v12 h12 =>
        (v12 = 0 →
          zK 94 96 [vR 56 105, u1, u2, u3, vI l4, vI l5, vI l6, vI l7, vI l8, vI l9, vI l10, u11] [] h12 Q) ∧
          (¬ (v12 = 0) →
          zK 94 83 [vR 56 105, u1, u2, u3, vI l4, vI l5, vI l6, vI l7, vI l8, vI l9, vI l10, u11] [] h12 Q)))))) : zK 94 54 [vR 56 105, u1, u2, u3, vI l4, vI l5, vI l6, vI l7, vI l8, vI l9, vI l10, u11] [] h Q :=
  zwpe_W (cd := c94) rfl [54, 83, 96, 97, 126, 144, 145] 400 54 _ _ _ _ k
set_option maxRecDepth 100000 in
set_option maxHeartbeats 4000000 in
theorem k94_83 (u1 : zV) (u2 : zV) (u3 : zV) (l4 : Int) (l5 : Int) (l6 : Int) (l7 : Int) (l8 : Int) (u9 : zV) (l10 : Int) (u11 : zV) (h : zH) (Q : Option zV → zH → Prop) (k :
  zC1 103 [vR 56 105, vI l8] h (fun v13 h13 =>
  (v13 = 0 →
    zK 94 96 [vR 56 105, u1, u2, u3, vI l4, vI l5, vI l6, vI l7, vI l8, u9, vI l10, u11] [] h13 Q) ∧
    (¬ (v13 = 0) →
    zK 94 97 [vR 56 105, u1, u2, u3, vI l4, vI l5, vI l6, vI l7, vI l8, u9, vI l10, u11] [vI 1] h13 Q))) : zK 94 83 [vR 56 105, u1, u2, u3, vI l4, vI l5, vI l6, vI l7, vI l8, u9, vI l10, u11] [] h Q :=
  zwpe_W (cd := c94) rfl [54, 83, 96, 97, 126, 144, 145] 400 83 _ _ _ _ k
set_option maxRecDepth 100000 in
set_option maxHeartbeats 4000000 in
theorem k94_96 (u1 : zV) (u2 : zV) (u3 : zV) (l4 : Int) (l5 : Int) (l6 : Int) (l7 : Int) (l8 : Int) (u9 : zV) (l10 : Int) (u11 : zV) (h : zH) (Q : Option zV → zH → Prop) (k :
  zK 94 97 [vR 56 105, u1, u2, u3, vI l4, vI l5, vI l6, vI l7, vI l8, u9, vI l10, u11] [vI 0] h Q) : zK 94 96 [vR 56 105, u1, u2, u3, vI l4, vI l5, vI l6, vI l7, vI l8, u9, vI l10, u11] [] h Q :=
  zwpe_W (cd := c94) rfl [54, 83, 96, 97, 126, 144, 145] 400 96 _ _ _ _ k
set_option maxRecDepth 100000 in
set_option maxHeartbeats 4000000 in
theorem k94_97 (u1 : zV) (u2 : zV) (u3 : zV) (l4 : Int) (l5 : Int) (l6 : Int) (l7 : Int) (l8 : Int) (u9 : zV) (l10 : Int) (u11 : zV) (s0 : Int) (h : zH) (Q : Option zV → zH → Prop) (k :
  (s0 = 0 →
    zK 94 126 [vR 56 105, u1, u2, u3, vI l4, vI l5, vI l6, vI l7, vI l8, u9, vI l10, vI s0] [] h Q) ∧
    (¬ (s0 = 0) →
    (inR (l8 + 1)) ∧ (¬ (l8 + 1) = l6 →
      zK 94 126 [vR 56 105, u1, u2, u3, vI l4, vI l5, vI l6, vI l7, vI l8, u9, vI l10, vI s0] [] h Q) ∧
      (¬ (¬ (l8 + 1) = l6) →
      (inR (l7 + 1)) ∧ ((l7 + 1) < l5 →
        zK 94 126 [vR 56 105, u1, u2, u3, vI l4, vI l5, vI l6, vI (l7 + 1), vI l8, u9, vI l10, vI s0] [] h Q) ∧
        (¬ ((l7 + 1) < l5) →
        Q (some (vI (l7 + 1))) h)))) : zK 94 97 [vR 56 105, u1, u2, u3, vI l4, vI l5, vI l6, vI l7, vI l8, u9, vI l10, u11] [vI s0] h Q :=
  zwpe_W (cd := c94) rfl [54, 83, 96, 97, 126, 144, 145] 400 97 _ _ _ _ k
set_option maxRecDepth 100000 in
set_option maxHeartbeats 4000000 in
theorem k94_126 (u1 : zV) (u2 : zV) (u3 : zV) (l4 : Int) (l5 : Int) (l6 : Int) (l7 : Int) (l8 : Int) (u9 : zV) (l10 : Int) (l11 : Int) (h : zH) (Q : Option zV → zH → Prop) (k :
  (l11 = 0 →
    zK 94 144 [vR 56 105, u1, u2, u3, vI l4, vI l5, vI l6, vI l7, vI l8, u9, vI l10, vI l11] [] h Q) ∧
    (¬ (l11 = 0) →
    (inR (l8 + 1)) ∧ (l6 ≤ (l8 + 1) →
      zK 94 144 [vR 56 105, u1, u2, u3, vI l4, vI l5, vI l6, vI l7, vI l8, u9, vI l10, vI l11] [] h Q) ∧
      (¬ (l6 ≤ (l8 + 1)) →
      zK 94 145 [vR 56 105, u1, u2, u3, vI l4, vI l5, vI l6, vI l7, vI l8, u9, vI l10, vI l11] [vI 1] h Q))) : zK 94 126 [vR 56 105, u1, u2, u3, vI l4, vI l5, vI l6, vI l7, vI l8, u9, vI l10, vI l11] [] h Q :=
  zwpe_W (cd := c94) rfl [54, 83, 96, 97, 126, 144, 145] 400 126 _ _ _ _ k
set_option maxRecDepth 100000 in
set_option maxHeartbeats 4000000 in
theorem k94_144 (u1 : zV) (u2 : zV) (u3 : zV) (l4 : Int) (l5 : Int) (l6 : Int) (l7 : Int) (l8 : Int) (u9 : zV) (l10 : Int) (u11 : zV) (h : zH) (Q : Option zV → zH → Prop) (k :
  zK 94 145 [vR 56 105, u1, u2, u3, vI l4, vI l5, vI l6, vI l7, vI l8, u9, vI l10, u11] [vI 0] h Q) : zK 94 144 [vR 56 105, u1, u2, u3, vI l4, vI l5, vI l6, vI l7, vI l8, u9, vI l10, u11] [] h Q :=
  zwpe_W (cd := c94) rfl [54, 83, 96, 97, 126, 144, 145] 400 144 _ _ _ _ k
set_option maxRecDepth 100000 in
set_option maxHeartbeats 4000000 in
theorem k94_145 (u1 : zV) (u2 : zV) (u3 : zV) (l4 : Int) (l5 : Int) (l6 : Int) (l7 : Int) (l8 : Int) (u9 : zV) (l10 : Int) (u11 : zV) (s0 : Int) (h : zH) (Q : Option zV → zH → Prop) (k :
  (s0 = 0 →
    zC1 95 [vR 56 105] h (fun v14 h14 =>
    (inR (l10 + 1)) ∧ zK 94 54 [vR 56 105, u1, u2, u3, vI l4, vI l5, vI l6, vI l7, vI v14, vI s0, vI (l10 + 1), u11] [] h14 Q)) ∧
    (¬ (s0 = 0) →
    (inR (l8 + 1)) ∧ (inR (l10 + 1)) ∧ zK 94 54 [vR 56 105, u1, u2, u3, vI l4, vI l5, vI l6, vI l7, vI (l8 + 1), vI s0, vI (l10 + 1), u11] [] h Q)) : zK 94 145 [vR 56 105, u1, u2, u3, vI l4, vI l5, vI l6, vI l7, vI l8, u9, vI l10, u11] [vI s0] h Q :=
  zwpe_W (cd := c94) rfl [54, 83, 96, 97, 126, 144, 145] 400 145 _ _ _ _ k
-- 95 SyntaxRules$Fitting.nextChoice()I
set_option maxRecDepth 100000 in
set_option maxHeartbeats 4000000 in
theorem k95_0 (h : zH) (Q : Option zV → zH → Prop) (k :
  (inR ((gI h 56 6) - 1)) ∧ zK 95 7 [vR 56 105, vI ((gI h 56 6) - 1)] [] h Q) : zK 95 0 [vR 56 105, vU] [] h Q :=
  zwpe_W (cd := c95) rfl [7] 400 0 _ _ _ _ k
set_option maxRecDepth 100000 in
set_option maxHeartbeats 4000000 in
theorem k95_7 (l1 : Int) (h : zH) (Q : Option zV → zH → Prop) (k :
  (l1 < 0 →
    Q (some (vI ((-1)))) h) ∧
    (¬ (l1 < 0) →
    (0 ≤ (l1 : Int)) ∧ ((l1 : Int) < 3) ∧ zC1 96 [vR 56 105, vI (gI h 62 l1)] h (fun v3 h3 =>
    (v3 = 0 →
      ∀ h4 : zH, h4 = sI h3 56 6 l1 →
      (inR (l1 + (-1))) ∧ zK 95 7 [vR 56 105, vI (l1 + (-1))] [] h4 Q) ∧
      (¬ (v3 = 0) →
      (0 ≤ (l1 : Int)) ∧ ((l1 : Int) < 3) ∧ Q (some (vI (gI h3 62 l1))) h3)))) : zK 95 7 [vR 56 105, vI l1] [] h Q :=
  zwpe_W (cd := c95) rfl [7] 400 7 _ _ _ _ k
-- 96 SyntaxRules$Fitting.choosesMore(I)Z
set_option maxRecDepth 100000 in
set_option maxHeartbeats 4000000 in
theorem k96_0 (p1 : Int) (h : zH) (Q : Option zV → zH → Prop) (k :
  (zty 103 (gR h 56 8) h) ∧ (0 ≤ (p1 : Int)) ∧ ((p1 : Int) < 40) ∧ (¬ (gI h (gR h 56 8 + 3) p1) = 2 →
    (0 ≤ (p1 : Int)) ∧ ((p1 : Int) < 20) ∧ (zty 103 (gR h 56 8) h) ∧ zC1 70 [vR (gR h 56 8) 103, vI p1] h (fun v4 h4 =>
    (v4 < (gI h 61 p1) →
      zC0 102 [vR 56 105, vI p1] h4 (fun h5 =>
      ((1 : Int) = 0 ∨ (1 : Int) = 1) ∧ Q (some (vI 1)) h5)) ∧
      (¬ (v4 < (gI h 61 p1)) →
      ((0 : Int) = 0 ∨ (0 : Int) = 1) ∧ Q (some (vI 0)) h4))) ∧
    (¬ (¬ (gI h (gR h 56 8 + 3) p1) = 2) →
    (0 ≤ (p1 : Int)) ∧ ((p1 : Int) < 20) ∧ (inR ((gI h 57 p1) + 1)) ∧ (0 ≤ (p1 : Int)) ∧ ((p1 : Int) < 20) ∧ ∀ h6 : zH, h6 = sI h 57 p1 ((gI h 57 p1) + 1) →
    (0 ≤ (p1 : Int)) ∧ ((p1 : Int) < 20) ∧ (0 ≤ (p1 : Int)) ∧ ((p1 : Int) < 20) ∧ ((gI h6 60 p1) ≤ (gI h6 57 p1) →
      ((0 : Int) = 0 ∨ (0 : Int) = 1) ∧ Q (some (vI 0)) h6) ∧
      (¬ ((gI h6 60 p1) ≤ (gI h6 57 p1)) →
      ((1 : Int) = 0 ∨ (1 : Int) = 1) ∧ Q (some (vI 1)) h6))) : zK 96 0 [vR 56 105, vI p1] [] h Q :=
  zwpe_W (cd := c96) rfl [] 400 0 _ _ _ _ k
-- 97 SyntaxRules$Fitting.reach(II)V
set_option maxRecDepth 100000 in
set_option maxHeartbeats 4000000 in
theorem k97_0 (p1 : Int) (p2 : Int) (h : zH) (Q : Option zV → zH → Prop) (k :
  (¬ p1 = (gI h 56 9) →
    (zty 103 (gR h 56 8) h) ∧ (0 ≤ (p1 : Int)) ∧ ((p1 : Int) < 40) ∧ zK 97 21 [vR 56 105, vI p1, vI p2, vU, vU] [vI (gI h (gR h 56 8 + 6) p1)] h Q) ∧
    (¬ (¬ p1 = (gI h 56 9)) →
    zK 97 21 [vR 56 105, vI p1, vI p2, vU, vU] [vI ((-1))] h Q)) : zK 97 0 [vR 56 105, vI p1, vI p2, vU, vU] [] h Q :=
  zwpe_W (cd := c97) rfl [21] 400 0 _ _ _ _ k
set_option maxRecDepth 100000 in
set_option maxHeartbeats 4000000 in
theorem k97_21 (l1 : Int) (l2 : Int) (u3 : zV) (u4 : zV) (s0 : Int) (h : zH) (Q : Option zV → zH → Prop) (k :
  (¬ s0 = (-1) →
    (zty 103 (gR h 56 8) h) ∧ (0 ≤ (l1 : Int)) ∧ ((l1 : Int) < 40) ∧ (zty 103 (gR h 56 8) h) ∧ (0 ≤ (s0 : Int)) ∧ ((s0 : Int) < 40) ∧ (¬ (gI h (gR h 56 8 + 3) s0) = 2 →
      (¬ (gI h (gR h 56 8 + 7) l1) = (-1) →
        (0 ≤ (gI h (gR h 56 8 + 7) l1 : Int)) ∧ ((gI h (gR h 56 8 + 7) l1 : Int) < 20) ∧ ∀ h9 : zH, h9 = sI h 56 10 (gI h 60 (gI h (gR h 56 8 + 7) l1)) →
        (0 ≤ (gI h (gR h 56 8 + 7) l1 : Int)) ∧ ((gI h (gR h 56 8 + 7) l1 : Int) < 20) ∧ ∀ h10 : zH, h10 = sI h9 56 11 (gI h9 61 (gI h (gR h 56 8 + 7) l1)) →
        Q none h10) ∧
        (¬ (¬ (gI h (gR h 56 8 + 7) l1) = (-1)) →
        (0 ≤ (s0 : Int)) ∧ ((s0 : Int) < 20) ∧ (inR ((gI h 57 s0) + 1)) ∧ ∀ h11 : zH, h11 = sI h 56 10 ((gI h 57 s0) + 1) →
        (zty 102 (gR h11 56 7) h11) ∧ (0 ≤ (s0 : Int)) ∧ ((s0 : Int) < 20) ∧ (0 ≤ (gI h11 57 s0 : Int)) ∧ ((gI h11 57 s0 : Int) < 60) ∧ ∀ h12 : zH, h12 = sI h11 56 11 (gI h11 (gR h11 56 7 + 6) (gI h11 57 s0)) →
        Q none h12)) ∧
      (¬ (¬ (gI h (gR h 56 8 + 3) s0) = 2) →
      (0 ≤ (s0 : Int)) ∧ ((s0 : Int) < 20) ∧ ∀ h13 : zH, h13 = sI h 56 10 (gI h 57 s0) →
      ∀ h14 : zH, h14 = sI h13 56 11 1 →
      Q none h14)) ∧
    (¬ (¬ s0 = (-1)) →
    ∀ h15 : zH, h15 = sI h 56 10 l2 →
    ∀ h16 : zH, h16 = sI h15 56 11 1 →
    Q none h16)) : zK 97 21 [vR 56 105, vI l1, vI l2, u3, u4] [vI s0] h Q :=
  zwpe_W (cd := c97) rfl [21] 400 21 _ _ _ _ k
-- 98 SyntaxRules$Fitting.enter(II)Z
set_option maxRecDepth 100000 in
set_option maxHeartbeats 4000000 in
theorem k98_0 (p1 : Int) (p2 : Int) (h : zH) (Q : Option zV → zH → Prop) (k :
  zC0 97 [vR 56 105, vI p1, vI p2] h (fun h12 =>
  (zty 103 (gR h12 56 8) h12) ∧ (0 ≤ (p1 : Int)) ∧ ((p1 : Int) < 40) ∧ (¬ (gI h12 (gR h12 56 8 + 3) p1) = 5 →
    (1 ≤ (gI h12 56 11) →
      (0 ≤ (p1 : Int)) ∧ ((p1 : Int) < 20) ∧ ∀ h13 : zH, h13 = sI h12 57 p1 (gI h12 56 10) →
      (0 ≤ (p1 : Int)) ∧ ((p1 : Int) < 20) ∧ ∀ h14 : zH, h14 = sI h13 58 p1 (gI h13 56 10) →
      (0 ≤ (p1 : Int)) ∧ ((p1 : Int) < 20) ∧ ∀ h15 : zH, h15 = sI h14 59 p1 1 →
      (zty 102 (gR h15 56 7) h15) ∧ (0 ≤ (gI h15 56 10 : Int)) ∧ ((gI h15 56 10 : Int) < 60) ∧ (inR ((gI h15 56 10) + (gI h15 (gR h15 56 7 + 9) (gI h15 56 10)))) ∧ (0 ≤ (p1 : Int)) ∧ ((p1 : Int) < 20) ∧ ∀ h16 : zH, h16 = sI h15 60 p1 ((gI h15 56 10) + (gI h15 (gR h15 56 7 + 9) (gI h15 56 10))) →
      (inR ((gI h16 56 11) - 1)) ∧ (0 ≤ (p1 : Int)) ∧ ((p1 : Int) < 20) ∧ ∀ h17 : zH, h17 = sI h16 61 p1 ((gI h16 56 11) - 1) →
      (zty 102 (gR h17 56 7) h17) ∧ (0 ≤ (gI h17 56 10 : Int)) ∧ ((gI h17 56 10 : Int) < 60) ∧ (¬ (gI h17 (gR h17 56 7 + 3) (gI h17 56 10)) = 2 →
        zK 98 118 [vR 56 105, vI p1, vI p2, vU] [vI 0] h17 Q) ∧
        (¬ (¬ (gI h17 (gR h17 56 7 + 3) (gI h17 56 10)) = 2) →
        zK 98 118 [vR 56 105, vI p1, vI p2, vU] [vI 1] h17 Q)) ∧
      (¬ (1 ≤ (gI h12 56 11)) →
      ((0 : Int) = 0 ∨ (0 : Int) = 1) ∧ Q (some (vI 0)) h12)) ∧
    (¬ (¬ (gI h12 (gR h12 56 8 + 3) p1) = 5) →
    zC1 101 [vR 56 105, vI p1] h12 (fun v18 h18 =>
    ((v18 : Int) = 0 ∨ (v18 : Int) = 1) ∧ Q (some (vI v18)) h18)))) : zK 98 0 [vR 56 105, vI p1, vI p2, vU] [] h Q :=
  zwpe_W (cd := c98) rfl [118] 400 0 _ _ _ _ k
set_option maxRecDepth 100000 in
set_option maxHeartbeats 4000000 in
theorem k98_118 (l1 : Int) (u2 : zV) (u3 : zV) (s0 : Int) (h : zH) (Q : Option zV → zH → Prop) (k :
  (zty 103 (gR h 56 8) h) ∧ (0 ≤ (l1 : Int)) ∧ ((l1 : Int) < 40) ∧ ((gI h (gR h 56 8 + 3) l1) = (1 : Int) →
    (zty 103 (gR h 56 8) h) ∧ (0 ≤ (l1 : Int)) ∧ ((l1 : Int) < 40) ∧ ((gI h (gR h 56 8 + 5) l1) = (-1) →
      ((1 : Int) = 0 ∨ (1 : Int) = 1) ∧ Q (some (vI 1)) h) ∧
      (¬ ((gI h (gR h 56 8 + 5) l1) = (-1)) →
      (zty 103 (gR h 56 8) h) ∧ (0 ≤ (l1 : Int)) ∧ ((l1 : Int) < 40) ∧ (zty 102 (gR h 56 7) h) ∧ (0 ≤ (gI h 56 10 : Int)) ∧ ((gI h 56 10 : Int) < 60) ∧ (¬ (gI h (gR h 56 8 + 5) l1) = (gI h (gR h 56 7 + 3) (gI h 56 10)) →
        ((0 : Int) = 0 ∨ (0 : Int) = 1) ∧ Q (some (vI 0)) h) ∧
        (¬ (¬ (gI h (gR h 56 8 + 5) l1) = (gI h (gR h 56 7 + 3) (gI h 56 10))) →
        ((1 : Int) = 0 ∨ (1 : Int) = 1) ∧ Q (some (vI 1)) h))) ∧
    (¬ ((gI h (gR h 56 8 + 3) l1) = (1 : Int)) →
    ((gI h (gR h 56 8 + 3) l1) = ((1 : Int) + 1) →
    zC1 100 [vR 56 105, vI l1] h (fun v22 h22 =>
    ((v22 : Int) = 0 ∨ (v22 : Int) = 1) ∧ Q (some (vI v22)) h22)) ∧
    (¬ ((gI h (gR h 56 8 + 3) l1) = ((1 : Int) + 1)) →
    ((gI h (gR h 56 8 + 3) l1) = ((1 : Int) + 1 + 1) →
    (¬ s0 = 0 →
      ((0 : Int) = 0 ∨ (0 : Int) = 1) ∧ Q (some (vI 0)) h) ∧
      (¬ (¬ s0 = 0) →
      (zty 102 (gR h 56 7) h) ∧ (zty 103 (gR h 56 8) h) ∧ zC1 63 [vR (gR h 56 7) 102, vI (gI h 56 10), vR (gR h 56 8) 103, vI l1] h (fun v21 h21 =>
      (v21 = 0 →
        ((0 : Int) = 0 ∨ (0 : Int) = 1) ∧ Q (some (vI 0)) h21) ∧
        (¬ (v21 = 0) →
        ((1 : Int) = 0 ∨ (1 : Int) = 1) ∧ Q (some (vI 1)) h21)))) ∧
    (¬ ((gI h (gR h 56 8 + 3) l1) = ((1 : Int) + 1 + 1)) →
    ((gI h (gR h 56 8 + 3) l1) = ((1 : Int) + 1 + 1 + 1) →
    (s0 = 0 →
      ((0 : Int) = 0 ∨ (0 : Int) = 1) ∧ Q (some (vI 0)) h) ∧
      (¬ (s0 = 0) →
      (zty 102 (gR h 56 7) h) ∧ (zty 103 (gR h 56 8) h) ∧ zC1 63 [vR (gR h 56 7) 102, vI (gI h 56 10), vR (gR h 56 8) 103, vI l1] h (fun v19 h19 =>
      (v19 = 0 →
        ((0 : Int) = 0 ∨ (0 : Int) = 1) ∧ Q (some (vI 0)) h19) ∧
        (¬ (v19 = 0) →
        zC1 99 [vR 56 105, vI l1] h19 (fun v20 h20 =>
        (v20 = 0 →
          ((0 : Int) = 0 ∨ (0 : Int) = 1) ∧ Q (some (vI 0)) h20) ∧
          (¬ (v20 = 0) →
          ((1 : Int) = 0 ∨ (1 : Int) = 1) ∧ Q (some (vI 1)) h20)))))) ∧
    (¬ ((gI h (gR h 56 8 + 3) l1) = ((1 : Int) + 1 + 1 + 1)) →
    ((1 : Int) = 0 ∨ (1 : Int) = 1) ∧ Q (some (vI 1)) h))))) : zK 98 118 [vR 56 105, vI l1, u2, u3] [vI s0] h Q :=
  zwpe_W (cd := c98) rfl [118] 400 118 _ _ _ _ k
-- 99 SyntaxRules$Fitting.hasParts(I)Z
set_option maxRecDepth 100000 in
set_option maxHeartbeats 4000000 in
theorem k99_0 (p1 : Int) (h : zH) (Q : Option zV → zH → Prop) (k :
  (zty 103 (gR h 56 8) h) ∧ (0 ≤ (p1 : Int)) ∧ ((p1 : Int) < 40) ∧ (zty 103 (gR h 56 8) h) ∧ (0 ≤ (p1 : Int)) ∧ ((p1 : Int) < 40) ∧ (inR ((gI h (gR h 56 8 + 9) p1) - (gI h (gR h 56 8 + 10) p1))) ∧ (zty 103 (gR h 56 8) h) ∧ (0 ≤ (p1 : Int)) ∧ ((p1 : Int) < 40) ∧ (¬ (gI h (gR h 56 8 + 10) p1) = 0 →
    (zty 102 (gR h 56 7) h) ∧ (0 ≤ (gI h 56 10 : Int)) ∧ ((gI h 56 10 : Int) < 60) ∧ ((gI h (gR h 56 7 + 6) (gI h 56 10)) < ((gI h (gR h 56 8 + 9) p1) - (gI h (gR h 56 8 + 10) p1)) →
      ((0 : Int) = 0 ∨ (0 : Int) = 1) ∧ Q (some (vI 0)) h) ∧
      (¬ ((gI h (gR h 56 7 + 6) (gI h 56 10)) < ((gI h (gR h 56 8 + 9) p1) - (gI h (gR h 56 8 + 10) p1))) →
      ((1 : Int) = 0 ∨ (1 : Int) = 1) ∧ Q (some (vI 1)) h)) ∧
    (¬ (¬ (gI h (gR h 56 8 + 10) p1) = 0) →
    (zty 102 (gR h 56 7) h) ∧ (0 ≤ (gI h 56 10 : Int)) ∧ ((gI h 56 10 : Int) < 60) ∧ (¬ (gI h (gR h 56 7 + 6) (gI h 56 10)) = ((gI h (gR h 56 8 + 9) p1) - (gI h (gR h 56 8 + 10) p1)) →
      ((0 : Int) = 0 ∨ (0 : Int) = 1) ∧ Q (some (vI 0)) h) ∧
      (¬ (¬ (gI h (gR h 56 7 + 6) (gI h 56 10)) = ((gI h (gR h 56 8 + 9) p1) - (gI h (gR h 56 8 + 10) p1))) →
      ((1 : Int) = 0 ∨ (1 : Int) = 1) ∧ Q (some (vI 1)) h))) : zK 99 0 [vR 56 105, vI p1, vU] [] h Q :=
  zwpe_W (cd := c99) rfl [] 400 0 _ _ _ _ k
-- 100 SyntaxRules$Fitting.openChoice(I)Z
set_option maxRecDepth 100000 in
set_option maxHeartbeats 4000000 in
theorem k100_0 (p1 : Int) (h : zH) (Q : Option zV → zH → Prop) (k :
  (3 ≤ (gI h 56 6) →
    ((1 : Int) = 0 ∨ (1 : Int) = 1) ∧ Q (some (vI 1)) h) ∧
    (¬ (3 ≤ (gI h 56 6)) →
    (0 ≤ (gI h 56 6 : Int)) ∧ ((gI h 56 6 : Int) < 3) ∧ ∀ h3 : zH, h3 = sI h 62 (gI h 56 6) p1 →
    (inR ((gI h3 56 6) + 1)) ∧ ∀ h4 : zH, h4 = sI h3 56 6 ((gI h3 56 6) + 1) →
    ((1 : Int) = 0 ∨ (1 : Int) = 1) ∧ Q (some (vI 1)) h4)) : zK 100 0 [vR 56 105, vI p1] [] h Q :=
  zwpe_W (cd := c100) rfl [] 400 0 _ _ _ _ k
-- 101 SyntaxRules$Fitting.enterRow(I)Z
set_option maxRecDepth 100000 in
set_option maxHeartbeats 4000000 in
theorem k101_0 (p1 : Int) (h : zH) (Q : Option zV → zH → Prop) (k :
  (0 ≤ (p1 : Int)) ∧ ((p1 : Int) < 20) ∧ ∀ h10 : zH, h10 = sI h 57 p1 (gI h 56 10) →
  (0 ≤ (p1 : Int)) ∧ ((p1 : Int) < 20) ∧ ∀ h11 : zH, h11 = sI h10 58 p1 (-1) →
  (0 ≤ (p1 : Int)) ∧ ((p1 : Int) < 20) ∧ ∀ h12 : zH, h12 = sI h11 59 p1 0 →
  (0 ≤ (p1 : Int)) ∧ ((p1 : Int) < 20) ∧ ∀ h13 : zH, h13 = sI h12 60 p1 (gI h12 56 10) →
  (0 ≤ (p1 : Int)) ∧ ((p1 : Int) < 20) ∧ ∀ h14 : zH, h14 = sI h13 61 p1 (gI h13 56 11) →
  (zty 103 (gR h14 56 8) h14) ∧ zC1 69 [vR (gR h14 56 8) 103, vI p1] h14 (fun v15 h15 =>
  (v15 ≤ 0 →
    (zty 103 (gR h15 56 8) h15) ∧ zC1 70 [vR (gR h15 56 8) 103, vI p1] h15 (fun v16 h16 =>
    (inR ((gI h15 56 11) - v16)) ∧ zK 101 77 [vR 56 105, vI p1, vI ((gI h15 56 11) - v16), vI 0] [] h16 Q)) ∧
    (¬ (v15 ≤ 0) →
    zC1 100 [vR 56 105, vI p1] h15 (fun v17 h17 =>
    ((v17 : Int) = 0 ∨ (v17 : Int) = 1) ∧ Q (some (vI v17)) h17)))) : zK 101 0 [vR 56 105, vI p1, vU, vU] [] h Q :=
  zwpe_W (cd := c101) rfl [77] 400 0 _ _ _ _ k
set_option maxRecDepth 100000 in
set_option maxHeartbeats 4000000 in
theorem k101_77 (l1 : Int) (l2 : Int) (l3 : Int) (h : zH) (Q : Option zV → zH → Prop) (k :
  (l2 ≤ l3 →
    ((1 : Int) = 0 ∨ (1 : Int) = 1) ∧ Q (some (vI 1)) h) ∧
    (¬ (l2 ≤ l3) →
    zC0 102 [vR 56 105, vI l1] h (fun h18 =>
    (inR (l3 + 1)) ∧ zK 101 77 [vR 56 105, vI l1, vI l2, vI (l3 + 1)] [] h18 Q))) : zK 101 77 [vR 56 105, vI l1, vI l2, vI l3] [] h Q :=
  zwpe_W (cd := c101) rfl [77] 400 77 _ _ _ _ k
-- 102 SyntaxRules$Fitting.takePart(I)V
set_option maxRecDepth 100000 in
set_option maxHeartbeats 4000000 in
theorem k102_0 (p1 : Int) (h : zH) (Q : Option zV → zH → Prop) (k :
  (0 ≤ (p1 : Int)) ∧ ((p1 : Int) < 20) ∧ (0 ≤ (p1 : Int)) ∧ ((p1 : Int) < 20) ∧ ∀ h5 : zH, h5 = sI h 58 p1 (gI h 60 p1) →
  (0 ≤ (p1 : Int)) ∧ ((p1 : Int) < 20) ∧ (zty 102 (gR h5 56 7) h5) ∧ (0 ≤ (p1 : Int)) ∧ ((p1 : Int) < 20) ∧ (0 ≤ (gI h5 60 p1 : Int)) ∧ ((gI h5 60 p1 : Int) < 60) ∧ (inR ((gI h5 60 p1) + (gI h5 (gR h5 56 7 + 9) (gI h5 60 p1)))) ∧ (0 ≤ (p1 : Int)) ∧ ((p1 : Int) < 20) ∧ ∀ h6 : zH, h6 = sI h5 60 p1 ((gI h5 60 p1) + (gI h5 (gR h5 56 7 + 9) (gI h5 60 p1))) →
  (0 ≤ (p1 : Int)) ∧ ((p1 : Int) < 20) ∧ (inR ((gI h6 61 p1) - 1)) ∧ (0 ≤ (p1 : Int)) ∧ ((p1 : Int) < 20) ∧ ∀ h7 : zH, h7 = sI h6 61 p1 ((gI h6 61 p1) - 1) →
  (0 ≤ (p1 : Int)) ∧ ((p1 : Int) < 20) ∧ (inR ((gI h7 59 p1) + 1)) ∧ (0 ≤ (p1 : Int)) ∧ ((p1 : Int) < 20) ∧ ∀ h8 : zH, h8 = sI h7 59 p1 ((gI h7 59 p1) + 1) →
  Q none h8) : zK 102 0 [vR 56 105, vI p1] [] h Q :=
  zwpe_W (cd := c102) rfl [] 400 0 _ _ _ _ k
-- 103 SyntaxRules$Fitting.isAsBefore(I)Z
set_option maxRecDepth 100000 in
set_option maxHeartbeats 4000000 in
theorem k103_0 (p1 : Int) (h : zH) (Q : Option zV → zH → Prop) (k :
  (zty 103 (gR h 56 8) h) ∧ (0 ≤ (p1 : Int)) ∧ ((p1 : Int) < 40) ∧ (¬ (gI h (gR h 56 8 + 4) p1) = (-1) →
    (zty 103 (gR h 56 8) h) ∧ (zty 103 (gR h 56 8) h) ∧ (0 ≤ (p1 : Int)) ∧ ((p1 : Int) < 40) ∧ zC1 68 [vR (gR h 56 8) 103, vI (gI h 56 9), vI (gI h (gR h 56 8 + 4) p1)] h (fun v3 h3 =>
    zK 103 37 [vR 56 105, vI p1, vU, vU] [vI v3] h3 Q)) ∧
    (¬ (¬ (gI h (gR h 56 8 + 4) p1) = (-1)) →
    zK 103 37 [vR 56 105, vI p1, vU, vU] [vI p1] h Q)) : zK 103 0 [vR 56 105, vI p1, vU, vU] [] h Q :=
  zwpe_W (cd := c103) rfl [37] 400 0 _ _ _ _ k
set_option maxRecDepth 100000 in
set_option maxHeartbeats 4000000 in
theorem k103_37 (l1 : Int) (u2 : zV) (u3 : zV) (s0 : Int) (h : zH) (Q : Option zV → zH → Prop) (k :
  (s0 = (-1) →
    ((1 : Int) = 0 ∨ (1 : Int) = 1) ∧ Q (some (vI 1)) h) ∧
    (¬ (s0 = (-1)) →
    (¬ s0 = l1 →
      (0 ≤ (l1 : Int)) ∧ ((l1 : Int) < 20) ∧ (0 ≤ (l1 : Int)) ∧ ((l1 : Int) < 20) ∧ (inR ((gI h 60 l1) - (gI h 57 l1))) ∧ (0 ≤ (s0 : Int)) ∧ ((s0 : Int) < 20) ∧ (0 ≤ (l1 : Int)) ∧ ((l1 : Int) < 20) ∧ (¬ (gI h 59 s0) = (gI h 59 l1) →
        ((0 : Int) = 0 ∨ (0 : Int) = 1) ∧ Q (some (vI 0)) h) ∧
        (¬ (¬ (gI h 59 s0) = (gI h 59 l1)) →
        (0 ≤ (s0 : Int)) ∧ ((s0 : Int) < 20) ∧ (0 ≤ (s0 : Int)) ∧ ((s0 : Int) < 20) ∧ (inR ((gI h 60 s0) - (gI h 57 s0))) ∧ (¬ ((gI h 60 s0) - (gI h 57 s0)) = ((gI h 60 l1) - (gI h 57 l1)) →
          ((0 : Int) = 0 ∨ (0 : Int) = 1) ∧ Q (some (vI 0)) h) ∧
          (¬ (¬ ((gI h 60 s0) - (gI h 57 s0)) = ((gI h 60 l1) - (gI h 57 l1))) →
          (zty 102 (gR h 56 7) h) ∧ (0 ≤ (s0 : Int)) ∧ ((s0 : Int) < 20) ∧ (0 ≤ (l1 : Int)) ∧ ((l1 : Int) < 20) ∧ zC1 62 [vR (gR h 56 7) 102, vI (gI h 57 s0), vI (gI h 57 l1), vI ((gI h 60 l1) - (gI h 57 l1))] h (fun v4 h4 =>
          (v4 = 0 →
            ((0 : Int) = 0 ∨ (0 : Int) = 1) ∧ Q (some (vI 0)) h4) ∧
            (¬ (v4 = 0) →
            ((1 : Int) = 0 ∨ (1 : Int) = 1) ∧ Q (some (vI 1)) h4))))) ∧
      (¬ (¬ s0 = l1) →
      ((1 : Int) = 0 ∨ (1 : Int) = 1) ∧ Q (some (vI 1)) h))) : zK 103 37 [vR 56 105, vI l1, u2, u3] [vI s0] h Q :=
  zwpe_W (cd := c103) rfl [37] 400 37 _ _ _ _ k
-- 104 SyntaxRules$TestTree.<init>()V
set_option maxRecDepth 100000 in
set_option maxHeartbeats 4000000 in
theorem k104_0 (a0 : Nat) (h : zH) (Q : Option zV → zH → Prop) (k :
  (0 ≤ (40 : Int) ∧ (40 : Int) ≤ 10000) ∧ ∀ h27 : zH, h27 = nw h 40 ((40 : Int)).toNat →
  (zty 126 a0 h27) ∧ ∀ h28 : zH, h28 = sR h27 a0 1 (nx h) →
  (0 ≤ (40 : Int) ∧ (40 : Int) ≤ 10000) ∧ ∀ h29 : zH, h29 = nw h28 40 ((40 : Int)).toNat →
  (zty 126 a0 h29) ∧ ∀ h30 : zH, h30 = sR h29 a0 2 (nx h28) →
  (0 ≤ (40 : Int) ∧ (40 : Int) ≤ 10000) ∧ ∀ h31 : zH, h31 = nw h30 40 ((40 : Int)).toNat →
  (zty 126 a0 h31) ∧ ∀ h32 : zH, h32 = sR h31 a0 3 (nx h30) →
  (0 ≤ (26 : Int) ∧ (26 : Int) ≤ 10000) ∧ ∀ h33 : zH, h33 = nw h32 40 ((26 : Int)).toNat →
  (zty 126 a0 h33) ∧ ∀ h34 : zH, h34 = sR h33 a0 4 (nx h32) →
  (0 ≤ (320 : Int) ∧ (320 : Int) ≤ 10000) ∧ ∀ h35 : zH, h35 = nw h34 40 ((320 : Int)).toNat →
  (zty 126 a0 h35) ∧ ∀ h36 : zH, h36 = sR h35 a0 7 (nx h34) →
  (0 ≤ (320 : Int) ∧ (320 : Int) ≤ 10000) ∧ ∀ h37 : zH, h37 = nw h36 44 ((320 : Int)).toNat →
  (zty 126 a0 h37) ∧ ∀ h38 : zH, h38 = sR h37 a0 8 (nx h36) →
  (0 ≤ (320 : Int) ∧ (320 : Int) ≤ 10000) ∧ ∀ h39 : zH, h39 = nw h38 40 ((320 : Int)).toNat →
  (zty 126 a0 h39) ∧ ∀ h40 : zH, h40 = sR h39 a0 9 (nx h38) →
  (0 ≤ (320 : Int) ∧ (320 : Int) ≤ 10000) ∧ ∀ h41 : zH, h41 = nw h40 40 ((320 : Int)).toNat →
  (zty 126 a0 h41) ∧ ∀ h42 : zH, h42 = sR h41 a0 10 (nx h40) →
  (0 ≤ (320 : Int) ∧ (320 : Int) ≤ 10000) ∧ ∀ h43 : zH, h43 = nw h42 40 ((320 : Int)).toNat →
  (zty 126 a0 h43) ∧ ∀ h44 : zH, h44 = sR h43 a0 11 (nx h42) →
  (0 ≤ (320 : Int) ∧ (320 : Int) ≤ 10000) ∧ ∀ h45 : zH, h45 = nw h44 40 ((320 : Int)).toNat →
  (zty 126 a0 h45) ∧ ∀ h46 : zH, h46 = sR h45 a0 12 (nx h44) →
  (0 ≤ (320 : Int) ∧ (320 : Int) ≤ 10000) ∧ ∀ h47 : zH, h47 = nw h46 40 ((320 : Int)).toNat →
  (zty 126 a0 h47) ∧ ∀ h48 : zH, h48 = sR h47 a0 13 (nx h46) →
  (0 ≤ (320 : Int) ∧ (320 : Int) ≤ 10000) ∧ ∀ h49 : zH, h49 = nw h48 41 ((320 : Int)).toNat →
  (zty 126 a0 h49) ∧ ∀ h50 : zH, h50 = sR h49 a0 14 (nx h48) →
  (0 ≤ (20 : Int) ∧ (20 : Int) ≤ 10000) ∧ ∀ h51 : zH, h51 = nw h50 40 ((20 : Int)).toNat →
  (zty 126 a0 h51) ∧ (gR (sR h51 a0 15 (nx h50)) a0 1 = a0 + 1) ∧ (zty 4140 (a0 + 1) (sR h51 a0 15 (nx h50))) ∧ (gR (sR h51 a0 15 (nx h50)) a0 2 = a0 + 2) ∧ (zty 4140 (a0 + 2) (sR h51 a0 15 (nx h50))) ∧ (gR (sR h51 a0 15 (nx h50)) a0 3 = a0 + 3) ∧ (zty 4140 (a0 + 3) (sR h51 a0 15 (nx h50))) ∧ (gR (sR h51 a0 15 (nx h50)) a0 4 = a0 + 4) ∧ (zty 2740 (a0 + 4) (sR h51 a0 15 (nx h50))) ∧ (gR (sR h51 a0 15 (nx h50)) a0 7 = a0 + 5) ∧ (zty 32140 (a0 + 5) (sR h51 a0 15 (nx h50))) ∧ (gR (sR h51 a0 15 (nx h50)) a0 8 = a0 + 6) ∧ (zty 32144 (a0 + 6) (sR h51 a0 15 (nx h50))) ∧ (gR (sR h51 a0 15 (nx h50)) a0 9 = a0 + 7) ∧ (zty 32140 (a0 + 7) (sR h51 a0 15 (nx h50))) ∧ (gR (sR h51 a0 15 (nx h50)) a0 10 = a0 + 8) ∧ (zty 32140 (a0 + 8) (sR h51 a0 15 (nx h50))) ∧ (gR (sR h51 a0 15 (nx h50)) a0 11 = a0 + 9) ∧ (zty 32140 (a0 + 9) (sR h51 a0 15 (nx h50))) ∧ (gR (sR h51 a0 15 (nx h50)) a0 12 = a0 + 10) ∧ (zty 32140 (a0 + 10) (sR h51 a0 15 (nx h50))) ∧ (gR (sR h51 a0 15 (nx h50)) a0 13 = a0 + 11) ∧ (zty 32140 (a0 + 11) (sR h51 a0 15 (nx h50))) ∧ (gR (sR h51 a0 15 (nx h50)) a0 14 = a0 + 12) ∧ (zty 32141 (a0 + 12) (sR h51 a0 15 (nx h50))) ∧ (gR (sR h51 a0 15 (nx h50)) a0 15 = a0 + 13) ∧ (zty 2140 (a0 + 13) (sR h51 a0 15 (nx h50))) ∧ ∀ h52 : zH, h52 = sT (sR h51 a0 15 (nx h50)) a0 6 →
  Q none h52) : zK 104 0 [vR a0 0] [] h Q :=
  zwpe_W (cd := c104) rfl [] 400 0 _ _ _ _ k
-- 105 SyntaxRules$TestTree.layRow(LSyntaxRules$Rule;)I
set_option maxRecDepth 100000 in
set_option maxHeartbeats 4000000 in
theorem k105_0 (p1 : Nat) (h : zH) (Q : Option zV → zH → Prop) (k :
  ∀ h8 : zH, h8 = sI h 63 0 0 →
  zK 105 7 [vR 63 106, vR p1 103, vI 0] [] h8 Q) : zK 105 0 [vR 63 106, vR p1 103, vU] [] h Q :=
  zwpe_W (cd := c105) rfl [7, 28, 55] 400 0 _ _ _ _ k
set_option maxRecDepth 100000 in
set_option maxHeartbeats 4000000 in
theorem k105_7 (a1 : Nat) (l2 : Int) (h : zH) (Q : Option zV → zH → Prop) (k :
  (26 ≤ l2 →
    zK 105 28 [vR 63 106, vR a1 103, vI 0] [] h Q) ∧
    (¬ (26 ≤ l2) →
    (0 ≤ (l2 : Int)) ∧ ((l2 : Int) < 26) ∧ ∀ h9 : zH, h9 = sI h 67 l2 (-1) →
    (inR (l2 + 1)) ∧ zK 105 7 [vR 63 106, vR a1 103, vI (l2 + 1)] [] h9 Q)) : zK 105 7 [vR 63 106, vR a1 103, vI l2] [] h Q :=
  zwpe_W (cd := c105) rfl [7, 28, 55] 400 7 _ _ _ _ k
set_option maxRecDepth 100000 in
set_option maxHeartbeats 4000000 in
theorem k105_28 (a1 : Nat) (l2 : Int) (h : zH) (Q : Option zV → zH → Prop) (k :
  ((gI h a1 14) ≤ l2 →
    Q (some (vI (gI h 63 0))) h) ∧
    (¬ ((gI h a1 14) ≤ l2) →
    (0 ≤ (l2 : Int)) ∧ ((l2 : Int) < 40) ∧ ((gI h (a1 + 3) l2) = 2 →
      zK 105 55 [vR 63 106, vR a1 103, vI l2] [] h Q) ∧
      (¬ ((gI h (a1 + 3) l2) = 2) →
      (0 ≤ (l2 : Int)) ∧ ((l2 : Int) < 40) ∧ ((gI h (a1 + 10) l2) ≤ 0 →
        (0 ≤ (l2 : Int)) ∧ ((l2 : Int) < 40) ∧ (¬ (gI h (a1 + 3) l2) = 4 →
          (0 ≤ (l2 : Int)) ∧ ((l2 : Int) < 40) ∧ (¬ (gI h (a1 + 3) l2) = 3 →
            (0 ≤ (l2 : Int)) ∧ ((l2 : Int) < 40) ∧ (¬ (gI h (a1 + 3) l2) = 1 →
              (inR (l2 + 1)) ∧ zK 105 28 [vR 63 106, vR a1 103, vI (l2 + 1)] [] h Q) ∧
              (¬ (¬ (gI h (a1 + 3) l2) = 1) →
              zC0 106 [vR 63 106, vR a1 103, vI l2] h (fun h10 =>
              (inR (l2 + 1)) ∧ zK 105 28 [vR 63 106, vR a1 103, vI (l2 + 1)] [] h10 Q))) ∧
            (¬ (¬ (gI h (a1 + 3) l2) = 3) →
            zC0 107 [vR 63 106, vI 0, vI l2, vI ((-1))] h (fun h11 =>
            (inR (l2 + 1)) ∧ zK 105 28 [vR 63 106, vR a1 103, vI (l2 + 1)] [] h11 Q))) ∧
          (¬ (¬ (gI h (a1 + 3) l2) = 4) →
          zC0 107 [vR 63 106, vI 1, vI l2, vI ((-1))] h (fun h12 =>
          zC0 107 [vR 63 106, vI 2, vI l2, vI ((-1))] h12 (fun h13 =>
          (inR (l2 + 1)) ∧ zK 105 28 [vR 63 106, vR a1 103, vI (l2 + 1)] [] h13 Q)))) ∧
        (¬ ((gI h (a1 + 10) l2) ≤ 0) →
        zK 105 55 [vR 63 106, vR a1 103, vI l2] [] h Q)))) : zK 105 28 [vR 63 106, vR a1 103, vI l2] [] h Q :=
  zwpe_W (cd := c105) rfl [7, 28, 55] 400 28 _ _ _ _ k
set_option maxRecDepth 100000 in
set_option maxHeartbeats 4000000 in
theorem k105_55 (a1 : Nat) (l2 : Int) (h : zH) (Q : Option zV → zH → Prop) (k :
  zC0 107 [vR 63 106, vI 5, vI l2, vI ((-1))] h (fun h14 =>
  (0 ≤ (l2 : Int)) ∧ ((l2 : Int) < 40) ∧ (inR ((gI h14 (a1 + 12) l2) - 1)) ∧ (inR (l2 + ((gI h14 (a1 + 12) l2) - 1))) ∧ (inR ((l2 + ((gI h14 (a1 + 12) l2) - 1)) + 1)) ∧ zK 105 28 [vR 63 106, vR a1 103, vI ((l2 + ((gI h14 (a1 + 12) l2) - 1)) + 1)] [] h14 Q)) : zK 105 55 [vR 63 106, vR a1 103, vI l2] [] h Q :=
  zwpe_W (cd := c105) rfl [7, 28, 55] 400 55 _ _ _ _ k
-- 106 SyntaxRules$TestTree.layHole(LSyntaxRules$Rule;I)V
set_option maxRecDepth 100000 in
set_option maxHeartbeats 4000000 in
theorem k106_0 (p1 : Nat) (p2 : Int) (h : zH) (Q : Option zV → zH → Prop) (k :
  (0 ≤ (p2 : Int)) ∧ ((p2 : Int) < 40) ∧ (0 ≤ (p2 : Int)) ∧ ((p2 : Int) < 40) ∧ ((gI h (p1 + 5) p2) = (-1) →
    zK 106 24 [vR 63 106, vR p1 103, vI p2, vI (gI h (p1 + 4) p2)] [] h Q) ∧
    (¬ ((gI h (p1 + 5) p2) = (-1)) →
    zC0 107 [vR 63 106, vI 3, vI p2, vI ((-1))] h (fun h4 =>
    zK 106 24 [vR 63 106, vR p1 103, vI p2, vI (gI h (p1 + 4) p2)] [] h4 Q))) : zK 106 0 [vR 63 106, vR p1 103, vI p2, vU] [] h Q :=
  zwpe_W (cd := c106) rfl [24] 400 0 _ _ _ _ k
set_option maxRecDepth 100000 in
set_option maxHeartbeats 4000000 in
theorem k106_24 (u1 : zV) (l2 : Int) (l3 : Int) (h : zH) (Q : Option zV → zH → Prop) (k :
  (0 ≤ (l3 : Int)) ∧ ((l3 : Int) < 26) ∧ (¬ (gI h 67 l3) = (-1) →
    (0 ≤ (l3 : Int)) ∧ ((l3 : Int) < 26) ∧ zC0 107 [vR 63 106, vI 4, vI l2, vI (gI h 67 l3)] h (fun h5 =>
    Q none h5)) ∧
    (¬ (¬ (gI h 67 l3) = (-1)) →
    (0 ≤ (l3 : Int)) ∧ ((l3 : Int) < 26) ∧ ∀ h6 : zH, h6 = sI h 67 l3 l2 →
    Q none h6)) : zK 106 24 [vR 63 106, u1, vI l2, vI l3] [] h Q :=
  zwpe_W (cd := c106) rfl [24] 400 24 _ _ _ _ k
-- 107 SyntaxRules$TestTree.addTest(III)V
set_option maxRecDepth 100000 in
set_option maxHeartbeats 4000000 in
theorem k107_0 (p1 : Int) (p2 : Int) (p3 : Int) (h : zH) (Q : Option zV → zH → Prop) (k :
  (40 ≤ (gI h 63 0) →
    Q none h) ∧
    (¬ (40 ≤ (gI h 63 0)) →
    (0 ≤ (gI h 63 0 : Int)) ∧ ((gI h 63 0 : Int) < 40) ∧ ∀ h5 : zH, h5 = sI h 64 (gI h 63 0) p1 →
    (0 ≤ (gI h5 63 0 : Int)) ∧ ((gI h5 63 0 : Int) < 40) ∧ ∀ h6 : zH, h6 = sI h5 65 (gI h5 63 0) p2 →
    (0 ≤ (gI h6 63 0 : Int)) ∧ ((gI h6 63 0 : Int) < 40) ∧ ∀ h7 : zH, h7 = sI h6 66 (gI h6 63 0) p3 →
    (inR ((gI h7 63 0) + 1)) ∧ ∀ h8 : zH, h8 = sI h7 63 0 ((gI h7 63 0) + 1) →
    Q none h8)) : zK 107 0 [vR 63 106, vI p1, vI p2, vI p3] [] h Q :=
  zwpe_W (cd := c107) rfl [] 400 0 _ _ _ _ k
-- 108 SyntaxRules$TestTree.layAll([LSyntaxRules$Rule;)I
set_option maxRecDepth 100000 in
set_option maxHeartbeats 4000000 in
theorem k108_0 (p1 : Nat) (h : zH) (Q : Option zV → zH → Prop) (k :
  ∀ h4 : zH, h4 = sI h 63 5 0 →
  ∀ h5 : zH, h5 = sI h4 63 6 (-1) →
  zK 108 12 [vR 63 106, vR p1 944, vI 0] [] h5 Q) : zK 108 0 [vR 63 106, vR p1 944, vU] [] h Q :=
  zwpe_W (cd := c108) rfl [12] 400 0 _ _ _ _ k
set_option maxRecDepth 100000 in
set_option maxHeartbeats 4000000 in
theorem k108_12 (a1 : Nat) (l2 : Int) (h : zH) (Q : Option zV → zH → Prop) (k :
  (8 ≤ l2 →
    Q (some (vI (gI h 63 5))) h) ∧
    (¬ (8 ≤ l2) →
    (0 ≤ (l2 : Int)) ∧ ((l2 : Int) < 8) ∧ (((gR h a1 l2) : Nat) = 0 →
      (inR (l2 + 1)) ∧ zK 108 12 [vR 63 106, vR a1 944, vI (l2 + 1)] [] h Q) ∧
      (¬ (((gR h a1 l2) : Nat) = 0) →
      (0 ≤ (l2 : Int)) ∧ ((l2 : Int) < 8) ∧ (zty 103 (gR h a1 l2) h) ∧ zC0 109 [vR 63 106, vR (gR h a1 l2) 103] h (fun h6 =>
      (inR (l2 + 1)) ∧ zK 108 12 [vR 63 106, vR a1 944, vI (l2 + 1)] [] h6 Q)))) : zK 108 12 [vR 63 106, vR a1 944, vI l2] [] h Q :=
  zwpe_W (cd := c108) rfl [12] 400 12 _ _ _ _ k
-- 109 SyntaxRules$TestTree.hangRow(LSyntaxRules$Rule;)V
set_option maxRecDepth 100000 in
set_option maxHeartbeats 4000000 in
theorem k109_0 (p1 : Nat) (h : zH) (Q : Option zV → zH → Prop) (k :
  zC1 105 [vR 63 106, vR p1 103] h (fun v4 h4 =>
  zK 109 10 [vR 63 106, vR p1 103, vI ((-1)), vI 0, vU] [] h4 Q)) : zK 109 0 [vR 63 106, vR p1 103, vU, vU, vU] [] h Q :=
  zwpe_W (cd := c109) rfl [10] 400 0 _ _ _ _ k
set_option maxRecDepth 100000 in
set_option maxHeartbeats 4000000 in
theorem k109_10 (a1 : Nat) (l2 : Int) (l3 : Int) (u4 : zV) (h : zH) (Q : Option zV → zH → Prop) (k :
  ((gI h 63 0) ≤ l3 →
    Q none h) ∧
    (¬ ((gI h 63 0) ≤ l3) →
    zC1 110 [vR 63 106, vI l2, vR a1 103, vI l3] h (fun v5 h5 =>
    (¬ v5 = (-1) →
      (inR (l3 + 1)) ∧ zK 109 10 [vR 63 106, vR a1 103, vI v5, vI (l3 + 1), vI v5] [] h5 Q) ∧
      (¬ (¬ v5 = (-1)) →
      zC1 112 [vR 63 106, vI l2, vR a1 103, vI l3] h5 (fun v6 h6 =>
      (inR (l3 + 1)) ∧ zK 109 10 [vR 63 106, vR a1 103, vI v6, vI (l3 + 1), vI v5] [] h6 Q))))) : zK 109 10 [vR 63 106, vR a1 103, vI l2, vI l3, u4] [] h Q :=
  zwpe_W (cd := c109) rfl [10] 400 10 _ _ _ _ k
-- 110 SyntaxRules$TestTree.findBelow(ILSyntaxRules$Rule;I)I
set_option maxRecDepth 100000 in
set_option maxHeartbeats 4000000 in
theorem k110_0 (p1 : Int) (p2 : Nat) (p3 : Int) (h : zH) (Q : Option zV → zH → Prop) (k :
  (¬ p1 = (-1) →
    (0 ≤ (p1 : Int)) ∧ ((p1 : Int) < 320) ∧ zK 110 23 [vR 63 106, vI p1, vR p2 103, vI p3, vI (gI h 73 p1), vI 0] [] h Q) ∧
    (¬ (¬ p1 = (-1)) →
    zK 110 23 [vR 63 106, vI p1, vR p2 103, vI p3, vI (gI h 63 6), vI 0] [] h Q)) : zK 110 0 [vR 63 106, vI p1, vR p2 103, vI p3, vU, vU] [] h Q :=
  zwpe_W (cd := c110) rfl [23] 400 0 _ _ _ _ k
set_option maxRecDepth 100000 in
set_option maxHeartbeats 4000000 in
theorem k110_23 (u1 : zV) (a2 : Nat) (l3 : Int) (l4 : Int) (l5 : Int) (h : zH) (Q : Option zV → zH → Prop) (k :
  (320 ≤ l5 →
    Q (some (vI ((-1)))) h) ∧
    (¬ (320 ≤ l5) →
    (l4 = (-1) →
      Q (some (vI ((-1)))) h) ∧
      (¬ (l4 = (-1)) →
      zC1 111 [vR 63 106, vI l4, vR a2 103, vI l3] h (fun v2 h2 =>
      (v2 = 0 →
        (0 ≤ (l4 : Int)) ∧ ((l4 : Int) < 320) ∧ (inR (l5 + 1)) ∧ zK 110 23 [vR 63 106, u1, vR a2 103, vI l3, vI (gI h2 74 l4), vI (l5 + 1)] [] h2 Q) ∧
        (¬ (v2 = 0) →
        Q (some (vI l4)) h2))))) : zK 110 23 [vR 63 106, u1, vR a2 103, vI l3, vI l4, vI l5] [] h Q :=
  zwpe_W (cd := c110) rfl [23] 400 23 _ _ _ _ k
-- 111 SyntaxRules$TestTree.asksSame(ILSyntaxRules$Rule;I)Z
set_option maxRecDepth 100000 in
set_option maxHeartbeats 4000000 in
theorem k111_0 (p1 : Int) (p2 : Nat) (p3 : Int) (h : zH) (Q : Option zV → zH → Prop) (k :
  (0 ≤ (p1 : Int)) ∧ ((p1 : Int) < 320) ∧ (zty 103 (gR h 69 p1) h) ∧ (0 ≤ (p1 : Int)) ∧ ((p1 : Int) < 320) ∧ (0 ≤ (p3 : Int)) ∧ ((p3 : Int) < 40) ∧ (¬ (gI h 68 p1) = (gI h 64 p3) →
    ((0 : Int) = 0 ∨ (0 : Int) = 1) ∧ Q (some (vI 0)) h) ∧
    (¬ (¬ (gI h 68 p1) = (gI h 64 p3)) →
    (0 ≤ (p1 : Int)) ∧ ((p1 : Int) < 320) ∧ (0 ≤ (p3 : Int)) ∧ ((p3 : Int) < 40) ∧ zC1 73 [vR (gR h 69 p1) 103, vI (gI h 70 p1), vR p2 103, vI (gI h 65 p3)] h (fun v5 h5 =>
    (¬ v5 = 0 →
      (0 ≤ (p3 : Int)) ∧ ((p3 : Int) < 40) ∧ ((gI h5 64 p3) = (2 : Int) →
        (0 ≤ (p1 : Int)) ∧ ((p1 : Int) < 320) ∧ (0 ≤ (gI h5 70 p1 : Int)) ∧ ((gI h5 70 p1 : Int) < 40) ∧ (0 ≤ (p3 : Int)) ∧ ((p3 : Int) < 40) ∧ (0 ≤ (gI h5 65 p3 : Int)) ∧ ((gI h5 65 p3 : Int) < 40) ∧ (¬ (gI h5 (gR h 69 p1 + 9) (gI h5 70 p1)) = (gI h5 (p2 + 9) (gI h5 65 p3)) →
          ((0 : Int) = 0 ∨ (0 : Int) = 1) ∧ Q (some (vI 0)) h5) ∧
          (¬ (¬ (gI h5 (gR h 69 p1 + 9) (gI h5 70 p1)) = (gI h5 (p2 + 9) (gI h5 65 p3))) →
          ((1 : Int) = 0 ∨ (1 : Int) = 1) ∧ Q (some (vI 1)) h5)) ∧
        (¬ ((gI h5 64 p3) = (2 : Int)) →
        ((gI h5 64 p3) = ((2 : Int) + 1) →
        (0 ≤ (p1 : Int)) ∧ ((p1 : Int) < 320) ∧ (0 ≤ (gI h5 70 p1 : Int)) ∧ ((gI h5 70 p1 : Int) < 40) ∧ (0 ≤ (p3 : Int)) ∧ ((p3 : Int) < 40) ∧ (0 ≤ (gI h5 65 p3 : Int)) ∧ ((gI h5 65 p3 : Int) < 40) ∧ (¬ (gI h5 (gR h 69 p1 + 5) (gI h5 70 p1)) = (gI h5 (p2 + 5) (gI h5 65 p3)) →
          ((0 : Int) = 0 ∨ (0 : Int) = 1) ∧ Q (some (vI 0)) h5) ∧
          (¬ (¬ (gI h5 (gR h 69 p1 + 5) (gI h5 70 p1)) = (gI h5 (p2 + 5) (gI h5 65 p3))) →
          ((1 : Int) = 0 ∨ (1 : Int) = 1) ∧ Q (some (vI 1)) h5)) ∧
        (¬ ((gI h5 64 p3) = ((2 : Int) + 1)) →
        ((gI h5 64 p3) = ((2 : Int) + 1 + 1) →
        (0 ≤ (p1 : Int)) ∧ ((p1 : Int) < 320) ∧ (0 ≤ (p3 : Int)) ∧ ((p3 : Int) < 40) ∧ zC1 73 [vR (gR h 69 p1) 103, vI (gI h5 71 p1), vR p2 103, vI (gI h5 66 p3)] h5 (fun v8 h8 =>
        ((v8 : Int) = 0 ∨ (v8 : Int) = 1) ∧ Q (some (vI v8)) h8)) ∧
        (¬ ((gI h5 64 p3) = ((2 : Int) + 1 + 1)) →
        ((gI h5 64 p3) = ((2 : Int) + 1 + 1 + 1) →
        (0 ≤ (p1 : Int)) ∧ ((p1 : Int) < 320) ∧ (0 ≤ (p3 : Int)) ∧ ((p3 : Int) < 40) ∧ zC1 72 [vR (gR h 69 p1) 103, vI (gI h5 70 p1), vR p2 103, vI (gI h5 65 p3)] h5 (fun v7 h7 =>
        ((v7 : Int) = 0 ∨ (v7 : Int) = 1) ∧ Q (some (vI v7)) h7)) ∧
        (¬ ((gI h5 64 p3) = ((2 : Int) + 1 + 1 + 1)) →
        (0 ≤ (p1 : Int)) ∧ ((p1 : Int) < 320) ∧ (0 ≤ (p3 : Int)) ∧ ((p3 : Int) < 40) ∧ zC1 71 [vR (gR h 69 p1) 103, vI (gI h5 70 p1), vR p2 103, vI (gI h5 65 p3)] h5 (fun v6 h6 =>
        ((v6 : Int) = 0 ∨ (v6 : Int) = 1) ∧ Q (some (vI v6)) h6)))))) ∧
      (¬ (¬ v5 = 0) →
      ((0 : Int) = 0 ∨ (0 : Int) = 1) ∧ Q (some (vI 0)) h5)))) : zK 111 0 [vR 63 106, vI p1, vR p2 103, vI p3, vU] [] h Q :=
  zwpe_W (cd := c111) rfl [] 400 0 _ _ _ _ k
-- 112 SyntaxRules$TestTree.hangTest(ILSyntaxRules$Rule;I)I
set_option maxRecDepth 100000 in
set_option maxHeartbeats 4000000 in
theorem k112_0 (p1 : Int) (p2 : Nat) (p3 : Int) (h : zH) (Q : Option zV → zH → Prop) (k :
  (¬ (gI h 63 5) = 320 →
    (inR ((gI h 63 5) + 1)) ∧ ∀ h12 : zH, h12 = sI h 63 5 ((gI h 63 5) + 1) →
    (0 ≤ (p3 : Int)) ∧ ((p3 : Int) < 40) ∧ (0 ≤ (gI h 63 5 : Int)) ∧ ((gI h 63 5 : Int) < 320) ∧ ∀ h13 : zH, h13 = sI h12 68 (gI h 63 5) (gI h12 64 p3) →
    (0 ≤ (gI h 63 5 : Int)) ∧ ((gI h 63 5 : Int) < 320) ∧ ∀ h14 : zH, h14 = sR h13 69 (gI h 63 5) p2 →
    (0 ≤ (p3 : Int)) ∧ ((p3 : Int) < 40) ∧ (0 ≤ (gI h 63 5 : Int)) ∧ ((gI h 63 5 : Int) < 320) ∧ ∀ h15 : zH, h15 = sI h14 70 (gI h 63 5) (gI h14 65 p3) →
    (0 ≤ (p3 : Int)) ∧ ((p3 : Int) < 40) ∧ (0 ≤ (gI h 63 5 : Int)) ∧ ((gI h 63 5 : Int) < 320) ∧ ∀ h16 : zH, h16 = sI h15 71 (gI h 63 5) (gI h15 66 p3) →
    (0 ≤ (gI h 63 5 : Int)) ∧ ((gI h 63 5 : Int) < 320) ∧ ∀ h17 : zH, h17 = sI h16 72 (gI h 63 5) p1 →
    (0 ≤ (gI h 63 5 : Int)) ∧ ((gI h 63 5 : Int) < 320) ∧ ∀ h18 : zH, h18 = sI h17 73 (gI h 63 5) (-1) →
    (¬ p1 = (-1) →
      (0 ≤ (p1 : Int)) ∧ ((p1 : Int) < 320) ∧ (0 ≤ (gI h 63 5 : Int)) ∧ ((gI h 63 5 : Int) < 320) ∧ ∀ h19 : zH, h19 = sI h18 74 (gI h 63 5) (gI h18 73 p1) →
      (0 ≤ (p1 : Int)) ∧ ((p1 : Int) < 320) ∧ ∀ h20 : zH, h20 = sI h19 73 p1 (gI h 63 5) →
      Q (some (vI (gI h 63 5))) h20) ∧
      (¬ (¬ p1 = (-1)) →
      (0 ≤ (gI h 63 5 : Int)) ∧ ((gI h 63 5 : Int) < 320) ∧ ∀ h21 : zH, h21 = sI h18 74 (gI h 63 5) (gI h18 63 6) →
      ∀ h22 : zH, h22 = sI h21 63 6 (gI h 63 5) →
      Q (some (vI (gI h 63 5))) h22)) ∧
    (¬ (¬ (gI h 63 5) = 320) →
    Q (some (vI p1)) h)) : zK 112 0 [vR 63 106, vI p1, vR p2 103, vI p3, vU] [] h Q :=
  zwpe_W (cd := c112) rfl [] 400 0 _ _ _ _ k
-- 113 SyntaxRules$TestTree.askedOf(LSyntaxRules$Source;ILSyntaxRules$Fitting;)I
set_option maxRecDepth 100000 in
set_option maxHeartbeats 4000000 in
theorem k113_0 (p1 : Nat) (p2 : Int) (h : zH) (Q : Option zV → zH → Prop) (k :
  zK 113 6 [vR 63 106, vR p1 102, vI p2, vR 56 105, vI 0, vI 0, vU] [] h Q) : zK 113 0 [vR 63 106, vR p1 102, vI p2, vR 56 105, vU, vU, vU] [] h Q :=
  zwpe_W (cd := c113) rfl [6, 41, 46, 75, 76] 400 0 _ _ _ _ k
set_option maxRecDepth 100000 in
set_option maxHeartbeats 4000000 in
theorem k113_6 (a1 : Nat) (l2 : Int) (l4 : Int) (l5 : Int) (u6 : zV) (h : zH) (Q : Option zV → zH → Prop) (k :
  ((gI h 63 5) ≤ l5 →
    Q (some (vI l4)) h) ∧
    (¬ ((gI h 63 5) ≤ l5) →
    (0 ≤ (l5 : Int)) ∧ ((l5 : Int) < 320) ∧ ((gI h 72 l5) = (-1) →
      zK 113 41 [vR 63 106, vR a1 102, vI l2, vR 56 105, vI l4, vI l5, u6] [] h Q) ∧
      (¬ ((gI h 72 l5) = (-1)) →
      (0 ≤ (l5 : Int)) ∧ ((l5 : Int) < 320) ∧ (0 ≤ (gI h 72 l5 : Int)) ∧ ((gI h 72 l5 : Int) < 320) ∧ ((gI h 75 (gI h 72 l5)) = 0 →
        zK 113 46 [vR 63 106, vR a1 102, vI l2, vR 56 105, vI l4, vI l5, u6] [vI 0] h Q) ∧
        (¬ ((gI h 75 (gI h 72 l5)) = 0) →
        zK 113 41 [vR 63 106, vR a1 102, vI l2, vR 56 105, vI l4, vI l5, u6] [] h Q)))) : zK 113 6 [vR 63 106, vR a1 102, vI l2, vR 56 105, vI l4, vI l5, u6] [] h Q :=
  zwpe_W (cd := c113) rfl [6, 41, 46, 75, 76] 400 6 _ _ _ _ k
set_option maxRecDepth 100000 in
set_option maxHeartbeats 4000000 in
theorem k113_41 (a1 : Nat) (l2 : Int) (l4 : Int) (l5 : Int) (u6 : zV) (h : zH) (Q : Option zV → zH → Prop) (k :
  zK 113 46 [vR 63 106, vR a1 102, vI l2, vR 56 105, vI l4, vI l5, u6] [vI 1] h Q) : zK 113 41 [vR 63 106, vR a1 102, vI l2, vR 56 105, vI l4, vI l5, u6] [] h Q :=
  zwpe_W (cd := c113) rfl [6, 41, 46, 75, 76] 400 41 _ _ _ _ k
set_option maxRecDepth 100000 in
set_option maxHeartbeats 4000000 in
theorem k113_46 (a1 : Nat) (l2 : Int) (l4 : Int) (l5 : Int) (u6 : zV) (s0 : Int) (h : zH) (Q : Option zV → zH → Prop) (k :
  (s0 = 0 →
    zK 113 75 [vR 63 106, vR a1 102, vI l2, vR 56 105, vI l4, vI l5, vI s0] [vI l5, vR 75 32141] h Q) ∧
    (¬ (s0 = 0) →
    zC1 114 [vR 63 106, vI l5, vR a1 102, vI l2, vR 56 105] h (fun v3 h3 =>
    (v3 = 0 →
      zK 113 75 [vR 63 106, vR a1 102, vI l2, vR 56 105, vI l4, vI l5, vI s0] [vI l5, vR 75 32141] h3 Q) ∧
      (¬ (v3 = 0) →
      zK 113 76 [vR 63 106, vR a1 102, vI l2, vR 56 105, vI l4, vI l5, vI s0] [vI 1, vI l5, vR 75 32141] h3 Q)))) : zK 113 46 [vR 63 106, vR a1 102, vI l2, vR 56 105, vI l4, vI l5, u6] [vI s0] h Q :=
  zwpe_W (cd := c113) rfl [6, 41, 46, 75, 76] 400 46 _ _ _ _ k
set_option maxRecDepth 100000 in
set_option maxHeartbeats 4000000 in
theorem k113_75 (a1 : Nat) (l2 : Int) (l4 : Int) (l5 : Int) (l6 : Int) (s0 : Int) (h : zH) (Q : Option zV → zH → Prop) (k :
  zK 113 76 [vR 63 106, vR a1 102, vI l2, vR 56 105, vI l4, vI l5, vI l6] [vI 0, vI s0, vR 75 32141] h Q) : zK 113 75 [vR 63 106, vR a1 102, vI l2, vR 56 105, vI l4, vI l5, vI l6] [vI s0, vR 75 32141] h Q :=
  zwpe_W (cd := c113) rfl [6, 41, 46, 75, 76] 400 75 _ _ _ _ k
set_option maxRecDepth 100000 in
set_option maxHeartbeats 4000000 in
theorem k113_76 (a1 : Nat) (l2 : Int) (l4 : Int) (l5 : Int) (l6 : Int) (s0 : Int) (s1 : Int) (h : zH) (Q : Option zV → zH → Prop) (k :
  (0 ≤ (s1 : Int)) ∧ ((s1 : Int) < 320) ∧ ((s0 : Int) = 0 ∨ (s0 : Int) = 1) ∧ ∀ h4 : zH, h4 = sI h 75 s1 s0 →
  (l6 = 0 →
    (inR (l4 + 0)) ∧ (inR (l5 + 1)) ∧ zK 113 6 [vR 63 106, vR a1 102, vI l2, vR 56 105, vI (l4 + 0), vI (l5 + 1), vI l6] [] h4 Q) ∧
    (¬ (l6 = 0) →
    (inR (l4 + 1)) ∧ (inR (l5 + 1)) ∧ zK 113 6 [vR 63 106, vR a1 102, vI l2, vR 56 105, vI (l4 + 1), vI (l5 + 1), vI l6] [] h4 Q)) : zK 113 76 [vR 63 106, vR a1 102, vI l2, vR 56 105, vI l4, vI l5, vI l6] [vI s0, vI s1, vR 75 32141] h Q :=
  zwpe_W (cd := c113) rfl [6, 41, 46, 75, 76] 400 76 _ _ _ _ k
-- 114 SyntaxRules$TestTree.holds(ILSyntaxRules$Source;ILSyntaxRules$Fitting;)Z
set_option maxRecDepth 100000 in
set_option maxHeartbeats 4000000 in
theorem k114_0 (p1 : Int) (p2 : Nat) (p3 : Int) (h : zH) (Q : Option zV → zH → Prop) (k :
  (0 ≤ (p1 : Int)) ∧ ((p1 : Int) < 320) ∧ (zty 103 (gR h 69 p1) h) ∧ (0 ≤ (p1 : Int)) ∧ ((p1 : Int) < 320) ∧ zC1 116 [vR 63 106, vR (gR h 69 p1) 103, vI (gI h 70 p1), vR p2 102, vI p3] h (fun v7 h7 =>
  (¬ v7 = (-1) →
    (0 ≤ (p1 : Int)) ∧ ((p1 : Int) < 320) ∧ ((gI h7 68 p1) = (1 : Int) →
      (0 ≤ (v7 : Int)) ∧ ((v7 : Int) < 60) ∧ (¬ (gI h7 (p2 + 3) v7) = 2 →
        ((0 : Int) = 0 ∨ (0 : Int) = 1) ∧ Q (some (vI 0)) h7) ∧
        (¬ (¬ (gI h7 (p2 + 3) v7) = 2) →
        zC1 63 [vR p2 102, vI v7, vR (gR h 69 p1) 103, vI (gI h 70 p1)] h7 (fun v12 h12 =>
        (v12 = 0 →
          ((0 : Int) = 0 ∨ (0 : Int) = 1) ∧ Q (some (vI 0)) h12) ∧
          (¬ (v12 = 0) →
          ((1 : Int) = 0 ∨ (1 : Int) = 1) ∧ Q (some (vI 1)) h12)))) ∧
      (¬ ((gI h7 68 p1) = (1 : Int)) →
      ((gI h7 68 p1) = ((1 : Int) + 1) →
      (0 ≤ (v7 : Int)) ∧ ((v7 : Int) < 60) ∧ (0 ≤ (gI h 70 p1 : Int)) ∧ ((gI h 70 p1 : Int) < 40) ∧ (¬ (gI h7 (p2 + 6) v7) = (gI h7 (gR h 69 p1 + 9) (gI h 70 p1)) →
        ((0 : Int) = 0 ∨ (0 : Int) = 1) ∧ Q (some (vI 0)) h7) ∧
        (¬ (¬ (gI h7 (p2 + 6) v7) = (gI h7 (gR h 69 p1 + 9) (gI h 70 p1))) →
        ((1 : Int) = 0 ∨ (1 : Int) = 1) ∧ Q (some (vI 1)) h7)) ∧
      (¬ ((gI h7 68 p1) = ((1 : Int) + 1)) →
      ((gI h7 68 p1) = ((1 : Int) + 1 + 1) →
      (0 ≤ (v7 : Int)) ∧ ((v7 : Int) < 60) ∧ (0 ≤ (gI h 70 p1 : Int)) ∧ ((gI h 70 p1 : Int) < 40) ∧ (¬ (gI h7 (p2 + 3) v7) = (gI h7 (gR h 69 p1 + 5) (gI h 70 p1)) →
        ((0 : Int) = 0 ∨ (0 : Int) = 1) ∧ Q (some (vI 0)) h7) ∧
        (¬ (¬ (gI h7 (p2 + 3) v7) = (gI h7 (gR h 69 p1 + 5) (gI h 70 p1))) →
        ((1 : Int) = 0 ∨ (1 : Int) = 1) ∧ Q (some (vI 1)) h7)) ∧
      (¬ ((gI h7 68 p1) = ((1 : Int) + 1 + 1)) →
      ((gI h7 68 p1) = ((1 : Int) + 1 + 1 + 1) →
      (0 ≤ (p1 : Int)) ∧ ((p1 : Int) < 320) ∧ zC1 116 [vR 63 106, vR (gR h 69 p1) 103, vI (gI h7 71 p1), vR p2 102, vI p3] h7 (fun v10 h10 =>
      zC1 115 [vR p2 102, vI v7, vI v10] h10 (fun v11 h11 =>
      ((v11 : Int) = 0 ∨ (v11 : Int) = 1) ∧ Q (some (vI v11)) h11))) ∧
      (¬ ((gI h7 68 p1) = ((1 : Int) + 1 + 1 + 1)) →
      ((gI h7 68 p1) = ((1 : Int) + 1 + 1 + 1 + 1) →
      zC1 94 [vR 56 105, vR p2 102, vR (gR h 69 p1) 103, vI (gI h 70 p1), vI v7, vI 1] h7 (fun v9 h9 =>
      (v9 ≤ 0 →
        ((0 : Int) = 0 ∨ (0 : Int) = 1) ∧ Q (some (vI 0)) h9) ∧
        (¬ (v9 ≤ 0) →
        ((1 : Int) = 0 ∨ (1 : Int) = 1) ∧ Q (some (vI 1)) h9))) ∧
      (¬ ((gI h7 68 p1) = ((1 : Int) + 1 + 1 + 1 + 1)) →
      (0 ≤ (v7 : Int)) ∧ ((v7 : Int) < 60) ∧ ((gI h7 (p2 + 3) v7) = 2 →
        ((0 : Int) = 0 ∨ (0 : Int) = 1) ∧ Q (some (vI 0)) h7) ∧
        (¬ ((gI h7 (p2 + 3) v7) = 2) →
        zC1 63 [vR p2 102, vI v7, vR (gR h 69 p1) 103, vI (gI h 70 p1)] h7 (fun v8 h8 =>
        (v8 = 0 →
          ((0 : Int) = 0 ∨ (0 : Int) = 1) ∧ Q (some (vI 0)) h8) ∧
          (¬ (v8 = 0) →
          ((1 : Int) = 0 ∨ (1 : Int) = 1) ∧ Q (some (vI 1)) h8))))))))) ∧
    (¬ (¬ v7 = (-1)) →
    ((0 : Int) = 0 ∨ (0 : Int) = 1) ∧ Q (some (vI 0)) h7))) : zK 114 0 [vR 63 106, vI p1, vR p2 102, vI p3, vR 56 105, vU, vU, vU] [] h Q :=
  zwpe_W (cd := c114) rfl [] 400 0 _ _ _ _ k
-- 115 SyntaxRules$TestTree.isTwin(LSyntaxRules$Source;II)Z
set_option maxRecDepth 100000 in
set_option maxHeartbeats 4000000 in
theorem k115_0 (p0 : Nat) (p1 : Int) (p2 : Int) (h : zH) (Q : Option zV → zH → Prop) (k :
  (p2 = (-1) →
    ((0 : Int) = 0 ∨ (0 : Int) = 1) ∧ Q (some (vI 0)) h) ∧
    (¬ (p2 = (-1)) →
    zC1 61 [vR p0 102, vI p1, vI p2] h (fun v2 h2 =>
    (v2 = 0 →
      ((0 : Int) = 0 ∨ (0 : Int) = 1) ∧ Q (some (vI 0)) h2) ∧
      (¬ (v2 = 0) →
      ((1 : Int) = 0 ∨ (1 : Int) = 1) ∧ Q (some (vI 1)) h2)))) : zK 115 0 [vR p0 102, vI p1, vI p2] [] h Q :=
  zwpe_W (cd := c115) rfl [] 400 0 _ _ _ _ k
-- 116 SyntaxRules$TestTree.follow(LSyntaxRules$Rule;ILSyntaxRules$Source;I)I
set_option maxRecDepth 100000 in
set_option maxHeartbeats 4000000 in
theorem k116_0 (p1 : Nat) (p2 : Int) (p3 : Nat) (p4 : Int) (h : zH) (Q : Option zV → zH → Prop) (k :
  zK 116 6 [vR 63 106, vR p1 103, vI p2, vR p3 102, vI p4, vI 0, vI p2, vU, vU] [] h Q) : zK 116 0 [vR 63 106, vR p1 103, vI p2, vR p3 102, vI p4, vU, vU, vU, vU] [] h Q :=
  zwpe_W (cd := c116) rfl [6, 63] 400 0 _ _ _ _ k
set_option maxRecDepth 100000 in
set_option maxHeartbeats 4000000 in
theorem k116_6 (a1 : Nat) (u2 : zV) (a3 : Nat) (l4 : Int) (l5 : Int) (l6 : Int) (u7 : zV) (u8 : zV) (h : zH) (Q : Option zV → zH → Prop) (k :
  (20 ≤ l5 →
    (inR (l5 - 1)) ∧ zK 116 63 [vR 63 106, vR a1 103, u2, vR a3 102, vI l4, vI l5, vI l6, vI l4, vI (l5 - 1)] [] h Q) ∧
    (¬ (20 ≤ l5) →
    (0 ≤ (l6 : Int)) ∧ ((l6 : Int) < 40) ∧ ((gI h (a1 + 6) l6) = (-1) →
      (inR (l5 - 1)) ∧ zK 116 63 [vR 63 106, vR a1 103, u2, vR a3 102, vI l4, vI l5, vI l6, vI l4, vI (l5 - 1)] [] h Q) ∧
      (¬ ((gI h (a1 + 6) l6) = (-1)) →
      (0 ≤ (l6 : Int)) ∧ ((l6 : Int) < 40) ∧ (0 ≤ (l5 : Int)) ∧ ((l5 : Int) < 20) ∧ ∀ h3 : zH, h3 = sI h 76 l5 (gI h (a1 + 8) l6) →
      (inR (l5 + 1)) ∧ (0 ≤ (l6 : Int)) ∧ ((l6 : Int) < 40) ∧ zK 116 6 [vR 63 106, vR a1 103, u2, vR a3 102, vI l4, vI (l5 + 1), vI (gI h3 (a1 + 6) l6), u7, u8] [] h3 Q))) : zK 116 6 [vR 63 106, vR a1 103, u2, vR a3 102, vI l4, vI l5, vI l6, u7, u8] [] h Q :=
  zwpe_W (cd := c116) rfl [6, 63] 400 6 _ _ _ _ k
set_option maxRecDepth 100000 in
set_option maxHeartbeats 4000000 in
theorem k116_63 (u1 : zV) (u2 : zV) (a3 : Nat) (u4 : zV) (u5 : zV) (u6 : zV) (l7 : Int) (l8 : Int) (h : zH) (Q : Option zV → zH → Prop) (k :
  (l8 < 0 →
    Q (some (vI l7)) h) ∧
    (¬ (l8 < 0) →
    (l7 = (-1) →
      Q (some (vI l7)) h) ∧
      (¬ (l7 = (-1)) →
      (0 ≤ (l8 : Int)) ∧ ((l8 : Int) < 20) ∧ zC1 64 [vR a3 102, vI l7, vI (gI h 76 l8)] h (fun v4 h4 =>
      (inR (l8 + (-1))) ∧ zK 116 63 [vR 63 106, u1, u2, vR a3 102, u4, u5, u6, vI v4, vI (l8 + (-1))] [] h4 Q)))) : zK 116 63 [vR 63 106, u1, u2, vR a3 102, u4, u5, u6, vI l7, vI l8] [] h Q :=
  zwpe_W (cd := c116) rfl [6, 63] 400 63 _ _ _ _ k
-- 117 SyntaxRules$Walk.<init>()V
set_option maxRecDepth 100000 in
set_option maxHeartbeats 4000000 in
theorem k117_0 (a0 : Nat) (h : zH) (Q : Option zV → zH → Prop) (k :
  (0 ≤ (60 : Int) ∧ (60 : Int) ≤ 10000) ∧ ∀ h9 : zH, h9 = nw h 40 ((60 : Int)).toNat →
  (zty 127 a0 h9) ∧ ∀ h10 : zH, h10 = sR h9 a0 1 (nx h) →
  (0 ≤ (60 : Int) ∧ (60 : Int) ≤ 10000) ∧ ∀ h11 : zH, h11 = nw h10 40 ((60 : Int)).toNat →
  (zty 127 a0 h11) ∧ ∀ h12 : zH, h12 = sR h11 a0 2 (nx h10) →
  (0 ≤ (60 : Int) ∧ (60 : Int) ≤ 10000) ∧ ∀ h13 : zH, h13 = nw h12 40 ((60 : Int)).toNat →
  (zty 127 a0 h13) ∧ ∀ h14 : zH, h14 = sR h13 a0 3 (nx h12) →
  (0 ≤ (60 : Int) ∧ (60 : Int) ≤ 10000) ∧ ∀ h15 : zH, h15 = nw h14 41 ((60 : Int)).toNat →
  (zty 127 a0 h15) ∧ (gR (sR h15 a0 4 (nx h14)) a0 1 = a0 + 1) ∧ (zty 6140 (a0 + 1) (sR h15 a0 4 (nx h14))) ∧ (gR (sR h15 a0 4 (nx h14)) a0 2 = a0 + 2) ∧ (zty 6140 (a0 + 2) (sR h15 a0 4 (nx h14))) ∧ (gR (sR h15 a0 4 (nx h14)) a0 3 = a0 + 3) ∧ (zty 6140 (a0 + 3) (sR h15 a0 4 (nx h14))) ∧ (gR (sR h15 a0 4 (nx h14)) a0 4 = a0 + 4) ∧ (zty 6141 (a0 + 4) (sR h15 a0 4 (nx h14))) ∧ ∀ h16 : zH, h16 = sT (sR h15 a0 4 (nx h14)) a0 7 →
  Q none h16) : zK 117 0 [vR a0 0] [] h Q :=
  zwpe_W (cd := c117) rfl [] 400 0 _ _ _ _ k
-- 118 SyntaxRules$Walk.lay(LSyntaxRules$Source;[LSyntaxRules$Rule;ILSyntaxRules$Fitting;)V
set_option maxRecDepth 100000 in
set_option maxHeartbeats 4000000 in
theorem k118_0 (p1 : Nat) (p2 : Nat) (p3 : Int) (h : zH) (Q : Option zV → zH → Prop) (k :
  zK 118 3 [vR 77 107, vR p1 102, vR p2 944, vI p3, vR 56 105, vI 0] [] h Q) : zK 118 0 [vR 77 107, vR p1 102, vR p2 944, vI p3, vR 56 105, vU] [] h Q :=
  zwpe_W (cd := c118) rfl [3, 75] 400 0 _ _ _ _ k
set_option maxRecDepth 100000 in
set_option maxHeartbeats 4000000 in
theorem k118_3 (a1 : Nat) (a2 : Nat) (l3 : Int) (l5 : Int) (h : zH) (Q : Option zV → zH → Prop) (k :
  ((gI h a1 14) ≤ l5 →
    (¬ l3 = 0 →
      zC0 120 [vR 77 107, vR a1 102] h (fun h11 =>
      ∀ h12 : zH, h12 = sI h11 77 0 0 →
      zK 118 75 [vR 77 107, vR a1 102, vR a2 944, vI l3, vR 56 105, vI 0] [] h12 Q)) ∧
      (¬ (¬ l3 = 0) →
      zC0 119 [vR 77 107, vR a1 102] h (fun h13 =>
      ∀ h14 : zH, h14 = sI h13 77 0 0 →
      zK 118 75 [vR 77 107, vR a1 102, vR a2 944, vI l3, vR 56 105, vI 0] [] h14 Q))) ∧
    (¬ ((gI h a1 14) ≤ l5) →
    zC1 92 [vR 56 105, vR a1 102, vR a2 944, vI l5] h (fun v15 h15 =>
    (0 ≤ (l5 : Int)) ∧ ((l5 : Int) < 60) ∧ ∀ h16 : zH, h16 = sI h15 80 l5 v15 →
    (0 ≤ (l5 : Int)) ∧ ((l5 : Int) < 60) ∧ ∀ h17 : zH, h17 = sI h16 79 l5 (-1) →
    (0 ≤ (l5 : Int)) ∧ ((l5 : Int) < 60) ∧ ((0 : Int) = 0 ∨ (0 : Int) = 1) ∧ ∀ h18 : zH, h18 = sI h17 81 l5 0 →
    (inR (l5 + 1)) ∧ zK 118 3 [vR 77 107, vR a1 102, vR a2 944, vI l3, vR 56 105, vI (l5 + 1)] [] h18 Q))) : zK 118 3 [vR 77 107, vR a1 102, vR a2 944, vI l3, vR 56 105, vI l5] [] h Q :=
  zwpe_W (cd := c118) rfl [3, 75] 400 3 _ _ _ _ k
set_option maxRecDepth 100000 in
set_option maxHeartbeats 4000000 in
theorem k118_75 (a1 : Nat) (u2 : zV) (u3 : zV) (u4 : zV) (l5 : Int) (h : zH) (Q : Option zV → zH → Prop) (k :
  ((gI h a1 14) ≤ l5 →
    Q none h) ∧
    (¬ ((gI h a1 14) ≤ l5) →
    (0 ≤ (l5 : Int)) ∧ ((l5 : Int) < 60) ∧ ((gI h 79 l5) = (-1) →
      (inR (l5 + 1)) ∧ zK 118 75 [vR 77 107, vR a1 102, u2, u3, u4, vI (l5 + 1)] [] h Q) ∧
      (¬ ((gI h 79 l5) = (-1)) →
      (0 ≤ (gI h 77 0 : Int)) ∧ ((gI h 77 0 : Int) < 60) ∧ ∀ h19 : zH, h19 = sI h 78 (gI h 77 0) l5 →
      (inR ((gI h19 77 0) + 1)) ∧ ∀ h20 : zH, h20 = sI h19 77 0 ((gI h19 77 0) + 1) →
      (inR (l5 + 1)) ∧ zK 118 75 [vR 77 107, vR a1 102, u2, u3, u4, vI (l5 + 1)] [] h20 Q))) : zK 118 75 [vR 77 107, vR a1 102, u2, u3, u4, vI l5] [] h Q :=
  zwpe_W (cd := c118) rfl [3, 75] 400 75 _ _ _ _ k
-- 119 SyntaxRules$Walk.fromOutside(LSyntaxRules$Source;)V
set_option maxRecDepth 100000 in
set_option maxHeartbeats 4000000 in
theorem k119_0 (p1 : Nat) (h : zH) (Q : Option zV → zH → Prop) (k :
  zK 119 4 [vR 77 107, vR p1 102, vI 0, vI 0] [] h Q) : zK 119 0 [vR 77 107, vR p1 102, vU, vU] [] h Q :=
  zwpe_W (cd := c119) rfl [4] 400 0 _ _ _ _ k
set_option maxRecDepth 100000 in
set_option maxHeartbeats 4000000 in
theorem k119_4 (a1 : Nat) (l2 : Int) (l3 : Int) (h : zH) (Q : Option zV → zH → Prop) (k :
  ((gI h a1 14) ≤ l3 →
    Q none h) ∧
    (¬ ((gI h a1 14) ≤ l3) →
    (l3 < l2 →
      (inR (l3 + 1)) ∧ zK 119 4 [vR 77 107, vR a1 102, vI l2, vI (l3 + 1)] [] h Q) ∧
      (¬ (l3 < l2) →
      (0 ≤ (l3 : Int)) ∧ ((l3 : Int) < 60) ∧ ((gI h 80 l3) = 0 →
        (inR (l3 + 1)) ∧ zK 119 4 [vR 77 107, vR a1 102, vI l2, vI (l3 + 1)] [] h Q) ∧
        (¬ ((gI h 80 l3) = 0) →
        (0 ≤ (l3 : Int)) ∧ ((l3 : Int) < 60) ∧ zC1 257 [vI (gI h 80 l3)] h (fun v3 h3 =>
        (0 ≤ (l3 : Int)) ∧ ((l3 : Int) < 60) ∧ ∀ h4 : zH, h4 = sI h3 79 l3 v3 →
        (0 ≤ (l3 : Int)) ∧ ((l3 : Int) < 60) ∧ (inR (l3 + (gI h4 (a1 + 9) l3))) ∧ (inR (l3 + 1)) ∧ zK 119 4 [vR 77 107, vR a1 102, vI (l3 + (gI h4 (a1 + 9) l3)), vI (l3 + 1)] [] h4 Q))))) : zK 119 4 [vR 77 107, vR a1 102, vI l2, vI l3] [] h Q :=
  zwpe_W (cd := c119) rfl [4] 400 4 _ _ _ _ k
-- 120 SyntaxRules$Walk.fromInside(LSyntaxRules$Source;)V
set_option maxRecDepth 100000 in
set_option maxHeartbeats 4000000 in
theorem k120_0 (p1 : Nat) (h : zH) (Q : Option zV → zH → Prop) (k :
  (inR ((gI h p1 14) - 1)) ∧ zK 120 7 [vR 77 107, vR p1 102, vI ((gI h p1 14) - 1)] [] h Q) : zK 120 0 [vR 77 107, vR p1 102, vU] [] h Q :=
  zwpe_W (cd := c120) rfl [7, 51] 400 0 _ _ _ _ k
set_option maxRecDepth 100000 in
set_option maxHeartbeats 4000000 in
theorem k120_7 (a1 : Nat) (l2 : Int) (h : zH) (Q : Option zV → zH → Prop) (k :
  (l2 < 0 →
    Q none h) ∧
    (¬ (l2 < 0) →
    (0 ≤ (l2 : Int)) ∧ ((l2 : Int) < 60) ∧ (¬ (gI h 81 l2) = 0 →
      zK 120 51 [vR 77 107, vR a1 102, vI l2] [] h Q) ∧
      (¬ (¬ (gI h 81 l2) = 0) →
      (0 ≤ (l2 : Int)) ∧ ((l2 : Int) < 60) ∧ ((gI h 80 l2) = 0 →
        zK 120 51 [vR 77 107, vR a1 102, vI l2] [] h Q) ∧
        (¬ ((gI h 80 l2) = 0) →
        (0 ≤ (l2 : Int)) ∧ ((l2 : Int) < 60) ∧ zC1 257 [vI (gI h 80 l2)] h (fun v5 h5 =>
        (0 ≤ (l2 : Int)) ∧ ((l2 : Int) < 60) ∧ ∀ h6 : zH, h6 = sI h5 79 l2 v5 →
        (0 ≤ (l2 : Int)) ∧ ((l2 : Int) < 60) ∧ ((1 : Int) = 0 ∨ (1 : Int) = 1) ∧ ∀ h7 : zH, h7 = sI h6 81 l2 1 →
        zK 120 51 [vR 77 107, vR a1 102, vI l2] [] h7 Q))))) : zK 120 7 [vR 77 107, vR a1 102, vI l2] [] h Q :=
  zwpe_W (cd := c120) rfl [7, 51] 400 7 _ _ _ _ k
set_option maxRecDepth 100000 in
set_option maxHeartbeats 4000000 in
theorem k120_51 (a1 : Nat) (l2 : Int) (h : zH) (Q : Option zV → zH → Prop) (k :
  (0 ≤ (l2 : Int)) ∧ ((l2 : Int) < 60) ∧ ((gI h 81 l2) = 0 →
    (inR (l2 + (-1))) ∧ zK 120 7 [vR 77 107, vR a1 102, vI (l2 + (-1))] [] h Q) ∧
    (¬ ((gI h 81 l2) = 0) →
    (0 ≤ (l2 : Int)) ∧ ((l2 : Int) < 60) ∧ ((gI h (a1 + 4) l2) = (-1) →
      (inR (l2 + (-1))) ∧ zK 120 7 [vR 77 107, vR a1 102, vI (l2 + (-1))] [] h Q) ∧
      (¬ ((gI h (a1 + 4) l2) = (-1)) →
      (0 ≤ (l2 : Int)) ∧ ((l2 : Int) < 60) ∧ (0 ≤ (gI h (a1 + 4) l2 : Int)) ∧ ((gI h (a1 + 4) l2 : Int) < 60) ∧ ((1 : Int) = 0 ∨ (1 : Int) = 1) ∧ ∀ h8 : zH, h8 = sI h 81 (gI h (a1 + 4) l2) 1 →
      (inR (l2 + (-1))) ∧ zK 120 7 [vR 77 107, vR a1 102, vI (l2 + (-1))] [] h8 Q))) : zK 120 51 [vR 77 107, vR a1 102, vI l2] [] h Q :=
  zwpe_W (cd := c120) rfl [7, 51] 400 51 _ _ _ _ k
-- 121 SyntaxRules$Walk.ruleOf(I)I
set_option maxRecDepth 100000 in
set_option maxHeartbeats 4000000 in
theorem k121_0 (p1 : Int) (h : zH) (Q : Option zV → zH → Prop) (k :
  (0 ≤ (p1 : Int)) ∧ ((p1 : Int) < 60) ∧ (0 ≤ (gI h 78 p1 : Int)) ∧ ((gI h 78 p1 : Int) < 60) ∧ Q (some (vI (gI h 79 (gI h 78 p1)))) h) : zK 121 0 [vR 77 107, vI p1] [] h Q :=
  zwpe_W (cd := c121) rfl [] 400 0 _ _ _ _ k
-- 122 SyntaxRules$Writer.<init>()V
set_option maxRecDepth 100000 in
set_option maxHeartbeats 4000000 in
theorem k122_0 (a0 : Nat) (h : zH) (Q : Option zV → zH → Prop) (k :
  ∀ h8 : zH, h8 = nw h 21 2 →
  zC0 43 [vR (nx h) 0] h8 (fun h9 =>
  (zty 128 a0 h9) ∧ ∀ h10 : zH, h10 = sR h9 a0 6 (nx h) →
  (0 ≤ (40 : Int) ∧ (40 : Int) ≤ 10000) ∧ ∀ h11 : zH, h11 = nw h10 40 ((40 : Int)).toNat →
  (zty 128 a0 h11) ∧ ∀ h12 : zH, h12 = sR h11 a0 7 (nx h10) →
  (0 ≤ (40 : Int) ∧ (40 : Int) ≤ 10000) ∧ ∀ h13 : zH, h13 = nw h12 40 ((40 : Int)).toNat →
  (zty 128 a0 h13) ∧ (gR (sR h13 a0 8 (nx h12)) a0 6 = a0 + 1) ∧ (zty 101 (a0 + 1) (sR h13 a0 8 (nx h12))) ∧ (gR (sR h13 a0 8 (nx h12)) a0 7 = a0 + 3) ∧ (zty 4140 (a0 + 3) (sR h13 a0 8 (nx h12))) ∧ (gR (sR h13 a0 8 (nx h12)) a0 8 = a0 + 4) ∧ (zty 4140 (a0 + 4) (sR h13 a0 8 (nx h12))) ∧ ∀ h14 : zH, h14 = sT (sR h13 a0 8 (nx h12)) a0 8 →
  Q none h14)) : zK 122 0 [vR a0 0] [] h Q :=
  zwpe_W (cd := c122) rfl [] 400 0 _ _ _ _ k
-- 123 SyntaxRules$Writer.clear(I)V
set_option maxRecDepth 100000 in
set_option maxHeartbeats 4000000 in
theorem k123_0 (p1 : Int) (h : zH) (Q : Option zV → zH → Prop) (k :
  ∀ h7 : zH, h7 = sI h 82 0 0 →
  ∀ h8 : zH, h8 = sI h7 82 1 0 →
  ∀ h9 : zH, h9 = sI h8 82 2 (-1) →
  ∀ h10 : zH, h10 = sI h9 82 3 p1 →
  ∀ h11 : zH, h11 = sI h10 82 4 (-1) →
  ((0 : Int) = 0 ∨ (0 : Int) = 1) ∧ ∀ h12 : zH, h12 = sI h11 82 5 0 →
  Q none h12) : zK 123 0 [vR 82 108, vI p1] [] h Q :=
  zwpe_W (cd := c123) rfl [] 400 0 _ _ _ _ k
-- 124 SyntaxRules$Writer.written()LSyntaxRules$Text;
set_option maxRecDepth 100000 in
set_option maxHeartbeats 4000000 in
theorem k124_0 (h : zH) (Q : Option zV → zH → Prop) (k :
  zC1 260 [vI (gI h 82 0), vI 300] h (fun v3 h3 =>
  ∀ h4 : zH, h4 = sI h3 83 1 v3 →
  Q (some (vR 83 101)) h4)) : zK 124 0 [vR 82 108] [] h Q :=
  zwpe_W (cd := c124) rfl [] 400 0 _ _ _ _ k
-- 125 SyntaxRules$Writer.putSeam()V
set_option maxRecDepth 100000 in
set_option maxHeartbeats 4000000 in
theorem k125_0 (h : zH) (Q : Option zV → zH → Prop) (k :
  ((1 : Int) = 0 ∨ (1 : Int) = 1) ∧ ∀ h2 : zH, h2 = sI h 82 5 1 →
  Q none h2) : zK 125 0 [vR 82 108] [] h Q :=
  zwpe_W (cd := c125) rfl [] 400 0 _ _ _ _ k
-- 126 SyntaxRules$Writer.writeEdit(LSyntaxRules$Source;LSyntaxRules$Rule;ILSyntaxRules$Fitting;)V
set_option maxRecDepth 100000 in
set_option maxHeartbeats 4000000 in
theorem k126_0 (p1 : Nat) (p2 : Nat) (p3 : Int) (h : zH) (Q : Option zV → zH → Prop) (k :
  zK 126 6 [vR 82 108, vR p1 102, vR p2 103, vI p3, vR 56 105, vI (gI h p2 14), vU, vU, vU] [] h Q) : zK 126 0 [vR 82 108, vR p1 102, vR p2 103, vI p3, vR 56 105, vU, vU, vU, vU] [] h Q :=
  zwpe_W (cd := c126) rfl [6, 34, 90, 91] 400 0 _ _ _ _ k
set_option maxRecDepth 100000 in
set_option maxHeartbeats 4000000 in
theorem k126_6 (a1 : Nat) (a2 : Nat) (l3 : Int) (l5 : Int) (u6 : zV) (u7 : zV) (u8 : zV) (h : zH) (Q : Option zV → zH → Prop) (k :
  ((gI h a2 13) ≤ l5 →
    zK 126 34 [vR 82 108, vR a1 102, vR a2 103, vI l3, vR 56 105, vI 0, u6, u7, u8] [] h Q) ∧
    (¬ ((gI h a2 13) ≤ l5) →
    zC0 127 [vR 82 108, vR a1 102, vR a2 103, vI l5, vR 56 105] h (fun h7 =>
    (inR (l5 + 1)) ∧ zK 126 6 [vR 82 108, vR a1 102, vR a2 103, vI l3, vR 56 105, vI (l5 + 1), u6, u7, u8] [] h7 Q))) : zK 126 6 [vR 82 108, vR a1 102, vR a2 103, vI l3, vR 56 105, vI l5, u6, u7, u8] [] h Q :=
  zwpe_W (cd := c126) rfl [6, 34, 90, 91] 400 6 _ _ _ _ k
set_option maxRecDepth 100000 in
set_option maxHeartbeats 4000000 in
theorem k126_34 (a1 : Nat) (a2 : Nat) (l3 : Int) (u4 : zV) (l5 : Int) (u6 : zV) (u7 : zV) (u8 : zV) (h : zH) (Q : Option zV → zH → Prop) (k :
  ((gI h a1 15) ≤ l5 →
    zC0 129 [vR 82 108, vR a1 102, vR a2 103] h (fun h8 =>
    Q none h8)) ∧
    (¬ ((gI h a1 15) ≤ l5) →
    (0 ≤ (l5 : Int)) ∧ ((l5 : Int) < 150) ∧ (0 ≤ (l5 : Int)) ∧ ((l5 : Int) < 150) ∧ (inR ((gI h (a1 + 13) l5) + (gI h (a1 + 14) l5))) ∧ (0 ≤ (l3 : Int)) ∧ ((l3 : Int) < 60) ∧ ((gI h (a1 + 13) l5) < (gI h (a1 + 7) l3) →
      zK 126 90 [vR 82 108, vR a1 102, vR a2 103, vI l3, u4, vI l5, vI (gI h (a1 + 13) l5), vI ((gI h (a1 + 13) l5) + (gI h (a1 + 14) l5)), u8] [] h Q) ∧
      (¬ ((gI h (a1 + 13) l5) < (gI h (a1 + 7) l3)) →
      (0 ≤ (l3 : Int)) ∧ ((l3 : Int) < 60) ∧ ((gI h (a1 + 8) l3) < ((gI h (a1 + 13) l5) + (gI h (a1 + 14) l5)) →
        zK 126 90 [vR 82 108, vR a1 102, vR a2 103, vI l3, u4, vI l5, vI (gI h (a1 + 13) l5), vI ((gI h (a1 + 13) l5) + (gI h (a1 + 14) l5)), u8] [] h Q) ∧
        (¬ ((gI h (a1 + 8) l3) < ((gI h (a1 + 13) l5) + (gI h (a1 + 14) l5))) →
        zK 126 91 [vR 82 108, vR a1 102, vR a2 103, vI l3, u4, vI l5, vI (gI h (a1 + 13) l5), vI ((gI h (a1 + 13) l5) + (gI h (a1 + 14) l5)), u8] [vI 1] h Q)))) : zK 126 34 [vR 82 108, vR a1 102, vR a2 103, vI l3, u4, vI l5, u6, u7, u8] [] h Q :=
  zwpe_W (cd := c126) rfl [6, 34, 90, 91] 400 34 _ _ _ _ k
set_option maxRecDepth 100000 in
set_option maxHeartbeats 4000000 in
theorem k126_90 (a1 : Nat) (a2 : Nat) (l3 : Int) (u4 : zV) (l5 : Int) (l6 : Int) (l7 : Int) (u8 : zV) (h : zH) (Q : Option zV → zH → Prop) (k :
  zK 126 91 [vR 82 108, vR a1 102, vR a2 103, vI l3, u4, vI l5, vI l6, vI l7, u8] [vI 0] h Q) : zK 126 90 [vR 82 108, vR a1 102, vR a2 103, vI l3, u4, vI l5, vI l6, vI l7, u8] [] h Q :=
  zwpe_W (cd := c126) rfl [6, 34, 90, 91] 400 90 _ _ _ _ k
set_option maxRecDepth 100000 in
set_option maxHeartbeats 4000000 in
theorem k126_91 (a1 : Nat) (a2 : Nat) (l3 : Int) (u4 : zV) (l5 : Int) (l6 : Int) (l7 : Int) (u8 : zV) (s0 : Int) (h : zH) (Q : Option zV → zH → Prop) (k :
  (s0 = 0 →
    (inR (l5 + 1)) ∧ zK 126 34 [vR 82 108, vR a1 102, vR a2 103, vI l3, u4, vI (l5 + 1), vI l6, vI l7, vI s0] [] h Q) ∧
    (¬ (s0 = 0) →
    zC1 128 [vR 82 108, vR a2 103, vI l6, vI l7] h (fun v9 h9 =>
    (¬ v9 = 0 →
      (inR (l5 + 1)) ∧ zK 126 34 [vR 82 108, vR a1 102, vR a2 103, vI l3, u4, vI (l5 + 1), vI l6, vI l7, vI s0] [] h9 Q) ∧
      (¬ (¬ v9 = 0) →
      zC0 131 [vR 82 108, vR (a1 + 1) 101, vI l6, vI l7] h9 (fun h10 =>
      zC0 132 [vR 82 108, vI 32] h10 (fun h11 =>
      (inR ((gI h11 82 1) + 1)) ∧ ∀ h12 : zH, h12 = sI h11 82 1 ((gI h11 82 1) + 1) →
      (inR (l5 + 1)) ∧ zK 126 34 [vR 82 108, vR a1 102, vR a2 103, vI l3, u4, vI (l5 + 1), vI l6, vI l7, vI s0] [] h12 Q)))))) : zK 126 91 [vR 82 108, vR a1 102, vR a2 103, vI l3, u4, vI l5, vI l6, vI l7, u8] [vI s0] h Q :=
  zwpe_W (cd := c126) rfl [6, 34, 90, 91] 400 91 _ _ _ _ k
-- 127 SyntaxRules$Writer.findHeld(LSyntaxRules$Source;LSyntaxRules$Rule;ILSyntaxRules$Fitting;)V
set_option maxRecDepth 100000 in
set_option maxHeartbeats 4000000 in
theorem k127_0 (p1 : Nat) (p2 : Nat) (p3 : Int) (h : zH) (Q : Option zV → zH → Prop) (k :
  (0 ≤ (p3 : Int)) ∧ ((p3 : Int) < 40) ∧ ∀ h6 : zH, h6 = sI h 85 p3 0 →
  (0 ≤ (p3 : Int)) ∧ ((p3 : Int) < 40) ∧ ∀ h7 : zH, h7 = sI h6 86 p3 0 →
  (0 ≤ (p3 : Int)) ∧ ((p3 : Int) < 40) ∧ (¬ (gI h7 (p2 + 4) p3) = (-1) →
    (0 ≤ (p3 : Int)) ∧ ((p3 : Int) < 40) ∧ zC1 68 [vR p2 103, vI 0, vI (gI h7 (p2 + 4) p3)] h7 (fun v8 h8 =>
    zK 127 39 [vR 82 108, vR p1 102, vR p2 103, vI p3, vR 56 105, vU] [vI v8] h8 Q)) ∧
    (¬ (¬ (gI h7 (p2 + 4) p3) = (-1)) →
    zK 127 39 [vR 82 108, vR p1 102, vR p2 103, vI p3, vR 56 105, vU] [vI ((-1))] h7 Q)) : zK 127 0 [vR 82 108, vR p1 102, vR p2 103, vI p3, vR 56 105, vU] [] h Q :=
  zwpe_W (cd := c127) rfl [39] 400 0 _ _ _ _ k
set_option maxRecDepth 100000 in
set_option maxHeartbeats 4000000 in
theorem k127_39 (a1 : Nat) (u2 : zV) (l3 : Int) (u5 : zV) (s0 : Int) (h : zH) (Q : Option zV → zH → Prop) (k :
  (s0 = (-1) →
    Q none h) ∧
    (¬ (s0 = (-1)) →
    (0 ≤ (s0 : Int)) ∧ ((s0 : Int) < 20) ∧ ((gI h 59 s0) ≤ 0 →
      Q none h) ∧
      (¬ ((gI h 59 s0) ≤ 0) →
      (0 ≤ (s0 : Int)) ∧ ((s0 : Int) < 20) ∧ (0 ≤ (gI h 57 s0 : Int)) ∧ ((gI h 57 s0 : Int) < 60) ∧ (0 ≤ (l3 : Int)) ∧ ((l3 : Int) < 40) ∧ ∀ h9 : zH, h9 = sI h 85 l3 (gI h (a1 + 7) (gI h 57 s0)) →
      (0 ≤ (s0 : Int)) ∧ ((s0 : Int) < 20) ∧ (0 ≤ (gI h9 58 s0 : Int)) ∧ ((gI h9 58 s0 : Int) < 60) ∧ (0 ≤ (l3 : Int)) ∧ ((l3 : Int) < 40) ∧ ∀ h10 : zH, h10 = sI h9 86 l3 (gI h9 (a1 + 8) (gI h9 58 s0)) →
      Q none h10))) : zK 127 39 [vR 82 108, vR a1 102, u2, vI l3, vR 56 105, u5] [vI s0] h Q :=
  zwpe_W (cd := c127) rfl [39] 400 39 _ _ _ _ k
-- 128 SyntaxRules$Writer.isHeld(LSyntaxRules$Rule;II)Z
set_option maxRecDepth 100000 in
set_option maxHeartbeats 4000000 in
theorem k128_0 (p1 : Nat) (p2 : Int) (p3 : Int) (h : zH) (Q : Option zV → zH → Prop) (k :
  zK 128 6 [vR 82 108, vR p1 103, vI p2, vI p3, vI (gI h p1 14)] [] h Q) : zK 128 0 [vR 82 108, vR p1 103, vI p2, vI p3, vU] [] h Q :=
  zwpe_W (cd := c128) rfl [6] 400 0 _ _ _ _ k
set_option maxRecDepth 100000 in
set_option maxHeartbeats 4000000 in
theorem k128_6 (a1 : Nat) (l2 : Int) (l3 : Int) (l4 : Int) (h : zH) (Q : Option zV → zH → Prop) (k :
  ((gI h a1 13) ≤ l4 →
    ((0 : Int) = 0 ∨ (0 : Int) = 1) ∧ Q (some (vI 0)) h) ∧
    (¬ ((gI h a1 13) ≤ l4) →
    (0 ≤ (l4 : Int)) ∧ ((l4 : Int) < 40) ∧ (l2 < (gI h 85 l4) →
      (inR (l4 + 1)) ∧ zK 128 6 [vR 82 108, vR a1 103, vI l2, vI l3, vI (l4 + 1)] [] h Q) ∧
      (¬ (l2 < (gI h 85 l4)) →
      (0 ≤ (l4 : Int)) ∧ ((l4 : Int) < 40) ∧ ((gI h 86 l4) < l3 →
        (inR (l4 + 1)) ∧ zK 128 6 [vR 82 108, vR a1 103, vI l2, vI l3, vI (l4 + 1)] [] h Q) ∧
        (¬ ((gI h 86 l4) < l3) →
        ((1 : Int) = 0 ∨ (1 : Int) = 1) ∧ Q (some (vI 1)) h)))) : zK 128 6 [vR 82 108, vR a1 103, vI l2, vI l3, vI l4] [] h Q :=
  zwpe_W (cd := c128) rfl [6] 400 6 _ _ _ _ k
-- 129 SyntaxRules$Writer.writePut(LSyntaxRules$Source;LSyntaxRules$Rule;)V
set_option maxRecDepth 100000 in
set_option maxHeartbeats 4000000 in
theorem k129_0 (p1 : Nat) (p2 : Nat) (h : zH) (Q : Option zV → zH → Prop) (k :
  zK 129 5 [vR 82 108, vR p1 102, vR p2 103, vI (gI h p2 14), vU, vU] [] h Q) : zK 129 0 [vR 82 108, vR p1 102, vR p2 103, vU, vU, vU] [] h Q :=
  zwpe_W (cd := c129) rfl [5, 28, 54, 55, 78, 122] 400 0 _ _ _ _ k
set_option maxRecDepth 100000 in
set_option maxHeartbeats 4000000 in
theorem k129_5 (a1 : Nat) (a2 : Nat) (l3 : Int) (u4 : zV) (u5 : zV) (h : zH) (Q : Option zV → zH → Prop) (k :
  ((gI h a2 13) ≤ l3 →
    Q none h) ∧
    (¬ ((gI h a2 13) ≤ l3) →
    (0 ≤ (l3 : Int)) ∧ ((l3 : Int) < 40) ∧ ((gI h (a2 + 4) l3) = (-1) →
      zK 129 28 [vR 82 108, vR a1 102, vR a2 103, vI l3, u4, u5] [vI 0] h Q) ∧
      (¬ ((gI h (a2 + 4) l3) = (-1)) →
      zK 129 28 [vR 82 108, vR a1 102, vR a2 103, vI l3, u4, u5] [vI 1] h Q))) : zK 129 5 [vR 82 108, vR a1 102, vR a2 103, vI l3, u4, u5] [] h Q :=
  zwpe_W (cd := c129) rfl [5, 28, 54, 55, 78, 122] 400 5 _ _ _ _ k
set_option maxRecDepth 100000 in
set_option maxHeartbeats 4000000 in
theorem k129_28 (a1 : Nat) (a2 : Nat) (l3 : Int) (u4 : zV) (u5 : zV) (s0 : Int) (h : zH) (Q : Option zV → zH → Prop) (k :
  (s0 = 0 →
    zK 129 54 [vR 82 108, vR a1 102, vR a2 103, vI l3, vI s0, u5] [] h Q) ∧
    (¬ (s0 = 0) →
    (0 ≤ (l3 : Int)) ∧ ((l3 : Int) < 40) ∧ (0 ≤ (l3 : Int)) ∧ ((l3 : Int) < 40) ∧ (¬ (gI h 85 l3) = (gI h 86 l3) →
      zK 129 54 [vR 82 108, vR a1 102, vR a2 103, vI l3, vI s0, u5] [] h Q) ∧
      (¬ (¬ (gI h 85 l3) = (gI h 86 l3)) →
      zK 129 55 [vR 82 108, vR a1 102, vR a2 103, vI l3, vI s0, u5] [vI 1] h Q))) : zK 129 28 [vR 82 108, vR a1 102, vR a2 103, vI l3, u4, u5] [vI s0] h Q :=
  zwpe_W (cd := c129) rfl [5, 28, 54, 55, 78, 122] 400 28 _ _ _ _ k
set_option maxRecDepth 100000 in
set_option maxHeartbeats 4000000 in
theorem k129_54 (a1 : Nat) (a2 : Nat) (l3 : Int) (l4 : Int) (u5 : zV) (h : zH) (Q : Option zV → zH → Prop) (k :
  zK 129 55 [vR 82 108, vR a1 102, vR a2 103, vI l3, vI l4, u5] [vI 0] h Q) : zK 129 54 [vR 82 108, vR a1 102, vR a2 103, vI l3, vI l4, u5] [] h Q :=
  zwpe_W (cd := c129) rfl [5, 28, 54, 55, 78, 122] 400 54 _ _ _ _ k
set_option maxRecDepth 100000 in
set_option maxHeartbeats 4000000 in
theorem k129_55 (a1 : Nat) (a2 : Nat) (l3 : Int) (l4 : Int) (u5 : zV) (s0 : Int) (h : zH) (Q : Option zV → zH → Prop) (k :
  (0 ≤ (l3 : Int)) ∧ ((l3 : Int) < 40) ∧ ((gI h (a2 + 6) l3) = (-1) →
    zK 129 78 [vR 82 108, vR a1 102, vR a2 103, vI l3, vI l4, vI s0] [] h Q) ∧
    (¬ ((gI h (a2 + 6) l3) = (-1)) →
    (¬ s0 = 0 →
      zK 129 78 [vR 82 108, vR a1 102, vR a2 103, vI l3, vI l4, vI s0] [] h Q) ∧
      (¬ (¬ s0 = 0) →
      zC0 132 [vR 82 108, vI 32] h (fun h7 =>
      zK 129 78 [vR 82 108, vR a1 102, vR a2 103, vI l3, vI l4, vI s0] [] h7 Q)))) : zK 129 55 [vR 82 108, vR a1 102, vR a2 103, vI l3, vI l4, u5] [vI s0] h Q :=
  zwpe_W (cd := c129) rfl [5, 28, 54, 55, 78, 122] 400 55 _ _ _ _ k
set_option maxRecDepth 100000 in
set_option maxHeartbeats 4000000 in
theorem k129_78 (a1 : Nat) (a2 : Nat) (l3 : Int) (l4 : Int) (u5 : zV) (h : zH) (Q : Option zV → zH → Prop) (k :
  (l4 = 0 →
    (0 ≤ (l3 : Int)) ∧ ((l3 : Int) < 40) ∧ (¬ (gI h (a2 + 3) l3) = 4 →
      zK 129 122 [vR 82 108, vR a1 102, vR a2 103, vI l3, vI l4, u5] [] h Q) ∧
      (¬ (¬ (gI h (a2 + 3) l3) = 4) →
      zC0 132 [vR 82 108, vI 40] h (fun h8 =>
      zK 129 122 [vR 82 108, vR a1 102, vR a2 103, vI l3, vI l4, u5] [] h8 Q))) ∧
    (¬ (l4 = 0) →
    (0 ≤ (l3 : Int)) ∧ ((l3 : Int) < 40) ∧ (0 ≤ (l3 : Int)) ∧ ((l3 : Int) < 40) ∧ zC0 131 [vR 82 108, vR (a1 + 1) 101, vI (gI h 85 l3), vI (gI h 86 l3)] h (fun h9 =>
    zC0 130 [vR 82 108, vR a2 103, vI l3] h9 (fun h10 =>
    (inR (l3 + 1)) ∧ zK 129 5 [vR 82 108, vR a1 102, vR a2 103, vI (l3 + 1), vI l4, u5] [] h10 Q)))) : zK 129 78 [vR 82 108, vR a1 102, vR a2 103, vI l3, vI l4, u5] [] h Q :=
  zwpe_W (cd := c129) rfl [5, 28, 54, 55, 78, 122] 400 78 _ _ _ _ k
set_option maxRecDepth 100000 in
set_option maxHeartbeats 4000000 in
theorem k129_122 (a1 : Nat) (a2 : Nat) (l3 : Int) (u4 : zV) (u5 : zV) (h : zH) (Q : Option zV → zH → Prop) (k :
  (0 ≤ (l3 : Int)) ∧ ((l3 : Int) < 40) ∧ (0 ≤ (l3 : Int)) ∧ ((l3 : Int) < 40) ∧ (0 ≤ (l3 : Int)) ∧ ((l3 : Int) < 40) ∧ (inR ((gI h (a2 + 13) l3) + (gI h (a2 + 14) l3))) ∧ zC0 131 [vR 82 108, vR (a2 + 1) 101, vI (gI h (a2 + 13) l3), vI ((gI h (a2 + 13) l3) + (gI h (a2 + 14) l3))] h (fun h11 =>
  zC0 130 [vR 82 108, vR a2 103, vI l3] h11 (fun h12 =>
  (inR (l3 + 1)) ∧ zK 129 5 [vR 82 108, vR a1 102, vR a2 103, vI (l3 + 1), u4, u5] [] h12 Q))) : zK 129 122 [vR 82 108, vR a1 102, vR a2 103, vI l3, u4, u5] [] h Q :=
  zwpe_W (cd := c129) rfl [5, 28, 54, 55, 78, 122] 400 122 _ _ _ _ k
-- 130 SyntaxRules$Writer.closeTerms(LSyntaxRules$Rule;I)V
set_option maxRecDepth 100000 in
set_option maxHeartbeats 4000000 in
theorem k130_0 (p1 : Nat) (p2 : Int) (h : zH) (Q : Option zV → zH → Prop) (k :
  zK 130 5 [vR 82 108, vR p1 103, vI p2, vI p2, vI 0] [] h Q) : zK 130 0 [vR 82 108, vR p1 103, vI p2, vU, vU] [] h Q :=
  zwpe_W (cd := c130) rfl [5] 400 0 _ _ _ _ k
set_option maxRecDepth 100000 in
set_option maxHeartbeats 4000000 in
theorem k130_5 (a1 : Nat) (l2 : Int) (l3 : Int) (l4 : Int) (h : zH) (Q : Option zV → zH → Prop) (k :
  (20 ≤ l4 →
    Q none h) ∧
    (¬ (20 ≤ l4) →
    (l3 = (-1) →
      Q none h) ∧
      (¬ (l3 = (-1)) →
      (0 ≤ (l3 : Int)) ∧ ((l3 : Int) < 40) ∧ (inR (l3 + (gI h (a1 + 12) l3))) ∧ (inR (l2 + 1)) ∧ ((l3 + (gI h (a1 + 12) l3)) = (l2 + 1) →
        (0 ≤ (l3 : Int)) ∧ ((l3 : Int) < 40) ∧ (¬ (gI h (a1 + 3) l3) = 4 →
          (0 ≤ (l3 : Int)) ∧ ((l3 : Int) < 40) ∧ (inR (l4 + 1)) ∧ zK 130 5 [vR 82 108, vR a1 103, vI l2, vI (gI h (a1 + 6) l3), vI (l4 + 1)] [] h Q) ∧
          (¬ (¬ (gI h (a1 + 3) l3) = 4) →
          zC0 132 [vR 82 108, vI 41] h (fun h2 =>
          (0 ≤ (l3 : Int)) ∧ ((l3 : Int) < 40) ∧ (inR (l4 + 1)) ∧ zK 130 5 [vR 82 108, vR a1 103, vI l2, vI (gI h2 (a1 + 6) l3), vI (l4 + 1)] [] h2 Q))) ∧
        (¬ ((l3 + (gI h (a1 + 12) l3)) = (l2 + 1)) →
        Q none h)))) : zK 130 5 [vR 82 108, vR a1 103, vI l2, vI l3, vI l4] [] h Q :=
  zwpe_W (cd := c130) rfl [5] 400 5 _ _ _ _ k
-- 131 SyntaxRules$Writer.putRow(LSyntaxRules$Text;II)V
set_option maxRecDepth 100000 in
set_option maxHeartbeats 4000000 in
theorem k131_0 (p1 : Nat) (p2 : Int) (p3 : Int) (h : zH) (Q : Option zV → zH → Prop) (k :
  zK 131 3 [vR 82 108, vR p1 101, vI p2, vI p3, vI p2] [] h Q) : zK 131 0 [vR 82 108, vR p1 101, vI p2, vI p3, vU] [] h Q :=
  zwpe_W (cd := c131) rfl [3] 400 0 _ _ _ _ k
set_option maxRecDepth 100000 in
set_option maxHeartbeats 4000000 in
theorem k131_3 (a1 : Nat) (u2 : zV) (l3 : Int) (l4 : Int) (h : zH) (Q : Option zV → zH → Prop) (k :
  (l3 ≤ l4 →
    Q none h) ∧
    (¬ (l3 ≤ l4) →
    zC1 44 [vR a1 101, vI l4] h (fun v3 h3 =>
    zC0 132 [vR 82 108, vI v3] h3 (fun h4 =>
    (inR (l4 + 1)) ∧ zK 131 3 [vR 82 108, vR a1 101, u2, vI l3, vI (l4 + 1)] [] h4 Q)))) : zK 131 3 [vR 82 108, vR a1 101, u2, vI l3, vI l4] [] h Q :=
  zwpe_W (cd := c131) rfl [3] 400 3 _ _ _ _ k
-- 132 SyntaxRules$Writer.putSign(I)V
set_option maxRecDepth 100000 in
set_option maxHeartbeats 4000000 in
theorem k132_0 (p1 : Int) (h : zH) (Q : Option zV → zH → Prop) (k :
  ((gI h 82 5) = 0 →
    ((0 : Int) = 0 ∨ (0 : Int) = 1) ∧ ∀ h14 : zH, h14 = sI h 82 5 0 →
    zC0 133 [vR 82 108, vI p1] h14 (fun h15 =>
    Q none h15)) ∧
    (¬ ((gI h 82 5) = 0) →
    zC1 33 [vI (gI h 82 4)] h (fun v16 h16 =>
    (v16 = 0 →
      zK 132 24 [vR 82 108, vI p1] [] h16 Q) ∧
      (¬ (v16 = 0) →
      zC1 33 [vI p1] h16 (fun v17 h17 =>
      (¬ v17 = 0 →
        zK 132 41 [vR 82 108, vI p1] [] h17 Q) ∧
        (¬ (¬ v17 = 0) →
        zK 132 24 [vR 82 108, vI p1] [] h17 Q)))))) : zK 132 0 [vR 82 108, vI p1] [] h Q :=
  zwpe_W (cd := c132) rfl [24, 41] 400 0 _ _ _ _ k
set_option maxRecDepth 100000 in
set_option maxHeartbeats 4000000 in
theorem k132_24 (l1 : Int) (h : zH) (Q : Option zV → zH → Prop) (k :
  zC1 34 [vI (gI h 82 4)] h (fun v18 h18 =>
  (v18 = 0 →
    ((0 : Int) = 0 ∨ (0 : Int) = 1) ∧ ∀ h19 : zH, h19 = sI h18 82 5 0 →
    zC0 133 [vR 82 108, vI l1] h19 (fun h20 =>
    Q none h20)) ∧
    (¬ (v18 = 0) →
    zC1 34 [vI l1] h18 (fun v21 h21 =>
    (v21 = 0 →
      ((0 : Int) = 0 ∨ (0 : Int) = 1) ∧ ∀ h22 : zH, h22 = sI h21 82 5 0 →
      zC0 133 [vR 82 108, vI l1] h22 (fun h23 =>
      Q none h23)) ∧
      (¬ (v21 = 0) →
      zK 132 41 [vR 82 108, vI l1] [] h21 Q))))) : zK 132 24 [vR 82 108, vI l1] [] h Q :=
  zwpe_W (cd := c132) rfl [24, 41] 400 24 _ _ _ _ k
set_option maxRecDepth 100000 in
set_option maxHeartbeats 4000000 in
theorem k132_41 (l1 : Int) (h : zH) (Q : Option zV → zH → Prop) (k :
  zC0 133 [vR 82 108, vI 32] h (fun h24 =>
  ((0 : Int) = 0 ∨ (0 : Int) = 1) ∧ ∀ h25 : zH, h25 = sI h24 82 5 0 →
  zC0 133 [vR 82 108, vI l1] h25 (fun h26 =>
  Q none h26))) : zK 132 41 [vR 82 108, vI l1] [] h Q :=
  zwpe_W (cd := c132) rfl [24, 41] 400 41 _ _ _ _ k
-- 133 SyntaxRules$Writer.append(I)V
set_option maxRecDepth 100000 in
set_option maxHeartbeats 4000000 in
theorem k133_0 (p1 : Int) (h : zH) (Q : Option zV → zH → Prop) (k :
  (300 ≤ (gI h 82 0) →
    zK 133 23 [vR 82 108, vI p1] [] h Q) ∧
    (¬ (300 ≤ (gI h 82 0)) →
    (0 ≤ (gI h 82 0 : Int)) ∧ ((gI h 82 0 : Int) < 300) ∧ ∀ h5 : zH, h5 = sI h 84 (gI h 82 0) p1 →
    zK 133 23 [vR 82 108, vI p1] [] h5 Q)) : zK 133 0 [vR 82 108, vI p1] [] h Q :=
  zwpe_W (cd := c133) rfl [23, 39] 400 0 _ _ _ _ k
set_option maxRecDepth 100000 in
set_option maxHeartbeats 4000000 in
theorem k133_23 (l1 : Int) (h : zH) (Q : Option zV → zH → Prop) (k :
  (¬ (gI h 82 0) = (gI h 82 3) →
    zK 133 39 [vR 82 108, vI l1] [] h Q) ∧
    (¬ (¬ (gI h 82 0) = (gI h 82 3)) →
    ∀ h6 : zH, h6 = sI h 82 2 l1 →
    zK 133 39 [vR 82 108, vI l1] [] h6 Q)) : zK 133 23 [vR 82 108, vI l1] [] h Q :=
  zwpe_W (cd := c133) rfl [23, 39] 400 23 _ _ _ _ k
set_option maxRecDepth 100000 in
set_option maxHeartbeats 4000000 in
theorem k133_39 (l1 : Int) (h : zH) (Q : Option zV → zH → Prop) (k :
  ∀ h7 : zH, h7 = sI h 82 4 l1 →
  (inR ((gI h7 82 0) + 1)) ∧ ∀ h8 : zH, h8 = sI h7 82 0 ((gI h7 82 0) + 1) →
  Q none h8) : zK 133 39 [vR 82 108, vI l1] [] h Q :=
  zwpe_W (cd := c133) rfl [23, 39] 400 39 _ _ _ _ k
-- 134 SyntaxRules$Past.<init>()V
set_option maxRecDepth 100000 in
set_option maxHeartbeats 4000000 in
theorem k134_0 (a0 : Nat) (h : zH) (Q : Option zV → zH → Prop) (k :
  (0 ≤ (8 : Int) ∧ (8 : Int) ≤ 10000) ∧ ∀ h6 : zH, h6 = nw h 45 ((8 : Int)).toNat →
  (zty 129 a0 h6) ∧ (gR (sR h6 a0 2 (nx h)) a0 2 = a0 + 1) ∧ (zty 945 (a0 + 1) (sR h6 a0 2 (nx h))) ∧ ∀ h7 : zH, h7 = sT (sR h6 a0 2 (nx h)) a0 9 →
  zK 134 15 [vR a0 0, vI 0] [] h7 Q) : zK 134 0 [vR a0 0, vU] [] h Q :=
  zwpe_W (cd := c134) rfl [15] 400 0 _ _ _ _ k
set_option maxRecDepth 100000 in
set_option maxHeartbeats 4000000 in
theorem k134_15 (a0 : Nat) (l1 : Int) (h : zH) (Q : Option zV → zH → Prop) (k :
  (8 ≤ l1 →
    Q none h) ∧
    (¬ (8 ≤ l1) →
    (zty 109 a0 h) ∧ ∀ h8 : zH, h8 = nw h 21 2 →
    zC0 43 [vR (nx h) 0] h8 (fun h9 =>
    (0 ≤ (l1 : Int)) ∧ ((l1 : Int) < 8) ∧ ((nx h : Nat) = 0 ∨ zty 101 (nx h) h9) ∧ ∀ h10 : zH, h10 = sR h9 (a0 + 1) l1 (nx h) →
    (inR (l1 + 1)) ∧ zK 134 15 [vR a0 0, vI (l1 + 1)] [] h10 Q))) : zK 134 15 [vR a0 0, vI l1] [] h Q :=
  zwpe_W (cd := c134) rfl [15] 400 15 _ _ _ _ k
-- 135 SyntaxRules$Past.add(LSyntaxRules$Text;)V
set_option maxRecDepth 100000 in
set_option maxHeartbeats 4000000 in
theorem k135_0 (p1 : Nat) (h : zH) (Q : Option zV → zH → Prop) (k :
  (¬ (gI h 87 0) = 8 →
    zK 135 32 [vR 87 109, vR p1 101] [] h Q) ∧
    (¬ (¬ (gI h 87 0) = 8) →
    (inR ((gI h 87 1) + 1)) ∧ (¬ 8 = 0) ∧ ∀ h5 : zH, h5 = sI h 87 1 (iRem ((gI h 87 1) + 1) 8) →
    (inR ((gI h5 87 0) - 1)) ∧ ∀ h6 : zH, h6 = sI h5 87 0 ((gI h5 87 0) - 1) →
    zK 135 32 [vR 87 109, vR p1 101] [] h6 Q)) : zK 135 0 [vR 87 109, vR p1 101] [] h Q :=
  zwpe_W (cd := c135) rfl [32] 400 0 _ _ _ _ k
set_option maxRecDepth 100000 in
set_option maxHeartbeats 4000000 in
theorem k135_32 (a1 : Nat) (h : zH) (Q : Option zV → zH → Prop) (k :
  (inR ((gI h 87 1) + (gI h 87 0))) ∧ (¬ 8 = 0) ∧ (0 ≤ (iRem ((gI h 87 1) + (gI h 87 0)) 8 : Int)) ∧ ((iRem ((gI h 87 1) + (gI h 87 0)) 8 : Int) < 8) ∧ (zty 101 (gR h 88 (iRem ((gI h 87 1) + (gI h 87 0)) 8)) h) ∧ zC0 45 [vR (gR h 88 (iRem ((gI h 87 1) + (gI h 87 0)) 8)) 101, vR a1 101] h (fun h7 =>
  (inR ((gI h7 87 0) + 1)) ∧ ∀ h8 : zH, h8 = sI h7 87 0 ((gI h7 87 0) + 1) →
  Q none h8)) : zK 135 32 [vR 87 109, vR a1 101] [] h Q :=
  zwpe_W (cd := c135) rfl [32] 400 32 _ _ _ _ k
-- 136 SyntaxRules$Past.takeLatest()LSyntaxRules$Text;
set_option maxRecDepth 100000 in
set_option maxHeartbeats 4000000 in
theorem k136_0 (h : zH) (Q : Option zV → zH → Prop) (k :
  (¬ (gI h 87 0) = 0 →
    (inR ((gI h 87 0) - 1)) ∧ ∀ h2 : zH, h2 = sI h 87 0 ((gI h 87 0) - 1) →
    (inR ((gI h2 87 1) + (gI h2 87 0))) ∧ (¬ 8 = 0) ∧ (0 ≤ (iRem ((gI h2 87 1) + (gI h2 87 0)) 8 : Int)) ∧ ((iRem ((gI h2 87 1) + (gI h2 87 0)) 8 : Int) < 8) ∧ (zty 101 (gR h2 88 (iRem ((gI h2 87 1) + (gI h2 87 0)) 8)) h2) ∧ Q (some (vR (gR h2 88 (iRem ((gI h2 87 1) + (gI h2 87 0)) 8)) 0)) h2) ∧
    (¬ (¬ (gI h 87 0) = 0) →
    Q (some (vR 0 0)) h)) : zK 136 0 [vR 87 109] [] h Q :=
  zwpe_W (cd := c136) rfl [] 400 0 _ _ _ _ k
-- 137 SyntaxRules$Past.forget()V
set_option maxRecDepth 100000 in
set_option maxHeartbeats 4000000 in
theorem k137_0 (h : zH) (Q : Option zV → zH → Prop) (k :
  ∀ h2 : zH, h2 = sI h 87 0 0 →
  Q none h2) : zK 137 0 [vR 87 109] [] h Q :=
  zwpe_W (cd := c137) rfl [] 400 0 _ _ _ _ k
-- 138 SyntaxRules$Kept.<init>()V
set_option maxRecDepth 100000 in
set_option maxHeartbeats 4000000 in
theorem k138_0 (a0 : Nat) (h : zH) (Q : Option zV → zH → Prop) (k :
  ∀ h6 : zH, h6 = nw h 21 2 →
  zC0 43 [vR (nx h) 0] h6 (fun h7 =>
  (zty 130 a0 h7) ∧ ∀ h8 : zH, h8 = sR h7 a0 1 (nx h) →
  (0 ≤ (8 : Int) ∧ (8 : Int) ≤ 10000) ∧ ∀ h9 : zH, h9 = nw h8 44 ((8 : Int)).toNat →
  (zty 130 a0 h9) ∧ (gR (sR h9 a0 2 (nx h8)) a0 1 = a0 + 1) ∧ (zty 101 (a0 + 1) (sR h9 a0 2 (nx h8))) ∧ (gR (sR h9 a0 2 (nx h8)) a0 2 = a0 + 3) ∧ (zty 944 (a0 + 3) (sR h9 a0 2 (nx h8))) ∧ ∀ h10 : zH, h10 = sT (sR h9 a0 2 (nx h8)) a0 10 →
  Q none h10)) : zK 138 0 [vR a0 0] [] h Q :=
  zwpe_W (cd := c138) rfl [] 400 0 _ _ _ _ k
-- 257 java/lang/Integer.numberOfTrailingZeros(I)I
set_option maxRecDepth 100000 in
set_option maxHeartbeats 4000000 in
theorem k257_0 (p0 : Int) (h : zH) (Q : Option zV → zH → Prop) (k :
  (inR (p0 - 1)) ∧ (0 < (iAnd (iXor p0 (-1)) (p0 - 1)) →
    ((iAnd (iXor p0 (-1)) (p0 - 1)) ≤ 65536 →
      zK 257 34 [vI (iAnd (iXor p0 (-1)) (p0 - 1)), vI 1] [] h Q) ∧
      (¬ ((iAnd (iXor p0 (-1)) (p0 - 1)) ≤ 65536) →
      (inR (1 + 16)) ∧ zK 257 34 [vI (iUshr (iAnd (iXor p0 (-1)) (p0 - 1)) 16), vI (1 + 16)] [] h Q)) ∧
    (¬ (0 < (iAnd (iXor p0 (-1)) (p0 - 1))) →
    Q (some (vI (iAnd (iAnd (iXor p0 (-1)) (p0 - 1)) 32))) h)) : zK 257 0 [vI p0, vU] [] h Q :=
  zwpe_W (cd := c257) rfl [34, 49, 62] 400 0 _ _ _ _ k
set_option maxRecDepth 100000 in
set_option maxHeartbeats 4000000 in
theorem k257_34 (l0 : Int) (l1 : Int) (h : zH) (Q : Option zV → zH → Prop) (k :
  (l0 ≤ 256 →
    zK 257 49 [vI l0, vI l1] [] h Q) ∧
    (¬ (l0 ≤ 256) →
    (inR (l1 + 8)) ∧ zK 257 49 [vI (iUshr l0 8), vI (l1 + 8)] [] h Q)) : zK 257 34 [vI l0, vI l1] [] h Q :=
  zwpe_W (cd := c257) rfl [34, 49, 62] 400 34 _ _ _ _ k
set_option maxRecDepth 100000 in
set_option maxHeartbeats 4000000 in
theorem k257_49 (l0 : Int) (l1 : Int) (h : zH) (Q : Option zV → zH → Prop) (k :
  (l0 ≤ 16 →
    zK 257 62 [vI l0, vI l1] [] h Q) ∧
    (¬ (l0 ≤ 16) →
    (inR (l1 + 4)) ∧ zK 257 62 [vI (iUshr l0 4), vI (l1 + 4)] [] h Q)) : zK 257 49 [vI l0, vI l1] [] h Q :=
  zwpe_W (cd := c257) rfl [34, 49, 62] 400 49 _ _ _ _ k
set_option maxRecDepth 100000 in
set_option maxHeartbeats 4000000 in
theorem k257_62 (l0 : Int) (l1 : Int) (h : zH) (Q : Option zV → zH → Prop) (k :
  (l0 ≤ 4 →
    (inR (l1 + (iUshr l0 1))) ∧ Q (some (vI (l1 + (iUshr l0 1)))) h) ∧
    (¬ (l0 ≤ 4) →
    (inR (l1 + 2)) ∧ (inR ((l1 + 2) + (iUshr (iUshr l0 2) 1))) ∧ Q (some (vI ((l1 + 2) + (iUshr (iUshr l0 2) 1)))) h)) : zK 257 62 [vI l0, vI l1] [] h Q :=
  zwpe_W (cd := c257) rfl [34, 49, 62] 400 62 _ _ _ _ k
-- 258 java/lang/Integer.bitCount(I)I
set_option maxRecDepth 100000 in
set_option maxHeartbeats 4000000 in
theorem k258_0 (p0 : Int) (h : zH) (Q : Option zV → zH → Prop) (k :
  (inR (p0 - (iAnd (iUshr p0 1) 1431655765))) ∧ (inR ((iAnd (p0 - (iAnd (iUshr p0 1) 1431655765)) 858993459) + (iAnd (iUshr (p0 - (iAnd (iUshr p0 1) 1431655765)) 2) 858993459))) ∧ (inR (((iAnd (p0 - (iAnd (iUshr p0 1) 1431655765)) 858993459) + (iAnd (iUshr (p0 - (iAnd (iUshr p0 1) 1431655765)) 2) 858993459)) + (iUshr ((iAnd (p0 - (iAnd (iUshr p0 1) 1431655765)) 858993459) + (iAnd (iUshr (p0 - (iAnd (iUshr p0 1) 1431655765)) 2) 858993459)) 4))) ∧ (inR ((iAnd (((iAnd (p0 - (iAnd (iUshr p0 1) 1431655765)) 858993459) + (iAnd (iUshr (p0 - (iAnd (iUshr p0 1) 1431655765)) 2) 858993459)) + (iUshr ((iAnd (p0 - (iAnd (iUshr p0 1) 1431655765)) 858993459) + (iAnd (iUshr (p0 - (iAnd (iUshr p0 1) 1431655765)) 2) 858993459)) 4)) 252645135) + (iUshr (iAnd (((iAnd (p0 - (iAnd (iUshr p0 1) 1431655765)) 858993459) + (iAnd (iUshr (p0 - (iAnd (iUshr p0 1) 1431655765)) 2) 858993459)) + (iUshr ((iAnd (p0 - (iAnd (iUshr p0 1) 1431655765)) 858993459) + (iAnd (iUshr (p0 - (iAnd (iUshr p0 1) 1431655765)) 2) 858993459)) 4)) 252645135) 8))) ∧ (inR (((iAnd (((iAnd (p0 - (iAnd (iUshr p0 1) 1431655765)) 858993459) + (iAnd (iUshr (p0 - (iAnd (iUshr p0 1) 1431655765)) 2) 858993459)) + (iUshr ((iAnd (p0 - (iAnd (iUshr p0 1) 1431655765)) 858993459) + (iAnd (iUshr (p0 - (iAnd (iUshr p0 1) 1431655765)) 2) 858993459)) 4)) 252645135) + (iUshr (iAnd (((iAnd (p0 - (iAnd (iUshr p0 1) 1431655765)) 858993459) + (iAnd (iUshr (p0 - (iAnd (iUshr p0 1) 1431655765)) 2) 858993459)) + (iUshr ((iAnd (p0 - (iAnd (iUshr p0 1) 1431655765)) 858993459) + (iAnd (iUshr (p0 - (iAnd (iUshr p0 1) 1431655765)) 2) 858993459)) 4)) 252645135) 8)) + (iUshr ((iAnd (((iAnd (p0 - (iAnd (iUshr p0 1) 1431655765)) 858993459) + (iAnd (iUshr (p0 - (iAnd (iUshr p0 1) 1431655765)) 2) 858993459)) + (iUshr ((iAnd (p0 - (iAnd (iUshr p0 1) 1431655765)) 858993459) + (iAnd (iUshr (p0 - (iAnd (iUshr p0 1) 1431655765)) 2) 858993459)) 4)) 252645135) + (iUshr (iAnd (((iAnd (p0 - (iAnd (iUshr p0 1) 1431655765)) 858993459) + (iAnd (iUshr (p0 - (iAnd (iUshr p0 1) 1431655765)) 2) 858993459)) + (iUshr ((iAnd (p0 - (iAnd (iUshr p0 1) 1431655765)) 858993459) + (iAnd (iUshr (p0 - (iAnd (iUshr p0 1) 1431655765)) 2) 858993459)) 4)) 252645135) 8)) 16))) ∧ Q (some (vI (iAnd (((iAnd (((iAnd (p0 - (iAnd (iUshr p0 1) 1431655765)) 858993459) + (iAnd (iUshr (p0 - (iAnd (iUshr p0 1) 1431655765)) 2) 858993459)) + (iUshr ((iAnd (p0 - (iAnd (iUshr p0 1) 1431655765)) 858993459) + (iAnd (iUshr (p0 - (iAnd (iUshr p0 1) 1431655765)) 2) 858993459)) 4)) 252645135) + (iUshr (iAnd (((iAnd (p0 - (iAnd (iUshr p0 1) 1431655765)) 858993459) + (iAnd (iUshr (p0 - (iAnd (iUshr p0 1) 1431655765)) 2) 858993459)) + (iUshr ((iAnd (p0 - (iAnd (iUshr p0 1) 1431655765)) 858993459) + (iAnd (iUshr (p0 - (iAnd (iUshr p0 1) 1431655765)) 2) 858993459)) 4)) 252645135) 8)) + (iUshr ((iAnd (((iAnd (p0 - (iAnd (iUshr p0 1) 1431655765)) 858993459) + (iAnd (iUshr (p0 - (iAnd (iUshr p0 1) 1431655765)) 2) 858993459)) + (iUshr ((iAnd (p0 - (iAnd (iUshr p0 1) 1431655765)) 858993459) + (iAnd (iUshr (p0 - (iAnd (iUshr p0 1) 1431655765)) 2) 858993459)) 4)) 252645135) + (iUshr (iAnd (((iAnd (p0 - (iAnd (iUshr p0 1) 1431655765)) 858993459) + (iAnd (iUshr (p0 - (iAnd (iUshr p0 1) 1431655765)) 2) 858993459)) + (iUshr ((iAnd (p0 - (iAnd (iUshr p0 1) 1431655765)) 858993459) + (iAnd (iUshr (p0 - (iAnd (iUshr p0 1) 1431655765)) 2) 858993459)) 4)) 252645135) 8)) 16)) 63))) h) : zK 258 0 [vI p0] [] h Q :=
  zwpe_W (cd := c258) rfl [] 400 0 _ _ _ _ k
-- 259 java/lang/Math.max(II)I
set_option maxRecDepth 100000 in
set_option maxHeartbeats 4000000 in
theorem k259_0 (p0 : Int) (p1 : Int) (h : zH) (Q : Option zV → zH → Prop) (k :
  (p0 < p1 →
    Q (some (vI p1)) h) ∧
    (¬ (p0 < p1) →
    Q (some (vI p0)) h)) : zK 259 0 [vI p0, vI p1] [] h Q :=
  zwpe_W (cd := c259) rfl [] 400 0 _ _ _ _ k
-- 260 java/lang/Math.min(II)I
set_option maxRecDepth 100000 in
set_option maxHeartbeats 4000000 in
theorem k260_0 (p0 : Int) (p1 : Int) (h : zH) (Q : Option zV → zH → Prop) (k :
  (p1 < p0 →
    Q (some (vI p1)) h) ∧
    (¬ (p1 < p0) →
    Q (some (vI p0)) h)) : zK 260 0 [vI p0, vI p1] [] h Q :=
  zwpe_W (cd := c260) rfl [] 400 0 _ _ _ _ k
end
section
-- 139 SyntaxRulesModel.<init>()V
set_option maxRecDepth 100000 in
set_option maxHeartbeats 4000000 in
theorem k139_0 (a0 : Nat) (h : zH) (Q : Option zV → zH → Prop) (k :
  (0 ≤ (2709 : Int) ∧ (2709 : Int) ≤ 10000) ∧ ∀ h88 : zH, h88 = nw h 40 ((2709 : Int)).toNat →
  (zty 131 a0 h88) ∧ ∀ h89 : zH, h89 = sR h88 a0 1 (nx h) →
  (0 ≤ (5418 : Int) ∧ (5418 : Int) ≤ 10000) ∧ ∀ h90 : zH, h90 = nw h89 40 ((5418 : Int)).toNat →
  (zty 131 a0 h90) ∧ ∀ h91 : zH, h91 = sR h90 a0 2 (nx h89) →
  (0 ≤ (2 : Int) ∧ (2 : Int) ≤ 10000) ∧ ∀ h92 : zH, h92 = nw h91 41 ((2 : Int)).toNat →
  (zty 131 a0 h92) ∧ ∀ h93 : zH, h93 = sR h92 a0 3 (nx h91) →
  (0 ≤ (2408 : Int) ∧ (2408 : Int) ≤ 10000) ∧ ∀ h94 : zH, h94 = nw h93 40 ((2408 : Int)).toNat →
  (zty 131 a0 h94) ∧ ∀ h95 : zH, h95 = sR h94 a0 4 (nx h93) →
  (0 ≤ (300 : Int) ∧ (300 : Int) ≤ 10000) ∧ ∀ h96 : zH, h96 = nw h95 42 ((300 : Int)).toNat →
  (zty 131 a0 h96) ∧ ∀ h97 : zH, h97 = sR h96 a0 6 (nx h95) →
  (0 ≤ (302 : Int) ∧ (302 : Int) ≤ 10000) ∧ ∀ h98 : zH, h98 = nw h97 40 ((302 : Int)).toNat →
  (zty 131 a0 h98) ∧ ∀ h99 : zH, h99 = sR h98 a0 8 (nx h97) →
  (0 ≤ (600 : Int) ∧ (600 : Int) ≤ 10000) ∧ ∀ h100 : zH, h100 = nw h99 40 ((600 : Int)).toNat →
  (zty 131 a0 h100) ∧ ∀ h101 : zH, h101 = sR h100 a0 10 (nx h99) →
  (0 ≤ (450 : Int) ∧ (450 : Int) ≤ 10000) ∧ ∀ h102 : zH, h102 = nw h101 40 ((450 : Int)).toNat →
  (zty 131 a0 h102) ∧ ∀ h103 : zH, h103 = sR h102 a0 12 (nx h101) →
  (0 ≤ (16 : Int) ∧ (16 : Int) ≤ 10000) ∧ ∀ h104 : zH, h104 = nw h103 40 ((16 : Int)).toNat →
  (zty 131 a0 h104) ∧ ∀ h105 : zH, h105 = sR h104 a0 14 (nx h103) →
  (0 ≤ (600 : Int) ∧ (600 : Int) ≤ 10000) ∧ ∀ h106 : zH, h106 = nw h105 40 ((600 : Int)).toNat →
  (zty 131 a0 h106) ∧ ∀ h107 : zH, h107 = sR h106 a0 19 (nx h105) →
  (0 ≤ (450 : Int) ∧ (450 : Int) ≤ 10000) ∧ ∀ h108 : zH, h108 = nw h107 40 ((450 : Int)).toNat →
  (zty 131 a0 h108) ∧ ∀ h109 : zH, h109 = sR h108 a0 21 (nx h107) →
  (0 ≤ (3936 : Int) ∧ (3936 : Int) ≤ 10000) ∧ ∀ h110 : zH, h110 = nw h109 40 ((3936 : Int)).toNat →
  (zty 131 a0 h110) ∧ ∀ h111 : zH, h111 = sR h110 a0 23 (nx h109) →
  (0 ≤ (16 : Int) ∧ (16 : Int) ≤ 10000) ∧ ∀ h112 : zH, h112 = nw h111 40 ((16 : Int)).toNat →
  (zty 131 a0 h112) ∧ ∀ h113 : zH, h113 = sR h112 a0 24 (nx h111) →
  (0 ≤ (492 : Int) ∧ (492 : Int) ≤ 10000) ∧ ∀ h114 : zH, h114 = nw h113 40 ((492 : Int)).toNat →
  (zty 131 a0 h114) ∧ ∀ h115 : zH, h115 = sR h114 a0 25 (nx h113) →
  (0 ≤ (2 : Int) ∧ (2 : Int) ≤ 10000) ∧ ∀ h116 : zH, h116 = nw h115 40 ((2 : Int)).toNat →
  (zty 131 a0 h116) ∧ ∀ h117 : zH, h117 = sR h116 a0 26 (nx h115) →
  (0 ≤ (26 : Int) ∧ (26 : Int) ≤ 10000) ∧ ∀ h118 : zH, h118 = nw h117 40 ((26 : Int)).toNat →
  (zty 131 a0 h118) ∧ ∀ h119 : zH, h119 = sR h118 a0 30 (nx h117) →
  (0 ≤ (21 : Int) ∧ (21 : Int) ≤ 10000) ∧ ∀ h120 : zH, h120 = nw h119 40 ((21 : Int)).toNat →
  (zty 131 a0 h120) ∧ ∀ h121 : zH, h121 = sR h120 a0 31 (nx h119) →
  (0 ≤ (3 : Int) ∧ (3 : Int) ≤ 10000) ∧ ∀ h122 : zH, h122 = nw h121 40 ((3 : Int)).toNat →
  (zty 131 a0 h122) ∧ ∀ h123 : zH, h123 = sR h122 a0 34 (nx h121) →
  (0 ≤ (26 : Int) ∧ (26 : Int) ≤ 10000) ∧ ∀ h124 : zH, h124 = nw h123 40 ((26 : Int)).toNat →
  (zty 131 a0 h124) ∧ ∀ h125 : zH, h125 = sR h124 a0 37 (nx h123) →
  (0 ≤ (26 : Int) ∧ (26 : Int) ≤ 10000) ∧ ∀ h126 : zH, h126 = nw h125 40 ((26 : Int)).toNat →
  (zty 131 a0 h126) ∧ ∀ h127 : zH, h127 = sR h126 a0 38 (nx h125) →
  (0 ≤ (21 : Int) ∧ (21 : Int) ≤ 10000) ∧ ∀ h128 : zH, h128 = nw h127 40 ((21 : Int)).toNat →
  (zty 131 a0 h128) ∧ ∀ h129 : zH, h129 = sR h128 a0 39 (nx h127) →
  (0 ≤ (21 : Int) ∧ (21 : Int) ≤ 10000) ∧ ∀ h130 : zH, h130 = nw h129 40 ((21 : Int)).toNat →
  (zty 131 a0 h130) ∧ ∀ h131 : zH, h131 = sR h130 a0 40 (nx h129) →
  (0 ≤ (8 : Int) ∧ (8 : Int) ≤ 10000) ∧ ∀ h132 : zH, h132 = nw h131 40 ((8 : Int)).toNat →
  (zty 131 a0 h132) ∧ ∀ h133 : zH, h133 = sR h132 a0 41 (nx h131) →
  (0 ≤ (320 : Int) ∧ (320 : Int) ≤ 10000) ∧ ∀ h134 : zH, h134 = nw h133 40 ((320 : Int)).toNat →
  (zty 131 a0 h134) ∧ ∀ h135 : zH, h135 = sR h134 a0 42 (nx h133) →
  (0 ≤ (320 : Int) ∧ (320 : Int) ≤ 10000) ∧ ∀ h136 : zH, h136 = nw h135 40 ((320 : Int)).toNat →
  (zty 131 a0 h136) ∧ ∀ h137 : zH, h137 = sR h136 a0 43 (nx h135) →
  (0 ≤ (320 : Int) ∧ (320 : Int) ≤ 10000) ∧ ∀ h138 : zH, h138 = nw h137 40 ((320 : Int)).toNat →
  (zty 131 a0 h138) ∧ ∀ h139 : zH, h139 = sR h138 a0 44 (nx h137) →
  (0 ≤ (6720 : Int) ∧ (6720 : Int) ≤ 10000) ∧ ∀ h140 : zH, h140 = nw h139 40 ((6720 : Int)).toNat →
  (zty 131 a0 h140) ∧ ∀ h141 : zH, h141 = sR h140 a0 45 (nx h139) →
  (0 ≤ (320 : Int) ∧ (320 : Int) ≤ 10000) ∧ ∀ h142 : zH, h142 = nw h141 40 ((320 : Int)).toNat →
  (zty 131 a0 h142) ∧ ∀ h143 : zH, h143 = sR h142 a0 46 (nx h141) →
  (0 ≤ (6720 : Int) ∧ (6720 : Int) ≤ 10000) ∧ ∀ h144 : zH, h144 = nw h143 40 ((6720 : Int)).toNat →
  (zty 131 a0 h144) ∧ ∀ h145 : zH, h145 = sR h144 a0 47 (nx h143) →
  (0 ≤ (21 : Int) ∧ (21 : Int) ≤ 10000) ∧ ∀ h146 : zH, h146 = nw h145 40 ((21 : Int)).toNat →
  (zty 131 a0 h146) ∧ ∀ h147 : zH, h147 = sR h146 a0 48 (nx h145) →
  (0 ≤ (26 : Int) ∧ (26 : Int) ≤ 10000) ∧ ∀ h148 : zH, h148 = nw h147 40 ((26 : Int)).toNat →
  (zty 131 a0 h148) ∧ ∀ h149 : zH, h149 = sR h148 a0 50 (nx h147) →
  (0 ≤ (546 : Int) ∧ (546 : Int) ≤ 10000) ∧ ∀ h150 : zH, h150 = nw h149 40 ((546 : Int)).toNat →
  (zty 131 a0 h150) ∧ ∀ h151 : zH, h151 = sR h150 a0 51 (nx h149) →
  (0 ≤ (320 : Int) ∧ (320 : Int) ≤ 10000) ∧ ∀ h152 : zH, h152 = nw h151 40 ((320 : Int)).toNat →
  (zty 131 a0 h152) ∧ ∀ h153 : zH, h153 = sR h152 a0 52 (nx h151) →
  (0 ≤ (320 : Int) ∧ (320 : Int) ≤ 10000) ∧ ∀ h154 : zH, h154 = nw h153 40 ((320 : Int)).toNat →
  (zty 131 a0 h154) ∧ ∀ h155 : zH, h155 = sR h154 a0 53 (nx h153) →
  (0 ≤ (320 : Int) ∧ (320 : Int) ≤ 10000) ∧ ∀ h156 : zH, h156 = nw h155 41 ((320 : Int)).toNat →
  (zty 131 a0 h156) ∧ ∀ h157 : zH, h157 = sR h156 a0 56 (nx h155) →
  (0 ≤ (60 : Int) ∧ (60 : Int) ≤ 10000) ∧ ∀ h158 : zH, h158 = nw h157 40 ((60 : Int)).toNat →
  (zty 131 a0 h158) ∧ ∀ h159 : zH, h159 = sR h158 a0 57 (nx h157) →
  (0 ≤ (60 : Int) ∧ (60 : Int) ≤ 10000) ∧ ∀ h160 : zH, h160 = nw h159 40 ((60 : Int)).toNat →
  (zty 131 a0 h160) ∧ ∀ h161 : zH, h161 = sR h160 a0 58 (nx h159) →
  (0 ≤ (60 : Int) ∧ (60 : Int) ≤ 10000) ∧ ∀ h162 : zH, h162 = nw h161 40 ((60 : Int)).toNat →
  (zty 131 a0 h162) ∧ ∀ h163 : zH, h163 = sR h162 a0 60 (nx h161) →
  (0 ≤ (7000 : Int) ∧ (7000 : Int) ≤ 10000) ∧ ∀ h164 : zH, h164 = nw h163 42 ((7000 : Int)).toNat →
  (zty 131 a0 h164) ∧ ∀ h165 : zH, h165 = sR h164 a0 61 (nx h163) →
  (0 ≤ (26 : Int) ∧ (26 : Int) ≤ 10000) ∧ ∀ h166 : zH, h166 = nw h165 40 ((26 : Int)).toNat →
  (zty 131 a0 h166) ∧ ∀ h167 : zH, h167 = sR h166 a0 64 (nx h165) →
  (0 ≤ (26 : Int) ∧ (26 : Int) ≤ 10000) ∧ ∀ h168 : zH, h168 = nw h167 40 ((26 : Int)).toNat →
  (zty 131 a0 h168) ∧ ∀ h169 : zH, h169 = sR h168 a0 65 (nx h167) →
  (0 ≤ (2107 : Int) ∧ (2107 : Int) ≤ 10000) ∧ ∀ h170 : zH, h170 = nw h169 40 ((2107 : Int)).toNat →
  (zty 131 a0 h170) ∧ (gR (sR h170 a0 67 (nx h169)) a0 1 = a0 + 1) ∧ (zty 271040 (a0 + 1) (sR h170 a0 67 (nx h169))) ∧ (gR (sR h170 a0 67 (nx h169)) a0 2 = a0 + 2) ∧ (zty 541940 (a0 + 2) (sR h170 a0 67 (nx h169))) ∧ (gR (sR h170 a0 67 (nx h169)) a0 3 = a0 + 3) ∧ (zty 341 (a0 + 3) (sR h170 a0 67 (nx h169))) ∧ (gR (sR h170 a0 67 (nx h169)) a0 4 = a0 + 4) ∧ (zty 240940 (a0 + 4) (sR h170 a0 67 (nx h169))) ∧ (gR (sR h170 a0 67 (nx h169)) a0 6 = a0 + 5) ∧ (zty 30142 (a0 + 5) (sR h170 a0 67 (nx h169))) ∧ (gR (sR h170 a0 67 (nx h169)) a0 8 = a0 + 6) ∧ (zty 30340 (a0 + 6) (sR h170 a0 67 (nx h169))) ∧ (gR (sR h170 a0 67 (nx h169)) a0 10 = a0 + 7) ∧ (zty 60140 (a0 + 7) (sR h170 a0 67 (nx h169))) ∧ (gR (sR h170 a0 67 (nx h169)) a0 12 = a0 + 8) ∧ (zty 45140 (a0 + 8) (sR h170 a0 67 (nx h169))) ∧ (gR (sR h170 a0 67 (nx h169)) a0 14 = a0 + 9) ∧ (zty 1740 (a0 + 9) (sR h170 a0 67 (nx h169))) ∧ (gR (sR h170 a0 67 (nx h169)) a0 19 = a0 + 10) ∧ (zty 60140 (a0 + 10) (sR h170 a0 67 (nx h169))) ∧ (gR (sR h170 a0 67 (nx h169)) a0 21 = a0 + 11) ∧ (zty 45140 (a0 + 11) (sR h170 a0 67 (nx h169))) ∧ (gR (sR h170 a0 67 (nx h169)) a0 23 = a0 + 12) ∧ (zty 393740 (a0 + 12) (sR h170 a0 67 (nx h169))) ∧ (gR (sR h170 a0 67 (nx h169)) a0 24 = a0 + 13) ∧ (zty 1740 (a0 + 13) (sR h170 a0 67 (nx h169))) ∧ (gR (sR h170 a0 67 (nx h169)) a0 25 = a0 + 14) ∧ (zty 49340 (a0 + 14) (sR h170 a0 67 (nx h169))) ∧ (gR (sR h170 a0 67 (nx h169)) a0 26 = a0 + 15) ∧ (zty 340 (a0 + 15) (sR h170 a0 67 (nx h169))) ∧ (gR (sR h170 a0 67 (nx h169)) a0 30 = a0 + 16) ∧ (zty 2740 (a0 + 16) (sR h170 a0 67 (nx h169))) ∧ (gR (sR h170 a0 67 (nx h169)) a0 31 = a0 + 17) ∧ (zty 2240 (a0 + 17) (sR h170 a0 67 (nx h169))) ∧ (gR (sR h170 a0 67 (nx h169)) a0 34 = a0 + 18) ∧ (zty 440 (a0 + 18) (sR h170 a0 67 (nx h169))) ∧ (gR (sR h170 a0 67 (nx h169)) a0 37 = a0 + 19) ∧ (zty 2740 (a0 + 19) (sR h170 a0 67 (nx h169))) ∧ (gR (sR h170 a0 67 (nx h169)) a0 38 = a0 + 20) ∧ (zty 2740 (a0 + 20) (sR h170 a0 67 (nx h169))) ∧ (gR (sR h170 a0 67 (nx h169)) a0 39 = a0 + 21) ∧ (zty 2240 (a0 + 21) (sR h170 a0 67 (nx h169))) ∧ (gR (sR h170 a0 67 (nx h169)) a0 40 = a0 + 22) ∧ (zty 2240 (a0 + 22) (sR h170 a0 67 (nx h169))) ∧ (gR (sR h170 a0 67 (nx h169)) a0 41 = a0 + 23) ∧ (zty 940 (a0 + 23) (sR h170 a0 67 (nx h169))) ∧ (gR (sR h170 a0 67 (nx h169)) a0 42 = a0 + 24) ∧ (zty 32140 (a0 + 24) (sR h170 a0 67 (nx h169))) ∧ (gR (sR h170 a0 67 (nx h169)) a0 43 = a0 + 25) ∧ (zty 32140 (a0 + 25) (sR h170 a0 67 (nx h169))) ∧ (gR (sR h170 a0 67 (nx h169)) a0 44 = a0 + 26) ∧ (zty 32140 (a0 + 26) (sR h170 a0 67 (nx h169))) ∧ (gR (sR h170 a0 67 (nx h169)) a0 45 = a0 + 27) ∧ (zty 672140 (a0 + 27) (sR h170 a0 67 (nx h169))) ∧ (gR (sR h170 a0 67 (nx h169)) a0 46 = a0 + 28) ∧ (zty 32140 (a0 + 28) (sR h170 a0 67 (nx h169))) ∧ (gR (sR h170 a0 67 (nx h169)) a0 47 = a0 + 29) ∧ (zty 672140 (a0 + 29) (sR h170 a0 67 (nx h169))) ∧ (gR (sR h170 a0 67 (nx h169)) a0 48 = a0 + 30) ∧ (zty 2240 (a0 + 30) (sR h170 a0 67 (nx h169))) ∧ (gR (sR h170 a0 67 (nx h169)) a0 50 = a0 + 31) ∧ (zty 2740 (a0 + 31) (sR h170 a0 67 (nx h169))) ∧ (gR (sR h170 a0 67 (nx h169)) a0 51 = a0 + 32) ∧ (zty 54740 (a0 + 32) (sR h170 a0 67 (nx h169))) ∧ (gR (sR h170 a0 67 (nx h169)) a0 52 = a0 + 33) ∧ (zty 32140 (a0 + 33) (sR h170 a0 67 (nx h169))) ∧ (gR (sR h170 a0 67 (nx h169)) a0 53 = a0 + 34) ∧ (zty 32140 (a0 + 34) (sR h170 a0 67 (nx h169))) ∧ (gR (sR h170 a0 67 (nx h169)) a0 56 = a0 + 35) ∧ (zty 32141 (a0 + 35) (sR h170 a0 67 (nx h169))) ∧ (gR (sR h170 a0 67 (nx h169)) a0 57 = a0 + 36) ∧ (zty 6140 (a0 + 36) (sR h170 a0 67 (nx h169))) ∧ (gR (sR h170 a0 67 (nx h169)) a0 58 = a0 + 37) ∧ (zty 6140 (a0 + 37) (sR h170 a0 67 (nx h169))) ∧ (gR (sR h170 a0 67 (nx h169)) a0 60 = a0 + 38) ∧ (zty 6140 (a0 + 38) (sR h170 a0 67 (nx h169))) ∧ (gR (sR h170 a0 67 (nx h169)) a0 61 = a0 + 39) ∧ (zty 700142 (a0 + 39) (sR h170 a0 67 (nx h169))) ∧ (gR (sR h170 a0 67 (nx h169)) a0 64 = a0 + 40) ∧ (zty 2740 (a0 + 40) (sR h170 a0 67 (nx h169))) ∧ (gR (sR h170 a0 67 (nx h169)) a0 65 = a0 + 41) ∧ (zty 2740 (a0 + 41) (sR h170 a0 67 (nx h169))) ∧ (gR (sR h170 a0 67 (nx h169)) a0 67 = a0 + 42) ∧ (zty 210840 (a0 + 42) (sR h170 a0 67 (nx h169))) ∧ ∀ h171 : zH, h171 = sT (sR h170 a0 67 (nx h169)) a0 11 →
  (zty 111 a0 h171) ∧ (0 ≤ (0 : Int)) ∧ ((0 : Int) < 2709) ∧ ∀ h172 : zH, h172 = sI h171 (a0 + 1) 0 97 →
  (zty 111 a0 h172) ∧ (0 ≤ (300 : Int)) ∧ ((300 : Int) < 2709) ∧ ∀ h173 : zH, h173 = sI h172 (a0 + 1) 300 1 →
  (zty 111 a0 h173) ∧ zC0 156 [vR a0 111] h173 (fun h174 =>
  Q none h174)) : zK 139 0 [vR a0 0] [] h Q :=
  zwpe_W (cd := c139) rfl [] 400 0 _ _ _ _ k
-- 140 SyntaxRulesModel.thrown()I
set_option maxRecDepth 100000 in
set_option maxHeartbeats 4000000 in
theorem k140_0 (h : zH) (Q : Option zV → zH → Prop) (k :
  Q (some (vI (gI h 127 0))) h) : zK 140 0 [vR 127 111] [] h Q :=
  zwpe_W (cd := c140) rfl [] 400 0 _ _ _ _ k
-- 141 SyntaxRulesModel.in(JJJ)Z
set_option maxRecDepth 100000 in
set_option maxHeartbeats 4000000 in
theorem k141_0 (p0 : Int) (p1 : Int) (p2 : Int) (h : zH) (Q : Option zV → zH → Prop) (k :
  ((iCmp p0 p1) < 0 →
    ((0 : Int) = 0 ∨ (0 : Int) = 1) ∧ Q (some (vI 0)) h) ∧
    (¬ ((iCmp p0 p1) < 0) →
    (0 < (iCmp p0 p2) →
      ((0 : Int) = 0 ∨ (0 : Int) = 1) ∧ Q (some (vI 0)) h) ∧
      (¬ (0 < (iCmp p0 p2)) →
      ((1 : Int) = 0 ∨ (1 : Int) = 1) ∧ Q (some (vI 1)) h))) : zK 141 0 [vL p0, vU, vL p1, vU, vL p2, vU] [] h Q :=
  zwpe_W (cd := c141) rfl [] 400 0 _ _ _ _ k
-- 142 SyntaxRulesModel.ruleAt(I)I
set_option maxRecDepth 100000 in
set_option maxHeartbeats 4000000 in
theorem k142_0 (p0 : Int) (h : zH) (Q : Option zV → zH → Prop) (k :
  (inR (301 * p0)) ∧ (inR (301 + (301 * p0))) ∧ Q (some (vI (301 + (301 * p0)))) h) : zK 142 0 [vI p0] [] h Q :=
  zwpe_W (cd := c142) rfl [] 400 0 _ _ _ _ k
-- 143 SyntaxRulesModel.isRule(I)Z
set_option maxRecDepth 100000 in
set_option maxHeartbeats 4000000 in
theorem k143_0 (p1 : Int) (h : zH) (Q : Option zV → zH → Prop) (k :
  zC1 141 [vL p1, vL 0, vL 7] h (fun v3 h3 =>
  (v3 = 0 →
    ((0 : Int) = 0 ∨ (0 : Int) = 1) ∧ Q (some (vI 0)) h3) ∧
    (¬ (v3 = 0) →
    zC1 142 [vI p1] h3 (fun v4 h4 =>
    (inR (v4 + 300)) ∧ (0 ≤ (v4 + 300 : Int)) ∧ ((v4 + 300 : Int) < 2709) ∧ ((gI h4 128 (v4 + 300)) ≤ 0 →
      ((0 : Int) = 0 ∨ (0 : Int) = 1) ∧ Q (some (vI 0)) h4) ∧
      (¬ ((gI h4 128 (v4 + 300)) ≤ 0) →
      ((1 : Int) = 0 ∨ (1 : Int) = 1) ∧ Q (some (vI 1)) h4))))) : zK 143 0 [vR 127 111, vI p1] [] h Q :=
  zwpe_W (cd := c143) rfl [] 400 0 _ _ _ _ k
-- 144 SyntaxRulesModel.isLetter(I)Z
set_option maxRecDepth 100000 in
set_option maxHeartbeats 4000000 in
theorem k144_0 (p0 : Int) (h : zH) (Q : Option zV → zH → Prop) (k :
  zC1 141 [vL p0, vL 97, vL 122] h (fun v2 h2 =>
  ((v2 : Int) = 0 ∨ (v2 : Int) = 1) ∧ Q (some (vI v2)) h2)) : zK 144 0 [vI p0] [] h Q :=
  zwpe_W (cd := c144) rfl [] 400 0 _ _ _ _ k
-- 145 SyntaxRulesModel.isDigit(I)Z
set_option maxRecDepth 100000 in
set_option maxHeartbeats 4000000 in
theorem k145_0 (p0 : Int) (h : zH) (Q : Option zV → zH → Prop) (k :
  zC1 141 [vL p0, vL 48, vL 57] h (fun v2 h2 =>
  ((v2 : Int) = 0 ∨ (v2 : Int) = 1) ∧ Q (some (vI v2)) h2)) : zK 145 0 [vI p0] [] h Q :=
  zwpe_W (cd := c145) rfl [] 400 0 _ _ _ _ k
-- 146 SyntaxRulesModel.sign(I)I
set_option maxRecDepth 100000 in
set_option maxHeartbeats 4000000 in
theorem k146_0 (p1 : Int) (h : zH) (Q : Option zV → zH → Prop) (k :
  ∀ h4 : zH, h4 = sI h 127 0 0 →
  (inR ((gI h4 127 7) + 4)) ∧ (((gI h4 127 7) + 4) ≤ 300 →
    zK 146 22 [vR 127 111, vI p1, vI 24] [] h4 Q) ∧
    (¬ (((gI h4 127 7) + 4) ≤ 300) →
    Q (some (vI ((-1)))) h4)) : zK 146 0 [vR 127 111, vI p1, vU] [] h Q :=
  zwpe_W (cd := c146) rfl [22] 400 0 _ _ _ _ k
set_option maxRecDepth 100000 in
set_option maxHeartbeats 4000000 in
theorem k146_22 (l1 : Int) (l2 : Int) (h : zH) (Q : Option zV → zH → Prop) (k :
  (l2 < 0 →
    Q (some (vI (gI h 127 7))) h) ∧
    (¬ (l2 < 0) →
    (0 ≤ (gI h 127 7 : Int)) ∧ ((gI h 127 7 : Int) < 300) ∧ (-128 ≤ (iByte (iUshr l1 l2) : Int) ∧ (iByte (iUshr l1 l2) : Int) ≤ 127) ∧ ∀ h5 : zH, h5 = sI h 132 (gI h 127 7) (iByte (iUshr l1 l2)) →
    (inR ((gI h5 127 7) + 1)) ∧ ∀ h6 : zH, h6 = sI h5 127 7 ((gI h5 127 7) + 1) →
    (inR (l2 + (-8))) ∧ zK 146 22 [vR 127 111, vI l1, vI (l2 + (-8))] [] h6 Q)) : zK 146 22 [vR 127 111, vI l1, vI l2] [] h Q :=
  zwpe_W (cd := c146) rfl [22] 400 22 _ _ _ _ k
-- 147 SyntaxRulesModel.end(I)Z
set_option maxRecDepth 100000 in
set_option maxHeartbeats 4000000 in
theorem k147_0 (p1 : Int) (h : zH) (Q : Option zV → zH → Prop) (k :
  ∀ h4 : zH, h4 = sI h 127 0 0 →
  zC1 141 [vL p1, vL 0, vL (gI h4 127 7)] h4 (fun v5 h5 =>
  (¬ v5 = 0 →
    ∀ h6 : zH, h6 = sI h5 127 7 p1 →
    ((1 : Int) = 0 ∨ (1 : Int) = 1) ∧ Q (some (vI 1)) h6) ∧
    (¬ (¬ v5 = 0) →
    ((0 : Int) = 0 ∨ (0 : Int) = 1) ∧ Q (some (vI 0)) h5))) : zK 147 0 [vR 127 111, vI p1] [] h Q :=
  zwpe_W (cd := c147) rfl [] 400 0 _ _ _ _ k
-- 148 SyntaxRulesModel.wrong()V
set_option maxRecDepth 100000 in
set_option maxHeartbeats 4000000 in
theorem k148_0 (h : zH) (Q : Option zV → zH → Prop) (k :
  ((gI h 127 18) = 0 →
    ∀ h5 : zH, h5 = sI h 127 17 (gI h 127 17) →
    ((0 : Int) = 0 ∨ (0 : Int) = 1) ∧ ∀ h6 : zH, h6 = sI h5 127 18 0 →
    Q none h6) ∧
    (¬ ((gI h 127 18) = 0) →
    ∀ h7 : zH, h7 = sI h 127 17 (gI h 127 16) →
    ((0 : Int) = 0 ∨ (0 : Int) = 1) ∧ ∀ h8 : zH, h8 = sI h7 127 18 0 →
    Q none h8)) : zK 148 0 [vR 127 111] [] h Q :=
  zwpe_W (cd := c148) rfl [] 400 0 _ _ _ _ k
-- 149 SyntaxRulesModel.here()I
set_option maxRecDepth 100000 in
set_option maxHeartbeats 4000000 in
theorem k149_0 (h : zH) (Q : Option zV → zH → Prop) (k :
  ((gI h 127 9) ≤ (gI h 127 16) →
    Q (some (vI ((-1)))) h) ∧
    (¬ ((gI h 127 9) ≤ (gI h 127 16)) →
    (0 ≤ (gI h 127 16 : Int)) ∧ ((gI h 127 16 : Int) < 302) ∧ Q (some (vI (gI h 133 (gI h 127 16)))) h)) : zK 149 0 [vR 127 111] [] h Q :=
  zwpe_W (cd := c149) rfl [] 400 0 _ _ _ _ k
-- 150 SyntaxRulesModel.readNote()V
set_option maxRecDepth 100000 in
set_option maxHeartbeats 4000000 in
theorem k150_0 (h : zH) (Q : Option zV → zH → Prop) (k :
  (inR ((gI h 127 16) + 1)) ∧ ∀ h16 : zH, h16 = sI h 127 16 ((gI h 127 16) + 1) →
  zK 150 15 [vR 127 111, vI (gI h 127 16), vU] [] h16 Q) : zK 150 0 [vR 127 111, vU, vU] [] h Q :=
  zwpe_W (cd := c150) rfl [15, 77, 94] 400 0 _ _ _ _ k
set_option maxRecDepth 100000 in
set_option maxHeartbeats 4000000 in
theorem k150_15 (l1 : Int) (u2 : zV) (h : zH) (Q : Option zV → zH → Prop) (k :
  ((gI h 127 18) = 0 →
    zK 150 77 [vR 127 111, vI l1, u2] [] h Q) ∧
    (¬ ((gI h 127 18) = 0) →
    zC1 149 [vR 127 111] h (fun v17 h17 =>
    (v17 = 93 →
      zK 150 77 [vR 127 111, vI l1, u2] [] h17 Q) ∧
      (¬ (v17 = 93) →
      zC1 149 [vR 127 111] h17 (fun v18 h18 =>
      (v18 = 10 →
        (inR ((gI h18 127 16) + 1)) ∧ ∀ h19 : zH, h19 = sI h18 127 16 ((gI h18 127 16) + 1) →
        zK 150 15 [vR 127 111, vI l1, u2] [] h19 Q) ∧
        (¬ (v18 = 10) →
        zC1 149 [vR 127 111] h18 (fun v20 h20 =>
        zC1 141 [vL v20, vL 32, vL 126] h20 (fun v21 h21 =>
        (v21 = 0 →
          zC0 148 [vR 127 111] h21 (fun h22 =>
          zK 150 15 [vR 127 111, vI l1, u2] [] h22 Q)) ∧
          (¬ (v21 = 0) →
          (inR ((gI h21 127 16) + 1)) ∧ ∀ h23 : zH, h23 = sI h21 127 16 ((gI h21 127 16) + 1) →
          zK 150 15 [vR 127 111, vI l1, u2] [] h23 Q))))))))) : zK 150 15 [vR 127 111, vI l1, u2] [] h Q :=
  zwpe_W (cd := c150) rfl [15, 77, 94] 400 15 _ _ _ _ k
set_option maxRecDepth 100000 in
set_option maxHeartbeats 4000000 in
theorem k150_77 (l1 : Int) (u2 : zV) (h : zH) (Q : Option zV → zH → Prop) (k :
  ((gI h 127 18) = 0 →
    zK 150 94 [vR 127 111, vI l1, u2] [vI 0, vI (gI h 127 16), vR 127 111] h Q) ∧
    (¬ ((gI h 127 18) = 0) →
    zK 150 94 [vR 127 111, vI l1, u2] [vI 1, vI (gI h 127 16), vR 127 111] h Q)) : zK 150 77 [vR 127 111, vI l1, u2] [] h Q :=
  zwpe_W (cd := c150) rfl [15, 77, 94] 400 77 _ _ _ _ k
set_option maxRecDepth 100000 in
set_option maxHeartbeats 4000000 in
theorem k150_94 (l1 : Int) (u2 : zV) (s0 : Int) (s1 : Int) (h : zH) (Q : Option zV → zH → Prop) (k :
  (inR (s1 + s0)) ∧ ∀ h24 : zH, h24 = sI h 127 16 (s1 + s0) →
  ((gI h24 127 18) = 0 →
    Q none h24) ∧
    (¬ ((gI h24 127 18) = 0) →
    (inR (3 * (gI h24 127 13))) ∧ (0 ≤ (3 * (gI h24 127 13) : Int)) ∧ ((3 * (gI h24 127 13) : Int) < 450) ∧ ∀ h25 : zH, h25 = sI h24 135 (3 * (gI h24 127 13)) l1 →
    (inR ((3 * (gI h24 127 13)) + 1)) ∧ (inR ((gI h25 127 16) - l1)) ∧ (0 ≤ ((3 * (gI h24 127 13)) + 1 : Int)) ∧ (((3 * (gI h24 127 13)) + 1 : Int) < 450) ∧ ∀ h26 : zH, h26 = sI h25 135 ((3 * (gI h24 127 13)) + 1) ((gI h25 127 16) - l1) →
    (inR ((3 * (gI h24 127 13)) + 2)) ∧ (¬ (gI h26 127 15) = 0 →
      (inR ((gI h26 127 15) - 1)) ∧ (0 ≤ ((gI h26 127 15) - 1 : Int)) ∧ (((gI h26 127 15) - 1 : Int) < 16) ∧ (0 ≤ ((3 * (gI h24 127 13)) + 2 : Int)) ∧ (((3 * (gI h24 127 13)) + 2 : Int) < 450) ∧ ∀ h27 : zH, h27 = sI h26 135 ((3 * (gI h24 127 13)) + 2) (gI h26 136 ((gI h26 127 15) - 1)) →
      (inR ((gI h27 127 13) + 1)) ∧ ∀ h28 : zH, h28 = sI h27 127 13 ((gI h27 127 13) + 1) →
      Q none h28) ∧
      (¬ (¬ (gI h26 127 15) = 0) →
      (0 ≤ ((3 * (gI h24 127 13)) + 2 : Int)) ∧ (((3 * (gI h24 127 13)) + 2 : Int) < 450) ∧ ∀ h29 : zH, h29 = sI h26 135 ((3 * (gI h24 127 13)) + 2) (-1) →
      (inR ((gI h29 127 13) + 1)) ∧ ∀ h30 : zH, h30 = sI h29 127 13 ((gI h29 127 13) + 1) →
      Q none h30))) : zK 150 94 [vR 127 111, vI l1, u2] [vI s0, vI s1, vR 127 111] h Q :=
  zwpe_W (cd := c150) rfl [15, 77, 94] 400 94 _ _ _ _ k
-- 151 SyntaxRulesModel.skipLayout()V
set_option maxRecDepth 100000 in
set_option maxHeartbeats 4000000 in
theorem k151_0 (h : zH) (Q : Option zV → zH → Prop) (k :
  ((gI h 127 18) = 0 →
    Q none h) ∧
    (¬ ((gI h 127 18) = 0) →
    zC1 149 [vR 127 111] h (fun v7 h7 =>
    (v7 = 32 →
      zK 151 34 [vR 127 111] [] h7 Q) ∧
      (¬ (v7 = 32) →
      zC1 149 [vR 127 111] h7 (fun v8 h8 =>
      (v8 = 10 →
        zK 151 34 [vR 127 111] [] h8 Q) ∧
        (¬ (v8 = 10) →
        zC1 149 [vR 127 111] h8 (fun v9 h9 =>
        (¬ v9 = 91 →
          Q none h9) ∧
          (¬ (¬ v9 = 91) →
          zK 151 34 [vR 127 111] [] h9 Q)))))))) : zK 151 0 [vR 127 111] [] h Q :=
  zwpe_W (cd := c151) rfl [0, 34] 400 0 _ _ _ _ k
set_option maxRecDepth 100000 in
set_option maxHeartbeats 4000000 in
theorem k151_34 (h : zH) (Q : Option zV → zH → Prop) (k :
  zC1 149 [vR 127 111] h (fun v10 h10 =>
  (¬ v10 = 91 →
    (inR ((gI h10 127 16) + 1)) ∧ ∀ h11 : zH, h11 = sI h10 127 16 ((gI h10 127 16) + 1) →
    zK 151 0 [vR 127 111] [] h11 Q) ∧
    (¬ (¬ v10 = 91) →
    zC0 150 [vR 127 111] h10 (fun h12 =>
    zK 151 0 [vR 127 111] [] h12 Q)))) : zK 151 34 [vR 127 111] [] h Q :=
  zwpe_W (cd := c151) rfl [0, 34] 400 34 _ _ _ _ k
-- 152 SyntaxRulesModel.readRow(ZI)I
set_option maxRecDepth 100000 in
set_option maxHeartbeats 4000000 in
theorem k152_0 (p1 : Int) (p2 : Int) (h : zH) (Q : Option zV → zH → Prop) (k :
  zK 152 5 [vR 127 111, vI p1, vI p2, vI (gI h 127 16)] [] h Q) : zK 152 0 [vR 127 111, vI p1, vI p2, vU] [] h Q :=
  zwpe_W (cd := c152) rfl [5, 39] 400 0 _ _ _ _ k
set_option maxRecDepth 100000 in
set_option maxHeartbeats 4000000 in
theorem k152_5 (l1 : Int) (l2 : Int) (l3 : Int) (h : zH) (Q : Option zV → zH → Prop) (k :
  ((gI h 127 18) = 0 →
    (inR ((gI h 127 16) - l3)) ∧ Q (some (vI ((gI h 127 16) - l3))) h) ∧
    (¬ ((gI h 127 18) = 0) →
    (l1 = 0 →
      zC1 149 [vR 127 111] h (fun v7 h7 =>
      zC1 145 [vI v7] h7 (fun v8 h8 =>
      (v8 = 0 →
        (inR ((gI h8 127 16) - l3)) ∧ Q (some (vI ((gI h8 127 16) - l3))) h8) ∧
        (¬ (v8 = 0) →
        zK 152 39 [vR 127 111, vI l1, vI l2, vI l3] [] h8 Q)))) ∧
      (¬ (l1 = 0) →
      zC1 149 [vR 127 111] h (fun v9 h9 =>
      zC1 144 [vI v9] h9 (fun v10 h10 =>
      (v10 = 0 →
        (inR ((gI h10 127 16) - l3)) ∧ Q (some (vI ((gI h10 127 16) - l3))) h10) ∧
        (¬ (v10 = 0) →
        zK 152 39 [vR 127 111, vI l1, vI l2, vI l3] [] h10 Q)))))) : zK 152 5 [vR 127 111, vI l1, vI l2, vI l3] [] h Q :=
  zwpe_W (cd := c152) rfl [5, 39] 400 5 _ _ _ _ k
set_option maxRecDepth 100000 in
set_option maxHeartbeats 4000000 in
theorem k152_39 (l1 : Int) (l2 : Int) (l3 : Int) (h : zH) (Q : Option zV → zH → Prop) (k :
  (inR ((gI h 127 16) - l3)) ∧ (¬ ((gI h 127 16) - l3) = l2 →
    (inR ((gI h 127 16) + 1)) ∧ ∀ h11 : zH, h11 = sI h 127 16 ((gI h 127 16) + 1) →
    zK 152 5 [vR 127 111, vI l1, vI l2, vI l3] [] h11 Q) ∧
    (¬ (¬ ((gI h 127 16) - l3) = l2) →
    zC0 148 [vR 127 111] h (fun h12 =>
    zK 152 5 [vR 127 111, vI l1, vI l2, vI l3] [] h12 Q))) : zK 152 39 [vR 127 111, vI l1, vI l2, vI l3] [] h Q :=
  zwpe_W (cd := c152) rfl [5, 39] 400 39 _ _ _ _ k
-- 153 SyntaxRulesModel.readNode()V
set_option maxRecDepth 100000 in
set_option maxHeartbeats 4000000 in
theorem k153_0 (h : zH) (Q : Option zV → zH → Prop) (k :
  zC1 149 [vR 127 111] h (fun v32 h32 =>
  zC1 144 [vI v32] h32 (fun v33 h33 =>
  (¬ v33 = 0 →
    zK 153 25 [vR 127 111, vI v32, vU, vU, vU] [] h33 Q) ∧
    (¬ (¬ v33 = 0) →
    zC1 145 [vI v32] h33 (fun v34 h34 =>
    (¬ v34 = 0 →
      zK 153 25 [vR 127 111, vI v32, vU, vU, vU] [] h34 Q) ∧
      (¬ (¬ v34 = 0) →
      (¬ v32 = 40 →
        zK 153 30 [vR 127 111, vI v32, vU, vU, vU] [vI 0] h34 Q) ∧
        (¬ (¬ v32 = 40) →
        zK 153 25 [vR 127 111, vI v32, vU, vU, vU] [] h34 Q))))))) : zK 153 0 [vR 127 111, vU, vU, vU, vU] [] h Q :=
  zwpe_W (cd := c153) rfl [25, 30, 77, 97, 127, 159, 199, 266, 342, 376, 389] 400 0 _ _ _ _ k
set_option maxRecDepth 100000 in
set_option maxHeartbeats 4000000 in
theorem k153_25 (l1 : Int) (u2 : zV) (u3 : zV) (u4 : zV) (h : zH) (Q : Option zV → zH → Prop) (k :
  zK 153 30 [vR 127 111, vI l1, u2, u3, u4] [vI 1] h Q) : zK 153 25 [vR 127 111, vI l1, u2, u3, u4] [] h Q :=
  zwpe_W (cd := c153) rfl [25, 30, 77, 97, 127, 159, 199, 266, 342, 376, 389] 400 25 _ _ _ _ k
set_option maxRecDepth 100000 in
set_option maxHeartbeats 4000000 in
theorem k153_30 (l1 : Int) (u2 : zV) (u3 : zV) (u4 : zV) (s0 : Int) (h : zH) (Q : Option zV → zH → Prop) (k :
  (s0 = 0 →
    zC0 148 [vR 127 111] h (fun h35 =>
    Q none h35)) ∧
    (¬ (s0 = 0) →
    ((gI h 127 11) = 60 →
      zC0 148 [vR 127 111] h (fun h36 =>
      Q none h36)) ∧
      (¬ ((gI h 127 11) = 60) →
      ((gI h 127 15) ≤ 0 →
        zK 153 77 [vR 127 111, vI l1, vI s0, u3, u4] [] h Q) ∧
        (¬ ((gI h 127 15) ≤ 0) →
        (inR ((gI h 127 15) - 1)) ∧ (0 ≤ ((gI h 127 15) - 1 : Int)) ∧ (((gI h 127 15) - 1 : Int) < 16) ∧ (inR (10 * (gI h 136 ((gI h 127 15) - 1)))) ∧ (inR ((10 * (gI h 136 ((gI h 127 15) - 1))) + 3)) ∧ (0 ≤ ((10 * (gI h 136 ((gI h 127 15) - 1))) + 3 : Int)) ∧ (((10 * (gI h 136 ((gI h 127 15) - 1))) + 3 : Int) < 600) ∧ ((gI h 134 ((10 * (gI h 136 ((gI h 127 15) - 1))) + 3)) = 12 →
          zC0 148 [vR 127 111] h (fun h37 =>
          Q none h37)) ∧
          (¬ ((gI h 134 ((10 * (gI h 136 ((gI h 127 15) - 1))) + 3)) = 12) →
          zK 153 77 [vR 127 111, vI l1, vI s0, u3, u4] [] h Q))))) : zK 153 30 [vR 127 111, vI l1, u2, u3, u4] [vI s0] h Q :=
  zwpe_W (cd := c153) rfl [25, 30, 77, 97, 127, 159, 199, 266, 342, 376, 389] 400 30 _ _ _ _ k
set_option maxRecDepth 100000 in
set_option maxHeartbeats 4000000 in
theorem k153_77 (l1 : Int) (u2 : zV) (u3 : zV) (u4 : zV) (h : zH) (Q : Option zV → zH → Prop) (k :
  (¬ l1 = 40 →
    zK 153 97 [vR 127 111, vI l1, u2, u3, u4] [] h Q) ∧
    (¬ (¬ l1 = 40) →
    (¬ (gI h 127 15) = 16 →
      zK 153 97 [vR 127 111, vI l1, u2, u3, u4] [] h Q) ∧
      (¬ (¬ (gI h 127 15) = 16) →
      zC0 148 [vR 127 111] h (fun h38 =>
      Q none h38)))) : zK 153 77 [vR 127 111, vI l1, u2, u3, u4] [] h Q :=
  zwpe_W (cd := c153) rfl [25, 30, 77, 97, 127, 159, 199, 266, 342, 376, 389] 400 77 _ _ _ _ k
set_option maxRecDepth 100000 in
set_option maxHeartbeats 4000000 in
theorem k153_97 (l1 : Int) (u2 : zV) (u3 : zV) (u4 : zV) (h : zH) (Q : Option zV → zH → Prop) (k :
  (inR (10 * (gI h 127 11))) ∧ (¬ (gI h 127 15) = 0 →
    (inR ((gI h 127 15) - 1)) ∧ (0 ≤ ((gI h 127 15) - 1 : Int)) ∧ (((gI h 127 15) - 1 : Int) < 16) ∧ zK 153 127 [vR 127 111, vI l1, u2, vI (10 * (gI h 127 11)), u4] [vI (gI h 136 ((gI h 127 15) - 1))] h Q) ∧
    (¬ (¬ (gI h 127 15) = 0) →
    zK 153 127 [vR 127 111, vI l1, u2, vI (10 * (gI h 127 11)), u4] [vI ((-1))] h Q)) : zK 153 97 [vR 127 111, vI l1, u2, u3, u4] [] h Q :=
  zwpe_W (cd := c153) rfl [25, 30, 77, 97, 127, 159, 199, 266, 342, 376, 389] 400 97 _ _ _ _ k
set_option maxRecDepth 100000 in
set_option maxHeartbeats 4000000 in
theorem k153_127 (l1 : Int) (u2 : zV) (l3 : Int) (u4 : zV) (s0 : Int) (h : zH) (Q : Option zV → zH → Prop) (k :
  (inR (l3 + 0)) ∧ zC1 145 [vI l1] h (fun v39 h39 =>
  (v39 = 0 →
    zC1 144 [vI l1] h39 (fun v40 h40 =>
    (v40 = 0 →
      zK 153 159 [vR 127 111, vI l1, u2, vI l3, vI s0] [vI 2, vI (l3 + 0), vR 134 60140] h40 Q) ∧
      (¬ (v40 = 0) →
      zK 153 159 [vR 127 111, vI l1, u2, vI l3, vI s0] [vI 1, vI (l3 + 0), vR 134 60140] h40 Q))) ∧
    (¬ (v39 = 0) →
    zK 153 159 [vR 127 111, vI l1, u2, vI l3, vI s0] [vI 0, vI (l3 + 0), vR 134 60140] h39 Q))) : zK 153 127 [vR 127 111, vI l1, u2, vI l3, u4] [vI s0] h Q :=
  zwpe_W (cd := c153) rfl [25, 30, 77, 97, 127, 159, 199, 266, 342, 376, 389] 400 127 _ _ _ _ k
set_option maxRecDepth 100000 in
set_option maxHeartbeats 4000000 in
theorem k153_159 (l1 : Int) (u2 : zV) (l3 : Int) (l4 : Int) (s0 : Int) (s1 : Int) (h : zH) (Q : Option zV → zH → Prop) (k :
  (0 ≤ (s1 : Int)) ∧ ((s1 : Int) < 600) ∧ ∀ h41 : zH, h41 = sI h 134 s1 s0 →
  (inR (l3 + 1)) ∧ (0 ≤ (l3 + 1 : Int)) ∧ ((l3 + 1 : Int) < 600) ∧ ∀ h42 : zH, h42 = sI h41 134 (l3 + 1) l4 →
  (inR (l3 + 2)) ∧ (¬ l4 = (-1) →
    (inR (10 * l4)) ∧ (inR ((10 * l4) + 3)) ∧ (0 ≤ ((10 * l4) + 3 : Int)) ∧ (((10 * l4) + 3 : Int) < 600) ∧ zK 153 199 [vR 127 111, vI l1, u2, vI l3, vI l4] [vI (gI h42 134 ((10 * l4) + 3)), vI (l3 + 2), vR 134 60140] h42 Q) ∧
    (¬ (¬ l4 = (-1)) →
    zK 153 199 [vR 127 111, vI l1, u2, vI l3, vI l4] [vI ((-1)), vI (l3 + 2), vR 134 60140] h42 Q)) : zK 153 159 [vR 127 111, vI l1, u2, vI l3, vI l4] [vI s0, vI s1, vR 134 60140] h Q :=
  zwpe_W (cd := c153) rfl [25, 30, 77, 97, 127, 159, 199, 266, 342, 376, 389] 400 159 _ _ _ _ k
set_option maxRecDepth 100000 in
set_option maxHeartbeats 4000000 in
theorem k153_199 (l1 : Int) (u2 : zV) (l3 : Int) (l4 : Int) (s0 : Int) (s1 : Int) (h : zH) (Q : Option zV → zH → Prop) (k :
  (0 ≤ (s1 : Int)) ∧ ((s1 : Int) < 600) ∧ ∀ h43 : zH, h43 = sI h 134 s1 s0 →
  (inR (l3 + 3)) ∧ (0 ≤ (l3 + 3 : Int)) ∧ ((l3 + 3 : Int) < 600) ∧ ∀ h44 : zH, h44 = sI h43 134 (l3 + 3) 0 →
  (inR (l3 + 4)) ∧ (0 ≤ (l3 + 4 : Int)) ∧ ((l3 + 4 : Int) < 600) ∧ ∀ h45 : zH, h45 = sI h44 134 (l3 + 4) (gI h44 127 16) →
  (inR (l3 + 6)) ∧ (0 ≤ (l3 + 6 : Int)) ∧ ((l3 + 6 : Int) < 600) ∧ ∀ h46 : zH, h46 = sI h45 134 (l3 + 6) 1 →
  (inR (l3 + 7)) ∧ (0 ≤ (l3 + 7 : Int)) ∧ ((l3 + 7 : Int) < 600) ∧ ∀ h47 : zH, h47 = sI h46 134 (l3 + 7) (gI h46 127 15) →
  (l4 = (-1) →
    zK 153 266 [vR 127 111, vI l1, u2, vI l3, vI l4] [] h47 Q) ∧
    (¬ (l4 = (-1)) →
    (inR (10 * l4)) ∧ (inR ((10 * l4) + 3)) ∧ (0 ≤ ((10 * l4) + 3 : Int)) ∧ (((10 * l4) + 3 : Int) < 600) ∧ (inR ((gI h47 134 ((10 * l4) + 3)) + 1)) ∧ (0 ≤ ((10 * l4) + 3 : Int)) ∧ (((10 * l4) + 3 : Int) < 600) ∧ ∀ h48 : zH, h48 = sI h47 134 ((10 * l4) + 3) ((gI h47 134 ((10 * l4) + 3)) + 1) →
    zK 153 266 [vR 127 111, vI l1, u2, vI l3, vI l4] [] h48 Q)) : zK 153 199 [vR 127 111, vI l1, u2, vI l3, vI l4] [vI s0, vI s1, vR 134 60140] h Q :=
  zwpe_W (cd := c153) rfl [25, 30, 77, 97, 127, 159, 199, 266, 342, 376, 389] 400 199 _ _ _ _ k
set_option maxRecDepth 100000 in
set_option maxHeartbeats 4000000 in
theorem k153_266 (l1 : Int) (u2 : zV) (l3 : Int) (u4 : zV) (h : zH) (Q : Option zV → zH → Prop) (k :
  (inR ((gI h 127 11) + 1)) ∧ ∀ h49 : zH, h49 = sI h 127 11 ((gI h 127 11) + 1) →
  (¬ l1 = 40 →
    zK 153 342 [vR 127 111, vI l1, u2, vI l3, u4] [] h49 Q) ∧
    (¬ (¬ l1 = 40) →
    (inR ((gI h49 127 11) - 1)) ∧ (0 ≤ (gI h49 127 15 : Int)) ∧ ((gI h49 127 15 : Int) < 16) ∧ ∀ h50 : zH, h50 = sI h49 136 (gI h49 127 15) ((gI h49 127 11) - 1) →
    (inR ((gI h50 127 15) + 1)) ∧ ∀ h51 : zH, h51 = sI h50 127 15 ((gI h50 127 15) + 1) →
    (inR ((gI h51 127 16) + 1)) ∧ ∀ h52 : zH, h52 = sI h51 127 16 ((gI h51 127 16) + 1) →
    zC0 151 [vR 127 111] h52 (fun h53 =>
    ((gI h53 127 18) = 0 →
      zK 153 342 [vR 127 111, vI l1, u2, vI l3, u4] [] h53 Q) ∧
      (¬ ((gI h53 127 18) = 0) →
      zC1 149 [vR 127 111] h53 (fun v54 h54 =>
      zC1 144 [vI v54] h54 (fun v55 h55 =>
      (¬ v55 = 0 →
        zK 153 342 [vR 127 111, vI l1, u2, vI l3, u4] [] h55 Q) ∧
        (¬ (¬ v55 = 0) →
        zC0 148 [vR 127 111] h55 (fun h56 =>
        zK 153 342 [vR 127 111, vI l1, u2, vI l3, u4] [] h56 Q)))))))) : zK 153 266 [vR 127 111, vI l1, u2, vI l3, u4] [] h Q :=
  zwpe_W (cd := c153) rfl [25, 30, 77, 97, 127, 159, 199, 266, 342, 376, 389] 400 266 _ _ _ _ k
set_option maxRecDepth 100000 in
set_option maxHeartbeats 4000000 in
theorem k153_342 (l1 : Int) (u2 : zV) (l3 : Int) (u4 : zV) (h : zH) (Q : Option zV → zH → Prop) (k :
  (inR (l3 + 8)) ∧ (0 ≤ (l3 + 8 : Int)) ∧ ((l3 + 8 : Int) < 600) ∧ ∀ h57 : zH, h57 = sI h 134 (l3 + 8) (gI h 127 16) →
  (inR (l3 + 9)) ∧ zC1 145 [vI l1] h57 (fun v58 h58 =>
  (¬ v58 = 0 →
    zK 153 376 [vR 127 111, vI l1, u2, vI l3, u4] [vI 0, vR 127 111, vI (l3 + 9), vR 134 60140] h58 Q) ∧
    (¬ (¬ v58 = 0) →
    zK 153 376 [vR 127 111, vI l1, u2, vI l3, u4] [vI 1, vR 127 111, vI (l3 + 9), vR 134 60140] h58 Q))) : zK 153 342 [vR 127 111, vI l1, u2, vI l3, u4] [] h Q :=
  zwpe_W (cd := c153) rfl [25, 30, 77, 97, 127, 159, 199, 266, 342, 376, 389] 400 342 _ _ _ _ k
set_option maxRecDepth 100000 in
set_option maxHeartbeats 4000000 in
theorem k153_376 (l1 : Int) (u2 : zV) (l3 : Int) (u4 : zV) (s0 : Int) (s2 : Int) (h : zH) (Q : Option zV → zH → Prop) (k :
  zC1 145 [vI l1] h (fun v59 h59 =>
  (v59 = 0 →
    zK 153 389 [vR 127 111, vI l1, u2, vI l3, u4] [vI 8, vI s0, vR 127 111, vI s2, vR 134 60140] h59 Q) ∧
    (¬ (v59 = 0) →
    zK 153 389 [vR 127 111, vI l1, u2, vI l3, u4] [vI 4, vI s0, vR 127 111, vI s2, vR 134 60140] h59 Q))) : zK 153 376 [vR 127 111, vI l1, u2, vI l3, u4] [vI s0, vR 127 111, vI s2, vR 134 60140] h Q :=
  zwpe_W (cd := c153) rfl [25, 30, 77, 97, 127, 159, 199, 266, 342, 376, 389] 400 376 _ _ _ _ k
set_option maxRecDepth 100000 in
set_option maxHeartbeats 4000000 in
theorem k153_389 (u1 : zV) (u2 : zV) (l3 : Int) (u4 : zV) (s0 : Int) (s1 : Int) (s3 : Int) (h : zH) (Q : Option zV → zH → Prop) (k :
  zC1 152 [vR 127 111, vI s1, vI s0] h (fun v60 h60 =>
  (0 ≤ (s3 : Int)) ∧ ((s3 : Int) < 600) ∧ ∀ h61 : zH, h61 = sI h60 134 s3 v60 →
  (inR (l3 + 5)) ∧ (0 ≤ (l3 + 5 : Int)) ∧ ((l3 + 5 : Int) < 600) ∧ ∀ h62 : zH, h62 = sI h61 134 (l3 + 5) (gI h61 127 16) →
  Q none h62)) : zK 153 389 [vR 127 111, u1, u2, vI l3, u4] [vI s0, vI s1, vR 127 111, vI s3, vR 134 60140] h Q :=
  zwpe_W (cd := c153) rfl [25, 30, 77, 97, 127, 159, 199, 266, 342, 376, 389] 400 389 _ _ _ _ k
-- 154 SyntaxRulesModel.close()V
set_option maxRecDepth 100000 in
set_option maxHeartbeats 4000000 in
theorem k154_0 (h : zH) (Q : Option zV → zH → Prop) (k :
  (inR ((gI h 127 15) - 1)) ∧ ∀ h5 : zH, h5 = sI h 127 15 ((gI h 127 15) - 1) →
  (0 ≤ (gI h5 127 15 : Int)) ∧ ((gI h5 127 15 : Int) < 16) ∧ (inR (10 * (gI h5 136 (gI h5 127 15)))) ∧ (inR ((gI h5 127 16) + 1)) ∧ ∀ h6 : zH, h6 = sI h5 127 16 ((gI h5 127 16) + 1) →
  (inR ((10 * (gI h5 136 (gI h5 127 15))) + 5)) ∧ (0 ≤ ((10 * (gI h5 136 (gI h5 127 15))) + 5 : Int)) ∧ (((10 * (gI h5 136 (gI h5 127 15))) + 5 : Int) < 600) ∧ ∀ h7 : zH, h7 = sI h6 134 ((10 * (gI h5 136 (gI h5 127 15))) + 5) (gI h6 127 16) →
  (inR ((10 * (gI h5 136 (gI h5 127 15))) + 6)) ∧ (0 ≤ (gI h7 127 15 : Int)) ∧ ((gI h7 127 15 : Int) < 16) ∧ (inR ((gI h7 127 11) - (gI h7 136 (gI h7 127 15)))) ∧ (0 ≤ ((10 * (gI h5 136 (gI h5 127 15))) + 6 : Int)) ∧ (((10 * (gI h5 136 (gI h5 127 15))) + 6 : Int) < 600) ∧ ∀ h8 : zH, h8 = sI h7 134 ((10 * (gI h5 136 (gI h5 127 15))) + 6) ((gI h7 127 11) - (gI h7 136 (gI h7 127 15))) →
  Q none h8) : zK 154 0 [vR 127 111, vU] [] h Q :=
  zwpe_W (cd := c154) rfl [] 400 0 _ _ _ _ k
-- 155 SyntaxRulesModel.parses()Z
set_option maxRecDepth 100000 in
set_option maxHeartbeats 4000000 in
theorem k155_0 (h : zH) (Q : Option zV → zH → Prop) (k :
  ∀ h18 : zH, h18 = sI h 127 16 0 →
  ((1 : Int) = 0 ∨ (1 : Int) = 1) ∧ ∀ h19 : zH, h19 = sI h18 127 18 1 →
  ∀ h20 : zH, h20 = sI h19 127 11 0 →
  ∀ h21 : zH, h21 = sI h20 127 13 0 →
  ∀ h22 : zH, h22 = sI h21 127 15 0 →
  zC0 151 [vR 127 111] h22 (fun h23 =>
  zK 155 29 [vR 127 111] [] h23 Q)) : zK 155 0 [vR 127 111] [] h Q :=
  zwpe_W (cd := c155) rfl [29, 70, 102] 400 0 _ _ _ _ k
set_option maxRecDepth 100000 in
set_option maxHeartbeats 4000000 in
theorem k155_29 (h : zH) (Q : Option zV → zH → Prop) (k :
  ((gI h 127 18) = 0 →
    zK 155 102 [vR 127 111] [] h Q) ∧
    (¬ ((gI h 127 18) = 0) →
    ((gI h 127 9) ≤ (gI h 127 16) →
      zK 155 102 [vR 127 111] [] h Q) ∧
      (¬ ((gI h 127 9) ≤ (gI h 127 16)) →
      ((gI h 127 15) ≤ 0 →
        zK 155 70 [vR 127 111] [] h Q) ∧
        (¬ ((gI h 127 15) ≤ 0) →
        zC1 149 [vR 127 111] h (fun v24 h24 =>
        (¬ v24 = 41 →
          zK 155 70 [vR 127 111] [] h24 Q) ∧
          (¬ (¬ v24 = 41) →
          zC0 154 [vR 127 111] h24 (fun h25 =>
          zC0 151 [vR 127 111] h25 (fun h26 =>
          zK 155 29 [vR 127 111] [] h26 Q)))))))) : zK 155 29 [vR 127 111] [] h Q :=
  zwpe_W (cd := c155) rfl [29, 70, 102] 400 29 _ _ _ _ k
set_option maxRecDepth 100000 in
set_option maxHeartbeats 4000000 in
theorem k155_70 (h : zH) (Q : Option zV → zH → Prop) (k :
  (¬ (gI h 127 15) = 0 →
    zC0 153 [vR 127 111] h (fun h27 =>
    zC0 151 [vR 127 111] h27 (fun h28 =>
    zK 155 29 [vR 127 111] [] h28 Q))) ∧
    (¬ (¬ (gI h 127 15) = 0) →
    ((gI h 127 11) ≤ 0 →
      zC0 153 [vR 127 111] h (fun h29 =>
      zC0 151 [vR 127 111] h29 (fun h30 =>
      zK 155 29 [vR 127 111] [] h30 Q))) ∧
      (¬ ((gI h 127 11) ≤ 0) →
      zC0 148 [vR 127 111] h (fun h31 =>
      zC0 151 [vR 127 111] h31 (fun h32 =>
      zK 155 29 [vR 127 111] [] h32 Q))))) : zK 155 70 [vR 127 111] [] h Q :=
  zwpe_W (cd := c155) rfl [29, 70, 102] 400 70 _ _ _ _ k
set_option maxRecDepth 100000 in
set_option maxHeartbeats 4000000 in
theorem k155_102 (h : zH) (Q : Option zV → zH → Prop) (k :
  ((gI h 127 18) = 0 →
    ((gI h 127 18 : Int) = 0 ∨ (gI h 127 18 : Int) = 1) ∧ Q (some (vI (gI h 127 18))) h) ∧
    (¬ ((gI h 127 18) = 0) →
    (0 < (gI h 127 15) →
      zC0 148 [vR 127 111] h (fun h33 =>
      ((gI h33 127 18 : Int) = 0 ∨ (gI h33 127 18 : Int) = 1) ∧ Q (some (vI (gI h33 127 18))) h33)) ∧
      (¬ (0 < (gI h 127 15)) →
      (¬ (gI h 127 11) = 0 →
        ((gI h 127 18 : Int) = 0 ∨ (gI h 127 18 : Int) = 1) ∧ Q (some (vI (gI h 127 18))) h) ∧
        (¬ (¬ (gI h 127 11) = 0) →
        zC0 148 [vR 127 111] h (fun h34 =>
        ((gI h34 127 18 : Int) = 0 ∨ (gI h34 127 18 : Int) = 1) ∧ Q (some (vI (gI h34 127 18))) h34))))) : zK 155 102 [vR 127 111] [] h Q :=
  zwpe_W (cd := c155) rfl [29, 70, 102] 400 102 _ _ _ _ k
-- 156 SyntaxRulesModel.parseRow()V
set_option maxRecDepth 100000 in
set_option maxHeartbeats 4000000 in
theorem k156_0 (h : zH) (Q : Option zV → zH → Prop) (k :
  (0 ≤ (300 : Int)) ∧ ((300 : Int) < 2709) ∧ ∀ h8 : zH, h8 = sI h 127 9 (gI h 128 300) →
  zK 156 14 [vR 127 111, vI 0] [] h8 Q) : zK 156 0 [vR 127 111, vU] [] h Q :=
  zwpe_W (cd := c156) rfl [14, 63, 94] 400 0 _ _ _ _ k
set_option maxRecDepth 100000 in
set_option maxHeartbeats 4000000 in
theorem k156_14 (l1 : Int) (h : zH) (Q : Option zV → zH → Prop) (k :
  ((gI h 127 9) ≤ l1 →
    zC1 155 [vR 127 111] h (fun v9 h9 =>
    ∀ h10 : zH, h10 = sI h9 127 20 (gI h9 127 11) →
    ∀ h11 : zH, h11 = sI h10 127 22 (gI h10 127 13) →
    zK 156 63 [vR 127 111, vI 0] [] h11 Q)) ∧
    (¬ ((gI h 127 9) ≤ l1) →
    (0 ≤ (l1 : Int)) ∧ ((l1 : Int) < 2709) ∧ (0 ≤ (l1 : Int)) ∧ ((l1 : Int) < 302) ∧ ∀ h12 : zH, h12 = sI h 133 l1 (gI h 128 l1) →
    (inR (l1 + 1)) ∧ zK 156 14 [vR 127 111, vI (l1 + 1)] [] h12 Q)) : zK 156 14 [vR 127 111, vI l1] [] h Q :=
  zwpe_W (cd := c156) rfl [14, 63, 94] 400 14 _ _ _ _ k
set_option maxRecDepth 100000 in
set_option maxHeartbeats 4000000 in
theorem k156_63 (l1 : Int) (h : zH) (Q : Option zV → zH → Prop) (k :
  (inR (10 * (gI h 127 20))) ∧ ((10 * (gI h 127 20)) ≤ l1 →
    zK 156 94 [vR 127 111, vI 0] [] h Q) ∧
    (¬ ((10 * (gI h 127 20)) ≤ l1) →
    (0 ≤ (l1 : Int)) ∧ ((l1 : Int) < 600) ∧ (0 ≤ (l1 : Int)) ∧ ((l1 : Int) < 600) ∧ ∀ h13 : zH, h13 = sI h 137 l1 (gI h 134 l1) →
    (inR (l1 + 1)) ∧ zK 156 63 [vR 127 111, vI (l1 + 1)] [] h13 Q)) : zK 156 63 [vR 127 111, vI l1] [] h Q :=
  zwpe_W (cd := c156) rfl [14, 63, 94] 400 63 _ _ _ _ k
set_option maxRecDepth 100000 in
set_option maxHeartbeats 4000000 in
theorem k156_94 (l1 : Int) (h : zH) (Q : Option zV → zH → Prop) (k :
  (inR (3 * (gI h 127 22))) ∧ ((3 * (gI h 127 22)) ≤ l1 →
    Q none h) ∧
    (¬ ((3 * (gI h 127 22)) ≤ l1) →
    (0 ≤ (l1 : Int)) ∧ ((l1 : Int) < 450) ∧ (0 ≤ (l1 : Int)) ∧ ((l1 : Int) < 450) ∧ ∀ h14 : zH, h14 = sI h 138 l1 (gI h 135 l1) →
    (inR (l1 + 1)) ∧ zK 156 94 [vR 127 111, vI (l1 + 1)] [] h14 Q)) : zK 156 94 [vR 127 111, vI l1] [] h Q :=
  zwpe_W (cd := c156) rfl [14, 63, 94] 400 94 _ _ _ _ k
-- 157 SyntaxRulesModel.isNode(I)Z
set_option maxRecDepth 100000 in
set_option maxHeartbeats 4000000 in
theorem k157_0 (p1 : Int) (h : zH) (Q : Option zV → zH → Prop) (k :
  (inL ((gI h 127 20) - 1)) ∧ zC1 141 [vL p1, vL 0, vL ((gI h 127 20) - 1)] h (fun v2 h2 =>
  ((v2 : Int) = 0 ∨ (v2 : Int) = 1) ∧ Q (some (vI v2)) h2)) : zK 157 0 [vR 127 111, vI p1] [] h Q :=
  zwpe_W (cd := c157) rfl [] 400 0 _ _ _ _ k
-- 158 SyntaxRulesModel.of(II)I
set_option maxRecDepth 100000 in
set_option maxHeartbeats 4000000 in
theorem k158_0 (p1 : Int) (p2 : Int) (h : zH) (Q : Option zV → zH → Prop) (k :
  (inR (10 * p1)) ∧ (inR ((10 * p1) + p2)) ∧ (0 ≤ ((10 * p1) + p2 : Int)) ∧ (((10 * p1) + p2 : Int) < 600) ∧ Q (some (vI (gI h 137 ((10 * p1) + p2)))) h) : zK 158 0 [vR 127 111, vI p1, vI p2] [] h Q :=
  zwpe_W (cd := c158) rfl [] 400 0 _ _ _ _ k
-- 159 SyntaxRulesModel.remember([I)V
set_option maxRecDepth 100000 in
set_option maxHeartbeats 4000000 in
theorem k159_0 (p1 : Nat) (h : zH) (Q : Option zV → zH → Prop) (k :
  (¬ (gI h 127 5) = 8 →
    zK 159 57 [vR 127 111, vR p1 140, vI 0] [] h Q) ∧
    (¬ (¬ (gI h 127 5) = 8) →
    (inR ((gI h 127 5) - 1)) ∧ ∀ h5 : zH, h5 = sI h 127 5 ((gI h 127 5) - 1) →
    zK 159 21 [vR 127 111, vR p1 140, vI 0] [] h5 Q)) : zK 159 0 [vR 127 111, vR p1 140, vU] [] h Q :=
  zwpe_W (cd := c159) rfl [21, 57] 400 0 _ _ _ _ k
set_option maxRecDepth 100000 in
set_option maxHeartbeats 4000000 in
theorem k159_21 (a1 : Nat) (l2 : Int) (h : zH) (Q : Option zV → zH → Prop) (k :
  (inR (301 * (gI h 127 5))) ∧ ((301 * (gI h 127 5)) ≤ l2 →
    zK 159 57 [vR 127 111, vR a1 140, vI 0] [] h Q) ∧
    (¬ ((301 * (gI h 127 5)) ≤ l2) →
    (inR (l2 + 301)) ∧ (0 ≤ (l2 + 301 : Int)) ∧ ((l2 + 301 : Int) < 2408) ∧ (0 ≤ (l2 : Int)) ∧ ((l2 : Int) < 2408) ∧ ∀ h6 : zH, h6 = sI h 131 l2 (gI h 131 (l2 + 301)) →
    (inR (l2 + 1)) ∧ zK 159 21 [vR 127 111, vR a1 140, vI (l2 + 1)] [] h6 Q)) : zK 159 21 [vR 127 111, vR a1 140, vI l2] [] h Q :=
  zwpe_W (cd := c159) rfl [21, 57] 400 21 _ _ _ _ k
set_option maxRecDepth 100000 in
set_option maxHeartbeats 4000000 in
theorem k159_57 (a1 : Nat) (l2 : Int) (h : zH) (Q : Option zV → zH → Prop) (k :
  (301 ≤ l2 →
    (inR ((gI h 127 5) + 1)) ∧ ∀ h7 : zH, h7 = sI h 127 5 ((gI h 127 5) + 1) →
    Q none h7) ∧
    (¬ (301 ≤ l2) →
    (inR (301 * (gI h 127 5))) ∧ (inR ((301 * (gI h 127 5)) + l2)) ∧ (0 ≤ (l2 : Int)) ∧ ((l2 : Int) < Int.ofNat (ln h a1)) ∧ (0 ≤ ((301 * (gI h 127 5)) + l2 : Int)) ∧ (((301 * (gI h 127 5)) + l2 : Int) < 2408) ∧ ∀ h8 : zH, h8 = sI h 131 ((301 * (gI h 127 5)) + l2) (gI h a1 l2) →
    (inR (l2 + 1)) ∧ zK 159 57 [vR 127 111, vR a1 140, vI (l2 + 1)] [] h8 Q)) : zK 159 57 [vR 127 111, vR a1 140, vI l2] [] h Q :=
  zwpe_W (cd := c159) rfl [21, 57] 400 57 _ _ _ _ k
-- 160 SyntaxRulesModel.become()V
set_option maxRecDepth 100000 in
set_option maxHeartbeats 4000000 in
theorem k160_0 (h : zH) (Q : Option zV → zH → Prop) (k :
  zK 160 2 [vR 127 111, vI 0] [] h Q) : zK 160 0 [vR 127 111, vU] [] h Q :=
  zwpe_W (cd := c160) rfl [2] 400 0 _ _ _ _ k
set_option maxRecDepth 100000 in
set_option maxHeartbeats 4000000 in
theorem k160_2 (l1 : Int) (h : zH) (Q : Option zV → zH → Prop) (k :
  (300 ≤ l1 →
    (0 ≤ (300 : Int)) ∧ ((300 : Int) < 2709) ∧ ∀ h5 : zH, h5 = sI h 128 300 (gI h 127 9) →
    zC0 156 [vR 127 111] h5 (fun h6 =>
    Q none h6)) ∧
    (¬ (300 ≤ l1) →
    ((gI h 127 9) ≤ l1 →
      (0 ≤ (l1 : Int)) ∧ ((l1 : Int) < 2709) ∧ ∀ h7 : zH, h7 = sI h 128 l1 0 →
      (inR (l1 + 1)) ∧ zK 160 2 [vR 127 111, vI (l1 + 1)] [] h7 Q) ∧
      (¬ ((gI h 127 9) ≤ l1) →
      (0 ≤ (l1 : Int)) ∧ ((l1 : Int) < 302) ∧ (0 ≤ (l1 : Int)) ∧ ((l1 : Int) < 2709) ∧ ∀ h8 : zH, h8 = sI h 128 l1 (gI h 133 l1) →
      (inR (l1 + 1)) ∧ zK 160 2 [vR 127 111, vI (l1 + 1)] [] h8 Q))) : zK 160 2 [vR 127 111, vI l1] [] h Q :=
  zwpe_W (cd := c160) rfl [2] 400 2 _ _ _ _ k
-- 161 SyntaxRulesModel.takeText()V
set_option maxRecDepth 100000 in
set_option maxHeartbeats 4000000 in
theorem k161_0 (h : zH) (Q : Option zV → zH → Prop) (k :
  ∀ h4 : zH, h4 = sI h 127 9 (gI h 127 7) →
  zK 161 10 [vR 127 111, vI 0] [] h4 Q) : zK 161 0 [vR 127 111, vU] [] h Q :=
  zwpe_W (cd := c161) rfl [10] 400 0 _ _ _ _ k
set_option maxRecDepth 100000 in
set_option maxHeartbeats 4000000 in
theorem k161_10 (l1 : Int) (h : zH) (Q : Option zV → zH → Prop) (k :
  ((gI h 127 7) ≤ l1 →
    ∀ h5 : zH, h5 = sI h 127 7 0 →
    Q none h5) ∧
    (¬ ((gI h 127 7) ≤ l1) →
    (0 ≤ (l1 : Int)) ∧ ((l1 : Int) < 300) ∧ (0 ≤ (l1 : Int)) ∧ ((l1 : Int) < 302) ∧ ∀ h6 : zH, h6 = sI h 133 l1 (iAnd (gI h 132 l1) 255) →
    (inR (l1 + 1)) ∧ zK 161 10 [vR 127 111, vI (l1 + 1)] [] h6 Q)) : zK 161 10 [vR 127 111, vI l1] [] h Q :=
  zwpe_W (cd := c161) rfl [10] 400 10 _ _ _ _ k
-- 162 SyntaxRulesModel.source()I
set_option maxRecDepth 100000 in
set_option maxHeartbeats 4000000 in
theorem k162_0 (h : zH) (Q : Option zV → zH → Prop) (k :
  ∀ h6 : zH, h6 = sI h 127 0 0 →
  zC0 161 [vR 127 111] h6 (fun h7 =>
  zC1 155 [vR 127 111] h7 (fun v8 h8 =>
  (¬ v8 = 0 →
    zC0 159 [vR 127 111, vR 128 140] h8 (fun h9 =>
    zC0 160 [vR 127 111] h9 (fun h10 =>
    Q (some (vI (gI h10 127 20))) h10))) ∧
    (¬ (¬ v8 = 0) →
    (inR ((-1000) - (gI h8 127 17))) ∧ Q (some (vI ((-1000) - (gI h8 127 17)))) h8)))) : zK 162 0 [vR 127 111] [] h Q :=
  zwpe_W (cd := c162) rfl [] 400 0 _ _ _ _ k
-- 163 SyntaxRulesModel.peek()I
set_option maxRecDepth 100000 in
set_option maxHeartbeats 4000000 in
theorem k163_0 (h : zH) (Q : Option zV → zH → Prop) (k :
  zC1 149 [vR 127 111] h (fun v4 h4 =>
  (¬ v4 = 32 →
    zC1 149 [vR 127 111] h4 (fun v5 h5 =>
    Q (some (vI v5)) h5)) ∧
    (¬ (¬ v4 = 32) →
    (inR ((gI h4 127 16) + 1)) ∧ ∀ h6 : zH, h6 = sI h4 127 16 ((gI h4 127 16) + 1) →
    zK 163 0 [vR 127 111] [] h6 Q))) : zK 163 0 [vR 127 111] [] h Q :=
  zwpe_W (cd := c163) rfl [0] 400 0 _ _ _ _ k
-- 164 SyntaxRulesModel.put(III)I
set_option maxRecDepth 100000 in
set_option maxHeartbeats 4000000 in
theorem k164_0 (p1 : Int) (p2 : Int) (p3 : Int) (h : zH) (Q : Option zV → zH → Prop) (k :
  (inR (246 * (gI h 127 32))) ∧ (0 ≤ (gI h 127 32 : Int)) ∧ ((gI h 127 32 : Int) < 2) ∧ (inR (6 * (gI h 142 (gI h 127 32)))) ∧ (inR ((246 * (gI h 127 32)) + (6 * (gI h 142 (gI h 127 32))))) ∧ (0 ≤ ((246 * (gI h 127 32)) + (6 * (gI h 142 (gI h 127 32))) : Int)) ∧ (((246 * (gI h 127 32)) + (6 * (gI h 142 (gI h 127 32))) : Int) < 492) ∧ ∀ h8 : zH, h8 = sI h 141 ((246 * (gI h 127 32)) + (6 * (gI h 142 (gI h 127 32)))) p1 →
  (inR (((246 * (gI h 127 32)) + (6 * (gI h 142 (gI h 127 32)))) + 1)) ∧ (0 ≤ (((246 * (gI h 127 32)) + (6 * (gI h 142 (gI h 127 32)))) + 1 : Int)) ∧ ((((246 * (gI h 127 32)) + (6 * (gI h 142 (gI h 127 32)))) + 1 : Int) < 492) ∧ ∀ h9 : zH, h9 = sI h8 141 (((246 * (gI h 127 32)) + (6 * (gI h 142 (gI h 127 32)))) + 1) p2 →
  (inR (((246 * (gI h 127 32)) + (6 * (gI h 142 (gI h 127 32)))) + 2)) ∧ (0 ≤ (((246 * (gI h 127 32)) + (6 * (gI h 142 (gI h 127 32)))) + 2 : Int)) ∧ ((((246 * (gI h 127 32)) + (6 * (gI h 142 (gI h 127 32)))) + 2 : Int) < 492) ∧ ∀ h10 : zH, h10 = sI h9 141 (((246 * (gI h 127 32)) + (6 * (gI h 142 (gI h 127 32)))) + 2) p3 →
  (inR (((246 * (gI h 127 32)) + (6 * (gI h 142 (gI h 127 32)))) + 3)) ∧ (0 ≤ (((246 * (gI h 127 32)) + (6 * (gI h 142 (gI h 127 32)))) + 3 : Int)) ∧ ((((246 * (gI h 127 32)) + (6 * (gI h 142 (gI h 127 32)))) + 3 : Int) < 492) ∧ ∀ h11 : zH, h11 = sI h10 141 (((246 * (gI h 127 32)) + (6 * (gI h 142 (gI h 127 32)))) + 3) 0 →
  (inR (((246 * (gI h 127 32)) + (6 * (gI h 142 (gI h 127 32)))) + 4)) ∧ (0 ≤ (((246 * (gI h 127 32)) + (6 * (gI h 142 (gI h 127 32)))) + 4 : Int)) ∧ ((((246 * (gI h 127 32)) + (6 * (gI h 142 (gI h 127 32)))) + 4 : Int) < 492) ∧ ∀ h12 : zH, h12 = sI h11 141 (((246 * (gI h 127 32)) + (6 * (gI h 142 (gI h 127 32)))) + 4) 0 →
  (inR (((246 * (gI h 127 32)) + (6 * (gI h 142 (gI h 127 32)))) + 5)) ∧ (0 ≤ (((246 * (gI h 127 32)) + (6 * (gI h 142 (gI h 127 32)))) + 5 : Int)) ∧ ((((246 * (gI h 127 32)) + (6 * (gI h 142 (gI h 127 32)))) + 5 : Int) < 492) ∧ ∀ h13 : zH, h13 = sI h12 141 (((246 * (gI h 127 32)) + (6 * (gI h 142 (gI h 127 32)))) + 5) 0 →
  (0 ≤ (gI h13 127 32 : Int)) ∧ ((gI h13 127 32 : Int) < 2) ∧ (inR ((gI h13 142 (gI h13 127 32)) + 1)) ∧ (0 ≤ (gI h13 127 32 : Int)) ∧ ((gI h13 127 32 : Int) < 2) ∧ ∀ h14 : zH, h14 = sI h13 142 (gI h13 127 32) ((gI h13 142 (gI h13 127 32)) + 1) →
  Q (some (vI ((246 * (gI h 127 32)) + (6 * (gI h 142 (gI h 127 32)))))) h14) : zK 164 0 [vR 127 111, vI p1, vI p2, vI p3, vU] [] h Q :=
  zwpe_W (cd := c164) rfl [] 400 0 _ _ _ _ k
-- 165 SyntaxRulesModel.readName(II)V
set_option maxRecDepth 100000 in
set_option maxHeartbeats 4000000 in
theorem k165_0 (p1 : Int) (p2 : Int) (h : zH) (Q : Option zV → zH → Prop) (k :
  zC1 164 [vR 127 111, vI p1, vI p2, vI 0] h (fun v11 h11 =>
  (inR (v11 + 3)) ∧ (0 ≤ (v11 + 3 : Int)) ∧ ((v11 + 3 : Int) < 492) ∧ ∀ h12 : zH, h12 = sI h11 141 (v11 + 3) (gI h11 127 16) →
  (inR (v11 + 4)) ∧ (p1 = 4 →
    (¬ p1 = 4 →
      zC1 152 [vR 127 111, vI 0, vI 8] h12 (fun v13 h13 =>
      (0 ≤ (v11 + 4 : Int)) ∧ ((v11 + 4 : Int) < 492) ∧ ∀ h14 : zH, h14 = sI h13 141 (v11 + 4) v13 →
      Q none h14)) ∧
      (¬ (¬ p1 = 4) →
      zC1 152 [vR 127 111, vI 0, vI 4] h12 (fun v15 h15 =>
      (0 ≤ (v11 + 4 : Int)) ∧ ((v11 + 4 : Int) < 492) ∧ ∀ h16 : zH, h16 = sI h15 141 (v11 + 4) v15 →
      Q none h16))) ∧
    (¬ (p1 = 4) →
    (¬ p1 = 4 →
      zC1 152 [vR 127 111, vI 1, vI 8] h12 (fun v17 h17 =>
      (0 ≤ (v11 + 4 : Int)) ∧ ((v11 + 4 : Int) < 492) ∧ ∀ h18 : zH, h18 = sI h17 141 (v11 + 4) v17 →
      Q none h18)) ∧
      (¬ (¬ p1 = 4) →
      zC1 152 [vR 127 111, vI 1, vI 4] h12 (fun v19 h19 =>
      (0 ≤ (v11 + 4 : Int)) ∧ ((v11 + 4 : Int) < 492) ∧ ∀ h20 : zH, h20 = sI h19 141 (v11 + 4) v19 →
      Q none h20))))) : zK 165 0 [vR 127 111, vI p1, vI p2, vU] [] h Q :=
  zwpe_W (cd := c165) rfl [] 400 0 _ _ _ _ k
-- 166 SyntaxRulesModel.readHole(I)I
set_option maxRecDepth 100000 in
set_option maxHeartbeats 4000000 in
theorem k166_0 (p1 : Int) (h : zH) (Q : Option zV → zH → Prop) (k :
  (inR ((gI h 127 16) + 1)) ∧ ∀ h9 : zH, h9 = sI h 127 16 ((gI h 127 16) + 1) →
  zC1 149 [vR 127 111] h9 (fun v10 h10 =>
  zC1 141 [vL v10, vL 65, vL 90] h10 (fun v11 h11 =>
  (v11 = 0 →
    zC0 148 [vR 127 111] h11 (fun h12 =>
    Q (some (vI 0)) h12)) ∧
    (¬ (v11 = 0) →
    (inR (v10 - 65)) ∧ (0 ≤ (v10 - 65 : Int)) ∧ ((v10 - 65 : Int) < 26) ∧ ((gI h11 143 (v10 - 65)) = p1 →
      zK 166 68 [vR 127 111, vI p1, vI v10] [] h11 Q) ∧
      (¬ ((gI h11 143 (v10 - 65)) = p1) →
      ((gI h11 127 32) = 1 →
        zC0 148 [vR 127 111] h11 (fun h13 =>
        Q (some (vI 0)) h13)) ∧
        (¬ ((gI h11 127 32) = 1) →
        (inR (v10 - 65)) ∧ (0 ≤ (v10 - 65 : Int)) ∧ ((v10 - 65 : Int) < 26) ∧ ((gI h11 143 (v10 - 65)) = 0 →
          zK 166 68 [vR 127 111, vI p1, vI v10] [] h11 Q) ∧
          (¬ ((gI h11 143 (v10 - 65)) = 0) →
          zC0 148 [vR 127 111] h11 (fun h14 =>
          Q (some (vI 0)) h14)))))))) : zK 166 0 [vR 127 111, vI p1, vU] [] h Q :=
  zwpe_W (cd := c166) rfl [68] 400 0 _ _ _ _ k
set_option maxRecDepth 100000 in
set_option maxHeartbeats 4000000 in
theorem k166_68 (l1 : Int) (l2 : Int) (h : zH) (Q : Option zV → zH → Prop) (k :
  (inR (l2 - 65)) ∧ (0 ≤ (l2 - 65 : Int)) ∧ ((l2 - 65 : Int) < 26) ∧ ∀ h15 : zH, h15 = sI h 143 (l2 - 65) l1 →
  (inR ((gI h15 127 16) + 1)) ∧ ∀ h16 : zH, h16 = sI h15 127 16 ((gI h15 127 16) + 1) →
  (inR (l2 - 65)) ∧ Q (some (vI (l2 - 65))) h16) : zK 166 68 [vR 127 111, vI l1, vI l2] [] h Q :=
  zwpe_W (cd := c166) rfl [68] 400 68 _ _ _ _ k
-- 167 SyntaxRulesModel.readKind(I)V
set_option maxRecDepth 100000 in
set_option maxHeartbeats 4000000 in
theorem k167_0 (p1 : Int) (h : zH) (Q : Option zV → zH → Prop) (k :
  (inR (p1 + 2)) ∧ (0 ≤ (p1 + 2 : Int)) ∧ ((p1 + 2 : Int) < 492) ∧ ∀ h10 : zH, h10 = sI h 141 (p1 + 2) (-1) →
  (¬ (gI h10 127 32) = 0 →
    Q none h10) ∧
    (¬ (¬ (gI h10 127 32) = 0) →
    ((gI h10 127 18) = 0 →
      Q none h10) ∧
      (¬ ((gI h10 127 18) = 0) →
      zC1 149 [vR 127 111] h10 (fun v11 h11 =>
      (¬ v11 = 58 →
        Q none h11) ∧
        (¬ (¬ v11 = 58) →
        (inR ((gI h11 127 16) + 1)) ∧ ∀ h12 : zH, h12 = sI h11 127 16 ((gI h11 127 16) + 1) →
        zC1 149 [vR 127 111] h12 (fun v13 h13 =>
        (inR (p1 + 2)) ∧ (¬ v13 = 110 →
          (¬ v13 = 119 →
            zK 167 75 [vR 127 111, vI p1, vI v13] [vI 2, vI (p1 + 2), vR 141 49340] h13 Q) ∧
            (¬ (¬ v13 = 119) →
            zK 167 75 [vR 127 111, vI p1, vI v13] [vI 1, vI (p1 + 2), vR 141 49340] h13 Q)) ∧
          (¬ (¬ v13 = 110) →
          zK 167 75 [vR 127 111, vI p1, vI v13] [vI 0, vI (p1 + 2), vR 141 49340] h13 Q))))))) : zK 167 0 [vR 127 111, vI p1, vU] [] h Q :=
  zwpe_W (cd := c167) rfl [75] 400 0 _ _ _ _ k
set_option maxRecDepth 100000 in
set_option maxHeartbeats 4000000 in
theorem k167_75 (u1 : zV) (l2 : Int) (s0 : Int) (s1 : Int) (h : zH) (Q : Option zV → zH → Prop) (k :
  (0 ≤ (s1 : Int)) ∧ ((s1 : Int) < 492) ∧ ∀ h14 : zH, h14 = sI h 141 s1 s0 →
  (l2 = 110 →
    (inR ((gI h14 127 16) + 1)) ∧ ∀ h15 : zH, h15 = sI h14 127 16 ((gI h14 127 16) + 1) →
    Q none h15) ∧
    (¬ (l2 = 110) →
    (l2 = 119 →
      (inR ((gI h14 127 16) + 1)) ∧ ∀ h16 : zH, h16 = sI h14 127 16 ((gI h14 127 16) + 1) →
      Q none h16) ∧
      (¬ (l2 = 119) →
      (¬ l2 = 99 →
        zC0 148 [vR 127 111] h14 (fun h17 =>
        Q none h17)) ∧
        (¬ (¬ l2 = 99) →
        (inR ((gI h14 127 16) + 1)) ∧ ∀ h18 : zH, h18 = sI h14 127 16 ((gI h14 127 16) + 1) →
        Q none h18)))) : zK 167 75 [vR 127 111, u1, vI l2] [vI s0, vI s1, vR 141 49340] h Q :=
  zwpe_W (cd := c167) rfl [75] 400 75 _ _ _ _ k
-- 168 SyntaxRulesModel.readOpen()V
set_option maxRecDepth 100000 in
set_option maxHeartbeats 4000000 in
theorem k168_0 (h : zH) (Q : Option zV → zH → Prop) (k :
  (inR ((gI h 127 16) + 1)) ∧ ∀ h8 : zH, h8 = sI h 127 16 ((gI h 127 16) + 1) →
  zC1 163 [vR 127 111] h8 (fun v9 h9 =>
  zC1 144 [vI v9] h9 (fun v10 h10 =>
  (¬ v10 = 0 →
    (inR (246 * (gI h10 127 32))) ∧ (0 ≤ (gI h10 127 32 : Int)) ∧ ((gI h10 127 32 : Int) < 2) ∧ (inR (6 * (gI h10 142 (gI h10 127 32)))) ∧ (inR ((246 * (gI h10 127 32)) + (6 * (gI h10 142 (gI h10 127 32))))) ∧ (0 ≤ (gI h10 127 15 : Int)) ∧ ((gI h10 127 15 : Int) < 21) ∧ ∀ h11 : zH, h11 = sI h10 144 (gI h10 127 15) ((246 * (gI h10 127 32)) + (6 * (gI h10 142 (gI h10 127 32)))) →
    (inR ((gI h11 127 15) + 1)) ∧ ∀ h12 : zH, h12 = sI h11 127 15 ((gI h11 127 15) + 1) →
    zC0 165 [vR 127 111, vI 5, vI 0] h12 (fun h13 =>
    Q none h13)) ∧
    (¬ (¬ v10 = 0) →
    zC0 148 [vR 127 111] h10 (fun h14 =>
    Q none h14))))) : zK 168 0 [vR 127 111] [] h Q :=
  zwpe_W (cd := c168) rfl [] 400 0 _ _ _ _ k
-- 169 SyntaxRulesModel.countItem(Z)V
set_option maxRecDepth 100000 in
set_option maxHeartbeats 4000000 in
theorem k169_0 (p1 : Int) (h : zH) (Q : Option zV → zH → Prop) (k :
  (¬ (gI h 127 33) = 0 →
    zK 169 80 [vR 127 111, vI p1] [] h Q) ∧
    (¬ (¬ (gI h 127 33) = 0) →
    ((gI h 127 15) ≤ 0 →
      zK 169 80 [vR 127 111, vI p1] [] h Q) ∧
      (¬ ((gI h 127 15) ≤ 0) →
      (inR ((gI h 127 15) - 1)) ∧ (0 ≤ ((gI h 127 15) - 1 : Int)) ∧ (((gI h 127 15) - 1 : Int) < 21) ∧ (inR ((gI h 144 ((gI h 127 15) - 1)) + 1)) ∧ (0 ≤ ((gI h 144 ((gI h 127 15) - 1)) + 1 : Int)) ∧ (((gI h 144 ((gI h 127 15) - 1)) + 1 : Int) < 492) ∧ (inR ((gI h 141 ((gI h 144 ((gI h 127 15) - 1)) + 1)) + 1)) ∧ (0 ≤ ((gI h 144 ((gI h 127 15) - 1)) + 1 : Int)) ∧ (((gI h 144 ((gI h 127 15) - 1)) + 1 : Int) < 492) ∧ ∀ h5 : zH, h5 = sI h 141 ((gI h 144 ((gI h 127 15) - 1)) + 1) ((gI h 141 ((gI h 144 ((gI h 127 15) - 1)) + 1)) + 1) →
      (inR ((gI h5 127 15) - 1)) ∧ (0 ≤ ((gI h5 127 15) - 1 : Int)) ∧ (((gI h5 127 15) - 1 : Int) < 21) ∧ (inR ((gI h5 144 ((gI h5 127 15) - 1)) + 5)) ∧ (p1 = 0 →
        (inR ((gI h5 127 15) - 1)) ∧ (0 ≤ ((gI h5 127 15) - 1 : Int)) ∧ (((gI h5 127 15) - 1 : Int) < 21) ∧ (inR ((gI h5 144 ((gI h5 127 15) - 1)) + 5)) ∧ (0 ≤ ((gI h5 144 ((gI h5 127 15) - 1)) + 5 : Int)) ∧ (((gI h5 144 ((gI h5 127 15) - 1)) + 5 : Int) < 492) ∧ zK 169 79 [vR 127 111, vI p1] [vI (gI h5 141 ((gI h5 144 ((gI h5 127 15) - 1)) + 5)), vI ((gI h5 144 ((gI h5 127 15) - 1)) + 5), vR 141 49340] h5 Q) ∧
        (¬ (p1 = 0) →
        zK 169 79 [vR 127 111, vI p1] [vI 1, vI ((gI h5 144 ((gI h5 127 15) - 1)) + 5), vR 141 49340] h5 Q)))) : zK 169 0 [vR 127 111, vI p1] [] h Q :=
  zwpe_W (cd := c169) rfl [79, 80] 400 0 _ _ _ _ k
set_option maxRecDepth 100000 in
set_option maxHeartbeats 4000000 in
theorem k169_79 (u1 : zV) (s0 : Int) (s1 : Int) (h : zH) (Q : Option zV → zH → Prop) (k :
  (0 ≤ (s1 : Int)) ∧ ((s1 : Int) < 492) ∧ ∀ h6 : zH, h6 = sI h 141 s1 s0 →
  zK 169 80 [vR 127 111, u1] [] h6 Q) : zK 169 79 [vR 127 111, u1] [vI s0, vI s1, vR 141 49340] h Q :=
  zwpe_W (cd := c169) rfl [79, 80] 400 79 _ _ _ _ k
set_option maxRecDepth 100000 in
set_option maxHeartbeats 4000000 in
theorem k169_80 (u1 : zV) (h : zH) (Q : Option zV → zH → Prop) (k :
  ((0 : Int) = 0 ∨ (0 : Int) = 1) ∧ ∀ h7 : zH, h7 = sI h 127 33 0 →
  (inR ((gI h7 127 27) + 1)) ∧ ∀ h8 : zH, h8 = sI h7 127 27 ((gI h7 127 27) + 1) →
  Q none h8) : zK 169 80 [vR 127 111, u1] [] h Q :=
  zwpe_W (cd := c169) rfl [79, 80] 400 80 _ _ _ _ k
-- 170 SyntaxRulesModel.canBegin(I)Z
set_option maxRecDepth 100000 in
set_option maxHeartbeats 4000000 in
theorem k170_0 (p1 : Int) (h : zH) (Q : Option zV → zH → Prop) (k :
  (p1 = 63 →
    ((1 : Int) = 0 ∨ (1 : Int) = 1) ∧ Q (some (vI 1)) h) ∧
    (¬ (p1 = 63) →
    (p1 = 40 →
      ((1 : Int) = 0 ∨ (1 : Int) = 1) ∧ Q (some (vI 1)) h) ∧
      (¬ (p1 = 40) →
      zC1 144 [vI p1] h (fun v3 h3 =>
      (¬ v3 = 0 →
        ((1 : Int) = 0 ∨ (1 : Int) = 1) ∧ Q (some (vI 1)) h3) ∧
        (¬ (¬ v3 = 0) →
        zC1 145 [vI p1] h3 (fun v4 h4 =>
        (v4 = 0 →
          (¬ p1 = 42 →
            (¬ (gI h4 127 32) = 0 →
              ((0 : Int) = 0 ∨ (0 : Int) = 1) ∧ Q (some (vI 0)) h4) ∧
              (¬ (¬ (gI h4 127 32) = 0) →
              (p1 = 95 →
                ((1 : Int) = 0 ∨ (1 : Int) = 1) ∧ Q (some (vI 1)) h4) ∧
                (¬ (p1 = 95) →
                (¬ p1 = 94 →
                  ((0 : Int) = 0 ∨ (0 : Int) = 1) ∧ Q (some (vI 0)) h4) ∧
                  (¬ (¬ p1 = 94) →
                  (¬ (gI h4 127 29) = 0 →
                    ((0 : Int) = 0 ∨ (0 : Int) = 1) ∧ Q (some (vI 0)) h4) ∧
                    (¬ (¬ (gI h4 127 29) = 0) →
                    ((1 : Int) = 0 ∨ (1 : Int) = 1) ∧ Q (some (vI 1)) h4))))) ∧
            (¬ (¬ p1 = 42) →
            ((gI h4 127 15) ≤ 0 →
              ((0 : Int) = 0 ∨ (0 : Int) = 1) ∧ Q (some (vI 0)) h4) ∧
              (¬ ((gI h4 127 15) ≤ 0) →
              (¬ (gI h4 127 33) = 0 →
                ((0 : Int) = 0 ∨ (0 : Int) = 1) ∧ Q (some (vI 0)) h4) ∧
                (¬ (¬ (gI h4 127 33) = 0) →
                ((gI h4 127 32) = 1 →
                  ((1 : Int) = 0 ∨ (1 : Int) = 1) ∧ Q (some (vI 1)) h4) ∧
                  (¬ ((gI h4 127 32) = 1) →
                  (2 ≤ (gI h4 127 28) →
                    ((0 : Int) = 0 ∨ (0 : Int) = 1) ∧ Q (some (vI 0)) h4) ∧
                    (¬ (2 ≤ (gI h4 127 28)) →
                    ((1 : Int) = 0 ∨ (1 : Int) = 1) ∧ Q (some (vI 1)) h4)))))) ∧
          (¬ (v4 = 0) →
          ((1 : Int) = 0 ∨ (1 : Int) = 1) ∧ Q (some (vI 1)) h4))))))) : zK 170 0 [vR 127 111, vI p1] [] h Q :=
  zwpe_W (cd := c170) rfl [] 400 0 _ _ _ _ k
-- 171 SyntaxRulesModel.readItem()V
set_option maxRecDepth 100000 in
set_option maxHeartbeats 4000000 in
theorem k171_0 (h : zH) (Q : Option zV → zH → Prop) (k :
  zC1 163 [vR 127 111] h (fun v22 h22 =>
  zC1 170 [vR 127 111, vI v22] h22 (fun v23 h23 =>
  (v23 = 0 →
    zC0 148 [vR 127 111] h23 (fun h24 =>
    Q none h24)) ∧
    (¬ (v23 = 0) →
    (¬ (gI h23 127 27) = 20 →
      (¬ v22 = 42 →
        zK 171 39 [vR 127 111, vI v22] [vI 0, vR 127 111] h23 Q) ∧
        (¬ (¬ v22 = 42) →
        zK 171 39 [vR 127 111, vI v22] [vI 1, vR 127 111] h23 Q)) ∧
      (¬ (¬ (gI h23 127 27) = 20) →
      zC0 148 [vR 127 111] h23 (fun h25 =>
      Q none h25)))))) : zK 171 0 [vR 127 111, vU] [] h Q :=
  zwpe_W (cd := c171) rfl [39] 400 0 _ _ _ _ k
set_option maxRecDepth 100000 in
set_option maxHeartbeats 4000000 in
theorem k171_39 (l1 : Int) (s0 : Int) (h : zH) (Q : Option zV → zH → Prop) (k :
  zC0 169 [vR 127 111, vI s0] h (fun h26 =>
  (¬ l1 = 95 →
    (¬ l1 = 94 →
      (¬ l1 = 63 →
        (¬ l1 = 42 →
          (¬ l1 = 40 →
            zC1 145 [vI l1] h26 (fun v27 h27 =>
            (v27 = 0 →
              zC0 165 [vR 127 111, vI 3, vI 0] h27 (fun h28 =>
              Q none h28)) ∧
              (¬ (v27 = 0) →
              zC0 165 [vR 127 111, vI 4, vI 0] h27 (fun h29 =>
              Q none h29)))) ∧
            (¬ (¬ l1 = 40) →
            zC0 168 [vR 127 111] h26 (fun h30 =>
            Q none h30))) ∧
          (¬ (¬ l1 = 42) →
          (inR ((gI h26 127 28) + 1)) ∧ ∀ h31 : zH, h31 = sI h26 127 28 ((gI h26 127 28) + 1) →
          zC1 166 [vR 127 111, vI 2] h31 (fun v32 h32 =>
          zC1 164 [vR 127 111, vI 6, vI v32, vI 0] h32 (fun v33 h33 =>
          Q none h33)))) ∧
        (¬ (¬ l1 = 63) →
        zC1 166 [vR 127 111, vI 1] h26 (fun v34 h34 =>
        zC1 164 [vR 127 111, vI 1, vI v34, vI 0] h34 (fun v35 h35 =>
        zC0 167 [vR 127 111, vI v35] h35 (fun h36 =>
        Q none h36))))) ∧
      (¬ (¬ l1 = 94) →
      (inR ((gI h26 127 16) + 1)) ∧ ∀ h37 : zH, h37 = sI h26 127 16 ((gI h26 127 16) + 1) →
      (inR ((gI h37 127 29) + 1)) ∧ ∀ h38 : zH, h38 = sI h37 127 29 ((gI h37 127 29) + 1) →
      zC1 164 [vR 127 111, vI 2, vI 0, vI 0] h38 (fun v39 h39 =>
      ((1 : Int) = 0 ∨ (1 : Int) = 1) ∧ ∀ h40 : zH, h40 = sI h39 127 33 1 →
      Q none h40))) ∧
    (¬ (¬ l1 = 95) →
    (inR ((gI h26 127 16) + 1)) ∧ ∀ h41 : zH, h41 = sI h26 127 16 ((gI h26 127 16) + 1) →
    zC1 164 [vR 127 111, vI 0, vI 0, vI 0] h41 (fun v42 h42 =>
    Q none h42)))) : zK 171 39 [vR 127 111, vI l1] [vI s0, vR 127 111] h Q :=
  zwpe_W (cd := c171) rfl [39] 400 39 _ _ _ _ k
-- 172 SyntaxRulesModel.readSide(I)V
set_option maxRecDepth 100000 in
set_option maxHeartbeats 4000000 in
theorem k172_0 (p1 : Int) (h : zH) (Q : Option zV → zH → Prop) (k :
  ∀ h14 : zH, h14 = sI h 127 32 p1 →
  ∀ h15 : zH, h15 = sI h14 127 27 0 →
  ∀ h16 : zH, h16 = sI h15 127 28 0 →
  ∀ h17 : zH, h17 = sI h16 127 29 0 →
  ((0 : Int) = 0 ∨ (0 : Int) = 1) ∧ ∀ h18 : zH, h18 = sI h17 127 33 0 →
  (0 ≤ (gI h18 127 32 : Int)) ∧ ((gI h18 127 32 : Int) < 2) ∧ ∀ h19 : zH, h19 = sI h18 142 (gI h18 127 32) 0 →
  ∀ h20 : zH, h20 = sI h19 127 15 0 →
  zK 172 42 [vR 127 111, vI p1, vI 1] [] h20 Q) : zK 172 0 [vR 127 111, vI p1, vU] [] h Q :=
  zwpe_W (cd := c172) rfl [42, 133, 137] 400 0 _ _ _ _ k
set_option maxRecDepth 100000 in
set_option maxHeartbeats 4000000 in
theorem k172_42 (u1 : zV) (l2 : Int) (h : zH) (Q : Option zV → zH → Prop) (k :
  (l2 = 0 →
    Q none h) ∧
    (¬ (l2 = 0) →
    ((gI h 127 18) = 0 →
      Q none h) ∧
      (¬ ((gI h 127 18) = 0) →
      ((gI h 127 15) ≤ 0 →
        zK 172 133 [vR 127 111, u1, vI l2] [] h Q) ∧
        (¬ ((gI h 127 15) ≤ 0) →
        (¬ (gI h 127 33) = 0 →
          zK 172 133 [vR 127 111, u1, vI l2] [] h Q) ∧
          (¬ (¬ (gI h 127 33) = 0) →
          zC1 163 [vR 127 111] h (fun v21 h21 =>
          (¬ v21 = 41 →
            zK 172 133 [vR 127 111, u1, vI l2] [] h21 Q) ∧
            (¬ (¬ v21 = 41) →
            (inR ((gI h21 127 16) + 1)) ∧ ∀ h22 : zH, h22 = sI h21 127 16 ((gI h21 127 16) + 1) →
            (inR ((gI h22 127 15) - 1)) ∧ ∀ h23 : zH, h23 = sI h22 127 15 ((gI h22 127 15) - 1) →
            (0 ≤ (gI h23 127 15 : Int)) ∧ ((gI h23 127 15 : Int) < 21) ∧ (inR ((gI h23 144 (gI h23 127 15)) + 2)) ∧ (0 ≤ (gI h23 127 32 : Int)) ∧ ((gI h23 127 32 : Int) < 2) ∧ (0 ≤ ((gI h23 144 (gI h23 127 15)) + 2 : Int)) ∧ (((gI h23 144 (gI h23 127 15)) + 2 : Int) < 492) ∧ ∀ h24 : zH, h24 = sI h23 141 ((gI h23 144 (gI h23 127 15)) + 2) (gI h23 142 (gI h23 127 32)) →
            zC1 164 [vR 127 111, vI 7, vI 0, vI 0] h24 (fun v25 h25 =>
            zK 172 137 [vR 127 111, u1, vI l2] [] h25 Q)))))))) : zK 172 42 [vR 127 111, u1, vI l2] [] h Q :=
  zwpe_W (cd := c172) rfl [42, 133, 137] 400 42 _ _ _ _ k
set_option maxRecDepth 100000 in
set_option maxHeartbeats 4000000 in
theorem k172_133 (u1 : zV) (u2 : zV) (h : zH) (Q : Option zV → zH → Prop) (k :
  zC0 171 [vR 127 111] h (fun h26 =>
  zK 172 137 [vR 127 111, u1, u2] [] h26 Q)) : zK 172 133 [vR 127 111, u1, u2] [] h Q :=
  zwpe_W (cd := c172) rfl [42, 133, 137] 400 133 _ _ _ _ k
set_option maxRecDepth 100000 in
set_option maxHeartbeats 4000000 in
theorem k172_137 (u1 : zV) (u2 : zV) (h : zH) (Q : Option zV → zH → Prop) (k :
  (0 < (gI h 127 15) →
    zK 172 42 [vR 127 111, u1, vI 1] [] h Q) ∧
    (¬ (0 < (gI h 127 15)) →
    ((gI h 127 33) = 0 →
      zK 172 42 [vR 127 111, u1, vI 0] [] h Q) ∧
      (¬ ((gI h 127 33) = 0) →
      zK 172 42 [vR 127 111, u1, vI 1] [] h Q))) : zK 172 137 [vR 127 111, u1, u2] [] h Q :=
  zwpe_W (cd := c172) rfl [42, 133, 137] 400 137 _ _ _ _ k
-- 173 SyntaxRulesModel.readsRule()Z
set_option maxRecDepth 100000 in
set_option maxHeartbeats 4000000 in
theorem k173_0 (h : zH) (Q : Option zV → zH → Prop) (k :
  ∀ h11 : zH, h11 = sI h 127 16 0 →
  ((1 : Int) = 0 ∨ (1 : Int) = 1) ∧ ∀ h12 : zH, h12 = sI h11 127 18 1 →
  zK 173 12 [vR 127 111, vI 0] [] h12 Q) : zK 173 0 [vR 127 111, vU] [] h Q :=
  zwpe_W (cd := c173) rfl [12, 56, 73, 89] 400 0 _ _ _ _ k
set_option maxRecDepth 100000 in
set_option maxHeartbeats 4000000 in
theorem k173_12 (l1 : Int) (h : zH) (Q : Option zV → zH → Prop) (k :
  (26 ≤ l1 →
    zC0 172 [vR 127 111, vI 0] h (fun h13 =>
    ((gI h13 127 18) = 0 →
      zK 173 56 [vR 127 111, vI l1] [] h13 Q) ∧
      (¬ ((gI h13 127 18) = 0) →
      zC1 163 [vR 127 111] h13 (fun v14 h14 =>
      (v14 = 61 →
        zK 173 56 [vR 127 111, vI l1] [] h14 Q) ∧
        (¬ (v14 = 61) →
        zC0 148 [vR 127 111] h14 (fun h15 =>
        zK 173 56 [vR 127 111, vI l1] [] h15 Q)))))) ∧
    (¬ (26 ≤ l1) →
    (0 ≤ (l1 : Int)) ∧ ((l1 : Int) < 26) ∧ ∀ h16 : zH, h16 = sI h 143 l1 0 →
    (inR (l1 + 1)) ∧ zK 173 12 [vR 127 111, vI (l1 + 1)] [] h16 Q)) : zK 173 12 [vR 127 111, vI l1] [] h Q :=
  zwpe_W (cd := c173) rfl [12, 56, 73, 89] 400 12 _ _ _ _ k
set_option maxRecDepth 100000 in
set_option maxHeartbeats 4000000 in
theorem k173_56 (u1 : zV) (h : zH) (Q : Option zV → zH → Prop) (k :
  ((gI h 127 18) = 0 →
    zK 173 73 [vR 127 111, u1] [vI 0, vI (gI h 127 16), vR 127 111] h Q) ∧
    (¬ ((gI h 127 18) = 0) →
    zK 173 73 [vR 127 111, u1] [vI 1, vI (gI h 127 16), vR 127 111] h Q)) : zK 173 56 [vR 127 111, u1] [] h Q :=
  zwpe_W (cd := c173) rfl [12, 56, 73, 89] 400 56 _ _ _ _ k
set_option maxRecDepth 100000 in
set_option maxHeartbeats 4000000 in
theorem k173_73 (u1 : zV) (s0 : Int) (s1 : Int) (h : zH) (Q : Option zV → zH → Prop) (k :
  (inR (s1 + s0)) ∧ ∀ h17 : zH, h17 = sI h 127 16 (s1 + s0) →
  ((gI h17 127 18) = 0 →
    zK 173 89 [vR 127 111, u1] [] h17 Q) ∧
    (¬ ((gI h17 127 18) = 0) →
    zC0 172 [vR 127 111, vI 1] h17 (fun h18 =>
    zK 173 89 [vR 127 111, u1] [] h18 Q))) : zK 173 73 [vR 127 111, u1] [vI s0, vI s1, vR 127 111] h Q :=
  zwpe_W (cd := c173) rfl [12, 56, 73, 89] 400 73 _ _ _ _ k
set_option maxRecDepth 100000 in
set_option maxHeartbeats 4000000 in
theorem k173_89 (u1 : zV) (h : zH) (Q : Option zV → zH → Prop) (k :
  ((gI h 127 18) = 0 →
    ((gI h 127 18 : Int) = 0 ∨ (gI h 127 18 : Int) = 1) ∧ Q (some (vI (gI h 127 18))) h) ∧
    (¬ ((gI h 127 18) = 0) →
    zC1 163 [vR 127 111] h (fun v19 h19 =>
    (v19 = (-1) →
      ((gI h19 127 18 : Int) = 0 ∨ (gI h19 127 18 : Int) = 1) ∧ Q (some (vI (gI h19 127 18))) h19) ∧
      (¬ (v19 = (-1)) →
      zC0 148 [vR 127 111] h19 (fun h20 =>
      ((gI h20 127 18 : Int) = 0 ∨ (gI h20 127 18 : Int) = 1) ∧ Q (some (vI (gI h20 127 18))) h20))))) : zK 173 89 [vR 127 111, u1] [] h Q :=
  zwpe_W (cd := c173) rfl [12, 56, 73, 89] 400 89 _ _ _ _ k
-- 174 SyntaxRulesModel.takeRule(I)V
set_option maxRecDepth 100000 in
set_option maxHeartbeats 4000000 in
theorem k174_0 (p1 : Int) (h : zH) (Q : Option zV → zH → Prop) (k :
  zK 174 2 [vR 127 111, vI p1, vI 0, vU] [] h Q) : zK 174 0 [vR 127 111, vI p1, vU, vU] [] h Q :=
  zwpe_W (cd := c174) rfl [2, 25] 400 0 _ _ _ _ k
set_option maxRecDepth 100000 in
set_option maxHeartbeats 4000000 in
theorem k174_2 (l1 : Int) (l2 : Int) (u3 : zV) (h : zH) (Q : Option zV → zH → Prop) (k :
  (2 ≤ l2 →
    Q none h) ∧
    (¬ (2 ≤ l2) →
    (inR (2 * l1)) ∧ (inR ((2 * l1) + l2)) ∧ (0 ≤ (l2 : Int)) ∧ ((l2 : Int) < 2) ∧ (0 ≤ ((2 * l1) + l2 : Int)) ∧ (((2 * l1) + l2 : Int) < 16) ∧ ∀ h3 : zH, h3 = sI h 140 ((2 * l1) + l2) (gI h 142 l2) →
    zK 174 25 [vR 127 111, vI l1, vI l2, vI 0] [] h3 Q)) : zK 174 2 [vR 127 111, vI l1, vI l2, u3] [] h Q :=
  zwpe_W (cd := c174) rfl [2, 25] 400 2 _ _ _ _ k
set_option maxRecDepth 100000 in
set_option maxHeartbeats 4000000 in
theorem k174_25 (l1 : Int) (l2 : Int) (l3 : Int) (h : zH) (Q : Option zV → zH → Prop) (k :
  (246 ≤ l3 →
    (inR (l2 + 1)) ∧ zK 174 2 [vR 127 111, vI l1, vI (l2 + 1), vI l3] [] h Q) ∧
    (¬ (246 ≤ l3) →
    (inR (2 * l1)) ∧ (inR ((2 * l1) + l2)) ∧ (inR (246 * ((2 * l1) + l2))) ∧ (inR ((246 * ((2 * l1) + l2)) + l3)) ∧ (inR (246 * l2)) ∧ (inR ((246 * l2) + l3)) ∧ (0 ≤ ((246 * l2) + l3 : Int)) ∧ (((246 * l2) + l3 : Int) < 492) ∧ (0 ≤ ((246 * ((2 * l1) + l2)) + l3 : Int)) ∧ (((246 * ((2 * l1) + l2)) + l3 : Int) < 3936) ∧ ∀ h4 : zH, h4 = sI h 139 ((246 * ((2 * l1) + l2)) + l3) (gI h 141 ((246 * l2) + l3)) →
    (inR (l3 + 1)) ∧ zK 174 25 [vR 127 111, vI l1, vI l2, vI (l3 + 1)] [] h4 Q)) : zK 174 25 [vR 127 111, vI l1, vI l2, vI l3] [] h Q :=
  zwpe_W (cd := c174) rfl [2, 25] 400 25 _ _ _ _ k
-- 175 SyntaxRulesModel.rule()I
set_option maxRecDepth 100000 in
set_option maxHeartbeats 4000000 in
theorem k175_0 (h : zH) (Q : Option zV → zH → Prop) (k :
  ∀ h11 : zH, h11 = sI h 127 0 0 →
  zC0 161 [vR 127 111] h11 (fun h12 =>
  zC1 173 [vR 127 111] h12 (fun v13 h13 =>
  (¬ v13 = 0 →
    zK 175 27 [vR 127 111, vI 0, vU] [] h13 Q) ∧
    (¬ (¬ v13 = 0) →
    (inR ((-1000) - (gI h13 127 17))) ∧ Q (some (vI ((-1000) - (gI h13 127 17)))) h13)))) : zK 175 0 [vR 127 111, vU, vU] [] h Q :=
  zwpe_W (cd := c175) rfl [27, 58] 400 0 _ _ _ _ k
set_option maxRecDepth 100000 in
set_option maxHeartbeats 4000000 in
theorem k175_27 (l1 : Int) (u2 : zV) (h : zH) (Q : Option zV → zH → Prop) (k :
  (8 ≤ l1 →
    (¬ l1 = 8 →
      zK 175 58 [vR 127 111, vI l1, vI 0] [] h Q) ∧
      (¬ (¬ l1 = 8) →
      Q (some (vI ((-3)))) h)) ∧
    (¬ (8 ≤ l1) →
    zC1 143 [vR 127 111, vI l1] h (fun v14 h14 =>
    (v14 = 0 →
      (¬ l1 = 8 →
        zK 175 58 [vR 127 111, vI l1, vI 0] [] h14 Q) ∧
        (¬ (¬ l1 = 8) →
        Q (some (vI ((-3)))) h14)) ∧
      (¬ (v14 = 0) →
      (inR (l1 + 1)) ∧ zK 175 27 [vR 127 111, vI (l1 + 1), u2] [] h14 Q)))) : zK 175 27 [vR 127 111, vI l1, u2] [] h Q :=
  zwpe_W (cd := c175) rfl [27, 58] 400 27 _ _ _ _ k
set_option maxRecDepth 100000 in
set_option maxHeartbeats 4000000 in
theorem k175_58 (l1 : Int) (l2 : Int) (h : zH) (Q : Option zV → zH → Prop) (k :
  ((gI h 127 9) ≤ l2 →
    zC1 142 [vI l1] h (fun v15 h15 =>
    (inR (v15 + 300)) ∧ (0 ≤ (v15 + 300 : Int)) ∧ ((v15 + 300 : Int) < 2709) ∧ ∀ h16 : zH, h16 = sI h15 128 (v15 + 300) (gI h15 127 9) →
    zC0 174 [vR 127 111, vI l1] h16 (fun h17 =>
    zC0 218 [vR 127 111] h17 (fun h18 =>
    Q (some (vI l1)) h18)))) ∧
    (¬ ((gI h 127 9) ≤ l2) →
    zC1 142 [vI l1] h (fun v19 h19 =>
    (inR (v19 + l2)) ∧ (0 ≤ (l2 : Int)) ∧ ((l2 : Int) < 302) ∧ (0 ≤ (v19 + l2 : Int)) ∧ ((v19 + l2 : Int) < 2709) ∧ ∀ h20 : zH, h20 = sI h19 128 (v19 + l2) (gI h19 133 l2) →
    (inR (l2 + 1)) ∧ zK 175 58 [vR 127 111, vI l1, vI (l2 + 1)] [] h20 Q))) : zK 175 58 [vR 127 111, vI l1, vI l2] [] h Q :=
  zwpe_W (cd := c175) rfl [27, 58] 400 58 _ _ _ _ k
-- 176 SyntaxRulesModel.readRules()V
set_option maxRecDepth 100000 in
set_option maxHeartbeats 4000000 in
theorem k176_0 (h : zH) (Q : Option zV → zH → Prop) (k :
  zK 176 2 [vR 127 111, vI 0, vU] [] h Q) : zK 176 0 [vR 127 111, vU, vU] [] h Q :=
  zwpe_W (cd := c176) rfl [2, 35] 400 0 _ _ _ _ k
set_option maxRecDepth 100000 in
set_option maxHeartbeats 4000000 in
theorem k176_2 (l1 : Int) (u2 : zV) (h : zH) (Q : Option zV → zH → Prop) (k :
  (8 ≤ l1 →
    zC0 218 [vR 127 111] h (fun h9 =>
    Q none h9)) ∧
    (¬ (8 ≤ l1) →
    zC1 143 [vR 127 111, vI l1] h (fun v10 h10 =>
    (v10 = 0 →
      (inR (l1 + 1)) ∧ zK 176 2 [vR 127 111, vI (l1 + 1), u2] [] h10 Q) ∧
      (¬ (v10 = 0) →
      zC1 142 [vI l1] h10 (fun v11 h11 =>
      (inR (v11 + 300)) ∧ (0 ≤ (v11 + 300 : Int)) ∧ ((v11 + 300 : Int) < 2709) ∧ ∀ h12 : zH, h12 = sI h11 127 9 (gI h11 128 (v11 + 300)) →
      zK 176 35 [vR 127 111, vI l1, vI 0] [] h12 Q))))) : zK 176 2 [vR 127 111, vI l1, u2] [] h Q :=
  zwpe_W (cd := c176) rfl [2, 35] 400 2 _ _ _ _ k
set_option maxRecDepth 100000 in
set_option maxHeartbeats 4000000 in
theorem k176_35 (l1 : Int) (l2 : Int) (h : zH) (Q : Option zV → zH → Prop) (k :
  ((gI h 127 9) ≤ l2 →
    zC1 173 [vR 127 111] h (fun v13 h13 =>
    zC0 174 [vR 127 111, vI l1] h13 (fun h14 =>
    (inR (l1 + 1)) ∧ zK 176 2 [vR 127 111, vI (l1 + 1), vI l2] [] h14 Q))) ∧
    (¬ ((gI h 127 9) ≤ l2) →
    zC1 142 [vI l1] h (fun v15 h15 =>
    (inR (v15 + l2)) ∧ (0 ≤ (v15 + l2 : Int)) ∧ ((v15 + l2 : Int) < 2709) ∧ (0 ≤ (l2 : Int)) ∧ ((l2 : Int) < 302) ∧ ∀ h16 : zH, h16 = sI h15 133 l2 (gI h15 128 (v15 + l2)) →
    (inR (l2 + 1)) ∧ zK 176 35 [vR 127 111, vI l1, vI (l2 + 1)] [] h16 Q))) : zK 176 35 [vR 127 111, vI l1, vI l2] [] h Q :=
  zwpe_W (cd := c176) rfl [2, 35] 400 35 _ _ _ _ k
-- 177 SyntaxRulesModel.rulesMany()I
set_option maxRecDepth 100000 in
set_option maxHeartbeats 4000000 in
theorem k177_0 (h : zH) (Q : Option zV → zH → Prop) (k :
  zK 177 4 [vR 127 111, vI 0, vI 0] [] h Q) : zK 177 0 [vR 127 111, vU, vU] [] h Q :=
  zwpe_W (cd := c177) rfl [4] 400 0 _ _ _ _ k
set_option maxRecDepth 100000 in
set_option maxHeartbeats 4000000 in
theorem k177_4 (l1 : Int) (l2 : Int) (h : zH) (Q : Option zV → zH → Prop) (k :
  (8 ≤ l2 →
    Q (some (vI l1)) h) ∧
    (¬ (8 ≤ l2) →
    zC1 143 [vR 127 111, vI l2] h (fun v2 h2 =>
    (v2 = 0 →
      (inR (l1 + 0)) ∧ (inR (l2 + 1)) ∧ zK 177 4 [vR 127 111, vI (l1 + 0), vI (l2 + 1)] [] h2 Q) ∧
      (¬ (v2 = 0) →
      (inR (l1 + 1)) ∧ (inR (l2 + 1)) ∧ zK 177 4 [vR 127 111, vI (l1 + 1), vI (l2 + 1)] [] h2 Q)))) : zK 177 4 [vR 127 111, vI l1, vI l2] [] h Q :=
  zwpe_W (cd := c177) rfl [4] 400 4 _ _ _ _ k
-- 178 SyntaxRulesModel.drop(I)I
set_option maxRecDepth 100000 in
set_option maxHeartbeats 4000000 in
theorem k178_0 (p1 : Int) (h : zH) (Q : Option zV → zH → Prop) (k :
  ∀ h7 : zH, h7 = sI h 127 0 0 →
  zC1 143 [vR 127 111, vI p1] h7 (fun v8 h8 =>
  (¬ v8 = 0 →
    zC1 142 [vI p1] h8 (fun v9 h9 =>
    (inR (v9 + 300)) ∧ (0 ≤ (v9 + 300 : Int)) ∧ ((v9 + 300 : Int) < 2709) ∧ ∀ h10 : zH, h10 = sI h9 128 (v9 + 300) 0 →
    zC0 218 [vR 127 111] h10 (fun h11 =>
    zC1 177 [vR 127 111] h11 (fun v12 h12 =>
    Q (some (vI v12)) h12)))) ∧
    (¬ (¬ v8 = 0) →
    Q (some (vI ((-2)))) h8))) : zK 178 0 [vR 127 111, vI p1] [] h Q :=
  zwpe_W (cd := c178) rfl [] 400 0 _ _ _ _ k
-- 179 SyntaxRulesModel.token(IIII)I
set_option maxRecDepth 100000 in
set_option maxHeartbeats 4000000 in
theorem k179_0 (p1 : Int) (p2 : Int) (p3 : Int) (p4 : Int) (h : zH) (Q : Option zV → zH → Prop) (k :
  (inR (2 * p1)) ∧ (inR ((2 * p1) + p2)) ∧ (inR (246 * ((2 * p1) + p2))) ∧ (inR (6 * p3)) ∧ (inR ((246 * ((2 * p1) + p2)) + (6 * p3))) ∧ (inR (((246 * ((2 * p1) + p2)) + (6 * p3)) + p4)) ∧ (0 ≤ (((246 * ((2 * p1) + p2)) + (6 * p3)) + p4 : Int)) ∧ ((((246 * ((2 * p1) + p2)) + (6 * p3)) + p4 : Int) < 3936) ∧ Q (some (vI (gI h 139 (((246 * ((2 * p1) + p2)) + (6 * p3)) + p4)))) h) : zK 179 0 [vR 127 111, vI p1, vI p2, vI p3, vI p4] [] h Q :=
  zwpe_W (cd := c179) rfl [] 400 0 _ _ _ _ k
-- 180 SyntaxRulesModel.isSame(II)Z
set_option maxRecDepth 100000 in
set_option maxHeartbeats 4000000 in
theorem k180_0 (p1 : Int) (p2 : Int) (h : zH) (Q : Option zV → zH → Prop) (k :
  zC1 158 [vR 127 111, vI p1, vI 0] h (fun v10 h10 =>
  zC1 158 [vR 127 111, vI p2, vI 0] h10 (fun v11 h11 =>
  (¬ v10 = v11 →
    zK 180 56 [vR 127 111, vI p1, vI p2, vI 0, vI 0] [] h11 Q) ∧
    (¬ (¬ v10 = v11) →
    zC1 158 [vR 127 111, vI p1, vI 9] h11 (fun v12 h12 =>
    zC1 158 [vR 127 111, vI p2, vI 9] h12 (fun v13 h13 =>
    (¬ v12 = v13 →
      zK 180 56 [vR 127 111, vI p1, vI p2, vI 0, vI 0] [] h13 Q) ∧
      (¬ (¬ v12 = v13) →
      zC1 158 [vR 127 111, vI p1, vI 3] h13 (fun v14 h14 =>
      zC1 158 [vR 127 111, vI p2, vI 3] h14 (fun v15 h15 =>
      (¬ v14 = v15 →
        zK 180 56 [vR 127 111, vI p1, vI p2, vI 0, vI 0] [] h15 Q) ∧
        (¬ (¬ v14 = v15) →
        zK 180 56 [vR 127 111, vI p1, vI p2, vI 1, vI 0] [] h15 Q)))))))))) : zK 180 0 [vR 127 111, vI p1, vI p2, vU, vU] [] h Q :=
  zwpe_W (cd := c180) rfl [56] 400 0 _ _ _ _ k
set_option maxRecDepth 100000 in
set_option maxHeartbeats 4000000 in
theorem k180_56 (l1 : Int) (l2 : Int) (l3 : Int) (l4 : Int) (h : zH) (Q : Option zV → zH → Prop) (k :
  (l3 = 0 →
    ((l3 : Int) = 0 ∨ (l3 : Int) = 1) ∧ Q (some (vI l3)) h) ∧
    (¬ (l3 = 0) →
    zC1 158 [vR 127 111, vI l1, vI 9] h (fun v16 h16 =>
    (v16 ≤ l4 →
      ((l3 : Int) = 0 ∨ (l3 : Int) = 1) ∧ Q (some (vI l3)) h16) ∧
      (¬ (v16 ≤ l4) →
      zC1 158 [vR 127 111, vI l1, vI 8] h16 (fun v17 h17 =>
      (inR (v17 + l4)) ∧ (0 ≤ (v17 + l4 : Int)) ∧ ((v17 + l4 : Int) < 2709) ∧ zC1 158 [vR 127 111, vI l2, vI 8] h17 (fun v18 h18 =>
      (inR (v18 + l4)) ∧ (0 ≤ (v18 + l4 : Int)) ∧ ((v18 + l4 : Int) < 2709) ∧ (¬ (gI h17 128 (v17 + l4)) = (gI h18 128 (v18 + l4)) →
        (inR (l4 + 1)) ∧ zK 180 56 [vR 127 111, vI l1, vI l2, vI 0, vI (l4 + 1)] [] h18 Q) ∧
        (¬ (¬ (gI h17 128 (v17 + l4)) = (gI h18 128 (v18 + l4))) →
        (inR (l4 + 1)) ∧ zK 180 56 [vR 127 111, vI l1, vI l2, vI 1, vI (l4 + 1)] [] h18 Q))))))) : zK 180 56 [vR 127 111, vI l1, vI l2, vI l3, vI l4] [] h Q :=
  zwpe_W (cd := c180) rfl [56] 400 56 _ _ _ _ k
-- 181 SyntaxRulesModel.areAlike(II)Z
set_option maxRecDepth 100000 in
set_option maxHeartbeats 4000000 in
theorem k181_0 (p1 : Int) (p2 : Int) (h : zH) (Q : Option zV → zH → Prop) (k :
  zC1 158 [vR 127 111, vI p1, vI 6] h (fun v5 h5 =>
  zC1 158 [vR 127 111, vI p2, vI 6] h5 (fun v6 h6 =>
  (¬ v5 = v6 →
    zK 181 26 [vR 127 111, vI p1, vI p2, vI 0, vI 0] [] h6 Q) ∧
    (¬ (¬ v5 = v6) →
    zK 181 26 [vR 127 111, vI p1, vI p2, vI 1, vI 0] [] h6 Q)))) : zK 181 0 [vR 127 111, vI p1, vI p2, vU, vU] [] h Q :=
  zwpe_W (cd := c181) rfl [26] 400 0 _ _ _ _ k
set_option maxRecDepth 100000 in
set_option maxHeartbeats 4000000 in
theorem k181_26 (l1 : Int) (l2 : Int) (l3 : Int) (l4 : Int) (h : zH) (Q : Option zV → zH → Prop) (k :
  (l3 = 0 →
    ((l3 : Int) = 0 ∨ (l3 : Int) = 1) ∧ Q (some (vI l3)) h) ∧
    (¬ (l3 = 0) →
    zC1 158 [vR 127 111, vI l1, vI 6] h (fun v7 h7 =>
    (v7 ≤ l4 →
      ((l3 : Int) = 0 ∨ (l3 : Int) = 1) ∧ Q (some (vI l3)) h7) ∧
      (¬ (v7 ≤ l4) →
      (inR (l1 + l4)) ∧ (inR (l2 + l4)) ∧ zC1 180 [vR 127 111, vI (l1 + l4), vI (l2 + l4)] h7 (fun v8 h8 =>
      (inR (l4 + 1)) ∧ zK 181 26 [vR 127 111, vI l1, vI l2, vI v8, vI (l4 + 1)] [] h8 Q))))) : zK 181 26 [vR 127 111, vI l1, vI l2, vI l3, vI l4] [] h Q :=
  zwpe_W (cd := c181) rfl [26] 400 26 _ _ _ _ k
-- 182 SyntaxRulesModel.areRowsAlike(III)Z
set_option maxRecDepth 100000 in
set_option maxHeartbeats 4000000 in
theorem k182_0 (p1 : Int) (p2 : Int) (p3 : Int) (h : zH) (Q : Option zV → zH → Prop) (k :
  zK 182 12 [vR 127 111, vI p1, vI p2, vI p3, vI p1, vI p2, vI 1, vI 0] [] h Q) : zK 182 0 [vR 127 111, vI p1, vI p2, vI p3, vU, vU, vU, vU] [] h Q :=
  zwpe_W (cd := c182) rfl [12] 400 0 _ _ _ _ k
set_option maxRecDepth 100000 in
set_option maxHeartbeats 4000000 in
theorem k182_12 (u1 : zV) (u2 : zV) (l3 : Int) (l4 : Int) (l5 : Int) (l6 : Int) (l7 : Int) (h : zH) (Q : Option zV → zH → Prop) (k :
  (l6 = 0 →
    ((l6 : Int) = 0 ∨ (l6 : Int) = 1) ∧ Q (some (vI l6)) h) ∧
    (¬ (l6 = 0) →
    (l3 ≤ l7 →
      ((l6 : Int) = 0 ∨ (l6 : Int) = 1) ∧ Q (some (vI l6)) h) ∧
      (¬ (l3 ≤ l7) →
      zC1 181 [vR 127 111, vI l4, vI l5] h (fun v4 h4 =>
      zC1 158 [vR 127 111, vI l4, vI 6] h4 (fun v5 h5 =>
      (inR (l4 + v5)) ∧ zC1 158 [vR 127 111, vI l5, vI 6] h5 (fun v6 h6 =>
      (inR (l5 + v6)) ∧ (inR (l7 + 1)) ∧ zK 182 12 [vR 127 111, u1, u2, vI l3, vI (l4 + v5), vI (l5 + v6), vI v4, vI (l7 + 1)] [] h6 Q)))))) : zK 182 12 [vR 127 111, u1, u2, vI l3, vI l4, vI l5, vI l6, vI l7] [] h Q :=
  zwpe_W (cd := c182) rfl [12] 400 12 _ _ _ _ k
-- 183 SyntaxRulesModel.isName(IIII)Z
set_option maxRecDepth 100000 in
set_option maxHeartbeats 4000000 in
theorem k183_0 (p1 : Int) (p2 : Int) (p3 : Int) (p4 : Int) (h : zH) (Q : Option zV → zH → Prop) (k :
  zC1 179 [vR 127 111, vI p1, vI 0, vI p2, vI 4] h (fun v7 h7 =>
  zC1 158 [vR 127 111, vI p4, vI 0] h7 (fun v8 h8 =>
  (¬ v8 = p3 →
    zK 183 44 [vR 127 111, vI p1, vI p2, vI p3, vI p4, vI v7, vI 0, vI 0] [] h8 Q) ∧
    (¬ (¬ v8 = p3) →
    zC1 158 [vR 127 111, vI p4, vI 9] h8 (fun v9 h9 =>
    (¬ v9 = v7 →
      zK 183 44 [vR 127 111, vI p1, vI p2, vI p3, vI p4, vI v7, vI 0, vI 0] [] h9 Q) ∧
      (¬ (¬ v9 = v7) →
      zK 183 44 [vR 127 111, vI p1, vI p2, vI p3, vI p4, vI v7, vI 1, vI 0] [] h9 Q)))))) : zK 183 0 [vR 127 111, vI p1, vI p2, vI p3, vI p4, vU, vU, vU] [] h Q :=
  zwpe_W (cd := c183) rfl [44] 400 0 _ _ _ _ k
set_option maxRecDepth 100000 in
set_option maxHeartbeats 4000000 in
theorem k183_44 (l1 : Int) (l2 : Int) (u3 : zV) (l4 : Int) (l5 : Int) (l6 : Int) (l7 : Int) (h : zH) (Q : Option zV → zH → Prop) (k :
  (l6 = 0 →
    ((l6 : Int) = 0 ∨ (l6 : Int) = 1) ∧ Q (some (vI l6)) h) ∧
    (¬ (l6 = 0) →
    (l5 ≤ l7 →
      ((l6 : Int) = 0 ∨ (l6 : Int) = 1) ∧ Q (some (vI l6)) h) ∧
      (¬ (l5 ≤ l7) →
      zC1 158 [vR 127 111, vI l4, vI 8] h (fun v10 h10 =>
      (inR (v10 + l7)) ∧ (0 ≤ (v10 + l7 : Int)) ∧ ((v10 + l7 : Int) < 2709) ∧ zC1 142 [vI l1] h10 (fun v11 h11 =>
      zC1 179 [vR 127 111, vI l1, vI 0, vI l2, vI 3] h11 (fun v12 h12 =>
      (inR (v11 + v12)) ∧ (inR ((v11 + v12) + l7)) ∧ (0 ≤ ((v11 + v12) + l7 : Int)) ∧ (((v11 + v12) + l7 : Int) < 2709) ∧ (¬ (gI h10 128 (v10 + l7)) = (gI h12 128 ((v11 + v12) + l7)) →
        (inR (l7 + 1)) ∧ zK 183 44 [vR 127 111, vI l1, vI l2, u3, vI l4, vI l5, vI 0, vI (l7 + 1)] [] h12 Q) ∧
        (¬ (¬ (gI h10 128 (v10 + l7)) = (gI h12 128 ((v11 + v12) + l7))) →
        (inR (l7 + 1)) ∧ zK 183 44 [vR 127 111, vI l1, vI l2, u3, vI l4, vI l5, vI 1, vI (l7 + 1)] [] h12 Q))))))) : zK 183 44 [vR 127 111, vI l1, vI l2, u3, vI l4, vI l5, vI l6, vI l7] [] h Q :=
  zwpe_W (cd := c183) rfl [44] 400 44 _ _ _ _ k
-- 184 SyntaxRulesModel.fitsHole(III)Z
set_option maxRecDepth 100000 in
set_option maxHeartbeats 4000000 in
theorem k184_0 (p1 : Int) (p2 : Int) (p3 : Int) (h : zH) (Q : Option zV → zH → Prop) (k :
  zC1 179 [vR 127 111, vI p1, vI 0, vI p2, vI 1] h (fun v7 h7 =>
  zC1 179 [vR 127 111, vI p1, vI 0, vI p2, vI 2] h7 (fun v8 h8 =>
  (v8 = (-1) →
    zK 184 39 [vR 127 111, vI p1, vI p2, vI p3, vI v7, vI v8] [] h8 Q) ∧
    (¬ (v8 = (-1)) →
    zC1 158 [vR 127 111, vI p3, vI 0] h8 (fun v9 h9 =>
    (v9 = v8 →
      zK 184 39 [vR 127 111, vI p1, vI p2, vI p3, vI v7, vI v8] [] h9 Q) ∧
      (¬ (v9 = v8) →
      ((0 : Int) = 0 ∨ (0 : Int) = 1) ∧ Q (some (vI 0)) h9)))))) : zK 184 0 [vR 127 111, vI p1, vI p2, vI p3, vU, vU] [] h Q :=
  zwpe_W (cd := c184) rfl [39] 400 0 _ _ _ _ k
set_option maxRecDepth 100000 in
set_option maxHeartbeats 4000000 in
theorem k184_39 (u1 : zV) (u2 : zV) (l3 : Int) (l4 : Int) (u5 : zV) (h : zH) (Q : Option zV → zH → Prop) (k :
  (0 ≤ (l4 : Int)) ∧ ((l4 : Int) < 26) ∧ ((gI h 147 l4) = (-1) →
    (0 ≤ (l4 : Int)) ∧ ((l4 : Int) < 26) ∧ ∀ h10 : zH, h10 = sI h 146 l4 l3 →
    (0 ≤ (l4 : Int)) ∧ ((l4 : Int) < 26) ∧ ∀ h11 : zH, h11 = sI h10 147 l4 1 →
    ((1 : Int) = 0 ∨ (1 : Int) = 1) ∧ Q (some (vI 1)) h11) ∧
    (¬ ((gI h 147 l4) = (-1)) →
    (0 ≤ (l4 : Int)) ∧ ((l4 : Int) < 26) ∧ zC1 181 [vR 127 111, vI (gI h 146 l4), vI l3] h (fun v12 h12 =>
    ((v12 : Int) = 0 ∨ (v12 : Int) = 1) ∧ Q (some (vI v12)) h12))) : zK 184 39 [vR 127 111, u1, u2, vI l3, vI l4, u5] [] h Q :=
  zwpe_W (cd := c184) rfl [39] 400 39 _ _ _ _ k
-- 185 SyntaxRulesModel.fitsRow(III)Z
set_option maxRecDepth 100000 in
set_option maxHeartbeats 4000000 in
theorem k185_0 (p1 : Int) (p2 : Int) (p3 : Int) (h : zH) (Q : Option zV → zH → Prop) (k :
  zC1 179 [vR 127 111, vI p1, vI 0, vI p2, vI 1] h (fun v10 h10 =>
  (0 ≤ (gI h10 127 35 : Int)) ∧ ((gI h10 127 35 : Int) < 3) ∧ (inR ((gI h10 127 35) + 1)) ∧ ∀ h11 : zH, h11 = sI h10 127 35 ((gI h10 127 35) + 1) →
  (0 ≤ (p3 : Int)) ∧ ((p3 : Int) < 21) ∧ ((gI h10 145 (gI h10 127 35)) ≤ (gI h11 149 p3) →
    (0 ≤ (p3 : Int)) ∧ ((p3 : Int) < 21) ∧ zK 185 60 [vR 127 111, vI p1, vI p2, vI p3, vI v10, vI (gI h10 145 (gI h10 127 35)), vI (gI h11 148 p3), vI 0] [] h11 Q) ∧
    (¬ ((gI h10 145 (gI h10 127 35)) ≤ (gI h11 149 p3)) →
    ((1 : Int) = 0 ∨ (1 : Int) = 1) ∧ ∀ h12 : zH, h12 = sI h11 127 36 1 →
    ((0 : Int) = 0 ∨ (0 : Int) = 1) ∧ Q (some (vI 0)) h12))) : zK 185 0 [vR 127 111, vI p1, vI p2, vI p3, vU, vU, vU, vU] [] h Q :=
  zwpe_W (cd := c185) rfl [60] 400 0 _ _ _ _ k
set_option maxRecDepth 100000 in
set_option maxHeartbeats 4000000 in
theorem k185_60 (u1 : zV) (u2 : zV) (l3 : Int) (l4 : Int) (l5 : Int) (l6 : Int) (l7 : Int) (h : zH) (Q : Option zV → zH → Prop) (k :
  (l5 ≤ l7 →
    (0 ≤ (l3 : Int)) ∧ ((l3 : Int) < 21) ∧ (inR ((gI h 149 l3) - l5)) ∧ (0 ≤ (l3 : Int)) ∧ ((l3 : Int) < 21) ∧ ∀ h13 : zH, h13 = sI h 149 l3 ((gI h 149 l3) - l5) →
    (0 ≤ (l4 : Int)) ∧ ((l4 : Int) < 26) ∧ ((gI h13 147 l4) = (-1) →
      (0 ≤ (l4 : Int)) ∧ ((l4 : Int) < 26) ∧ ∀ h14 : zH, h14 = sI h13 146 l4 l6 →
      (0 ≤ (l4 : Int)) ∧ ((l4 : Int) < 26) ∧ ∀ h15 : zH, h15 = sI h14 147 l4 l5 →
      ((1 : Int) = 0 ∨ (1 : Int) = 1) ∧ Q (some (vI 1)) h15) ∧
      (¬ ((gI h13 147 l4) = (-1)) →
      (0 ≤ (l4 : Int)) ∧ ((l4 : Int) < 26) ∧ (¬ (gI h13 147 l4) = l5 →
        ((0 : Int) = 0 ∨ (0 : Int) = 1) ∧ Q (some (vI 0)) h13) ∧
        (¬ (¬ (gI h13 147 l4) = l5) →
        (0 ≤ (l4 : Int)) ∧ ((l4 : Int) < 26) ∧ zC1 182 [vR 127 111, vI (gI h13 146 l4), vI l6, vI l5] h13 (fun v16 h16 =>
        (v16 = 0 →
          ((0 : Int) = 0 ∨ (0 : Int) = 1) ∧ Q (some (vI 0)) h16) ∧
          (¬ (v16 = 0) →
          ((1 : Int) = 0 ∨ (1 : Int) = 1) ∧ Q (some (vI 1)) h16))))) ∧
    (¬ (l5 ≤ l7) →
    (0 ≤ (l3 : Int)) ∧ ((l3 : Int) < 21) ∧ (0 ≤ (l3 : Int)) ∧ ((l3 : Int) < 21) ∧ zC1 158 [vR 127 111, vI (gI h 148 l3), vI 6] h (fun v17 h17 =>
    (inR ((gI h 148 l3) + v17)) ∧ (0 ≤ (l3 : Int)) ∧ ((l3 : Int) < 21) ∧ ∀ h18 : zH, h18 = sI h17 148 l3 ((gI h 148 l3) + v17) →
    (inR (l7 + 1)) ∧ zK 185 60 [vR 127 111, u1, u2, vI l3, vI l4, vI l5, vI l6, vI (l7 + 1)] [] h18 Q))) : zK 185 60 [vR 127 111, u1, u2, vI l3, vI l4, vI l5, vI l6, vI l7] [] h Q :=
  zwpe_W (cd := c185) rfl [60] 400 60 _ _ _ _ k
-- 186 SyntaxRulesModel.fitsLeaf(III)Z
set_option maxRecDepth 100000 in
set_option maxHeartbeats 4000000 in
theorem k186_0 (p1 : Int) (p2 : Int) (p3 : Int) (h : zH) (Q : Option zV → zH → Prop) (k :
  zC1 179 [vR 127 111, vI p1, vI 0, vI p2, vI 0] h (fun v6 h6 =>
  (v6 = (0 : Int) →
    ((1 : Int) = 0 ∨ (1 : Int) = 1) ∧ Q (some (vI 1)) h6) ∧
    (¬ (v6 = (0 : Int)) →
    (v6 = ((0 : Int) + 1) →
    zC1 184 [vR 127 111, vI p1, vI p2, vI p3] h6 (fun v10 h10 =>
    ((v10 : Int) = 0 ∨ (v10 : Int) = 1) ∧ Q (some (vI v10)) h10)) ∧
    (¬ (v6 = ((0 : Int) + 1)) →
    (v6 = ((0 : Int) + 1 + 1) →
    zC1 183 [vR 127 111, vI p1, vI p2, vI 0, vI p3] h6 (fun v9 h9 =>
    ((v9 : Int) = 0 ∨ (v9 : Int) = 1) ∧ Q (some (vI v9)) h9)) ∧
    (¬ (v6 = ((0 : Int) + 1 + 1)) →
    (v6 = ((0 : Int) + 1 + 1 + 1) →
    zC1 183 [vR 127 111, vI p1, vI p2, vI 1, vI p3] h6 (fun v8 h8 =>
    ((v8 : Int) = 0 ∨ (v8 : Int) = 1) ∧ Q (some (vI v8)) h8)) ∧
    (¬ (v6 = ((0 : Int) + 1 + 1 + 1)) →
    zC1 183 [vR 127 111, vI p1, vI p2, vI 0, vI p3] h6 (fun v7 h7 =>
    ((v7 : Int) = 0 ∨ (v7 : Int) = 1) ∧ Q (some (vI v7)) h7))))))) : zK 186 0 [vR 127 111, vI p1, vI p2, vI p3] [] h Q :=
  zwpe_W (cd := c186) rfl [] 400 0 _ _ _ _ k
-- 187 SyntaxRulesModel.goesAlong(III)Z
set_option maxRecDepth 100000 in
set_option maxHeartbeats 4000000 in
theorem k187_0 (p1 : Int) (p2 : Int) (p3 : Int) (h : zH) (Q : Option zV → zH → Prop) (k :
  ∀ h17 : zH, h17 = sI h 127 35 0 →
  ((0 : Int) = 0 ∨ (0 : Int) = 1) ∧ ∀ h18 : zH, h18 = sI h17 127 36 0 →
  zK 187 13 [vR 127 111, vI p1, vI p2, vI p3, vI 0, vU, vU, vU, vU] [] h18 Q) : zK 187 0 [vR 127 111, vI p1, vI p2, vI p3, vU, vU, vU, vU, vU] [] h Q :=
  zwpe_W (cd := c187) rfl [13, 43, 61, 178] 400 0 _ _ _ _ k
set_option maxRecDepth 100000 in
set_option maxHeartbeats 4000000 in
theorem k187_13 (l1 : Int) (l2 : Int) (l3 : Int) (l4 : Int) (u5 : zV) (u6 : zV) (u7 : zV) (u8 : zV) (h : zH) (Q : Option zV → zH → Prop) (k :
  (26 ≤ l4 →
    zK 187 43 [vR 127 111, vI l1, vI l2, vI l3, vI ((-1)), vI l3, vI l2, u7, u8] [] h Q) ∧
    (¬ (26 ≤ l4) →
    (0 ≤ (l4 : Int)) ∧ ((l4 : Int) < 26) ∧ ∀ h19 : zH, h19 = sI h 147 l4 (-1) →
    (inR (l4 + 1)) ∧ zK 187 13 [vR 127 111, vI l1, vI l2, vI l3, vI (l4 + 1), u5, u6, u7, u8] [] h19 Q)) : zK 187 13 [vR 127 111, vI l1, vI l2, vI l3, vI l4, u5, u6, u7, u8] [] h Q :=
  zwpe_W (cd := c187) rfl [13, 43, 61, 178] 400 13 _ _ _ _ k
set_option maxRecDepth 100000 in
set_option maxHeartbeats 4000000 in
theorem k187_43 (l1 : Int) (l2 : Int) (u3 : zV) (l4 : Int) (l5 : Int) (l6 : Int) (u7 : zV) (u8 : zV) (h : zH) (Q : Option zV → zH → Prop) (k :
  (l6 = l2 →
    zK 187 61 [vR 127 111, vI l1, vI l2, u3, vI l4, vI l5, vI l6, u7, u8] [] h Q) ∧
    (¬ (l6 = l2) →
    (¬ l4 = (-1) →
      zK 187 61 [vR 127 111, vI l1, vI l2, u3, vI l4, vI l5, vI l6, u7, u8] [] h Q) ∧
      (¬ (¬ l4 = (-1)) →
      (l5 = (-1) →
        ((1 : Int) = 0 ∨ (1 : Int) = 1) ∧ Q (some (vI 1)) h) ∧
        (¬ (l5 = (-1)) →
        zK 187 61 [vR 127 111, vI l1, vI l2, u3, vI l4, vI l5, vI l6, u7, u8] [] h Q)))) : zK 187 43 [vR 127 111, vI l1, vI l2, u3, vI l4, vI l5, vI l6, u7, u8] [] h Q :=
  zwpe_W (cd := c187) rfl [13, 43, 61, 178] 400 43 _ _ _ _ k
set_option maxRecDepth 100000 in
set_option maxHeartbeats 4000000 in
theorem k187_61 (l1 : Int) (l2 : Int) (u3 : zV) (l4 : Int) (l5 : Int) (l6 : Int) (u7 : zV) (u8 : zV) (h : zH) (Q : Option zV → zH → Prop) (k :
  zC1 179 [vR 127 111, vI l1, vI 0, vI l6, vI 0] h (fun v20 h20 =>
  (¬ v20 = 7 →
    (¬ v20 = 6 →
      (¬ l5 = (-1) →
        zK 187 178 [vR 127 111, vI l1, vI l2, u3, vI l4, vI l5, vI l6, vI v20, vI l5] [] h20 Q) ∧
        (¬ (¬ l5 = (-1)) →
        (0 ≤ (l4 : Int)) ∧ ((l4 : Int) < 21) ∧ (¬ (gI h20 149 l4) = 0 →
          (0 ≤ (l4 : Int)) ∧ ((l4 : Int) < 21) ∧ (0 ≤ (l4 : Int)) ∧ ((l4 : Int) < 21) ∧ zC1 158 [vR 127 111, vI (gI h20 148 l4), vI 6] h20 (fun v21 h21 =>
          (inR ((gI h20 148 l4) + v21)) ∧ (0 ≤ (l4 : Int)) ∧ ((l4 : Int) < 21) ∧ ∀ h22 : zH, h22 = sI h21 148 l4 ((gI h20 148 l4) + v21) →
          (0 ≤ (l4 : Int)) ∧ ((l4 : Int) < 21) ∧ (inR ((gI h22 149 l4) - 1)) ∧ (0 ≤ (l4 : Int)) ∧ ((l4 : Int) < 21) ∧ ∀ h23 : zH, h23 = sI h22 149 l4 ((gI h22 149 l4) - 1) →
          zK 187 178 [vR 127 111, vI l1, vI l2, u3, vI l4, vI l5, vI l6, vI v20, vI (gI h20 148 l4)] [] h23 Q)) ∧
          (¬ (¬ (gI h20 149 l4) = 0) →
          ((0 : Int) = 0 ∨ (0 : Int) = 1) ∧ Q (some (vI 0)) h20))) ∧
      (¬ (¬ v20 = 6) →
      zC1 185 [vR 127 111, vI l1, vI l6, vI l4] h20 (fun v24 h24 =>
      (¬ v24 = 0 →
        (inR (l6 + 1)) ∧ zK 187 43 [vR 127 111, vI l1, vI l2, u3, vI l4, vI l5, vI (l6 + 1), vI v20, u8] [] h24 Q) ∧
        (¬ (¬ v24 = 0) →
        ((0 : Int) = 0 ∨ (0 : Int) = 1) ∧ Q (some (vI 0)) h24)))) ∧
    (¬ (¬ v20 = 7) →
    (0 ≤ (l4 : Int)) ∧ ((l4 : Int) < 21) ∧ ((gI h20 149 l4) ≤ 0 →
      (inR (l4 + (-1))) ∧ (inR (l6 + 1)) ∧ zK 187 43 [vR 127 111, vI l1, vI l2, u3, vI (l4 + (-1)), vI l5, vI (l6 + 1), vI v20, u8] [] h20 Q) ∧
      (¬ ((gI h20 149 l4) ≤ 0) →
      ((0 : Int) = 0 ∨ (0 : Int) = 1) ∧ Q (some (vI 0)) h20)))) : zK 187 61 [vR 127 111, vI l1, vI l2, u3, vI l4, vI l5, vI l6, u7, u8] [] h Q :=
  zwpe_W (cd := c187) rfl [13, 43, 61, 178] 400 61 _ _ _ _ k
set_option maxRecDepth 100000 in
set_option maxHeartbeats 4000000 in
theorem k187_178 (l1 : Int) (l2 : Int) (u3 : zV) (l4 : Int) (u5 : zV) (l6 : Int) (l7 : Int) (l8 : Int) (h : zH) (Q : Option zV → zH → Prop) (k :
  (¬ l7 = 2 →
    (¬ l7 = 5 →
      zC1 186 [vR 127 111, vI l1, vI l6, vI l8] h (fun v25 h25 =>
      (¬ v25 = 0 →
        (inR (l6 + 1)) ∧ zK 187 43 [vR 127 111, vI l1, vI l2, u3, vI l4, vI ((-1)), vI (l6 + 1), vI l7, vI l8] [] h25 Q) ∧
        (¬ (¬ v25 = 0) →
        ((0 : Int) = 0 ∨ (0 : Int) = 1) ∧ Q (some (vI 0)) h25))) ∧
      (¬ (¬ l7 = 5) →
      zC1 183 [vR 127 111, vI l1, vI l6, vI 2, vI l8] h (fun v26 h26 =>
      (¬ v26 = 0 →
        (inR (l4 + 1)) ∧ (inR (l8 + 1)) ∧ (0 ≤ (l4 + 1 : Int)) ∧ ((l4 + 1 : Int) < 21) ∧ ∀ h27 : zH, h27 = sI h26 148 (l4 + 1) (l8 + 1) →
        zC1 158 [vR 127 111, vI l8, vI 3] h27 (fun v28 h28 =>
        (0 ≤ (l4 + 1 : Int)) ∧ ((l4 + 1 : Int) < 21) ∧ ∀ h29 : zH, h29 = sI h28 149 (l4 + 1) v28 →
        (inR (l6 + 1)) ∧ zK 187 43 [vR 127 111, vI l1, vI l2, u3, vI (l4 + 1), vI ((-1)), vI (l6 + 1), vI l7, vI l8] [] h29 Q)) ∧
        (¬ (¬ v26 = 0) →
        ((0 : Int) = 0 ∨ (0 : Int) = 1) ∧ Q (some (vI 0)) h26)))) ∧
    (¬ (¬ l7 = 2) →
    (0 ≤ (gI h 127 35 : Int)) ∧ ((gI h 127 35 : Int) < 3) ∧ (inR (l8 + (gI h 145 (gI h 127 35)))) ∧ (inR ((gI h 127 35) + 1)) ∧ ∀ h30 : zH, h30 = sI h 127 35 ((gI h 127 35) + 1) →
    zC1 158 [vR 127 111, vI l8, vI 6] h30 (fun v31 h31 =>
    (inR (l8 + v31)) ∧ ((l8 + (gI h 145 (gI h 127 35))) < (l8 + v31) →
      (inR (l6 + 1)) ∧ zK 187 43 [vR 127 111, vI l1, vI l2, u3, vI l4, vI (l8 + (gI h 145 (gI h 127 35))), vI (l6 + 1), vI l7, vI l8] [] h31 Q) ∧
      (¬ ((l8 + (gI h 145 (gI h 127 35))) < (l8 + v31)) →
      ((1 : Int) = 0 ∨ (1 : Int) = 1) ∧ ∀ h32 : zH, h32 = sI h31 127 36 1 →
      ((0 : Int) = 0 ∨ (0 : Int) = 1) ∧ Q (some (vI 0)) h32)))) : zK 187 178 [vR 127 111, vI l1, vI l2, u3, vI l4, u5, vI l6, vI l7, vI l8] [] h Q :=
  zwpe_W (cd := c187) rfl [13, 43, 61, 178] 400 178 _ _ _ _ k
-- 188 SyntaxRulesModel.goesOn()Z
set_option maxRecDepth 100000 in
set_option maxHeartbeats 4000000 in
theorem k188_0 (h : zH) (Q : Option zV → zH → Prop) (k :
  ((gI h 127 36) = 0 →
    (inR ((gI h 127 35) - 1)) ∧ zK 188 22 [vR 127 111, vU, vU] [vI ((gI h 127 35) - 1)] h Q) ∧
    (¬ ((gI h 127 36) = 0) →
    (inR ((gI h 127 35) - 2)) ∧ zK 188 22 [vR 127 111, vU, vU] [vI ((gI h 127 35) - 2)] h Q)) : zK 188 0 [vR 127 111, vU, vU] [] h Q :=
  zwpe_W (cd := c188) rfl [22, 43] 400 0 _ _ _ _ k
set_option maxRecDepth 100000 in
set_option maxHeartbeats 4000000 in
theorem k188_22 (u1 : zV) (u2 : zV) (s0 : Int) (h : zH) (Q : Option zV → zH → Prop) (k :
  (0 ≤ s0 →
    (0 ≤ (s0 : Int)) ∧ ((s0 : Int) < 3) ∧ (inR ((gI h 145 s0) + 1)) ∧ (0 ≤ (s0 : Int)) ∧ ((s0 : Int) < 3) ∧ ∀ h3 : zH, h3 = sI h 145 s0 ((gI h 145 s0) + 1) →
    (inR (s0 + 1)) ∧ zK 188 43 [vR 127 111, vI s0, vI (s0 + 1)] [] h3 Q) ∧
    (¬ (0 ≤ s0) →
    ((0 : Int) = 0 ∨ (0 : Int) = 1) ∧ Q (some (vI 0)) h)) : zK 188 22 [vR 127 111, u1, u2] [vI s0] h Q :=
  zwpe_W (cd := c188) rfl [22, 43] 400 22 _ _ _ _ k
set_option maxRecDepth 100000 in
set_option maxHeartbeats 4000000 in
theorem k188_43 (u1 : zV) (l2 : Int) (h : zH) (Q : Option zV → zH → Prop) (k :
  (3 ≤ l2 →
    ((1 : Int) = 0 ∨ (1 : Int) = 1) ∧ Q (some (vI 1)) h) ∧
    (¬ (3 ≤ l2) →
    (0 ≤ (l2 : Int)) ∧ ((l2 : Int) < 3) ∧ ∀ h4 : zH, h4 = sI h 145 l2 0 →
    (inR (l2 + 1)) ∧ zK 188 43 [vR 127 111, u1, vI (l2 + 1)] [] h4 Q)) : zK 188 43 [vR 127 111, u1, vI l2] [] h Q :=
  zwpe_W (cd := c188) rfl [22, 43] 400 43 _ _ _ _ k
-- 189 SyntaxRulesModel.startChoices()V
set_option maxRecDepth 100000 in
set_option maxHeartbeats 4000000 in
theorem k189_0 (h : zH) (Q : Option zV → zH → Prop) (k :
  zK 189 2 [vR 127 111, vI 0] [] h Q) : zK 189 0 [vR 127 111, vU] [] h Q :=
  zwpe_W (cd := c189) rfl [2] 400 0 _ _ _ _ k
set_option maxRecDepth 100000 in
set_option maxHeartbeats 4000000 in
theorem k189_2 (l1 : Int) (h : zH) (Q : Option zV → zH → Prop) (k :
  (3 ≤ l1 →
    Q none h) ∧
    (¬ (3 ≤ l1) →
    (0 ≤ (l1 : Int)) ∧ ((l1 : Int) < 3) ∧ ∀ h2 : zH, h2 = sI h 145 l1 0 →
    (inR (l1 + 1)) ∧ zK 189 2 [vR 127 111, vI (l1 + 1)] [] h2 Q)) : zK 189 2 [vR 127 111, vI l1] [] h Q :=
  zwpe_W (cd := c189) rfl [2] 400 2 _ _ _ _ k
-- 190 SyntaxRulesModel.fits(III)Z
set_option maxRecDepth 100000 in
set_option maxHeartbeats 4000000 in
theorem k190_0 (p1 : Int) (p2 : Int) (p3 : Int) (h : zH) (Q : Option zV → zH → Prop) (k :
  zC0 189 [vR 127 111] h (fun h5 =>
  zC1 187 [vR 127 111, vI p1, vI p2, vI p3] h5 (fun v6 h6 =>
  zK 190 13 [vR 127 111, vI p1, vI p2, vI p3, vI v6] [] h6 Q))) : zK 190 0 [vR 127 111, vI p1, vI p2, vI p3, vU] [] h Q :=
  zwpe_W (cd := c190) rfl [13] 400 0 _ _ _ _ k
set_option maxRecDepth 100000 in
set_option maxHeartbeats 4000000 in
theorem k190_13 (l1 : Int) (l2 : Int) (l3 : Int) (l4 : Int) (h : zH) (Q : Option zV → zH → Prop) (k :
  (¬ l4 = 0 →
    ((l4 : Int) = 0 ∨ (l4 : Int) = 1) ∧ Q (some (vI l4)) h) ∧
    (¬ (¬ l4 = 0) →
    zC1 188 [vR 127 111] h (fun v7 h7 =>
    (v7 = 0 →
      ((l4 : Int) = 0 ∨ (l4 : Int) = 1) ∧ Q (some (vI l4)) h7) ∧
      (¬ (v7 = 0) →
      zC1 187 [vR 127 111, vI l1, vI l2, vI l3] h7 (fun v8 h8 =>
      zK 190 13 [vR 127 111, vI l1, vI l2, vI l3, vI v8] [] h8 Q))))) : zK 190 13 [vR 127 111, vI l1, vI l2, vI l3, vI l4] [] h Q :=
  zwpe_W (cd := c190) rfl [13] 400 13 _ _ _ _ k
-- 191 SyntaxRulesModel.fits(II)Z
set_option maxRecDepth 100000 in
set_option maxHeartbeats 4000000 in
theorem k191_0 (p1 : Int) (p2 : Int) (h : zH) (Q : Option zV → zH → Prop) (k :
  zC1 143 [vR 127 111, vI p1] h (fun v3 h3 =>
  (v3 = 0 →
    ((0 : Int) = 0 ∨ (0 : Int) = 1) ∧ Q (some (vI 0)) h3) ∧
    (¬ (v3 = 0) →
    zC1 190 [vR 127 111, vI p1, vI 0, vI p2] h3 (fun v4 h4 =>
    (v4 = 0 →
      ((0 : Int) = 0 ∨ (0 : Int) = 1) ∧ Q (some (vI 0)) h4) ∧
      (¬ (v4 = 0) →
      ((1 : Int) = 0 ∨ (1 : Int) = 1) ∧ Q (some (vI 1)) h4))))) : zK 191 0 [vR 127 111, vI p1, vI p2] [] h Q :=
  zwpe_W (cd := c191) rfl [] 400 0 _ _ _ _ k
-- 192 SyntaxRulesModel.ways(II)I
set_option maxRecDepth 100000 in
set_option maxHeartbeats 4000000 in
theorem k192_0 (p1 : Int) (p2 : Int) (h : zH) (Q : Option zV → zH → Prop) (k :
  ∀ h8 : zH, h8 = sI h 127 0 0 →
  zC1 143 [vR 127 111, vI p1] h8 (fun v9 h9 =>
  (v9 = 0 →
    Q (some (vI ((-1)))) h9) ∧
    (¬ (v9 = 0) →
    zC1 157 [vR 127 111, vI p2] h9 (fun v10 h10 =>
    (¬ v10 = 0 →
      zC0 189 [vR 127 111] h10 (fun h11 =>
      zK 192 32 [vR 127 111, vI p1, vI p2, vI 0, vI 1] [] h11 Q)) ∧
      (¬ (¬ v10 = 0) →
      Q (some (vI ((-1)))) h10))))) : zK 192 0 [vR 127 111, vI p1, vI p2, vU, vU] [] h Q :=
  zwpe_W (cd := c192) rfl [32] 400 0 _ _ _ _ k
set_option maxRecDepth 100000 in
set_option maxHeartbeats 4000000 in
theorem k192_32 (l1 : Int) (l2 : Int) (l3 : Int) (l4 : Int) (h : zH) (Q : Option zV → zH → Prop) (k :
  (l4 = 0 →
    Q (some (vI l3)) h) ∧
    (¬ (l4 = 0) →
    (500 ≤ l3 →
      Q (some (vI l3)) h) ∧
      (¬ (500 ≤ l3) →
      zC1 187 [vR 127 111, vI l1, vI 0, vI l2] h (fun v12 h12 =>
      (v12 = 0 →
        (inR (l3 + 0)) ∧ zC1 188 [vR 127 111] h12 (fun v13 h13 =>
        zK 192 32 [vR 127 111, vI l1, vI l2, vI (l3 + 0), vI v13] [] h13 Q)) ∧
        (¬ (v12 = 0) →
        (inR (l3 + 1)) ∧ zC1 188 [vR 127 111] h12 (fun v14 h14 =>
        zK 192 32 [vR 127 111, vI l1, vI l2, vI (l3 + 1), vI v14] [] h14 Q)))))) : zK 192 32 [vR 127 111, vI l1, vI l2, vI l3, vI l4] [] h Q :=
  zwpe_W (cd := c192) rfl [32] 400 32 _ _ _ _ k
-- 193 SyntaxRulesModel.held(IIII)I
set_option maxRecDepth 100000 in
set_option maxHeartbeats 4000000 in
theorem k193_0 (p1 : Int) (p2 : Int) (p3 : Int) (p4 : Int) (h : zH) (Q : Option zV → zH → Prop) (k :
  ∀ h6 : zH, h6 = sI h 127 0 0 →
  zC1 157 [vR 127 111, vI p2] h6 (fun v7 h7 =>
  (v7 = 0 →
    Q (some (vI ((-1)))) h7) ∧
    (¬ (v7 = 0) →
    zC1 141 [vL p3, vL 0, vL 25] h7 (fun v8 h8 =>
    (v8 = 0 →
      Q (some (vI ((-1)))) h8) ∧
      (¬ (v8 = 0) →
      zC1 141 [vL p4, vL 0, vL 1] h8 (fun v9 h9 =>
      (v9 = 0 →
        Q (some (vI ((-1)))) h9) ∧
        (¬ (v9 = 0) →
        zC1 191 [vR 127 111, vI p1, vI p2] h9 (fun v10 h10 =>
        (v10 = 0 →
          Q (some (vI ((-1)))) h10) ∧
          (¬ (v10 = 0) →
          (0 ≤ (p3 : Int)) ∧ ((p3 : Int) < 26) ∧ (¬ (gI h10 147 p3) = (-1) →
            (¬ p4 = 1 →
              (0 ≤ (p3 : Int)) ∧ ((p3 : Int) < 26) ∧ (¬ (gI h10 147 p3) = 0 →
                (0 ≤ (p3 : Int)) ∧ ((p3 : Int) < 26) ∧ Q (some (vI (gI h10 146 p3))) h10) ∧
                (¬ (¬ (gI h10 147 p3) = 0) →
                Q (some (vI ((-1)))) h10)) ∧
              (¬ (¬ p4 = 1) →
              (0 ≤ (p3 : Int)) ∧ ((p3 : Int) < 26) ∧ Q (some (vI (gI h10 147 p3))) h10)) ∧
            (¬ (¬ (gI h10 147 p3) = (-1)) →
            Q (some (vI ((-1)))) h10)))))))))) : zK 193 0 [vR 127 111, vI p1, vI p2, vI p3, vI p4] [] h Q :=
  zwpe_W (cd := c193) rfl [] 400 0 _ _ _ _ k
-- 194 SyntaxRulesModel.found(II)I
set_option maxRecDepth 100000 in
set_option maxHeartbeats 4000000 in
theorem k194_0 (p1 : Int) (p2 : Int) (h : zH) (Q : Option zV → zH → Prop) (k :
  ∀ h4 : zH, h4 = sI h 127 0 0 →
  zC1 143 [vR 127 111, vI p1] h4 (fun v5 h5 =>
  (v5 = 0 →
    Q (some (vI ((-1)))) h5) ∧
    (¬ (v5 = 0) →
    ((-1) ≤ p2 →
      zK 194 25 [vR 127 111, vI p1, vI p2, vI 0, vI 0] [] h5 Q) ∧
      (¬ ((-1) ≤ p2) →
      Q (some (vI ((-1)))) h5)))) : zK 194 0 [vR 127 111, vI p1, vI p2, vU, vU] [] h Q :=
  zwpe_W (cd := c194) rfl [25] 400 0 _ _ _ _ k
set_option maxRecDepth 100000 in
set_option maxHeartbeats 4000000 in
theorem k194_25 (l1 : Int) (l2 : Int) (l3 : Int) (l4 : Int) (h : zH) (Q : Option zV → zH → Prop) (k :
  ((gI h 127 20) ≤ l4 →
    (¬ l2 = (-1) →
      Q (some (vI ((-1)))) h) ∧
      (¬ (¬ l2 = (-1)) →
      Q (some (vI l3)) h)) ∧
    (¬ ((gI h 127 20) ≤ l4) →
    zC1 191 [vR 127 111, vI l1, vI l4] h (fun v6 h6 =>
    (v6 = 0 →
      (inR (l4 + 1)) ∧ zK 194 25 [vR 127 111, vI l1, vI l2, vI l3, vI (l4 + 1)] [] h6 Q) ∧
      (¬ (v6 = 0) →
      (¬ l3 = l2 →
        (inR (l3 + 1)) ∧ (inR (l4 + 1)) ∧ zK 194 25 [vR 127 111, vI l1, vI l2, vI (l3 + 1), vI (l4 + 1)] [] h6 Q) ∧
        (¬ (¬ l3 = l2) →
        Q (some (vI l4)) h6))))) : zK 194 25 [vR 127 111, vI l1, vI l2, vI l3, vI l4] [] h Q :=
  zwpe_W (cd := c194) rfl [25] 400 25 _ _ _ _ k
-- 195 SyntaxRulesModel.fitting(I)I
set_option maxRecDepth 100000 in
set_option maxHeartbeats 4000000 in
theorem k195_0 (p1 : Int) (h : zH) (Q : Option zV → zH → Prop) (k :
  zK 195 4 [vR 127 111, vI p1, vI 0, vI 0] [] h Q) : zK 195 0 [vR 127 111, vI p1, vU, vU] [] h Q :=
  zwpe_W (cd := c195) rfl [4] 400 0 _ _ _ _ k
set_option maxRecDepth 100000 in
set_option maxHeartbeats 4000000 in
theorem k195_4 (l1 : Int) (l2 : Int) (l3 : Int) (h : zH) (Q : Option zV → zH → Prop) (k :
  (8 ≤ l3 →
    Q (some (vI l2)) h) ∧
    (¬ (8 ≤ l3) →
    zC1 191 [vR 127 111, vI l3, vI l1] h (fun v2 h2 =>
    (v2 = 0 →
      (inR (l3 + 1)) ∧ zK 195 4 [vR 127 111, vI l1, vI (iOr l2 0), vI (l3 + 1)] [] h2 Q) ∧
      (¬ (v2 = 0) →
      (inR (l3 + 1)) ∧ zK 195 4 [vR 127 111, vI l1, vI (iOr l2 (iShl 1 l3)), vI (l3 + 1)] [] h2 Q)))) : zK 195 4 [vR 127 111, vI l1, vI l2, vI l3] [] h Q :=
  zwpe_W (cd := c195) rfl [4] 400 4 _ _ _ _ k
-- 196 SyntaxRulesModel.rulesOf(I)I
set_option maxRecDepth 100000 in
set_option maxHeartbeats 4000000 in
theorem k196_0 (p1 : Int) (h : zH) (Q : Option zV → zH → Prop) (k :
  ∀ h4 : zH, h4 = sI h 127 0 0 →
  zC1 157 [vR 127 111, vI p1] h4 (fun v5 h5 =>
  (v5 = 0 →
    Q (some (vI ((-1)))) h5) ∧
    (¬ (v5 = 0) →
    zC1 195 [vR 127 111, vI p1] h5 (fun v6 h6 =>
    Q (some (vI v6)) h6)))) : zK 196 0 [vR 127 111, vI p1] [] h Q :=
  zwpe_W (cd := c196) rfl [] 400 0 _ _ _ _ k
-- 197 SyntaxRulesModel.node(II)I
set_option maxRecDepth 100000 in
set_option maxHeartbeats 4000000 in
theorem k197_0 (p1 : Int) (p2 : Int) (h : zH) (Q : Option zV → zH → Prop) (k :
  zC1 157 [vR 127 111, vI p1] h (fun v12 h12 =>
  (v12 = 0 →
    zK 197 14 [vR 127 111, vI p1, vI p2] [vI 1, vR 127 111] h12 Q) ∧
    (¬ (v12 = 0) →
    zK 197 14 [vR 127 111, vI p1, vI p2] [vI 0, vR 127 111] h12 Q))) : zK 197 0 [vR 127 111, vI p1, vI p2] [] h Q :=
  zwpe_W (cd := c197) rfl [14] 400 0 _ _ _ _ k
set_option maxRecDepth 100000 in
set_option maxHeartbeats 4000000 in
theorem k197_14 (l1 : Int) (l2 : Int) (s0 : Int) (h : zH) (Q : Option zV → zH → Prop) (k :
  ∀ h13 : zH, h13 = sI h 127 0 s0 →
  (¬ (gI h13 127 0) = 1 →
    (l2 = (0 : Int) →
      zC1 158 [vR 127 111, vI l1, vI 0] h13 (fun v22 h22 =>
      Q (some (vI v22)) h22)) ∧
      (¬ (l2 = (0 : Int)) →
      (l2 = ((0 : Int) + 1) →
      zC1 158 [vR 127 111, vI l1, vI 1] h13 (fun v21 h21 =>
      Q (some (vI v21)) h21)) ∧
      (¬ (l2 = ((0 : Int) + 1)) →
      (l2 = ((0 : Int) + 1 + 1) →
      zC1 158 [vR 127 111, vI l1, vI 2] h13 (fun v20 h20 =>
      Q (some (vI v20)) h20)) ∧
      (¬ (l2 = ((0 : Int) + 1 + 1)) →
      (l2 = ((0 : Int) + 1 + 1 + 1) →
      zC1 158 [vR 127 111, vI l1, vI 3] h13 (fun v19 h19 =>
      Q (some (vI v19)) h19)) ∧
      (¬ (l2 = ((0 : Int) + 1 + 1 + 1)) →
      (l2 = ((0 : Int) + 1 + 1 + 1 + 1) →
      zC1 158 [vR 127 111, vI l1, vI 4] h13 (fun v18 h18 =>
      Q (some (vI v18)) h18)) ∧
      (¬ (l2 = ((0 : Int) + 1 + 1 + 1 + 1)) →
      (l2 = ((0 : Int) + 1 + 1 + 1 + 1 + 1) →
      zC1 158 [vR 127 111, vI l1, vI 5] h13 (fun v16 h16 =>
      zC1 158 [vR 127 111, vI l1, vI 4] h16 (fun v17 h17 =>
      (inR (v16 - v17)) ∧ Q (some (vI (v16 - v17))) h17))) ∧
      (¬ (l2 = ((0 : Int) + 1 + 1 + 1 + 1 + 1)) →
      (l2 = ((0 : Int) + 1 + 1 + 1 + 1 + 1 + 1) →
      zC1 158 [vR 127 111, vI l1, vI 6] h13 (fun v15 h15 =>
      Q (some (vI v15)) h15)) ∧
      (¬ (l2 = ((0 : Int) + 1 + 1 + 1 + 1 + 1 + 1)) →
      (l2 = ((0 : Int) + 1 + 1 + 1 + 1 + 1 + 1 + 1) →
      zC1 158 [vR 127 111, vI l1, vI 7] h13 (fun v14 h14 =>
      Q (some (vI v14)) h14)) ∧
      (¬ (l2 = ((0 : Int) + 1 + 1 + 1 + 1 + 1 + 1 + 1)) →
      Q (some (vI ((-1)))) h13))))))))) ∧
    (¬ (¬ (gI h13 127 0) = 1) →
    Q (some (vI 0)) h13)) : zK 197 14 [vR 127 111, vI l1, vI l2] [vI s0, vR 127 111] h Q :=
  zwpe_W (cd := c197) rfl [14] 400 14 _ _ _ _ k
-- 198 SyntaxRulesModel.name(II)I
set_option maxRecDepth 100000 in
set_option maxHeartbeats 4000000 in
theorem k198_0 (p1 : Int) (p2 : Int) (h : zH) (Q : Option zV → zH → Prop) (k :
  ∀ h6 : zH, h6 = sI h 127 0 0 →
  zC1 157 [vR 127 111, vI p1] h6 (fun v7 h7 =>
  (v7 = 0 →
    Q (some (vI ((-1)))) h7) ∧
    (¬ (v7 = 0) →
    zC1 158 [vR 127 111, vI p1, vI 9] h7 (fun v8 h8 =>
    (inL (v8 - 1)) ∧ zC1 141 [vL p2, vL 0, vL (v8 - 1)] h8 (fun v9 h9 =>
    (v9 = 0 →
      Q (some (vI ((-1)))) h9) ∧
      (¬ (v9 = 0) →
      zC1 158 [vR 127 111, vI p1, vI 8] h9 (fun v10 h10 =>
      (inR (v10 + p2)) ∧ (0 ≤ (v10 + p2 : Int)) ∧ ((v10 + p2 : Int) < 2709) ∧ Q (some (vI (gI h10 128 (v10 + p2)))) h10))))))) : zK 198 0 [vR 127 111, vI p1, vI p2] [] h Q :=
  zwpe_W (cd := c198) rfl [] 400 0 _ _ _ _ k
-- 199 SyntaxRulesModel.comment(II)I
set_option maxRecDepth 100000 in
set_option maxHeartbeats 4000000 in
theorem k199_0 (p1 : Int) (p2 : Int) (h : zH) (Q : Option zV → zH → Prop) (k :
  ∀ h4 : zH, h4 = sI h 127 0 0 →
  (¬ p1 = (-1) →
    (inL ((gI h4 127 22) - 1)) ∧ zC1 141 [vL p1, vL 0, vL ((gI h4 127 22) - 1)] h4 (fun v5 h5 =>
    (v5 = 0 →
      Q (some (vI ((-1)))) h5) ∧
      (¬ (v5 = 0) →
      zC1 141 [vL p2, vL 0, vL 2] h5 (fun v6 h6 =>
      (v6 = 0 →
        Q (some (vI ((-1)))) h6) ∧
        (¬ (v6 = 0) →
        (inR (3 * p1)) ∧ (inR ((3 * p1) + p2)) ∧ (0 ≤ ((3 * p1) + p2 : Int)) ∧ (((3 * p1) + p2 : Int) < 450) ∧ Q (some (vI (gI h6 138 ((3 * p1) + p2)))) h6))))) ∧
    (¬ (¬ p1 = (-1)) →
    (¬ p2 = 0 →
      Q (some (vI ((-1)))) h4) ∧
      (¬ (¬ p2 = 0) →
      Q (some (vI (gI h4 127 22))) h4))) : zK 199 0 [vR 127 111, vI p1, vI p2] [] h Q :=
  zwpe_W (cd := c199) rfl [] 400 0 _ _ _ _ k
-- 200 SyntaxRulesModel.letter(I)I
set_option maxRecDepth 100000 in
set_option maxHeartbeats 4000000 in
theorem k200_0 (p1 : Int) (h : zH) (Q : Option zV → zH → Prop) (k :
  ∀ h3 : zH, h3 = sI h 127 0 0 →
  (0 ≤ (300 : Int)) ∧ ((300 : Int) < 2709) ∧ (inL ((gI h3 128 300) - 1)) ∧ zC1 141 [vL p1, vL 0, vL ((gI h3 128 300) - 1)] h3 (fun v4 h4 =>
  (v4 = 0 →
    Q (some (vI ((-1)))) h4) ∧
    (¬ (v4 = 0) →
    (0 ≤ (p1 : Int)) ∧ ((p1 : Int) < 2709) ∧ Q (some (vI (gI h4 128 p1))) h4))) : zK 200 0 [vR 127 111, vI p1] [] h Q :=
  zwpe_W (cd := c200) rfl [] 400 0 _ _ _ _ k
-- 201 SyntaxRulesModel.alike(II)I
set_option maxRecDepth 100000 in
set_option maxHeartbeats 4000000 in
theorem k201_0 (p1 : Int) (p2 : Int) (h : zH) (Q : Option zV → zH → Prop) (k :
  ∀ h5 : zH, h5 = sI h 127 0 0 →
  zC1 157 [vR 127 111, vI p1] h5 (fun v6 h6 =>
  (v6 = 0 →
    Q (some (vI ((-1)))) h6) ∧
    (¬ (v6 = 0) →
    zC1 157 [vR 127 111, vI p2] h6 (fun v7 h7 =>
    (¬ v7 = 0 →
      zC1 181 [vR 127 111, vI p1, vI p2] h7 (fun v8 h8 =>
      (v8 = 0 →
        Q (some (vI 0)) h8) ∧
        (¬ (v8 = 0) →
        Q (some (vI 1)) h8))) ∧
      (¬ (¬ v7 = 0) →
      Q (some (vI ((-1)))) h7))))) : zK 201 0 [vR 127 111, vI p1, vI p2] [] h Q :=
  zwpe_W (cd := c201) rfl [] 400 0 _ _ _ _ k
-- 202 SyntaxRulesModel.twins(II)I
set_option maxRecDepth 100000 in
set_option maxHeartbeats 4000000 in
theorem k202_0 (p1 : Int) (p2 : Int) (h : zH) (Q : Option zV → zH → Prop) (k :
  ∀ h5 : zH, h5 = sI h 127 0 0 →
  zC1 157 [vR 127 111, vI p1] h5 (fun v6 h6 =>
  (v6 = 0 →
    Q (some (vI ((-1)))) h6) ∧
    (¬ (v6 = 0) →
    zC1 141 [vL p2, vL 0, vL 1] h6 (fun v7 h7 =>
    (¬ v7 = 0 →
      zK 202 33 [vR 127 111, vI p1, vI p2, vI 0, vI ((-1)), vI 0] [] h7 Q) ∧
      (¬ (¬ v7 = 0) →
      Q (some (vI ((-1)))) h7))))) : zK 202 0 [vR 127 111, vI p1, vI p2, vU, vU, vU] [] h Q :=
  zwpe_W (cd := c202) rfl [33] 400 0 _ _ _ _ k
set_option maxRecDepth 100000 in
set_option maxHeartbeats 4000000 in
theorem k202_33 (l1 : Int) (l2 : Int) (l3 : Int) (l4 : Int) (l5 : Int) (h : zH) (Q : Option zV → zH → Prop) (k :
  ((gI h 127 20) ≤ l5 →
    (¬ l2 = 0 →
      Q (some (vI l4)) h) ∧
      (¬ (¬ l2 = 0) →
      Q (some (vI l3)) h)) ∧
    (¬ ((gI h 127 20) ≤ l5) →
    zC1 181 [vR 127 111, vI l1, vI l5] h (fun v8 h8 =>
    (v8 = 0 →
      (inR (l5 + 1)) ∧ zK 202 33 [vR 127 111, vI l1, vI l2, vI l3, vI l4, vI (l5 + 1)] [] h8 Q) ∧
      (¬ (v8 = 0) →
      (inR (l3 + 1)) ∧ (¬ l4 = (-1) →
        (inR (l5 + 1)) ∧ zK 202 33 [vR 127 111, vI l1, vI l2, vI (l3 + 1), vI l4, vI (l5 + 1)] [] h8 Q) ∧
        (¬ (¬ l4 = (-1)) →
        (inR (l5 + 1)) ∧ zK 202 33 [vR 127 111, vI l1, vI l2, vI (l3 + 1), vI l5, vI (l5 + 1)] [] h8 Q))))) : zK 202 33 [vR 127 111, vI l1, vI l2, vI l3, vI l4, vI l5] [] h Q :=
  zwpe_W (cd := c202) rfl [33] 400 33 _ _ _ _ k
-- 203 SyntaxRulesModel.tokensOf(III)I
set_option maxRecDepth 100000 in
set_option maxHeartbeats 4000000 in
theorem k203_0 (p1 : Int) (p2 : Int) (p3 : Int) (h : zH) (Q : Option zV → zH → Prop) (k :
  zK 203 6 [vR 127 111, vI p1, vI p2, vI p3, vI 0, vI 0] [] h Q) : zK 203 0 [vR 127 111, vI p1, vI p2, vI p3, vU, vU] [] h Q :=
  zwpe_W (cd := c203) rfl [6] 400 0 _ _ _ _ k
set_option maxRecDepth 100000 in
set_option maxHeartbeats 4000000 in
theorem k203_6 (l1 : Int) (l2 : Int) (l3 : Int) (l4 : Int) (l5 : Int) (h : zH) (Q : Option zV → zH → Prop) (k :
  (inR (2 * l1)) ∧ (inR ((2 * l1) + l2)) ∧ (0 ≤ ((2 * l1) + l2 : Int)) ∧ (((2 * l1) + l2 : Int) < 16) ∧ ((gI h 140 ((2 * l1) + l2)) ≤ l5 →
    Q (some (vI l4)) h) ∧
    (¬ ((gI h 140 ((2 * l1) + l2)) ≤ l5) →
    zC1 179 [vR 127 111, vI l1, vI l2, vI l5, vI 0] h (fun v2 h2 =>
    (¬ v2 = l3 →
      (inR (l4 + 0)) ∧ (inR (l5 + 1)) ∧ zK 203 6 [vR 127 111, vI l1, vI l2, vI l3, vI (l4 + 0), vI (l5 + 1)] [] h2 Q) ∧
      (¬ (¬ v2 = l3) →
      (inR (l4 + 1)) ∧ (inR (l5 + 1)) ∧ zK 203 6 [vR 127 111, vI l1, vI l2, vI l3, vI (l4 + 1), vI (l5 + 1)] [] h2 Q)))) : zK 203 6 [vR 127 111, vI l1, vI l2, vI l3, vI l4, vI l5] [] h Q :=
  zwpe_W (cd := c203) rfl [6] 400 6 _ _ _ _ k
-- 204 SyntaxRulesModel.lettersOf(I)I
set_option maxRecDepth 100000 in
set_option maxHeartbeats 4000000 in
theorem k204_0 (p1 : Int) (h : zH) (Q : Option zV → zH → Prop) (k :
  zK 204 4 [vR 127 111, vI p1, vI 0, vI 0, vU] [] h Q) : zK 204 0 [vR 127 111, vI p1, vU, vU, vU] [] h Q :=
  zwpe_W (cd := c204) rfl [4, 40, 67] 400 0 _ _ _ _ k
set_option maxRecDepth 100000 in
set_option maxHeartbeats 4000000 in
theorem k204_4 (l1 : Int) (l2 : Int) (l3 : Int) (u4 : zV) (h : zH) (Q : Option zV → zH → Prop) (k :
  (inR (2 * l1)) ∧ (0 ≤ (2 * l1 : Int)) ∧ ((2 * l1 : Int) < 16) ∧ ((gI h 140 (2 * l1)) ≤ l3 →
    zK 204 67 [vR 127 111, vI l1, vI l2, vI 0, vI l2] [] h Q) ∧
    (¬ ((gI h 140 (2 * l1)) ≤ l3) →
    zC1 179 [vR 127 111, vI l1, vI 0, vI l3, vI 0] h (fun v3 h3 =>
    (v3 = 1 →
      zK 204 40 [vR 127 111, vI l1, vI l2, vI l3, vI v3] [vI l2] h3 Q) ∧
      (¬ (v3 = 1) →
      (¬ v3 = 6 →
        (inR (l3 + 1)) ∧ zK 204 4 [vR 127 111, vI l1, vI (iOr l2 0), vI (l3 + 1), vI v3] [] h3 Q) ∧
        (¬ (¬ v3 = 6) →
        zK 204 40 [vR 127 111, vI l1, vI l2, vI l3, vI v3] [vI l2] h3 Q))))) : zK 204 4 [vR 127 111, vI l1, vI l2, vI l3, u4] [] h Q :=
  zwpe_W (cd := c204) rfl [4, 40, 67] 400 4 _ _ _ _ k
set_option maxRecDepth 100000 in
set_option maxHeartbeats 4000000 in
theorem k204_40 (l1 : Int) (u2 : zV) (l3 : Int) (u4 : zV) (s0 : Int) (h : zH) (Q : Option zV → zH → Prop) (k :
  zC1 179 [vR 127 111, vI l1, vI 0, vI l3, vI 1] h (fun v4 h4 =>
  (inR (l3 + 1)) ∧ zK 204 4 [vR 127 111, vI l1, vI (iOr s0 (iShl 1 v4)), vI (l3 + 1), u4] [] h4 Q)) : zK 204 40 [vR 127 111, vI l1, u2, vI l3, u4] [vI s0] h Q :=
  zwpe_W (cd := c204) rfl [4, 40, 67] 400 40 _ _ _ _ k
set_option maxRecDepth 100000 in
set_option maxHeartbeats 4000000 in
theorem k204_67 (u0 : zV) (u1 : zV) (u2 : zV) (l3 : Int) (l4 : Int) (h : zH) (Q : Option zV → zH → Prop) (k :
  (l4 = 0 →
    Q (some (vI l3)) h) ∧
    (¬ (l4 = 0) →
    (inR (l3 + 1)) ∧ (inR (l4 - 1)) ∧ zK 204 67 [u0, u1, u2, vI (l3 + 1), vI (iAnd l4 (l4 - 1))] [] h Q)) : zK 204 67 [u0, u1, u2, vI l3, vI l4] [] h Q :=
  zwpe_W (cd := c204) rfl [4, 40, 67] 400 67 _ _ _ _ k
-- 205 SyntaxRulesModel.told(II)I
set_option maxRecDepth 100000 in
set_option maxHeartbeats 4000000 in
theorem k205_0 (p1 : Int) (p2 : Int) (h : zH) (Q : Option zV → zH → Prop) (k :
  ∀ h7 : zH, h7 = sI h 127 0 0 →
  zC1 143 [vR 127 111, vI p1] h7 (fun v8 h8 =>
  (¬ v8 = 0 →
    (p2 = (0 : Int) →
      (0 ≤ (p1 : Int)) ∧ ((p1 : Int) < 8) ∧ Q (some (vI (gI h8 150 p1))) h8) ∧
      (¬ (p2 = (0 : Int)) →
      (p2 = ((0 : Int) + 1) →
      zC1 203 [vR 127 111, vI p1, vI 0, vI 6] h8 (fun v12 h12 =>
      Q (some (vI v12)) h12)) ∧
      (¬ (p2 = ((0 : Int) + 1)) →
      (p2 = ((0 : Int) + 1 + 1) →
      zC1 203 [vR 127 111, vI p1, vI 0, vI 2] h8 (fun v11 h11 =>
      Q (some (vI v11)) h11)) ∧
      (¬ (p2 = ((0 : Int) + 1 + 1)) →
      (p2 = ((0 : Int) + 1 + 1 + 1) →
      zC1 204 [vR 127 111, vI p1] h8 (fun v10 h10 =>
      Q (some (vI v10)) h10)) ∧
      (¬ (p2 = ((0 : Int) + 1 + 1 + 1)) →
      (p2 = ((0 : Int) + 1 + 1 + 1 + 1) →
      zC1 203 [vR 127 111, vI p1, vI 1, vI 5] h8 (fun v9 h9 =>
      Q (some (vI v9)) h9)) ∧
      (¬ (p2 = ((0 : Int) + 1 + 1 + 1 + 1)) →
      Q (some (vI ((-1)))) h8)))))) ∧
    (¬ (¬ v8 = 0) →
    Q (some (vI ((-1)))) h8))) : zK 205 0 [vR 127 111, vI p1, vI p2] [] h Q :=
  zwpe_W (cd := c205) rfl [] 400 0 _ _ _ _ k
-- 206 SyntaxRulesModel.behind(II)I
set_option maxRecDepth 100000 in
set_option maxHeartbeats 4000000 in
theorem k206_0 (p1 : Int) (p2 : Int) (h : zH) (Q : Option zV → zH → Prop) (k :
  zK 206 2 [vR 127 111, vI p1, vI p2, vI p2] [] h Q) : zK 206 0 [vR 127 111, vI p1, vI p2, vU] [] h Q :=
  zwpe_W (cd := c206) rfl [2] 400 0 _ _ _ _ k
set_option maxRecDepth 100000 in
set_option maxHeartbeats 4000000 in
theorem k206_2 (l1 : Int) (u2 : zV) (l3 : Int) (h : zH) (Q : Option zV → zH → Prop) (k :
  zC1 179 [vR 127 111, vI l1, vI 0, vI l3, vI 0] h (fun v4 h4 =>
  (¬ v4 = 2 →
    zC1 179 [vR 127 111, vI l1, vI 0, vI l3, vI 0] h4 (fun v5 h5 =>
    (¬ v5 = 5 →
      (inR (l3 + 1)) ∧ Q (some (vI (l3 + 1))) h5) ∧
      (¬ (¬ v5 = 5) →
      zC1 179 [vR 127 111, vI l1, vI 0, vI l3, vI 2] h5 (fun v6 h6 =>
      (inR (v6 + 1)) ∧ Q (some (vI (v6 + 1))) h6)))) ∧
    (¬ (¬ v4 = 2) →
    (inR (l3 + 1)) ∧ zK 206 2 [vR 127 111, vI l1, u2, vI (l3 + 1)] [] h4 Q))) : zK 206 2 [vR 127 111, vI l1, u2, vI l3] [] h Q :=
  zwpe_W (cd := c206) rfl [2] 400 2 _ _ _ _ k
-- 207 SyntaxRulesModel.addTest(III)I
set_option maxRecDepth 100000 in
set_option maxHeartbeats 4000000 in
theorem k207_0 (p1 : Int) (p2 : Int) (p3 : Int) (h : zH) (Q : Option zV → zH → Prop) (k :
  (inR (40 * p1)) ∧ (0 ≤ (p1 : Int)) ∧ ((p1 : Int) < 8) ∧ (inR ((40 * p1) + (gI h 150 p1))) ∧ (0 ≤ (p1 : Int)) ∧ ((p1 : Int) < 8) ∧ (inR ((gI h 150 p1) + 1)) ∧ (0 ≤ (p1 : Int)) ∧ ((p1 : Int) < 8) ∧ ∀ h7 : zH, h7 = sI h 150 p1 ((gI h 150 p1) + 1) →
  (0 ≤ ((40 * p1) + (gI h 150 p1) : Int)) ∧ (((40 * p1) + (gI h 150 p1) : Int) < 320) ∧ ∀ h8 : zH, h8 = sI h7 151 ((40 * p1) + (gI h 150 p1)) p2 →
  (0 ≤ ((40 * p1) + (gI h 150 p1) : Int)) ∧ (((40 * p1) + (gI h 150 p1) : Int) < 320) ∧ ∀ h9 : zH, h9 = sI h8 152 ((40 * p1) + (gI h 150 p1)) p3 →
  (0 ≤ ((40 * p1) + (gI h 150 p1) : Int)) ∧ (((40 * p1) + (gI h 150 p1) : Int) < 320) ∧ ∀ h10 : zH, h10 = sI h9 153 ((40 * p1) + (gI h 150 p1)) (gI h9 127 49) →
  (0 ≤ ((40 * p1) + (gI h 150 p1) : Int)) ∧ (((40 * p1) + (gI h 150 p1) : Int) < 320) ∧ ∀ h11 : zH, h11 = sI h10 155 ((40 * p1) + (gI h 150 p1)) 0 →
  zK 207 61 [vR 127 111, vI p1, vI p2, vI p3, vI ((40 * p1) + (gI h 150 p1)), vI 0] [] h11 Q) : zK 207 0 [vR 127 111, vI p1, vI p2, vI p3, vU, vU] [] h Q :=
  zwpe_W (cd := c207) rfl [61] 400 0 _ _ _ _ k
set_option maxRecDepth 100000 in
set_option maxHeartbeats 4000000 in
theorem k207_61 (u1 : zV) (u2 : zV) (u3 : zV) (l4 : Int) (l5 : Int) (h : zH) (Q : Option zV → zH → Prop) (k :
  ((gI h 127 49) ≤ l5 →
    Q (some (vI l4)) h) ∧
    (¬ ((gI h 127 49) ≤ l5) →
    (inR (21 * l4)) ∧ (inR ((21 * l4) + l5)) ∧ (0 ≤ (l5 : Int)) ∧ ((l5 : Int) < 21) ∧ (0 ≤ ((21 * l4) + l5 : Int)) ∧ (((21 * l4) + l5 : Int) < 6720) ∧ ∀ h12 : zH, h12 = sI h 154 ((21 * l4) + l5) (gI h 157 l5) →
    (inR (l5 + 1)) ∧ zK 207 61 [vR 127 111, u1, u2, u3, vI l4, vI (l5 + 1)] [] h12 Q)) : zK 207 61 [vR 127 111, u1, u2, u3, vI l4, vI l5] [] h Q :=
  zwpe_W (cd := c207) rfl [61] 400 61 _ _ _ _ k
-- 208 SyntaxRulesModel.testHole(II)V
set_option maxRecDepth 100000 in
set_option maxHeartbeats 4000000 in
theorem k208_0 (p1 : Int) (p2 : Int) (h : zH) (Q : Option zV → zH → Prop) (k :
  zC1 179 [vR 127 111, vI p1, vI 0, vI p2, vI 1] h (fun v9 h9 =>
  zC1 179 [vR 127 111, vI p1, vI 0, vI p2, vI 2] h9 (fun v10 h10 =>
  (v10 = (-1) →
    zK 208 29 [vR 127 111, vI p1, vI p2, vI v9, vU, vU] [] h10 Q) ∧
    (¬ (v10 = (-1)) →
    zC1 207 [vR 127 111, vI p1, vI 3, vI p2] h10 (fun v11 h11 =>
    zK 208 29 [vR 127 111, vI p1, vI p2, vI v9, vU, vU] [] h11 Q))))) : zK 208 0 [vR 127 111, vI p1, vI p2, vU, vU, vU] [] h Q :=
  zwpe_W (cd := c208) rfl [29, 64, 120] 400 0 _ _ _ _ k
set_option maxRecDepth 100000 in
set_option maxHeartbeats 4000000 in
theorem k208_29 (l1 : Int) (l2 : Int) (l3 : Int) (u4 : zV) (u5 : zV) (h : zH) (Q : Option zV → zH → Prop) (k :
  (0 ≤ (l3 : Int)) ∧ ((l3 : Int) < 26) ∧ ((gI h 158 l3) = (-1) →
    (0 ≤ (l3 : Int)) ∧ ((l3 : Int) < 26) ∧ ∀ h12 : zH, h12 = sI h 158 l3 (gI h 127 49) →
    zK 208 120 [vR 127 111, vI l1, vI l2, vI l3, vI 0, u5] [] h12 Q) ∧
    (¬ ((gI h 158 l3) = (-1)) →
    zC1 207 [vR 127 111, vI l1, vI 4, vI l2] h (fun v13 h13 =>
    (0 ≤ (l3 : Int)) ∧ ((l3 : Int) < 26) ∧ (0 ≤ (v13 : Int)) ∧ ((v13 : Int) < 320) ∧ ∀ h14 : zH, h14 = sI h13 155 v13 (gI h13 158 l3) →
    zK 208 64 [vR 127 111, vI l1, vI l2, vI l3, vI v13, vI 0] [] h14 Q))) : zK 208 29 [vR 127 111, vI l1, vI l2, vI l3, u4, u5] [] h Q :=
  zwpe_W (cd := c208) rfl [29, 64, 120] 400 29 _ _ _ _ k
set_option maxRecDepth 100000 in
set_option maxHeartbeats 4000000 in
theorem k208_64 (u1 : zV) (u2 : zV) (l3 : Int) (l4 : Int) (l5 : Int) (h : zH) (Q : Option zV → zH → Prop) (k :
  (0 ≤ (l3 : Int)) ∧ ((l3 : Int) < 26) ∧ ((gI h 158 l3) ≤ l5 →
    Q none h) ∧
    (¬ ((gI h 158 l3) ≤ l5) →
    (inR (21 * l4)) ∧ (inR ((21 * l4) + l5)) ∧ (inR (21 * l3)) ∧ (inR ((21 * l3) + l5)) ∧ (0 ≤ ((21 * l3) + l5 : Int)) ∧ (((21 * l3) + l5 : Int) < 546) ∧ (0 ≤ ((21 * l4) + l5 : Int)) ∧ (((21 * l4) + l5 : Int) < 6720) ∧ ∀ h15 : zH, h15 = sI h 156 ((21 * l4) + l5) (gI h 159 ((21 * l3) + l5)) →
    (inR (l5 + 1)) ∧ zK 208 64 [vR 127 111, u1, u2, vI l3, vI l4, vI (l5 + 1)] [] h15 Q)) : zK 208 64 [vR 127 111, u1, u2, vI l3, vI l4, vI l5] [] h Q :=
  zwpe_W (cd := c208) rfl [29, 64, 120] 400 64 _ _ _ _ k
set_option maxRecDepth 100000 in
set_option maxHeartbeats 4000000 in
theorem k208_120 (u1 : zV) (u2 : zV) (l3 : Int) (l4 : Int) (u5 : zV) (h : zH) (Q : Option zV → zH → Prop) (k :
  ((gI h 127 49) ≤ l4 →
    Q none h) ∧
    (¬ ((gI h 127 49) ≤ l4) →
    (inR (21 * l3)) ∧ (inR ((21 * l3) + l4)) ∧ (0 ≤ (l4 : Int)) ∧ ((l4 : Int) < 21) ∧ (0 ≤ ((21 * l3) + l4 : Int)) ∧ (((21 * l3) + l4 : Int) < 546) ∧ ∀ h16 : zH, h16 = sI h 159 ((21 * l3) + l4) (gI h 157 l4) →
    (inR (l4 + 1)) ∧ zK 208 120 [vR 127 111, u1, u2, vI l3, vI (l4 + 1), u5] [] h16 Q)) : zK 208 120 [vR 127 111, u1, u2, vI l3, vI l4, u5] [] h Q :=
  zwpe_W (cd := c208) rfl [29, 64, 120] 400 120 _ _ _ _ k
-- 209 SyntaxRulesModel.testItem(II)I
set_option maxRecDepth 100000 in
set_option maxHeartbeats 4000000 in
theorem k209_0 (p1 : Int) (p2 : Int) (h : zH) (Q : Option zV → zH → Prop) (k :
  zC1 179 [vR 127 111, vI p1, vI 0, vI p2, vI 0] h (fun v11 h11 =>
  (v11 = 2 →
    zK 209 31 [vR 127 111, vI p1, vI p2, vI v11] [] h11 Q) ∧
    (¬ (v11 = 2) →
    (¬ v11 = 5 →
      zK 209 46 [vR 127 111, vI p1, vI p2, vI v11] [] h11 Q) ∧
      (¬ (¬ v11 = 5) →
      zC1 179 [vR 127 111, vI p1, vI 0, vI p2, vI 5] h11 (fun v12 h12 =>
      (¬ v12 = 1 →
        zK 209 46 [vR 127 111, vI p1, vI p2, vI v11] [] h12 Q) ∧
        (¬ (¬ v12 = 1) →
        zK 209 31 [vR 127 111, vI p1, vI p2, vI v11] [] h12 Q)))))) : zK 209 0 [vR 127 111, vI p1, vI p2, vU] [] h Q :=
  zwpe_W (cd := c209) rfl [31, 46] 400 0 _ _ _ _ k
set_option maxRecDepth 100000 in
set_option maxHeartbeats 4000000 in
theorem k209_31 (l1 : Int) (l2 : Int) (u3 : zV) (h : zH) (Q : Option zV → zH → Prop) (k :
  zC1 207 [vR 127 111, vI l1, vI 5, vI l2] h (fun v13 h13 =>
  zC1 206 [vR 127 111, vI l1, vI l2] h13 (fun v14 h14 =>
  Q (some (vI v14)) h14))) : zK 209 31 [vR 127 111, vI l1, vI l2, u3] [] h Q :=
  zwpe_W (cd := c209) rfl [31, 46] 400 31 _ _ _ _ k
set_option maxRecDepth 100000 in
set_option maxHeartbeats 4000000 in
theorem k209_46 (l1 : Int) (l2 : Int) (l3 : Int) (h : zH) (Q : Option zV → zH → Prop) (k :
  (¬ l3 = 5 →
    (¬ l3 = 1 →
      (l3 = 0 →
        (inR (l2 + 1)) ∧ Q (some (vI (l2 + 1))) h) ∧
        (¬ (l3 = 0) →
        zC1 207 [vR 127 111, vI l1, vI 0, vI l2] h (fun v15 h15 =>
        (inR (l2 + 1)) ∧ Q (some (vI (l2 + 1))) h15))) ∧
      (¬ (¬ l3 = 1) →
      zC0 208 [vR 127 111, vI l1, vI l2] h (fun h16 =>
      (inR (l2 + 1)) ∧ Q (some (vI (l2 + 1))) h16))) ∧
    (¬ (¬ l3 = 5) →
    zC1 207 [vR 127 111, vI l1, vI 1, vI l2] h (fun v17 h17 =>
    zC1 207 [vR 127 111, vI l1, vI 2, vI l2] h17 (fun v18 h18 =>
    (0 ≤ (gI h18 127 49 : Int)) ∧ ((gI h18 127 49 : Int) < 21) ∧ ∀ h19 : zH, h19 = sI h18 157 (gI h18 127 49) 0 →
    (inR ((gI h19 127 49) + 1)) ∧ ∀ h20 : zH, h20 = sI h19 127 49 ((gI h19 127 49) + 1) →
    (inR (l2 + 1)) ∧ Q (some (vI (l2 + 1))) h20)))) : zK 209 46 [vR 127 111, vI l1, vI l2, vI l3] [] h Q :=
  zwpe_W (cd := c209) rfl [31, 46] 400 46 _ _ _ _ k
-- 210 SyntaxRulesModel.layTestsOf(I)V
set_option maxRecDepth 100000 in
set_option maxHeartbeats 4000000 in
theorem k210_0 (p1 : Int) (h : zH) (Q : Option zV → zH → Prop) (k :
  (0 ≤ (p1 : Int)) ∧ ((p1 : Int) < 8) ∧ ∀ h8 : zH, h8 = sI h 150 p1 0 →
  ∀ h9 : zH, h9 = sI h8 127 49 0 →
  zK 210 14 [vR 127 111, vI p1, vI 0, vU, vU] [] h9 Q) : zK 210 0 [vR 127 111, vI p1, vU, vU, vU] [] h Q :=
  zwpe_W (cd := c210) rfl [14, 35, 65, 99] 400 0 _ _ _ _ k
set_option maxRecDepth 100000 in
set_option maxHeartbeats 4000000 in
theorem k210_14 (l1 : Int) (l2 : Int) (u3 : zV) (u4 : zV) (h : zH) (Q : Option zV → zH → Prop) (k :
  (26 ≤ l2 →
    zK 210 35 [vR 127 111, vI l1, vI 0, u3, u4] [] h Q) ∧
    (¬ (26 ≤ l2) →
    (0 ≤ (l2 : Int)) ∧ ((l2 : Int) < 26) ∧ ∀ h10 : zH, h10 = sI h 158 l2 (-1) →
    (inR (l2 + 1)) ∧ zK 210 14 [vR 127 111, vI l1, vI (l2 + 1), u3, u4] [] h10 Q)) : zK 210 14 [vR 127 111, vI l1, vI l2, u3, u4] [] h Q :=
  zwpe_W (cd := c210) rfl [14, 35, 65, 99] 400 14 _ _ _ _ k
set_option maxRecDepth 100000 in
set_option maxHeartbeats 4000000 in
theorem k210_35 (l1 : Int) (l2 : Int) (u3 : zV) (u4 : zV) (h : zH) (Q : Option zV → zH → Prop) (k :
  (inR (2 * l1)) ∧ (0 ≤ (2 * l1 : Int)) ∧ ((2 * l1 : Int) < 16) ∧ ((gI h 140 (2 * l1)) ≤ l2 →
    Q none h) ∧
    (¬ ((gI h 140 (2 * l1)) ≤ l2) →
    zC1 179 [vR 127 111, vI l1, vI 0, vI l2, vI 0] h (fun v11 h11 =>
    (¬ v11 = 7 →
      zK 210 65 [vR 127 111, vI l1, vI l2, u3, u4] [vI 0] h11 Q) ∧
      (¬ (¬ v11 = 7) →
      zK 210 65 [vR 127 111, vI l1, vI l2, u3, u4] [vI 1] h11 Q)))) : zK 210 35 [vR 127 111, vI l1, vI l2, u3, u4] [] h Q :=
  zwpe_W (cd := c210) rfl [14, 35, 65, 99] 400 35 _ _ _ _ k
set_option maxRecDepth 100000 in
set_option maxHeartbeats 4000000 in
theorem k210_65 (l1 : Int) (l2 : Int) (u3 : zV) (u4 : zV) (s0 : Int) (h : zH) (Q : Option zV → zH → Prop) (k :
  (s0 = 0 →
    zC1 209 [vR 127 111, vI l1, vI l2] h (fun v12 h12 =>
    zK 210 99 [vR 127 111, vI l1, vI v12, vI s0, vI (gI h 127 49)] [] h12 Q)) ∧
    (¬ (s0 = 0) →
    (inR ((gI h 127 49) - 1)) ∧ ∀ h13 : zH, h13 = sI h 127 49 ((gI h 127 49) - 1) →
    (inR (l2 + 1)) ∧ zK 210 99 [vR 127 111, vI l1, vI (l2 + 1), vI s0, vI (gI h 127 49)] [] h13 Q)) : zK 210 65 [vR 127 111, vI l1, vI l2, u3, u4] [vI s0] h Q :=
  zwpe_W (cd := c210) rfl [14, 35, 65, 99] 400 65 _ _ _ _ k
set_option maxRecDepth 100000 in
set_option maxHeartbeats 4000000 in
theorem k210_99 (l1 : Int) (l2 : Int) (u3 : zV) (l4 : Int) (h : zH) (Q : Option zV → zH → Prop) (k :
  ((gI h 127 49) ≤ 0 →
    zK 210 35 [vR 127 111, vI l1, vI l2, u3, vI l4] [] h Q) ∧
    (¬ ((gI h 127 49) ≤ 0) →
    (l4 < (gI h 127 49) →
      zK 210 35 [vR 127 111, vI l1, vI l2, u3, vI l4] [] h Q) ∧
      (¬ (l4 < (gI h 127 49)) →
      (inR ((gI h 127 49) - 1)) ∧ (0 ≤ ((gI h 127 49) - 1 : Int)) ∧ (((gI h 127 49) - 1 : Int) < 21) ∧ (inR ((gI h 157 ((gI h 127 49) - 1)) + 1)) ∧ (0 ≤ ((gI h 127 49) - 1 : Int)) ∧ (((gI h 127 49) - 1 : Int) < 21) ∧ ∀ h14 : zH, h14 = sI h 157 ((gI h 127 49) - 1) ((gI h 157 ((gI h 127 49) - 1)) + 1) →
      zK 210 35 [vR 127 111, vI l1, vI l2, u3, vI l4] [] h14 Q))) : zK 210 99 [vR 127 111, vI l1, vI l2, u3, vI l4] [] h Q :=
  zwpe_W (cd := c210) rfl [14, 35, 65, 99] 400 99 _ _ _ _ k
-- 211 SyntaxRulesModel.isSameWord(IIII)Z
set_option maxRecDepth 100000 in
set_option maxHeartbeats 4000000 in
theorem k211_0 (p1 : Int) (p2 : Int) (p3 : Int) (p4 : Int) (h : zH) (Q : Option zV → zH → Prop) (k :
  zC1 179 [vR 127 111, vI p1, vI 0, vI p2, vI 4] h (fun v8 h8 =>
  zC1 179 [vR 127 111, vI p3, vI 0, vI p4, vI 4] h8 (fun v9 h9 =>
  (¬ v8 = v9 →
    zK 211 30 [vR 127 111, vI p1, vI p2, vI p3, vI p4, vI 0, vI 0] [] h9 Q) ∧
    (¬ (¬ v8 = v9) →
    zK 211 30 [vR 127 111, vI p1, vI p2, vI p3, vI p4, vI 1, vI 0] [] h9 Q)))) : zK 211 0 [vR 127 111, vI p1, vI p2, vI p3, vI p4, vU, vU] [] h Q :=
  zwpe_W (cd := c211) rfl [30] 400 0 _ _ _ _ k
set_option maxRecDepth 100000 in
set_option maxHeartbeats 4000000 in
theorem k211_30 (l1 : Int) (l2 : Int) (l3 : Int) (l4 : Int) (l5 : Int) (l6 : Int) (h : zH) (Q : Option zV → zH → Prop) (k :
  (l5 = 0 →
    ((l5 : Int) = 0 ∨ (l5 : Int) = 1) ∧ Q (some (vI l5)) h) ∧
    (¬ (l5 = 0) →
    zC1 179 [vR 127 111, vI l1, vI 0, vI l2, vI 4] h (fun v10 h10 =>
    (v10 ≤ l6 →
      ((l5 : Int) = 0 ∨ (l5 : Int) = 1) ∧ Q (some (vI l5)) h10) ∧
      (¬ (v10 ≤ l6) →
      zC1 142 [vI l1] h10 (fun v11 h11 =>
      zC1 179 [vR 127 111, vI l1, vI 0, vI l2, vI 3] h11 (fun v12 h12 =>
      (inR (v11 + v12)) ∧ (inR ((v11 + v12) + l6)) ∧ (0 ≤ ((v11 + v12) + l6 : Int)) ∧ (((v11 + v12) + l6 : Int) < 2709) ∧ zC1 142 [vI l3] h12 (fun v13 h13 =>
      zC1 179 [vR 127 111, vI l3, vI 0, vI l4, vI 3] h13 (fun v14 h14 =>
      (inR (v13 + v14)) ∧ (inR ((v13 + v14) + l6)) ∧ (0 ≤ ((v13 + v14) + l6 : Int)) ∧ (((v13 + v14) + l6 : Int) < 2709) ∧ (¬ (gI h12 128 ((v11 + v12) + l6)) = (gI h14 128 ((v13 + v14) + l6)) →
        (inR (l6 + 1)) ∧ zK 211 30 [vR 127 111, vI l1, vI l2, vI l3, vI l4, vI 0, vI (l6 + 1)] [] h14 Q) ∧
        (¬ (¬ (gI h12 128 ((v11 + v12) + l6)) = (gI h14 128 ((v13 + v14) + l6))) →
        (inR (l6 + 1)) ∧ zK 211 30 [vR 127 111, vI l1, vI l2, vI l3, vI l4, vI 1, vI (l6 + 1)] [] h14 Q))))))))) : zK 211 30 [vR 127 111, vI l1, vI l2, vI l3, vI l4, vI l5, vI l6] [] h Q :=
  zwpe_W (cd := c211) rfl [30] 400 30 _ _ _ _ k
-- 212 SyntaxRulesModel.isSameToken(IIII)Z
set_option maxRecDepth 100000 in
set_option maxHeartbeats 4000000 in
theorem k212_0 (p1 : Int) (p2 : Int) (p3 : Int) (p4 : Int) (h : zH) (Q : Option zV → zH → Prop) (k :
  zC1 179 [vR 127 111, vI p1, vI 0, vI p2, vI 0] h (fun v12 h12 =>
  zC1 179 [vR 127 111, vI p3, vI 0, vI p4, vI 0] h12 (fun v13 h13 =>
  (v12 = v13 →
    (v12 = (1 : Int) →
      zC1 179 [vR 127 111, vI p1, vI 0, vI p2, vI 1] h13 (fun v19 h19 =>
      zC1 179 [vR 127 111, vI p3, vI 0, vI p4, vI 1] h19 (fun v20 h20 =>
      (¬ v19 = v20 →
        ((0 : Int) = 0 ∨ (0 : Int) = 1) ∧ Q (some (vI 0)) h20) ∧
        (¬ (¬ v19 = v20) →
        zC1 179 [vR 127 111, vI p1, vI 0, vI p2, vI 2] h20 (fun v21 h21 =>
        zC1 179 [vR 127 111, vI p3, vI 0, vI p4, vI 2] h21 (fun v22 h22 =>
        (¬ v21 = v22 →
          ((0 : Int) = 0 ∨ (0 : Int) = 1) ∧ Q (some (vI 0)) h22) ∧
          (¬ (¬ v21 = v22) →
          ((1 : Int) = 0 ∨ (1 : Int) = 1) ∧ Q (some (vI 1)) h22))))))) ∧
      (¬ (v12 = (1 : Int)) →
      (v12 = ((1 : Int) + 1) →
      ((1 : Int) = 0 ∨ (1 : Int) = 1) ∧ Q (some (vI 1)) h13) ∧
      (¬ (v12 = ((1 : Int) + 1)) →
      (v12 = ((1 : Int) + 1 + 1) →
      zC1 211 [vR 127 111, vI p1, vI p2, vI p3, vI p4] h13 (fun v18 h18 =>
      ((v18 : Int) = 0 ∨ (v18 : Int) = 1) ∧ Q (some (vI v18)) h18)) ∧
      (¬ (v12 = ((1 : Int) + 1 + 1)) →
      (v12 = ((1 : Int) + 1 + 1 + 1) →
      zC1 211 [vR 127 111, vI p1, vI p2, vI p3, vI p4] h13 (fun v17 h17 =>
      ((v17 : Int) = 0 ∨ (v17 : Int) = 1) ∧ Q (some (vI v17)) h17)) ∧
      (¬ (v12 = ((1 : Int) + 1 + 1 + 1)) →
      (v12 = ((1 : Int) + 1 + 1 + 1 + 1) →
      zC1 211 [vR 127 111, vI p1, vI p2, vI p3, vI p4] h13 (fun v16 h16 =>
      ((v16 : Int) = 0 ∨ (v16 : Int) = 1) ∧ Q (some (vI v16)) h16)) ∧
      (¬ (v12 = ((1 : Int) + 1 + 1 + 1 + 1)) →
      (v12 = ((1 : Int) + 1 + 1 + 1 + 1 + 1) →
      zC1 179 [vR 127 111, vI p1, vI 0, vI p2, vI 1] h13 (fun v14 h14 =>
      zC1 179 [vR 127 111, vI p3, vI 0, vI p4, vI 1] h14 (fun v15 h15 =>
      (¬ v14 = v15 →
        ((0 : Int) = 0 ∨ (0 : Int) = 1) ∧ Q (some (vI 0)) h15) ∧
        (¬ (¬ v14 = v15) →
        ((1 : Int) = 0 ∨ (1 : Int) = 1) ∧ Q (some (vI 1)) h15)))) ∧
      (¬ (v12 = ((1 : Int) + 1 + 1 + 1 + 1 + 1)) →
      ((1 : Int) = 0 ∨ (1 : Int) = 1) ∧ Q (some (vI 1)) h13))))))) ∧
    (¬ (v12 = v13) →
    ((0 : Int) = 0 ∨ (0 : Int) = 1) ∧ Q (some (vI 0)) h13)))) : zK 212 0 [vR 127 111, vI p1, vI p2, vI p3, vI p4, vU] [] h Q :=
  zwpe_W (cd := c212) rfl [] 400 0 _ _ _ _ k
-- 213 SyntaxRulesModel.areSameTokens(IIII)Z
set_option maxRecDepth 100000 in
set_option maxHeartbeats 4000000 in
theorem k213_0 (p1 : Int) (p2 : Int) (p3 : Int) (p4 : Int) (h : zH) (Q : Option zV → zH → Prop) (k :
  zC1 206 [vR 127 111, vI p1, vI p2] h (fun v4 h4 =>
  (inR (v4 - p2)) ∧ zC1 206 [vR 127 111, vI p3, vI p4] h4 (fun v5 h5 =>
  (inR (v5 - p4)) ∧ (¬ (v5 - p4) = (v4 - p2) →
    zK 213 35 [vR 127 111, vI p1, vI p2, vI p3, vI p4, vI (v4 - p2), vI 0, vI 0] [] h5 Q) ∧
    (¬ (¬ (v5 - p4) = (v4 - p2)) →
    zK 213 35 [vR 127 111, vI p1, vI p2, vI p3, vI p4, vI (v4 - p2), vI 1, vI 0] [] h5 Q)))) : zK 213 0 [vR 127 111, vI p1, vI p2, vI p3, vI p4, vU, vU, vU] [] h Q :=
  zwpe_W (cd := c213) rfl [35] 400 0 _ _ _ _ k
set_option maxRecDepth 100000 in
set_option maxHeartbeats 4000000 in
theorem k213_35 (l1 : Int) (l2 : Int) (l3 : Int) (l4 : Int) (l5 : Int) (l6 : Int) (l7 : Int) (h : zH) (Q : Option zV → zH → Prop) (k :
  (l6 = 0 →
    ((l6 : Int) = 0 ∨ (l6 : Int) = 1) ∧ Q (some (vI l6)) h) ∧
    (¬ (l6 = 0) →
    (l5 ≤ l7 →
      ((l6 : Int) = 0 ∨ (l6 : Int) = 1) ∧ Q (some (vI l6)) h) ∧
      (¬ (l5 ≤ l7) →
      (inR (l2 + l7)) ∧ (inR (l4 + l7)) ∧ zC1 212 [vR 127 111, vI l1, vI (l2 + l7), vI l3, vI (l4 + l7)] h (fun v6 h6 =>
      (inR (l7 + 1)) ∧ zK 213 35 [vR 127 111, vI l1, vI l2, vI l3, vI l4, vI l5, vI v6, vI (l7 + 1)] [] h6 Q)))) : zK 213 35 [vR 127 111, vI l1, vI l2, vI l3, vI l4, vI l5, vI l6, vI l7] [] h Q :=
  zwpe_W (cd := c213) rfl [35] 400 35 _ _ _ _ k
-- 214 SyntaxRulesModel.isSameAsked(II)Z
set_option maxRecDepth 100000 in
set_option maxHeartbeats 4000000 in
theorem k214_0 (p1 : Int) (p2 : Int) (h : zH) (Q : Option zV → zH → Prop) (k :
  (¬ 40 = 0) ∧ (¬ 40 = 0) ∧ (0 ≤ (p1 : Int)) ∧ ((p1 : Int) < 320) ∧ (0 ≤ (p2 : Int)) ∧ ((p2 : Int) < 320) ∧ (0 ≤ (p1 : Int)) ∧ ((p1 : Int) < 320) ∧ ((gI h 151 p1) = (0 : Int) →
    zC1 179 [vR 127 111, vI (iDiv p1 40), vI 0, vI (gI h 152 p1), vI 0] h (fun v18 h18 =>
    zC1 179 [vR 127 111, vI (iDiv p2 40), vI 0, vI (gI h 152 p2), vI 0] h18 (fun v19 h19 =>
    (¬ v18 = v19 →
      ((0 : Int) = 0 ∨ (0 : Int) = 1) ∧ Q (some (vI 0)) h19) ∧
      (¬ (¬ v18 = v19) →
      zC1 211 [vR 127 111, vI (iDiv p1 40), vI (gI h 152 p1), vI (iDiv p2 40), vI (gI h 152 p2)] h19 (fun v20 h20 =>
      (v20 = 0 →
        ((0 : Int) = 0 ∨ (0 : Int) = 1) ∧ Q (some (vI 0)) h20) ∧
        (¬ (v20 = 0) →
        ((1 : Int) = 0 ∨ (1 : Int) = 1) ∧ Q (some (vI 1)) h20)))))) ∧
    (¬ ((gI h 151 p1) = (0 : Int)) →
    ((gI h 151 p1) = ((0 : Int) + 1) →
    zC1 211 [vR 127 111, vI (iDiv p1 40), vI (gI h 152 p1), vI (iDiv p2 40), vI (gI h 152 p2)] h (fun v17 h17 =>
    ((v17 : Int) = 0 ∨ (v17 : Int) = 1) ∧ Q (some (vI v17)) h17)) ∧
    (¬ ((gI h 151 p1) = ((0 : Int) + 1)) →
    ((gI h 151 p1) = ((0 : Int) + 1 + 1) →
    zC1 179 [vR 127 111, vI (iDiv p1 40), vI 0, vI (gI h 152 p1), vI 1] h (fun v15 h15 =>
    zC1 179 [vR 127 111, vI (iDiv p2 40), vI 0, vI (gI h 152 p2), vI 1] h15 (fun v16 h16 =>
    (¬ v15 = v16 →
      ((0 : Int) = 0 ∨ (0 : Int) = 1) ∧ Q (some (vI 0)) h16) ∧
      (¬ (¬ v15 = v16) →
      ((1 : Int) = 0 ∨ (1 : Int) = 1) ∧ Q (some (vI 1)) h16)))) ∧
    (¬ ((gI h 151 p1) = ((0 : Int) + 1 + 1)) →
    ((gI h 151 p1) = ((0 : Int) + 1 + 1 + 1) →
    zC1 179 [vR 127 111, vI (iDiv p1 40), vI 0, vI (gI h 152 p1), vI 2] h (fun v13 h13 =>
    zC1 179 [vR 127 111, vI (iDiv p2 40), vI 0, vI (gI h 152 p2), vI 2] h13 (fun v14 h14 =>
    (¬ v13 = v14 →
      ((0 : Int) = 0 ∨ (0 : Int) = 1) ∧ Q (some (vI 0)) h14) ∧
      (¬ (¬ v13 = v14) →
      ((1 : Int) = 0 ∨ (1 : Int) = 1) ∧ Q (some (vI 1)) h14)))) ∧
    (¬ ((gI h 151 p1) = ((0 : Int) + 1 + 1 + 1)) →
    ((gI h 151 p1) = ((0 : Int) + 1 + 1 + 1 + 1) →
    zC1 215 [vR 127 111, vI p1, vI p2] h (fun v12 h12 =>
    ((v12 : Int) = 0 ∨ (v12 : Int) = 1) ∧ Q (some (vI v12)) h12)) ∧
    (¬ ((gI h 151 p1) = ((0 : Int) + 1 + 1 + 1 + 1)) →
    zC1 213 [vR 127 111, vI (iDiv p1 40), vI (gI h 152 p1), vI (iDiv p2 40), vI (gI h 152 p2)] h (fun v11 h11 =>
    ((v11 : Int) = 0 ∨ (v11 : Int) = 1) ∧ Q (some (vI v11)) h11))))))) : zK 214 0 [vR 127 111, vI p1, vI p2, vU, vU, vU, vU] [] h Q :=
  zwpe_W (cd := c214) rfl [] 400 0 _ _ _ _ k
-- 215 SyntaxRulesModel.isSameOther(II)Z
set_option maxRecDepth 100000 in
set_option maxHeartbeats 4000000 in
theorem k215_0 (p1 : Int) (p2 : Int) (h : zH) (Q : Option zV → zH → Prop) (k :
  (0 ≤ (p1 : Int)) ∧ ((p1 : Int) < 320) ∧ (0 ≤ (p2 : Int)) ∧ ((p2 : Int) < 320) ∧ (¬ (gI h 155 p1) = (gI h 155 p2) →
    zK 215 24 [vR 127 111, vI p1, vI p2, vI 0, vI 0] [] h Q) ∧
    (¬ (¬ (gI h 155 p1) = (gI h 155 p2)) →
    zK 215 24 [vR 127 111, vI p1, vI p2, vI 1, vI 0] [] h Q)) : zK 215 0 [vR 127 111, vI p1, vI p2, vU, vU] [] h Q :=
  zwpe_W (cd := c215) rfl [24] 400 0 _ _ _ _ k
set_option maxRecDepth 100000 in
set_option maxHeartbeats 4000000 in
theorem k215_24 (l1 : Int) (l2 : Int) (l3 : Int) (l4 : Int) (h : zH) (Q : Option zV → zH → Prop) (k :
  (l3 = 0 →
    ((l3 : Int) = 0 ∨ (l3 : Int) = 1) ∧ Q (some (vI l3)) h) ∧
    (¬ (l3 = 0) →
    (0 ≤ (l1 : Int)) ∧ ((l1 : Int) < 320) ∧ ((gI h 155 l1) ≤ l4 →
      ((l3 : Int) = 0 ∨ (l3 : Int) = 1) ∧ Q (some (vI l3)) h) ∧
      (¬ ((gI h 155 l1) ≤ l4) →
      (inR (21 * l1)) ∧ (inR ((21 * l1) + l4)) ∧ (0 ≤ ((21 * l1) + l4 : Int)) ∧ (((21 * l1) + l4 : Int) < 6720) ∧ (inR (21 * l2)) ∧ (inR ((21 * l2) + l4)) ∧ (0 ≤ ((21 * l2) + l4 : Int)) ∧ (((21 * l2) + l4 : Int) < 6720) ∧ (¬ (gI h 156 ((21 * l1) + l4)) = (gI h 156 ((21 * l2) + l4)) →
        (inR (l4 + 1)) ∧ zK 215 24 [vR 127 111, vI l1, vI l2, vI 0, vI (l4 + 1)] [] h Q) ∧
        (¬ (¬ (gI h 156 ((21 * l1) + l4)) = (gI h 156 ((21 * l2) + l4))) →
        (inR (l4 + 1)) ∧ zK 215 24 [vR 127 111, vI l1, vI l2, vI 1, vI (l4 + 1)] [] h Q)))) : zK 215 24 [vR 127 111, vI l1, vI l2, vI l3, vI l4] [] h Q :=
  zwpe_W (cd := c215) rfl [24] 400 24 _ _ _ _ k
-- 216 SyntaxRulesModel.isSameTest(II)Z
set_option maxRecDepth 100000 in
set_option maxHeartbeats 4000000 in
theorem k216_0 (p1 : Int) (p2 : Int) (h : zH) (Q : Option zV → zH → Prop) (k :
  (0 ≤ (p1 : Int)) ∧ ((p1 : Int) < 320) ∧ (0 ≤ (p2 : Int)) ∧ ((p2 : Int) < 320) ∧ (¬ (gI h 151 p1) = (gI h 151 p2) →
    zK 216 39 [vR 127 111, vI p1, vI p2, vI 0, vI 0] [] h Q) ∧
    (¬ (¬ (gI h 151 p1) = (gI h 151 p2)) →
    (0 ≤ (p1 : Int)) ∧ ((p1 : Int) < 320) ∧ (0 ≤ (p2 : Int)) ∧ ((p2 : Int) < 320) ∧ (¬ (gI h 153 p1) = (gI h 153 p2) →
      zK 216 39 [vR 127 111, vI p1, vI p2, vI 0, vI 0] [] h Q) ∧
      (¬ (¬ (gI h 153 p1) = (gI h 153 p2)) →
      zK 216 39 [vR 127 111, vI p1, vI p2, vI 1, vI 0] [] h Q))) : zK 216 0 [vR 127 111, vI p1, vI p2, vU, vU] [] h Q :=
  zwpe_W (cd := c216) rfl [39, 93] 400 0 _ _ _ _ k
set_option maxRecDepth 100000 in
set_option maxHeartbeats 4000000 in
theorem k216_39 (l1 : Int) (l2 : Int) (l3 : Int) (l4 : Int) (h : zH) (Q : Option zV → zH → Prop) (k :
  (l3 = 0 →
    zK 216 93 [vR 127 111, vI l1, vI l2, vI l3, vI l4] [] h Q) ∧
    (¬ (l3 = 0) →
    (0 ≤ (l1 : Int)) ∧ ((l1 : Int) < 320) ∧ ((gI h 153 l1) ≤ l4 →
      zK 216 93 [vR 127 111, vI l1, vI l2, vI l3, vI l4] [] h Q) ∧
      (¬ ((gI h 153 l1) ≤ l4) →
      (inR (21 * l1)) ∧ (inR ((21 * l1) + l4)) ∧ (0 ≤ ((21 * l1) + l4 : Int)) ∧ (((21 * l1) + l4 : Int) < 6720) ∧ (inR (21 * l2)) ∧ (inR ((21 * l2) + l4)) ∧ (0 ≤ ((21 * l2) + l4 : Int)) ∧ (((21 * l2) + l4 : Int) < 6720) ∧ (¬ (gI h 154 ((21 * l1) + l4)) = (gI h 154 ((21 * l2) + l4)) →
        (inR (l4 + 1)) ∧ zK 216 39 [vR 127 111, vI l1, vI l2, vI 0, vI (l4 + 1)] [] h Q) ∧
        (¬ (¬ (gI h 154 ((21 * l1) + l4)) = (gI h 154 ((21 * l2) + l4))) →
        (inR (l4 + 1)) ∧ zK 216 39 [vR 127 111, vI l1, vI l2, vI 1, vI (l4 + 1)] [] h Q)))) : zK 216 39 [vR 127 111, vI l1, vI l2, vI l3, vI l4] [] h Q :=
  zwpe_W (cd := c216) rfl [39, 93] 400 39 _ _ _ _ k
set_option maxRecDepth 100000 in
set_option maxHeartbeats 4000000 in
theorem k216_93 (l1 : Int) (l2 : Int) (l3 : Int) (u4 : zV) (h : zH) (Q : Option zV → zH → Prop) (k :
  (l3 = 0 →
    ((0 : Int) = 0 ∨ (0 : Int) = 1) ∧ Q (some (vI 0)) h) ∧
    (¬ (l3 = 0) →
    zC1 214 [vR 127 111, vI l1, vI l2] h (fun v2 h2 =>
    (v2 = 0 →
      ((0 : Int) = 0 ∨ (0 : Int) = 1) ∧ Q (some (vI 0)) h2) ∧
      (¬ (v2 = 0) →
      ((1 : Int) = 0 ∨ (1 : Int) = 1) ∧ Q (some (vI 1)) h2)))) : zK 216 93 [vR 127 111, vI l1, vI l2, vI l3, u4] [] h Q :=
  zwpe_W (cd := c216) rfl [39, 93] 400 93 _ _ _ _ k
-- 217 SyntaxRulesModel.childOf(II)I
set_option maxRecDepth 100000 in
set_option maxHeartbeats 4000000 in
theorem k217_0 (p1 : Int) (p2 : Int) (h : zH) (Q : Option zV → zH → Prop) (k :
  zK 217 2 [vR 127 111, vI p1, vI p2, vI 0] [] h Q) : zK 217 0 [vR 127 111, vI p1, vI p2, vU] [] h Q :=
  zwpe_W (cd := c217) rfl [2] 400 0 _ _ _ _ k
set_option maxRecDepth 100000 in
set_option maxHeartbeats 4000000 in
theorem k217_2 (l1 : Int) (l2 : Int) (l3 : Int) (h : zH) (Q : Option zV → zH → Prop) (k :
  ((gI h 127 54) ≤ l3 →
    (0 ≤ (gI h 127 54 : Int)) ∧ ((gI h 127 54 : Int) < 320) ∧ ∀ h5 : zH, h5 = sI h 160 (gI h 127 54) l2 →
    (0 ≤ (gI h5 127 54 : Int)) ∧ ((gI h5 127 54 : Int) < 320) ∧ ∀ h6 : zH, h6 = sI h5 161 (gI h5 127 54) l1 →
    (inR ((gI h6 127 54) + 1)) ∧ ∀ h7 : zH, h7 = sI h6 127 54 ((gI h6 127 54) + 1) →
    (inR ((gI h7 127 54) - 1)) ∧ Q (some (vI ((gI h7 127 54) - 1))) h7) ∧
    (¬ ((gI h 127 54) ≤ l3) →
    (0 ≤ (l3 : Int)) ∧ ((l3 : Int) < 320) ∧ (¬ (gI h 161 l3) = l1 →
      (inR (l3 + 1)) ∧ zK 217 2 [vR 127 111, vI l1, vI l2, vI (l3 + 1)] [] h Q) ∧
      (¬ (¬ (gI h 161 l3) = l1) →
      (0 ≤ (l3 : Int)) ∧ ((l3 : Int) < 320) ∧ zC1 216 [vR 127 111, vI (gI h 160 l3), vI l2] h (fun v8 h8 =>
      (v8 = 0 →
        (inR (l3 + 1)) ∧ zK 217 2 [vR 127 111, vI l1, vI l2, vI (l3 + 1)] [] h8 Q) ∧
        (¬ (v8 = 0) →
        Q (some (vI l3)) h8))))) : zK 217 2 [vR 127 111, vI l1, vI l2, vI l3] [] h Q :=
  zwpe_W (cd := c217) rfl [2] 400 2 _ _ _ _ k
-- 218 SyntaxRulesModel.layTests()V
set_option maxRecDepth 100000 in
set_option maxHeartbeats 4000000 in
theorem k218_0 (h : zH) (Q : Option zV → zH → Prop) (k :
  ∀ h7 : zH, h7 = sI h 127 54 0 →
  ∀ h8 : zH, h8 = sI h7 127 55 0 →
  zK 218 12 [vR 127 111, vI 0, vU, vU] [] h8 Q) : zK 218 0 [vR 127 111, vU, vU, vU] [] h Q :=
  zwpe_W (cd := c218) rfl [12, 50] 400 0 _ _ _ _ k
set_option maxRecDepth 100000 in
set_option maxHeartbeats 4000000 in
theorem k218_12 (l1 : Int) (u2 : zV) (u3 : zV) (h : zH) (Q : Option zV → zH → Prop) (k :
  (8 ≤ l1 →
    Q none h) ∧
    (¬ (8 ≤ l1) →
    zC1 143 [vR 127 111, vI l1] h (fun v9 h9 =>
    (v9 = 0 →
      (inR (l1 + 1)) ∧ zK 218 12 [vR 127 111, vI (l1 + 1), u2, u3] [] h9 Q) ∧
      (¬ (v9 = 0) →
      zC0 210 [vR 127 111, vI l1] h9 (fun h10 =>
      (0 ≤ (l1 : Int)) ∧ ((l1 : Int) < 8) ∧ (inR ((gI h10 127 55) + (gI h10 150 l1))) ∧ ∀ h11 : zH, h11 = sI h10 127 55 ((gI h10 127 55) + (gI h10 150 l1)) →
      zK 218 50 [vR 127 111, vI l1, vI ((-1)), vI 0] [] h11 Q))))) : zK 218 12 [vR 127 111, vI l1, u2, u3] [] h Q :=
  zwpe_W (cd := c218) rfl [12, 50] 400 12 _ _ _ _ k
set_option maxRecDepth 100000 in
set_option maxHeartbeats 4000000 in
theorem k218_50 (l1 : Int) (l2 : Int) (l3 : Int) (h : zH) (Q : Option zV → zH → Prop) (k :
  (0 ≤ (l1 : Int)) ∧ ((l1 : Int) < 8) ∧ ((gI h 150 l1) ≤ l3 →
    (inR (l1 + 1)) ∧ zK 218 12 [vR 127 111, vI (l1 + 1), vI l2, vI l3] [] h Q) ∧
    (¬ ((gI h 150 l1) ≤ l3) →
    (inR (40 * l1)) ∧ (inR ((40 * l1) + l3)) ∧ zC1 217 [vR 127 111, vI l2, vI ((40 * l1) + l3)] h (fun v12 h12 =>
    (inR (l3 + 1)) ∧ zK 218 50 [vR 127 111, vI l1, vI v12, vI (l3 + 1)] [] h12 Q))) : zK 218 50 [vR 127 111, vI l1, vI l2, vI l3] [] h Q :=
  zwpe_W (cd := c218) rfl [12, 50] 400 50 _ _ _ _ k
-- 219 SyntaxRulesModel.tests(I)I
set_option maxRecDepth 100000 in
set_option maxHeartbeats 4000000 in
theorem k219_0 (p1 : Int) (h : zH) (Q : Option zV → zH → Prop) (k :
  ∀ h2 : zH, h2 = sI h 127 0 0 →
  (¬ p1 = 0 →
    (¬ p1 = 1 →
      Q (some (vI ((-1)))) h2) ∧
      (¬ (¬ p1 = 1) →
      Q (some (vI (gI h2 127 54))) h2)) ∧
    (¬ (¬ p1 = 0) →
    Q (some (vI (gI h2 127 55))) h2)) : zK 219 0 [vR 127 111, vI p1] [] h Q :=
  zwpe_W (cd := c219) rfl [] 400 0 _ _ _ _ k
-- 220 SyntaxRulesModel.nodeAt(I[III)I
set_option maxRecDepth 100000 in
set_option maxHeartbeats 4000000 in
theorem k220_0 (p1 : Int) (p2 : Nat) (p3 : Int) (p4 : Int) (h : zH) (Q : Option zV → zH → Prop) (k :
  zK 220 6 [vR 127 111, vI p1, vR p2 672140, vI p3, vI p4, vI p1, vI 0, vU, vU] [] h Q) : zK 220 0 [vR 127 111, vI p1, vR p2 672140, vI p3, vI p4, vU, vU, vU, vU] [] h Q :=
  zwpe_W (cd := c220) rfl [6, 22] 400 0 _ _ _ _ k
set_option maxRecDepth 100000 in
set_option maxHeartbeats 4000000 in
theorem k220_6 (u1 : zV) (a2 : Nat) (l3 : Int) (l4 : Int) (l5 : Int) (l6 : Int) (u7 : zV) (u8 : zV) (h : zH) (Q : Option zV → zH → Prop) (k :
  (l4 ≤ l6 →
    Q (some (vI l5)) h) ∧
    (¬ (l4 ≤ l6) →
    (inR (l5 + 1)) ∧ zK 220 22 [vR 127 111, u1, vR a2 672140, vI l3, vI l4, vI l5, vI l6, vI (l5 + 1), vI 0] [] h Q)) : zK 220 6 [vR 127 111, u1, vR a2 672140, vI l3, vI l4, vI l5, vI l6, u7, u8] [] h Q :=
  zwpe_W (cd := c220) rfl [6, 22] 400 6 _ _ _ _ k
set_option maxRecDepth 100000 in
set_option maxHeartbeats 4000000 in
theorem k220_22 (u1 : zV) (a2 : Nat) (l3 : Int) (l4 : Int) (u5 : zV) (l6 : Int) (l7 : Int) (l8 : Int) (h : zH) (Q : Option zV → zH → Prop) (k :
  (inR (l3 + l6)) ∧ (0 ≤ (l3 + l6 : Int)) ∧ ((l3 + l6 : Int) < 6720) ∧ ((gI h a2 (l3 + l6)) ≤ l8 →
    (inR (l6 + 1)) ∧ zK 220 6 [vR 127 111, u1, vR a2 672140, vI l3, vI l4, vI l7, vI (l6 + 1), vI l7, vI l8] [] h Q) ∧
    (¬ ((gI h a2 (l3 + l6)) ≤ l8) →
    zC1 158 [vR 127 111, vI l7, vI 6] h (fun v2 h2 =>
    (inR (l7 + v2)) ∧ (inR (l8 + 1)) ∧ zK 220 22 [vR 127 111, u1, vR a2 672140, vI l3, vI l4, u5, vI l6, vI (l7 + v2), vI (l8 + 1)] [] h2 Q))) : zK 220 22 [vR 127 111, u1, vR a2 672140, vI l3, vI l4, u5, vI l6, vI l7, vI l8] [] h Q :=
  zwpe_W (cd := c220) rfl [6, 22] 400 22 _ _ _ _ k
-- 221 SyntaxRulesModel.isSo(II)Z
set_option maxRecDepth 100000 in
set_option maxHeartbeats 4000000 in
theorem k221_0 (p1 : Int) (p2 : Int) (h : zH) (Q : Option zV → zH → Prop) (k :
  (¬ 40 = 0) ∧ (0 ≤ (p1 : Int)) ∧ ((p1 : Int) < 320) ∧ (inR (21 * p1)) ∧ (0 ≤ (p1 : Int)) ∧ ((p1 : Int) < 320) ∧ zC1 220 [vR 127 111, vI p2, vR 154 672140, vI (21 * p1), vI (gI h 153 p1)] h (fun v13 h13 =>
  (0 ≤ (p1 : Int)) ∧ ((p1 : Int) < 320) ∧ ((gI h13 151 p1) = (0 : Int) →
    zC1 179 [vR 127 111, vI (iDiv p1 40), vI 0, vI (gI h 152 p1), vI 0] h13 (fun v22 h22 =>
    (¬ v22 = 4 →
      zC1 183 [vR 127 111, vI (iDiv p1 40), vI (gI h 152 p1), vI 1, vI v13] h22 (fun v23 h23 =>
      ((v23 : Int) = 0 ∨ (v23 : Int) = 1) ∧ Q (some (vI v23)) h23)) ∧
      (¬ (¬ v22 = 4) →
      zC1 183 [vR 127 111, vI (iDiv p1 40), vI (gI h 152 p1), vI 0, vI v13] h22 (fun v24 h24 =>
      ((v24 : Int) = 0 ∨ (v24 : Int) = 1) ∧ Q (some (vI v24)) h24)))) ∧
    (¬ ((gI h13 151 p1) = (0 : Int)) →
    ((gI h13 151 p1) = ((0 : Int) + 1) →
    zC1 183 [vR 127 111, vI (iDiv p1 40), vI (gI h 152 p1), vI 2, vI v13] h13 (fun v21 h21 =>
    ((v21 : Int) = 0 ∨ (v21 : Int) = 1) ∧ Q (some (vI v21)) h21)) ∧
    (¬ ((gI h13 151 p1) = ((0 : Int) + 1)) →
    ((gI h13 151 p1) = ((0 : Int) + 1 + 1) →
    zC1 158 [vR 127 111, vI v13, vI 3] h13 (fun v19 h19 =>
    zC1 179 [vR 127 111, vI (iDiv p1 40), vI 0, vI (gI h 152 p1), vI 1] h19 (fun v20 h20 =>
    (¬ v19 = v20 →
      ((0 : Int) = 0 ∨ (0 : Int) = 1) ∧ Q (some (vI 0)) h20) ∧
      (¬ (¬ v19 = v20) →
      ((1 : Int) = 0 ∨ (1 : Int) = 1) ∧ Q (some (vI 1)) h20)))) ∧
    (¬ ((gI h13 151 p1) = ((0 : Int) + 1 + 1)) →
    ((gI h13 151 p1) = ((0 : Int) + 1 + 1 + 1) →
    zC1 158 [vR 127 111, vI v13, vI 0] h13 (fun v17 h17 =>
    zC1 179 [vR 127 111, vI (iDiv p1 40), vI 0, vI (gI h 152 p1), vI 2] h17 (fun v18 h18 =>
    (¬ v17 = v18 →
      ((0 : Int) = 0 ∨ (0 : Int) = 1) ∧ Q (some (vI 0)) h18) ∧
      (¬ (¬ v17 = v18) →
      ((1 : Int) = 0 ∨ (1 : Int) = 1) ∧ Q (some (vI 1)) h18)))) ∧
    (¬ ((gI h13 151 p1) = ((0 : Int) + 1 + 1 + 1)) →
    ((gI h13 151 p1) = ((0 : Int) + 1 + 1 + 1 + 1) →
    (inR (21 * p1)) ∧ (0 ≤ (p1 : Int)) ∧ ((p1 : Int) < 320) ∧ zC1 220 [vR 127 111, vI p2, vR 156 672140, vI (21 * p1), vI (gI h13 155 p1)] h13 (fun v15 h15 =>
    zC1 181 [vR 127 111, vI v15, vI v13] h15 (fun v16 h16 =>
    ((v16 : Int) = 0 ∨ (v16 : Int) = 1) ∧ Q (some (vI v16)) h16))) ∧
    (¬ ((gI h13 151 p1) = ((0 : Int) + 1 + 1 + 1 + 1)) →
    zC1 190 [vR 127 111, vI (iDiv p1 40), vI (gI h 152 p1), vI v13] h13 (fun v14 h14 =>
    ((v14 : Int) = 0 ∨ (v14 : Int) = 1) ∧ Q (some (vI v14)) h14)))))))) : zK 221 0 [vR 127 111, vI p1, vI p2, vU, vU, vU] [] h Q :=
  zwpe_W (cd := c221) rfl [] 400 0 _ _ _ _ k
-- 222 SyntaxRulesModel.asked(I)I
set_option maxRecDepth 100000 in
set_option maxHeartbeats 4000000 in
theorem k222_0 (p1 : Int) (h : zH) (Q : Option zV → zH → Prop) (k :
  ∀ h5 : zH, h5 = sI h 127 0 0 →
  zC1 157 [vR 127 111, vI p1] h5 (fun v6 h6 =>
  (¬ v6 = 0 →
    zK 222 19 [vR 127 111, vI p1, vI 0, vI 0, vU] [] h6 Q) ∧
    (¬ (¬ v6 = 0) →
    Q (some (vI ((-1)))) h6))) : zK 222 0 [vR 127 111, vI p1, vU, vU, vU] [] h Q :=
  zwpe_W (cd := c222) rfl [19, 51, 56, 86, 87] 400 0 _ _ _ _ k
set_option maxRecDepth 100000 in
set_option maxHeartbeats 4000000 in
theorem k222_19 (l1 : Int) (l2 : Int) (l3 : Int) (u4 : zV) (h : zH) (Q : Option zV → zH → Prop) (k :
  ((gI h 127 54) ≤ l3 →
    Q (some (vI l2)) h) ∧
    (¬ ((gI h 127 54) ≤ l3) →
    (0 ≤ (l3 : Int)) ∧ ((l3 : Int) < 320) ∧ ((gI h 161 l3) = (-1) →
      zK 222 51 [vR 127 111, vI l1, vI l2, vI l3, u4] [] h Q) ∧
      (¬ ((gI h 161 l3) = (-1)) →
      (0 ≤ (l3 : Int)) ∧ ((l3 : Int) < 320) ∧ (0 ≤ (gI h 161 l3 : Int)) ∧ ((gI h 161 l3 : Int) < 320) ∧ ((gI h 162 (gI h 161 l3)) = 0 →
        zK 222 56 [vR 127 111, vI l1, vI l2, vI l3, u4] [vI 0] h Q) ∧
        (¬ ((gI h 162 (gI h 161 l3)) = 0) →
        zK 222 51 [vR 127 111, vI l1, vI l2, vI l3, u4] [] h Q)))) : zK 222 19 [vR 127 111, vI l1, vI l2, vI l3, u4] [] h Q :=
  zwpe_W (cd := c222) rfl [19, 51, 56, 86, 87] 400 19 _ _ _ _ k
set_option maxRecDepth 100000 in
set_option maxHeartbeats 4000000 in
theorem k222_51 (l1 : Int) (l2 : Int) (l3 : Int) (u4 : zV) (h : zH) (Q : Option zV → zH → Prop) (k :
  zK 222 56 [vR 127 111, vI l1, vI l2, vI l3, u4] [vI 1] h Q) : zK 222 51 [vR 127 111, vI l1, vI l2, vI l3, u4] [] h Q :=
  zwpe_W (cd := c222) rfl [19, 51, 56, 86, 87] 400 51 _ _ _ _ k
set_option maxRecDepth 100000 in
set_option maxHeartbeats 4000000 in
theorem k222_56 (l1 : Int) (l2 : Int) (l3 : Int) (u4 : zV) (s0 : Int) (h : zH) (Q : Option zV → zH → Prop) (k :
  (s0 = 0 →
    zK 222 86 [vR 127 111, vI l1, vI l2, vI l3, vI s0] [vI l3, vR 162 32141] h Q) ∧
    (¬ (s0 = 0) →
    (0 ≤ (l3 : Int)) ∧ ((l3 : Int) < 320) ∧ zC1 221 [vR 127 111, vI (gI h 160 l3), vI l1] h (fun v7 h7 =>
    (v7 = 0 →
      zK 222 86 [vR 127 111, vI l1, vI l2, vI l3, vI s0] [vI l3, vR 162 32141] h7 Q) ∧
      (¬ (v7 = 0) →
      zK 222 87 [vR 127 111, vI l1, vI l2, vI l3, vI s0] [vI 1, vI l3, vR 162 32141] h7 Q)))) : zK 222 56 [vR 127 111, vI l1, vI l2, vI l3, u4] [vI s0] h Q :=
  zwpe_W (cd := c222) rfl [19, 51, 56, 86, 87] 400 56 _ _ _ _ k
set_option maxRecDepth 100000 in
set_option maxHeartbeats 4000000 in
theorem k222_86 (l1 : Int) (l2 : Int) (l3 : Int) (l4 : Int) (s0 : Int) (h : zH) (Q : Option zV → zH → Prop) (k :
  zK 222 87 [vR 127 111, vI l1, vI l2, vI l3, vI l4] [vI 0, vI s0, vR 162 32141] h Q) : zK 222 86 [vR 127 111, vI l1, vI l2, vI l3, vI l4] [vI s0, vR 162 32141] h Q :=
  zwpe_W (cd := c222) rfl [19, 51, 56, 86, 87] 400 86 _ _ _ _ k
set_option maxRecDepth 100000 in
set_option maxHeartbeats 4000000 in
theorem k222_87 (l1 : Int) (l2 : Int) (l3 : Int) (l4 : Int) (s0 : Int) (s1 : Int) (h : zH) (Q : Option zV → zH → Prop) (k :
  (0 ≤ (s1 : Int)) ∧ ((s1 : Int) < 320) ∧ ((s0 : Int) = 0 ∨ (s0 : Int) = 1) ∧ ∀ h8 : zH, h8 = sI h 162 s1 s0 →
  (l4 = 0 →
    (inR (l2 + 0)) ∧ (inR (l3 + 1)) ∧ zK 222 19 [vR 127 111, vI l1, vI (l2 + 0), vI (l3 + 1), vI l4] [] h8 Q) ∧
    (¬ (l4 = 0) →
    (inR (l2 + 1)) ∧ (inR (l3 + 1)) ∧ zK 222 19 [vR 127 111, vI l1, vI (l2 + 1), vI (l3 + 1), vI l4] [] h8 Q)) : zK 222 87 [vR 127 111, vI l1, vI l2, vI l3, vI l4] [vI s0, vI s1, vR 162 32141] h Q :=
  zwpe_W (cd := c222) rfl [19, 51, 56, 86, 87] 400 87 _ _ _ _ k
-- 223 SyntaxRulesModel.leastRule(I)I
set_option maxRecDepth 100000 in
set_option maxHeartbeats 4000000 in
theorem k223_0 (p1 : Int) (h : zH) (Q : Option zV → zH → Prop) (k :
  zK 223 2 [vR 127 111, vI p1, vI 0] [] h Q) : zK 223 0 [vR 127 111, vI p1, vU] [] h Q :=
  zwpe_W (cd := c223) rfl [2] 400 0 _ _ _ _ k
set_option maxRecDepth 100000 in
set_option maxHeartbeats 4000000 in
theorem k223_2 (l1 : Int) (l2 : Int) (h : zH) (Q : Option zV → zH → Prop) (k :
  (8 ≤ l2 →
    Q (some (vI ((-1)))) h) ∧
    (¬ (8 ≤ l2) →
    zC1 191 [vR 127 111, vI l2, vI l1] h (fun v2 h2 =>
    (v2 = 0 →
      (inR (l2 + 1)) ∧ zK 223 2 [vR 127 111, vI l1, vI (l2 + 1)] [] h2 Q) ∧
      (¬ (v2 = 0) →
      Q (some (vI l2)) h2)))) : zK 223 2 [vR 127 111, vI l1, vI l2] [] h Q :=
  zwpe_W (cd := c223) rfl [2] 400 2 _ _ _ _ k
-- 224 SyntaxRulesModel.addEdit(II)V
set_option maxRecDepth 100000 in
set_option maxHeartbeats 4000000 in
theorem k224_0 (p1 : Int) (p2 : Int) (h : zH) (Q : Option zV → zH → Prop) (k :
  zK 224 5 [vR 127 111, vI p1, vI p2, vI (gI h 127 59)] [] h Q) : zK 224 0 [vR 127 111, vI p1, vI p2, vU] [] h Q :=
  zwpe_W (cd := c224) rfl [5, 55] 400 0 _ _ _ _ k
set_option maxRecDepth 100000 in
set_option maxHeartbeats 4000000 in
theorem k224_5 (l1 : Int) (l2 : Int) (l3 : Int) (h : zH) (Q : Option zV → zH → Prop) (k :
  (l3 ≤ 0 →
    zK 224 55 [vR 127 111, vI l1, vI l2, vI l3] [] h Q) ∧
    (¬ (l3 ≤ 0) →
    (inR (l3 - 1)) ∧ (0 ≤ (l3 - 1 : Int)) ∧ ((l3 - 1 : Int) < 60) ∧ ((gI h 163 (l3 - 1)) ≤ l1 →
      zK 224 55 [vR 127 111, vI l1, vI l2, vI l3] [] h Q) ∧
      (¬ ((gI h 163 (l3 - 1)) ≤ l1) →
      (inR (l3 - 1)) ∧ (0 ≤ (l3 - 1 : Int)) ∧ ((l3 - 1 : Int) < 60) ∧ (0 ≤ (l3 : Int)) ∧ ((l3 : Int) < 60) ∧ ∀ h6 : zH, h6 = sI h 163 l3 (gI h 163 (l3 - 1)) →
      (inR (l3 - 1)) ∧ (0 ≤ (l3 - 1 : Int)) ∧ ((l3 - 1 : Int) < 60) ∧ (0 ≤ (l3 : Int)) ∧ ((l3 : Int) < 60) ∧ ∀ h7 : zH, h7 = sI h6 164 l3 (gI h6 164 (l3 - 1)) →
      (inR (l3 + (-1))) ∧ zK 224 5 [vR 127 111, vI l1, vI l2, vI (l3 + (-1))] [] h7 Q))) : zK 224 5 [vR 127 111, vI l1, vI l2, vI l3] [] h Q :=
  zwpe_W (cd := c224) rfl [5, 55] 400 5 _ _ _ _ k
set_option maxRecDepth 100000 in
set_option maxHeartbeats 4000000 in
theorem k224_55 (l1 : Int) (l2 : Int) (l3 : Int) (h : zH) (Q : Option zV → zH → Prop) (k :
  (0 ≤ (l3 : Int)) ∧ ((l3 : Int) < 60) ∧ ∀ h8 : zH, h8 = sI h 163 l3 l1 →
  (0 ≤ (l3 : Int)) ∧ ((l3 : Int) < 60) ∧ ∀ h9 : zH, h9 = sI h8 164 l3 l2 →
  (inR ((gI h9 127 59) + 1)) ∧ ∀ h10 : zH, h10 = sI h9 127 59 ((gI h9 127 59) + 1) →
  Q none h10) : zK 224 55 [vR 127 111, vI l1, vI l2, vI l3] [] h Q :=
  zwpe_W (cd := c224) rfl [5, 55] 400 55 _ _ _ _ k
-- 225 SyntaxRulesModel.walkOutside()V
set_option maxRecDepth 100000 in
set_option maxHeartbeats 4000000 in
theorem k225_0 (h : zH) (Q : Option zV → zH → Prop) (k :
  zK 225 2 [vR 127 111, vI 0, vU] [] h Q) : zK 225 0 [vR 127 111, vU, vU] [] h Q :=
  zwpe_W (cd := c225) rfl [2] 400 0 _ _ _ _ k
set_option maxRecDepth 100000 in
set_option maxHeartbeats 4000000 in
theorem k225_2 (l1 : Int) (u2 : zV) (h : zH) (Q : Option zV → zH → Prop) (k :
  ((gI h 127 20) ≤ l1 →
    Q none h) ∧
    (¬ ((gI h 127 20) ≤ l1) →
    zC1 223 [vR 127 111, vI l1] h (fun v4 h4 =>
    (¬ v4 = (-1) →
      zC0 224 [vR 127 111, vI l1, vI v4] h4 (fun h5 =>
      zC1 158 [vR 127 111, vI l1, vI 6] h5 (fun v6 h6 =>
      (inR (l1 + v6)) ∧ zK 225 2 [vR 127 111, vI (l1 + v6), vI v4] [] h6 Q))) ∧
      (¬ (¬ v4 = (-1)) →
      (inR (l1 + 1)) ∧ zK 225 2 [vR 127 111, vI (l1 + 1), vI v4] [] h4 Q)))) : zK 225 2 [vR 127 111, vI l1, u2] [] h Q :=
  zwpe_W (cd := c225) rfl [2] 400 2 _ _ _ _ k
-- 226 SyntaxRulesModel.hasEdit(I)Z
set_option maxRecDepth 100000 in
set_option maxHeartbeats 4000000 in
theorem k226_0 (p1 : Int) (h : zH) (Q : Option zV → zH → Prop) (k :
  zK 226 4 [vR 127 111, vI p1, vI 0, vI 0] [] h Q) : zK 226 0 [vR 127 111, vI p1, vU, vU] [] h Q :=
  zwpe_W (cd := c226) rfl [4] 400 0 _ _ _ _ k
set_option maxRecDepth 100000 in
set_option maxHeartbeats 4000000 in
theorem k226_4 (l1 : Int) (l2 : Int) (l3 : Int) (h : zH) (Q : Option zV → zH → Prop) (k :
  ((gI h 127 59) ≤ l3 →
    ((l2 : Int) = 0 ∨ (l2 : Int) = 1) ∧ Q (some (vI l2)) h) ∧
    (¬ ((gI h 127 59) ≤ l3) →
    (¬ l2 = 0 →
      (inR (l3 + 1)) ∧ zK 226 4 [vR 127 111, vI l1, vI 1, vI (l3 + 1)] [] h Q) ∧
      (¬ (¬ l2 = 0) →
      (0 ≤ (l3 : Int)) ∧ ((l3 : Int) < 60) ∧ ((gI h 163 l3) < l1 →
        (inR (l3 + 1)) ∧ zK 226 4 [vR 127 111, vI l1, vI 0, vI (l3 + 1)] [] h Q) ∧
        (¬ ((gI h 163 l3) < l1) →
        (0 ≤ (l3 : Int)) ∧ ((l3 : Int) < 60) ∧ zC1 158 [vR 127 111, vI l1, vI 6] h (fun v2 h2 =>
        (inR (l1 + v2)) ∧ ((l1 + v2) ≤ (gI h 163 l3) →
          (inR (l3 + 1)) ∧ zK 226 4 [vR 127 111, vI l1, vI 0, vI (l3 + 1)] [] h2 Q) ∧
          (¬ ((l1 + v2) ≤ (gI h 163 l3)) →
          (inR (l3 + 1)) ∧ zK 226 4 [vR 127 111, vI l1, vI 1, vI (l3 + 1)] [] h2 Q)))))) : zK 226 4 [vR 127 111, vI l1, vI l2, vI l3] [] h Q :=
  zwpe_W (cd := c226) rfl [4] 400 4 _ _ _ _ k
-- 227 SyntaxRulesModel.walkInside()V
set_option maxRecDepth 100000 in
set_option maxHeartbeats 4000000 in
theorem k227_0 (h : zH) (Q : Option zV → zH → Prop) (k :
  zK 227 2 [vR 127 111, vI 0, vU] [] h Q) : zK 227 0 [vR 127 111, vU, vU] [] h Q :=
  zwpe_W (cd := c227) rfl [2, 12, 73, 108] 400 0 _ _ _ _ k
set_option maxRecDepth 100000 in
set_option maxHeartbeats 4000000 in
theorem k227_2 (l1 : Int) (u2 : zV) (h : zH) (Q : Option zV → zH → Prop) (k :
  ((gI h 127 20) ≤ l1 →
    zK 227 73 [vR 127 111, vI 0, u2] [] h Q) ∧
    (¬ ((gI h 127 20) ≤ l1) →
    zK 227 12 [vR 127 111, vI l1, vI l1] [] h Q)) : zK 227 2 [vR 127 111, vI l1, u2] [] h Q :=
  zwpe_W (cd := c227) rfl [2, 12, 73, 108] 400 2 _ _ _ _ k
set_option maxRecDepth 100000 in
set_option maxHeartbeats 4000000 in
theorem k227_12 (l1 : Int) (l2 : Int) (h : zH) (Q : Option zV → zH → Prop) (k :
  (l2 ≤ 0 →
    (0 ≤ (l2 : Int)) ∧ ((l2 : Int) < 60) ∧ ∀ h9 : zH, h9 = sI h 165 l2 l1 →
    (inR (l1 + 1)) ∧ zK 227 2 [vR 127 111, vI (l1 + 1), vI l2] [] h9 Q) ∧
    (¬ (l2 ≤ 0) →
    (inR (l2 - 1)) ∧ (0 ≤ (l2 - 1 : Int)) ∧ ((l2 - 1 : Int) < 60) ∧ zC1 158 [vR 127 111, vI (gI h 165 (l2 - 1)), vI 5] h (fun v10 h10 =>
    zC1 158 [vR 127 111, vI l1, vI 5] h10 (fun v11 h11 =>
    (v10 ≤ v11 →
      (0 ≤ (l2 : Int)) ∧ ((l2 : Int) < 60) ∧ ∀ h12 : zH, h12 = sI h11 165 l2 l1 →
      (inR (l1 + 1)) ∧ zK 227 2 [vR 127 111, vI (l1 + 1), vI l2] [] h12 Q) ∧
      (¬ (v10 ≤ v11) →
      (inR (l2 - 1)) ∧ (0 ≤ (l2 - 1 : Int)) ∧ ((l2 - 1 : Int) < 60) ∧ (0 ≤ (l2 : Int)) ∧ ((l2 : Int) < 60) ∧ ∀ h13 : zH, h13 = sI h11 165 l2 (gI h11 165 (l2 - 1)) →
      (inR (l2 + (-1))) ∧ zK 227 12 [vR 127 111, vI l1, vI (l2 + (-1))] [] h13 Q))))) : zK 227 12 [vR 127 111, vI l1, vI l2] [] h Q :=
  zwpe_W (cd := c227) rfl [2, 12, 73, 108] 400 12 _ _ _ _ k
set_option maxRecDepth 100000 in
set_option maxHeartbeats 4000000 in
theorem k227_73 (l1 : Int) (u2 : zV) (h : zH) (Q : Option zV → zH → Prop) (k :
  ((gI h 127 20) ≤ l1 →
    Q none h) ∧
    (¬ ((gI h 127 20) ≤ l1) →
    (0 ≤ (l1 : Int)) ∧ ((l1 : Int) < 60) ∧ zC1 226 [vR 127 111, vI (gI h 165 l1)] h (fun v14 h14 =>
    (v14 = 0 →
      (0 ≤ (l1 : Int)) ∧ ((l1 : Int) < 60) ∧ zC1 223 [vR 127 111, vI (gI h14 165 l1)] h14 (fun v15 h15 =>
      zK 227 108 [vR 127 111, vI l1, u2] [vI v15] h15 Q)) ∧
      (¬ (v14 = 0) →
      zK 227 108 [vR 127 111, vI l1, u2] [vI ((-1))] h14 Q)))) : zK 227 73 [vR 127 111, vI l1, u2] [] h Q :=
  zwpe_W (cd := c227) rfl [2, 12, 73, 108] 400 73 _ _ _ _ k
set_option maxRecDepth 100000 in
set_option maxHeartbeats 4000000 in
theorem k227_108 (l1 : Int) (u2 : zV) (s0 : Int) (h : zH) (Q : Option zV → zH → Prop) (k :
  (s0 = (-1) →
    (inR (l1 + 1)) ∧ zK 227 73 [vR 127 111, vI (l1 + 1), vI s0] [] h Q) ∧
    (¬ (s0 = (-1)) →
    (0 ≤ (l1 : Int)) ∧ ((l1 : Int) < 60) ∧ zC0 224 [vR 127 111, vI (gI h 165 l1), vI s0] h (fun h16 =>
    (inR (l1 + 1)) ∧ zK 227 73 [vR 127 111, vI (l1 + 1), vI s0] [] h16 Q))) : zK 227 108 [vR 127 111, vI l1, u2] [vI s0] h Q :=
  zwpe_W (cd := c227) rfl [2, 12, 73, 108] 400 108 _ _ _ _ k
-- 228 SyntaxRulesModel.isWay(I)Z
set_option maxRecDepth 100000 in
set_option maxHeartbeats 4000000 in
theorem k228_0 (p0 : Int) (h : zH) (Q : Option zV → zH → Prop) (k :
  zC1 141 [vL p0, vL 0, vL 1] h (fun v2 h2 =>
  ((v2 : Int) = 0 ∨ (v2 : Int) = 1) ∧ Q (some (vI v2)) h2)) : zK 228 0 [vI p0] [] h Q :=
  zwpe_W (cd := c228) rfl [] 400 0 _ _ _ _ k
-- 229 SyntaxRulesModel.walk(I)V
set_option maxRecDepth 100000 in
set_option maxHeartbeats 4000000 in
theorem k229_0 (p1 : Int) (h : zH) (Q : Option zV → zH → Prop) (k :
  ∀ h4 : zH, h4 = sI h 127 59 0 →
  (¬ p1 = 0 →
    zC0 227 [vR 127 111] h4 (fun h5 =>
    Q none h5)) ∧
    (¬ (¬ p1 = 0) →
    zC0 225 [vR 127 111] h4 (fun h6 =>
    Q none h6))) : zK 229 0 [vR 127 111, vI p1] [] h Q :=
  zwpe_W (cd := c229) rfl [] 400 0 _ _ _ _ k
-- 230 SyntaxRulesModel.puts(I)V
set_option maxRecDepth 100000 in
set_option maxHeartbeats 4000000 in
theorem k230_0 (p1 : Int) (h : zH) (Q : Option zV → zH → Prop) (k :
  (0 ≤ (gI h 127 62 : Int)) ∧ ((gI h 127 62 : Int) < 7000) ∧ (-128 ≤ (iByte p1 : Int) ∧ (iByte p1 : Int) ≤ 127) ∧ ∀ h3 : zH, h3 = sI h 166 (gI h 127 62) (iByte p1) →
  (inR ((gI h3 127 62) + 1)) ∧ ∀ h4 : zH, h4 = sI h3 127 62 ((gI h3 127 62) + 1) →
  Q none h4) : zK 230 0 [vR 127 111, vI p1] [] h Q :=
  zwpe_W (cd := c230) rfl [] 400 0 _ _ _ _ k
-- 231 SyntaxRulesModel.putsRow(II)V
set_option maxRecDepth 100000 in
set_option maxHeartbeats 4000000 in
theorem k231_0 (p1 : Int) (p2 : Int) (h : zH) (Q : Option zV → zH → Prop) (k :
  zK 231 2 [vR 127 111, vI p1, vI p2, vI p1] [] h Q) : zK 231 0 [vR 127 111, vI p1, vI p2, vU] [] h Q :=
  zwpe_W (cd := c231) rfl [2] 400 0 _ _ _ _ k
set_option maxRecDepth 100000 in
set_option maxHeartbeats 4000000 in
theorem k231_2 (u1 : zV) (l2 : Int) (l3 : Int) (h : zH) (Q : Option zV → zH → Prop) (k :
  (l2 ≤ l3 →
    Q none h) ∧
    (¬ (l2 ≤ l3) →
    (0 ≤ (l3 : Int)) ∧ ((l3 : Int) < 2709) ∧ zC0 230 [vR 127 111, vI (gI h 128 l3)] h (fun h2 =>
    (inR (l3 + 1)) ∧ zK 231 2 [vR 127 111, u1, vI l2, vI (l3 + 1)] [] h2 Q))) : zK 231 2 [vR 127 111, u1, vI l2, vI l3] [] h Q :=
  zwpe_W (cd := c231) rfl [2] 400 2 _ _ _ _ k
-- 232 SyntaxRulesModel.layHeld()V
set_option maxRecDepth 100000 in
set_option maxHeartbeats 4000000 in
theorem k232_0 (h : zH) (Q : Option zV → zH → Prop) (k :
  zK 232 2 [vR 127 111, vI 0, vU, vU] [] h Q) : zK 232 0 [vR 127 111, vU, vU, vU] [] h Q :=
  zwpe_W (cd := c232) rfl [2, 40] 400 0 _ _ _ _ k
set_option maxRecDepth 100000 in
set_option maxHeartbeats 4000000 in
theorem k232_2 (l1 : Int) (u2 : zV) (u3 : zV) (h : zH) (Q : Option zV → zH → Prop) (k :
  (26 ≤ l1 →
    Q none h) ∧
    (¬ (26 ≤ l1) →
    (0 ≤ (l1 : Int)) ∧ ((l1 : Int) < 26) ∧ ∀ h8 : zH, h8 = sI h 167 l1 0 →
    (0 ≤ (l1 : Int)) ∧ ((l1 : Int) < 26) ∧ ∀ h9 : zH, h9 = sI h8 168 l1 0 →
    (0 ≤ (l1 : Int)) ∧ ((l1 : Int) < 26) ∧ ((gI h9 147 l1) ≤ 0 →
      (inR (l1 + 1)) ∧ zK 232 2 [vR 127 111, vI (l1 + 1), u2, u3] [] h9 Q) ∧
      (¬ ((gI h9 147 l1) ≤ 0) →
      (0 ≤ (l1 : Int)) ∧ ((l1 : Int) < 26) ∧ zK 232 40 [vR 127 111, vI l1, vI (gI h9 146 l1), vI 1] [] h9 Q))) : zK 232 2 [vR 127 111, vI l1, u2, u3] [] h Q :=
  zwpe_W (cd := c232) rfl [2, 40] 400 2 _ _ _ _ k
set_option maxRecDepth 100000 in
set_option maxHeartbeats 4000000 in
theorem k232_40 (l1 : Int) (l2 : Int) (l3 : Int) (h : zH) (Q : Option zV → zH → Prop) (k :
  (0 ≤ (l1 : Int)) ∧ ((l1 : Int) < 26) ∧ ((gI h 147 l1) ≤ l3 →
    (0 ≤ (l1 : Int)) ∧ ((l1 : Int) < 26) ∧ zC1 158 [vR 127 111, vI (gI h 146 l1), vI 4] h (fun v10 h10 =>
    (0 ≤ (l1 : Int)) ∧ ((l1 : Int) < 26) ∧ ∀ h11 : zH, h11 = sI h10 167 l1 v10 →
    zC1 158 [vR 127 111, vI l2, vI 5] h11 (fun v12 h12 =>
    (0 ≤ (l1 : Int)) ∧ ((l1 : Int) < 26) ∧ ∀ h13 : zH, h13 = sI h12 168 l1 v12 →
    (inR (l1 + 1)) ∧ zK 232 2 [vR 127 111, vI (l1 + 1), vI l2, vI l3] [] h13 Q))) ∧
    (¬ ((gI h 147 l1) ≤ l3) →
    zC1 158 [vR 127 111, vI l2, vI 6] h (fun v14 h14 =>
    (inR (l2 + v14)) ∧ (inR (l3 + 1)) ∧ zK 232 40 [vR 127 111, vI l1, vI (l2 + v14), vI (l3 + 1)] [] h14 Q))) : zK 232 40 [vR 127 111, vI l1, vI l2, vI l3] [] h Q :=
  zwpe_W (cd := c232) rfl [2, 40] 400 40 _ _ _ _ k
-- 233 SyntaxRulesModel.isHeld(II)Z
set_option maxRecDepth 100000 in
set_option maxHeartbeats 4000000 in
theorem k233_0 (p1 : Int) (p2 : Int) (h : zH) (Q : Option zV → zH → Prop) (k :
  zK 233 5 [vR 127 111, vI p1, vI p2, vI 0, vI 0, vU, vU] [] h Q) : zK 233 0 [vR 127 111, vI p1, vI p2, vU, vU, vU, vU] [] h Q :=
  zwpe_W (cd := c233) rfl [5, 59] 400 0 _ _ _ _ k
set_option maxRecDepth 100000 in
set_option maxHeartbeats 4000000 in
theorem k233_5 (l1 : Int) (l2 : Int) (l3 : Int) (l4 : Int) (u5 : zV) (u6 : zV) (h : zH) (Q : Option zV → zH → Prop) (k :
  (inR (2 * l1)) ∧ (inR ((2 * l1) + 1)) ∧ (0 ≤ ((2 * l1) + 1 : Int)) ∧ (((2 * l1) + 1 : Int) < 16) ∧ ((gI h 140 ((2 * l1) + 1)) ≤ l4 →
    ((l3 : Int) = 0 ∨ (l3 : Int) = 1) ∧ Q (some (vI l3)) h) ∧
    (¬ ((gI h 140 ((2 * l1) + 1)) ≤ l4) →
    zC1 179 [vR 127 111, vI l1, vI 1, vI l4, vI 0] h (fun v3 h3 =>
    zC1 179 [vR 127 111, vI l1, vI 1, vI l4, vI 1] h3 (fun v4 h4 =>
    (¬ l3 = 0 →
      (inR (l4 + 1)) ∧ zK 233 5 [vR 127 111, vI l1, vI l2, vI 1, vI (l4 + 1), vI v3, vI v4] [] h4 Q) ∧
      (¬ (¬ l3 = 0) →
      (v3 = 1 →
        zK 233 59 [vR 127 111, vI l1, vI l2, vI l3, vI l4, vI v3, vI v4] [] h4 Q) ∧
        (¬ (v3 = 1) →
        (¬ v3 = 6 →
          (inR (l4 + 1)) ∧ zK 233 5 [vR 127 111, vI l1, vI l2, vI 0, vI (l4 + 1), vI v3, vI v4] [] h4 Q) ∧
          (¬ (¬ v3 = 6) →
          zK 233 59 [vR 127 111, vI l1, vI l2, vI l3, vI l4, vI v3, vI v4] [] h4 Q))))))) : zK 233 5 [vR 127 111, vI l1, vI l2, vI l3, vI l4, u5, u6] [] h Q :=
  zwpe_W (cd := c233) rfl [5, 59] 400 5 _ _ _ _ k
set_option maxRecDepth 100000 in
set_option maxHeartbeats 4000000 in
theorem k233_59 (l1 : Int) (l2 : Int) (u3 : zV) (l4 : Int) (u5 : zV) (l6 : Int) (h : zH) (Q : Option zV → zH → Prop) (k :
  (inR (3 * l2)) ∧ (0 ≤ (3 * l2 : Int)) ∧ ((3 * l2 : Int) < 450) ∧ (0 ≤ (l6 : Int)) ∧ ((l6 : Int) < 26) ∧ ((gI h 138 (3 * l2)) < (gI h 167 l6) →
    (inR (l4 + 1)) ∧ zK 233 5 [vR 127 111, vI l1, vI l2, vI 0, vI (l4 + 1), u5, vI l6] [] h Q) ∧
    (¬ ((gI h 138 (3 * l2)) < (gI h 167 l6)) →
    (inR (3 * l2)) ∧ (0 ≤ (3 * l2 : Int)) ∧ ((3 * l2 : Int) < 450) ∧ (0 ≤ (l6 : Int)) ∧ ((l6 : Int) < 26) ∧ ((gI h 168 l6) ≤ (gI h 138 (3 * l2)) →
      (inR (l4 + 1)) ∧ zK 233 5 [vR 127 111, vI l1, vI l2, vI 0, vI (l4 + 1), u5, vI l6] [] h Q) ∧
      (¬ ((gI h 168 l6) ≤ (gI h 138 (3 * l2))) →
      (inR (l4 + 1)) ∧ zK 233 5 [vR 127 111, vI l1, vI l2, vI 1, vI (l4 + 1), u5, vI l6] [] h Q))) : zK 233 59 [vR 127 111, vI l1, vI l2, u3, vI l4, u5, vI l6] [] h Q :=
  zwpe_W (cd := c233) rfl [5, 59] 400 59 _ _ _ _ k
-- 234 SyntaxRulesModel.putsToken(IIZ)V
set_option maxRecDepth 100000 in
set_option maxHeartbeats 4000000 in
theorem k234_0 (p1 : Int) (p2 : Int) (p3 : Int) (h : zH) (Q : Option zV → zH → Prop) (k :
  zC1 179 [vR 127 111, vI p1, vI 1, vI p2, vI 0] h (fun v11 h11 =>
  zC1 179 [vR 127 111, vI p1, vI 1, vI p2, vI 1] h11 (fun v12 h12 =>
  (v11 = 1 →
    zK 234 33 [vR 127 111, vI p1, vI p2, vI p3, vI v11, vI v12, vU, vU] [] h12 Q) ∧
    (¬ (v11 = 1) →
    (¬ v11 = 6 →
      zK 234 38 [vR 127 111, vI p1, vI p2, vI p3, vI v11, vI v12, vU, vU] [vI 0] h12 Q) ∧
      (¬ (¬ v11 = 6) →
      zK 234 33 [vR 127 111, vI p1, vI p2, vI p3, vI v11, vI v12, vU, vU] [] h12 Q))))) : zK 234 0 [vR 127 111, vI p1, vI p2, vI p3, vU, vU, vU, vU] [] h Q :=
  zwpe_W (cd := c234) rfl [33, 38, 66, 72, 126] 400 0 _ _ _ _ k
set_option maxRecDepth 100000 in
set_option maxHeartbeats 4000000 in
theorem k234_33 (l1 : Int) (l2 : Int) (l3 : Int) (l4 : Int) (l5 : Int) (u6 : zV) (u7 : zV) (h : zH) (Q : Option zV → zH → Prop) (k :
  zK 234 38 [vR 127 111, vI l1, vI l2, vI l3, vI l4, vI l5, u6, u7] [vI 1] h Q) : zK 234 33 [vR 127 111, vI l1, vI l2, vI l3, vI l4, vI l5, u6, u7] [] h Q :=
  zwpe_W (cd := c234) rfl [33, 38, 66, 72, 126] 400 33 _ _ _ _ k
set_option maxRecDepth 100000 in
set_option maxHeartbeats 4000000 in
theorem k234_38 (l1 : Int) (l2 : Int) (l3 : Int) (l4 : Int) (l5 : Int) (u6 : zV) (u7 : zV) (s0 : Int) (h : zH) (Q : Option zV → zH → Prop) (k :
  (¬ l3 = 0 →
    zK 234 72 [vR 127 111, vI l1, vI l2, vI l3, vI l4, vI l5, vI s0, u7] [] h Q) ∧
    (¬ (¬ l3 = 0) →
    (l4 = 7 →
      zK 234 72 [vR 127 111, vI l1, vI l2, vI l3, vI l4, vI l5, vI s0, u7] [] h Q) ∧
      (¬ (l4 = 7) →
      (s0 = 0 →
        zK 234 66 [vR 127 111, vI l1, vI l2, vI l3, vI l4, vI l5, vI s0, u7] [] h Q) ∧
        (¬ (s0 = 0) →
        (0 ≤ (l5 : Int)) ∧ ((l5 : Int) < 26) ∧ ((gI h 168 l5) = 0 →
          zK 234 72 [vR 127 111, vI l1, vI l2, vI l3, vI l4, vI l5, vI s0, u7] [] h Q) ∧
          (¬ ((gI h 168 l5) = 0) →
          zK 234 66 [vR 127 111, vI l1, vI l2, vI l3, vI l4, vI l5, vI s0, u7] [] h Q))))) : zK 234 38 [vR 127 111, vI l1, vI l2, vI l3, vI l4, vI l5, u6, u7] [vI s0] h Q :=
  zwpe_W (cd := c234) rfl [33, 38, 66, 72, 126] 400 38 _ _ _ _ k
set_option maxRecDepth 100000 in
set_option maxHeartbeats 4000000 in
theorem k234_66 (l1 : Int) (l2 : Int) (u3 : zV) (l4 : Int) (l5 : Int) (l6 : Int) (u7 : zV) (h : zH) (Q : Option zV → zH → Prop) (k :
  zC0 230 [vR 127 111, vI 32] h (fun h13 =>
  zK 234 72 [vR 127 111, vI l1, vI l2, u3, vI l4, vI l5, vI l6, u7] [] h13 Q)) : zK 234 66 [vR 127 111, vI l1, vI l2, u3, vI l4, vI l5, vI l6, u7] [] h Q :=
  zwpe_W (cd := c234) rfl [33, 38, 66, 72, 126] 400 66 _ _ _ _ k
set_option maxRecDepth 100000 in
set_option maxHeartbeats 4000000 in
theorem k234_72 (l1 : Int) (l2 : Int) (u3 : zV) (l4 : Int) (l5 : Int) (l6 : Int) (u7 : zV) (h : zH) (Q : Option zV → zH → Prop) (k :
  (¬ l4 = 7 →
    (l6 = 0 →
      (¬ l4 = 5 →
        zK 234 126 [vR 127 111, vI l1, vI l2, u3, vI l4, vI l5, vI l6, u7] [] h Q) ∧
        (¬ (¬ l4 = 5) →
        zC0 230 [vR 127 111, vI 40] h (fun h14 =>
        zK 234 126 [vR 127 111, vI l1, vI l2, u3, vI l4, vI l5, vI l6, u7] [] h14 Q))) ∧
      (¬ (l6 = 0) →
      (0 ≤ (l5 : Int)) ∧ ((l5 : Int) < 26) ∧ (0 ≤ (l5 : Int)) ∧ ((l5 : Int) < 26) ∧ zC0 231 [vR 127 111, vI (gI h 167 l5), vI (gI h 168 l5)] h (fun h15 =>
      Q none h15))) ∧
    (¬ (¬ l4 = 7) →
    zC0 230 [vR 127 111, vI 41] h (fun h16 =>
    Q none h16))) : zK 234 72 [vR 127 111, vI l1, vI l2, u3, vI l4, vI l5, vI l6, u7] [] h Q :=
  zwpe_W (cd := c234) rfl [33, 38, 66, 72, 126] 400 72 _ _ _ _ k
set_option maxRecDepth 100000 in
set_option maxHeartbeats 4000000 in
theorem k234_126 (l1 : Int) (l2 : Int) (u3 : zV) (u4 : zV) (u5 : zV) (u6 : zV) (u7 : zV) (h : zH) (Q : Option zV → zH → Prop) (k :
  zC1 142 [vI l1] h (fun v17 h17 =>
  zC1 179 [vR 127 111, vI l1, vI 1, vI l2, vI 3] h17 (fun v18 h18 =>
  (inR (v17 + v18)) ∧ zC1 179 [vR 127 111, vI l1, vI 1, vI l2, vI 4] h18 (fun v19 h19 =>
  (inR ((v17 + v18) + v19)) ∧ zC0 231 [vR 127 111, vI (v17 + v18), vI ((v17 + v18) + v19)] h19 (fun h20 =>
  Q none h20))))) : zK 234 126 [vR 127 111, vI l1, vI l2, u3, u4, u5, u6, u7] [] h Q :=
  zwpe_W (cd := c234) rfl [33, 38, 66, 72, 126] 400 126 _ _ _ _ k
-- 235 SyntaxRulesModel.layComing(I)V
set_option maxRecDepth 100000 in
set_option maxHeartbeats 4000000 in
theorem k235_0 (p1 : Int) (h : zH) (Q : Option zV → zH → Prop) (k :
  (0 ≤ (p1 : Int)) ∧ ((p1 : Int) < 60) ∧ (0 ≤ (p1 : Int)) ∧ ((p1 : Int) < 60) ∧ zC1 191 [vR 127 111, vI (gI h 164 p1), vI (gI h 163 p1)] h (fun v13 h13 =>
  zC0 232 [vR 127 111] h13 (fun h14 =>
  ∀ h15 : zH, h15 = sI h14 127 62 0 →
  ∀ h16 : zH, h16 = sI h15 127 63 0 →
  zK 235 38 [vR 127 111, vI p1, vI (gI h 164 p1), vI (gI h 163 p1), vI 0, vU] [] h16 Q))) : zK 235 0 [vR 127 111, vI p1, vU, vU, vU, vU] [] h Q :=
  zwpe_W (cd := c235) rfl [38, 87, 88, 164] 400 0 _ _ _ _ k
set_option maxRecDepth 100000 in
set_option maxHeartbeats 4000000 in
theorem k235_38 (u1 : zV) (l2 : Int) (l3 : Int) (l4 : Int) (u5 : zV) (h : zH) (Q : Option zV → zH → Prop) (k :
  ((gI h 127 22) ≤ l4 →
    zK 235 164 [vR 127 111, u1, vI l2, vI l3, vI 0, u5] [] h Q) ∧
    (¬ ((gI h 127 22) ≤ l4) →
    (inR (3 * l4)) ∧ (0 ≤ (3 * l4 : Int)) ∧ ((3 * l4 : Int) < 450) ∧ zC1 158 [vR 127 111, vI l3, vI 4] h (fun v17 h17 =>
    ((gI h 138 (3 * l4)) < v17 →
      zK 235 87 [vR 127 111, u1, vI l2, vI l3, vI l4, u5] [] h17 Q) ∧
      (¬ ((gI h 138 (3 * l4)) < v17) →
      (inR (3 * l4)) ∧ (0 ≤ (3 * l4 : Int)) ∧ ((3 * l4 : Int) < 450) ∧ zC1 158 [vR 127 111, vI l3, vI 5] h17 (fun v18 h18 =>
      (v18 ≤ (gI h17 138 (3 * l4)) →
        zK 235 87 [vR 127 111, u1, vI l2, vI l3, vI l4, u5] [] h18 Q) ∧
        (¬ (v18 ≤ (gI h17 138 (3 * l4))) →
        zK 235 88 [vR 127 111, u1, vI l2, vI l3, vI l4, u5] [vI 1] h18 Q)))))) : zK 235 38 [vR 127 111, u1, vI l2, vI l3, vI l4, u5] [] h Q :=
  zwpe_W (cd := c235) rfl [38, 87, 88, 164] 400 38 _ _ _ _ k
set_option maxRecDepth 100000 in
set_option maxHeartbeats 4000000 in
theorem k235_87 (u1 : zV) (l2 : Int) (l3 : Int) (l4 : Int) (u5 : zV) (h : zH) (Q : Option zV → zH → Prop) (k :
  zK 235 88 [vR 127 111, u1, vI l2, vI l3, vI l4, u5] [vI 0] h Q) : zK 235 87 [vR 127 111, u1, vI l2, vI l3, vI l4, u5] [] h Q :=
  zwpe_W (cd := c235) rfl [38, 87, 88, 164] 400 87 _ _ _ _ k
set_option maxRecDepth 100000 in
set_option maxHeartbeats 4000000 in
theorem k235_88 (u1 : zV) (l2 : Int) (l3 : Int) (l4 : Int) (u5 : zV) (s0 : Int) (h : zH) (Q : Option zV → zH → Prop) (k :
  (s0 = 0 →
    (inR (l4 + 1)) ∧ zK 235 38 [vR 127 111, u1, vI l2, vI l3, vI (l4 + 1), vI s0] [] h Q) ∧
    (¬ (s0 = 0) →
    zC1 233 [vR 127 111, vI l2, vI l4] h (fun v19 h19 =>
    (¬ v19 = 0 →
      (inR (l4 + 1)) ∧ zK 235 38 [vR 127 111, u1, vI l2, vI l3, vI (l4 + 1), vI s0] [] h19 Q) ∧
      (¬ (¬ v19 = 0) →
      (inR (3 * l4)) ∧ (0 ≤ (3 * l4 : Int)) ∧ ((3 * l4 : Int) < 450) ∧ (inR (3 * l4)) ∧ (0 ≤ (3 * l4 : Int)) ∧ ((3 * l4 : Int) < 450) ∧ (inR (3 * l4)) ∧ (inR ((3 * l4) + 1)) ∧ (0 ≤ ((3 * l4) + 1 : Int)) ∧ (((3 * l4) + 1 : Int) < 450) ∧ (inR ((gI h19 138 (3 * l4)) + (gI h19 138 ((3 * l4) + 1)))) ∧ zC0 231 [vR 127 111, vI (gI h19 138 (3 * l4)), vI ((gI h19 138 (3 * l4)) + (gI h19 138 ((3 * l4) + 1)))] h19 (fun h20 =>
      zC0 230 [vR 127 111, vI 32] h20 (fun h21 =>
      (inR ((gI h21 127 63) + 1)) ∧ ∀ h22 : zH, h22 = sI h21 127 63 ((gI h21 127 63) + 1) →
      (inR (l4 + 1)) ∧ zK 235 38 [vR 127 111, u1, vI l2, vI l3, vI (l4 + 1), vI s0] [] h22 Q)))))) : zK 235 88 [vR 127 111, u1, vI l2, vI l3, vI l4, u5] [vI s0] h Q :=
  zwpe_W (cd := c235) rfl [38, 87, 88, 164] 400 88 _ _ _ _ k
set_option maxRecDepth 100000 in
set_option maxHeartbeats 4000000 in
theorem k235_164 (u1 : zV) (l2 : Int) (u3 : zV) (l4 : Int) (u5 : zV) (h : zH) (Q : Option zV → zH → Prop) (k :
  (inR (2 * l2)) ∧ (inR ((2 * l2) + 1)) ∧ (0 ≤ ((2 * l2) + 1 : Int)) ∧ (((2 * l2) + 1 : Int) < 16) ∧ ((gI h 140 ((2 * l2) + 1)) ≤ l4 →
    Q none h) ∧
    (¬ ((gI h 140 ((2 * l2) + 1)) ≤ l4) →
    (¬ l4 = 0 →
      zC0 234 [vR 127 111, vI l2, vI l4, vI 0] h (fun h23 =>
      (inR (l4 + 1)) ∧ zK 235 164 [vR 127 111, u1, vI l2, u3, vI (l4 + 1), u5] [] h23 Q)) ∧
      (¬ (¬ l4 = 0) →
      zC0 234 [vR 127 111, vI l2, vI l4, vI 1] h (fun h24 =>
      (inR (l4 + 1)) ∧ zK 235 164 [vR 127 111, u1, vI l2, u3, vI (l4 + 1), u5] [] h24 Q)))) : zK 235 164 [vR 127 111, u1, vI l2, u3, vI l4, u5] [] h Q :=
  zwpe_W (cd := c235) rfl [38, 87, 88, 164] 400 164 _ _ _ _ k
-- 236 SyntaxRulesModel.edit(III)I
set_option maxRecDepth 100000 in
set_option maxHeartbeats 4000000 in
theorem k236_0 (p1 : Int) (p2 : Int) (p3 : Int) (h : zH) (Q : Option zV → zH → Prop) (k :
  ∀ h7 : zH, h7 = sI h 127 0 0 →
  zC1 228 [vI p1] h7 (fun v8 h8 =>
  (¬ v8 = 0 →
    zC0 229 [vR 127 111, vI p1] h8 (fun h9 =>
    (¬ p2 = (-1) →
      (inL ((gI h9 127 59) - 1)) ∧ zC1 141 [vL p2, vL 0, vL ((gI h9 127 59) - 1)] h9 (fun v10 h10 =>
      (v10 = 0 →
        Q (some (vI ((-1)))) h10) ∧
        (¬ (v10 = 0) →
        zC1 141 [vL p3, vL 0, vL 3] h10 (fun v11 h11 =>
        (¬ v11 = 0 →
          (2 ≤ p3 →
            zC0 235 [vR 127 111, vI p2] h11 (fun h12 =>
            (¬ p3 = 2 →
              Q (some (vI (gI h12 127 63))) h12) ∧
              (¬ (¬ p3 = 2) →
              Q (some (vI (gI h12 127 62))) h12))) ∧
            (¬ (2 ≤ p3) →
            (¬ p3 = 0 →
              (0 ≤ (p2 : Int)) ∧ ((p2 : Int) < 60) ∧ Q (some (vI (gI h11 163 p2))) h11) ∧
              (¬ (¬ p3 = 0) →
              (0 ≤ (p2 : Int)) ∧ ((p2 : Int) < 60) ∧ Q (some (vI (gI h11 164 p2))) h11))) ∧
          (¬ (¬ v11 = 0) →
          Q (some (vI ((-1)))) h11))))) ∧
      (¬ (¬ p2 = (-1)) →
      (¬ p3 = 0 →
        Q (some (vI ((-1)))) h9) ∧
        (¬ (¬ p3 = 0) →
        Q (some (vI (gI h9 127 59))) h9)))) ∧
    (¬ (¬ v8 = 0) →
    Q (some (vI ((-1)))) h8))) : zK 236 0 [vR 127 111, vI p1, vI p2, vI p3] [] h Q :=
  zwpe_W (cd := c236) rfl [] 400 0 _ _ _ _ k
-- 237 SyntaxRulesModel.comes(III)I
set_option maxRecDepth 100000 in
set_option maxHeartbeats 4000000 in
theorem k237_0 (p1 : Int) (p2 : Int) (p3 : Int) (h : zH) (Q : Option zV → zH → Prop) (k :
  ∀ h7 : zH, h7 = sI h 127 0 0 →
  zC1 228 [vI p1] h7 (fun v8 h8 =>
  (¬ v8 = 0 →
    zC0 229 [vR 127 111, vI p1] h8 (fun h9 =>
    (inL ((gI h9 127 59) - 1)) ∧ zC1 141 [vL p2, vL 0, vL ((gI h9 127 59) - 1)] h9 (fun v10 h10 =>
    (¬ v10 = 0 →
      zC0 235 [vR 127 111, vI p2] h10 (fun h11 =>
      (inL ((gI h11 127 62) - 1)) ∧ zC1 141 [vL p3, vL 0, vL ((gI h11 127 62) - 1)] h11 (fun v12 h12 =>
      (v12 = 0 →
        Q (some (vI ((-1)))) h12) ∧
        (¬ (v12 = 0) →
        (0 ≤ (p3 : Int)) ∧ ((p3 : Int) < 7000) ∧ Q (some (vI (gI h12 166 p3))) h12)))) ∧
      (¬ (¬ v10 = 0) →
      Q (some (vI ((-1)))) h10)))) ∧
    (¬ (¬ v8 = 0) →
    Q (some (vI ((-1)))) h8))) : zK 237 0 [vR 127 111, vI p1, vI p2, vI p3] [] h Q :=
  zwpe_W (cd := c237) rfl [] 400 0 _ _ _ _ k
-- 238 SyntaxRulesModel.rulesIn(I)I
set_option maxRecDepth 100000 in
set_option maxHeartbeats 4000000 in
theorem k238_0 (p1 : Int) (h : zH) (Q : Option zV → zH → Prop) (k :
  zK 238 4 [vR 127 111, vI p1, vI 0, vI p1] [] h Q) : zK 238 0 [vR 127 111, vI p1, vU, vU] [] h Q :=
  zwpe_W (cd := c238) rfl [4] 400 0 _ _ _ _ k
set_option maxRecDepth 100000 in
set_option maxHeartbeats 4000000 in
theorem k238_4 (u0 : zV) (u1 : zV) (l2 : Int) (l3 : Int) (h : zH) (Q : Option zV → zH → Prop) (k :
  (l3 = 0 →
    Q (some (vI l2)) h) ∧
    (¬ (l3 = 0) →
    (inR (l2 + 1)) ∧ (inR (l3 - 1)) ∧ zK 238 4 [u0, u1, vI (l2 + 1), vI (iAnd l3 (l3 - 1))] [] h Q)) : zK 238 4 [u0, u1, vI l2, vI l3] [] h Q :=
  zwpe_W (cd := c238) rfl [4] 400 4 _ _ _ _ k
-- 239 SyntaxRulesModel.isEdit(I)Z
set_option maxRecDepth 100000 in
set_option maxHeartbeats 4000000 in
theorem k239_0 (p1 : Int) (h : zH) (Q : Option zV → zH → Prop) (k :
  zK 239 4 [vR 127 111, vI p1, vI 0, vI 0] [] h Q) : zK 239 0 [vR 127 111, vI p1, vU, vU] [] h Q :=
  zwpe_W (cd := c239) rfl [4] 400 0 _ _ _ _ k
set_option maxRecDepth 100000 in
set_option maxHeartbeats 4000000 in
theorem k239_4 (l1 : Int) (l2 : Int) (l3 : Int) (h : zH) (Q : Option zV → zH → Prop) (k :
  ((gI h 127 59) ≤ l3 →
    ((l2 : Int) = 0 ∨ (l2 : Int) = 1) ∧ Q (some (vI l2)) h) ∧
    (¬ ((gI h 127 59) ≤ l3) →
    (¬ l2 = 0 →
      (inR (l3 + 1)) ∧ zK 239 4 [vR 127 111, vI l1, vI 1, vI (l3 + 1)] [] h Q) ∧
      (¬ (¬ l2 = 0) →
      (0 ≤ (l3 : Int)) ∧ ((l3 : Int) < 60) ∧ (¬ (gI h 163 l3) = l1 →
        (inR (l3 + 1)) ∧ zK 239 4 [vR 127 111, vI l1, vI 0, vI (l3 + 1)] [] h Q) ∧
        (¬ (¬ (gI h 163 l3) = l1) →
        (inR (l3 + 1)) ∧ zK 239 4 [vR 127 111, vI l1, vI 1, vI (l3 + 1)] [] h Q)))) : zK 239 4 [vR 127 111, vI l1, vI l2, vI l3] [] h Q :=
  zwpe_W (cd := c239) rfl [4] 400 4 _ _ _ _ k
-- 240 SyntaxRulesModel.conflicts(II)I
set_option maxRecDepth 100000 in
set_option maxHeartbeats 4000000 in
theorem k240_0 (p1 : Int) (p2 : Int) (h : zH) (Q : Option zV → zH → Prop) (k :
  ∀ h9 : zH, h9 = sI h 127 0 0 →
  zC1 228 [vI p1] h9 (fun v10 h10 =>
  (v10 = 0 →
    Q (some (vI ((-1)))) h10) ∧
    (¬ (v10 = 0) →
    zC1 141 [vL p2, vL 0, vL 2] h10 (fun v11 h11 =>
    (¬ v11 = 0 →
      zC0 229 [vR 127 111, vI p1] h11 (fun h12 =>
      zK 240 42 [vR 127 111, vI p1, vI p2, vI 0, vI 0, vI 0, vI 0, vU] [] h12 Q)) ∧
      (¬ (¬ v11 = 0) →
      Q (some (vI ((-1)))) h11))))) : zK 240 0 [vR 127 111, vI p1, vI p2, vU, vU, vU, vU, vU] [] h Q :=
  zwpe_W (cd := c240) rfl [42, 85, 86, 126] 400 0 _ _ _ _ k
set_option maxRecDepth 100000 in
set_option maxHeartbeats 4000000 in
theorem k240_42 (u1 : zV) (l2 : Int) (l3 : Int) (l4 : Int) (l5 : Int) (l6 : Int) (u7 : zV) (h : zH) (Q : Option zV → zH → Prop) (k :
  ((gI h 127 20) ≤ l6 →
    zK 240 126 [vR 127 111, u1, vI l2, vI l3, vI l4, vI l5, vI 0, u7] [] h Q) ∧
    (¬ ((gI h 127 20) ≤ l6) →
    zC1 195 [vR 127 111, vI l6] h (fun v13 h13 =>
    (v13 = 0 →
      zK 240 85 [vR 127 111, u1, vI l2, vI l3, vI l4, vI (iOr l5 v13), vI l6, vI v13] [vI l3] h13 Q) ∧
      (¬ (v13 = 0) →
      zC1 239 [vR 127 111, vI l6] h13 (fun v14 h14 =>
      (¬ v14 = 0 →
        zK 240 85 [vR 127 111, u1, vI l2, vI l3, vI l4, vI (iOr l5 v13), vI l6, vI v13] [vI l3] h14 Q) ∧
        (¬ (¬ v14 = 0) →
        zK 240 86 [vR 127 111, u1, vI l2, vI l3, vI l4, vI (iOr l5 v13), vI l6, vI v13] [vI 1, vI l3] h14 Q)))))) : zK 240 42 [vR 127 111, u1, vI l2, vI l3, vI l4, vI l5, vI l6, u7] [] h Q :=
  zwpe_W (cd := c240) rfl [42, 85, 86, 126] 400 42 _ _ _ _ k
set_option maxRecDepth 100000 in
set_option maxHeartbeats 4000000 in
theorem k240_85 (u1 : zV) (l2 : Int) (u3 : zV) (l4 : Int) (l5 : Int) (l6 : Int) (l7 : Int) (s0 : Int) (h : zH) (Q : Option zV → zH → Prop) (k :
  zK 240 86 [vR 127 111, u1, vI l2, u3, vI l4, vI l5, vI l6, vI l7] [vI 0, vI s0] h Q) : zK 240 85 [vR 127 111, u1, vI l2, u3, vI l4, vI l5, vI l6, vI l7] [vI s0] h Q :=
  zwpe_W (cd := c240) rfl [42, 85, 86, 126] 400 85 _ _ _ _ k
set_option maxRecDepth 100000 in
set_option maxHeartbeats 4000000 in
theorem k240_86 (u1 : zV) (l2 : Int) (u3 : zV) (l4 : Int) (l5 : Int) (l6 : Int) (l7 : Int) (s0 : Int) (s1 : Int) (h : zH) (Q : Option zV → zH → Prop) (k :
  (inR (s1 + s0)) ∧ zC1 238 [vR 127 111, vI l7] h (fun v15 h15 =>
  (v15 ≤ 1 →
    (inR (l4 + 0)) ∧ (inR (l6 + 1)) ∧ zK 240 42 [vR 127 111, u1, vI l2, vI (s1 + s0), vI (l4 + 0), vI l5, vI (l6 + 1), vI l7] [] h15 Q) ∧
    (¬ (v15 ≤ 1) →
    zC1 239 [vR 127 111, vI l6] h15 (fun v16 h16 =>
    (v16 = 0 →
      (inR (l4 + 0)) ∧ (inR (l6 + 1)) ∧ zK 240 42 [vR 127 111, u1, vI l2, vI (s1 + s0), vI (l4 + 0), vI l5, vI (l6 + 1), vI l7] [] h16 Q) ∧
      (¬ (v16 = 0) →
      (inR (l4 + 1)) ∧ (inR (l6 + 1)) ∧ zK 240 42 [vR 127 111, u1, vI l2, vI (s1 + s0), vI (l4 + 1), vI l5, vI (l6 + 1), vI l7] [] h16 Q))))) : zK 240 86 [vR 127 111, u1, vI l2, u3, vI l4, vI l5, vI l6, vI l7] [vI s0, vI s1] h Q :=
  zwpe_W (cd := c240) rfl [42, 85, 86, 126] 400 86 _ _ _ _ k
set_option maxRecDepth 100000 in
set_option maxHeartbeats 4000000 in
theorem k240_126 (u1 : zV) (l2 : Int) (l3 : Int) (l4 : Int) (l5 : Int) (l6 : Int) (u7 : zV) (h : zH) (Q : Option zV → zH → Prop) (k :
  ((gI h 127 59) ≤ l6 →
    (¬ l2 = 0 →
      (¬ l2 = 1 →
        Q (some (vI l5)) h) ∧
        (¬ (¬ l2 = 1) →
        Q (some (vI l4)) h)) ∧
      (¬ (¬ l2 = 0) →
      Q (some (vI l3)) h)) ∧
    (¬ ((gI h 127 59) ≤ l6) →
    (0 ≤ (l6 : Int)) ∧ ((l6 : Int) < 60) ∧ (inR (l6 + 1)) ∧ zK 240 126 [vR 127 111, u1, vI l2, vI l3, vI l4, vI (iAnd l5 (iXor (iShl 1 (gI h 164 l6)) (-1))), vI (l6 + 1), u7] [] h Q)) : zK 240 126 [vR 127 111, u1, vI l2, vI l3, vI l4, vI l5, vI l6, u7] [] h Q :=
  zwpe_W (cd := c240) rfl [42, 85, 86, 126] 400 126 _ _ _ _ k
-- 241 SyntaxRulesModel.areBeside(II)Z
set_option maxRecDepth 100000 in
set_option maxHeartbeats 4000000 in
theorem k241_0 (p0 : Int) (p1 : Int) (h : zH) (Q : Option zV → zH → Prop) (k :
  zC1 144 [vI p0] h (fun v5 h5 =>
  (v5 = 0 →
    zK 241 14 [vI p0, vI p1] [] h5 Q) ∧
    (¬ (v5 = 0) →
    zC1 144 [vI p1] h5 (fun v6 h6 =>
    (¬ v6 = 0 →
      ((1 : Int) = 0 ∨ (1 : Int) = 1) ∧ Q (some (vI 1)) h6) ∧
      (¬ (¬ v6 = 0) →
      zK 241 14 [vI p0, vI p1] [] h6 Q))))) : zK 241 0 [vI p0, vI p1] [] h Q :=
  zwpe_W (cd := c241) rfl [14] 400 0 _ _ _ _ k
set_option maxRecDepth 100000 in
set_option maxHeartbeats 4000000 in
theorem k241_14 (l0 : Int) (l1 : Int) (h : zH) (Q : Option zV → zH → Prop) (k :
  zC1 145 [vI l0] h (fun v7 h7 =>
  (v7 = 0 →
    ((0 : Int) = 0 ∨ (0 : Int) = 1) ∧ Q (some (vI 0)) h7) ∧
    (¬ (v7 = 0) →
    zC1 145 [vI l1] h7 (fun v8 h8 =>
    (v8 = 0 →
      ((0 : Int) = 0 ∨ (0 : Int) = 1) ∧ Q (some (vI 0)) h8) ∧
      (¬ (v8 = 0) →
      ((1 : Int) = 0 ∨ (1 : Int) = 1) ∧ Q (some (vI 1)) h8))))) : zK 241 14 [vI l0, vI l1] [] h Q :=
  zwpe_W (cd := c241) rfl [14] 400 14 _ _ _ _ k
-- 242 SyntaxRulesModel.brings(IZ)V
set_option maxRecDepth 100000 in
set_option maxHeartbeats 4000000 in
theorem k242_0 (p1 : Int) (p2 : Int) (h : zH) (Q : Option zV → zH → Prop) (k :
  (p2 = 0 →
    zK 242 33 [vR 127 111, vI p1, vI p2, vU] [] h Q) ∧
    (¬ (p2 = 0) →
    ((gI h 127 9) ≤ 0 →
      zK 242 33 [vR 127 111, vI p1, vI p2, vU] [] h Q) ∧
      (¬ ((gI h 127 9) ≤ 0) →
      (inR ((gI h 127 9) - 1)) ∧ (0 ≤ ((gI h 127 9) - 1 : Int)) ∧ (((gI h 127 9) - 1 : Int) < 302) ∧ zC1 241 [vI (gI h 133 ((gI h 127 9) - 1)), vI p1] h (fun v7 h7 =>
      (v7 = 0 →
        zK 242 33 [vR 127 111, vI p1, vI p2, vU] [] h7 Q) ∧
        (¬ (v7 = 0) →
        zK 242 34 [vR 127 111, vI p1, vI p2, vU] [vI 1] h7 Q))))) : zK 242 0 [vR 127 111, vI p1, vI p2, vU] [] h Q :=
  zwpe_W (cd := c242) rfl [33, 34, 48, 86] 400 0 _ _ _ _ k
set_option maxRecDepth 100000 in
set_option maxHeartbeats 4000000 in
theorem k242_33 (l1 : Int) (u2 : zV) (u3 : zV) (h : zH) (Q : Option zV → zH → Prop) (k :
  zK 242 34 [vR 127 111, vI l1, u2, u3] [vI 0] h Q) : zK 242 33 [vR 127 111, vI l1, u2, u3] [] h Q :=
  zwpe_W (cd := c242) rfl [33, 34, 48, 86] 400 33 _ _ _ _ k
set_option maxRecDepth 100000 in
set_option maxHeartbeats 4000000 in
theorem k242_34 (l1 : Int) (u2 : zV) (u3 : zV) (s0 : Int) (h : zH) (Q : Option zV → zH → Prop) (k :
  (s0 = 0 →
    zK 242 48 [vR 127 111, vI l1, u2, vI s0] [vI 1, vI (gI h 127 9)] h Q) ∧
    (¬ (s0 = 0) →
    zK 242 48 [vR 127 111, vI l1, u2, vI s0] [vI 2, vI (gI h 127 9)] h Q)) : zK 242 34 [vR 127 111, vI l1, u2, u3] [vI s0] h Q :=
  zwpe_W (cd := c242) rfl [33, 34, 48, 86] 400 34 _ _ _ _ k
set_option maxRecDepth 100000 in
set_option maxHeartbeats 4000000 in
theorem k242_48 (l1 : Int) (u2 : zV) (l3 : Int) (s0 : Int) (s1 : Int) (h : zH) (Q : Option zV → zH → Prop) (k :
  (inR (s1 + s0)) ∧ ((s1 + s0) ≤ 300 →
    (l3 = 0 →
      zK 242 86 [vR 127 111, vI l1, u2, vI l3] [] h Q) ∧
      (¬ (l3 = 0) →
      (0 ≤ (gI h 127 9 : Int)) ∧ ((gI h 127 9 : Int) < 302) ∧ ∀ h8 : zH, h8 = sI h 133 (gI h 127 9) 32 →
      (inR ((gI h8 127 9) + 1)) ∧ ∀ h9 : zH, h9 = sI h8 127 9 ((gI h8 127 9) + 1) →
      zK 242 86 [vR 127 111, vI l1, u2, vI l3] [] h9 Q)) ∧
    (¬ ((s1 + s0) ≤ 300) →
    ((1 : Int) = 0 ∨ (1 : Int) = 1) ∧ ∀ h10 : zH, h10 = sI h 127 66 1 →
    Q none h10)) : zK 242 48 [vR 127 111, vI l1, u2, vI l3] [vI s0, vI s1] h Q :=
  zwpe_W (cd := c242) rfl [33, 34, 48, 86] 400 48 _ _ _ _ k
set_option maxRecDepth 100000 in
set_option maxHeartbeats 4000000 in
theorem k242_86 (l1 : Int) (u2 : zV) (u3 : zV) (h : zH) (Q : Option zV → zH → Prop) (k :
  (0 ≤ (gI h 127 9 : Int)) ∧ ((gI h 127 9 : Int) < 302) ∧ ∀ h11 : zH, h11 = sI h 133 (gI h 127 9) l1 →
  (inR ((gI h11 127 9) + 1)) ∧ ∀ h12 : zH, h12 = sI h11 127 9 ((gI h11 127 9) + 1) →
  Q none h12) : zK 242 86 [vR 127 111, vI l1, u2, u3] [] h Q :=
  zwpe_W (cd := c242) rfl [33, 34, 48, 86] 400 86 _ _ _ _ k
-- 243 SyntaxRulesModel.layApplied(I)Z
set_option maxRecDepth 100000 in
set_option maxHeartbeats 4000000 in
theorem k243_0 (p1 : Int) (h : zH) (Q : Option zV → zH → Prop) (k :
  zC0 229 [vR 127 111, vI p1] h (fun h13 =>
  ∀ h14 : zH, h14 = sI h13 127 9 0 →
  ((0 : Int) = 0 ∨ (0 : Int) = 1) ∧ ∀ h15 : zH, h15 = sI h14 127 66 0 →
  zK 243 19 [vR 127 111, vI p1, vI 0, vI 0, vU, vU] [] h15 Q)) : zK 243 0 [vR 127 111, vI p1, vU, vU, vU, vU] [] h Q :=
  zwpe_W (cd := c243) rfl [19, 69, 115, 131, 174, 192] 400 0 _ _ _ _ k
set_option maxRecDepth 100000 in
set_option maxHeartbeats 4000000 in
theorem k243_19 (u1 : zV) (l2 : Int) (l3 : Int) (u4 : zV) (u5 : zV) (h : zH) (Q : Option zV → zH → Prop) (k :
  ((gI h 127 59) < l3 →
    zK 243 192 [vR 127 111, u1, vI l2, vI l3, u4, u5] [] h Q) ∧
    (¬ ((gI h 127 59) < l3) →
    (¬ (gI h 127 66) = 0 →
      zK 243 192 [vR 127 111, u1, vI l2, vI l3, u4, u5] [] h Q) ∧
      (¬ (¬ (gI h 127 66) = 0) →
      (¬ l3 = (gI h 127 59) →
        (0 ≤ (l3 : Int)) ∧ ((l3 : Int) < 60) ∧ zC1 158 [vR 127 111, vI (gI h 163 l3), vI 4] h (fun v16 h16 =>
        zK 243 69 [vR 127 111, u1, vI l2, vI l3, vI v16, vI l2] [] h16 Q)) ∧
        (¬ (¬ l3 = (gI h 127 59)) →
        (0 ≤ (300 : Int)) ∧ ((300 : Int) < 2709) ∧ zK 243 69 [vR 127 111, u1, vI l2, vI l3, vI (gI h 128 300), vI l2] [] h Q)))) : zK 243 19 [vR 127 111, u1, vI l2, vI l3, u4, u5] [] h Q :=
  zwpe_W (cd := c243) rfl [19, 69, 115, 131, 174, 192] 400 19 _ _ _ _ k
set_option maxRecDepth 100000 in
set_option maxHeartbeats 4000000 in
theorem k243_69 (u1 : zV) (l2 : Int) (l3 : Int) (l4 : Int) (l5 : Int) (h : zH) (Q : Option zV → zH → Prop) (k :
  (l4 ≤ l5 →
    zK 243 115 [vR 127 111, u1, vI l2, vI l3, vI l4, vI l5] [] h Q) ∧
    (¬ (l4 ≤ l5) →
    (¬ (gI h 127 66) = 0 →
      zK 243 115 [vR 127 111, u1, vI l2, vI l3, vI l4, vI l5] [] h Q) ∧
      (¬ (¬ (gI h 127 66) = 0) →
      (0 ≤ (l5 : Int)) ∧ ((l5 : Int) < 2709) ∧ (¬ l5 = l2 →
        zC0 242 [vR 127 111, vI (gI h 128 l5), vI 0] h (fun h17 =>
        (inR (l5 + 1)) ∧ zK 243 69 [vR 127 111, u1, vI l2, vI l3, vI l4, vI (l5 + 1)] [] h17 Q)) ∧
        (¬ (¬ l5 = l2) →
        (l3 ≤ 0 →
          zC0 242 [vR 127 111, vI (gI h 128 l5), vI 0] h (fun h18 =>
          (inR (l5 + 1)) ∧ zK 243 69 [vR 127 111, u1, vI l2, vI l3, vI l4, vI (l5 + 1)] [] h18 Q)) ∧
          (¬ (l3 ≤ 0) →
          zC0 242 [vR 127 111, vI (gI h 128 l5), vI 1] h (fun h19 =>
          (inR (l5 + 1)) ∧ zK 243 69 [vR 127 111, u1, vI l2, vI l3, vI l4, vI (l5 + 1)] [] h19 Q)))))) : zK 243 69 [vR 127 111, u1, vI l2, vI l3, vI l4, vI l5] [] h Q :=
  zwpe_W (cd := c243) rfl [19, 69, 115, 131, 174, 192] 400 69 _ _ _ _ k
set_option maxRecDepth 100000 in
set_option maxHeartbeats 4000000 in
theorem k243_115 (u1 : zV) (l2 : Int) (l3 : Int) (u4 : zV) (u5 : zV) (h : zH) (Q : Option zV → zH → Prop) (k :
  ((gI h 127 59) ≤ l3 →
    (inR (l3 + 1)) ∧ zK 243 19 [vR 127 111, u1, vI l2, vI (l3 + 1), u4, u5] [] h Q) ∧
    (¬ ((gI h 127 59) ≤ l3) →
    zC0 235 [vR 127 111, vI l3] h (fun h20 =>
    zK 243 131 [vR 127 111, u1, vI l2, vI l3, u4, vI 0] [] h20 Q))) : zK 243 115 [vR 127 111, u1, vI l2, vI l3, u4, u5] [] h Q :=
  zwpe_W (cd := c243) rfl [19, 69, 115, 131, 174, 192] 400 115 _ _ _ _ k
set_option maxRecDepth 100000 in
set_option maxHeartbeats 4000000 in
theorem k243_131 (u1 : zV) (u2 : zV) (l3 : Int) (u4 : zV) (l5 : Int) (h : zH) (Q : Option zV → zH → Prop) (k :
  ((gI h 127 62) ≤ l5 →
    zK 243 174 [vR 127 111, u1, u2, vI l3, u4, vI l5] [] h Q) ∧
    (¬ ((gI h 127 62) ≤ l5) →
    (¬ (gI h 127 66) = 0 →
      zK 243 174 [vR 127 111, u1, u2, vI l3, u4, vI l5] [] h Q) ∧
      (¬ (¬ (gI h 127 66) = 0) →
      (0 ≤ (l5 : Int)) ∧ ((l5 : Int) < 7000) ∧ (¬ l5 = 0 →
        zC0 242 [vR 127 111, vI (gI h 166 l5), vI 0] h (fun h21 =>
        (inR (l5 + 1)) ∧ zK 243 131 [vR 127 111, u1, u2, vI l3, u4, vI (l5 + 1)] [] h21 Q)) ∧
        (¬ (¬ l5 = 0) →
        zC0 242 [vR 127 111, vI (gI h 166 l5), vI 1] h (fun h22 =>
        (inR (l5 + 1)) ∧ zK 243 131 [vR 127 111, u1, u2, vI l3, u4, vI (l5 + 1)] [] h22 Q))))) : zK 243 131 [vR 127 111, u1, u2, vI l3, u4, vI l5] [] h Q :=
  zwpe_W (cd := c243) rfl [19, 69, 115, 131, 174, 192] 400 131 _ _ _ _ k
set_option maxRecDepth 100000 in
set_option maxHeartbeats 4000000 in
theorem k243_174 (u1 : zV) (u2 : zV) (l3 : Int) (u4 : zV) (u5 : zV) (h : zH) (Q : Option zV → zH → Prop) (k :
  (0 ≤ (l3 : Int)) ∧ ((l3 : Int) < 60) ∧ zC1 158 [vR 127 111, vI (gI h 163 l3), vI 5] h (fun v23 h23 =>
  (inR (l3 + 1)) ∧ zK 243 19 [vR 127 111, u1, vI v23, vI (l3 + 1), u4, u5] [] h23 Q)) : zK 243 174 [vR 127 111, u1, u2, vI l3, u4, u5] [] h Q :=
  zwpe_W (cd := c243) rfl [19, 69, 115, 131, 174, 192] 400 174 _ _ _ _ k
set_option maxRecDepth 100000 in
set_option maxHeartbeats 4000000 in
theorem k243_192 (u1 : zV) (u2 : zV) (u3 : zV) (u4 : zV) (u5 : zV) (h : zH) (Q : Option zV → zH → Prop) (k :
  (¬ (gI h 127 66) = 0 →
    ((0 : Int) = 0 ∨ (0 : Int) = 1) ∧ Q (some (vI 0)) h) ∧
    (¬ (¬ (gI h 127 66) = 0) →
    zC1 155 [vR 127 111] h (fun v24 h24 =>
    (v24 = 0 →
      ((0 : Int) = 0 ∨ (0 : Int) = 1) ∧ Q (some (vI 0)) h24) ∧
      (¬ (v24 = 0) →
      ((1 : Int) = 0 ∨ (1 : Int) = 1) ∧ Q (some (vI 1)) h24)))) : zK 243 192 [vR 127 111, u1, u2, u3, u4, u5] [] h Q :=
  zwpe_W (cd := c243) rfl [19, 69, 115, 131, 174, 192] 400 192 _ _ _ _ k
-- 244 SyntaxRulesModel.bytesThen()I
set_option maxRecDepth 100000 in
set_option maxHeartbeats 4000000 in
theorem k244_0 (h : zH) (Q : Option zV → zH → Prop) (k :
  Q (some (vI (gI h 127 9))) h) : zK 244 0 [vR 127 111] [] h Q :=
  zwpe_W (cd := c244) rfl [] 400 0 _ _ _ _ k
-- 245 SyntaxRulesModel.would(II)I
set_option maxRecDepth 100000 in
set_option maxHeartbeats 4000000 in
theorem k245_0 (p1 : Int) (p2 : Int) (h : zH) (Q : Option zV → zH → Prop) (k :
  ∀ h6 : zH, h6 = sI h 127 0 0 →
  zC1 228 [vI p1] h6 (fun v7 h7 =>
  (v7 = 0 →
    Q (some (vI ((-1)))) h7) ∧
    (¬ (v7 = 0) →
    zC1 141 [vL p2, vL 0, vL 2] h7 (fun v8 h8 =>
    (¬ v8 = 0 →
      zC1 243 [vR 127 111, vI p1] h8 (fun v9 h9 =>
      (¬ v9 = 0 →
        (¬ p2 = 0 →
          (¬ p2 = 1 →
            Q (some (vI (gI h9 127 13))) h9) ∧
            (¬ (¬ p2 = 1) →
            Q (some (vI (gI h9 127 11))) h9)) ∧
          (¬ (¬ p2 = 0) →
          zC1 244 [vR 127 111] h9 (fun v10 h10 =>
          Q (some (vI v10)) h10))) ∧
        (¬ (¬ v9 = 0) →
        Q (some (vI ((-3)))) h9))) ∧
      (¬ (¬ v8 = 0) →
      Q (some (vI ((-1)))) h8))))) : zK 245 0 [vR 127 111, vI p1, vI p2] [] h Q :=
  zwpe_W (cd := c245) rfl [] 400 0 _ _ _ _ k
-- 246 SyntaxRulesModel.apply(I)I
set_option maxRecDepth 100000 in
set_option maxHeartbeats 4000000 in
theorem k246_0 (p1 : Int) (h : zH) (Q : Option zV → zH → Prop) (k :
  ∀ h6 : zH, h6 = sI h 127 0 0 →
  zC1 228 [vI p1] h6 (fun v7 h7 =>
  (¬ v7 = 0 →
    zC1 243 [vR 127 111, vI p1] h7 (fun v8 h8 =>
    (¬ (gI h8 127 59) = 0 →
      (¬ v8 = 0 →
        zC0 159 [vR 127 111, vR 128 140] h8 (fun h9 =>
        zC0 160 [vR 127 111] h9 (fun h10 =>
        Q (some (vI (gI h8 127 59))) h10))) ∧
        (¬ (¬ v8 = 0) →
        Q (some (vI ((-3)))) h8)) ∧
      (¬ (¬ (gI h8 127 59) = 0) →
      Q (some (vI 0)) h8))) ∧
    (¬ (¬ v7 = 0) →
    Q (some (vI ((-1)))) h7))) : zK 246 0 [vR 127 111, vI p1, vU, vU] [] h Q :=
  zwpe_W (cd := c246) rfl [] 400 0 _ _ _ _ k
-- 247 SyntaxRulesModel.cameAhead(I)Z
set_option maxRecDepth 100000 in
set_option maxHeartbeats 4000000 in
theorem k247_0 (p1 : Int) (h : zH) (Q : Option zV → zH → Prop) (k :
  zK 247 4 [vR 127 111, vI p1, vI 0, vI 0, vU] [] h Q) : zK 247 0 [vR 127 111, vI p1, vU, vU, vU] [] h Q :=
  zwpe_W (cd := c247) rfl [4, 12, 55] 400 0 _ _ _ _ k
set_option maxRecDepth 100000 in
set_option maxHeartbeats 4000000 in
theorem k247_4 (l1 : Int) (l2 : Int) (l3 : Int) (u4 : zV) (h : zH) (Q : Option zV → zH → Prop) (k :
  (l1 ≤ l3 →
    ((l2 : Int) = 0 ∨ (l2 : Int) = 1) ∧ Q (some (vI l2)) h) ∧
    (¬ (l1 ≤ l3) →
    zK 247 12 [vR 127 111, vI l1, vI l2, vI l3, vI 0] [] h Q)) : zK 247 4 [vR 127 111, vI l1, vI l2, vI l3, u4] [] h Q :=
  zwpe_W (cd := c247) rfl [4, 12, 55] 400 4 _ _ _ _ k
set_option maxRecDepth 100000 in
set_option maxHeartbeats 4000000 in
theorem k247_12 (l1 : Int) (l2 : Int) (l3 : Int) (l4 : Int) (h : zH) (Q : Option zV → zH → Prop) (k :
  (301 ≤ l4 →
    zK 247 55 [vR 127 111, vI l1, vI l2, vI l3, vI l4] [] h Q) ∧
    (¬ (301 ≤ l4) →
    (inR (301 * l3)) ∧ (inR ((301 * l3) + l4)) ∧ (0 ≤ ((301 * l3) + l4 : Int)) ∧ (((301 * l3) + l4 : Int) < 2107) ∧ (inR (301 * l1)) ∧ (inR ((301 * l1) + l4)) ∧ (0 ≤ ((301 * l1) + l4 : Int)) ∧ (((301 * l1) + l4 : Int) < 2107) ∧ (¬ (gI h 169 ((301 * l3) + l4)) = (gI h 169 ((301 * l1) + l4)) →
      zK 247 55 [vR 127 111, vI l1, vI l2, vI l3, vI l4] [] h Q) ∧
      (¬ (¬ (gI h 169 ((301 * l3) + l4)) = (gI h 169 ((301 * l1) + l4))) →
      (inR (l4 + 1)) ∧ zK 247 12 [vR 127 111, vI l1, vI l2, vI l3, vI (l4 + 1)] [] h Q))) : zK 247 12 [vR 127 111, vI l1, vI l2, vI l3, vI l4] [] h Q :=
  zwpe_W (cd := c247) rfl [4, 12, 55] 400 12 _ _ _ _ k
set_option maxRecDepth 100000 in
set_option maxHeartbeats 4000000 in
theorem k247_55 (l1 : Int) (l2 : Int) (l3 : Int) (l4 : Int) (h : zH) (Q : Option zV → zH → Prop) (k :
  (¬ l2 = 0 →
    (inR (l3 + 1)) ∧ zK 247 4 [vR 127 111, vI l1, vI 1, vI (l3 + 1), vI l4] [] h Q) ∧
    (¬ (¬ l2 = 0) →
    (¬ l4 = 301 →
      (inR (l3 + 1)) ∧ zK 247 4 [vR 127 111, vI l1, vI 0, vI (l3 + 1), vI l4] [] h Q) ∧
      (¬ (¬ l4 = 301) →
      (inR (l3 + 1)) ∧ zK 247 4 [vR 127 111, vI l1, vI 1, vI (l3 + 1), vI l4] [] h Q))) : zK 247 55 [vR 127 111, vI l1, vI l2, vI l3, vI l4] [] h Q :=
  zwpe_W (cd := c247) rfl [4, 12, 55] 400 55 _ _ _ _ k
-- 248 SyntaxRulesModel.keepCame(I)V
set_option maxRecDepth 100000 in
set_option maxHeartbeats 4000000 in
theorem k248_0 (p1 : Int) (h : zH) (Q : Option zV → zH → Prop) (k :
  zK 248 2 [vR 127 111, vI p1, vI 0] [] h Q) : zK 248 0 [vR 127 111, vI p1, vU] [] h Q :=
  zwpe_W (cd := c248) rfl [2] 400 0 _ _ _ _ k
set_option maxRecDepth 100000 in
set_option maxHeartbeats 4000000 in
theorem k248_2 (l1 : Int) (l2 : Int) (h : zH) (Q : Option zV → zH → Prop) (k :
  (301 ≤ l2 →
    Q none h) ∧
    (¬ (301 ≤ l2) →
    (inR (301 * l1)) ∧ (inR ((301 * l1) + l2)) ∧ (0 ≤ (l2 : Int)) ∧ ((l2 : Int) < 2709) ∧ (0 ≤ ((301 * l1) + l2 : Int)) ∧ (((301 * l1) + l2 : Int) < 2107) ∧ ∀ h2 : zH, h2 = sI h 169 ((301 * l1) + l2) (gI h 128 l2) →
    (inR (l2 + 1)) ∧ zK 248 2 [vR 127 111, vI l1, vI (l2 + 1)] [] h2 Q)) : zK 248 2 [vR 127 111, vI l1, vI l2] [] h Q :=
  zwpe_W (cd := c248) rfl [2] 400 2 _ _ _ _ k
-- 249 SyntaxRulesModel.goRounds(II)I
set_option maxRecDepth 100000 in
set_option maxHeartbeats 4000000 in
theorem k249_0 (p1 : Int) (p2 : Int) (h : zH) (Q : Option zV → zH → Prop) (k :
  zC0 248 [vR 127 111, vI 0] h (fun h5 =>
  zK 249 10 [vR 127 111, vI p1, vI p2, vI 0, vI 1] [] h5 Q)) : zK 249 0 [vR 127 111, vI p1, vI p2, vU, vU] [] h Q :=
  zwpe_W (cd := c249) rfl [10, 39, 40] 400 0 _ _ _ _ k
set_option maxRecDepth 100000 in
set_option maxHeartbeats 4000000 in
theorem k249_10 (l1 : Int) (l2 : Int) (l3 : Int) (l4 : Int) (h : zH) (Q : Option zV → zH → Prop) (k :
  (l2 ≤ l3 →
    Q (some (vI l3)) h) ∧
    (¬ (l2 ≤ l3) →
    (l4 = 0 →
      Q (some (vI l3)) h) ∧
      (¬ (l4 = 0) →
      zC1 243 [vR 127 111, vI l1] h (fun v6 h6 =>
      (v6 = 0 →
        zK 249 39 [vR 127 111, vI l1, vI l2, vI l3, vI l4] [] h6 Q) ∧
        (¬ (v6 = 0) →
        ((gI h6 127 59) ≤ 0 →
          zK 249 39 [vR 127 111, vI l1, vI l2, vI l3, vI l4] [] h6 Q) ∧
          (¬ ((gI h6 127 59) ≤ 0) →
          zK 249 40 [vR 127 111, vI l1, vI l2, vI l3, vI l4] [vI 1] h6 Q)))))) : zK 249 10 [vR 127 111, vI l1, vI l2, vI l3, vI l4] [] h Q :=
  zwpe_W (cd := c249) rfl [10, 39, 40] 400 10 _ _ _ _ k
set_option maxRecDepth 100000 in
set_option maxHeartbeats 4000000 in
theorem k249_39 (l1 : Int) (l2 : Int) (l3 : Int) (u4 : zV) (h : zH) (Q : Option zV → zH → Prop) (k :
  zK 249 40 [vR 127 111, vI l1, vI l2, vI l3, u4] [vI 0] h Q) : zK 249 39 [vR 127 111, vI l1, vI l2, vI l3, u4] [] h Q :=
  zwpe_W (cd := c249) rfl [10, 39, 40] 400 39 _ _ _ _ k
set_option maxRecDepth 100000 in
set_option maxHeartbeats 4000000 in
theorem k249_40 (l1 : Int) (l2 : Int) (l3 : Int) (u4 : zV) (s0 : Int) (h : zH) (Q : Option zV → zH → Prop) (k :
  (s0 = 0 →
    zK 249 10 [vR 127 111, vI l1, vI l2, vI l3, vI s0] [] h Q) ∧
    (¬ (s0 = 0) →
    zC0 160 [vR 127 111] h (fun h7 =>
    (inR (l3 + 1)) ∧ zC0 248 [vR 127 111, vI (l3 + 1)] h7 (fun h8 =>
    zK 249 10 [vR 127 111, vI l1, vI l2, vI (l3 + 1), vI s0] [] h8 Q)))) : zK 249 40 [vR 127 111, vI l1, vI l2, vI l3, u4] [vI s0] h Q :=
  zwpe_W (cd := c249) rfl [10, 39, 40] 400 40 _ _ _ _ k
-- 250 SyntaxRulesModel.rounds(II)I
set_option maxRecDepth 100000 in
set_option maxHeartbeats 4000000 in
theorem k250_0 (p1 : Int) (p2 : Int) (h : zH) (Q : Option zV → zH → Prop) (k :
  ∀ h6 : zH, h6 = sI h 127 0 0 →
  zC1 228 [vI p1] h6 (fun v7 h7 =>
  (v7 = 0 →
    Q (some (vI ((-1)))) h7) ∧
    (¬ (v7 = 0) →
    zC1 141 [vL p2, vL 1, vL 6] h7 (fun v8 h8 =>
    (¬ v8 = 0 →
      zC1 249 [vR 127 111, vI p1, vI p2] h8 (fun v9 h9 =>
      (v9 ≤ 0 →
        Q (some (vI v9)) h9) ∧
        (¬ (v9 ≤ 0) →
        zC0 159 [vR 127 111, vR 169 140] h9 (fun h10 =>
        Q (some (vI v9)) h10)))) ∧
      (¬ (¬ v8 = 0) →
      Q (some (vI ((-1)))) h8))))) : zK 250 0 [vR 127 111, vI p1, vI p2, vU] [] h Q :=
  zwpe_W (cd := c250) rfl [] 400 0 _ _ _ _ k
-- 251 SyntaxRulesModel.after(III)I
set_option maxRecDepth 100000 in
set_option maxHeartbeats 4000000 in
theorem k251_0 (p1 : Int) (p2 : Int) (p3 : Int) (h : zH) (Q : Option zV → zH → Prop) (k :
  ∀ h10 : zH, h10 = sI h 127 0 0 →
  zC1 228 [vI p1] h10 (fun v11 h11 =>
  (v11 = 0 →
    Q (some (vI ((-1)))) h11) ∧
    (¬ (v11 = 0) →
    zC1 141 [vL p2, vL 1, vL 6] h11 (fun v12 h12 =>
    (v12 = 0 →
      Q (some (vI ((-1)))) h12) ∧
      (¬ (v12 = 0) →
      zC1 141 [vL p3, vL 0, vL 2] h12 (fun v13 h13 =>
      (¬ v13 = 0 →
        zC1 249 [vR 127 111, vI p1, vI p2] h13 (fun v14 h14 =>
        (0 ≤ (300 : Int)) ∧ ((300 : Int) < 2709) ∧ (¬ p3 = 1 →
          (¬ p3 = 2 →
            zK 251 116 [vR 127 111, vI p1, vI p2, vI p3, vI v14, vI (gI h14 128 300), vI 0] [] h14 Q) ∧
            (¬ (¬ p3 = 2) →
            zK 251 83 [vR 127 111, vI p1, vI p2, vI p3, vI v14, vI 0, vI 1] [] h14 Q)) ∧
          (¬ (¬ p3 = 1) →
          zC0 229 [vR 127 111, vI p1] h14 (fun h15 =>
          (¬ p3 = 2 →
            zK 251 116 [vR 127 111, vI p1, vI p2, vI p3, vI v14, vI (gI h15 127 59), vI 0] [] h15 Q) ∧
            (¬ (¬ p3 = 2) →
            zK 251 83 [vR 127 111, vI p1, vI p2, vI p3, vI v14, vI 0, vI 1] [] h15 Q))))) ∧
        (¬ (¬ v13 = 0) →
        Q (some (vI ((-1)))) h13))))))) : zK 251 0 [vR 127 111, vI p1, vI p2, vI p3, vU, vU, vU] [] h Q :=
  zwpe_W (cd := c251) rfl [83, 116] 400 0 _ _ _ _ k
set_option maxRecDepth 100000 in
set_option maxHeartbeats 4000000 in
theorem k251_83 (u1 : zV) (u2 : zV) (u3 : zV) (l4 : Int) (l5 : Int) (l6 : Int) (h : zH) (Q : Option zV → zH → Prop) (k :
  (l4 < l6 →
    zK 251 116 [vR 127 111, u1, u2, u3, vI l4, vI l5, vI 0] [] h Q) ∧
    (¬ (l4 < l6) →
    zC1 247 [vR 127 111, vI l6] h (fun v16 h16 =>
    (v16 = 0 →
      (inR (l6 + 1)) ∧ zK 251 83 [vR 127 111, u1, u2, u3, vI l4, vI l5, vI (l6 + 1)] [] h16 Q) ∧
      (¬ (v16 = 0) →
      (inR (l6 + 1)) ∧ zK 251 83 [vR 127 111, u1, u2, u3, vI l4, vI 1, vI (l6 + 1)] [] h16 Q)))) : zK 251 83 [vR 127 111, u1, u2, u3, vI l4, vI l5, vI l6] [] h Q :=
  zwpe_W (cd := c251) rfl [83, 116] 400 83 _ _ _ _ k
set_option maxRecDepth 100000 in
set_option maxHeartbeats 4000000 in
theorem k251_116 (u1 : zV) (u2 : zV) (u3 : zV) (u4 : zV) (l5 : Int) (l6 : Int) (h : zH) (Q : Option zV → zH → Prop) (k :
  (301 ≤ l6 →
    zC0 156 [vR 127 111] h (fun h17 =>
    Q (some (vI l5)) h17)) ∧
    (¬ (301 ≤ l6) →
    (0 ≤ (l6 : Int)) ∧ ((l6 : Int) < 2107) ∧ (0 ≤ (l6 : Int)) ∧ ((l6 : Int) < 2709) ∧ ∀ h18 : zH, h18 = sI h 128 l6 (gI h 169 l6) →
    (inR (l6 + 1)) ∧ zK 251 116 [vR 127 111, u1, u2, u3, u4, vI l5, vI (l6 + 1)] [] h18 Q)) : zK 251 116 [vR 127 111, u1, u2, u3, u4, vI l5, vI l6] [] h Q :=
  zwpe_W (cd := c251) rfl [83, 116] 400 116 _ _ _ _ k
-- 252 SyntaxRulesModel.undo()I
set_option maxRecDepth 100000 in
set_option maxHeartbeats 4000000 in
theorem k252_0 (h : zH) (Q : Option zV → zH → Prop) (k :
  ∀ h5 : zH, h5 = sI h 127 0 0 →
  (¬ (gI h5 127 5) = 0 →
    (inR ((gI h5 127 5) - 1)) ∧ ∀ h6 : zH, h6 = sI h5 127 5 ((gI h5 127 5) - 1) →
    zK 252 27 [vR 127 111, vI 0] [] h6 Q) ∧
    (¬ (¬ (gI h5 127 5) = 0) →
    Q (some (vI ((-3)))) h5)) : zK 252 0 [vR 127 111, vU] [] h Q :=
  zwpe_W (cd := c252) rfl [27] 400 0 _ _ _ _ k
set_option maxRecDepth 100000 in
set_option maxHeartbeats 4000000 in
theorem k252_27 (l1 : Int) (h : zH) (Q : Option zV → zH → Prop) (k :
  (301 ≤ l1 →
    zC0 156 [vR 127 111] h (fun h7 =>
    Q (some (vI (gI h7 127 5))) h7)) ∧
    (¬ (301 ≤ l1) →
    (inR (301 * (gI h 127 5))) ∧ (inR ((301 * (gI h 127 5)) + l1)) ∧ (0 ≤ ((301 * (gI h 127 5)) + l1 : Int)) ∧ (((301 * (gI h 127 5)) + l1 : Int) < 2408) ∧ (0 ≤ (l1 : Int)) ∧ ((l1 : Int) < 2709) ∧ ∀ h8 : zH, h8 = sI h 128 l1 (gI h 131 ((301 * (gI h 127 5)) + l1)) →
    (inR (l1 + 1)) ∧ zK 252 27 [vR 127 111, vI (l1 + 1)] [] h8 Q)) : zK 252 27 [vR 127 111, vI l1] [] h Q :=
  zwpe_W (cd := c252) rfl [27] 400 27 _ _ _ _ k
-- 253 SyntaxRulesModel.keep(I)Z
set_option maxRecDepth 100000 in
set_option maxHeartbeats 4000000 in
theorem k253_0 (p1 : Int) (h : zH) (Q : Option zV → zH → Prop) (k :
  ∀ h5 : zH, h5 = sI h 127 0 0 →
  zC1 141 [vL p1, vL 0, vL 1] h5 (fun v6 h6 =>
  (¬ v6 = 0 →
    zK 253 19 [vR 127 111, vI p1, vI 0] [] h6 Q) ∧
    (¬ (¬ v6 = 0) →
    ((0 : Int) = 0 ∨ (0 : Int) = 1) ∧ Q (some (vI 0)) h6))) : zK 253 0 [vR 127 111, vI p1, vU] [] h Q :=
  zwpe_W (cd := c253) rfl [19] 400 0 _ _ _ _ k
set_option maxRecDepth 100000 in
set_option maxHeartbeats 4000000 in
theorem k253_19 (l1 : Int) (l2 : Int) (h : zH) (Q : Option zV → zH → Prop) (k :
  (2709 ≤ l2 →
    (0 ≤ (l1 : Int)) ∧ ((l1 : Int) < 2) ∧ ((1 : Int) = 0 ∨ (1 : Int) = 1) ∧ ∀ h7 : zH, h7 = sI h 130 l1 1 →
    ((1 : Int) = 0 ∨ (1 : Int) = 1) ∧ Q (some (vI 1)) h7) ∧
    (¬ (2709 ≤ l2) →
    (inR (2709 * l1)) ∧ (inR ((2709 * l1) + l2)) ∧ (0 ≤ (l2 : Int)) ∧ ((l2 : Int) < 2709) ∧ (0 ≤ ((2709 * l1) + l2 : Int)) ∧ (((2709 * l1) + l2 : Int) < 5418) ∧ ∀ h8 : zH, h8 = sI h 129 ((2709 * l1) + l2) (gI h 128 l2) →
    (inR (l2 + 1)) ∧ zK 253 19 [vR 127 111, vI l1, vI (l2 + 1)] [] h8 Q)) : zK 253 19 [vR 127 111, vI l1, vI l2] [] h Q :=
  zwpe_W (cd := c253) rfl [19] 400 19 _ _ _ _ k
-- 254 SyntaxRulesModel.again(I)Z
set_option maxRecDepth 100000 in
set_option maxHeartbeats 4000000 in
theorem k254_0 (p1 : Int) (h : zH) (Q : Option zV → zH → Prop) (k :
  ∀ h7 : zH, h7 = sI h 127 0 0 →
  zC1 141 [vL p1, vL 0, vL 1] h7 (fun v8 h8 =>
  (v8 = 0 →
    ((0 : Int) = 0 ∨ (0 : Int) = 1) ∧ Q (some (vI 0)) h8) ∧
    (¬ (v8 = 0) →
    (0 ≤ (p1 : Int)) ∧ ((p1 : Int) < 2) ∧ (¬ (gI h8 130 p1) = 0 →
      zK 254 28 [vR 127 111, vI p1, vI 0] [] h8 Q) ∧
      (¬ (¬ (gI h8 130 p1) = 0) →
      ((0 : Int) = 0 ∨ (0 : Int) = 1) ∧ Q (some (vI 0)) h8)))) : zK 254 0 [vR 127 111, vI p1, vU] [] h Q :=
  zwpe_W (cd := c254) rfl [28] 400 0 _ _ _ _ k
set_option maxRecDepth 100000 in
set_option maxHeartbeats 4000000 in
theorem k254_28 (l1 : Int) (l2 : Int) (h : zH) (Q : Option zV → zH → Prop) (k :
  (2709 ≤ l2 →
    ∀ h9 : zH, h9 = sI h 127 5 0 →
    zC0 176 [vR 127 111] h9 (fun h10 =>
    zC0 156 [vR 127 111] h10 (fun h11 =>
    ((1 : Int) = 0 ∨ (1 : Int) = 1) ∧ Q (some (vI 1)) h11))) ∧
    (¬ (2709 ≤ l2) →
    (inR (2709 * l1)) ∧ (inR ((2709 * l1) + l2)) ∧ (0 ≤ ((2709 * l1) + l2 : Int)) ∧ (((2709 * l1) + l2 : Int) < 5418) ∧ (0 ≤ (l2 : Int)) ∧ ((l2 : Int) < 2709) ∧ ∀ h12 : zH, h12 = sI h 128 l2 (gI h 129 ((2709 * l1) + l2)) →
    (inR (l2 + 1)) ∧ zK 254 28 [vR 127 111, vI l1, vI (l2 + 1)] [] h12 Q)) : zK 254 28 [vR 127 111, vI l1, vI l2] [] h Q :=
  zwpe_W (cd := c254) rfl [28] 400 28 _ _ _ _ k
-- 255 SyntaxRulesModel.deepest()I
set_option maxRecDepth 100000 in
set_option maxHeartbeats 4000000 in
theorem k255_0 (h : zH) (Q : Option zV → zH → Prop) (k :
  zK 255 4 [vR 127 111, vI 0, vI 0] [] h Q) : zK 255 0 [vR 127 111, vU, vU] [] h Q :=
  zwpe_W (cd := c255) rfl [4] 400 0 _ _ _ _ k
set_option maxRecDepth 100000 in
set_option maxHeartbeats 4000000 in
theorem k255_4 (l1 : Int) (l2 : Int) (h : zH) (Q : Option zV → zH → Prop) (k :
  ((gI h 127 20) ≤ l2 →
    Q (some (vI l1)) h) ∧
    (¬ ((gI h 127 20) ≤ l2) →
    zC1 158 [vR 127 111, vI l2, vI 7] h (fun v3 h3 =>
    (inR (v3 + 1)) ∧ ((v3 + 1) ≤ l1 →
      (inR (l2 + 1)) ∧ zK 255 4 [vR 127 111, vI l1, vI (l2 + 1)] [] h3 Q) ∧
      (¬ ((v3 + 1) ≤ l1) →
      zC1 158 [vR 127 111, vI l2, vI 7] h3 (fun v4 h4 =>
      (inR (v4 + 1)) ∧ (inR (l2 + 1)) ∧ zK 255 4 [vR 127 111, vI (v4 + 1), vI (l2 + 1)] [] h4 Q))))) : zK 255 4 [vR 127 111, vI l1, vI l2] [] h Q :=
  zwpe_W (cd := c255) rfl [4] 400 4 _ _ _ _ k
-- 256 SyntaxRulesModel.count(I)I
set_option maxRecDepth 100000 in
set_option maxHeartbeats 4000000 in
theorem k256_0 (p1 : Int) (h : zH) (Q : Option zV → zH → Prop) (k :
  ∀ h4 : zH, h4 = sI h 127 0 0 →
  (p1 = (0 : Int) →
    Q (some (vI (gI h4 127 20))) h4) ∧
    (¬ (p1 = (0 : Int)) →
    (p1 = ((0 : Int) + 1) →
    (0 ≤ (300 : Int)) ∧ ((300 : Int) < 2709) ∧ Q (some (vI (gI h4 128 300))) h4) ∧
    (¬ (p1 = ((0 : Int) + 1)) →
    (p1 = ((0 : Int) + 1 + 1) →
    Q (some (vI (gI h4 127 22))) h4) ∧
    (¬ (p1 = ((0 : Int) + 1 + 1)) →
    (p1 = ((0 : Int) + 1 + 1 + 1) →
    zC1 177 [vR 127 111] h4 (fun v6 h6 =>
    Q (some (vI v6)) h6)) ∧
    (¬ (p1 = ((0 : Int) + 1 + 1 + 1)) →
    (p1 = ((0 : Int) + 1 + 1 + 1 + 1) →
    Q (some (vI (gI h4 127 7))) h4) ∧
    (¬ (p1 = ((0 : Int) + 1 + 1 + 1 + 1)) →
    (p1 = ((0 : Int) + 1 + 1 + 1 + 1 + 1) →
    Q (some (vI (gI h4 127 5))) h4) ∧
    (¬ (p1 = ((0 : Int) + 1 + 1 + 1 + 1 + 1)) →
    (p1 = ((0 : Int) + 1 + 1 + 1 + 1 + 1 + 1) →
    zC1 255 [vR 127 111] h4 (fun v5 h5 =>
    Q (some (vI v5)) h5)) ∧
    (¬ (p1 = ((0 : Int) + 1 + 1 + 1 + 1 + 1 + 1)) →
    Q (some (vI ((-1)))) h4)))))))) : zK 256 0 [vR 127 111, vI p1] [] h Q :=
  zwpe_W (cd := c256) rfl [] 400 0 _ _ _ _ k
end
