/-! A small machine over an abstract heap: values, heap, one instruction. -/
abbrev zV : Type := Int ⊕ ((Nat × Nat) ⊕ (Int ⊕ Unit))
abbrev vI (i : Int) : zV := Sum.inl i
abbrev vR (x t : Nat) : zV := Sum.inr (Sum.inl (x, t))
abbrev vL (i : Int) : zV := Sum.inr (Sum.inr (Sum.inl i))
abbrev vU : zV := Sum.inr (Sum.inr (Sum.inr ()))
/-- ints by cell and place, references by cell and place (0 null), tags, lengths, the next cell, slots made -/
abbrev zH : Type := (Nat → Int → Int) × (Nat → Int → Nat) × (Nat → Nat) × (Nat → Nat) × Nat × Nat
def gI (h : zH) (a : Nat) (k : Int) : Int := h.1 a k
def gR (h : zH) (a : Nat) (k : Int) : Nat := h.2.1 a k
def tg (h : zH) (a : Nat) : Nat := h.2.2.1 a
def ln (h : zH) (a : Nat) : Nat := h.2.2.2.1 a
def nx (h : zH) : Nat := h.2.2.2.2.1
def sc (h : zH) : Nat := h.2.2.2.2.2
def sI (h : zH) (a : Nat) (k v : Int) : zH := (fun b j => if b = a ∧ j = k then v else h.1 b j, h.2)
def sR (h : zH) (a : Nat) (k : Int) (v : Nat) : zH := (h.1, fun b j => if b = a ∧ j = k then v else h.2.1 b j, h.2.2)
def sT (h : zH) (a t : Nat) : zH := (h.1, h.2.1, fun b => if b = a then t else h.2.2.1 b, h.2.2.2)
def nw (h : zH) (t n : Nat) : zH := (fun b j => if b = nx h then 0 else h.1 b j, fun b j => if b = nx h then 0 else h.2.1 b j, fun b => if b = nx h then t else h.2.2.1 b, fun b => if b = nx h then n else h.2.2.2.1 b, nx h + 1, sc h + n)
def cp (h : zH) (s : Nat) (sp : Int) (d : Nat) (dp n : Int) : zH := (fun b j => if b = d ∧ dp ≤ j ∧ j < dp + n then h.1 s (sp + (j - dp)) else h.1 b j, h.2)
/-- ranges -/
def inR (x : Int) : Prop := -2147483648 ≤ x ∧ x ≤ 2147483647
def inL (x : Int) : Prop := -9223372036854775808 ≤ x ∧ x ≤ 9223372036854775807
/-- a reference of a type: tag t % 100, length t / 100 - 1 (1: any); 147 the script -/
def zty (t x : Nat) (h : zH) : Prop := bif Nat.beq t 147 then x = 1 else (2 ≤ x ∧ x < nx h ∧ tg h x = t % 100 ∧ (t / 100 = 1 ∨ ln h x = t / 100 - 1))
def zlen (t a : Nat) (h : zH) : Int := bif Nat.blt 1 (Nat.div t 100) then Int.ofNat (Nat.sub (Nat.div t 100) 1) else Int.ofNat (ln h a)
/-- bits by the machine's own words -/
def iAnd (x y : Int) : Int := (Int32.ofInt x &&& Int32.ofInt y).toInt
def iOr (x y : Int) : Int := (Int32.ofInt x ||| Int32.ofInt y).toInt
def iXor (x y : Int) : Int := (Int32.ofInt x ^^^ Int32.ofInt y).toInt
def iShl (x y : Int) : Int := (Int32.ofInt x <<< (Int32.ofInt y &&& 31)).toInt
def iUshr (x y : Int) : Int := ((Int32.ofInt x).toUInt32 >>> ((Int32.ofInt y).toUInt32 &&& Int32.toUInt32 31)).toInt32.toInt
def iDiv (x y : Int) : Int := (Int32.ofInt x / Int32.ofInt y).toInt
def iRem (x y : Int) : Int := (Int32.ofInt x - Int32.ofInt x / Int32.ofInt y * Int32.ofInt y).toInt
def iByte (x : Int) : Int := (Int32.ofInt x).toInt8.toInt32.toInt
def iMax (x y : Int) : Int := if x < y then y else x
def iMin (x y : Int) : Int := if y < x then y else x
def iCmp (x y : Int) : Int := if y < x then 1 else if x = y then 0 else -1
/-- what follows an instruction: a jump, an end, a call -/
abbrev zN : Type := (Bool × List (Prop × Nat) × Nat × List zV × List zV × zH) ⊕ ((Option zV × zH) ⊕ (Nat × Nat × List zV × List zV × Nat))
abbrev zS : Type := List Prop × Option zN
abbrev zE : Type := Nat × Nat × Instr × List Nat
def zgo (pc : Nat) (ls st : List zV) (h : zH) : Option zN := some (.inl (false, [], pc, ls, st, h))
/-- the same where the heap has changed -/
def zgw (pc : Nat) (ls st : List zV) (h : zH) : Option zN := some (.inl (true, [], pc, ls, st, h))
def zno : zS := ([], none)
def zfind (pc : Nat) : List zE → Option (Nat × Instr × List Nat)
  | [] => none
  | e :: r => bif Nat.beq e.1 pc then some e.2 else zfind pc r
def zc0 (c : ClassFile.Cond) (x : Int) : Prop := match c with
  | .eq => x = 0
  | .ne => ¬ x = 0
  | .lt => x < 0
  | .ge => 0 ≤ x
  | .gt => 0 < x
  | .le => x ≤ 0
def zc2 (c : ClassFile.Cond) (x y : Int) : Prop := match c with
  | .eq => x = y
  | .ne => ¬ x = y
  | .lt => x < y
  | .ge => y ≤ x
  | .gt => y < x
  | .le => x ≤ y
def zts (x : Int) (pc : Nat) : Int → List Int → List (Prop × Nat)
  | _, [] => []
  | lo, o :: r => (x = lo, ((pc : Int) + o).toNat) :: zts x pc (lo + 1) r
def zlk (x : Int) (pc : Nat) : List (Int × Int) → List (Prop × Nat)
  | [] => []
  | q :: r => (x = q.1, ((pc : Int) + q.2).toNat) :: zlk x pc r
/-- a value as one of an expected type (0: as it is; 1: a long; 2: a reference, not null) -/
def zco (e : Nat) (v : zV) (h : zH) : Option (List Prop × zV) := match v with
  | .inl x => bif Nat.beq e 0 then some ([], .inl x) else none
  | .inr (.inl (x, t)) => bif Nat.beq e 0 then some ([], .inr (.inl (x, t))) else bif Nat.beq e 1 then none else bif Nat.beq e 2 then some ([¬ x = 0], .inr (.inl (x, 0))) else bif Nat.beq t e then some ([], .inr (.inl (x, t))) else bif Nat.beq t 0 then some ([zty e x h], .inr (.inl (x, e))) else bif Nat.beq (Nat.mod t 100) (Nat.mod e 100) && Nat.beq (Nat.div e 100) 1 && Nat.blt 1 (Nat.div t 100) && Nat.blt (Nat.mod e 100) 47 then some ([], .inr (.inl (x, e))) else none
  | .inr (.inr (.inl x)) => bif Nat.beq e 1 then some ([], .inr (.inr (.inl x))) else none
  | .inr (.inr (.inr _)) => none
def zpop : List Nat → List zV → zH → List Prop → List zV → Option (List Prop × List zV × List zV)
  | [], st, _, gs, acc => some (gs, acc, st)
  | _ :: _, [], _, _, _ => none
  | e :: es, v :: st, h, gs, acc => match zco e v h with
    | none => none
    | some (g, w) => zpop es st h (g ++ gs) (w :: acc)
def zcat : List zV → Nat
  | [] => 0
  | .inr (.inr (.inl _)) :: r => 2 + zcat r
  | _ :: r => 1 + zcat r
/-- the final references of a sealed object: field, how far behind the object, its type -/
def zlay : Nat → List (Nat × Nat × Nat)
  | 0 => [(0, 1, 101), (3, 35, 102), (4, 51, 944), (5, 52, 104), (6, 54, 105), (7, 61, 106), (8, 75, 107), (9, 80, 108), (10, 85, 109), (11, 103, 346), (12, 104, 745)]
  | 1 => [(0, 1, 30140)]
  | 2 => [(0, 1, 101), (1, 3, 6140), (2, 4, 6140), (3, 5, 6140), (4, 6, 6140), (5, 7, 6140), (6, 8, 6140), (7, 9, 6140), (8, 10, 6140), (9, 11, 6140), (10, 12, 6140), (11, 13, 15140), (12, 14, 15140), (13, 15, 15140)]
  | 3 => [(0, 1, 101), (1, 3, 4140), (2, 4, 4140), (3, 5, 4140), (4, 6, 4140), (5, 7, 4140), (6, 8, 4140), (7, 9, 4140), (8, 10, 4140), (9, 11, 4140), (10, 12, 4140), (11, 13, 4140), (12, 14, 4140)]
  | 4 => [(10, 1, 4140)]
  | 5 => [(0, 1, 2140), (1, 2, 2140), (2, 3, 2140), (3, 4, 2140), (4, 5, 2140), (5, 6, 440)]
  | 6 => [(1, 1, 4140), (2, 2, 4140), (3, 3, 4140), (4, 4, 2740), (7, 5, 32140), (8, 6, 32144), (9, 7, 32140), (10, 8, 32140), (11, 9, 32140), (12, 10, 32140), (13, 11, 32140), (14, 12, 32141), (15, 13, 2140)]
  | 7 => [(1, 1, 6140), (2, 2, 6140), (3, 3, 6140), (4, 4, 6141)]
  | 8 => [(6, 1, 101), (7, 3, 4140), (8, 4, 4140)]
  | 9 => [(2, 1, 945)]
  | 10 => [(1, 1, 101), (2, 3, 944)]
  | 11 => [(1, 1, 271040), (2, 2, 541940), (3, 3, 341), (4, 4, 240940), (6, 5, 30142), (8, 6, 30340), (10, 7, 60140), (12, 8, 45140), (14, 9, 1740), (19, 10, 60140), (21, 11, 45140), (23, 12, 393740), (24, 13, 1740), (25, 14, 49340), (26, 15, 340), (30, 16, 2740), (31, 17, 2240), (34, 18, 440), (37, 19, 2740), (38, 20, 2740), (39, 21, 2240), (40, 22, 2240), (41, 23, 940), (42, 24, 32140), (43, 25, 32140), (44, 26, 32140), (45, 27, 672140), (46, 28, 32140), (47, 29, 672140), (48, 30, 2240), (50, 31, 2740), (51, 32, 54740), (52, 33, 32140), (53, 34, 32140), (56, 35, 32141), (57, 36, 6140), (58, 37, 6140), (60, 38, 6140), (61, 39, 700142), (64, 40, 2740), (65, 41, 2740), (67, 42, 210840)]
  | _ => []
def zfin (a : Nat) (h : zH) : List (Nat × Nat × Nat) → List Prop
  | [] => []
  | q :: r => (gR h a (Int.ofNat q.1) = a + q.2.1) :: zty q.2.2 (a + q.2.1) h :: zfin a h r
def zgetf (ops : List Nat) (nxt : Nat) (ls st : List zV) (h : zH) : zS := match ops, st with
  | [c, k, kind, off, t, ct], .inr (.inl (a, ta)) :: r =>
    let g : List Prop := bif Nat.beq ta (100 + c) then [] else bif Nat.beq ta 0 then [zty (bif Nat.beq ct 1 then 120 + c else 100 + c) a h] else [False]
    bif Nat.blt kind 2 then (g, zgo nxt ls (.inl (gI h a (Int.ofNat k)) :: r) h)
    else bif Nat.beq kind 3 && Nat.beq ct 0 then (g, zgo nxt ls (.inr (.inl (a + off, t)) :: r) h)
    else (g ++ [zty t (gR h a (Int.ofNat k)) h], zgo nxt ls (.inr (.inl (gR h a (Int.ofNat k), t)) :: r) h)
  | _, _ => zno
def zputf (ops : List Nat) (nxt : Nat) (ls st : List zV) (h : zH) : zS := match ops, st with
  | [c, k, kind, ct, sl], v :: .inr (.inl (a, ta)) :: r =>
    let g : List Prop := bif Nat.beq ta (100 + c) && Nat.beq ct 0 then [] else bif Nat.beq ta 0 then [zty (bif Nat.beq ct 1 then 120 + c else 100 + c) a h] else [False]
    match v with
    | .inl x => bif Nat.beq kind 0 then (g, zgw nxt ls r (sI h a (Int.ofNat k) x)) else bif Nat.beq kind 1 then (g ++ [x = 0 ∨ x = 1], zgw nxt ls r (sI h a (Int.ofNat k) x)) else zno
    | .inr (.inl (x, _)) => bif Nat.blt kind 2 then zno else
      bif Nat.beq sl 1 then (g ++ zfin a (sR h a (Int.ofNat k) x) (zlay c), zgw nxt ls r (sT (sR h a (Int.ofNat k) x) a c))
      else (g, zgw nxt ls r (sR h a (Int.ofNat k) x))
    | _ => zno
  | _, _ => zno
/-- the array's own type, by the tag that the instruction wants -/
def zarrG (tag a t : Nat) (h : zH) : List Prop := bif Nat.beq tag 47 then (bif Nat.beq t 147 then [] else bif Nat.beq t 0 then [zty 147 a h] else [False]) else bif Nat.beq (Nat.mod t 100) tag && Nat.blt 0 (Nat.div t 100) then [] else bif Nat.beq t 0 then [zty (100 + tag) a h] else [False]
def zarrT (tag t : Nat) : Nat := bif Nat.beq tag 47 then 147 else bif Nat.beq (Nat.mod t 100) tag && Nat.blt 0 (Nat.div t 100) then t else 100 + tag
def zald (tag : Nat) (nxt : Nat) (ls st : List zV) (h : zH) : zS := match st with
  | .inl i :: .inr (.inl (a, t)) :: r => (zarrG tag a t h ++ [0 ≤ i, i < zlen (zarrT tag t) a h], zgo nxt ls (.inl (gI h a i) :: r) h)
  | _ => zno
def zlald (nxt : Nat) (ls st : List zV) (h : zH) : zS := match st with
  | .inl i :: .inr (.inl (a, t)) :: r => (zarrG 43 a t h ++ [0 ≤ i, i < zlen (zarrT 43 t) a h], zgo nxt ls (.inr (.inr (.inl (gI h a i))) :: r) h)
  | _ => zno
def zaald (tag te : Nat) (nxt : Nat) (ls st : List zV) (h : zH) : zS := match st with
  | .inl i :: .inr (.inl (a, t)) :: r => (zarrG tag a t h ++ (0 ≤ i) :: (i < zlen (zarrT tag t) a h) :: (bif Nat.beq te 0 then [] else [zty te (gR h a i) h]), zgo nxt ls (.inr (.inl (gR h a i, te)) :: r) h)
  | _ => zno
def zast (tag : Nat) (nxt : Nat) (ls st : List zV) (h : zH) : zS := match st with
  | .inl x :: .inl i :: .inr (.inl (a, t)) :: r => (zarrG tag a t h ++ (0 ≤ i) :: (i < zlen (zarrT tag t) a h) :: (bif Nat.beq tag 40 then [] else bif Nat.beq tag 42 then [-128 ≤ x ∧ x ≤ 127] else bif Nat.beq tag 41 then [x = 0 ∨ x = 1] else [False]), zgw nxt ls r (sI h a i x))
  | .inr (.inr (.inl x)) :: .inl i :: .inr (.inl (a, t)) :: r => (zarrG 43 a t h ++ [0 ≤ i, i < zlen (zarrT 43 t) a h, inR x, tag = 43], zgw nxt ls r (sI h a i x))
  | _ => zno
/-- a reference into an array of references: of the component's class, or null -/
def zaast (tag te : Nat) (nxt : Nat) (ls st : List zV) (h : zH) : zS := match st with
  | .inr (.inl (x, tx)) :: .inl i :: .inr (.inl (a, t)) :: r => (zarrG tag a t h ++ (0 ≤ i) :: (i < zlen (zarrT tag t) a h) :: (bif Nat.beq tx te then [] else [x = 0 ∨ zty te x h]), zgw nxt ls r (sR h a i x))
  | _ => zno
def zinv (ops : List Nat) (nxt : Nat) (ls st : List zV) (h : zH) : zS := match ops with
  | y :: k :: es => match zpop es st h [] [] with
    | none => zno
    | some (gs, args, rest) => bif Nat.ble (zcat rest) 8 then
        (bif Nat.beq y 9999 then (match args with
          | [.inr (.inl (a, _))] => (gs ++ [¬ a = 0], zgo nxt ls rest h)
          | _ => zno)
        else bif Nat.beq y 9998 then (match args with
          | [.inr (.inl (s, _)), .inl sp, .inr (.inl (d, _)), .inl dp, .inl n] => (gs ++ [0 ≤ sp, 0 ≤ dp, 0 ≤ n, sp + n ≤ Int.ofNat (ln h s), dp + n ≤ Int.ofNat (ln h d)], zgw nxt ls rest (cp h s sp d dp n))
          | _ => zno)
        else bif Nat.beq y 9996 then (match args with
          | [.inl a, .inl c] => (gs, zgo nxt ls (.inl (iMax a c) :: rest) h)
          | _ => zno)
        else bif Nat.beq y 9995 then (match args with
          | [.inl a, .inl c] => (gs, zgo nxt ls (.inl (iMin a c) :: rest) h)
          | _ => zno)
        else (gs, some (.inr (.inr (y, k, args, rest, nxt))))) else zno
  | _ => zno
def zstp (E : Instr) (ops : List Nat) (pc len : Nat) (ls st : List zV) (h : zH) : zS := match E with
  | .iconst n => ([], zgo (pc + len) ls (.inl n :: st) h)
  | .bipush n => ([], zgo (pc + len) ls (.inl n :: st) h)
  | .sipush n => ([], zgo (pc + len) ls (.inl n :: st) h)
  | .ldc _ => ([], zgo (pc + len) ls (.inl (Int.ofNat (ops.getD 0 0)) :: st) h)
  | .ldc_w _ => ([], zgo (pc + len) ls (.inl (Int.ofNat (ops.getD 0 0)) :: st) h)
  | .lconst n => ([], zgo (pc + len) ls (.inr (.inr (.inl (Int.ofNat n.val))) :: st) h)
  | .ldc2_w _ => ([], zgo (pc + len) ls (.inr (.inr (.inl (Int.ofNat (ops.getD 0 0)))) :: st) h)
  | .aconst_null => ([], zgo (pc + len) ls (.inr (.inl (0, 0)) :: st) h)
  | .iload i => (match ls.getD i vU with
    | .inl x => ([], zgo (pc + len) ls (.inl x :: st) h)
    | _ => zno)
  | .iload_n i => (match ls.getD i.val vU with
    | .inl x => ([], zgo (pc + len) ls (.inl x :: st) h)
    | _ => zno)
  | .aload i => (match ls.getD i vU with
    | .inr (.inl q) => ([], zgo (pc + len) ls (.inr (.inl q) :: st) h)
    | _ => zno)
  | .aload_n i => (match ls.getD i.val vU with
    | .inr (.inl q) => ([], zgo (pc + len) ls (.inr (.inl q) :: st) h)
    | _ => zno)
  | .lload i => (match ls.getD i vU with
    | .inr (.inr (.inl x)) => ([], zgo (pc + len) ls (.inr (.inr (.inl x)) :: st) h)
    | _ => zno)
  | .lload_n i => (match ls.getD i.val vU with
    | .inr (.inr (.inl x)) => ([], zgo (pc + len) ls (.inr (.inr (.inl x)) :: st) h)
    | _ => zno)
  | .istore i => (match st with
    | .inl x :: r => bif Nat.blt i ls.length then ([], zgo (pc + len) (ls.set i (.inl x)) r h) else zno
    | _ => zno)
  | .istore_n i => (match st with
    | .inl x :: r => bif Nat.blt i.val ls.length then ([], zgo (pc + len) (ls.set i.val (.inl x)) r h) else zno
    | _ => zno)
  | .astore i => (match st with
    | .inr (.inl q) :: r => bif Nat.blt i ls.length then ([], zgo (pc + len) (ls.set i (.inr (.inl q))) r h) else zno
    | _ => zno)
  | .astore_n i => (match st with
    | .inr (.inl q) :: r => bif Nat.blt i.val ls.length then ([], zgo (pc + len) (ls.set i.val (.inr (.inl q))) r h) else zno
    | _ => zno)
  | .iinc i n => (match ls.getD i vU with
    | .inl x => ([inR (x + n)], zgo (pc + len) (ls.set i (.inl (x + n))) st h)
    | _ => zno)
  | .iadd => (match st with
    | .inl y :: .inl x :: r => ([inR (x + y)], zgo (pc + len) ls (.inl (x + y) :: r) h)
    | _ => zno)
  | .isub => (match st with
    | .inl y :: .inl x :: r => ([inR (x - y)], zgo (pc + len) ls (.inl (x - y) :: r) h)
    | _ => zno)
  | .imul => (match st with
    | .inl y :: .inl x :: r => ([inR (x * y)], zgo (pc + len) ls (.inl (x * y) :: r) h)
    | _ => zno)
  | .idiv => (match st with
    | .inl y :: .inl x :: r => ([¬ y = 0], zgo (pc + len) ls (.inl (iDiv x y) :: r) h)
    | _ => zno)
  | .irem => (match st with
    | .inl y :: .inl x :: r => ([¬ y = 0], zgo (pc + len) ls (.inl (iRem x y) :: r) h)
    | _ => zno)
  | .iand => (match st with
    | .inl y :: .inl x :: r => ([], zgo (pc + len) ls (.inl (iAnd x y) :: r) h)
    | _ => zno)
  | .ior => (match st with
    | .inl y :: .inl x :: r => ([], zgo (pc + len) ls (.inl (iOr x y) :: r) h)
    | _ => zno)
  | .ixor => (match st with
    | .inl y :: .inl x :: r => ([], zgo (pc + len) ls (.inl (iXor x y) :: r) h)
    | _ => zno)
  | .ishl => (match st with
    | .inl y :: .inl x :: r => ([], zgo (pc + len) ls (.inl (iShl x y) :: r) h)
    | _ => zno)
  | .iushr => (match st with
    | .inl y :: .inl x :: r => ([], zgo (pc + len) ls (.inl (iUshr x y) :: r) h)
    | _ => zno)
  | .i2b => (match st with
    | .inl x :: r => ([], zgo (pc + len) ls (.inl (iByte x) :: r) h)
    | _ => zno)
  | .i2l => (match st with
    | .inl x :: r => ([], zgo (pc + len) ls (.inr (.inr (.inl x)) :: r) h)
    | _ => zno)
  | .lsub => (match st with
    | .inr (.inr (.inl y)) :: .inr (.inr (.inl x)) :: r => ([inL (x - y)], zgo (pc + len) ls (.inr (.inr (.inl (x - y))) :: r) h)
    | _ => zno)
  | .lcmp => (match st with
    | .inr (.inr (.inl y)) :: .inr (.inr (.inl x)) :: r => ([], zgo (pc + len) ls (.inl (iCmp x y) :: r) h)
    | _ => zno)
  | .dup => (match st with
    | .inl x :: r => ([], zgo (pc + len) ls (.inl x :: .inl x :: r) h)
    | .inr (.inl q) :: r => ([], zgo (pc + len) ls (.inr (.inl q) :: .inr (.inl q) :: r) h)
    | _ => zno)
  | .dup2 => (match st with
    | .inl x :: .inr (.inl q) :: r => ([], zgo (pc + len) ls (.inl x :: .inr (.inl q) :: .inl x :: .inr (.inl q) :: r) h)
    | _ => zno)
  | .pop => (match st with
    | .inl _ :: r => ([], zgo (pc + len) ls r h)
    | .inr (.inl _) :: r => ([], zgo (pc + len) ls r h)
    | _ => zno)
  | .goto o => ([], zgo ((pc : Int) + o).toNat ls st h)
  | .ifCond c o => (match st with
    | .inl x :: r => ([], some (.inl (false, [(zc0 c x, ((pc : Int) + o).toNat)], pc + len, ls, r, h)))
    | _ => zno)
  | .if_icmp c o => (match st with
    | .inl y :: .inl x :: r => ([], some (.inl (false, [(zc2 c x y, ((pc : Int) + o).toNat)], pc + len, ls, r, h)))
    | _ => zno)
  | .if_acmp c o => (match st with
    | .inr (.inl (y, _)) :: .inr (.inl (x, _)) :: r => (match c with
      | .eq => ([], some (.inl (false, [(x = y, ((pc : Int) + o).toNat)], pc + len, ls, r, h)))
      | .ne => ([], some (.inl (false, [(¬ x = y, ((pc : Int) + o).toNat)], pc + len, ls, r, h))))
    | _ => zno)
  | .ifnull o => (match st with
    | .inr (.inl (x, _)) :: r => ([], some (.inl (false, [(x = 0, ((pc : Int) + o).toNat)], pc + len, ls, r, h)))
    | _ => zno)
  | .ifnonnull o => (match st with
    | .inr (.inl (x, _)) :: r => ([], some (.inl (false, [(¬ x = 0, ((pc : Int) + o).toNat)], pc + len, ls, r, h)))
    | _ => zno)
  | .tableswitch d lo _ offs => (match st with
    | .inl x :: r => ([], some (.inl (false, zts x pc lo offs.toList, ((pc : Int) + d).toNat, ls, r, h)))
    | _ => zno)
  | .lookupswitch d ps => (match st with
    | .inl x :: r => ([], some (.inl (false, zlk x pc ps.toList, ((pc : Int) + d).toNat, ls, r, h)))
    | _ => zno)
  | .getfield _ => zgetf ops (pc + len) ls st h
  | .putfield _ => zputf ops (pc + len) ls st h
  | .iaload => zald (ops.getD 0 0) (pc + len) ls st h
  | .baload => zald (ops.getD 0 0) (pc + len) ls st h
  | .laload => zlald (pc + len) ls st h
  | .aaload => zaald (ops.getD 0 0) (ops.getD 1 0) (pc + len) ls st h
  | .iastore => zast (ops.getD 0 0) (pc + len) ls st h
  | .bastore => zast (ops.getD 0 0) (pc + len) ls st h
  | .lastore => zast (ops.getD 0 0) (pc + len) ls st h
  | .aastore => zaast (ops.getD 0 0) (ops.getD 1 0) (pc + len) ls st h
  | .arraylength => (match st with
    | .inr (.inl (a, t)) :: r => (zarrG (ops.getD 0 0) a t h, zgo (pc + len) ls (.inl (Int.ofNat (ln h a)) :: r) h)
    | _ => zno)
  | .new _ => bif Nat.blt (ops.getD 0 0) 12 then ([], zgw (pc + len) ls (.inr (.inl (nx h, 0)) :: st) (nw h (20 + ops.getD 0 0) (ops.getD 1 0))) else zno
  | .newarray _ => (match st with
    | .inl n :: r => ([0 ≤ n ∧ n ≤ 10000], zgw (pc + len) ls (.inr (.inl (nx h, 0)) :: r) (nw h (ops.getD 0 0) n.toNat))
    | _ => zno)
  | .anewarray _ => (match st with
    | .inl n :: r => ([0 ≤ n ∧ n ≤ 10000], zgw (pc + len) ls (.inr (.inl (nx h, 0)) :: r) (nw h (ops.getD 0 0) n.toNat))
    | _ => zno)
  | .invokevirtual _ => zinv ops (pc + len) ls st h
  | .invokespecial _ => zinv ops (pc + len) ls st h
  | .invokestatic _ => zinv ops (pc + len) ls st h
  | .return_ => (match st with
    | [] => ([], some (.inr (.inl (none, h))))
    | _ => zno)
  | .ireturn => (match st with
    | [.inl x] => (bif Nat.beq (ops.getD 0 0) 1 then [x = 0 ∨ x = 1] else [], some (.inr (.inl (some (.inl x), h))))
    | _ => zno)
  | .areturn => (match st with
    | [.inr (.inl (x, t))] => (bif Nat.beq t (ops.getD 0 0) || Nat.beq (ops.getD 0 0) 0 then [] else [zty (ops.getD 0 0) x h], some (.inr (.inl (some (.inr (.inl (x, ops.getD 0 0))), h))))
    | _ => zno)
  | _ => zno
/-- the guards, one behind another, then P -/
def zg : List Prop → Prop → Prop
  | [], P => P
  | g :: r, P => g ∧ zg r P
def zbr : List (Prop × Nat) → Nat → (Nat → Prop) → Prop
  | [], d, K => K d
  | q :: r, d, K => (q.1 → K q.2) ∧ (¬ q.1 → zbr r d K)
noncomputable def zch : List (Prop × Nat) → Nat → Nat
  | [], d => d
  | q :: r, d => @ite Nat q.1 (Classical.propDecidable q.1) q.2 (zch r d)
def zents : List zV → List zV
  | [] => []
  | .inr (.inr (.inl x)) :: r => .inr (.inr (.inl x)) :: vU :: zents r
  | v :: r => v :: zents r
def zpad : Nat → List zV → List zV
  | 0, _ => []
  | n + 1, [] => vU :: zpad n []
  | n + 1, v :: r => v :: zpad n r
