/-! Every instruction of the program, checked against the code and the words. -/
def zpermb (t : Nat) : Bool := Nat.blt (Nat.mod t 100) 20 || Nat.ble 40 (Nat.mod t 100)
def zrefb (t : FieldType) : Bool := match t with
  | .object _ => true
  | .array _ => true
  | _ => false
def zrg (a n b : Int) : Bool := decide (a ≤ n) && decide (n ≤ b)
def zgf (c k kind off t ct : Nat) : Bool := bif Nat.blt kind 2 then (decide (zfty c k = .int) || decide (zfty c k = .boolean)) else (zrefb (zfty c k) && zpermb t && Nat.blt 0 t && Nat.ble kind 3 && (bif Nat.beq kind 3 && Nat.beq ct 0 then (zlay c).elem (k, off, t) else true))
def zpf (o c k kind ct sl : Nat) (ini : Bool) : Bool := (bif Nat.beq kind 0 then decide (zfty c k = .int) else bif Nat.beq kind 1 then decide (zfty c k = .boolean) else zrefb (zfty c k)) &&
  (bif ((zcr c).2.1 k).2.2.2 then (Nat.beq ct 1 && Nat.beq o c && ini) else (zlay c).all (fun q => !(Nat.beq q.1 k))) && (bif Nat.beq sl 1 then (Nat.beq ct 1 && Nat.blt 1 kind) else true)
def zsz : List Nat → Nat
  | [] => 0
  | e :: r => (bif Nat.beq e 1 then 2 else 1) + zsz r
def zesb (es : List Nat) : Bool := es.all (fun e => Nat.ble e 1 || zpermb e)
/-- a call: kind of call, callee, types -/
def zinb (y i kd : Nat) (ops : List Nat) : Bool := match ops with
  | y1 :: _ :: es => (zML (zow y)).elem (i, y1, kd) && (match kd with
    | 10 => decide (es = [0]) && Nat.ble 1 (zFr y) && Nat.ble 20 (zLo y)
    | 11 => decide (es = [0, 0, 140, 0, 140]) && Nat.ble 1 (zFr y) && Nat.ble 27 (zLo y)
    | 12 => decide (es = [0, 0]) && Nat.ble 1 (zFr y) && Nat.ble 21 (zLo y)
    | 13 => decide (es = [0, 0]) && Nat.ble 1 (zFr y) && Nat.ble 21 (zLo y)
    | _ => zesb es && (znl y1 == !(es.elem 1)) && Nat.ble (zsz es) (zLM y1) && Nat.ble (zFr y1 + 1) (zFr y) && Nat.ble (8 + (zLM y1 + 11) + zLo y1) (zLo y) &&
      (match kd with
      | 0 => Nat.beq es.length (zNp y1 + 1) && decide (es.getLast? = some (100 + zow y1)) && Nat.blt (zow y1) 12
      | 1 => Nat.beq es.length (zNp y1 + 1) && decide (es.getLast? = some 2)
      | 3 => Nat.beq es.length (zNp y1 + 1) && decide (es.getLast? = some 2)
      | _ => Nat.beq es.length (zNp y1)))
  | _ => false
def zatb (a : ArrayType) : Nat := match a with
  | .int => 40
  | .boolean => 41
  | .byte => 42
  | .long => 43
  | _ => 0
def zacm : Nat → Nat
  | 44 => 3
  | 45 => 1
  | 46 => 10
  | _ => 99
def zsta (y pc : Nat) (E : Instr) (len : Nat) (ops : List Nat) : Bool := match E with
  | .iconst n => Nat.beq len 1 && zrg (-1) n 5
  | .bipush n => Nat.beq len 2 && zrg (-128) n 127
  | .sipush n => Nat.beq len 3 && zrg (-32768) n 32767
  | .ldc i => Nat.beq len 2 && (zCK (zow y)).elem (i, ops.getD 0 0, 0)
  | .ldc_w i => Nat.beq len 3 && (zCK (zow y)).elem (i, ops.getD 0 0, 0)
  | .ldc2_w i => Nat.beq len 3 && (zCK (zow y)).elem (i, ops.getD 0 0, 1)
  | .lconst _ => Nat.beq len 1
  | .aconst_null => Nat.beq len 1
  | .iload _ => Nat.beq len 2
  | .iload_n _ => Nat.beq len 1
  | .aload _ => Nat.beq len 2
  | .aload_n _ => Nat.beq len 1
  | .lload _ => Nat.beq len 2
  | .lload_n _ => Nat.beq len 1
  | .istore _ => Nat.beq len 2 && znl y
  | .istore_n _ => Nat.beq len 1 && znl y
  | .astore _ => Nat.beq len 2 && znl y
  | .astore_n _ => Nat.beq len 1 && znl y
  | .iinc _ n => Nat.beq len 3 && znl y && zrg (-128) n 127
  | .goto o => Nat.beq len 3 && decide (0 ≤ (pc : Int) + o)
  | .ifCond _ o => Nat.beq len 3 && decide (0 ≤ (pc : Int) + o)
  | .if_icmp _ o => Nat.beq len 3 && decide (0 ≤ (pc : Int) + o)
  | .if_acmp _ o => Nat.beq len 3 && decide (0 ≤ (pc : Int) + o)
  | .ifnull o => Nat.beq len 3 && decide (0 ≤ (pc : Int) + o)
  | .ifnonnull o => Nat.beq len 3 && decide (0 ≤ (pc : Int) + o)
  | .tableswitch d lo hi offs => decide (0 ≤ (pc : Int) + d) && offs.toList.all (fun o => decide (0 ≤ (pc : Int) + o)) && decide (hi = lo + (Int.ofNat offs.toList.length) - 1) && zrg (-1000) lo 1000 && Nat.blt offs.toList.length 1000
  | .lookupswitch d ps => decide (0 ≤ (pc : Int) + d) && ps.toList.all (fun q => decide (0 ≤ (pc : Int) + q.2) && zrg (-1000) q.1 1000) && (ps.toList.zip (ps.toList.drop 1)).all (fun q => decide (q.1.1 < q.2.1))
  | .getfield i => Nat.beq len 3 && (match ops with
    | [c, k, kind, off, t, ct] => (zFL (zow y)).elem (i, c, k) && zgf c k kind off t ct
    | _ => false)
  | .putfield i => Nat.beq len 3 && (match ops with
    | [c, k, kind, ct, sl] => (zFL (zow y)).elem (i, c, k) && zpf (zow y) c k kind ct sl (decide ((zNm y).name = "<init>"))
    | _ => false)
  | .iaload => Nat.beq len 1 && (decide (ops = [40]) || decide (ops = [47]))
  | .baload => Nat.beq len 1 && (decide (ops = [41]) || decide (ops = [42]))
  | .laload => Nat.beq len 1
  | .aaload => Nat.beq len 1 && (match ops with
    | [tag, te] => Nat.blt (zacm tag) 12 && zpermb te
    | _ => false)
  | .iastore => Nat.beq len 1 && decide (ops = [40])
  | .bastore => Nat.beq len 1 && (decide (ops = [41]) || decide (ops = [42]))
  | .lastore => Nat.beq len 1 && decide (ops = [43])
  | .aastore => Nat.beq len 1 && (match ops with
    | [tag, te] => Nat.blt (zacm tag) 12 && Nat.beq te (100 + zacm tag)
    | _ => false)
  | .arraylength => Nat.beq len 1 && decide (ops = [47])
  | .new i => Nat.beq len 3 && (bif Nat.blt (ops.getD 0 0) 12 then (zCL (zow y)).elem (i, ops.getD 0 0) && Nat.beq (ops.getD 1 0) (zcr (ops.getD 0 0)).2.2 else true)
  | .newarray a => Nat.beq len 2 && Nat.beq (ops.getD 0 0) (zatb a) && Nat.blt 0 (zatb a)
  | .anewarray i => Nat.beq len 3 && (zCL (zow y)).elem (i, zacm (ops.getD 0 0)) && Nat.blt (zacm (ops.getD 0 0)) 12
  | .invokevirtual i => Nat.beq len 3 && zinb y i 0 ops
  | .invokespecial i => Nat.beq len 3 && (zinb y i 1 ops || zinb y i 3 ops || zinb y i 10 ops || Nat.beq (ops.getD 0 0) 9990)
  | .invokestatic i => Nat.beq len 3 && (zinb y i 2 ops || zinb y i 4 ops || zinb y i 11 ops || zinb y i 12 ops || zinb y i 13 ops)
  | .return_ => Nat.beq len 1 && decide (zRt y = none)
  | .ireturn => Nat.beq len 1 && ((decide (ops = [0]) && decide (zRt y = some .int)) || (decide (ops = [1]) && decide (zRt y = some .boolean)))
  | .areturn => Nat.beq len 1 && (match zRt y with
    | some t => zrefb t && zpermb (ops.getD 0 0)
    | none => false)
  | .athrow => true
  | _ => Nat.beq len 1
def zchk (y : Nat) (e : zE) : Bool := decide (decode (zB y) e.1 = .ok (e.2.2.1, e.2.1)) && zsta y e.1 e.2.2.1 e.2.1 e.2.2.2
