/-! A frame of the small machine in one of the machine's own. -/
def zun : zV → Bool
  | .inr (.inr (.inr _)) => true
  | _ => false
def zlong : zV → Bool
  | .inr (.inr (.inl _)) => true
  | _ => false
theorem zrv_cat {b base : Nat} {v : zV} (h : zlong v = false) : (zrv b base v).category = 1 := by
  rcases v with x | q | x | u
  · rfl
  · show (va_rf (zro b base q.1)).category = 1
    cases zro b base q.1 <;> rfl
  · cases h
  · rfl
def zal (b base : Nat) (ls : List zV) : List (Nat × Value) := (List.range ls.length).filterMap (fun i => (ls[i]?).bind (fun v => bif zun v then none else some (i, zrv b base v)))
theorem zal_mem {b base : Nat} {ls : List zV} {q : Nat × Value} : q ∈ zal b base ls ↔ ∃ v, ls[q.1]? = some v ∧ zun v = false ∧ q.2 = zrv b base v := by
  unfold zal
  rw [List.mem_filterMap]
  constructor
  · rintro ⟨i, -, hi⟩
    cases hv : ls[i]? with
    | none => rw [hv] at hi; cases hi
    | some v =>
      rw [hv] at hi
      simp only [Option.bind_some] at hi
      cases hu : zun v with
      | true => rw [hu] at hi; cases hi
      | false =>
        rw [hu] at hi
        cases hi
        exact ⟨v, hv, hu, rfl⟩
  · rintro ⟨v, hv, hu, e⟩
    refine ⟨q.1, List.mem_range.mpr (List.getElem?_eq_some_iff.mp hv).1, ?_⟩
    rw [hv]
    simp only [Option.bind_some, hu, cond_false, ← e]
def zlr (b base : Nat) (lsr : Array Slot) (nL : Nat) (ls : List zV) : Prop := lv_has lsr nL (zal b base ls)
theorem zlr.at {b base : Nat} {lsr : Array Slot} {nL : Nat} {ls : List zV} (h : zlr b base lsr nL ls) {i : Nat} {v : zV} (hi : ls[i]? = some v) (hu : zun v = false) : lsr[i]? = some (.val (zrv b base v)) := h.2.2 (i, zrv b base v) (zal_mem.mpr ⟨v, hi, hu, rfl⟩)
theorem zlr.store {b base : Nat} {lsr1 : Array Slot} {nL i : Nat} {ls : List zV} {v : zV} (hv : zlong v = false) (hn : ∀ w ∈ ls, zlong w = false) (hi : i < ls.length)
    (h1 : lv_has lsr1 nL ((i, zrv b base v) :: (zal b base ls).filter (fun q => !(q.1 == i) && !(q.1 + 1 == i && q.2.category == 2)))) : zlr b base lsr1 nL (ls.set i v) := by
  refine ⟨h1.1, h1.2.1, fun q hq => h1.2.2 q ?_⟩
  obtain ⟨w, hw, hu, e⟩ := zal_mem.mp hq
  by_cases hqi : q.1 = i
  · rw [hqi, List.getElem?_set_self hi] at hw
    cases hw
    refine List.mem_cons.mpr (Or.inl ?_)
    rw [← hqi, ← e]
  · rw [List.getElem?_set_ne (fun z => hqi z.symm)] at hw
    refine List.mem_cons.mpr (Or.inr (List.mem_filter.mpr ⟨zal_mem.mpr ⟨w, hw, hu, e⟩, ?_⟩))
    have hc : q.2.category = 1 := by rw [e]; exact zrv_cat (hn w (List.mem_of_getElem? hw))
    simp [hqi, hc]
/-- the frame: the heap, what was written, locals, operands -/
def zfrm (b base : Nat) (D : va_G) (s : State) (y : Nat) (ls st : List zV) (h : zH) (H : Heap) (locs : List Loc) (lsr : Array Slot) : Prop :=
  zRel b base D s h H ∧ (∀ q ∈ locs, base ≤ q.base) ∧ ls.length = zLM y ∧ zlr b base lsr (zLM y) ls ∧ (∀ v ∈ ls, zok h v) ∧ (∀ v ∈ st, zok h v ∧ zun v = false) ∧ (znl y = true → ∀ v ∈ ls, zlong v = false)
/-- what a method's frame rests on -/
def zNx (s : State) : Prop := (∀ w ∈ zNst, va_Nw w s) ∧ va_AO "SyntaxRules$Rule" s ∧ va_AO "SyntaxRules$Text" s ∧ va_AO "SyntaxRules$Kept" s
def zctx (y : Nat) (p : Program) (R : Room) (s : State) (m : MethodId) (args : Array Value) (meth : Method) (c : Code) : Prop :=
  p.tables.exec = Jvm.exec ∧ c.code = zB y ∧ meth.sig.returnType = zRt y ∧ c.maxLocals = zLM y ∧ s.vm.findClass (zOwS (zow y)) = some m.cls ∧ (∀ w ∈ zwd, w.before args s = true) ∧ meth.locks = false ∧ zNx s ∧ ((zNm y).name = "<init>" → meth.name = "<init>") ∧ zFr y ≤ R.frames ∧ zLo y ≤ R.locals
section ZJ
variable {p : Program} {l : Launch} {e : Env} {R : Room} {s : State} {m : MethodId} {args : Array Value} {below : List Frame} {meth : Method} {c : Code} {H : Heap} {locs : List Loc} {cells slots : Nat} {Q : State → Prop}
variable {b base : Nat} {D : va_G} {y pc : Nat} {ls st st1 ls1 r : List zV} {h h1 : zH} {lsr lsr1 : Array Slot} {v v1 v2 v3 v4 : zV}
theorem zk0 {pc1 : Nat} (K : ∀ H1 locs1 lsr1, zfrm b base D s y ls1 st1 h H1 locs1 lsr1 → W p l e R s m args below meth c H1 locs1 (cells + (nx h - nx h)) (slots + (sc h - sc h)) Q (F0 m pc1 lsr1 (st1.map (zrv b base)))) (F : zfrm b base D s y ls1 st1 h H locs lsr1) : W p l e R s m args below meth c H locs cells slots Q (F0 m pc1 lsr1 (st1.map (zrv b base))) := by
  have k := K H locs lsr1 F
  rw [Nat.sub_self, Nat.sub_self] at k
  exact k
theorem zfrm.stk (F : zfrm b base D s y ls st h H locs lsr) (g : ∀ v ∈ st1, zok h v ∧ zun v = false) : zfrm b base D s y ls st1 h H locs lsr := ⟨F.1, F.2.1, F.2.2.1, F.2.2.2.1, F.2.2.2.2.1, g, F.2.2.2.2.2.2⟩
theorem zfrm.push (F : zfrm b base D s y ls st h H locs lsr) (hv : zok h v ∧ zun v = false) : zfrm b base D s y ls (v :: st) h H locs lsr := F.stk (List.forall_mem_cons.mpr ⟨hv, F.2.2.2.2.2.1⟩)
theorem zfrm.pop (F : zfrm b base D s y ls (v :: r) h H locs lsr) : zfrm b base D s y ls r h H locs lsr := F.stk (List.forall_mem_cons.mp F.2.2.2.2.2.1).2
theorem zfrm.top (F : zfrm b base D s y ls (v :: r) h H locs lsr) : zok h v ∧ zun v = false := (List.forall_mem_cons.mp F.2.2.2.2.2.1).1
theorem zfrm.lok (F : zfrm b base D s y ls st h H locs lsr) {i : Nat} (hi : ls.getD i vU = v) (hu : zun v = false) : ls[i]? = some v ∧ zok h v := by
  rw [List.getD_eq_getElem?_getD] at hi
  cases hx : ls[i]? with
  | none => rw [hx] at hi; subst hi; cases hu
  | some w =>
    rw [hx] at hi
    have hi : w = v := hi
    subst hi
    exact ⟨rfl, F.2.2.2.2.1 w (List.mem_of_getElem? hx)⟩
theorem zfrm.ld (F : zfrm b base D s y ls st h H locs lsr) {i : Nat} (hi : ls.getD i vU = v) (hu : zun v = false) : lsr[i]? = some (.val (zrv b base v)) := F.2.2.2.1.at (F.lok hi hu).1 hu
theorem zmem_set {α : Type} {l : List α} {i : Nat} {x w : α} (hw : w ∈ l.set i x) : w = x ∨ w ∈ l := by
  rcases List.mem_or_eq_of_mem_set hw with h | h
  · exact Or.inr h
  · exact Or.inl h
theorem zfrm.sto (F : zfrm b base D s y ls st h H locs lsr) {i : Nat} (hn : znl y = true) (hi : i < ls.length) (hv : zok h v) (hv2 : zlong v = false) (hs : ∀ v ∈ st1, zok h v ∧ zun v = false)
    (h1 : lv_has lsr1 (zLM y) ((i, zrv b base v) :: (zal b base ls).filter (fun q => !(q.1 == i) && !(q.1 + 1 == i && q.2.category == 2)))) : zfrm b base D s y (ls.set i v) st1 h H locs lsr1 :=
  ⟨F.1, F.2.1, by rw [List.length_set]; exact F.2.2.1, zlr.store hv2 (F.2.2.2.2.2.2 hn) hi h1, fun w hw => (zmem_set hw).elim (fun e => e ▸ hv) (F.2.2.2.2.1 w), hs, fun _ w hw => (zmem_set hw).elim (fun e => e ▸ hv2) (F.2.2.2.2.2.2 hn w)⟩
theorem zro_some {b base a : Nat} (h : a ≠ 0) : zro b base a = some (zra b base a) := if_neg h
theorem zro_inj {b base a a2 : Nat} (hb : b < base) : zro b base a = zro b base a2 ↔ a = a2 := by
  constructor
  · intro q
    unfold zro zra at q
    split at q <;> split at q <;> (try split at q) <;> (try split at q) <;> simp at q <;> omega
  · intro q; rw [q]
theorem z_b8 {n : Int} (h1 : -128 ≤ n) (h2 : n ≤ 127) : (Int8.ofInt n).toInt32 = Int32.ofInt n := by
  apply Int32.toInt_inj.mp
  rw [z32 (by unfold inR; omega), Int8.toInt_toInt32, Int8.toInt_ofInt_of_le (by omega) (by omega)]
theorem z_s16 {n : Int} (h1 : -32768 ≤ n) (h2 : n ≤ 32767) : (Int16.ofInt n).toInt32 = Int32.ofInt n := by
  apply Int32.toInt_inj.mp
  rw [z32 (by unfold inR; omega), Int16.toInt_toInt32, Int16.toInt_ofInt_of_le (by omega) (by omega)]
theorem zCK_b {o : Nat} {q : Nat × Nat × Nat} (h : q ∈ zCK o) : q.2.1 ≤ 2147483647 := by
  have ho : o < 14 := by
    rcases Nat.lt_or_ge o 14 with z | z
    · exact z
    · obtain ⟨k, rfl⟩ : ∃ k, o = k + 14 := ⟨o - 14, by omega⟩
      exact absurd h List.not_mem_nil
  have h1 := List.all_eq_true.mp (List.all_eq_true.mp zCKb_ok o (List.mem_range.mpr ho)) q h
  exact Nat.le_of_ble_eq_true h1
set_option maxHeartbeats 1000000 in
theorem zJ_iadd (C : zctx y p R s m args meth c) (F : zfrm b base D s y ls st h H locs lsr) {len : Nat} {ops : List Nat} (hd : decode (zB y) pc = .ok (.iadd, len)) (hs : zsta y pc (.iadd) len ops = true) {wf : Bool} {brs : List (Prop × Nat)} {d : Nat} (h2 : (zstp (.iadd) ops pc len ls st h).2 = some (.inl (wf, brs, d, ls1, st1, h1))) (hg : zg (zstp (.iadd) ops pc len ls st h).1 True)
    (hroom : cells + (nx h1 - nx h) ≤ R.cells ∧ slots + (sc h1 - sc h) ≤ R.slots) (hcs : cells ≤ R.cells ∧ slots ≤ R.slots)
    (K : ∀ H1 locs1 lsr1, zfrm b base D s y ls1 st1 h1 H1 locs1 lsr1 → W p l e R s m args below meth c H1 locs1 (cells + (nx h1 - nx h)) (slots + (sc h1 - sc h)) Q (F0 m (zch brs d) lsr1 (st1.map (zrv b base)))) : W p l e R s m args below meth c H locs cells slots Q (F0 m pc lsr (st.map (zrv b base))) := by
  obtain rfl : len = 1 := by simpa [zsta] using hs
  dsimp only [zstp] at h2 hg
  split at h2
  · rename_i y1 x1 r1
    cases h2
    dsimp only [zg] at hg
    have t1 := F.top.1
    have t2 := F.pop.top.1
    show W p l e R s m args below meth c H locs cells slots Q (F0 m pc lsr (.int (Int32.ofInt y1) :: .int (Int32.ofInt x1) :: r1.map (zrv b base)))
    refine lv_iadd C.1 C.2.1 hd ?_
    have k := zk0 K (F.pop.pop.push (v := .inl (x1 + y1)) ⟨hg.1, rfl⟩)
    have eq : Int32.ofInt x1 + Int32.ofInt y1 = Int32.ofInt (x1 + y1) := (Int32.ofInt_add _ _).symm
    rw [eq]
    exact k
  · cases h2
set_option maxHeartbeats 1000000 in
theorem zJ_isub (C : zctx y p R s m args meth c) (F : zfrm b base D s y ls st h H locs lsr) {len : Nat} {ops : List Nat} (hd : decode (zB y) pc = .ok (.isub, len)) (hs : zsta y pc (.isub) len ops = true) {wf : Bool} {brs : List (Prop × Nat)} {d : Nat} (h2 : (zstp (.isub) ops pc len ls st h).2 = some (.inl (wf, brs, d, ls1, st1, h1))) (hg : zg (zstp (.isub) ops pc len ls st h).1 True)
    (hroom : cells + (nx h1 - nx h) ≤ R.cells ∧ slots + (sc h1 - sc h) ≤ R.slots) (hcs : cells ≤ R.cells ∧ slots ≤ R.slots)
    (K : ∀ H1 locs1 lsr1, zfrm b base D s y ls1 st1 h1 H1 locs1 lsr1 → W p l e R s m args below meth c H1 locs1 (cells + (nx h1 - nx h)) (slots + (sc h1 - sc h)) Q (F0 m (zch brs d) lsr1 (st1.map (zrv b base)))) : W p l e R s m args below meth c H locs cells slots Q (F0 m pc lsr (st.map (zrv b base))) := by
  obtain rfl : len = 1 := by simpa [zsta] using hs
  dsimp only [zstp] at h2 hg
  split at h2
  · rename_i y1 x1 r1
    cases h2
    dsimp only [zg] at hg
    have t1 := F.top.1
    have t2 := F.pop.top.1
    show W p l e R s m args below meth c H locs cells slots Q (F0 m pc lsr (.int (Int32.ofInt y1) :: .int (Int32.ofInt x1) :: r1.map (zrv b base)))
    refine lv_isub C.1 C.2.1 hd ?_
    have k := zk0 K (F.pop.pop.push (v := .inl (x1 - y1)) ⟨hg.1, rfl⟩)
    have eq : Int32.ofInt x1 - Int32.ofInt y1 = Int32.ofInt (x1 - y1) := (Int32.ofInt_sub _ _).symm
    rw [eq]
    exact k
  · cases h2
set_option maxHeartbeats 1000000 in
theorem zJ_imul (C : zctx y p R s m args meth c) (F : zfrm b base D s y ls st h H locs lsr) {len : Nat} {ops : List Nat} (hd : decode (zB y) pc = .ok (.imul, len)) (hs : zsta y pc (.imul) len ops = true) {wf : Bool} {brs : List (Prop × Nat)} {d : Nat} (h2 : (zstp (.imul) ops pc len ls st h).2 = some (.inl (wf, brs, d, ls1, st1, h1))) (hg : zg (zstp (.imul) ops pc len ls st h).1 True)
    (hroom : cells + (nx h1 - nx h) ≤ R.cells ∧ slots + (sc h1 - sc h) ≤ R.slots) (hcs : cells ≤ R.cells ∧ slots ≤ R.slots)
    (K : ∀ H1 locs1 lsr1, zfrm b base D s y ls1 st1 h1 H1 locs1 lsr1 → W p l e R s m args below meth c H1 locs1 (cells + (nx h1 - nx h)) (slots + (sc h1 - sc h)) Q (F0 m (zch brs d) lsr1 (st1.map (zrv b base)))) : W p l e R s m args below meth c H locs cells slots Q (F0 m pc lsr (st.map (zrv b base))) := by
  obtain rfl : len = 1 := by simpa [zsta] using hs
  dsimp only [zstp] at h2 hg
  split at h2
  · rename_i y1 x1 r1
    cases h2
    dsimp only [zg] at hg
    have t1 := F.top.1
    have t2 := F.pop.top.1
    show W p l e R s m args below meth c H locs cells slots Q (F0 m pc lsr (.int (Int32.ofInt y1) :: .int (Int32.ofInt x1) :: r1.map (zrv b base)))
    refine lv_imul C.1 C.2.1 hd ?_
    have k := zk0 K (F.pop.pop.push (v := .inl (x1 * y1)) ⟨hg.1, rfl⟩)
    have eq : Int32.ofInt x1 * Int32.ofInt y1 = Int32.ofInt (x1 * y1) := (Int32.ofInt_mul _ _).symm
    rw [eq]
    exact k
  · cases h2
set_option maxHeartbeats 1000000 in
theorem zJ_iand (C : zctx y p R s m args meth c) (F : zfrm b base D s y ls st h H locs lsr) {len : Nat} {ops : List Nat} (hd : decode (zB y) pc = .ok (.iand, len)) (hs : zsta y pc (.iand) len ops = true) {wf : Bool} {brs : List (Prop × Nat)} {d : Nat} (h2 : (zstp (.iand) ops pc len ls st h).2 = some (.inl (wf, brs, d, ls1, st1, h1))) (hg : zg (zstp (.iand) ops pc len ls st h).1 True)
    (hroom : cells + (nx h1 - nx h) ≤ R.cells ∧ slots + (sc h1 - sc h) ≤ R.slots) (hcs : cells ≤ R.cells ∧ slots ≤ R.slots)
    (K : ∀ H1 locs1 lsr1, zfrm b base D s y ls1 st1 h1 H1 locs1 lsr1 → W p l e R s m args below meth c H1 locs1 (cells + (nx h1 - nx h)) (slots + (sc h1 - sc h)) Q (F0 m (zch brs d) lsr1 (st1.map (zrv b base)))) : W p l e R s m args below meth c H locs cells slots Q (F0 m pc lsr (st.map (zrv b base))) := by
  obtain rfl : len = 1 := by simpa [zsta] using hs
  dsimp only [zstp] at h2 hg
  split at h2
  · rename_i y1 x1 r1
    cases h2
    dsimp only [zg] at hg
    have t1 := F.top.1
    have t2 := F.pop.top.1
    show W p l e R s m args below meth c H locs cells slots Q (F0 m pc lsr (.int (Int32.ofInt y1) :: .int (Int32.ofInt x1) :: r1.map (zrv b base)))
    refine lv_iand C.1 C.2.1 hd ?_
    have k := zk0 K (F.pop.pop.push (v := .inl (iAnd x1 y1)) ⟨z_in _, rfl⟩)
    have eq : (Int32.ofInt x1 &&& Int32.ofInt y1) = Int32.ofInt (iAnd x1 y1) := (Int32.ofInt_toInt _).symm
    rw [eq]
    exact k
  · cases h2
set_option maxHeartbeats 1000000 in
theorem zJ_ior (C : zctx y p R s m args meth c) (F : zfrm b base D s y ls st h H locs lsr) {len : Nat} {ops : List Nat} (hd : decode (zB y) pc = .ok (.ior, len)) (hs : zsta y pc (.ior) len ops = true) {wf : Bool} {brs : List (Prop × Nat)} {d : Nat} (h2 : (zstp (.ior) ops pc len ls st h).2 = some (.inl (wf, brs, d, ls1, st1, h1))) (hg : zg (zstp (.ior) ops pc len ls st h).1 True)
    (hroom : cells + (nx h1 - nx h) ≤ R.cells ∧ slots + (sc h1 - sc h) ≤ R.slots) (hcs : cells ≤ R.cells ∧ slots ≤ R.slots)
    (K : ∀ H1 locs1 lsr1, zfrm b base D s y ls1 st1 h1 H1 locs1 lsr1 → W p l e R s m args below meth c H1 locs1 (cells + (nx h1 - nx h)) (slots + (sc h1 - sc h)) Q (F0 m (zch brs d) lsr1 (st1.map (zrv b base)))) : W p l e R s m args below meth c H locs cells slots Q (F0 m pc lsr (st.map (zrv b base))) := by
  obtain rfl : len = 1 := by simpa [zsta] using hs
  dsimp only [zstp] at h2 hg
  split at h2
  · rename_i y1 x1 r1
    cases h2
    dsimp only [zg] at hg
    have t1 := F.top.1
    have t2 := F.pop.top.1
    show W p l e R s m args below meth c H locs cells slots Q (F0 m pc lsr (.int (Int32.ofInt y1) :: .int (Int32.ofInt x1) :: r1.map (zrv b base)))
    refine lv_ior C.1 C.2.1 hd ?_
    have k := zk0 K (F.pop.pop.push (v := .inl (iOr x1 y1)) ⟨z_in _, rfl⟩)
    have eq : (Int32.ofInt x1 ||| Int32.ofInt y1) = Int32.ofInt (iOr x1 y1) := (Int32.ofInt_toInt _).symm
    rw [eq]
    exact k
  · cases h2
set_option maxHeartbeats 1000000 in
theorem zJ_ixor (C : zctx y p R s m args meth c) (F : zfrm b base D s y ls st h H locs lsr) {len : Nat} {ops : List Nat} (hd : decode (zB y) pc = .ok (.ixor, len)) (hs : zsta y pc (.ixor) len ops = true) {wf : Bool} {brs : List (Prop × Nat)} {d : Nat} (h2 : (zstp (.ixor) ops pc len ls st h).2 = some (.inl (wf, brs, d, ls1, st1, h1))) (hg : zg (zstp (.ixor) ops pc len ls st h).1 True)
    (hroom : cells + (nx h1 - nx h) ≤ R.cells ∧ slots + (sc h1 - sc h) ≤ R.slots) (hcs : cells ≤ R.cells ∧ slots ≤ R.slots)
    (K : ∀ H1 locs1 lsr1, zfrm b base D s y ls1 st1 h1 H1 locs1 lsr1 → W p l e R s m args below meth c H1 locs1 (cells + (nx h1 - nx h)) (slots + (sc h1 - sc h)) Q (F0 m (zch brs d) lsr1 (st1.map (zrv b base)))) : W p l e R s m args below meth c H locs cells slots Q (F0 m pc lsr (st.map (zrv b base))) := by
  obtain rfl : len = 1 := by simpa [zsta] using hs
  dsimp only [zstp] at h2 hg
  split at h2
  · rename_i y1 x1 r1
    cases h2
    dsimp only [zg] at hg
    have t1 := F.top.1
    have t2 := F.pop.top.1
    show W p l e R s m args below meth c H locs cells slots Q (F0 m pc lsr (.int (Int32.ofInt y1) :: .int (Int32.ofInt x1) :: r1.map (zrv b base)))
    refine lv_ixor C.1 C.2.1 hd ?_
    have k := zk0 K (F.pop.pop.push (v := .inl (iXor x1 y1)) ⟨z_in _, rfl⟩)
    have eq : (Int32.ofInt x1 ^^^ Int32.ofInt y1) = Int32.ofInt (iXor x1 y1) := (Int32.ofInt_toInt _).symm
    rw [eq]
    exact k
  · cases h2
set_option maxHeartbeats 1000000 in
theorem zJ_ishl (C : zctx y p R s m args meth c) (F : zfrm b base D s y ls st h H locs lsr) {len : Nat} {ops : List Nat} (hd : decode (zB y) pc = .ok (.ishl, len)) (hs : zsta y pc (.ishl) len ops = true) {wf : Bool} {brs : List (Prop × Nat)} {d : Nat} (h2 : (zstp (.ishl) ops pc len ls st h).2 = some (.inl (wf, brs, d, ls1, st1, h1))) (hg : zg (zstp (.ishl) ops pc len ls st h).1 True)
    (hroom : cells + (nx h1 - nx h) ≤ R.cells ∧ slots + (sc h1 - sc h) ≤ R.slots) (hcs : cells ≤ R.cells ∧ slots ≤ R.slots)
    (K : ∀ H1 locs1 lsr1, zfrm b base D s y ls1 st1 h1 H1 locs1 lsr1 → W p l e R s m args below meth c H1 locs1 (cells + (nx h1 - nx h)) (slots + (sc h1 - sc h)) Q (F0 m (zch brs d) lsr1 (st1.map (zrv b base)))) : W p l e R s m args below meth c H locs cells slots Q (F0 m pc lsr (st.map (zrv b base))) := by
  obtain rfl : len = 1 := by simpa [zsta] using hs
  dsimp only [zstp] at h2 hg
  split at h2
  · rename_i y1 x1 r1
    cases h2
    dsimp only [zg] at hg
    have t1 := F.top.1
    have t2 := F.pop.top.1
    show W p l e R s m args below meth c H locs cells slots Q (F0 m pc lsr (.int (Int32.ofInt y1) :: .int (Int32.ofInt x1) :: r1.map (zrv b base)))
    refine lv_ishl C.1 C.2.1 hd ?_
    have k := zk0 K (F.pop.pop.push (v := .inl (iShl x1 y1)) ⟨z_in _, rfl⟩)
    have eq : (Int32.ofInt x1 <<< (Int32.ofInt y1 &&& 31)) = Int32.ofInt (iShl x1 y1) := (Int32.ofInt_toInt _).symm
    rw [eq]
    exact k
  · cases h2
set_option maxHeartbeats 1000000 in
theorem zJ_idiv (C : zctx y p R s m args meth c) (F : zfrm b base D s y ls st h H locs lsr) {len : Nat} {ops : List Nat} (hd : decode (zB y) pc = .ok (.idiv, len)) (hs : zsta y pc (.idiv) len ops = true) {wf : Bool} {brs : List (Prop × Nat)} {d : Nat} (h2 : (zstp (.idiv) ops pc len ls st h).2 = some (.inl (wf, brs, d, ls1, st1, h1))) (hg : zg (zstp (.idiv) ops pc len ls st h).1 True)
    (hroom : cells + (nx h1 - nx h) ≤ R.cells ∧ slots + (sc h1 - sc h) ≤ R.slots) (hcs : cells ≤ R.cells ∧ slots ≤ R.slots)
    (K : ∀ H1 locs1 lsr1, zfrm b base D s y ls1 st1 h1 H1 locs1 lsr1 → W p l e R s m args below meth c H1 locs1 (cells + (nx h1 - nx h)) (slots + (sc h1 - sc h)) Q (F0 m (zch brs d) lsr1 (st1.map (zrv b base)))) : W p l e R s m args below meth c H locs cells slots Q (F0 m pc lsr (st.map (zrv b base))) := by
  obtain rfl : len = 1 := by simpa [zsta] using hs
  dsimp only [zstp] at h2 hg
  split at h2
  · rename_i y1 x1 r1
    cases h2
    dsimp only [zg] at hg
    have t1 := F.top.1
    have t2 := F.pop.top.1
    show W p l e R s m args below meth c H locs cells slots Q (F0 m pc lsr (.int (Int32.ofInt y1) :: .int (Int32.ofInt x1) :: r1.map (zrv b base)))
    have hne : ¬ Int32.ofInt y1 = 0 := fun q => hg.1 ((zeq_iff t1 z_0).mp (q.trans z_of0.symm))
    refine lv_idiv C.1 C.2.1 hd hne ?_
    have k := zk0 K (F.pop.pop.push (v := .inl (iDiv x1 y1)) ⟨z_in _, rfl⟩)
    have eq : (Int32.ofInt x1 / Int32.ofInt y1) = Int32.ofInt (iDiv x1 y1) := (Int32.ofInt_toInt _).symm
    rw [eq]
    exact k
  · cases h2
set_option maxHeartbeats 1000000 in
theorem zJ_irem (C : zctx y p R s m args meth c) (F : zfrm b base D s y ls st h H locs lsr) {len : Nat} {ops : List Nat} (hd : decode (zB y) pc = .ok (.irem, len)) (hs : zsta y pc (.irem) len ops = true) {wf : Bool} {brs : List (Prop × Nat)} {d : Nat} (h2 : (zstp (.irem) ops pc len ls st h).2 = some (.inl (wf, brs, d, ls1, st1, h1))) (hg : zg (zstp (.irem) ops pc len ls st h).1 True)
    (hroom : cells + (nx h1 - nx h) ≤ R.cells ∧ slots + (sc h1 - sc h) ≤ R.slots) (hcs : cells ≤ R.cells ∧ slots ≤ R.slots)
    (K : ∀ H1 locs1 lsr1, zfrm b base D s y ls1 st1 h1 H1 locs1 lsr1 → W p l e R s m args below meth c H1 locs1 (cells + (nx h1 - nx h)) (slots + (sc h1 - sc h)) Q (F0 m (zch brs d) lsr1 (st1.map (zrv b base)))) : W p l e R s m args below meth c H locs cells slots Q (F0 m pc lsr (st.map (zrv b base))) := by
  obtain rfl : len = 1 := by simpa [zsta] using hs
  dsimp only [zstp] at h2 hg
  split at h2
  · rename_i y1 x1 r1
    cases h2
    dsimp only [zg] at hg
    have t1 := F.top.1
    have t2 := F.pop.top.1
    show W p l e R s m args below meth c H locs cells slots Q (F0 m pc lsr (.int (Int32.ofInt y1) :: .int (Int32.ofInt x1) :: r1.map (zrv b base)))
    have hne : ¬ Int32.ofInt y1 = 0 := fun q => hg.1 ((zeq_iff t1 z_0).mp (q.trans z_of0.symm))
    refine lv_irem C.1 C.2.1 hd hne ?_
    have k := zk0 K (F.pop.pop.push (v := .inl (iRem x1 y1)) ⟨z_in _, rfl⟩)
    have eq : (Int32.ofInt x1 - Int32.ofInt x1 / Int32.ofInt y1 * Int32.ofInt y1) = Int32.ofInt (iRem x1 y1) := (Int32.ofInt_toInt _).symm
    rw [eq]
    exact k
  · cases h2
set_option maxHeartbeats 1000000 in
theorem zJ_iushr (C : zctx y p R s m args meth c) (F : zfrm b base D s y ls st h H locs lsr) {len : Nat} {ops : List Nat} (hd : decode (zB y) pc = .ok (.iushr, len)) (hs : zsta y pc (.iushr) len ops = true) {wf : Bool} {brs : List (Prop × Nat)} {d : Nat} (h2 : (zstp (.iushr) ops pc len ls st h).2 = some (.inl (wf, brs, d, ls1, st1, h1))) (hg : zg (zstp (.iushr) ops pc len ls st h).1 True)
    (hroom : cells + (nx h1 - nx h) ≤ R.cells ∧ slots + (sc h1 - sc h) ≤ R.slots) (hcs : cells ≤ R.cells ∧ slots ≤ R.slots)
    (K : ∀ H1 locs1 lsr1, zfrm b base D s y ls1 st1 h1 H1 locs1 lsr1 → W p l e R s m args below meth c H1 locs1 (cells + (nx h1 - nx h)) (slots + (sc h1 - sc h)) Q (F0 m (zch brs d) lsr1 (st1.map (zrv b base)))) : W p l e R s m args below meth c H locs cells slots Q (F0 m pc lsr (st.map (zrv b base))) := by
  obtain rfl : len = 1 := by simpa [zsta] using hs
  dsimp only [zstp] at h2 hg
  split at h2
  · rename_i y1 x1 r1
    cases h2
    show W p l e R s m args below meth c H locs cells slots Q (F0 m pc lsr (.int (Int32.ofInt y1) :: .int (Int32.ofInt x1) :: r1.map (zrv b base)))
    exact lv_iushr (v := Int32.ofInt (iUshr x1 y1)) C.1 C.2.1 hd (Int32.ofInt_toInt _).symm (zk0 K (F.pop.pop.push (v := .inl (iUshr x1 y1)) ⟨z_in _, rfl⟩))
  · cases h2
set_option maxHeartbeats 1000000 in
theorem zJ_i2b (C : zctx y p R s m args meth c) (F : zfrm b base D s y ls st h H locs lsr) {len : Nat} {ops : List Nat} (hd : decode (zB y) pc = .ok (.i2b, len)) (hs : zsta y pc (.i2b) len ops = true) {wf : Bool} {brs : List (Prop × Nat)} {d : Nat} (h2 : (zstp (.i2b) ops pc len ls st h).2 = some (.inl (wf, brs, d, ls1, st1, h1))) (hg : zg (zstp (.i2b) ops pc len ls st h).1 True)
    (hroom : cells + (nx h1 - nx h) ≤ R.cells ∧ slots + (sc h1 - sc h) ≤ R.slots) (hcs : cells ≤ R.cells ∧ slots ≤ R.slots)
    (K : ∀ H1 locs1 lsr1, zfrm b base D s y ls1 st1 h1 H1 locs1 lsr1 → W p l e R s m args below meth c H1 locs1 (cells + (nx h1 - nx h)) (slots + (sc h1 - sc h)) Q (F0 m (zch brs d) lsr1 (st1.map (zrv b base)))) : W p l e R s m args below meth c H locs cells slots Q (F0 m pc lsr (st.map (zrv b base))) := by
  obtain rfl : len = 1 := by simpa [zsta] using hs
  dsimp only [zstp] at h2 hg
  split at h2
  · rename_i x1 r1
    cases h2
    show W p l e R s m args below meth c H locs cells slots Q (F0 m pc lsr (.int (Int32.ofInt x1) :: r1.map (zrv b base)))
    exact lv_i2b (v := Int32.ofInt (iByte x1)) C.1 C.2.1 hd (Int32.ofInt_toInt _).symm (zk0 K (F.pop.push (v := .inl (iByte x1)) ⟨z_in _, rfl⟩))
  · cases h2
set_option maxHeartbeats 1000000 in
theorem zJ_i2l (C : zctx y p R s m args meth c) (F : zfrm b base D s y ls st h H locs lsr) {len : Nat} {ops : List Nat} (hd : decode (zB y) pc = .ok (.i2l, len)) (hs : zsta y pc (.i2l) len ops = true) {wf : Bool} {brs : List (Prop × Nat)} {d : Nat} (h2 : (zstp (.i2l) ops pc len ls st h).2 = some (.inl (wf, brs, d, ls1, st1, h1))) (hg : zg (zstp (.i2l) ops pc len ls st h).1 True)
    (hroom : cells + (nx h1 - nx h) ≤ R.cells ∧ slots + (sc h1 - sc h) ≤ R.slots) (hcs : cells ≤ R.cells ∧ slots ≤ R.slots)
    (K : ∀ H1 locs1 lsr1, zfrm b base D s y ls1 st1 h1 H1 locs1 lsr1 → W p l e R s m args below meth c H1 locs1 (cells + (nx h1 - nx h)) (slots + (sc h1 - sc h)) Q (F0 m (zch brs d) lsr1 (st1.map (zrv b base)))) : W p l e R s m args below meth c H locs cells slots Q (F0 m pc lsr (st.map (zrv b base))) := by
  obtain rfl : len = 1 := by simpa [zsta] using hs
  dsimp only [zstp] at h2 hg
  split at h2
  · rename_i x1 r1
    cases h2
    have t1 : inR x1 := F.top.1
    show W p l e R s m args below meth c H locs cells slots Q (F0 m pc lsr (.int (Int32.ofInt x1) :: r1.map (zrv b base)))
    exact lv_i2l (v := Int64.ofInt x1) C.1 C.2.1 hd (z_i2l t1) (zk0 K (F.pop.push (v := .inr (.inr (.inl x1))) ⟨zRL t1, rfl⟩))
  · cases h2
set_option maxHeartbeats 1000000 in
theorem zJ_lsub (C : zctx y p R s m args meth c) (F : zfrm b base D s y ls st h H locs lsr) {len : Nat} {ops : List Nat} (hd : decode (zB y) pc = .ok (.lsub, len)) (hs : zsta y pc (.lsub) len ops = true) {wf : Bool} {brs : List (Prop × Nat)} {d : Nat} (h2 : (zstp (.lsub) ops pc len ls st h).2 = some (.inl (wf, brs, d, ls1, st1, h1))) (hg : zg (zstp (.lsub) ops pc len ls st h).1 True)
    (hroom : cells + (nx h1 - nx h) ≤ R.cells ∧ slots + (sc h1 - sc h) ≤ R.slots) (hcs : cells ≤ R.cells ∧ slots ≤ R.slots)
    (K : ∀ H1 locs1 lsr1, zfrm b base D s y ls1 st1 h1 H1 locs1 lsr1 → W p l e R s m args below meth c H1 locs1 (cells + (nx h1 - nx h)) (slots + (sc h1 - sc h)) Q (F0 m (zch brs d) lsr1 (st1.map (zrv b base)))) : W p l e R s m args below meth c H locs cells slots Q (F0 m pc lsr (st.map (zrv b base))) := by
  obtain rfl : len = 1 := by simpa [zsta] using hs
  dsimp only [zstp] at h2 hg
  split at h2
  · rename_i y1 x1 r1
    cases h2
    dsimp only [zg] at hg
    show W p l e R s m args below meth c H locs cells slots Q (F0 m pc lsr (.long (Int64.ofInt y1) :: .long (Int64.ofInt x1) :: r1.map (zrv b base)))
    refine lv_lsub C.1 C.2.1 hd ?_
    have k := zk0 K (F.pop.pop.push (v := .inr (.inr (.inl (x1 - y1)))) ⟨hg.1, rfl⟩)
    have eq : Int64.ofInt x1 - Int64.ofInt y1 = Int64.ofInt (x1 - y1) := (Int64.ofInt_sub _ _).symm
    rw [eq]
    exact k
  · cases h2
set_option maxHeartbeats 1000000 in
theorem zJ_lcmp (C : zctx y p R s m args meth c) (F : zfrm b base D s y ls st h H locs lsr) {len : Nat} {ops : List Nat} (hd : decode (zB y) pc = .ok (.lcmp, len)) (hs : zsta y pc (.lcmp) len ops = true) {wf : Bool} {brs : List (Prop × Nat)} {d : Nat} (h2 : (zstp (.lcmp) ops pc len ls st h).2 = some (.inl (wf, brs, d, ls1, st1, h1))) (hg : zg (zstp (.lcmp) ops pc len ls st h).1 True)
    (hroom : cells + (nx h1 - nx h) ≤ R.cells ∧ slots + (sc h1 - sc h) ≤ R.slots) (hcs : cells ≤ R.cells ∧ slots ≤ R.slots)
    (K : ∀ H1 locs1 lsr1, zfrm b base D s y ls1 st1 h1 H1 locs1 lsr1 → W p l e R s m args below meth c H1 locs1 (cells + (nx h1 - nx h)) (slots + (sc h1 - sc h)) Q (F0 m (zch brs d) lsr1 (st1.map (zrv b base)))) : W p l e R s m args below meth c H locs cells slots Q (F0 m pc lsr (st.map (zrv b base))) := by
  obtain rfl : len = 1 := by simpa [zsta] using hs
  dsimp only [zstp] at h2 hg
  split at h2
  · rename_i y1 x1 r1
    cases h2
    have t1 : inL y1 := F.top.1
    have t2 : inL x1 := F.pop.top.1
    show W p l e R s m args below meth c H locs cells slots Q (F0 m pc lsr (.long (Int64.ofInt y1) :: .long (Int64.ofInt x1) :: r1.map (zrv b base)))
    refine W.lcmp C.1 C.2.1 hd ?_
    rw [z_lcmp t2 t1]
    exact zk0 K (F.pop.pop.push (v := .inl (iCmp x1 y1)) ⟨z_cmpR _ _, rfl⟩)
  · cases h2
set_option maxHeartbeats 1000000 in
theorem zJ_iconst {n : Int} (C : zctx y p R s m args meth c) (F : zfrm b base D s y ls st h H locs lsr) {len : Nat} {ops : List Nat} (hd : decode (zB y) pc = .ok (.iconst n, len)) (hs : zsta y pc (.iconst n) len ops = true) {wf : Bool} {brs : List (Prop × Nat)} {d : Nat} (h2 : (zstp (.iconst n) ops pc len ls st h).2 = some (.inl (wf, brs, d, ls1, st1, h1))) (hg : zg (zstp (.iconst n) ops pc len ls st h).1 True)
    (hroom : cells + (nx h1 - nx h) ≤ R.cells ∧ slots + (sc h1 - sc h) ≤ R.slots) (hcs : cells ≤ R.cells ∧ slots ≤ R.slots)
    (K : ∀ H1 locs1 lsr1, zfrm b base D s y ls1 st1 h1 H1 locs1 lsr1 → W p l e R s m args below meth c H1 locs1 (cells + (nx h1 - nx h)) (slots + (sc h1 - sc h)) Q (F0 m (zch brs d) lsr1 (st1.map (zrv b base)))) : W p l e R s m args below meth c H locs cells slots Q (F0 m pc lsr (st.map (zrv b base))) := by
  obtain ⟨rfl, hr1, hr2⟩ : len = 1 ∧ -1 ≤ n ∧ n ≤ 5 := by simpa [zsta, zrg] using hs
  dsimp only [zstp] at h2
  cases h2
  exact lv_iconst (v := Int32.ofInt n) C.1 C.2.1 hd rfl (zk0 K (F.push (v := .inl n) ⟨(by show inR n; unfold inR; omega), rfl⟩))
set_option maxHeartbeats 1000000 in
theorem zJ_bipush {n : Int} (C : zctx y p R s m args meth c) (F : zfrm b base D s y ls st h H locs lsr) {len : Nat} {ops : List Nat} (hd : decode (zB y) pc = .ok (.bipush n, len)) (hs : zsta y pc (.bipush n) len ops = true) {wf : Bool} {brs : List (Prop × Nat)} {d : Nat} (h2 : (zstp (.bipush n) ops pc len ls st h).2 = some (.inl (wf, brs, d, ls1, st1, h1))) (hg : zg (zstp (.bipush n) ops pc len ls st h).1 True)
    (hroom : cells + (nx h1 - nx h) ≤ R.cells ∧ slots + (sc h1 - sc h) ≤ R.slots) (hcs : cells ≤ R.cells ∧ slots ≤ R.slots)
    (K : ∀ H1 locs1 lsr1, zfrm b base D s y ls1 st1 h1 H1 locs1 lsr1 → W p l e R s m args below meth c H1 locs1 (cells + (nx h1 - nx h)) (slots + (sc h1 - sc h)) Q (F0 m (zch brs d) lsr1 (st1.map (zrv b base)))) : W p l e R s m args below meth c H locs cells slots Q (F0 m pc lsr (st.map (zrv b base))) := by
  obtain ⟨rfl, hr1, hr2⟩ : len = 2 ∧ -128 ≤ n ∧ n ≤ 127 := by simpa [zsta, zrg] using hs
  dsimp only [zstp] at h2
  cases h2
  exact lv_bipush (v := Int32.ofInt n) C.1 C.2.1 hd (z_b8 hr1 hr2) (zk0 K (F.push (v := .inl n) ⟨(by show inR n; unfold inR; omega), rfl⟩))
set_option maxHeartbeats 1000000 in
theorem zJ_sipush {n : Int} (C : zctx y p R s m args meth c) (F : zfrm b base D s y ls st h H locs lsr) {len : Nat} {ops : List Nat} (hd : decode (zB y) pc = .ok (.sipush n, len)) (hs : zsta y pc (.sipush n) len ops = true) {wf : Bool} {brs : List (Prop × Nat)} {d : Nat} (h2 : (zstp (.sipush n) ops pc len ls st h).2 = some (.inl (wf, brs, d, ls1, st1, h1))) (hg : zg (zstp (.sipush n) ops pc len ls st h).1 True)
    (hroom : cells + (nx h1 - nx h) ≤ R.cells ∧ slots + (sc h1 - sc h) ≤ R.slots) (hcs : cells ≤ R.cells ∧ slots ≤ R.slots)
    (K : ∀ H1 locs1 lsr1, zfrm b base D s y ls1 st1 h1 H1 locs1 lsr1 → W p l e R s m args below meth c H1 locs1 (cells + (nx h1 - nx h)) (slots + (sc h1 - sc h)) Q (F0 m (zch brs d) lsr1 (st1.map (zrv b base)))) : W p l e R s m args below meth c H locs cells slots Q (F0 m pc lsr (st.map (zrv b base))) := by
  obtain ⟨rfl, hr1, hr2⟩ : len = 3 ∧ -32768 ≤ n ∧ n ≤ 32767 := by simpa [zsta, zrg] using hs
  dsimp only [zstp] at h2
  cases h2
  exact lv_sipush (v := Int32.ofInt n) C.1 C.2.1 hd (z_s16 hr1 hr2) (zk0 K (F.push (v := .inl n) ⟨(by show inR n; unfold inR; omega), rfl⟩))
set_option maxHeartbeats 1000000 in
theorem zJ_ldc {i : Nat} (C : zctx y p R s m args meth c) (F : zfrm b base D s y ls st h H locs lsr) {len : Nat} {ops : List Nat} (hd : decode (zB y) pc = .ok (.ldc i, len)) (hs : zsta y pc (.ldc i) len ops = true) {wf : Bool} {brs : List (Prop × Nat)} {d : Nat} (h2 : (zstp (.ldc i) ops pc len ls st h).2 = some (.inl (wf, brs, d, ls1, st1, h1))) (hg : zg (zstp (.ldc i) ops pc len ls st h).1 True)
    (hroom : cells + (nx h1 - nx h) ≤ R.cells ∧ slots + (sc h1 - sc h) ≤ R.slots) (hcs : cells ≤ R.cells ∧ slots ≤ R.slots)
    (K : ∀ H1 locs1 lsr1, zfrm b base D s y ls1 st1 h1 H1 locs1 lsr1 → W p l e R s m args below meth c H1 locs1 (cells + (nx h1 - nx h)) (slots + (sc h1 - sc h)) Q (F0 m (zch brs d) lsr1 (st1.map (zrv b base)))) : W p l e R s m args below meth c H locs cells slots Q (F0 m pc lsr (st.map (zrv b base))) := by
  obtain ⟨rfl, hm⟩ : len = 2 ∧ (i, ops.getD 0 0, 0) ∈ zCK (zow y) := by simpa [zsta] using hs
  have hw := zCK_w _ _ hm
  have hb : ops.getD 0 0 ≤ 2147483647 := zCK_b hm
  dsimp only [zstp] at h2
  cases h2
  have hv : Int32.ofNat (ops.getD 0 0) = Int32.ofInt (Int.ofNat (ops.getD 0 0)) := Int32.ofInt_eq_ofNat.symm
  exact lv_ldc C.1 C.2.1 C.2.2.2.2.1 (C.2.2.2.2.2.1 _ hw) hd (by
    rw [hv]
    exact zk0 K (F.push (v := .inl (Int.ofNat (ops.getD 0 0))) ⟨by show inR _; unfold inR; simp only [Int.ofNat_eq_natCast]; omega, rfl⟩))
set_option maxHeartbeats 1000000 in
theorem zJ_ldc_w {i : Nat} (C : zctx y p R s m args meth c) (F : zfrm b base D s y ls st h H locs lsr) {len : Nat} {ops : List Nat} (hd : decode (zB y) pc = .ok (.ldc_w i, len)) (hs : zsta y pc (.ldc_w i) len ops = true) {wf : Bool} {brs : List (Prop × Nat)} {d : Nat} (h2 : (zstp (.ldc_w i) ops pc len ls st h).2 = some (.inl (wf, brs, d, ls1, st1, h1))) (hg : zg (zstp (.ldc_w i) ops pc len ls st h).1 True)
    (hroom : cells + (nx h1 - nx h) ≤ R.cells ∧ slots + (sc h1 - sc h) ≤ R.slots) (hcs : cells ≤ R.cells ∧ slots ≤ R.slots)
    (K : ∀ H1 locs1 lsr1, zfrm b base D s y ls1 st1 h1 H1 locs1 lsr1 → W p l e R s m args below meth c H1 locs1 (cells + (nx h1 - nx h)) (slots + (sc h1 - sc h)) Q (F0 m (zch brs d) lsr1 (st1.map (zrv b base)))) : W p l e R s m args below meth c H locs cells slots Q (F0 m pc lsr (st.map (zrv b base))) := by
  obtain ⟨rfl, hm⟩ : len = 3 ∧ (i, ops.getD 0 0, 0) ∈ zCK (zow y) := by simpa [zsta] using hs
  have hw := zCK_w _ _ hm
  have hb : ops.getD 0 0 ≤ 2147483647 := zCK_b hm
  dsimp only [zstp] at h2
  cases h2
  have hv : Int32.ofNat (ops.getD 0 0) = Int32.ofInt (Int.ofNat (ops.getD 0 0)) := Int32.ofInt_eq_ofNat.symm
  exact lv_ldcw C.1 C.2.1 C.2.2.2.2.1 (C.2.2.2.2.2.1 _ hw) hd (by
    rw [hv]
    exact zk0 K (F.push (v := .inl (Int.ofNat (ops.getD 0 0))) ⟨by show inR _; unfold inR; simp only [Int.ofNat_eq_natCast]; omega, rfl⟩))
set_option maxHeartbeats 1000000 in
theorem zJ_ldc2_w {i : Nat} (C : zctx y p R s m args meth c) (F : zfrm b base D s y ls st h H locs lsr) {len : Nat} {ops : List Nat} (hd : decode (zB y) pc = .ok (.ldc2_w i, len)) (hs : zsta y pc (.ldc2_w i) len ops = true) {wf : Bool} {brs : List (Prop × Nat)} {d : Nat} (h2 : (zstp (.ldc2_w i) ops pc len ls st h).2 = some (.inl (wf, brs, d, ls1, st1, h1))) (hg : zg (zstp (.ldc2_w i) ops pc len ls st h).1 True)
    (hroom : cells + (nx h1 - nx h) ≤ R.cells ∧ slots + (sc h1 - sc h) ≤ R.slots) (hcs : cells ≤ R.cells ∧ slots ≤ R.slots)
    (K : ∀ H1 locs1 lsr1, zfrm b base D s y ls1 st1 h1 H1 locs1 lsr1 → W p l e R s m args below meth c H1 locs1 (cells + (nx h1 - nx h)) (slots + (sc h1 - sc h)) Q (F0 m (zch brs d) lsr1 (st1.map (zrv b base)))) : W p l e R s m args below meth c H locs cells slots Q (F0 m pc lsr (st.map (zrv b base))) := by
  obtain ⟨rfl, hm⟩ : len = 3 ∧ (i, ops.getD 0 0, 1) ∈ zCK (zow y) := by simpa [zsta] using hs
  have hw := zCK_w _ _ hm
  have hb : ops.getD 0 0 ≤ 2147483647 := zCK_b hm
  dsimp only [zstp] at h2
  cases h2
  have hv : Int64.ofNat (ops.getD 0 0) = Int64.ofInt (Int.ofNat (ops.getD 0 0)) := Int64.ofInt_eq_ofNat.symm
  exact lv_ldc2 C.1 C.2.1 C.2.2.2.2.1 (C.2.2.2.2.2.1 _ hw) hd (by
    rw [hv]
    exact zk0 K (F.push (v := .inr (.inr (.inl (Int.ofNat (ops.getD 0 0))))) ⟨by show inL _; unfold inL; simp only [Int.ofNat_eq_natCast]; omega, rfl⟩))
set_option maxHeartbeats 1000000 in
theorem zJ_lconst {n : Fin 2} (C : zctx y p R s m args meth c) (F : zfrm b base D s y ls st h H locs lsr) {len : Nat} {ops : List Nat} (hd : decode (zB y) pc = .ok (.lconst n, len)) (hs : zsta y pc (.lconst n) len ops = true) {wf : Bool} {brs : List (Prop × Nat)} {d : Nat} (h2 : (zstp (.lconst n) ops pc len ls st h).2 = some (.inl (wf, brs, d, ls1, st1, h1))) (hg : zg (zstp (.lconst n) ops pc len ls st h).1 True)
    (hroom : cells + (nx h1 - nx h) ≤ R.cells ∧ slots + (sc h1 - sc h) ≤ R.slots) (hcs : cells ≤ R.cells ∧ slots ≤ R.slots)
    (K : ∀ H1 locs1 lsr1, zfrm b base D s y ls1 st1 h1 H1 locs1 lsr1 → W p l e R s m args below meth c H1 locs1 (cells + (nx h1 - nx h)) (slots + (sc h1 - sc h)) Q (F0 m (zch brs d) lsr1 (st1.map (zrv b base)))) : W p l e R s m args below meth c H locs cells slots Q (F0 m pc lsr (st.map (zrv b base))) := by
  obtain rfl : len = 1 := by simpa [zsta] using hs
  dsimp only [zstp] at h2
  cases h2
  have hn := n.isLt
  exact lv_lconst (v := Int64.ofInt (Int.ofNat n.val)) C.1 C.2.1 hd Int64.ofInt_eq_ofNat.symm (zk0 K (F.push (v := .inr (.inr (.inl (Int.ofNat n.val)))) ⟨by show inL _; unfold inL; simp only [Int.ofNat_eq_natCast]; omega, rfl⟩))
set_option maxHeartbeats 1000000 in
theorem zJ_aconst_null (C : zctx y p R s m args meth c) (F : zfrm b base D s y ls st h H locs lsr) {len : Nat} {ops : List Nat} (hd : decode (zB y) pc = .ok (.aconst_null, len)) (hs : zsta y pc (.aconst_null) len ops = true) {wf : Bool} {brs : List (Prop × Nat)} {d : Nat} (h2 : (zstp (.aconst_null) ops pc len ls st h).2 = some (.inl (wf, brs, d, ls1, st1, h1))) (hg : zg (zstp (.aconst_null) ops pc len ls st h).1 True)
    (hroom : cells + (nx h1 - nx h) ≤ R.cells ∧ slots + (sc h1 - sc h) ≤ R.slots) (hcs : cells ≤ R.cells ∧ slots ≤ R.slots)
    (K : ∀ H1 locs1 lsr1, zfrm b base D s y ls1 st1 h1 H1 locs1 lsr1 → W p l e R s m args below meth c H1 locs1 (cells + (nx h1 - nx h)) (slots + (sc h1 - sc h)) Q (F0 m (zch brs d) lsr1 (st1.map (zrv b base)))) : W p l e R s m args below meth c H locs cells slots Q (F0 m pc lsr (st.map (zrv b base))) := by
  obtain rfl : len = 1 := by simpa [zsta] using hs
  dsimp only [zstp] at h2
  cases h2
  exact lv_null C.1 C.2.1 hd (zk0 K (F.push (v := .inr (.inl (0, 0))) ⟨Or.inl rfl, rfl⟩))
set_option maxHeartbeats 1000000 in
theorem zJ_iload {i : Nat} (C : zctx y p R s m args meth c) (F : zfrm b base D s y ls st h H locs lsr) {len : Nat} {ops : List Nat} (hd : decode (zB y) pc = .ok (.iload i, len)) (hs : zsta y pc (.iload i) len ops = true) {wf : Bool} {brs : List (Prop × Nat)} {d : Nat} (h2 : (zstp (.iload i) ops pc len ls st h).2 = some (.inl (wf, brs, d, ls1, st1, h1))) (hg : zg (zstp (.iload i) ops pc len ls st h).1 True)
    (hroom : cells + (nx h1 - nx h) ≤ R.cells ∧ slots + (sc h1 - sc h) ≤ R.slots) (hcs : cells ≤ R.cells ∧ slots ≤ R.slots)
    (K : ∀ H1 locs1 lsr1, zfrm b base D s y ls1 st1 h1 H1 locs1 lsr1 → W p l e R s m args below meth c H1 locs1 (cells + (nx h1 - nx h)) (slots + (sc h1 - sc h)) Q (F0 m (zch brs d) lsr1 (st1.map (zrv b base)))) : W p l e R s m args below meth c H locs cells slots Q (F0 m pc lsr (st.map (zrv b base))) := by
  obtain rfl : len = 2 := by simpa [zsta] using hs
  dsimp only [zstp] at h2
  split at h2
  · rename_i x1 hx
    cases h2
    have g := F.lok hx rfl
    exact lv_iload C.1 C.2.1 hd (F.ld hx rfl) (zk0 K (F.push (v := .inl x1) ⟨g.2, rfl⟩))
  · cases h2
set_option maxHeartbeats 1000000 in
theorem zJ_iload_n {i : Fin 4} (C : zctx y p R s m args meth c) (F : zfrm b base D s y ls st h H locs lsr) {len : Nat} {ops : List Nat} (hd : decode (zB y) pc = .ok (.iload_n i, len)) (hs : zsta y pc (.iload_n i) len ops = true) {wf : Bool} {brs : List (Prop × Nat)} {d : Nat} (h2 : (zstp (.iload_n i) ops pc len ls st h).2 = some (.inl (wf, brs, d, ls1, st1, h1))) (hg : zg (zstp (.iload_n i) ops pc len ls st h).1 True)
    (hroom : cells + (nx h1 - nx h) ≤ R.cells ∧ slots + (sc h1 - sc h) ≤ R.slots) (hcs : cells ≤ R.cells ∧ slots ≤ R.slots)
    (K : ∀ H1 locs1 lsr1, zfrm b base D s y ls1 st1 h1 H1 locs1 lsr1 → W p l e R s m args below meth c H1 locs1 (cells + (nx h1 - nx h)) (slots + (sc h1 - sc h)) Q (F0 m (zch brs d) lsr1 (st1.map (zrv b base)))) : W p l e R s m args below meth c H locs cells slots Q (F0 m pc lsr (st.map (zrv b base))) := by
  obtain rfl : len = 1 := by simpa [zsta] using hs
  dsimp only [zstp] at h2
  split at h2
  · rename_i x1 hx
    cases h2
    have g := F.lok hx rfl
    exact lv_iload_n C.1 C.2.1 hd rfl (F.ld hx rfl) (zk0 K (F.push (v := .inl x1) ⟨g.2, rfl⟩))
  · cases h2
set_option maxHeartbeats 1000000 in
theorem zJ_lload {i : Nat} (C : zctx y p R s m args meth c) (F : zfrm b base D s y ls st h H locs lsr) {len : Nat} {ops : List Nat} (hd : decode (zB y) pc = .ok (.lload i, len)) (hs : zsta y pc (.lload i) len ops = true) {wf : Bool} {brs : List (Prop × Nat)} {d : Nat} (h2 : (zstp (.lload i) ops pc len ls st h).2 = some (.inl (wf, brs, d, ls1, st1, h1))) (hg : zg (zstp (.lload i) ops pc len ls st h).1 True)
    (hroom : cells + (nx h1 - nx h) ≤ R.cells ∧ slots + (sc h1 - sc h) ≤ R.slots) (hcs : cells ≤ R.cells ∧ slots ≤ R.slots)
    (K : ∀ H1 locs1 lsr1, zfrm b base D s y ls1 st1 h1 H1 locs1 lsr1 → W p l e R s m args below meth c H1 locs1 (cells + (nx h1 - nx h)) (slots + (sc h1 - sc h)) Q (F0 m (zch brs d) lsr1 (st1.map (zrv b base)))) : W p l e R s m args below meth c H locs cells slots Q (F0 m pc lsr (st.map (zrv b base))) := by
  obtain rfl : len = 2 := by simpa [zsta] using hs
  dsimp only [zstp] at h2
  split at h2
  · rename_i x1 hx
    cases h2
    have g := F.lok hx rfl
    exact lv_lload C.1 C.2.1 hd (F.ld hx rfl) (zk0 K (F.push (v := .inr (.inr (.inl x1))) ⟨g.2, rfl⟩))
  · cases h2
set_option maxHeartbeats 1000000 in
theorem zJ_lload_n {i : Fin 4} (C : zctx y p R s m args meth c) (F : zfrm b base D s y ls st h H locs lsr) {len : Nat} {ops : List Nat} (hd : decode (zB y) pc = .ok (.lload_n i, len)) (hs : zsta y pc (.lload_n i) len ops = true) {wf : Bool} {brs : List (Prop × Nat)} {d : Nat} (h2 : (zstp (.lload_n i) ops pc len ls st h).2 = some (.inl (wf, brs, d, ls1, st1, h1))) (hg : zg (zstp (.lload_n i) ops pc len ls st h).1 True)
    (hroom : cells + (nx h1 - nx h) ≤ R.cells ∧ slots + (sc h1 - sc h) ≤ R.slots) (hcs : cells ≤ R.cells ∧ slots ≤ R.slots)
    (K : ∀ H1 locs1 lsr1, zfrm b base D s y ls1 st1 h1 H1 locs1 lsr1 → W p l e R s m args below meth c H1 locs1 (cells + (nx h1 - nx h)) (slots + (sc h1 - sc h)) Q (F0 m (zch brs d) lsr1 (st1.map (zrv b base)))) : W p l e R s m args below meth c H locs cells slots Q (F0 m pc lsr (st.map (zrv b base))) := by
  obtain rfl : len = 1 := by simpa [zsta] using hs
  dsimp only [zstp] at h2
  split at h2
  · rename_i x1 hx
    cases h2
    have g := F.lok hx rfl
    exact lv_lload_n C.1 C.2.1 hd rfl (F.ld hx rfl) (zk0 K (F.push (v := .inr (.inr (.inl x1))) ⟨g.2, rfl⟩))
  · cases h2
set_option maxHeartbeats 1000000 in
theorem zJ_aload {i : Nat} (C : zctx y p R s m args meth c) (F : zfrm b base D s y ls st h H locs lsr) {len : Nat} {ops : List Nat} (hd : decode (zB y) pc = .ok (.aload i, len)) (hs : zsta y pc (.aload i) len ops = true) {wf : Bool} {brs : List (Prop × Nat)} {d : Nat} (h2 : (zstp (.aload i) ops pc len ls st h).2 = some (.inl (wf, brs, d, ls1, st1, h1))) (hg : zg (zstp (.aload i) ops pc len ls st h).1 True)
    (hroom : cells + (nx h1 - nx h) ≤ R.cells ∧ slots + (sc h1 - sc h) ≤ R.slots) (hcs : cells ≤ R.cells ∧ slots ≤ R.slots)
    (K : ∀ H1 locs1 lsr1, zfrm b base D s y ls1 st1 h1 H1 locs1 lsr1 → W p l e R s m args below meth c H1 locs1 (cells + (nx h1 - nx h)) (slots + (sc h1 - sc h)) Q (F0 m (zch brs d) lsr1 (st1.map (zrv b base)))) : W p l e R s m args below meth c H locs cells slots Q (F0 m pc lsr (st.map (zrv b base))) := by
  obtain rfl : len = 2 := by simpa [zsta] using hs
  dsimp only [zstp] at h2
  split at h2
  · rename_i q1 hx
    cases h2
    have g := F.lok hx rfl
    have hl := F.ld hx rfl
    have k := zk0 K (F.push (v := .inr (.inl q1)) ⟨g.2, rfl⟩)
    by_cases h0 : q1.1 = 0
    · have e0 : zrv b base (.inr (.inl q1)) = .null := by show va_rf (zro b base q1.1) = _; rw [h0]; rfl
      rw [e0] at hl
      rw [List.map_cons, e0] at k
      exact lv_aloadN C.1 C.2.1 hd hl k
    · have e0 : zrv b base (.inr (.inl q1)) = .ref (zra b base q1.1) := by show va_rf (zro b base q1.1) = _; rw [zro_some h0]; rfl
      rw [e0] at hl
      rw [List.map_cons, e0] at k
      exact lv_aload C.1 C.2.1 hd hl k
  · cases h2
set_option maxHeartbeats 1000000 in
theorem zJ_aload_n {i : Fin 4} (C : zctx y p R s m args meth c) (F : zfrm b base D s y ls st h H locs lsr) {len : Nat} {ops : List Nat} (hd : decode (zB y) pc = .ok (.aload_n i, len)) (hs : zsta y pc (.aload_n i) len ops = true) {wf : Bool} {brs : List (Prop × Nat)} {d : Nat} (h2 : (zstp (.aload_n i) ops pc len ls st h).2 = some (.inl (wf, brs, d, ls1, st1, h1))) (hg : zg (zstp (.aload_n i) ops pc len ls st h).1 True)
    (hroom : cells + (nx h1 - nx h) ≤ R.cells ∧ slots + (sc h1 - sc h) ≤ R.slots) (hcs : cells ≤ R.cells ∧ slots ≤ R.slots)
    (K : ∀ H1 locs1 lsr1, zfrm b base D s y ls1 st1 h1 H1 locs1 lsr1 → W p l e R s m args below meth c H1 locs1 (cells + (nx h1 - nx h)) (slots + (sc h1 - sc h)) Q (F0 m (zch brs d) lsr1 (st1.map (zrv b base)))) : W p l e R s m args below meth c H locs cells slots Q (F0 m pc lsr (st.map (zrv b base))) := by
  obtain rfl : len = 1 := by simpa [zsta] using hs
  dsimp only [zstp] at h2
  split at h2
  · rename_i q1 hx
    cases h2
    have g := F.lok hx rfl
    have hl := F.ld hx rfl
    have k := zk0 K (F.push (v := .inr (.inl q1)) ⟨g.2, rfl⟩)
    by_cases h0 : q1.1 = 0
    · have e0 : zrv b base (.inr (.inl q1)) = .null := by show va_rf (zro b base q1.1) = _; rw [h0]; rfl
      rw [e0] at hl
      rw [List.map_cons, e0] at k
      exact lv_aload_nN C.1 C.2.1 hd rfl hl k
    · have e0 : zrv b base (.inr (.inl q1)) = .ref (zra b base q1.1) := by show va_rf (zro b base q1.1) = _; rw [zro_some h0]; rfl
      rw [e0] at hl
      rw [List.map_cons, e0] at k
      exact lv_aload_n C.1 C.2.1 hd rfl hl k
  · cases h2
set_option maxHeartbeats 1000000 in
theorem zJ_istore {i : Nat} (C : zctx y p R s m args meth c) (F : zfrm b base D s y ls st h H locs lsr) {len : Nat} {ops : List Nat} (hd : decode (zB y) pc = .ok (.istore i, len)) (hs : zsta y pc (.istore i) len ops = true) {wf : Bool} {brs : List (Prop × Nat)} {d : Nat} (h2 : (zstp (.istore i) ops pc len ls st h).2 = some (.inl (wf, brs, d, ls1, st1, h1))) (hg : zg (zstp (.istore i) ops pc len ls st h).1 True)
    (hroom : cells + (nx h1 - nx h) ≤ R.cells ∧ slots + (sc h1 - sc h) ≤ R.slots) (hcs : cells ≤ R.cells ∧ slots ≤ R.slots)
    (K : ∀ H1 locs1 lsr1, zfrm b base D s y ls1 st1 h1 H1 locs1 lsr1 → W p l e R s m args below meth c H1 locs1 (cells + (nx h1 - nx h)) (slots + (sc h1 - sc h)) Q (F0 m (zch brs d) lsr1 (st1.map (zrv b base)))) : W p l e R s m args below meth c H locs cells slots Q (F0 m pc lsr (st.map (zrv b base))) := by
  obtain ⟨rfl, hn⟩ : len = 2 ∧ znl y = true := by simpa [zsta] using hs
  dsimp only [zstp] at h2
  split at h2
  · rename_i x1 r1
    cases hb : Nat.blt i ls.length with
    | false => rw [hb] at h2; cases h2
    | true =>
      rw [hb] at h2
      cases h2
      have hi : i < ls.length := by simpa using hb
      show W p l e R s m args below meth c H locs cells slots Q (F0 m pc lsr (.int (Int32.ofInt x1) :: st1.map (zrv b base)))
      exact lv_istore C.1 C.2.1 hd F.2.2.2.1 (by rw [← F.2.2.1]; exact hi) rfl (fun lsr1 hl => zk0 K (F.sto (v := .inl x1) hn hi F.top.1 rfl F.pop.2.2.2.2.2.1 hl))
  · cases h2
set_option maxHeartbeats 1000000 in
theorem zJ_istore_n {i : Fin 4} (C : zctx y p R s m args meth c) (F : zfrm b base D s y ls st h H locs lsr) {len : Nat} {ops : List Nat} (hd : decode (zB y) pc = .ok (.istore_n i, len)) (hs : zsta y pc (.istore_n i) len ops = true) {wf : Bool} {brs : List (Prop × Nat)} {d : Nat} (h2 : (zstp (.istore_n i) ops pc len ls st h).2 = some (.inl (wf, brs, d, ls1, st1, h1))) (hg : zg (zstp (.istore_n i) ops pc len ls st h).1 True)
    (hroom : cells + (nx h1 - nx h) ≤ R.cells ∧ slots + (sc h1 - sc h) ≤ R.slots) (hcs : cells ≤ R.cells ∧ slots ≤ R.slots)
    (K : ∀ H1 locs1 lsr1, zfrm b base D s y ls1 st1 h1 H1 locs1 lsr1 → W p l e R s m args below meth c H1 locs1 (cells + (nx h1 - nx h)) (slots + (sc h1 - sc h)) Q (F0 m (zch brs d) lsr1 (st1.map (zrv b base)))) : W p l e R s m args below meth c H locs cells slots Q (F0 m pc lsr (st.map (zrv b base))) := by
  obtain ⟨rfl, hn⟩ : len = 1 ∧ znl y = true := by simpa [zsta] using hs
  dsimp only [zstp] at h2
  split at h2
  · rename_i x1 r1
    cases hb : Nat.blt i.val ls.length with
    | false => rw [hb] at h2; cases h2
    | true =>
      rw [hb] at h2
      cases h2
      have hi : i.val < ls.length := by simpa using hb
      show W p l e R s m args below meth c H locs cells slots Q (F0 m pc lsr (.int (Int32.ofInt x1) :: st1.map (zrv b base)))
      exact lv_istore_n C.1 C.2.1 hd rfl F.2.2.2.1 (by rw [← F.2.2.1]; exact hi) rfl (fun lsr1 hl => zk0 K (F.sto (v := .inl x1) hn hi F.top.1 rfl F.pop.2.2.2.2.2.1 hl))
  · cases h2
set_option maxHeartbeats 1000000 in
theorem zJ_astore {i : Nat} (C : zctx y p R s m args meth c) (F : zfrm b base D s y ls st h H locs lsr) {len : Nat} {ops : List Nat} (hd : decode (zB y) pc = .ok (.astore i, len)) (hs : zsta y pc (.astore i) len ops = true) {wf : Bool} {brs : List (Prop × Nat)} {d : Nat} (h2 : (zstp (.astore i) ops pc len ls st h).2 = some (.inl (wf, brs, d, ls1, st1, h1))) (hg : zg (zstp (.astore i) ops pc len ls st h).1 True)
    (hroom : cells + (nx h1 - nx h) ≤ R.cells ∧ slots + (sc h1 - sc h) ≤ R.slots) (hcs : cells ≤ R.cells ∧ slots ≤ R.slots)
    (K : ∀ H1 locs1 lsr1, zfrm b base D s y ls1 st1 h1 H1 locs1 lsr1 → W p l e R s m args below meth c H1 locs1 (cells + (nx h1 - nx h)) (slots + (sc h1 - sc h)) Q (F0 m (zch brs d) lsr1 (st1.map (zrv b base)))) : W p l e R s m args below meth c H locs cells slots Q (F0 m pc lsr (st.map (zrv b base))) := by
  obtain ⟨rfl, hn⟩ : len = 2 ∧ znl y = true := by simpa [zsta] using hs
  dsimp only [zstp] at h2
  split at h2
  · rename_i q1 r1
    cases hb : Nat.blt i ls.length with
    | false => rw [hb] at h2; cases h2
    | true =>
      rw [hb] at h2
      cases h2
      have hi : i < ls.length := by simpa using hb
      by_cases h0 : q1.1 = 0
      · have e0 : zrv b base (.inr (.inl q1)) = .null := by show va_rf (zro b base q1.1) = _; rw [h0]; rfl
        rw [List.map_cons, e0]
        exact lv_astoreN C.1 C.2.1 hd F.2.2.2.1 (by rw [← F.2.2.1]; exact hi) rfl (fun lsr1 hl => zk0 K (F.sto (v := .inr (.inl q1)) hn hi F.top.1 rfl F.pop.2.2.2.2.2.1 (by rw [e0]; exact hl)))
      · have e0 : zrv b base (.inr (.inl q1)) = .ref (zra b base q1.1) := by show va_rf (zro b base q1.1) = _; rw [zro_some h0]; rfl
        rw [List.map_cons, e0]
        exact lv_astore C.1 C.2.1 hd F.2.2.2.1 (by rw [← F.2.2.1]; exact hi) rfl (fun lsr1 hl => zk0 K (F.sto (v := .inr (.inl q1)) hn hi F.top.1 rfl F.pop.2.2.2.2.2.1 (by rw [e0]; exact hl)))
  · cases h2
set_option maxHeartbeats 1000000 in
theorem zJ_astore_n {i : Fin 4} (C : zctx y p R s m args meth c) (F : zfrm b base D s y ls st h H locs lsr) {len : Nat} {ops : List Nat} (hd : decode (zB y) pc = .ok (.astore_n i, len)) (hs : zsta y pc (.astore_n i) len ops = true) {wf : Bool} {brs : List (Prop × Nat)} {d : Nat} (h2 : (zstp (.astore_n i) ops pc len ls st h).2 = some (.inl (wf, brs, d, ls1, st1, h1))) (hg : zg (zstp (.astore_n i) ops pc len ls st h).1 True)
    (hroom : cells + (nx h1 - nx h) ≤ R.cells ∧ slots + (sc h1 - sc h) ≤ R.slots) (hcs : cells ≤ R.cells ∧ slots ≤ R.slots)
    (K : ∀ H1 locs1 lsr1, zfrm b base D s y ls1 st1 h1 H1 locs1 lsr1 → W p l e R s m args below meth c H1 locs1 (cells + (nx h1 - nx h)) (slots + (sc h1 - sc h)) Q (F0 m (zch brs d) lsr1 (st1.map (zrv b base)))) : W p l e R s m args below meth c H locs cells slots Q (F0 m pc lsr (st.map (zrv b base))) := by
  obtain ⟨rfl, hn⟩ : len = 1 ∧ znl y = true := by simpa [zsta] using hs
  dsimp only [zstp] at h2
  split at h2
  · rename_i q1 r1
    cases hb : Nat.blt i.val ls.length with
    | false => rw [hb] at h2; cases h2
    | true =>
      rw [hb] at h2
      cases h2
      have hi : i.val < ls.length := by simpa using hb
      by_cases h0 : q1.1 = 0
      · have e0 : zrv b base (.inr (.inl q1)) = .null := by show va_rf (zro b base q1.1) = _; rw [h0]; rfl
        rw [List.map_cons, e0]
        exact lv_astore_nN C.1 C.2.1 hd rfl F.2.2.2.1 (by rw [← F.2.2.1]; exact hi) rfl (fun lsr1 hl => zk0 K (F.sto (v := .inr (.inl q1)) hn hi F.top.1 rfl F.pop.2.2.2.2.2.1 (by rw [e0]; exact hl)))
      · have e0 : zrv b base (.inr (.inl q1)) = .ref (zra b base q1.1) := by show va_rf (zro b base q1.1) = _; rw [zro_some h0]; rfl
        rw [List.map_cons, e0]
        exact lv_astore_n C.1 C.2.1 hd rfl F.2.2.2.1 (by rw [← F.2.2.1]; exact hi) rfl (fun lsr1 hl => zk0 K (F.sto (v := .inr (.inl q1)) hn hi F.top.1 rfl F.pop.2.2.2.2.2.1 (by rw [e0]; exact hl)))
  · cases h2
set_option maxHeartbeats 1000000 in
theorem zJ_iinc {i : Nat} {n : Int} (C : zctx y p R s m args meth c) (F : zfrm b base D s y ls st h H locs lsr) {len : Nat} {ops : List Nat} (hd : decode (zB y) pc = .ok (.iinc i n, len)) (hs : zsta y pc (.iinc i n) len ops = true) {wf : Bool} {brs : List (Prop × Nat)} {d : Nat} (h2 : (zstp (.iinc i n) ops pc len ls st h).2 = some (.inl (wf, brs, d, ls1, st1, h1))) (hg : zg (zstp (.iinc i n) ops pc len ls st h).1 True)
    (hroom : cells + (nx h1 - nx h) ≤ R.cells ∧ slots + (sc h1 - sc h) ≤ R.slots) (hcs : cells ≤ R.cells ∧ slots ≤ R.slots)
    (K : ∀ H1 locs1 lsr1, zfrm b base D s y ls1 st1 h1 H1 locs1 lsr1 → W p l e R s m args below meth c H1 locs1 (cells + (nx h1 - nx h)) (slots + (sc h1 - sc h)) Q (F0 m (zch brs d) lsr1 (st1.map (zrv b base)))) : W p l e R s m args below meth c H locs cells slots Q (F0 m pc lsr (st.map (zrv b base))) := by
  obtain ⟨⟨rfl, hn⟩, -⟩ : (len = 3 ∧ znl y = true) ∧ True := by
    have := hs; simp [zsta] at this; exact ⟨⟨this.1.1, this.1.2⟩, trivial⟩
  dsimp only [zstp] at h2 hg
  split at h2
  · rename_i x1 hx
    cases h2
    rw [hx] at hg
    dsimp only [zg] at hg
    have g := F.lok hx rfl
    have hi : i < ls.length := (List.getElem?_eq_some_iff.mp g.1).1
    obtain ⟨k0, hk0⟩ := List.getElem?_of_mem (zal_mem (b := b) (base := base) (q := (i, .int (Int32.ofInt x1))).mpr ⟨.inl x1, g.1, rfl, rfl⟩)
    exact lv_iinc (v := Int32.ofInt (x1 + n)) C.1 C.2.1 hd F.2.2.2.1 hk0 (Int32.ofInt_add _ _).symm (by rw [← F.2.2.1]; exact hi) rfl (fun lsr1 hl => zk0 K (F.sto (v := .inl (x1 + n)) hn hi hg.1 rfl F.2.2.2.2.2.1 hl))
  · cases h2
set_option maxHeartbeats 1000000 in
theorem zJ_dup (C : zctx y p R s m args meth c) (F : zfrm b base D s y ls st h H locs lsr) {len : Nat} {ops : List Nat} (hd : decode (zB y) pc = .ok (.dup, len)) (hs : zsta y pc (.dup) len ops = true) {wf : Bool} {brs : List (Prop × Nat)} {d : Nat} (h2 : (zstp (.dup) ops pc len ls st h).2 = some (.inl (wf, brs, d, ls1, st1, h1))) (hg : zg (zstp (.dup) ops pc len ls st h).1 True)
    (hroom : cells + (nx h1 - nx h) ≤ R.cells ∧ slots + (sc h1 - sc h) ≤ R.slots) (hcs : cells ≤ R.cells ∧ slots ≤ R.slots)
    (K : ∀ H1 locs1 lsr1, zfrm b base D s y ls1 st1 h1 H1 locs1 lsr1 → W p l e R s m args below meth c H1 locs1 (cells + (nx h1 - nx h)) (slots + (sc h1 - sc h)) Q (F0 m (zch brs d) lsr1 (st1.map (zrv b base)))) : W p l e R s m args below meth c H locs cells slots Q (F0 m pc lsr (st.map (zrv b base))) := by
  obtain rfl : len = 1 := by simpa [zsta] using hs
  dsimp only [zstp] at h2
  split at h2
  · rename_i x1 r1
    cases h2
    exact lv_dup C.1 C.2.1 hd rfl (zk0 K (F.push F.top))
  · rename_i q1 r1
    cases h2
    exact lv_dup C.1 C.2.1 hd (zrv_cat (v := .inr (.inl q1)) rfl) (zk0 K (F.push F.top))
  · cases h2
set_option maxHeartbeats 1000000 in
theorem zJ_dup2 (C : zctx y p R s m args meth c) (F : zfrm b base D s y ls st h H locs lsr) {len : Nat} {ops : List Nat} (hd : decode (zB y) pc = .ok (.dup2, len)) (hs : zsta y pc (.dup2) len ops = true) {wf : Bool} {brs : List (Prop × Nat)} {d : Nat} (h2 : (zstp (.dup2) ops pc len ls st h).2 = some (.inl (wf, brs, d, ls1, st1, h1))) (hg : zg (zstp (.dup2) ops pc len ls st h).1 True)
    (hroom : cells + (nx h1 - nx h) ≤ R.cells ∧ slots + (sc h1 - sc h) ≤ R.slots) (hcs : cells ≤ R.cells ∧ slots ≤ R.slots)
    (K : ∀ H1 locs1 lsr1, zfrm b base D s y ls1 st1 h1 H1 locs1 lsr1 → W p l e R s m args below meth c H1 locs1 (cells + (nx h1 - nx h)) (slots + (sc h1 - sc h)) Q (F0 m (zch brs d) lsr1 (st1.map (zrv b base)))) : W p l e R s m args below meth c H locs cells slots Q (F0 m pc lsr (st.map (zrv b base))) := by
  obtain rfl : len = 1 := by simpa [zsta] using hs
  dsimp only [zstp] at h2
  split at h2
  · rename_i x1 q1 r1
    cases h2
    exact lv_dup2_11 C.1 C.2.1 hd rfl (zrv_cat (v := .inr (.inl q1)) rfl) (zk0 K ((F.push F.pop.top).push F.top))
  · cases h2
set_option maxHeartbeats 1000000 in
theorem zJ_pop (C : zctx y p R s m args meth c) (F : zfrm b base D s y ls st h H locs lsr) {len : Nat} {ops : List Nat} (hd : decode (zB y) pc = .ok (.pop, len)) (hs : zsta y pc (.pop) len ops = true) {wf : Bool} {brs : List (Prop × Nat)} {d : Nat} (h2 : (zstp (.pop) ops pc len ls st h).2 = some (.inl (wf, brs, d, ls1, st1, h1))) (hg : zg (zstp (.pop) ops pc len ls st h).1 True)
    (hroom : cells + (nx h1 - nx h) ≤ R.cells ∧ slots + (sc h1 - sc h) ≤ R.slots) (hcs : cells ≤ R.cells ∧ slots ≤ R.slots)
    (K : ∀ H1 locs1 lsr1, zfrm b base D s y ls1 st1 h1 H1 locs1 lsr1 → W p l e R s m args below meth c H1 locs1 (cells + (nx h1 - nx h)) (slots + (sc h1 - sc h)) Q (F0 m (zch brs d) lsr1 (st1.map (zrv b base)))) : W p l e R s m args below meth c H locs cells slots Q (F0 m pc lsr (st.map (zrv b base))) := by
  obtain rfl : len = 1 := by simpa [zsta] using hs
  dsimp only [zstp] at h2
  split at h2
  · rename_i x1 r1
    cases h2
    exact lv_pop C.1 C.2.1 hd rfl (zk0 K F.pop)
  · rename_i q1 r1
    cases h2
    exact lv_pop C.1 C.2.1 hd (zrv_cat (v := .inr (.inl q1)) rfl) (zk0 K F.pop)
  · cases h2
set_option maxHeartbeats 1000000 in
theorem zJ_goto {o1 : Int} (C : zctx y p R s m args meth c) (F : zfrm b base D s y ls st h H locs lsr) {len : Nat} {ops : List Nat} (hd : decode (zB y) pc = .ok (.goto o1, len)) (hs : zsta y pc (.goto o1) len ops = true) {wf : Bool} {brs : List (Prop × Nat)} {d : Nat} (h2 : (zstp (.goto o1) ops pc len ls st h).2 = some (.inl (wf, brs, d, ls1, st1, h1))) (hg : zg (zstp (.goto o1) ops pc len ls st h).1 True)
    (hroom : cells + (nx h1 - nx h) ≤ R.cells ∧ slots + (sc h1 - sc h) ≤ R.slots) (hcs : cells ≤ R.cells ∧ slots ≤ R.slots)
    (K : ∀ H1 locs1 lsr1, zfrm b base D s y ls1 st1 h1 H1 locs1 lsr1 → W p l e R s m args below meth c H1 locs1 (cells + (nx h1 - nx h)) (slots + (sc h1 - sc h)) Q (F0 m (zch brs d) lsr1 (st1.map (zrv b base)))) : W p l e R s m args below meth c H locs cells slots Q (F0 m pc lsr (st.map (zrv b base))) := by
  obtain ⟨rfl, ho⟩ : len = 3 ∧ 0 ≤ (pc : Int) + o1 := by simpa [zsta] using hs
  have ht : (pc : Int) + o1 = ((((pc : Int) + o1).toNat : Nat) : Int) := (Int.toNat_of_nonneg ho).symm
  dsimp only [zstp] at h2
  cases h2
  exact lv_goto C.1 C.2.1 hd ht (zk0 K F)
set_option maxHeartbeats 1000000 in
theorem zJ_if_eq {o1 : Int} (C : zctx y p R s m args meth c) (F : zfrm b base D s y ls st h H locs lsr) {len : Nat} {ops : List Nat} (hd : decode (zB y) pc = .ok (.ifCond .eq o1, len)) (hs : zsta y pc (.ifCond .eq o1) len ops = true) {wf : Bool} {brs : List (Prop × Nat)} {d : Nat} (h2 : (zstp (.ifCond .eq o1) ops pc len ls st h).2 = some (.inl (wf, brs, d, ls1, st1, h1))) (hg : zg (zstp (.ifCond .eq o1) ops pc len ls st h).1 True)
    (hroom : cells + (nx h1 - nx h) ≤ R.cells ∧ slots + (sc h1 - sc h) ≤ R.slots) (hcs : cells ≤ R.cells ∧ slots ≤ R.slots)
    (K : ∀ H1 locs1 lsr1, zfrm b base D s y ls1 st1 h1 H1 locs1 lsr1 → W p l e R s m args below meth c H1 locs1 (cells + (nx h1 - nx h)) (slots + (sc h1 - sc h)) Q (F0 m (zch brs d) lsr1 (st1.map (zrv b base)))) : W p l e R s m args below meth c H locs cells slots Q (F0 m pc lsr (st.map (zrv b base))) := by
  obtain ⟨rfl, ho⟩ : len = 3 ∧ 0 ≤ (pc : Int) + o1 := by simpa [zsta] using hs
  have ht : (pc : Int) + o1 = ((((pc : Int) + o1).toNat : Nat) : Int) := (Int.toNat_of_nonneg ho).symm
  dsimp only [zstp] at h2
  split at h2
  · rename_i x1 r1
    cases h2
    have t1 : inR x1 := F.top.1
    show W p l e R s m args below meth c H locs cells slots Q (F0 m pc lsr (.int (Int32.ofInt x1) :: st1.map (zrv b base)))
    refine lv_if_eq C.1 C.2.1 hd ht (fun q => ?_) (fun q => ?_)
    · have k := zk0 K F.pop
      have e0 : zch [(zc0 .eq x1, ((pc : Int) + o1).toNat)] (pc + 3) = ((pc : Int) + o1).toNat := if_pos ((zeq_iff t1 z_0).mp q)
      rw [e0] at k
      exact k
    · have k := zk0 K F.pop
      have e0 : zch [(zc0 .eq x1, ((pc : Int) + o1).toNat)] (pc + 3) = pc + 3 := if_neg (fun z => q ((zeq_iff t1 z_0).mpr z))
      rw [e0] at k
      exact k
  · cases h2
set_option maxHeartbeats 1000000 in
theorem zJ_icmp_eq {o1 : Int} (C : zctx y p R s m args meth c) (F : zfrm b base D s y ls st h H locs lsr) {len : Nat} {ops : List Nat} (hd : decode (zB y) pc = .ok (.if_icmp .eq o1, len)) (hs : zsta y pc (.if_icmp .eq o1) len ops = true) {wf : Bool} {brs : List (Prop × Nat)} {d : Nat} (h2 : (zstp (.if_icmp .eq o1) ops pc len ls st h).2 = some (.inl (wf, brs, d, ls1, st1, h1))) (hg : zg (zstp (.if_icmp .eq o1) ops pc len ls st h).1 True)
    (hroom : cells + (nx h1 - nx h) ≤ R.cells ∧ slots + (sc h1 - sc h) ≤ R.slots) (hcs : cells ≤ R.cells ∧ slots ≤ R.slots)
    (K : ∀ H1 locs1 lsr1, zfrm b base D s y ls1 st1 h1 H1 locs1 lsr1 → W p l e R s m args below meth c H1 locs1 (cells + (nx h1 - nx h)) (slots + (sc h1 - sc h)) Q (F0 m (zch brs d) lsr1 (st1.map (zrv b base)))) : W p l e R s m args below meth c H locs cells slots Q (F0 m pc lsr (st.map (zrv b base))) := by
  obtain ⟨rfl, ho⟩ : len = 3 ∧ 0 ≤ (pc : Int) + o1 := by simpa [zsta] using hs
  have ht : (pc : Int) + o1 = ((((pc : Int) + o1).toNat : Nat) : Int) := (Int.toNat_of_nonneg ho).symm
  dsimp only [zstp] at h2
  split at h2
  · rename_i y1 x1 r1
    cases h2
    have t1 : inR y1 := F.top.1
    have t2 : inR x1 := F.pop.top.1
    show W p l e R s m args below meth c H locs cells slots Q (F0 m pc lsr (.int (Int32.ofInt y1) :: .int (Int32.ofInt x1) :: st1.map (zrv b base)))
    refine lv_icmp_eq C.1 C.2.1 hd ht (fun q => ?_) (fun q => ?_)
    · have k := zk0 K F.pop.pop
      have e0 : zch [(zc2 .eq x1 y1, ((pc : Int) + o1).toNat)] (pc + 3) = ((pc : Int) + o1).toNat := if_pos ((zeq_iff t2 t1).mp q)
      rw [e0] at k
      exact k
    · have k := zk0 K F.pop.pop
      have e0 : zch [(zc2 .eq x1 y1, ((pc : Int) + o1).toNat)] (pc + 3) = pc + 3 := if_neg (fun z => q ((zeq_iff t2 t1).mpr z))
      rw [e0] at k
      exact k
  · cases h2
set_option maxHeartbeats 1000000 in
theorem zJ_if_ne {o1 : Int} (C : zctx y p R s m args meth c) (F : zfrm b base D s y ls st h H locs lsr) {len : Nat} {ops : List Nat} (hd : decode (zB y) pc = .ok (.ifCond .ne o1, len)) (hs : zsta y pc (.ifCond .ne o1) len ops = true) {wf : Bool} {brs : List (Prop × Nat)} {d : Nat} (h2 : (zstp (.ifCond .ne o1) ops pc len ls st h).2 = some (.inl (wf, brs, d, ls1, st1, h1))) (hg : zg (zstp (.ifCond .ne o1) ops pc len ls st h).1 True)
    (hroom : cells + (nx h1 - nx h) ≤ R.cells ∧ slots + (sc h1 - sc h) ≤ R.slots) (hcs : cells ≤ R.cells ∧ slots ≤ R.slots)
    (K : ∀ H1 locs1 lsr1, zfrm b base D s y ls1 st1 h1 H1 locs1 lsr1 → W p l e R s m args below meth c H1 locs1 (cells + (nx h1 - nx h)) (slots + (sc h1 - sc h)) Q (F0 m (zch brs d) lsr1 (st1.map (zrv b base)))) : W p l e R s m args below meth c H locs cells slots Q (F0 m pc lsr (st.map (zrv b base))) := by
  obtain ⟨rfl, ho⟩ : len = 3 ∧ 0 ≤ (pc : Int) + o1 := by simpa [zsta] using hs
  have ht : (pc : Int) + o1 = ((((pc : Int) + o1).toNat : Nat) : Int) := (Int.toNat_of_nonneg ho).symm
  dsimp only [zstp] at h2
  split at h2
  · rename_i x1 r1
    cases h2
    have t1 : inR x1 := F.top.1
    show W p l e R s m args below meth c H locs cells slots Q (F0 m pc lsr (.int (Int32.ofInt x1) :: st1.map (zrv b base)))
    refine lv_if_ne C.1 C.2.1 hd ht (fun q => ?_) (fun q => ?_)
    · have k := zk0 K F.pop
      have e0 : zch [(zc0 .ne x1, ((pc : Int) + o1).toNat)] (pc + 3) = ((pc : Int) + o1).toNat := if_pos ((not_congr (zeq_iff t1 z_0)).mp q)
      rw [e0] at k
      exact k
    · have k := zk0 K F.pop
      have e0 : zch [(zc0 .ne x1, ((pc : Int) + o1).toNat)] (pc + 3) = pc + 3 := if_neg (fun z => z ((zeq_iff t1 z_0).mp q))
      rw [e0] at k
      exact k
  · cases h2
set_option maxHeartbeats 1000000 in
theorem zJ_icmp_ne {o1 : Int} (C : zctx y p R s m args meth c) (F : zfrm b base D s y ls st h H locs lsr) {len : Nat} {ops : List Nat} (hd : decode (zB y) pc = .ok (.if_icmp .ne o1, len)) (hs : zsta y pc (.if_icmp .ne o1) len ops = true) {wf : Bool} {brs : List (Prop × Nat)} {d : Nat} (h2 : (zstp (.if_icmp .ne o1) ops pc len ls st h).2 = some (.inl (wf, brs, d, ls1, st1, h1))) (hg : zg (zstp (.if_icmp .ne o1) ops pc len ls st h).1 True)
    (hroom : cells + (nx h1 - nx h) ≤ R.cells ∧ slots + (sc h1 - sc h) ≤ R.slots) (hcs : cells ≤ R.cells ∧ slots ≤ R.slots)
    (K : ∀ H1 locs1 lsr1, zfrm b base D s y ls1 st1 h1 H1 locs1 lsr1 → W p l e R s m args below meth c H1 locs1 (cells + (nx h1 - nx h)) (slots + (sc h1 - sc h)) Q (F0 m (zch brs d) lsr1 (st1.map (zrv b base)))) : W p l e R s m args below meth c H locs cells slots Q (F0 m pc lsr (st.map (zrv b base))) := by
  obtain ⟨rfl, ho⟩ : len = 3 ∧ 0 ≤ (pc : Int) + o1 := by simpa [zsta] using hs
  have ht : (pc : Int) + o1 = ((((pc : Int) + o1).toNat : Nat) : Int) := (Int.toNat_of_nonneg ho).symm
  dsimp only [zstp] at h2
  split at h2
  · rename_i y1 x1 r1
    cases h2
    have t1 : inR y1 := F.top.1
    have t2 : inR x1 := F.pop.top.1
    show W p l e R s m args below meth c H locs cells slots Q (F0 m pc lsr (.int (Int32.ofInt y1) :: .int (Int32.ofInt x1) :: st1.map (zrv b base)))
    refine lv_icmp_ne C.1 C.2.1 hd ht (fun q => ?_) (fun q => ?_)
    · have k := zk0 K F.pop.pop
      have e0 : zch [(zc2 .ne x1 y1, ((pc : Int) + o1).toNat)] (pc + 3) = ((pc : Int) + o1).toNat := if_pos ((not_congr (zeq_iff t2 t1)).mp q)
      rw [e0] at k
      exact k
    · have k := zk0 K F.pop.pop
      have e0 : zch [(zc2 .ne x1 y1, ((pc : Int) + o1).toNat)] (pc + 3) = pc + 3 := if_neg (fun z => z ((zeq_iff t2 t1).mp q))
      rw [e0] at k
      exact k
  · cases h2
set_option maxHeartbeats 1000000 in
theorem zJ_if_lt {o1 : Int} (C : zctx y p R s m args meth c) (F : zfrm b base D s y ls st h H locs lsr) {len : Nat} {ops : List Nat} (hd : decode (zB y) pc = .ok (.ifCond .lt o1, len)) (hs : zsta y pc (.ifCond .lt o1) len ops = true) {wf : Bool} {brs : List (Prop × Nat)} {d : Nat} (h2 : (zstp (.ifCond .lt o1) ops pc len ls st h).2 = some (.inl (wf, brs, d, ls1, st1, h1))) (hg : zg (zstp (.ifCond .lt o1) ops pc len ls st h).1 True)
    (hroom : cells + (nx h1 - nx h) ≤ R.cells ∧ slots + (sc h1 - sc h) ≤ R.slots) (hcs : cells ≤ R.cells ∧ slots ≤ R.slots)
    (K : ∀ H1 locs1 lsr1, zfrm b base D s y ls1 st1 h1 H1 locs1 lsr1 → W p l e R s m args below meth c H1 locs1 (cells + (nx h1 - nx h)) (slots + (sc h1 - sc h)) Q (F0 m (zch brs d) lsr1 (st1.map (zrv b base)))) : W p l e R s m args below meth c H locs cells slots Q (F0 m pc lsr (st.map (zrv b base))) := by
  obtain ⟨rfl, ho⟩ : len = 3 ∧ 0 ≤ (pc : Int) + o1 := by simpa [zsta] using hs
  have ht : (pc : Int) + o1 = ((((pc : Int) + o1).toNat : Nat) : Int) := (Int.toNat_of_nonneg ho).symm
  dsimp only [zstp] at h2
  split at h2
  · rename_i x1 r1
    cases h2
    have t1 : inR x1 := F.top.1
    show W p l e R s m args below meth c H locs cells slots Q (F0 m pc lsr (.int (Int32.ofInt x1) :: st1.map (zrv b base)))
    refine lv_if_lt C.1 C.2.1 hd ht (fun q => ?_) (fun q => ?_)
    · have k := zk0 K F.pop
      have e0 : zch [(zc0 .lt x1, ((pc : Int) + o1).toNat)] (pc + 3) = ((pc : Int) + o1).toNat := if_pos ((zlt_iff t1 z_0).mp q)
      rw [e0] at k
      exact k
    · have k := zk0 K F.pop
      have e0 : zch [(zc0 .lt x1, ((pc : Int) + o1).toNat)] (pc + 3) = pc + 3 := if_neg (fun z => q ((zlt_iff t1 z_0).mpr z))
      rw [e0] at k
      exact k
  · cases h2
set_option maxHeartbeats 1000000 in
theorem zJ_icmp_lt {o1 : Int} (C : zctx y p R s m args meth c) (F : zfrm b base D s y ls st h H locs lsr) {len : Nat} {ops : List Nat} (hd : decode (zB y) pc = .ok (.if_icmp .lt o1, len)) (hs : zsta y pc (.if_icmp .lt o1) len ops = true) {wf : Bool} {brs : List (Prop × Nat)} {d : Nat} (h2 : (zstp (.if_icmp .lt o1) ops pc len ls st h).2 = some (.inl (wf, brs, d, ls1, st1, h1))) (hg : zg (zstp (.if_icmp .lt o1) ops pc len ls st h).1 True)
    (hroom : cells + (nx h1 - nx h) ≤ R.cells ∧ slots + (sc h1 - sc h) ≤ R.slots) (hcs : cells ≤ R.cells ∧ slots ≤ R.slots)
    (K : ∀ H1 locs1 lsr1, zfrm b base D s y ls1 st1 h1 H1 locs1 lsr1 → W p l e R s m args below meth c H1 locs1 (cells + (nx h1 - nx h)) (slots + (sc h1 - sc h)) Q (F0 m (zch brs d) lsr1 (st1.map (zrv b base)))) : W p l e R s m args below meth c H locs cells slots Q (F0 m pc lsr (st.map (zrv b base))) := by
  obtain ⟨rfl, ho⟩ : len = 3 ∧ 0 ≤ (pc : Int) + o1 := by simpa [zsta] using hs
  have ht : (pc : Int) + o1 = ((((pc : Int) + o1).toNat : Nat) : Int) := (Int.toNat_of_nonneg ho).symm
  dsimp only [zstp] at h2
  split at h2
  · rename_i y1 x1 r1
    cases h2
    have t1 : inR y1 := F.top.1
    have t2 : inR x1 := F.pop.top.1
    show W p l e R s m args below meth c H locs cells slots Q (F0 m pc lsr (.int (Int32.ofInt y1) :: .int (Int32.ofInt x1) :: st1.map (zrv b base)))
    refine lv_icmp_lt C.1 C.2.1 hd ht (fun q => ?_) (fun q => ?_)
    · have k := zk0 K F.pop.pop
      have e0 : zch [(zc2 .lt x1 y1, ((pc : Int) + o1).toNat)] (pc + 3) = ((pc : Int) + o1).toNat := if_pos ((zlt_iff t2 t1).mp q)
      rw [e0] at k
      exact k
    · have k := zk0 K F.pop.pop
      have e0 : zch [(zc2 .lt x1 y1, ((pc : Int) + o1).toNat)] (pc + 3) = pc + 3 := if_neg (fun z => q ((zlt_iff t2 t1).mpr z))
      rw [e0] at k
      exact k
  · cases h2
set_option maxHeartbeats 1000000 in
theorem zJ_if_ge {o1 : Int} (C : zctx y p R s m args meth c) (F : zfrm b base D s y ls st h H locs lsr) {len : Nat} {ops : List Nat} (hd : decode (zB y) pc = .ok (.ifCond .ge o1, len)) (hs : zsta y pc (.ifCond .ge o1) len ops = true) {wf : Bool} {brs : List (Prop × Nat)} {d : Nat} (h2 : (zstp (.ifCond .ge o1) ops pc len ls st h).2 = some (.inl (wf, brs, d, ls1, st1, h1))) (hg : zg (zstp (.ifCond .ge o1) ops pc len ls st h).1 True)
    (hroom : cells + (nx h1 - nx h) ≤ R.cells ∧ slots + (sc h1 - sc h) ≤ R.slots) (hcs : cells ≤ R.cells ∧ slots ≤ R.slots)
    (K : ∀ H1 locs1 lsr1, zfrm b base D s y ls1 st1 h1 H1 locs1 lsr1 → W p l e R s m args below meth c H1 locs1 (cells + (nx h1 - nx h)) (slots + (sc h1 - sc h)) Q (F0 m (zch brs d) lsr1 (st1.map (zrv b base)))) : W p l e R s m args below meth c H locs cells slots Q (F0 m pc lsr (st.map (zrv b base))) := by
  obtain ⟨rfl, ho⟩ : len = 3 ∧ 0 ≤ (pc : Int) + o1 := by simpa [zsta] using hs
  have ht : (pc : Int) + o1 = ((((pc : Int) + o1).toNat : Nat) : Int) := (Int.toNat_of_nonneg ho).symm
  dsimp only [zstp] at h2
  split at h2
  · rename_i x1 r1
    cases h2
    have t1 : inR x1 := F.top.1
    show W p l e R s m args below meth c H locs cells slots Q (F0 m pc lsr (.int (Int32.ofInt x1) :: st1.map (zrv b base)))
    refine lv_if_ge C.1 C.2.1 hd ht (fun q => ?_) (fun q => ?_)
    · have k := zk0 K F.pop
      have e0 : zch [(zc0 .ge x1, ((pc : Int) + o1).toNat)] (pc + 3) = ((pc : Int) + o1).toNat := if_pos ((zle_iff z_0 t1).mp q)
      rw [e0] at k
      exact k
    · have k := zk0 K F.pop
      have e0 : zch [(zc0 .ge x1, ((pc : Int) + o1).toNat)] (pc + 3) = pc + 3 := if_neg (fun z => q ((zle_iff z_0 t1).mpr z))
      rw [e0] at k
      exact k
  · cases h2
set_option maxHeartbeats 1000000 in
theorem zJ_icmp_ge {o1 : Int} (C : zctx y p R s m args meth c) (F : zfrm b base D s y ls st h H locs lsr) {len : Nat} {ops : List Nat} (hd : decode (zB y) pc = .ok (.if_icmp .ge o1, len)) (hs : zsta y pc (.if_icmp .ge o1) len ops = true) {wf : Bool} {brs : List (Prop × Nat)} {d : Nat} (h2 : (zstp (.if_icmp .ge o1) ops pc len ls st h).2 = some (.inl (wf, brs, d, ls1, st1, h1))) (hg : zg (zstp (.if_icmp .ge o1) ops pc len ls st h).1 True)
    (hroom : cells + (nx h1 - nx h) ≤ R.cells ∧ slots + (sc h1 - sc h) ≤ R.slots) (hcs : cells ≤ R.cells ∧ slots ≤ R.slots)
    (K : ∀ H1 locs1 lsr1, zfrm b base D s y ls1 st1 h1 H1 locs1 lsr1 → W p l e R s m args below meth c H1 locs1 (cells + (nx h1 - nx h)) (slots + (sc h1 - sc h)) Q (F0 m (zch brs d) lsr1 (st1.map (zrv b base)))) : W p l e R s m args below meth c H locs cells slots Q (F0 m pc lsr (st.map (zrv b base))) := by
  obtain ⟨rfl, ho⟩ : len = 3 ∧ 0 ≤ (pc : Int) + o1 := by simpa [zsta] using hs
  have ht : (pc : Int) + o1 = ((((pc : Int) + o1).toNat : Nat) : Int) := (Int.toNat_of_nonneg ho).symm
  dsimp only [zstp] at h2
  split at h2
  · rename_i y1 x1 r1
    cases h2
    have t1 : inR y1 := F.top.1
    have t2 : inR x1 := F.pop.top.1
    show W p l e R s m args below meth c H locs cells slots Q (F0 m pc lsr (.int (Int32.ofInt y1) :: .int (Int32.ofInt x1) :: st1.map (zrv b base)))
    refine lv_icmp_ge C.1 C.2.1 hd ht (fun q => ?_) (fun q => ?_)
    · have k := zk0 K F.pop.pop
      have e0 : zch [(zc2 .ge x1 y1, ((pc : Int) + o1).toNat)] (pc + 3) = ((pc : Int) + o1).toNat := if_pos ((zle_iff t1 t2).mp q)
      rw [e0] at k
      exact k
    · have k := zk0 K F.pop.pop
      have e0 : zch [(zc2 .ge x1 y1, ((pc : Int) + o1).toNat)] (pc + 3) = pc + 3 := if_neg (fun z => q ((zle_iff t1 t2).mpr z))
      rw [e0] at k
      exact k
  · cases h2
set_option maxHeartbeats 1000000 in
theorem zJ_if_gt {o1 : Int} (C : zctx y p R s m args meth c) (F : zfrm b base D s y ls st h H locs lsr) {len : Nat} {ops : List Nat} (hd : decode (zB y) pc = .ok (.ifCond .gt o1, len)) (hs : zsta y pc (.ifCond .gt o1) len ops = true) {wf : Bool} {brs : List (Prop × Nat)} {d : Nat} (h2 : (zstp (.ifCond .gt o1) ops pc len ls st h).2 = some (.inl (wf, brs, d, ls1, st1, h1))) (hg : zg (zstp (.ifCond .gt o1) ops pc len ls st h).1 True)
    (hroom : cells + (nx h1 - nx h) ≤ R.cells ∧ slots + (sc h1 - sc h) ≤ R.slots) (hcs : cells ≤ R.cells ∧ slots ≤ R.slots)
    (K : ∀ H1 locs1 lsr1, zfrm b base D s y ls1 st1 h1 H1 locs1 lsr1 → W p l e R s m args below meth c H1 locs1 (cells + (nx h1 - nx h)) (slots + (sc h1 - sc h)) Q (F0 m (zch brs d) lsr1 (st1.map (zrv b base)))) : W p l e R s m args below meth c H locs cells slots Q (F0 m pc lsr (st.map (zrv b base))) := by
  obtain ⟨rfl, ho⟩ : len = 3 ∧ 0 ≤ (pc : Int) + o1 := by simpa [zsta] using hs
  have ht : (pc : Int) + o1 = ((((pc : Int) + o1).toNat : Nat) : Int) := (Int.toNat_of_nonneg ho).symm
  dsimp only [zstp] at h2
  split at h2
  · rename_i x1 r1
    cases h2
    have t1 : inR x1 := F.top.1
    show W p l e R s m args below meth c H locs cells slots Q (F0 m pc lsr (.int (Int32.ofInt x1) :: st1.map (zrv b base)))
    refine lv_if_gt C.1 C.2.1 hd ht (fun q => ?_) (fun q => ?_)
    · have k := zk0 K F.pop
      have e0 : zch [(zc0 .gt x1, ((pc : Int) + o1).toNat)] (pc + 3) = ((pc : Int) + o1).toNat := if_pos ((zlt_iff z_0 t1).mp q)
      rw [e0] at k
      exact k
    · have k := zk0 K F.pop
      have e0 : zch [(zc0 .gt x1, ((pc : Int) + o1).toNat)] (pc + 3) = pc + 3 := if_neg (fun z => q ((zlt_iff z_0 t1).mpr z))
      rw [e0] at k
      exact k
  · cases h2
set_option maxHeartbeats 1000000 in
theorem zJ_icmp_gt {o1 : Int} (C : zctx y p R s m args meth c) (F : zfrm b base D s y ls st h H locs lsr) {len : Nat} {ops : List Nat} (hd : decode (zB y) pc = .ok (.if_icmp .gt o1, len)) (hs : zsta y pc (.if_icmp .gt o1) len ops = true) {wf : Bool} {brs : List (Prop × Nat)} {d : Nat} (h2 : (zstp (.if_icmp .gt o1) ops pc len ls st h).2 = some (.inl (wf, brs, d, ls1, st1, h1))) (hg : zg (zstp (.if_icmp .gt o1) ops pc len ls st h).1 True)
    (hroom : cells + (nx h1 - nx h) ≤ R.cells ∧ slots + (sc h1 - sc h) ≤ R.slots) (hcs : cells ≤ R.cells ∧ slots ≤ R.slots)
    (K : ∀ H1 locs1 lsr1, zfrm b base D s y ls1 st1 h1 H1 locs1 lsr1 → W p l e R s m args below meth c H1 locs1 (cells + (nx h1 - nx h)) (slots + (sc h1 - sc h)) Q (F0 m (zch brs d) lsr1 (st1.map (zrv b base)))) : W p l e R s m args below meth c H locs cells slots Q (F0 m pc lsr (st.map (zrv b base))) := by
  obtain ⟨rfl, ho⟩ : len = 3 ∧ 0 ≤ (pc : Int) + o1 := by simpa [zsta] using hs
  have ht : (pc : Int) + o1 = ((((pc : Int) + o1).toNat : Nat) : Int) := (Int.toNat_of_nonneg ho).symm
  dsimp only [zstp] at h2
  split at h2
  · rename_i y1 x1 r1
    cases h2
    have t1 : inR y1 := F.top.1
    have t2 : inR x1 := F.pop.top.1
    show W p l e R s m args below meth c H locs cells slots Q (F0 m pc lsr (.int (Int32.ofInt y1) :: .int (Int32.ofInt x1) :: st1.map (zrv b base)))
    refine lv_icmp_gt C.1 C.2.1 hd ht (fun q => ?_) (fun q => ?_)
    · have k := zk0 K F.pop.pop
      have e0 : zch [(zc2 .gt x1 y1, ((pc : Int) + o1).toNat)] (pc + 3) = ((pc : Int) + o1).toNat := if_pos ((zlt_iff t1 t2).mp q)
      rw [e0] at k
      exact k
    · have k := zk0 K F.pop.pop
      have e0 : zch [(zc2 .gt x1 y1, ((pc : Int) + o1).toNat)] (pc + 3) = pc + 3 := if_neg (fun z => q ((zlt_iff t1 t2).mpr z))
      rw [e0] at k
      exact k
  · cases h2
set_option maxHeartbeats 1000000 in
theorem zJ_if_le {o1 : Int} (C : zctx y p R s m args meth c) (F : zfrm b base D s y ls st h H locs lsr) {len : Nat} {ops : List Nat} (hd : decode (zB y) pc = .ok (.ifCond .le o1, len)) (hs : zsta y pc (.ifCond .le o1) len ops = true) {wf : Bool} {brs : List (Prop × Nat)} {d : Nat} (h2 : (zstp (.ifCond .le o1) ops pc len ls st h).2 = some (.inl (wf, brs, d, ls1, st1, h1))) (hg : zg (zstp (.ifCond .le o1) ops pc len ls st h).1 True)
    (hroom : cells + (nx h1 - nx h) ≤ R.cells ∧ slots + (sc h1 - sc h) ≤ R.slots) (hcs : cells ≤ R.cells ∧ slots ≤ R.slots)
    (K : ∀ H1 locs1 lsr1, zfrm b base D s y ls1 st1 h1 H1 locs1 lsr1 → W p l e R s m args below meth c H1 locs1 (cells + (nx h1 - nx h)) (slots + (sc h1 - sc h)) Q (F0 m (zch brs d) lsr1 (st1.map (zrv b base)))) : W p l e R s m args below meth c H locs cells slots Q (F0 m pc lsr (st.map (zrv b base))) := by
  obtain ⟨rfl, ho⟩ : len = 3 ∧ 0 ≤ (pc : Int) + o1 := by simpa [zsta] using hs
  have ht : (pc : Int) + o1 = ((((pc : Int) + o1).toNat : Nat) : Int) := (Int.toNat_of_nonneg ho).symm
  dsimp only [zstp] at h2
  split at h2
  · rename_i x1 r1
    cases h2
    have t1 : inR x1 := F.top.1
    show W p l e R s m args below meth c H locs cells slots Q (F0 m pc lsr (.int (Int32.ofInt x1) :: st1.map (zrv b base)))
    refine lv_if_le C.1 C.2.1 hd ht (fun q => ?_) (fun q => ?_)
    · have k := zk0 K F.pop
      have e0 : zch [(zc0 .le x1, ((pc : Int) + o1).toNat)] (pc + 3) = ((pc : Int) + o1).toNat := if_pos ((zle_iff t1 z_0).mp q)
      rw [e0] at k
      exact k
    · have k := zk0 K F.pop
      have e0 : zch [(zc0 .le x1, ((pc : Int) + o1).toNat)] (pc + 3) = pc + 3 := if_neg (fun z => q ((zle_iff t1 z_0).mpr z))
      rw [e0] at k
      exact k
  · cases h2
set_option maxHeartbeats 1000000 in
theorem zJ_icmp_le {o1 : Int} (C : zctx y p R s m args meth c) (F : zfrm b base D s y ls st h H locs lsr) {len : Nat} {ops : List Nat} (hd : decode (zB y) pc = .ok (.if_icmp .le o1, len)) (hs : zsta y pc (.if_icmp .le o1) len ops = true) {wf : Bool} {brs : List (Prop × Nat)} {d : Nat} (h2 : (zstp (.if_icmp .le o1) ops pc len ls st h).2 = some (.inl (wf, brs, d, ls1, st1, h1))) (hg : zg (zstp (.if_icmp .le o1) ops pc len ls st h).1 True)
    (hroom : cells + (nx h1 - nx h) ≤ R.cells ∧ slots + (sc h1 - sc h) ≤ R.slots) (hcs : cells ≤ R.cells ∧ slots ≤ R.slots)
    (K : ∀ H1 locs1 lsr1, zfrm b base D s y ls1 st1 h1 H1 locs1 lsr1 → W p l e R s m args below meth c H1 locs1 (cells + (nx h1 - nx h)) (slots + (sc h1 - sc h)) Q (F0 m (zch brs d) lsr1 (st1.map (zrv b base)))) : W p l e R s m args below meth c H locs cells slots Q (F0 m pc lsr (st.map (zrv b base))) := by
  obtain ⟨rfl, ho⟩ : len = 3 ∧ 0 ≤ (pc : Int) + o1 := by simpa [zsta] using hs
  have ht : (pc : Int) + o1 = ((((pc : Int) + o1).toNat : Nat) : Int) := (Int.toNat_of_nonneg ho).symm
  dsimp only [zstp] at h2
  split at h2
  · rename_i y1 x1 r1
    cases h2
    have t1 : inR y1 := F.top.1
    have t2 : inR x1 := F.pop.top.1
    show W p l e R s m args below meth c H locs cells slots Q (F0 m pc lsr (.int (Int32.ofInt y1) :: .int (Int32.ofInt x1) :: st1.map (zrv b base)))
    refine lv_icmp_le C.1 C.2.1 hd ht (fun q => ?_) (fun q => ?_)
    · have k := zk0 K F.pop.pop
      have e0 : zch [(zc2 .le x1 y1, ((pc : Int) + o1).toNat)] (pc + 3) = ((pc : Int) + o1).toNat := if_pos ((zle_iff t2 t1).mp q)
      rw [e0] at k
      exact k
    · have k := zk0 K F.pop.pop
      have e0 : zch [(zc2 .le x1 y1, ((pc : Int) + o1).toNat)] (pc + 3) = pc + 3 := if_neg (fun z => q ((zle_iff t2 t1).mpr z))
      rw [e0] at k
      exact k
  · cases h2
set_option maxHeartbeats 1000000 in
theorem zJ_acmp_eq {o1 : Int} (C : zctx y p R s m args meth c) (F : zfrm b base D s y ls st h H locs lsr) {len : Nat} {ops : List Nat} (hd : decode (zB y) pc = .ok (.if_acmp .eq o1, len)) (hs : zsta y pc (.if_acmp .eq o1) len ops = true) {wf : Bool} {brs : List (Prop × Nat)} {d : Nat} (h2 : (zstp (.if_acmp .eq o1) ops pc len ls st h).2 = some (.inl (wf, brs, d, ls1, st1, h1))) (hg : zg (zstp (.if_acmp .eq o1) ops pc len ls st h).1 True)
    (hroom : cells + (nx h1 - nx h) ≤ R.cells ∧ slots + (sc h1 - sc h) ≤ R.slots) (hcs : cells ≤ R.cells ∧ slots ≤ R.slots)
    (K : ∀ H1 locs1 lsr1, zfrm b base D s y ls1 st1 h1 H1 locs1 lsr1 → W p l e R s m args below meth c H1 locs1 (cells + (nx h1 - nx h)) (slots + (sc h1 - sc h)) Q (F0 m (zch brs d) lsr1 (st1.map (zrv b base)))) : W p l e R s m args below meth c H locs cells slots Q (F0 m pc lsr (st.map (zrv b base))) := by
  obtain ⟨rfl, ho⟩ : len = 3 ∧ 0 ≤ (pc : Int) + o1 := by simpa [zsta] using hs
  have ht : (pc : Int) + o1 = ((((pc : Int) + o1).toNat : Nat) : Int) := (Int.toNat_of_nonneg ho).symm
  dsimp only [zstp] at h2
  split at h2
  · rename_i c1 t1 a1 t2 r1
    cases h2
    show W p l e R s m args below meth c H locs cells slots Q (F0 m pc lsr (va_rf (zro b base c1) :: va_rf (zro b base a1) :: st1.map (zrv b base)))
    refine lv_acmp_eq C.1 C.2.1 hd ht (fun q => ?_) (fun q => ?_)
    · have k := zk0 K F.pop.pop
      have e0 : zch [((a1 = c1 : Prop), ((pc : Int) + o1).toNat)] (pc + 3) = ((pc : Int) + o1).toNat := if_pos ((zro_inj F.1.2.2.1).mp q)
      rw [e0] at k
      exact k
    · have k := zk0 K F.pop.pop
      have e0 : zch [((a1 = c1 : Prop), ((pc : Int) + o1).toNat)] (pc + 3) = pc + 3 := if_neg (fun z => q ((zro_inj F.1.2.2.1).mpr z))
      rw [e0] at k
      exact k
  · cases h2
set_option maxHeartbeats 1000000 in
theorem zJ_acmp_ne {o1 : Int} (C : zctx y p R s m args meth c) (F : zfrm b base D s y ls st h H locs lsr) {len : Nat} {ops : List Nat} (hd : decode (zB y) pc = .ok (.if_acmp .ne o1, len)) (hs : zsta y pc (.if_acmp .ne o1) len ops = true) {wf : Bool} {brs : List (Prop × Nat)} {d : Nat} (h2 : (zstp (.if_acmp .ne o1) ops pc len ls st h).2 = some (.inl (wf, brs, d, ls1, st1, h1))) (hg : zg (zstp (.if_acmp .ne o1) ops pc len ls st h).1 True)
    (hroom : cells + (nx h1 - nx h) ≤ R.cells ∧ slots + (sc h1 - sc h) ≤ R.slots) (hcs : cells ≤ R.cells ∧ slots ≤ R.slots)
    (K : ∀ H1 locs1 lsr1, zfrm b base D s y ls1 st1 h1 H1 locs1 lsr1 → W p l e R s m args below meth c H1 locs1 (cells + (nx h1 - nx h)) (slots + (sc h1 - sc h)) Q (F0 m (zch brs d) lsr1 (st1.map (zrv b base)))) : W p l e R s m args below meth c H locs cells slots Q (F0 m pc lsr (st.map (zrv b base))) := by
  obtain ⟨rfl, ho⟩ : len = 3 ∧ 0 ≤ (pc : Int) + o1 := by simpa [zsta] using hs
  have ht : (pc : Int) + o1 = ((((pc : Int) + o1).toNat : Nat) : Int) := (Int.toNat_of_nonneg ho).symm
  dsimp only [zstp] at h2
  split at h2
  · rename_i c1 t1 a1 t2 r1
    cases h2
    show W p l e R s m args below meth c H locs cells slots Q (F0 m pc lsr (va_rf (zro b base c1) :: va_rf (zro b base a1) :: st1.map (zrv b base)))
    refine lv_acmp_ne C.1 C.2.1 hd ht (fun q => ?_) (fun q => ?_)
    · have k := zk0 K F.pop.pop
      have e0 : zch [((¬ a1 = c1 : Prop), ((pc : Int) + o1).toNat)] (pc + 3) = ((pc : Int) + o1).toNat := if_pos ((not_congr (zro_inj F.1.2.2.1)).mp q)
      rw [e0] at k
      exact k
    · have k := zk0 K F.pop.pop
      have e0 : zch [((¬ a1 = c1 : Prop), ((pc : Int) + o1).toNat)] (pc + 3) = pc + 3 := if_neg (fun z => z ((zro_inj F.1.2.2.1).mp q))
      rw [e0] at k
      exact k
  · cases h2
set_option maxHeartbeats 1000000 in
theorem zJ_ifnull {o1 : Int} (C : zctx y p R s m args meth c) (F : zfrm b base D s y ls st h H locs lsr) {len : Nat} {ops : List Nat} (hd : decode (zB y) pc = .ok (.ifnull o1, len)) (hs : zsta y pc (.ifnull o1) len ops = true) {wf : Bool} {brs : List (Prop × Nat)} {d : Nat} (h2 : (zstp (.ifnull o1) ops pc len ls st h).2 = some (.inl (wf, brs, d, ls1, st1, h1))) (hg : zg (zstp (.ifnull o1) ops pc len ls st h).1 True)
    (hroom : cells + (nx h1 - nx h) ≤ R.cells ∧ slots + (sc h1 - sc h) ≤ R.slots) (hcs : cells ≤ R.cells ∧ slots ≤ R.slots)
    (K : ∀ H1 locs1 lsr1, zfrm b base D s y ls1 st1 h1 H1 locs1 lsr1 → W p l e R s m args below meth c H1 locs1 (cells + (nx h1 - nx h)) (slots + (sc h1 - sc h)) Q (F0 m (zch brs d) lsr1 (st1.map (zrv b base)))) : W p l e R s m args below meth c H locs cells slots Q (F0 m pc lsr (st.map (zrv b base))) := by
  obtain ⟨rfl, ho⟩ : len = 3 ∧ 0 ≤ (pc : Int) + o1 := by simpa [zsta] using hs
  have ht : (pc : Int) + o1 = ((((pc : Int) + o1).toNat : Nat) : Int) := (Int.toNat_of_nonneg ho).symm
  dsimp only [zstp] at h2
  split at h2
  · rename_i x1 t1 r1
    cases h2
    by_cases h0 : x1 = 0
    · show W p l e R s m args below meth c H locs cells slots Q (F0 m pc lsr (va_rf (zro b base x1) :: st1.map (zrv b base)))
      have k := zk0 K F.pop
      have e0 : zch [((x1 = 0 : Prop), ((pc : Int) + o1).toNat)] (pc + 3) = ((pc : Int) + o1).toNat := if_pos h0
      rw [e0] at k
      rw [show zro b base x1 = none by rw [h0]; rfl]
      exact lv_ifnullN C.1 C.2.1 hd ht k
    · show W p l e R s m args below meth c H locs cells slots Q (F0 m pc lsr (va_rf (zro b base x1) :: st1.map (zrv b base)))
      have k := zk0 K F.pop
      have e0 : zch [((x1 = 0 : Prop), ((pc : Int) + o1).toNat)] (pc + 3) = pc + 3 := if_neg h0
      rw [e0] at k
      rw [zro_some h0]
      exact lv_ifnull C.1 C.2.1 hd k
  · cases h2
set_option maxHeartbeats 1000000 in
theorem zJ_ifnonnull {o1 : Int} (C : zctx y p R s m args meth c) (F : zfrm b base D s y ls st h H locs lsr) {len : Nat} {ops : List Nat} (hd : decode (zB y) pc = .ok (.ifnonnull o1, len)) (hs : zsta y pc (.ifnonnull o1) len ops = true) {wf : Bool} {brs : List (Prop × Nat)} {d : Nat} (h2 : (zstp (.ifnonnull o1) ops pc len ls st h).2 = some (.inl (wf, brs, d, ls1, st1, h1))) (hg : zg (zstp (.ifnonnull o1) ops pc len ls st h).1 True)
    (hroom : cells + (nx h1 - nx h) ≤ R.cells ∧ slots + (sc h1 - sc h) ≤ R.slots) (hcs : cells ≤ R.cells ∧ slots ≤ R.slots)
    (K : ∀ H1 locs1 lsr1, zfrm b base D s y ls1 st1 h1 H1 locs1 lsr1 → W p l e R s m args below meth c H1 locs1 (cells + (nx h1 - nx h)) (slots + (sc h1 - sc h)) Q (F0 m (zch brs d) lsr1 (st1.map (zrv b base)))) : W p l e R s m args below meth c H locs cells slots Q (F0 m pc lsr (st.map (zrv b base))) := by
  obtain ⟨rfl, ho⟩ : len = 3 ∧ 0 ≤ (pc : Int) + o1 := by simpa [zsta] using hs
  have ht : (pc : Int) + o1 = ((((pc : Int) + o1).toNat : Nat) : Int) := (Int.toNat_of_nonneg ho).symm
  dsimp only [zstp] at h2
  split at h2
  · rename_i x1 t1 r1
    cases h2
    by_cases h0 : x1 = 0
    · show W p l e R s m args below meth c H locs cells slots Q (F0 m pc lsr (va_rf (zro b base x1) :: st1.map (zrv b base)))
      have k := zk0 K F.pop
      have e0 : zch [((¬ x1 = 0 : Prop), ((pc : Int) + o1).toNat)] (pc + 3) = pc + 3 := if_neg (fun z => z h0)
      rw [e0] at k
      rw [show zro b base x1 = none by rw [h0]; rfl]
      exact lv_ifnonnullN C.1 C.2.1 hd k
    · show W p l e R s m args below meth c H locs cells slots Q (F0 m pc lsr (va_rf (zro b base x1) :: st1.map (zrv b base)))
      have k := zk0 K F.pop
      have e0 : zch [((¬ x1 = 0 : Prop), ((pc : Int) + o1).toNat)] (pc + 3) = ((pc : Int) + o1).toNat := if_pos h0
      rw [e0] at k
      rw [zro_some h0]
      exact lv_ifnonnull C.1 C.2.1 hd ht k
  · cases h2
end ZJ
