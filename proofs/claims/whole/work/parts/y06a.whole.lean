/-! THE CLAIM OUT OF ONE WALK OF THE LAW'S BODY. Your part is whole_start (and what it stands on); all else here is the same for every law, but numbers. -/
def R_law : String := "SyntaxRulesLaw"
def lw_P (b : Addr) (xs : List Int32) (args : Array Value) (s : State) : Prop := args = #[.ref b] ∧ s.IntsAt b xs ∧ xs.length ≤ 2560 ∧ (Jvm.Cond.and given_1 narrow_1).before args s = true
def lw_Q (_ : Array Value) (s : State) (o : Outcome) (t : State) : Prop := o = .returned (some (.int 1)) ∧ Framed s o t [] 601024 7293034
def lw_Z (below : List Frame) (a : Array Value) (s : State) : State → Prop := fun t => ∃ o, t.status = .running ∧ Ended t below o ∧ lw_Q a s o t
/-- the law's own end, with 1 on the stack, nothing written that was there before, its room as the claim has it -/
theorem lw_ret {p : Program} {l : Launch} {e : Env} {s : State} {m : MethodId} {below : List Frame} {meth : Method} {c : Code} {b : Nat} (hx : p.tables.exec = Jvm.exec) (hb : c.code = code) (hr : meth.sig.returnType = ret) (hlocks : meth.locks = false) {pc : Nat} {H : Heap} {ls : Array Slot} (hdg : decode code pc = .ok (.ireturn, 1)) : W p l e room_1 s m #[Value.ref b] below meth c H [] 601024 7293034 (lw_Z below #[Value.ref b] s) (F0 m pc ls [.int 1]) := by
  intro T hT X
  obtain ⟨fs, hret, hrun, hended, hW, hframe⟩ := X.leave (v := some (.int 1)) (hlocks := hlocks) (fun h => by rw [hr] at h; cases h)
  have hmeth' : T.vm.method? m = some meth := X.method'
  refine ⟨T.setFrames fs, ?_, .returned (some (.int 1)), hrun, hended, rfl, ⟨_, rfl⟩, hW, hframe⟩
  jvm_step X.here [X.here.top, hx, hb, hdg, hmeth', hr, ret, narrow_b1]
  (try refine ⟨rfl, ?_⟩); (try refine ⟨rfl, ?_⟩)
  first | (intro acts; rw [hret _ acts rfl rfl rfl]) | rw [hret _ _ rfl rfl rfl]
  exact Steps.refl _
/-- what holds at the law's entry: the machine, the code, the tables' words (any of lw_tbl by 'hts w (by decide +kernel)'), the script of L ints xs at the cell b, what the Statement gives of the start (any of its parts by flat_of_before) -/
def lw_At (p : Program) (s : State) (m : MethodId) (meth : Method) (c : Code) (b L : Nat) (xs : Nat → Int32) : Prop :=
  p.tables.exec = Jvm.exec ∧ c.code = code ∧ meth.sig.returnType = ret ∧ c.maxLocals = 7 ∧ s.vm.findClass R_law = some m.cls ∧ (∀ w ∈ lw_tbl, w.before #[Value.ref b] s = true) ∧ va_X b L xs s s.heap ∧ b < s.heap.size ∧ meth.locks = false ∧ (Jvm.Cond.and given_1 narrow_1).before #[Value.ref b] s = true
def zh0 (L : Nat) (xs : Nat → Int32) : zH := (fun a k => if a = 1 then (xs k.toNat).toInt else 0, fun _ _ => 0, fun _ => 0, fun a => if a = 1 then L else 0, 2, 0)
set_option maxRecDepth 1000000 in
theorem zNst_b : zNst.all (fun w => decide (w ∈ lw_tbl) && w.onTables) = true := by decide +kernel
theorem zNx_of {A : Array Value} {s : State} (hts : ∀ w ∈ lw_tbl, w.before A s = true) : zNx s := by
  refine ⟨fun w hw => ?_, va_AO.of (hts _ (List.mem_append_right _ (List.mem_of_getElem? (i := 144) (by decide +kernel)))), va_AO.of (hts _ (List.mem_append_right _ (List.mem_of_getElem? (i := 362) (by decide +kernel)))), va_AO.of (hts _ (List.mem_append_right _ (List.mem_of_getElem? (i := 376) (by decide +kernel))))⟩
  have h := List.all_eq_true.mp zNst_b w hw
  rw [Bool.and_eq_true] at h
  exact va_Nw.of h.2 (hts w (of_decide_eq_true h.1))
theorem zD_of {A : Array Value} {s : State} (k0 : ClassId) (hts : ∀ w ∈ zwd, w.before A s = true) : ∃ D : va_G, ∀ (c : Nat) (r : vw_C), zcl[c]? = some r → u_Kn s r.1 r.2.1 r.2.2 (D.1 c) (D.2 c) := by
  have key : ∀ c : Nat, ∃ (cC : ClassId) (iS : Nat → Nat), ∀ r, zcl[c]? = some r → u_Kn s r.1 r.2.1 r.2.2 cC iS := by
    intro c
    cases hc : zcl[c]? with
    | none => exact ⟨k0, fun _ => 0, fun r hr => by cases hr⟩
    | some r =>
      obtain ⟨o1, o2, o3, o4, o5, o6⟩ := zcl_ok c r hc
      obtain ⟨cC, iS, h⟩ := u_known (C := r.1) (T := r.2.1) (N := r.2.2) hts o1 (hts _ o5)
      exact ⟨cC, iS, fun r2 hr => by cases hr; exact h⟩
  exact ⟨(fun c => Classical.choose (key c), fun c => Classical.choose (Classical.choose_spec (key c))), fun c r hr => Classical.choose_spec (Classical.choose_spec (key c)) r hr⟩
theorem zh0_rel {D : va_G} {s : State} {b L : Nat} {xs : Nat → Int32} (hX : va_X b L xs s s.heap) (hbl : b < s.heap.size) (hD : ∀ (c : Nat) (r : vw_C), zcl[c]? = some r → u_Kn s r.1 r.2.1 r.2.2 (D.1 c) (D.2 c)) : zRel b s.heap.size D s (zh0 L xs) s.heap := by
  have e : (fun j : Nat => Int32.ofInt (gI (zh0 L xs) 1 (Int.ofNat j))) = xs := funext (fun j => by
    show Int32.ofInt (if (1 : Nat) = 1 then (xs (Int.ofNat j).toNat).toInt else 0) = xs j
    rw [if_pos rfl]
    exact Int32.ofInt_toInt _)
  have el : ln (zh0 L xs) 1 = L := by
    show (if (1 : Nat) = 1 then L else 0) = L
    rw [if_pos rfl]
  refine ⟨Nat.le_refl 2, rfl, hbl, fun a h2 hlt => ?_, ?_, fun a k => ?_, fun a h2 hlt => ?_, hD, fun k q h => by simp at h⟩
  · have hlt : a < 2 := hlt
    omega
  · rw [e, el]; exact hX
  · show inR (if a = 1 then (xs k.toNat).toInt else 0)
    by_cases c : a = 1
    · rw [if_pos c]; exact z_in _
    · rw [if_neg c]; exact z_0
  · have hlt : a < 2 := hlt
    omega
set_option maxRecDepth 1000000 in
set_option maxHeartbeats 4000000 in
theorem whole_start {p : Program} {e : Env} {s : State} {m : MethodId} {below : List Frame} {meth : Method} {c : Code} (l : Launch) (hflags : l.flags = flags0) {b L : Nat} {xs : Nat → Int32} (hL : L ≤ 2560) (C0 : lw_At p s m meth c b L xs) : W p l e room_1 s m #[Value.ref b] below meth c s.heap [] 0 0 (lw_Z below #[Value.ref b] s) (entryFrame m ([Value.ref b] : List Value).toArray 7) := by
  obtain ⟨hx, hb, hr, hml, hown, hts, hX, hbl, hlocks, hgv⟩ := id C0
  have hz : ∀ w ∈ zwd, w.before #[Value.ref b] s = true := fun w hw => hts w (List.mem_filter.mp hw).1
  obtain ⟨D, hD⟩ := zD_of m.cls hz
  have hR := zh0_rel hX hbl hD
  have hN := zNx_of hts
  have hl : l.stackTraces = false := by unfold Launch.stackTraces; rw [hflags]; decide
  have hs := flat_of_before _ hgv
  have hA : ∀ a : Nat, a < s.heap.size → ¬ (fun q : Nat => s.heap.size ≤ q) a := fun a h1 h2 => Nat.lt_irrefl _ (Nat.lt_of_lt_of_le h1 h2)
  have hini : (Cond.initialized Bundle.tN).before #[Value.ref b] s = true := hts _ (List.mem_append_right _ (List.mem_of_getElem? (i := 14) (by decide +kernel)))
  have hXf : zXf s.heap.size s := ⟨vx_Zqof (hts _ (List.mem_append_right _ (List.mem_of_getElem? (i := 1128) (by decide +kernel)))) hini (hs _ (by decide +kernel)) hA, vx_Zqof (hts _ (List.mem_append_right _ (List.mem_of_getElem? (i := 1130) (by decide +kernel)))) hini (hs _ (by decide +kernel)) hA, fun w hw hk => va_Nw.of (zNk_on hk) (hts w hw)⟩
  have C : zctx 262 p room_1 s m #[Value.ref b] meth c := ⟨hx, hb, hr, hml, hown, hz, hlocks, hN, fun z => absurd z (by decide +kernel), Nat.le_of_ble_eq_true rfl, Nat.le_of_ble_eq_true rfl⟩
  have F := zentry (y1 := 262) (as1 := [vR 1 147]) hR (List.forall_mem_cons.mpr ⟨⟨Or.inr ⟨Or.inr (by decide), rfl⟩, rfl⟩, fun _ z => absurd z List.not_mem_nil⟩) (Nat.le_of_ble_eq_true rfl) (fun _ => List.forall_mem_cons.mpr ⟨rfl, fun _ z => absurd z List.not_mem_nil⟩)
  rw [lg_entry_eq]
  have el : ln (zh0 L xs) 1 = L := by
    show (if (1 : Nat) = 1 then L else 0) = L
    rw [if_pos rfl]
  obtain ⟨n, k⟩ := lstart (h := zh0 L xs) (K := fun pc ls st h1 => pc = 23 ∧ st = [] ∧ ls = lws 0 vU vU ∧ CI h1 ∧ nx h1 = 171 ∧ sc h1 ≤ 0 + 60000 ∧ ln h1 1 = ln (zh0 L xs) 1) rfl (fun h1 c1 n1 s1 g1 l1 => ⟨rfl, rfl, rfl, c1, n1, s1, l1⟩)
  refine zVsim zchk_ok (bad := 283) c262_ok C n 0 _ [] (zh0 L xs) s.heap [] _ 0 0 (zUn_V _ _ _ _ _ k) F (by rw [el]; omega) ⟨Nat.zero_le _, Nat.zero_le _⟩ (fun pc1 ls1 st1 h1 k1 => ?_) (fun pc1 ls1 st1 h1 H1 locs1 lsr1 k1 hle F1 => ?_)
  · obtain ⟨-, -, -, -, n1, s1, -⟩ := k1
    refine ⟨Nat.le_trans (m := 200) ?_ (Nat.le_of_ble_eq_true rfl), Nat.le_trans (m := 60000) ?_ (Nat.le_of_ble_eq_true rfl)⟩
    · show 0 + (nx h1 - 2) ≤ 200
      omega
    · show 0 + (sc h1 - 0) ≤ 60000
      omega
  · obtain ⟨rfl, rfl, rfl, c1, n1, s1, l1⟩ := k1
    have n2 : 0 + (nx h1 - nx (zh0 L xs)) ≤ 200 := by show 0 + (nx h1 - 2) ≤ 200; omega
    have s2 : 0 + (sc h1 - sc (zh0 L xs)) ≤ 60000 := by show 0 + (sc h1 - 0) ≤ 60000; omega
    have l2 : Int.ofNat (ln h1 1) ≤ 2560 := by
      rw [l1, el]
      show ((L : Nat) : Int) ≤ 2560
      omega
    refine zloop (base := s.heap.size) zchk_ok hl C hXf ⟨Nat.le_of_ble_eq_true rfl, Nat.le_of_ble_eq_true rfl⟩ ⟨Nat.le_of_ble_eq_true rfl, Nat.le_of_ble_eq_true rfl⟩ (fun H2 locs2 lsr2 cells2 slots2 hc2 hs2 hl2 => ?_) 512 0 vU vU h1 H1 locs1 lsr1 _ _ c1 F1 (by omega) l2 (by omega) (by omega) (by omega)
    refine va_forget hl2 (W.widen (k := 601024) (n := 7293034) (by omega) (by omega) ?_)
    refine lv_iconst (cc := code) (n := 1) (v := 1) hx hb (by decide +kernel) (by decide) ?_
    exact lw_ret hx hb hr hlocks (by decide +kernel)
