/-! law.node: the call that may throw. What lies by for a throw. -/
abbrev zNS : String := "java/util/NoSuchElementException"
abbrev zNn : List String := ["java/lang/RuntimeException", "java/lang/Exception"]
def zNat : List Cond := vx_at0 "SyntaxRules" 133 zNS zNn
def zNk (w : Cond) : Bool := match w with
  | .castable _ _ => true
  | .declares _ => true
  | _ => false
set_option maxRecDepth 1000000 in
theorem zNat_in : zNat.all (fun w => decide (w ∈ lw_tbl)) = true := by decide +kernel
set_option maxRecDepth 1000000 in
theorem zNat_gd : zNat.all (fun w => goodWord w || zNk w) = true := by decide +kernel
set_option maxRecDepth 1000000 in
theorem zNat_ot : (Cond.classLink "SyntaxRules" 131 zNS :: Cond.initialized zNS :: zNat).all vx_ot = true := by decide +kernel
theorem zNat_w : ∀ w ∈ zNat, w ∈ lw_tbl := fun w hw => of_decide_eq_true (List.all_eq_true.mp zNat_in w hw)
theorem zNk_on {w : Cond} (h : zNk w = true) : w.onTables = true := by
  cases w <;> first | rfl | cases h
theorem zNk_wm {w : Cond} (h : zNk w = true) {s U : State} (hW : s.WarmedH U.vm) (k : va_Nw w s) : va_Nw w U := by
  cases w <;> first | exact va_Nw.warmC hW k | exact va_Nw.warmD hW k | cases h
def zXf (base : Nat) (U : State) : Prop := vx_Zq Bundle.tN "UNASSIGNED_STACK" Bundle.steD (fun q => base ≤ q) U U.heap ∧ vx_Zq Bundle.tN "SUPPRESSED_SENTINEL" Bundle.listD (fun q => base ≤ q) U U.heap ∧ (∀ w ∈ lw_tbl, zNk w = true → va_Nw w U)
section ZX
variable {p : Program} {l : Launch} {e : Env} {R : Room} {s : State} {m : MethodId} {args : Array Value} {below : List Frame} {meth : Method} {c : Code} {H : Heap} {locs : List Loc} {cells slots : Nat} {Q : State → Prop}
variable {b base : Nat} {D : va_G} {h h1 : zH} {lsr : Array Slot}
/-- since the method's start nothing below has changed -/
theorem zWS {g : JFrame} (hl : ∀ q ∈ locs, base ≤ q.base) (k : va_S (fun q => base ≤ q) s.heap H locs → W p l e R s m args below meth c H locs cells slots Q g) : W p l e R s m args below meth c H locs cells slots Q g := by
  intro T hT X
  refine k ?_ T hT X
  obtain ⟨f1, f2⟩ := vx_frame (U := T) X.same
  rw [hT] at f1 f2
  exact ⟨f1, fun q hq hn => f2 q hq (fun z hz e => hn (by rw [← e]; exact hl z hz)), hl⟩
theorem zXf.to {U : State} (x : zXf base s) (hS : va_S (fun q => base ≤ q) s.heap H locs) (hU : U.heap = H) (hW : s.WarmedH U.vm) : zXf base U := by
  obtain ⟨x1, x2, x3⟩ := x
  refine ⟨?_, ?_, fun w hw hk => zNk_wm hk hW (x3 w hw hk)⟩
  · rw [hU]; exact vx_Zq.moved hW.alike (x1.kept hS.2.1)
  · rw [hU]; exact vx_Zq.moved hW.alike (x2.kept hS.2.1)
theorem zXf.call {U : State} {g : JFrame} {mk : MethodId} {a : Array Value} (x : zXf base U) : zXf base (U.calling g mk a) := by
  obtain ⟨x1, x2, x3⟩ := x
  exact ⟨vx_Zq.moved (u := U) (U := U.calling g mk a) (Vm.Alike.refl U.vm) x1, vx_Zq.moved (u := U) (U := U.calling g mk a) (Vm.Alike.refl U.vm) x2, fun w hw hk => va_Nw.same (zNk_on hk) (u := U) (U := U.calling g mk a) rfl (x3 w hw hk)⟩
theorem zRel.gr {H1 H2 : Heap} (hR : zRel b base D s h H1) (hs1 : H1.size ≤ H2.size) (hs2 : ∀ q, q < H1.size → H2[q]? = H1[q]?) (hz : H2.size ≤ H1.size + 1) : zRel b base D s h H2 ∨ zRel b base D s (nw h 50 6) H2 := by
  by_cases c : H2.size = H1.size
  · left
    have e : H2 = H1 := by
      refine Array.ext_getElem? (fun i => ?_)
      by_cases d : i < H1.size
      · exact hs2 i d
      · rw [Array.getElem?_eq_none (by omega), Array.getElem?_eq_none (by omega)]
    rw [e]; exact hR
  · right
    refine hR.wN (by omega) (by omega) hs2 ⟨fun z => ?_, fun ty z => ?_, fun C z => ?_⟩
    · rw [tgN, if_pos rfl] at z; omega
    · rw [tgN, if_pos rfl] at z; cases z
    · rw [tgN, if_pos rfl] at z; cases z
def zXC (b base : Nat) (D : va_G) (h : zH) : String → State → State → Prop := fun E _ t => E = zNS ∧ ∃ H1, zRel b base D t h H1 ∧ H1.size ≤ t.heap.size ∧ ∀ q, q < H1.size → t.heap[q]? = H1[q]?
def zP6 (b base : Nat) (D : va_G) (as1 : List zV) (h : zH) : Array Value → State → Prop := fun a U => zPc b base D as1 h a U ∧ zXf base U
theorem zP6_blind {as1 : List zV} : FrameBlind (zP6 b base D as1 h) := fun a U g mk q => ⟨zPc_blind a U g mk q.1, zXf.call q.2⟩
def zR6 : Room := { frames := 8, cells := 1, slots := 6, locals := 200 }
set_option maxRecDepth 1000000 in
/-- node throws -/
theorem z6 (hck : ∀ y ∈ zcal, ∀ e1 ∈ zPR y, zchk y e1 = true) (hl : l.stackTraces = false) {i q : Int} (hi : inR i) (hq : inR q) (t2 : zty 100 2 h) (hln : ln h 1 < 2 ^ 31) (hv : zC1 30 [vR 2 100, vI i] h (fun v h1 => v = 0 ∧ h1 = h)) : vx_Met l (zNm 6) (zwsl 6) zR6 (zP6 b base D [vR 2 100, vI i, vI q] h) (fun _ _ _ _ => False) (zXC b base D h) 1 6 (fun q => base ≤ q) := by
  have hcal : (6 : Nat) ∈ zcal := by decide +kernel
  obtain ⟨m1, m2, m3⟩ := zMb_at hcal
  refine vx_ofW (cc := zB 6) (maxL := zLM 6) (ret := zRt 6) m3 rfl ?_
  intro p e s m args below meth c s₁ B hml hex hv1
  obtain ⟨⟨rfl, hR, hN⟩, hX⟩ := hv1
  have hts := atoms_spec (ws := zwsl 6) B.pre
  have hown : s.vm.findClass (zNm 6).cls = some m.cls := findClass_of_methodNamed B.named
  rw [m1] at hown
  have hin : meth.name = (zNm 6).name := (name_of_methodNamed B.named B.method).1
  have hz : ∀ w ∈ zwd, w.before (([vR 2 100, vI i, vI q].map (zrv b base)).toArray) s = true := fun w hw => hts w (List.mem_cons_of_mem _ hw)
  have C : zctx 6 p (headSpec (zwsl 6) zR6).room s m (([vR 2 100, vI i, vI q].map (zrv b base)).toArray) meth c := ⟨B.exec, B.bytes, B.returns, hml, hown, hz, B.notSynchronized, hN, fun z => hin.trans z, Nat.le_of_ble_eq_true rfl, Nat.le_of_ble_eq_true rfl⟩
  have F := zentry (y1 := 6) (as1 := [vR 2 100, vI i, vI q]) hR (List.forall_mem_cons.mpr ⟨⟨Or.inr ⟨Or.inl (by decide), t2⟩, rfl⟩, List.forall_mem_cons.mpr ⟨⟨hi, rfl⟩, List.forall_mem_cons.mpr ⟨⟨hq, rfl⟩, fun _ z => absurd z List.not_mem_nil⟩⟩⟩) (Nat.le_of_ble_eq_true rfl) (fun _ => List.forall_mem_cons.mpr ⟨rfl, List.forall_mem_cons.mpr ⟨rfl, List.forall_mem_cons.mpr ⟨rfl, fun _ z => absurd z List.not_mem_nil⟩⟩⟩)
  rw [lg_entry_eq]
  obtain ⟨n, k⟩ := q6 i q h (fun pc ls st h1 => pc = 8 ∧ st = [] ∧ h1 = h) (zC1_mo hv (fun v h1 e => ⟨fun z => absurd e.1 z, fun _ => zU_k ⟨rfl, rfl, e.2⟩⟩))
  refine zVsim hck (cd := zPR 6) (bad := 8) (fun e1 he _ => hck 6 hcal e1 he) C n 0 _ [] h s.heap [] _ 0 0 (zUn_V _ _ _ _ _ k) F hln ⟨Nat.zero_le _, Nat.zero_le _⟩ (fun pc1 ls1 st1 h1 k1 => ?_) (fun pc1 ls1 st1 h1 H1 locs1 lsr1 k1 hle F1 => ?_)
  · obtain ⟨-, -, rfl⟩ := k1
    rw [Nat.sub_self, Nat.sub_self]
    exact ⟨Nat.zero_le _, Nat.zero_le _⟩
  · obtain ⟨rfl, rfl, rfl⟩ := k1
    rw [Nat.sub_self, Nat.sub_self]
    refine zWS (base := base) F1.2.1 (fun hS => ?_)
    refine vx_throw0 (cc := zB 6) (pc := 8) (own := "SyntaxRules") (cls := zNS) (names := zNn) (ik := 131) (ic := 133) (A := fun q => base ≤ q) B.exec B.bytes hl hown (by decide +kernel) (by decide +kernel) (hz _ (zwd_mem (i := 1101) (by decide +kernel) (by decide +kernel))) (hz _ (zwd_mem (i := 17) (by decide +kernel) (by decide +kernel))) (fun w hw => ?_) (fun w hw => List.all_eq_true.mp zNat_ot w hw) hX.1 hX.2.1 hS (by rw [hml]; exact F1.2.2.2.1.1) (by decide +kernel) (by decide +kernel) (by decide +kernel) (by decide +kernel) (fun x hx => (hex x hx).elim) (Nat.le_of_ble_eq_true rfl) (Nat.le_of_ble_eq_true rfl) (Nat.le_of_ble_eq_true rfl) (Nat.le_of_ble_eq_true rfl) B.notSynchronized (fun t hal hsz hold => ⟨rfl, H1, F1.1.moved hal, hsz, hold⟩) F1.2.1 (Nat.le_of_ble_eq_true rfl) (Nat.le_of_ble_eq_true rfl)
    have g := List.all_eq_true.mp zNat_gd w hw
    rw [Bool.or_eq_true] at g
    rcases g with g | g
    · exact hz w (List.mem_filter.mpr ⟨zNat_w w hw, g⟩)
    · exact va_Nw.use (zNk_on g) (hX.2.2 w (zNat_w w hw) g)
end ZX
